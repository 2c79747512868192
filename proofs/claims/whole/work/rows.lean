section
-- ===== PART A: goes FIRST, ahead of the names: the tables' words, and 'selects' of the private methods out of them =====
/-- a private method of a class that the tables say can be made, by its rows of tables_1 -/
def lw_okq (q : MethodName × Nat) : Prop := (q.1.cls ≠ "java/lang/invoke/MethodHandle" ∧ q.1.cls ≠ "java/lang/invoke/VarHandle") ∧ Cond.instantiable q.1.cls q.2 ∈ tables_1 ∧ Cond.privateMethod q.1 ∈ tables_1 ∧ Cond.instanceMethod q.1 ∈ tables_1
theorem lw_p0 : lw_okq (⟨"CacheLevels$Bank", "isSlot", "(I)Z"⟩, 7) := ⟨⟨by decide +kernel, by decide +kernel⟩, List.mem_of_getElem? (i := 23) (by decide +kernel), List.mem_of_getElem? (i := 128) (by decide +kernel), List.mem_of_getElem? (i := 129) (by decide +kernel)⟩
theorem lw_p1 : lw_okq (⟨"CacheLevels", "writtenInFirst", "(I)I"⟩, 10) := ⟨⟨by decide +kernel, by decide +kernel⟩, List.mem_of_getElem? (i := 12) (by decide +kernel), List.mem_of_getElem? (i := 136) (by decide +kernel), List.mem_of_getElem? (i := 137) (by decide +kernel)⟩
theorem lw_p2 : lw_okq (⟨"CacheLevels$Versions", "indexOf", "(I)I"⟩, 5) := ⟨⟨by decide +kernel, by decide +kernel⟩, List.mem_of_getElem? (i := 58) (by decide +kernel), List.mem_of_getElem? (i := 162) (by decide +kernel), List.mem_of_getElem? (i := 163) (by decide +kernel)⟩
theorem lw_p3 : lw_okq (⟨"CacheLevels", "requireCore", "(I)V"⟩, 10) := ⟨⟨by decide +kernel, by decide +kernel⟩, List.mem_of_getElem? (i := 12) (by decide +kernel), List.mem_of_getElem? (i := 210) (by decide +kernel), List.mem_of_getElem? (i := 211) (by decide +kernel)⟩
theorem lw_p4 : lw_okq (⟨"java/lang/Throwable", "fillInStackTrace", "(I)Ljava/lang/Throwable;"⟩, 6) := ⟨⟨by decide +kernel, by decide +kernel⟩, List.mem_of_getElem? (i := 251) (by decide +kernel), List.mem_of_getElem? (i := 249) (by decide +kernel), List.mem_of_getElem? (i := 250) (by decide +kernel)⟩
theorem lw_p5 : lw_okq (⟨"CacheLevels", "tally", "(II)V"⟩, 10) := ⟨⟨by decide +kernel, by decide +kernel⟩, List.mem_of_getElem? (i := 12) (by decide +kernel), List.mem_of_getElem? (i := 297) (by decide +kernel), List.mem_of_getElem? (i := 298) (by decide +kernel)⟩
theorem lw_p6 : lw_okq (⟨"CacheLevels$Bank", "swap", "(II)V"⟩, 7) := ⟨⟨by decide +kernel, by decide +kernel⟩, List.mem_of_getElem? (i := 23) (by decide +kernel), List.mem_of_getElem? (i := 305) (by decide +kernel), List.mem_of_getElem? (i := 306) (by decide +kernel)⟩
theorem lw_p7 : lw_okq (⟨"CacheLevels", "handOver", "(I)V"⟩, 10) := ⟨⟨by decide +kernel, by decide +kernel⟩, List.mem_of_getElem? (i := 12) (by decide +kernel), List.mem_of_getElem? (i := 309) (by decide +kernel), List.mem_of_getElem? (i := 310) (by decide +kernel)⟩
theorem lw_p8 : lw_okq (⟨"CacheLevels", "writeDown", "(II)V"⟩, 10) := ⟨⟨by decide +kernel, by decide +kernel⟩, List.mem_of_getElem? (i := 12) (by decide +kernel), List.mem_of_getElem? (i := 317) (by decide +kernel), List.mem_of_getElem? (i := 318) (by decide +kernel)⟩
theorem lw_p9 : lw_okq (⟨"CacheLevels", "bring", "(II)I"⟩, 10) := ⟨⟨by decide +kernel, by decide +kernel⟩, List.mem_of_getElem? (i := 12) (by decide +kernel), List.mem_of_getElem? (i := 325) (by decide +kernel), List.mem_of_getElem? (i := 326) (by decide +kernel)⟩
theorem lw_p10 : lw_okq (⟨"CacheLevels", "passesBy", "(I)Z"⟩, 10) := ⟨⟨by decide +kernel, by decide +kernel⟩, List.mem_of_getElem? (i := 12) (by decide +kernel), List.mem_of_getElem? (i := 329) (by decide +kernel), List.mem_of_getElem? (i := 330) (by decide +kernel)⟩
theorem lw_p11 : lw_okq (⟨"CacheLevels", "comeIntoSecond", "(IIIZ)V"⟩, 10) := ⟨⟨by decide +kernel, by decide +kernel⟩, List.mem_of_getElem? (i := 12) (by decide +kernel), List.mem_of_getElem? (i := 333) (by decide +kernel), List.mem_of_getElem? (i := 334) (by decide +kernel)⟩
theorem lw_p12 : lw_okq (⟨"CacheLevels", "leaveSecond", "(I)V"⟩, 10) := ⟨⟨by decide +kernel, by decide +kernel⟩, List.mem_of_getElem? (i := 12) (by decide +kernel), List.mem_of_getElem? (i := 347) (by decide +kernel), List.mem_of_getElem? (i := 348) (by decide +kernel)⟩
theorem lw_p13 : lw_okq (⟨"CacheLevels", "makeRoomInFirst", "(II)V"⟩, 10) := ⟨⟨by decide +kernel, by decide +kernel⟩, List.mem_of_getElem? (i := 12) (by decide +kernel), List.mem_of_getElem? (i := 371) (by decide +kernel), List.mem_of_getElem? (i := 372) (by decide +kernel)⟩
theorem lw_p14 : lw_okq (⟨"CacheLevels", "write", "(II)V"⟩, 10) := ⟨⟨by decide +kernel, by decide +kernel⟩, List.mem_of_getElem? (i := 12) (by decide +kernel), List.mem_of_getElem? (i := 376) (by decide +kernel), List.mem_of_getElem? (i := 377) (by decide +kernel)⟩
theorem lw_p15 : lw_okq (⟨"CacheLevels", "requireCoreOrNone", "(I)V"⟩, 10) := ⟨⟨by decide +kernel, by decide +kernel⟩, List.mem_of_getElem? (i := 12) (by decide +kernel), List.mem_of_getElem? (i := 399) (by decide +kernel), List.mem_of_getElem? (i := 400) (by decide +kernel)⟩
def lw_privs_1 : List (MethodName × Nat) := [(⟨"CacheLevels$Bank", "isSlot", "(I)Z"⟩, 7), (⟨"CacheLevels", "writtenInFirst", "(I)I"⟩, 10), (⟨"CacheLevels$Versions", "indexOf", "(I)I"⟩, 5), (⟨"CacheLevels", "requireCore", "(I)V"⟩, 10), (⟨"java/lang/Throwable", "fillInStackTrace", "(I)Ljava/lang/Throwable;"⟩, 6), (⟨"CacheLevels", "tally", "(II)V"⟩, 10), (⟨"CacheLevels$Bank", "swap", "(II)V"⟩, 7), (⟨"CacheLevels", "handOver", "(I)V"⟩, 10), (⟨"CacheLevels", "writeDown", "(II)V"⟩, 10), (⟨"CacheLevels", "bring", "(II)I"⟩, 10), (⟨"CacheLevels", "passesBy", "(I)Z"⟩, 10), (⟨"CacheLevels", "comeIntoSecond", "(IIIZ)V"⟩, 10), (⟨"CacheLevels", "leaveSecond", "(I)V"⟩, 10), (⟨"CacheLevels", "makeRoomInFirst", "(II)V"⟩, 10), (⟨"CacheLevels", "write", "(II)V"⟩, 10), (⟨"CacheLevels", "requireCoreOrNone", "(I)V"⟩, 10)]
theorem lw_r1 : ∀ q ∈ lw_privs_1, lw_okq q := List.forall_mem_cons.mpr ⟨lw_p0, List.forall_mem_cons.mpr ⟨lw_p1, List.forall_mem_cons.mpr ⟨lw_p2, List.forall_mem_cons.mpr ⟨lw_p3, List.forall_mem_cons.mpr ⟨lw_p4, List.forall_mem_cons.mpr ⟨lw_p5, List.forall_mem_cons.mpr ⟨lw_p6, List.forall_mem_cons.mpr ⟨lw_p7, List.forall_mem_cons.mpr ⟨lw_p8, List.forall_mem_cons.mpr ⟨lw_p9, List.forall_mem_cons.mpr ⟨lw_p10, List.forall_mem_cons.mpr ⟨lw_p11, List.forall_mem_cons.mpr ⟨lw_p12, List.forall_mem_cons.mpr ⟨lw_p13, List.forall_mem_cons.mpr ⟨lw_p14, List.forall_mem_cons.mpr ⟨lw_p15, fun _ h => absurd h List.not_mem_nil⟩⟩⟩⟩⟩⟩⟩⟩⟩⟩⟩⟩⟩⟩⟩⟩
theorem lw_p16 : lw_okq (⟨"CacheLevels", "bankOf", "(I)LCacheLevels$Bank;"⟩, 10) := ⟨⟨by decide +kernel, by decide +kernel⟩, List.mem_of_getElem? (i := 12) (by decide +kernel), List.mem_of_getElem? (i := 403) (by decide +kernel), List.mem_of_getElem? (i := 404) (by decide +kernel)⟩
theorem lw_p17 : lw_okq (⟨"CacheLevelsModel", "isCore", "(I)Z"⟩, 20) := ⟨⟨by decide +kernel, by decide +kernel⟩, List.mem_of_getElem? (i := 440) (by decide +kernel), List.mem_of_getElem? (i := 518) (by decide +kernel), List.mem_of_getElem? (i := 519) (by decide +kernel)⟩
theorem lw_p18 : lw_okq (⟨"CacheLevelsModel", "fail", "(I)I"⟩, 20) := ⟨⟨by decide +kernel, by decide +kernel⟩, List.mem_of_getElem? (i := 440) (by decide +kernel), List.mem_of_getElem? (i := 525) (by decide +kernel), List.mem_of_getElem? (i := 526) (by decide +kernel)⟩
theorem lw_p19 : lw_okq (⟨"CacheLevelsModel", "at", "(II)I"⟩, 20) := ⟨⟨by decide +kernel, by decide +kernel⟩, List.mem_of_getElem? (i := 440) (by decide +kernel), List.mem_of_getElem? (i := 529) (by decide +kernel), List.mem_of_getElem? (i := 530) (by decide +kernel)⟩
theorem lw_p20 : lw_okq (⟨"CacheLevelsModel", "bring", "(II)I"⟩, 20) := ⟨⟨by decide +kernel, by decide +kernel⟩, List.mem_of_getElem? (i := 440) (by decide +kernel), List.mem_of_getElem? (i := 533) (by decide +kernel), List.mem_of_getElem? (i := 534) (by decide +kernel)⟩
theorem lw_p21 : lw_okq (⟨"CacheLevelsModel", "handOver", "(II)V"⟩, 20) := ⟨⟨by decide +kernel, by decide +kernel⟩, List.mem_of_getElem? (i := 440) (by decide +kernel), List.mem_of_getElem? (i := 537) (by decide +kernel), List.mem_of_getElem? (i := 538) (by decide +kernel)⟩
theorem lw_p22 : lw_okq (⟨"CacheLevelsModel", "goDown", "(II)V"⟩, 20) := ⟨⟨by decide +kernel, by decide +kernel⟩, List.mem_of_getElem? (i := 440) (by decide +kernel), List.mem_of_getElem? (i := 541) (by decide +kernel), List.mem_of_getElem? (i := 542) (by decide +kernel)⟩
theorem lw_p23 : lw_okq (⟨"CacheLevelsModel", "toMemory", "(II)V"⟩, 20) := ⟨⟨by decide +kernel, by decide +kernel⟩, List.mem_of_getElem? (i := 440) (by decide +kernel), List.mem_of_getElem? (i := 545) (by decide +kernel), List.mem_of_getElem? (i := 546) (by decide +kernel)⟩
theorem lw_p24 : lw_okq (⟨"CacheLevelsModel", "learn", "(I)I"⟩, 20) := ⟨⟨by decide +kernel, by decide +kernel⟩, List.mem_of_getElem? (i := 440) (by decide +kernel), List.mem_of_getElem? (i := 549) (by decide +kernel), List.mem_of_getElem? (i := 550) (by decide +kernel)⟩
theorem lw_p25 : lw_okq (⟨"CacheLevelsModel", "find", "(I)I"⟩, 20) := ⟨⟨by decide +kernel, by decide +kernel⟩, List.mem_of_getElem? (i := 440) (by decide +kernel), List.mem_of_getElem? (i := 553) (by decide +kernel), List.mem_of_getElem? (i := 554) (by decide +kernel)⟩
theorem lw_p26 : lw_okq (⟨"CacheLevelsModel", "takeOut", "(II)V"⟩, 20) := ⟨⟨by decide +kernel, by decide +kernel⟩, List.mem_of_getElem? (i := 440) (by decide +kernel), List.mem_of_getElem? (i := 557) (by decide +kernel), List.mem_of_getElem? (i := 558) (by decide +kernel)⟩
theorem lw_p27 : lw_okq (⟨"CacheLevelsModel", "copy", "(II)V"⟩, 20) := ⟨⟨by decide +kernel, by decide +kernel⟩, List.mem_of_getElem? (i := 440) (by decide +kernel), List.mem_of_getElem? (i := 561) (by decide +kernel), List.mem_of_getElem? (i := 562) (by decide +kernel)⟩
theorem lw_p28 : lw_okq (⟨"CacheLevelsModel", "use", "(II)V"⟩, 20) := ⟨⟨by decide +kernel, by decide +kernel⟩, List.mem_of_getElem? (i := 440) (by decide +kernel), List.mem_of_getElem? (i := 565) (by decide +kernel), List.mem_of_getElem? (i := 566) (by decide +kernel)⟩
theorem lw_p29 : lw_okq (⟨"CacheLevelsModel", "putFirst", "(IIZII)V"⟩, 20) := ⟨⟨by decide +kernel, by decide +kernel⟩, List.mem_of_getElem? (i := 440) (by decide +kernel), List.mem_of_getElem? (i := 569) (by decide +kernel), List.mem_of_getElem? (i := 570) (by decide +kernel)⟩
theorem lw_p30 : lw_okq (⟨"CacheLevelsModel", "comeToFirst", "(IIZI)V"⟩, 20) := ⟨⟨by decide +kernel, by decide +kernel⟩, List.mem_of_getElem? (i := 440) (by decide +kernel), List.mem_of_getElem? (i := 573) (by decide +kernel), List.mem_of_getElem? (i := 574) (by decide +kernel)⟩
theorem lw_p31 : lw_okq (⟨"CacheLevelsModel", "setOf", "(II)I"⟩, 20) := ⟨⟨by decide +kernel, by decide +kernel⟩, List.mem_of_getElem? (i := 440) (by decide +kernel), List.mem_of_getElem? (i := 577) (by decide +kernel), List.mem_of_getElem? (i := 578) (by decide +kernel)⟩
def lw_privs_2 : List (MethodName × Nat) := [(⟨"CacheLevels", "bankOf", "(I)LCacheLevels$Bank;"⟩, 10), (⟨"CacheLevelsModel", "isCore", "(I)Z"⟩, 20), (⟨"CacheLevelsModel", "fail", "(I)I"⟩, 20), (⟨"CacheLevelsModel", "at", "(II)I"⟩, 20), (⟨"CacheLevelsModel", "bring", "(II)I"⟩, 20), (⟨"CacheLevelsModel", "handOver", "(II)V"⟩, 20), (⟨"CacheLevelsModel", "goDown", "(II)V"⟩, 20), (⟨"CacheLevelsModel", "toMemory", "(II)V"⟩, 20), (⟨"CacheLevelsModel", "learn", "(I)I"⟩, 20), (⟨"CacheLevelsModel", "find", "(I)I"⟩, 20), (⟨"CacheLevelsModel", "takeOut", "(II)V"⟩, 20), (⟨"CacheLevelsModel", "copy", "(II)V"⟩, 20), (⟨"CacheLevelsModel", "use", "(II)V"⟩, 20), (⟨"CacheLevelsModel", "putFirst", "(IIZII)V"⟩, 20), (⟨"CacheLevelsModel", "comeToFirst", "(IIZI)V"⟩, 20), (⟨"CacheLevelsModel", "setOf", "(II)I"⟩, 20)]
theorem lw_r2 : ∀ q ∈ lw_privs_2, lw_okq q := List.forall_mem_cons.mpr ⟨lw_p16, List.forall_mem_cons.mpr ⟨lw_p17, List.forall_mem_cons.mpr ⟨lw_p18, List.forall_mem_cons.mpr ⟨lw_p19, List.forall_mem_cons.mpr ⟨lw_p20, List.forall_mem_cons.mpr ⟨lw_p21, List.forall_mem_cons.mpr ⟨lw_p22, List.forall_mem_cons.mpr ⟨lw_p23, List.forall_mem_cons.mpr ⟨lw_p24, List.forall_mem_cons.mpr ⟨lw_p25, List.forall_mem_cons.mpr ⟨lw_p26, List.forall_mem_cons.mpr ⟨lw_p27, List.forall_mem_cons.mpr ⟨lw_p28, List.forall_mem_cons.mpr ⟨lw_p29, List.forall_mem_cons.mpr ⟨lw_p30, List.forall_mem_cons.mpr ⟨lw_p31, fun _ h => absurd h List.not_mem_nil⟩⟩⟩⟩⟩⟩⟩⟩⟩⟩⟩⟩⟩⟩⟩⟩
theorem lw_p32 : lw_okq (⟨"CacheLevelsModel", "sets", "(I)I"⟩, 20) := ⟨⟨by decide +kernel, by decide +kernel⟩, List.mem_of_getElem? (i := 440) (by decide +kernel), List.mem_of_getElem? (i := 581) (by decide +kernel), List.mem_of_getElem? (i := 582) (by decide +kernel)⟩
theorem lw_p33 : lw_okq (⟨"CacheLevelsModel", "oldest", "(IIII)I"⟩, 20) := ⟨⟨by decide +kernel, by decide +kernel⟩, List.mem_of_getElem? (i := 440) (by decide +kernel), List.mem_of_getElem? (i := 585) (by decide +kernel), List.mem_of_getElem? (i := 586) (by decide +kernel)⟩
theorem lw_p34 : lw_okq (⟨"CacheLevelsModel", "passes", "(I)Z"⟩, 20) := ⟨⟨by decide +kernel, by decide +kernel⟩, List.mem_of_getElem? (i := 440) (by decide +kernel), List.mem_of_getElem? (i := 589) (by decide +kernel), List.mem_of_getElem? (i := 590) (by decide +kernel)⟩
theorem lw_p35 : lw_okq (⟨"CacheLevelsModel", "isOneOf", "(II)Z"⟩, 20) := ⟨⟨by decide +kernel, by decide +kernel⟩, List.mem_of_getElem? (i := 440) (by decide +kernel), List.mem_of_getElem? (i := 593) (by decide +kernel), List.mem_of_getElem? (i := 594) (by decide +kernel)⟩
theorem lw_p36 : lw_okq (⟨"CacheLevelsModel", "comeToSecond", "(IIZI)V"⟩, 20) := ⟨⟨by decide +kernel, by decide +kernel⟩, List.mem_of_getElem? (i := 440) (by decide +kernel), List.mem_of_getElem? (i := 597) (by decide +kernel), List.mem_of_getElem? (i := 598) (by decide +kernel)⟩
theorem lw_p37 : lw_okq (⟨"CacheLevelsModel", "leaveSecond", "(I)V"⟩, 20) := ⟨⟨by decide +kernel, by decide +kernel⟩, List.mem_of_getElem? (i := 440) (by decide +kernel), List.mem_of_getElem? (i := 601) (by decide +kernel), List.mem_of_getElem? (i := 602) (by decide +kernel)⟩
theorem lw_p38 : lw_okq (⟨"CacheLevelsModel", "memoryOf", "(I)I"⟩, 20) := ⟨⟨by decide +kernel, by decide +kernel⟩, List.mem_of_getElem? (i := 440) (by decide +kernel), List.mem_of_getElem? (i := 605) (by decide +kernel), List.mem_of_getElem? (i := 606) (by decide +kernel)⟩
theorem lw_p39 : lw_okq (⟨"CacheLevelsModel", "othersLose", "(II)V"⟩, 20) := ⟨⟨by decide +kernel, by decide +kernel⟩, List.mem_of_getElem? (i := 440) (by decide +kernel), List.mem_of_getElem? (i := 609) (by decide +kernel), List.mem_of_getElem? (i := 610) (by decide +kernel)⟩
theorem lw_p40 : lw_okq (⟨"CacheLevelsModel", "isWrittenInFirst", "(I)Z"⟩, 20) := ⟨⟨by decide +kernel, by decide +kernel⟩, List.mem_of_getElem? (i := 440) (by decide +kernel), List.mem_of_getElem? (i := 625) (by decide +kernel), List.mem_of_getElem? (i := 626) (by decide +kernel)⟩
theorem lw_p41 : lw_okq (⟨"CacheLevelsModel", "cacheOf", "(I)I"⟩, 20) := ⟨⟨by decide +kernel, by decide +kernel⟩, List.mem_of_getElem? (i := 440) (by decide +kernel), List.mem_of_getElem? (i := 633) (by decide +kernel), List.mem_of_getElem? (i := 634) (by decide +kernel)⟩
def lw_privs_3 : List (MethodName × Nat) := [(⟨"CacheLevelsModel", "sets", "(I)I"⟩, 20), (⟨"CacheLevelsModel", "oldest", "(IIII)I"⟩, 20), (⟨"CacheLevelsModel", "passes", "(I)Z"⟩, 20), (⟨"CacheLevelsModel", "isOneOf", "(II)Z"⟩, 20), (⟨"CacheLevelsModel", "comeToSecond", "(IIZI)V"⟩, 20), (⟨"CacheLevelsModel", "leaveSecond", "(I)V"⟩, 20), (⟨"CacheLevelsModel", "memoryOf", "(I)I"⟩, 20), (⟨"CacheLevelsModel", "othersLose", "(II)V"⟩, 20), (⟨"CacheLevelsModel", "isWrittenInFirst", "(I)Z"⟩, 20), (⟨"CacheLevelsModel", "cacheOf", "(I)I"⟩, 20)]
theorem lw_r3 : ∀ q ∈ lw_privs_3, lw_okq q := List.forall_mem_cons.mpr ⟨lw_p32, List.forall_mem_cons.mpr ⟨lw_p33, List.forall_mem_cons.mpr ⟨lw_p34, List.forall_mem_cons.mpr ⟨lw_p35, List.forall_mem_cons.mpr ⟨lw_p36, List.forall_mem_cons.mpr ⟨lw_p37, List.forall_mem_cons.mpr ⟨lw_p38, List.forall_mem_cons.mpr ⟨lw_p39, List.forall_mem_cons.mpr ⟨lw_p40, List.forall_mem_cons.mpr ⟨lw_p41, fun _ h => absurd h List.not_mem_nil⟩⟩⟩⟩⟩⟩⟩⟩⟩⟩
def lw_privs : List (MethodName × Nat) := lw_privs_1 ++ (lw_privs_2 ++ (lw_privs_3))
def lw_tbl : List Cond := k2_sels lw_privs ++ tables_1
theorem lw_privs_ok : ∀ q ∈ lw_privs, lw_okq q := by
  show ∀ q ∈ lw_privs_1 ++ (lw_privs_2 ++ (lw_privs_3)), lw_okq q
  exact List.forall_mem_append.mpr ⟨lw_r1, List.forall_mem_append.mpr ⟨lw_r2, lw_r3⟩⟩
def tbW : List Cond := lw_tbl.filter goodWord
theorem tbW_good : ∀ w ∈ tbW, goodWord w = true := fun _ h => (List.mem_filter.mp h).2
theorem tbW_tbl : ∀ w ∈ tbW, w ∈ lw_tbl := fun _ h => (List.mem_filter.mp h).1
theorem tw {w : Cond} (i : Nat) (h : tables_1[i]? = some w) (hg : goodWord w = true) : w ∈ tbW := List.mem_filter.mpr ⟨List.mem_append_right _ (List.mem_of_getElem? h), hg⟩
theorem tp {w : Cond} (i : Nat) (h : (k2_sels lw_privs)[i]? = some w) (hg : goodWord w = true) : w ∈ tbW := List.mem_filter.mpr ⟨List.mem_append_left _ (List.mem_of_getElem? h), hg⟩
def R_B : String := "CacheLevels$Bank"
def T_B : u_T := fun k => match k with
  | 0 => ("CacheLevels$Bank", "sets", "I", true)
  | 1 => ("CacheLevels$Bank", "ways", "I", true)
  | 2 => ("CacheLevels$Bank", "sizes", "[I", true)
  | 3 => ("CacheLevels$Bank", "lines", "[I", true)
  | 4 => ("CacheLevels$Bank", "versions", "[I", true)
  | 5 => ("CacheLevels$Bank", "owners", "[I", true)
  | _ => ("CacheLevels$Bank", "written", "[Z", true)
def ty_B : Nat → FieldType := fun k => match k with
  | 0 => .int
  | 1 => .int
  | 2 => .array .int
  | 3 => .array .int
  | 4 => .array .int
  | 5 => .array .int
  | _ => .array .boolean
theorem nm_B : ∀ a, a < 7 → ∀ b, b < 7 → a ≠ b → (T_B a).2.1 ≠ (T_B b).2.1 := by decide +kernel
theorem tyo_B : ∀ k, k < 7 → parseFieldDescriptor (T_B k).2.2.1 = some (ty_B k) := by decide +kernel
theorem i_B : ∀ w ∈ u_ws R_B T_B 7, w ∈ tbW := by decide +kernel
def R_V : String := "CacheLevels$Versions"
def T_V : u_T := fun k => match k with
  | 0 => ("CacheLevels$Versions", "writeBacks", "I", false)
  | 1 => ("CacheLevels$Versions", "size", "I", false)
  | 2 => ("CacheLevels$Versions", "lines", "[I", true)
  | 3 => ("CacheLevels$Versions", "newest", "[I", true)
  | _ => ("CacheLevels$Versions", "stored", "[I", true)
def ty_V : Nat → FieldType := fun k => match k with
  | 0 => .int
  | 1 => .int
  | 2 => .array .int
  | 3 => .array .int
  | _ => .array .int
theorem nm_V : ∀ a, a < 5 → ∀ b, b < 5 → a ≠ b → (T_V a).2.1 ≠ (T_V b).2.1 := by decide +kernel
theorem tyo_V : ∀ k, k < 5 → parseFieldDescriptor (T_V k).2.2.1 = some (ty_V k) := by decide +kernel
theorem i_V : ∀ w ∈ u_ws R_V T_V 5, w ∈ tbW := by decide +kernel
def R_C : String := "CacheLevels"
def T_C : u_T := fun k => match k with
  | 0 => ("CacheLevels", "cores", "I", true)
  | 1 => ("CacheLevels", "keeping", "I", true)
  | 2 => ("CacheLevels", "first", "LCacheLevels$Bank;", true)
  | 3 => ("CacheLevels", "second", "LCacheLevels$Bank;", true)
  | 4 => ("CacheLevels", "versions", "LCacheLevels$Versions;", true)
  | 5 => ("CacheLevels", "quotas", "[I", true)
  | 6 => ("CacheLevels", "tallies", "[I", true)
  | 7 => ("CacheLevels", "passFrom", "I", false)
  | 8 => ("CacheLevels", "passTo", "I", false)
  | _ => ("CacheLevels", "handedOver", "I", false)
def ty_C : Nat → FieldType := fun k => match k with
  | 0 => .int
  | 1 => .int
  | 2 => .object "CacheLevels$Bank"
  | 3 => .object "CacheLevels$Bank"
  | 4 => .object "CacheLevels$Versions"
  | 5 => .array .int
  | 6 => .array .int
  | 7 => .int
  | 8 => .int
  | _ => .int
theorem nm_C : ∀ a, a < 10 → ∀ b, b < 10 → a ≠ b → (T_C a).2.1 ≠ (T_C b).2.1 := by decide +kernel
theorem tyo_C : ∀ k, k < 10 → parseFieldDescriptor (T_C k).2.2.1 = some (ty_C k) := by decide +kernel
theorem i_C : ∀ w ∈ u_ws R_C T_C 10, w ∈ tbW := by decide +kernel
def R_M : String := "CacheLevelsModel"
def T_M : u_T := fun k => match k with
  | 0 => ("CacheLevelsModel", "thrown", "I", false)
  | 1 => ("CacheLevelsModel", "cores", "I", true)
  | 2 => ("CacheLevelsModel", "keep", "I", true)
  | 3 => ("CacheLevelsModel", "firstSets", "I", true)
  | 4 => ("CacheLevelsModel", "secondSets", "I", true)
  | 5 => ("CacheLevelsModel", "size", "[I", true)
  | 6 => ("CacheLevelsModel", "line", "[I", true)
  | 7 => ("CacheLevelsModel", "written", "[Z", true)
  | 8 => ("CacheLevelsModel", "version", "[I", true)
  | 9 => ("CacheLevelsModel", "owner", "[I", true)
  | 10 => ("CacheLevelsModel", "quota", "[I", true)
  | 11 => ("CacheLevelsModel", "from", "I", false)
  | 12 => ("CacheLevelsModel", "to", "I", false)
  | 13 => ("CacheLevelsModel", "known", "I", false)
  | 14 => ("CacheLevelsModel", "knownLine", "[I", true)
  | 15 => ("CacheLevelsModel", "latest", "[I", true)
  | 16 => ("CacheLevelsModel", "inMemory", "[I", true)
  | 17 => ("CacheLevelsModel", "counts", "[I", true)
  | 18 => ("CacheLevelsModel", "backs", "I", false)
  | _ => ("CacheLevelsModel", "handed", "I", false)
def ty_M : Nat → FieldType := fun k => match k with
  | 0 => .int
  | 1 => .int
  | 2 => .int
  | 3 => .int
  | 4 => .int
  | 5 => .array .int
  | 6 => .array .int
  | 7 => .array .boolean
  | 8 => .array .int
  | 9 => .array .int
  | 10 => .array .int
  | 11 => .int
  | 12 => .int
  | 13 => .int
  | 14 => .array .int
  | 15 => .array .int
  | 16 => .array .int
  | 17 => .array .int
  | 18 => .int
  | _ => .int
theorem nm_M : ∀ a, a < 20 → ∀ b, b < 20 → a ≠ b → (T_M a).2.1 ≠ (T_M b).2.1 := by decide +kernel
theorem tyo_M : ∀ k, k < 20 → parseFieldDescriptor (T_M k).2.2.1 = some (ty_M k) := by decide +kernel
theorem i_M : ∀ w ∈ u_ws R_M T_M 20, w ∈ tbW := by decide +kernel
abbrev vwCl : List vw_C := [(R_B, T_B, 7), (R_V, T_V, 5), (R_C, T_C, 10), (R_M, T_M, 20)]
end
section
abbrev b_C_init : ByteArray := prog_1_method_1_code
def y_C_init : MethodName := ⟨"CacheLevels", "<init>", "(IIII)V"⟩
theorem cd_C_init : Cond.code y_C_init b_C_init 6 none ∈ tbW := tw 15 (by decide +kernel) (by decide +kernel)
theorem in_C_init : Cond.instanceMethod y_C_init ∈ tbW := tw 14 (by decide +kernel) (by decide +kernel)
theorem hd_C_init : y_C_init.cls = "CacheLevels" ∧ y_C_init.cls ≠ "java/lang/invoke/MethodHandle" ∧ y_C_init.cls ≠ "java/lang/invoke/VarHandle" ∧ (parseMethodDescriptor y_C_init.desc).map (fun d => d.parameters.length) = some 4 := by decide +kernel
abbrev b_Math_floorMod : ByteArray := prog_9_method_50_code
def y_Math_floorMod : MethodName := ⟨"java/lang/Math", "floorMod", "(II)I"⟩
theorem cd_Math_floorMod : Cond.code y_Math_floorMod b_Math_floorMod 3 (some .int) ∈ tbW := tw 21 (by decide +kernel) (by decide +kernel)
theorem st_Math_floorMod : Cond.static y_Math_floorMod ∈ tbW := tw 20 (by decide +kernel) (by decide +kernel)
theorem hd_Math_floorMod : y_Math_floorMod.cls ≠ "java/lang/invoke/MethodHandle" ∧ y_Math_floorMod.cls ≠ "java/lang/invoke/VarHandle" ∧ (parseMethodDescriptor y_Math_floorMod.desc).map (fun d => d.parameters.length) = some 2 := by decide +kernel
abbrev b_B_init : ByteArray := prog_2_method_1_code
def y_B_init : MethodName := ⟨"CacheLevels$Bank", "<init>", "(III)V"⟩
theorem cd_B_init : Cond.code y_B_init b_B_init 5 none ∈ tbW := tw 26 (by decide +kernel) (by decide +kernel)
theorem in_B_init : Cond.instanceMethod y_B_init ∈ tbW := tw 25 (by decide +kernel) (by decide +kernel)
theorem hd_B_init : y_B_init.cls = "CacheLevels$Bank" ∧ y_B_init.cls ≠ "java/lang/invoke/MethodHandle" ∧ y_B_init.cls ≠ "java/lang/invoke/VarHandle" ∧ (parseMethodDescriptor y_B_init.desc).map (fun d => d.parameters.length) = some 3 := by decide +kernel
abbrev b_Math_max : ByteArray := prog_9_method_65_code
def y_Math_max : MethodName := ⟨"java/lang/Math", "max", "(II)I"⟩
theorem cd_Math_max : Cond.code y_Math_max b_Math_max 2 (some .int) ∈ tbW := tw 30 (by decide +kernel) (by decide +kernel)
theorem st_Math_max : Cond.static y_Math_max ∈ tbW := tw 29 (by decide +kernel) (by decide +kernel)
theorem hd_Math_max : y_Math_max.cls ≠ "java/lang/invoke/MethodHandle" ∧ y_Math_max.cls ≠ "java/lang/invoke/VarHandle" ∧ (parseMethodDescriptor y_Math_max.desc).map (fun d => d.parameters.length) = some 2 := by decide +kernel
abbrev b_V_init : ByteArray := prog_3_method_1_code
def y_V_init : MethodName := ⟨"CacheLevels$Versions", "<init>", "()V"⟩
theorem cd_V_init : Cond.code y_V_init b_V_init 1 none ∈ tbW := tw 61 (by decide +kernel) (by decide +kernel)
theorem in_V_init : Cond.instanceMethod y_V_init ∈ tbW := tw 60 (by decide +kernel) (by decide +kernel)
theorem hd_V_init : y_V_init.cls = "CacheLevels$Versions" ∧ y_V_init.cls ≠ "java/lang/invoke/MethodHandle" ∧ y_V_init.cls ≠ "java/lang/invoke/VarHandle" ∧ (parseMethodDescriptor y_V_init.desc).map (fun d => d.parameters.length) = some 0 := by decide +kernel
abbrev b_C_bypass : ByteArray := prog_1_method_4_code
def y_C_bypass : MethodName := ⟨"CacheLevels", "bypass", "(II)Z"⟩
theorem cd_C_bypass : Cond.code y_C_bypass b_C_bypass 4 (some .boolean) ∈ tbW := tw 114 (by decide +kernel) (by decide +kernel)
theorem in_C_bypass : Cond.instanceMethod y_C_bypass ∈ tbW := tw 112 (by decide +kernel) (by decide +kernel)
theorem se_C_bypass : Cond.selects "CacheLevels" y_C_bypass y_C_bypass ∈ tbW := tw 113 (by decide +kernel) (by decide +kernel)
theorem hd_C_bypass : y_C_bypass.cls = "CacheLevels" ∧ y_C_bypass.cls ≠ "java/lang/invoke/MethodHandle" ∧ y_C_bypass.cls ≠ "java/lang/invoke/VarHandle" ∧ (parseMethodDescriptor y_C_bypass.desc).map (fun d => d.parameters.length) = some 2 := by decide +kernel
abbrev b_C_flush : ByteArray := prog_1_method_5_code
def y_C_flush : MethodName := ⟨"CacheLevels", "flush", "()I"⟩
theorem cd_C_flush : Cond.code y_C_flush b_C_flush 3 (some .int) ∈ tbW := tw 118 (by decide +kernel) (by decide +kernel)
theorem in_C_flush : Cond.instanceMethod y_C_flush ∈ tbW := tw 116 (by decide +kernel) (by decide +kernel)
theorem se_C_flush : Cond.selects "CacheLevels" y_C_flush y_C_flush ∈ tbW := tw 117 (by decide +kernel) (by decide +kernel)
theorem hd_C_flush : y_C_flush.cls = "CacheLevels" ∧ y_C_flush.cls ≠ "java/lang/invoke/MethodHandle" ∧ y_C_flush.cls ≠ "java/lang/invoke/VarHandle" ∧ (parseMethodDescriptor y_C_flush.desc).map (fun d => d.parameters.length) = some 0 := by decide +kernel
abbrev b_B_slots : ByteArray := prog_2_method_2_code
def y_B_slots : MethodName := ⟨"CacheLevels$Bank", "slots", "()I"⟩
theorem cd_B_slots : Cond.code y_B_slots b_B_slots 1 (some .int) ∈ tbW := tw 122 (by decide +kernel) (by decide +kernel)
theorem in_B_slots : Cond.instanceMethod y_B_slots ∈ tbW := tw 120 (by decide +kernel) (by decide +kernel)
theorem se_B_slots : Cond.selects "CacheLevels$Bank" y_B_slots y_B_slots ∈ tbW := tw 121 (by decide +kernel) (by decide +kernel)
theorem hd_B_slots : y_B_slots.cls = "CacheLevels$Bank" ∧ y_B_slots.cls ≠ "java/lang/invoke/MethodHandle" ∧ y_B_slots.cls ≠ "java/lang/invoke/VarHandle" ∧ (parseMethodDescriptor y_B_slots.desc).map (fun d => d.parameters.length) = some 0 := by decide +kernel
abbrev b_B_isWritten : ByteArray := prog_2_method_11_code
def y_B_isWritten : MethodName := ⟨"CacheLevels$Bank", "isWritten", "(I)Z"⟩
theorem cd_B_isWritten : Cond.code y_B_isWritten b_B_isWritten 2 (some .boolean) ∈ tbW := tw 126 (by decide +kernel) (by decide +kernel)
theorem in_B_isWritten : Cond.instanceMethod y_B_isWritten ∈ tbW := tw 124 (by decide +kernel) (by decide +kernel)
theorem se_B_isWritten : Cond.selects "CacheLevels$Bank" y_B_isWritten y_B_isWritten ∈ tbW := tw 125 (by decide +kernel) (by decide +kernel)
theorem hd_B_isWritten : y_B_isWritten.cls = "CacheLevels$Bank" ∧ y_B_isWritten.cls ≠ "java/lang/invoke/MethodHandle" ∧ y_B_isWritten.cls ≠ "java/lang/invoke/VarHandle" ∧ (parseMethodDescriptor y_B_isWritten.desc).map (fun d => d.parameters.length) = some 1 := by decide +kernel
abbrev b_B_isSlot : ByteArray := prog_2_method_7_code
def y_B_isSlot : MethodName := ⟨"CacheLevels$Bank", "isSlot", "(I)Z"⟩
theorem cd_B_isSlot : Cond.code y_B_isSlot b_B_isSlot 2 (some .boolean) ∈ tbW := tw 130 (by decide +kernel) (by decide +kernel)
theorem in_B_isSlot : Cond.instanceMethod y_B_isSlot ∈ tbW := tw 129 (by decide +kernel) (by decide +kernel)
theorem se_B_isSlot : Cond.selects y_B_isSlot.cls y_B_isSlot y_B_isSlot ∈ tbW := tp 0 (by decide +kernel) (by decide +kernel)
theorem hd_B_isSlot : y_B_isSlot.cls = "CacheLevels$Bank" ∧ y_B_isSlot.cls ≠ "java/lang/invoke/MethodHandle" ∧ y_B_isSlot.cls ≠ "java/lang/invoke/VarHandle" ∧ (parseMethodDescriptor y_B_isSlot.desc).map (fun d => d.parameters.length) = some 1 := by decide +kernel
abbrev b_B_lineAt : ByteArray := prog_2_method_8_code
def y_B_lineAt : MethodName := ⟨"CacheLevels$Bank", "lineAt", "(I)I"⟩
theorem cd_B_lineAt : Cond.code y_B_lineAt b_B_lineAt 2 (some .int) ∈ tbW := tw 134 (by decide +kernel) (by decide +kernel)
theorem in_B_lineAt : Cond.instanceMethod y_B_lineAt ∈ tbW := tw 132 (by decide +kernel) (by decide +kernel)
theorem se_B_lineAt : Cond.selects "CacheLevels$Bank" y_B_lineAt y_B_lineAt ∈ tbW := tw 133 (by decide +kernel) (by decide +kernel)
theorem hd_B_lineAt : y_B_lineAt.cls = "CacheLevels$Bank" ∧ y_B_lineAt.cls ≠ "java/lang/invoke/MethodHandle" ∧ y_B_lineAt.cls ≠ "java/lang/invoke/VarHandle" ∧ (parseMethodDescriptor y_B_lineAt.desc).map (fun d => d.parameters.length) = some 1 := by decide +kernel
abbrev b_C_writtenInFirst : ByteArray := prog_1_method_20_code
def y_C_writtenInFirst : MethodName := ⟨"CacheLevels", "writtenInFirst", "(I)I"⟩
theorem cd_C_writtenInFirst : Cond.code y_C_writtenInFirst b_C_writtenInFirst 4 (some .int) ∈ tbW := tw 138 (by decide +kernel) (by decide +kernel)
theorem in_C_writtenInFirst : Cond.instanceMethod y_C_writtenInFirst ∈ tbW := tw 137 (by decide +kernel) (by decide +kernel)
theorem se_C_writtenInFirst : Cond.selects y_C_writtenInFirst.cls y_C_writtenInFirst y_C_writtenInFirst ∈ tbW := tp 1 (by decide +kernel) (by decide +kernel)
theorem hd_C_writtenInFirst : y_C_writtenInFirst.cls = "CacheLevels" ∧ y_C_writtenInFirst.cls ≠ "java/lang/invoke/MethodHandle" ∧ y_C_writtenInFirst.cls ≠ "java/lang/invoke/VarHandle" ∧ (parseMethodDescriptor y_C_writtenInFirst.desc).map (fun d => d.parameters.length) = some 1 := by decide +kernel
abbrev b_B_find : ByteArray := prog_2_method_14_code
def y_B_find : MethodName := ⟨"CacheLevels$Bank", "find", "(II)I"⟩
theorem cd_B_find : Cond.code y_B_find b_B_find 5 (some .int) ∈ tbW := tw 142 (by decide +kernel) (by decide +kernel)
theorem in_B_find : Cond.instanceMethod y_B_find ∈ tbW := tw 140 (by decide +kernel) (by decide +kernel)
theorem se_B_find : Cond.selects "CacheLevels$Bank" y_B_find y_B_find ∈ tbW := tw 141 (by decide +kernel) (by decide +kernel)
theorem hd_B_find : y_B_find.cls = "CacheLevels$Bank" ∧ y_B_find.cls ≠ "java/lang/invoke/MethodHandle" ∧ y_B_find.cls ≠ "java/lang/invoke/VarHandle" ∧ (parseMethodDescriptor y_B_find.desc).map (fun d => d.parameters.length) = some 2 := by decide +kernel
abbrev b_B_placeOf : ByteArray := prog_2_method_3_code
def y_B_placeOf : MethodName := ⟨"CacheLevels$Bank", "placeOf", "(II)I"⟩
theorem cd_B_placeOf : Cond.code y_B_placeOf b_B_placeOf 3 (some .int) ∈ tbW := tw 146 (by decide +kernel) (by decide +kernel)
theorem in_B_placeOf : Cond.instanceMethod y_B_placeOf ∈ tbW := tw 144 (by decide +kernel) (by decide +kernel)
theorem se_B_placeOf : Cond.selects "CacheLevels$Bank" y_B_placeOf y_B_placeOf ∈ tbW := tw 145 (by decide +kernel) (by decide +kernel)
theorem hd_B_placeOf : y_B_placeOf.cls = "CacheLevels$Bank" ∧ y_B_placeOf.cls ≠ "java/lang/invoke/MethodHandle" ∧ y_B_placeOf.cls ≠ "java/lang/invoke/VarHandle" ∧ (parseMethodDescriptor y_B_placeOf.desc).map (fun d => d.parameters.length) = some 2 := by decide +kernel
abbrev b_B_size : ByteArray := prog_2_method_4_code
def y_B_size : MethodName := ⟨"CacheLevels$Bank", "size", "(I)I"⟩
theorem cd_B_size : Cond.code y_B_size b_B_size 2 (some .int) ∈ tbW := tw 151 (by decide +kernel) (by decide +kernel)
theorem in_B_size : Cond.instanceMethod y_B_size ∈ tbW := tw 149 (by decide +kernel) (by decide +kernel)
theorem se_B_size : Cond.selects "CacheLevels$Bank" y_B_size y_B_size ∈ tbW := tw 150 (by decide +kernel) (by decide +kernel)
theorem hd_B_size : y_B_size.cls = "CacheLevels$Bank" ∧ y_B_size.cls ≠ "java/lang/invoke/MethodHandle" ∧ y_B_size.cls ≠ "java/lang/invoke/VarHandle" ∧ (parseMethodDescriptor y_B_size.desc).map (fun d => d.parameters.length) = some 1 := by decide +kernel
abbrev b_B_versionAt : ByteArray := prog_2_method_9_code
def y_B_versionAt : MethodName := ⟨"CacheLevels$Bank", "versionAt", "(I)I"⟩
theorem cd_B_versionAt : Cond.code y_B_versionAt b_B_versionAt 2 (some .int) ∈ tbW := tw 156 (by decide +kernel) (by decide +kernel)
theorem in_B_versionAt : Cond.instanceMethod y_B_versionAt ∈ tbW := tw 154 (by decide +kernel) (by decide +kernel)
theorem se_B_versionAt : Cond.selects "CacheLevels$Bank" y_B_versionAt y_B_versionAt ∈ tbW := tw 155 (by decide +kernel) (by decide +kernel)
theorem hd_B_versionAt : y_B_versionAt.cls = "CacheLevels$Bank" ∧ y_B_versionAt.cls ≠ "java/lang/invoke/MethodHandle" ∧ y_B_versionAt.cls ≠ "java/lang/invoke/VarHandle" ∧ (parseMethodDescriptor y_B_versionAt.desc).map (fun d => d.parameters.length) = some 1 := by decide +kernel
abbrev b_V_writeBack : ByteArray := prog_3_method_3_code
def y_V_writeBack : MethodName := ⟨"CacheLevels$Versions", "writeBack", "(II)V"⟩
theorem cd_V_writeBack : Cond.code y_V_writeBack b_V_writeBack 4 none ∈ tbW := tw 160 (by decide +kernel) (by decide +kernel)
theorem in_V_writeBack : Cond.instanceMethod y_V_writeBack ∈ tbW := tw 158 (by decide +kernel) (by decide +kernel)
theorem se_V_writeBack : Cond.selects "CacheLevels$Versions" y_V_writeBack y_V_writeBack ∈ tbW := tw 159 (by decide +kernel) (by decide +kernel)
theorem hd_V_writeBack : y_V_writeBack.cls = "CacheLevels$Versions" ∧ y_V_writeBack.cls ≠ "java/lang/invoke/MethodHandle" ∧ y_V_writeBack.cls ≠ "java/lang/invoke/VarHandle" ∧ (parseMethodDescriptor y_V_writeBack.desc).map (fun d => d.parameters.length) = some 2 := by decide +kernel
abbrev b_V_indexOf : ByteArray := prog_3_method_5_code
def y_V_indexOf : MethodName := ⟨"CacheLevels$Versions", "indexOf", "(I)I"⟩
theorem cd_V_indexOf : Cond.code y_V_indexOf b_V_indexOf 3 (some .int) ∈ tbW := tw 164 (by decide +kernel) (by decide +kernel)
theorem in_V_indexOf : Cond.instanceMethod y_V_indexOf ∈ tbW := tw 163 (by decide +kernel) (by decide +kernel)
theorem se_V_indexOf : Cond.selects y_V_indexOf.cls y_V_indexOf y_V_indexOf ∈ tbW := tp 2 (by decide +kernel) (by decide +kernel)
theorem hd_V_indexOf : y_V_indexOf.cls = "CacheLevels$Versions" ∧ y_V_indexOf.cls ≠ "java/lang/invoke/MethodHandle" ∧ y_V_indexOf.cls ≠ "java/lang/invoke/VarHandle" ∧ (parseMethodDescriptor y_V_indexOf.desc).map (fun d => d.parameters.length) = some 1 := by decide +kernel
abbrev b_B_clear : ByteArray := prog_2_method_23_code
def y_B_clear : MethodName := ⟨"CacheLevels$Bank", "clear", "()V"⟩
theorem cd_B_clear : Cond.code y_B_clear b_B_clear 2 none ∈ tbW := tw 168 (by decide +kernel) (by decide +kernel)
theorem in_B_clear : Cond.instanceMethod y_B_clear ∈ tbW := tw 166 (by decide +kernel) (by decide +kernel)
theorem se_B_clear : Cond.selects "CacheLevels$Bank" y_B_clear y_B_clear ∈ tbW := tw 167 (by decide +kernel) (by decide +kernel)
theorem hd_B_clear : y_B_clear.cls = "CacheLevels$Bank" ∧ y_B_clear.cls ≠ "java/lang/invoke/MethodHandle" ∧ y_B_clear.cls ≠ "java/lang/invoke/VarHandle" ∧ (parseMethodDescriptor y_B_clear.desc).map (fun d => d.parameters.length) = some 0 := by decide +kernel
abbrev b_C_memory : ByteArray := prog_1_method_8_code
def y_C_memory : MethodName := ⟨"CacheLevels", "memory", "(I)I"⟩
theorem cd_C_memory : Cond.code y_C_memory b_C_memory 2 (some .int) ∈ tbW := tw 172 (by decide +kernel) (by decide +kernel)
theorem in_C_memory : Cond.instanceMethod y_C_memory ∈ tbW := tw 170 (by decide +kernel) (by decide +kernel)
theorem se_C_memory : Cond.selects "CacheLevels" y_C_memory y_C_memory ∈ tbW := tw 171 (by decide +kernel) (by decide +kernel)
theorem hd_C_memory : y_C_memory.cls = "CacheLevels" ∧ y_C_memory.cls ≠ "java/lang/invoke/MethodHandle" ∧ y_C_memory.cls ≠ "java/lang/invoke/VarHandle" ∧ (parseMethodDescriptor y_C_memory.desc).map (fun d => d.parameters.length) = some 1 := by decide +kernel
abbrev b_V_inMemory : ByteArray := prog_3_method_2_code
def y_V_inMemory : MethodName := ⟨"CacheLevels$Versions", "inMemory", "(I)I"⟩
theorem cd_V_inMemory : Cond.code y_V_inMemory b_V_inMemory 3 (some .int) ∈ tbW := tw 176 (by decide +kernel) (by decide +kernel)
theorem in_V_inMemory : Cond.instanceMethod y_V_inMemory ∈ tbW := tw 174 (by decide +kernel) (by decide +kernel)
theorem se_V_inMemory : Cond.selects "CacheLevels$Versions" y_V_inMemory y_V_inMemory ∈ tbW := tw 175 (by decide +kernel) (by decide +kernel)
theorem hd_V_inMemory : y_V_inMemory.cls = "CacheLevels$Versions" ∧ y_V_inMemory.cls ≠ "java/lang/invoke/MethodHandle" ∧ y_V_inMemory.cls ≠ "java/lang/invoke/VarHandle" ∧ (parseMethodDescriptor y_V_inMemory.desc).map (fun d => d.parameters.length) = some 1 := by decide +kernel
abbrev b_C_owner : ByteArray := prog_1_method_10_code
def y_C_owner : MethodName := ⟨"CacheLevels", "owner", "(I)I"⟩
theorem cd_C_owner : Cond.code y_C_owner b_C_owner 3 (some .int) ∈ tbW := tw 180 (by decide +kernel) (by decide +kernel)
theorem in_C_owner : Cond.instanceMethod y_C_owner ∈ tbW := tw 178 (by decide +kernel) (by decide +kernel)
theorem se_C_owner : Cond.selects "CacheLevels" y_C_owner y_C_owner ∈ tbW := tw 179 (by decide +kernel) (by decide +kernel)
theorem hd_C_owner : y_C_owner.cls = "CacheLevels" ∧ y_C_owner.cls ≠ "java/lang/invoke/MethodHandle" ∧ y_C_owner.cls ≠ "java/lang/invoke/VarHandle" ∧ (parseMethodDescriptor y_C_owner.desc).map (fun d => d.parameters.length) = some 1 := by decide +kernel
abbrev b_B_ownerAt : ByteArray := prog_2_method_10_code
def y_B_ownerAt : MethodName := ⟨"CacheLevels$Bank", "ownerAt", "(I)I"⟩
theorem cd_B_ownerAt : Cond.code y_B_ownerAt b_B_ownerAt 2 (some .int) ∈ tbW := tw 184 (by decide +kernel) (by decide +kernel)
theorem in_B_ownerAt : Cond.instanceMethod y_B_ownerAt ∈ tbW := tw 182 (by decide +kernel) (by decide +kernel)
theorem se_B_ownerAt : Cond.selects "CacheLevels$Bank" y_B_ownerAt y_B_ownerAt ∈ tbW := tw 183 (by decide +kernel) (by decide +kernel)
theorem hd_B_ownerAt : y_B_ownerAt.cls = "CacheLevels$Bank" ∧ y_B_ownerAt.cls ≠ "java/lang/invoke/MethodHandle" ∧ y_B_ownerAt.cls ≠ "java/lang/invoke/VarHandle" ∧ (parseMethodDescriptor y_B_ownerAt.desc).map (fun d => d.parameters.length) = some 1 := by decide +kernel
abbrev b_C_directory : ByteArray := prog_1_method_11_code
def y_C_directory : MethodName := ⟨"CacheLevels", "directory", "(I)I"⟩
theorem cd_C_directory : Cond.code y_C_directory b_C_directory 4 (some .int) ∈ tbW := tw 188 (by decide +kernel) (by decide +kernel)
theorem in_C_directory : Cond.instanceMethod y_C_directory ∈ tbW := tw 186 (by decide +kernel) (by decide +kernel)
theorem se_C_directory : Cond.selects "CacheLevels" y_C_directory y_C_directory ∈ tbW := tw 187 (by decide +kernel) (by decide +kernel)
theorem hd_C_directory : y_C_directory.cls = "CacheLevels" ∧ y_C_directory.cls ≠ "java/lang/invoke/MethodHandle" ∧ y_C_directory.cls ≠ "java/lang/invoke/VarHandle" ∧ (parseMethodDescriptor y_C_directory.desc).map (fun d => d.parameters.length) = some 1 := by decide +kernel
abbrev b_C_count : ByteArray := prog_1_method_13_code
def y_C_count : MethodName := ⟨"CacheLevels", "count", "(I)I"⟩
theorem cd_C_count : Cond.code y_C_count b_C_count 2 (some .int) ∈ tbW := tw 192 (by decide +kernel) (by decide +kernel)
theorem in_C_count : Cond.instanceMethod y_C_count ∈ tbW := tw 190 (by decide +kernel) (by decide +kernel)
theorem se_C_count : Cond.selects "CacheLevels" y_C_count y_C_count ∈ tbW := tw 191 (by decide +kernel) (by decide +kernel)
theorem hd_C_count : y_C_count.cls = "CacheLevels" ∧ y_C_count.cls ≠ "java/lang/invoke/MethodHandle" ∧ y_C_count.cls ≠ "java/lang/invoke/VarHandle" ∧ (parseMethodDescriptor y_C_count.desc).map (fun d => d.parameters.length) = some 1 := by decide +kernel
abbrev b_B_total : ByteArray := prog_2_method_6_code
def y_B_total : MethodName := ⟨"CacheLevels$Bank", "total", "()I"⟩
theorem cd_B_total : Cond.code y_B_total b_B_total 3 (some .int) ∈ tbW := tw 196 (by decide +kernel) (by decide +kernel)
theorem in_B_total : Cond.instanceMethod y_B_total ∈ tbW := tw 194 (by decide +kernel) (by decide +kernel)
theorem se_B_total : Cond.selects "CacheLevels$Bank" y_B_total y_B_total ∈ tbW := tw 195 (by decide +kernel) (by decide +kernel)
theorem hd_B_total : y_B_total.cls = "CacheLevels$Bank" ∧ y_B_total.cls ≠ "java/lang/invoke/MethodHandle" ∧ y_B_total.cls ≠ "java/lang/invoke/VarHandle" ∧ (parseMethodDescriptor y_B_total.desc).map (fun d => d.parameters.length) = some 0 := by decide +kernel
abbrev b_L_cell : ByteArray := method_2_code
def y_L_cell : MethodName := ⟨"CacheLevelsLaw", "cell", "([II)I"⟩
theorem cd_L_cell : Cond.code y_L_cell b_L_cell 2 (some .int) ∈ tbW := tw 199 (by decide +kernel) (by decide +kernel)
theorem st_L_cell : Cond.static y_L_cell ∈ tbW := tw 198 (by decide +kernel) (by decide +kernel)
theorem hd_L_cell : y_L_cell.cls ≠ "java/lang/invoke/MethodHandle" ∧ y_L_cell.cls ≠ "java/lang/invoke/VarHandle" ∧ (parseMethodDescriptor y_L_cell.desc).map (fun d => d.parameters.length) = some 2 := by decide +kernel
abbrev b_L_access : ByteArray := method_3_code
def y_L_access : MethodName := ⟨"CacheLevelsLaw", "access", "(LCacheLevels;III[J)I"⟩
theorem st_L_access : Cond.static y_L_access ∈ tbW := tw 201 (by decide +kernel) (by decide +kernel)
theorem hd_L_access : y_L_access.cls ≠ "java/lang/invoke/MethodHandle" ∧ y_L_access.cls ≠ "java/lang/invoke/VarHandle" ∧ (parseMethodDescriptor y_L_access.desc).map (fun d => d.parameters.length) = some 5 := by decide +kernel
abbrev b_C_access : ByteArray := prog_1_method_2_code
def y_C_access : MethodName := ⟨"CacheLevels", "access", "(III)I"⟩
theorem cd_C_access : Cond.code y_C_access b_C_access 6 (some .int) ∈ tbW := tw 208 (by decide +kernel) (by decide +kernel)
theorem in_C_access : Cond.instanceMethod y_C_access ∈ tbW := tw 206 (by decide +kernel) (by decide +kernel)
theorem se_C_access : Cond.selects "CacheLevels" y_C_access y_C_access ∈ tbW := tw 207 (by decide +kernel) (by decide +kernel)
theorem hd_C_access : y_C_access.cls = "CacheLevels" ∧ y_C_access.cls ≠ "java/lang/invoke/MethodHandle" ∧ y_C_access.cls ≠ "java/lang/invoke/VarHandle" ∧ (parseMethodDescriptor y_C_access.desc).map (fun d => d.parameters.length) = some 3 := by decide +kernel
abbrev b_C_requireCore : ByteArray := prog_1_method_14_code
def y_C_requireCore : MethodName := ⟨"CacheLevels", "requireCore", "(I)V"⟩
theorem cd_C_requireCore : Cond.code y_C_requireCore b_C_requireCore 2 none ∈ tbW := tw 212 (by decide +kernel) (by decide +kernel)
theorem in_C_requireCore : Cond.instanceMethod y_C_requireCore ∈ tbW := tw 211 (by decide +kernel) (by decide +kernel)
theorem se_C_requireCore : Cond.selects y_C_requireCore.cls y_C_requireCore y_C_requireCore ∈ tbW := tp 3 (by decide +kernel) (by decide +kernel)
theorem hd_C_requireCore : y_C_requireCore.cls = "CacheLevels" ∧ y_C_requireCore.cls ≠ "java/lang/invoke/MethodHandle" ∧ y_C_requireCore.cls ≠ "java/lang/invoke/VarHandle" ∧ (parseMethodDescriptor y_C_requireCore.desc).map (fun d => d.parameters.length) = some 1 := by decide +kernel
abbrev b_C_tally : ByteArray := prog_1_method_18_code
def y_C_tally : MethodName := ⟨"CacheLevels", "tally", "(II)V"⟩
theorem cd_C_tally : Cond.code y_C_tally b_C_tally 4 none ∈ tbW := tw 299 (by decide +kernel) (by decide +kernel)
theorem in_C_tally : Cond.instanceMethod y_C_tally ∈ tbW := tw 298 (by decide +kernel) (by decide +kernel)
theorem se_C_tally : Cond.selects y_C_tally.cls y_C_tally y_C_tally ∈ tbW := tp 5 (by decide +kernel) (by decide +kernel)
theorem hd_C_tally : y_C_tally.cls = "CacheLevels" ∧ y_C_tally.cls ≠ "java/lang/invoke/MethodHandle" ∧ y_C_tally.cls ≠ "java/lang/invoke/VarHandle" ∧ (parseMethodDescriptor y_C_tally.desc).map (fun d => d.parameters.length) = some 2 := by decide +kernel
abbrev b_B_useLast : ByteArray := prog_2_method_20_code
def y_B_useLast : MethodName := ⟨"CacheLevels$Bank", "useLast", "(I)V"⟩
theorem cd_B_useLast : Cond.code y_B_useLast b_B_useLast 4 none ∈ tbW := tw 303 (by decide +kernel) (by decide +kernel)
theorem in_B_useLast : Cond.instanceMethod y_B_useLast ∈ tbW := tw 301 (by decide +kernel) (by decide +kernel)
theorem se_B_useLast : Cond.selects "CacheLevels$Bank" y_B_useLast y_B_useLast ∈ tbW := tw 302 (by decide +kernel) (by decide +kernel)
theorem hd_B_useLast : y_B_useLast.cls = "CacheLevels$Bank" ∧ y_B_useLast.cls ≠ "java/lang/invoke/MethodHandle" ∧ y_B_useLast.cls ≠ "java/lang/invoke/VarHandle" ∧ (parseMethodDescriptor y_B_useLast.desc).map (fun d => d.parameters.length) = some 1 := by decide +kernel
abbrev b_B_swap : ByteArray := prog_2_method_22_code
def y_B_swap : MethodName := ⟨"CacheLevels$Bank", "swap", "(II)V"⟩
theorem cd_B_swap : Cond.code y_B_swap b_B_swap 7 none ∈ tbW := tw 307 (by decide +kernel) (by decide +kernel)
theorem in_B_swap : Cond.instanceMethod y_B_swap ∈ tbW := tw 306 (by decide +kernel) (by decide +kernel)
theorem se_B_swap : Cond.selects y_B_swap.cls y_B_swap y_B_swap ∈ tbW := tp 6 (by decide +kernel) (by decide +kernel)
theorem hd_B_swap : y_B_swap.cls = "CacheLevels$Bank" ∧ y_B_swap.cls ≠ "java/lang/invoke/MethodHandle" ∧ y_B_swap.cls ≠ "java/lang/invoke/VarHandle" ∧ (parseMethodDescriptor y_B_swap.desc).map (fun d => d.parameters.length) = some 2 := by decide +kernel
abbrev b_C_handOver : ByteArray := prog_1_method_21_code
def y_C_handOver : MethodName := ⟨"CacheLevels", "handOver", "(I)V"⟩
theorem cd_C_handOver : Cond.code y_C_handOver b_C_handOver 3 none ∈ tbW := tw 311 (by decide +kernel) (by decide +kernel)
theorem in_C_handOver : Cond.instanceMethod y_C_handOver ∈ tbW := tw 310 (by decide +kernel) (by decide +kernel)
theorem se_C_handOver : Cond.selects y_C_handOver.cls y_C_handOver y_C_handOver ∈ tbW := tp 7 (by decide +kernel) (by decide +kernel)
theorem hd_C_handOver : y_C_handOver.cls = "CacheLevels" ∧ y_C_handOver.cls ≠ "java/lang/invoke/MethodHandle" ∧ y_C_handOver.cls ≠ "java/lang/invoke/VarHandle" ∧ (parseMethodDescriptor y_C_handOver.desc).map (fun d => d.parameters.length) = some 1 := by decide +kernel
abbrev b_B_clean : ByteArray := prog_2_method_12_code
def y_B_clean : MethodName := ⟨"CacheLevels$Bank", "clean", "(I)V"⟩
theorem cd_B_clean : Cond.code y_B_clean b_B_clean 2 none ∈ tbW := tw 315 (by decide +kernel) (by decide +kernel)
theorem in_B_clean : Cond.instanceMethod y_B_clean ∈ tbW := tw 313 (by decide +kernel) (by decide +kernel)
theorem se_B_clean : Cond.selects "CacheLevels$Bank" y_B_clean y_B_clean ∈ tbW := tw 314 (by decide +kernel) (by decide +kernel)
theorem hd_B_clean : y_B_clean.cls = "CacheLevels$Bank" ∧ y_B_clean.cls ≠ "java/lang/invoke/MethodHandle" ∧ y_B_clean.cls ≠ "java/lang/invoke/VarHandle" ∧ (parseMethodDescriptor y_B_clean.desc).map (fun d => d.parameters.length) = some 1 := by decide +kernel
abbrev b_C_writeDown : ByteArray := prog_1_method_22_code
def y_C_writeDown : MethodName := ⟨"CacheLevels", "writeDown", "(II)V"⟩
theorem cd_C_writeDown : Cond.code y_C_writeDown b_C_writeDown 4 none ∈ tbW := tw 319 (by decide +kernel) (by decide +kernel)
theorem in_C_writeDown : Cond.instanceMethod y_C_writeDown ∈ tbW := tw 318 (by decide +kernel) (by decide +kernel)
theorem se_C_writeDown : Cond.selects y_C_writeDown.cls y_C_writeDown y_C_writeDown ∈ tbW := tp 8 (by decide +kernel) (by decide +kernel)
theorem hd_C_writeDown : y_C_writeDown.cls = "CacheLevels" ∧ y_C_writeDown.cls ≠ "java/lang/invoke/MethodHandle" ∧ y_C_writeDown.cls ≠ "java/lang/invoke/VarHandle" ∧ (parseMethodDescriptor y_C_writeDown.desc).map (fun d => d.parameters.length) = some 2 := by decide +kernel
abbrev b_B_rewrite : ByteArray := prog_2_method_13_code
def y_B_rewrite : MethodName := ⟨"CacheLevels$Bank", "rewrite", "(II)V"⟩
theorem cd_B_rewrite : Cond.code y_B_rewrite b_B_rewrite 3 none ∈ tbW := tw 323 (by decide +kernel) (by decide +kernel)
theorem in_B_rewrite : Cond.instanceMethod y_B_rewrite ∈ tbW := tw 321 (by decide +kernel) (by decide +kernel)
theorem se_B_rewrite : Cond.selects "CacheLevels$Bank" y_B_rewrite y_B_rewrite ∈ tbW := tw 322 (by decide +kernel) (by decide +kernel)
theorem hd_B_rewrite : y_B_rewrite.cls = "CacheLevels$Bank" ∧ y_B_rewrite.cls ≠ "java/lang/invoke/MethodHandle" ∧ y_B_rewrite.cls ≠ "java/lang/invoke/VarHandle" ∧ (parseMethodDescriptor y_B_rewrite.desc).map (fun d => d.parameters.length) = some 2 := by decide +kernel
abbrev b_C_bring : ByteArray := prog_1_method_23_code
def y_C_bring : MethodName := ⟨"CacheLevels", "bring", "(II)I"⟩
theorem cd_C_bring : Cond.code y_C_bring b_C_bring 6 (some .int) ∈ tbW := tw 327 (by decide +kernel) (by decide +kernel)
theorem in_C_bring : Cond.instanceMethod y_C_bring ∈ tbW := tw 326 (by decide +kernel) (by decide +kernel)
theorem se_C_bring : Cond.selects y_C_bring.cls y_C_bring y_C_bring ∈ tbW := tp 9 (by decide +kernel) (by decide +kernel)
theorem hd_C_bring : y_C_bring.cls = "CacheLevels" ∧ y_C_bring.cls ≠ "java/lang/invoke/MethodHandle" ∧ y_C_bring.cls ≠ "java/lang/invoke/VarHandle" ∧ (parseMethodDescriptor y_C_bring.desc).map (fun d => d.parameters.length) = some 2 := by decide +kernel
abbrev b_C_passesBy : ByteArray := prog_1_method_19_code
def y_C_passesBy : MethodName := ⟨"CacheLevels", "passesBy", "(I)Z"⟩
theorem cd_C_passesBy : Cond.code y_C_passesBy b_C_passesBy 2 (some .boolean) ∈ tbW := tw 331 (by decide +kernel) (by decide +kernel)
theorem in_C_passesBy : Cond.instanceMethod y_C_passesBy ∈ tbW := tw 330 (by decide +kernel) (by decide +kernel)
theorem se_C_passesBy : Cond.selects y_C_passesBy.cls y_C_passesBy y_C_passesBy ∈ tbW := tp 10 (by decide +kernel) (by decide +kernel)
theorem hd_C_passesBy : y_C_passesBy.cls = "CacheLevels" ∧ y_C_passesBy.cls ≠ "java/lang/invoke/MethodHandle" ∧ y_C_passesBy.cls ≠ "java/lang/invoke/VarHandle" ∧ (parseMethodDescriptor y_C_passesBy.desc).map (fun d => d.parameters.length) = some 1 := by decide +kernel
abbrev b_C_comeIntoSecond : ByteArray := prog_1_method_26_code
def y_C_comeIntoSecond : MethodName := ⟨"CacheLevels", "comeIntoSecond", "(IIIZ)V"⟩
theorem cd_C_comeIntoSecond : Cond.code y_C_comeIntoSecond b_C_comeIntoSecond 7 none ∈ tbW := tw 335 (by decide +kernel) (by decide +kernel)
theorem in_C_comeIntoSecond : Cond.instanceMethod y_C_comeIntoSecond ∈ tbW := tw 334 (by decide +kernel) (by decide +kernel)
theorem se_C_comeIntoSecond : Cond.selects y_C_comeIntoSecond.cls y_C_comeIntoSecond y_C_comeIntoSecond ∈ tbW := tp 11 (by decide +kernel) (by decide +kernel)
theorem hd_C_comeIntoSecond : y_C_comeIntoSecond.cls = "CacheLevels" ∧ y_C_comeIntoSecond.cls ≠ "java/lang/invoke/MethodHandle" ∧ y_C_comeIntoSecond.cls ≠ "java/lang/invoke/VarHandle" ∧ (parseMethodDescriptor y_C_comeIntoSecond.desc).map (fun d => d.parameters.length) = some 4 := by decide +kernel
abbrev b_B_ownedAt : ByteArray := prog_2_method_17_code
def y_B_ownedAt : MethodName := ⟨"CacheLevels$Bank", "ownedAt", "(II)I"⟩
theorem cd_B_ownedAt : Cond.code y_B_ownedAt b_B_ownedAt 5 (some .int) ∈ tbW := tw 340 (by decide +kernel) (by decide +kernel)
theorem in_B_ownedAt : Cond.instanceMethod y_B_ownedAt ∈ tbW := tw 338 (by decide +kernel) (by decide +kernel)
theorem se_B_ownedAt : Cond.selects "CacheLevels$Bank" y_B_ownedAt y_B_ownedAt ∈ tbW := tw 339 (by decide +kernel) (by decide +kernel)
theorem hd_B_ownedAt : y_B_ownedAt.cls = "CacheLevels$Bank" ∧ y_B_ownedAt.cls ≠ "java/lang/invoke/MethodHandle" ∧ y_B_ownedAt.cls ≠ "java/lang/invoke/VarHandle" ∧ (parseMethodDescriptor y_B_ownedAt.desc).map (fun d => d.parameters.length) = some 2 := by decide +kernel
abbrev b_B_oldestOwned : ByteArray := prog_2_method_16_code
def y_B_oldestOwned : MethodName := ⟨"CacheLevels$Bank", "oldestOwned", "(II)I"⟩
theorem cd_B_oldestOwned : Cond.code y_B_oldestOwned b_B_oldestOwned 4 (some .int) ∈ tbW := tw 345 (by decide +kernel) (by decide +kernel)
theorem in_B_oldestOwned : Cond.instanceMethod y_B_oldestOwned ∈ tbW := tw 343 (by decide +kernel) (by decide +kernel)
theorem se_B_oldestOwned : Cond.selects "CacheLevels$Bank" y_B_oldestOwned y_B_oldestOwned ∈ tbW := tw 344 (by decide +kernel) (by decide +kernel)
theorem hd_B_oldestOwned : y_B_oldestOwned.cls = "CacheLevels$Bank" ∧ y_B_oldestOwned.cls ≠ "java/lang/invoke/MethodHandle" ∧ y_B_oldestOwned.cls ≠ "java/lang/invoke/VarHandle" ∧ (parseMethodDescriptor y_B_oldestOwned.desc).map (fun d => d.parameters.length) = some 2 := by decide +kernel
abbrev b_C_leaveSecond : ByteArray := prog_1_method_27_code
def y_C_leaveSecond : MethodName := ⟨"CacheLevels", "leaveSecond", "(I)V"⟩
theorem cd_C_leaveSecond : Cond.code y_C_leaveSecond b_C_leaveSecond 7 none ∈ tbW := tw 349 (by decide +kernel) (by decide +kernel)
theorem in_C_leaveSecond : Cond.instanceMethod y_C_leaveSecond ∈ tbW := tw 348 (by decide +kernel) (by decide +kernel)
theorem se_C_leaveSecond : Cond.selects y_C_leaveSecond.cls y_C_leaveSecond y_C_leaveSecond ∈ tbW := tp 12 (by decide +kernel) (by decide +kernel)
theorem hd_C_leaveSecond : y_C_leaveSecond.cls = "CacheLevels" ∧ y_C_leaveSecond.cls ≠ "java/lang/invoke/MethodHandle" ∧ y_C_leaveSecond.cls ≠ "java/lang/invoke/VarHandle" ∧ (parseMethodDescriptor y_C_leaveSecond.desc).map (fun d => d.parameters.length) = some 1 := by decide +kernel
abbrev b_B_drop : ByteArray := prog_2_method_21_code
def y_B_drop : MethodName := ⟨"CacheLevels$Bank", "drop", "(I)V"⟩
theorem cd_B_drop : Cond.code y_B_drop b_B_drop 5 none ∈ tbW := tw 353 (by decide +kernel) (by decide +kernel)
theorem in_B_drop : Cond.instanceMethod y_B_drop ∈ tbW := tw 351 (by decide +kernel) (by decide +kernel)
theorem se_B_drop : Cond.selects "CacheLevels$Bank" y_B_drop y_B_drop ∈ tbW := tw 352 (by decide +kernel) (by decide +kernel)
theorem hd_B_drop : y_B_drop.cls = "CacheLevels$Bank" ∧ y_B_drop.cls ≠ "java/lang/invoke/MethodHandle" ∧ y_B_drop.cls ≠ "java/lang/invoke/VarHandle" ∧ (parseMethodDescriptor y_B_drop.desc).map (fun d => d.parameters.length) = some 1 := by decide +kernel
abbrev b_B_oldest : ByteArray := prog_2_method_15_code
def y_B_oldest : MethodName := ⟨"CacheLevels$Bank", "oldest", "(I)I"⟩
theorem cd_B_oldest : Cond.code y_B_oldest b_B_oldest 3 (some .int) ∈ tbW := tw 357 (by decide +kernel) (by decide +kernel)
theorem in_B_oldest : Cond.instanceMethod y_B_oldest ∈ tbW := tw 355 (by decide +kernel) (by decide +kernel)
theorem se_B_oldest : Cond.selects "CacheLevels$Bank" y_B_oldest y_B_oldest ∈ tbW := tw 356 (by decide +kernel) (by decide +kernel)
theorem hd_B_oldest : y_B_oldest.cls = "CacheLevels$Bank" ∧ y_B_oldest.cls ≠ "java/lang/invoke/MethodHandle" ∧ y_B_oldest.cls ≠ "java/lang/invoke/VarHandle" ∧ (parseMethodDescriptor y_B_oldest.desc).map (fun d => d.parameters.length) = some 1 := by decide +kernel
abbrev b_B_isFull : ByteArray := prog_2_method_5_code
def y_B_isFull : MethodName := ⟨"CacheLevels$Bank", "isFull", "(I)Z"⟩
theorem cd_B_isFull : Cond.code y_B_isFull b_B_isFull 2 (some .boolean) ∈ tbW := tw 362 (by decide +kernel) (by decide +kernel)
theorem in_B_isFull : Cond.instanceMethod y_B_isFull ∈ tbW := tw 360 (by decide +kernel) (by decide +kernel)
theorem se_B_isFull : Cond.selects "CacheLevels$Bank" y_B_isFull y_B_isFull ∈ tbW := tw 361 (by decide +kernel) (by decide +kernel)
theorem hd_B_isFull : y_B_isFull.cls = "CacheLevels$Bank" ∧ y_B_isFull.cls ≠ "java/lang/invoke/MethodHandle" ∧ y_B_isFull.cls ≠ "java/lang/invoke/VarHandle" ∧ (parseMethodDescriptor y_B_isFull.desc).map (fun d => d.parameters.length) = some 1 := by decide +kernel
abbrev b_B_put : ByteArray := prog_2_method_19_code
def y_B_put : MethodName := ⟨"CacheLevels$Bank", "put", "(IIIZI)V"⟩
theorem cd_B_put : Cond.code y_B_put b_B_put 7 none ∈ tbW := tw 367 (by decide +kernel) (by decide +kernel)
theorem in_B_put : Cond.instanceMethod y_B_put ∈ tbW := tw 365 (by decide +kernel) (by decide +kernel)
theorem se_B_put : Cond.selects "CacheLevels$Bank" y_B_put y_B_put ∈ tbW := tw 366 (by decide +kernel) (by decide +kernel)
theorem hd_B_put : y_B_put.cls = "CacheLevels$Bank" ∧ y_B_put.cls ≠ "java/lang/invoke/MethodHandle" ∧ y_B_put.cls ≠ "java/lang/invoke/VarHandle" ∧ (parseMethodDescriptor y_B_put.desc).map (fun d => d.parameters.length) = some 5 := by decide +kernel
abbrev b_C_makeRoomInFirst : ByteArray := prog_1_method_25_code
def y_C_makeRoomInFirst : MethodName := ⟨"CacheLevels", "makeRoomInFirst", "(II)V"⟩
theorem cd_C_makeRoomInFirst : Cond.code y_C_makeRoomInFirst b_C_makeRoomInFirst 8 none ∈ tbW := tw 373 (by decide +kernel) (by decide +kernel)
theorem in_C_makeRoomInFirst : Cond.instanceMethod y_C_makeRoomInFirst ∈ tbW := tw 372 (by decide +kernel) (by decide +kernel)
theorem se_C_makeRoomInFirst : Cond.selects y_C_makeRoomInFirst.cls y_C_makeRoomInFirst y_C_makeRoomInFirst ∈ tbW := tp 13 (by decide +kernel) (by decide +kernel)
theorem hd_C_makeRoomInFirst : y_C_makeRoomInFirst.cls = "CacheLevels" ∧ y_C_makeRoomInFirst.cls ≠ "java/lang/invoke/MethodHandle" ∧ y_C_makeRoomInFirst.cls ≠ "java/lang/invoke/VarHandle" ∧ (parseMethodDescriptor y_C_makeRoomInFirst.desc).map (fun d => d.parameters.length) = some 2 := by decide +kernel
abbrev b_C_write : ByteArray := prog_1_method_24_code
def y_C_write : MethodName := ⟨"CacheLevels", "write", "(II)V"⟩
theorem cd_C_write : Cond.code y_C_write b_C_write 5 none ∈ tbW := tw 378 (by decide +kernel) (by decide +kernel)
theorem in_C_write : Cond.instanceMethod y_C_write ∈ tbW := tw 377 (by decide +kernel) (by decide +kernel)
theorem se_C_write : Cond.selects y_C_write.cls y_C_write y_C_write ∈ tbW := tp 14 (by decide +kernel) (by decide +kernel)
theorem hd_C_write : y_C_write.cls = "CacheLevels" ∧ y_C_write.cls ≠ "java/lang/invoke/MethodHandle" ∧ y_C_write.cls ≠ "java/lang/invoke/VarHandle" ∧ (parseMethodDescriptor y_C_write.desc).map (fun d => d.parameters.length) = some 2 := by decide +kernel
abbrev b_V_makeNext : ByteArray := prog_3_method_4_code
def y_V_makeNext : MethodName := ⟨"CacheLevels$Versions", "makeNext", "(I)I"⟩
theorem cd_V_makeNext : Cond.code y_V_makeNext b_V_makeNext 3 (some .int) ∈ tbW := tw 382 (by decide +kernel) (by decide +kernel)
theorem in_V_makeNext : Cond.instanceMethod y_V_makeNext ∈ tbW := tw 380 (by decide +kernel) (by decide +kernel)
theorem se_V_makeNext : Cond.selects "CacheLevels$Versions" y_V_makeNext y_V_makeNext ∈ tbW := tw 381 (by decide +kernel) (by decide +kernel)
theorem hd_V_makeNext : y_V_makeNext.cls = "CacheLevels$Versions" ∧ y_V_makeNext.cls ≠ "java/lang/invoke/MethodHandle" ∧ y_V_makeNext.cls ≠ "java/lang/invoke/VarHandle" ∧ (parseMethodDescriptor y_V_makeNext.desc).map (fun d => d.parameters.length) = some 1 := by decide +kernel
abbrev b_L_quota : ByteArray := method_4_code
def y_L_quota : MethodName := ⟨"CacheLevelsLaw", "quota", "(LCacheLevels;II[J)I"⟩
theorem st_L_quota : Cond.static y_L_quota ∈ tbW := tw 384 (by decide +kernel) (by decide +kernel)
theorem hd_L_quota : y_L_quota.cls ≠ "java/lang/invoke/MethodHandle" ∧ y_L_quota.cls ≠ "java/lang/invoke/VarHandle" ∧ (parseMethodDescriptor y_L_quota.desc).map (fun d => d.parameters.length) = some 4 := by decide +kernel
abbrev b_C_quota : ByteArray := prog_1_method_3_code
def y_C_quota : MethodName := ⟨"CacheLevels", "quota", "(II)I"⟩
theorem cd_C_quota : Cond.code y_C_quota b_C_quota 4 (some .int) ∈ tbW := tw 389 (by decide +kernel) (by decide +kernel)
theorem in_C_quota : Cond.instanceMethod y_C_quota ∈ tbW := tw 387 (by decide +kernel) (by decide +kernel)
theorem se_C_quota : Cond.selects "CacheLevels" y_C_quota y_C_quota ∈ tbW := tw 388 (by decide +kernel) (by decide +kernel)
theorem hd_C_quota : y_C_quota.cls = "CacheLevels" ∧ y_C_quota.cls ≠ "java/lang/invoke/MethodHandle" ∧ y_C_quota.cls ≠ "java/lang/invoke/VarHandle" ∧ (parseMethodDescriptor y_C_quota.desc).map (fun d => d.parameters.length) = some 2 := by decide +kernel
abbrev b_L_holds : ByteArray := method_5_code
def y_L_holds : MethodName := ⟨"CacheLevelsLaw", "holds", "(LCacheLevels;II[J)I"⟩
theorem st_L_holds : Cond.static y_L_holds ∈ tbW := tw 392 (by decide +kernel) (by decide +kernel)
theorem hd_L_holds : y_L_holds.cls ≠ "java/lang/invoke/MethodHandle" ∧ y_L_holds.cls ≠ "java/lang/invoke/VarHandle" ∧ (parseMethodDescriptor y_L_holds.desc).map (fun d => d.parameters.length) = some 4 := by decide +kernel
abbrev b_C_holds : ByteArray := prog_1_method_6_code
def y_C_holds : MethodName := ⟨"CacheLevels", "holds", "(II)I"⟩
theorem cd_C_holds : Cond.code y_C_holds b_C_holds 5 (some .int) ∈ tbW := tw 397 (by decide +kernel) (by decide +kernel)
theorem in_C_holds : Cond.instanceMethod y_C_holds ∈ tbW := tw 395 (by decide +kernel) (by decide +kernel)
theorem se_C_holds : Cond.selects "CacheLevels" y_C_holds y_C_holds ∈ tbW := tw 396 (by decide +kernel) (by decide +kernel)
theorem hd_C_holds : y_C_holds.cls = "CacheLevels" ∧ y_C_holds.cls ≠ "java/lang/invoke/MethodHandle" ∧ y_C_holds.cls ≠ "java/lang/invoke/VarHandle" ∧ (parseMethodDescriptor y_C_holds.desc).map (fun d => d.parameters.length) = some 2 := by decide +kernel
abbrev b_C_requireCoreOrNone : ByteArray := prog_1_method_15_code
def y_C_requireCoreOrNone : MethodName := ⟨"CacheLevels", "requireCoreOrNone", "(I)V"⟩
theorem cd_C_requireCoreOrNone : Cond.code y_C_requireCoreOrNone b_C_requireCoreOrNone 2 none ∈ tbW := tw 401 (by decide +kernel) (by decide +kernel)
theorem in_C_requireCoreOrNone : Cond.instanceMethod y_C_requireCoreOrNone ∈ tbW := tw 400 (by decide +kernel) (by decide +kernel)
theorem se_C_requireCoreOrNone : Cond.selects y_C_requireCoreOrNone.cls y_C_requireCoreOrNone y_C_requireCoreOrNone ∈ tbW := tp 15 (by decide +kernel) (by decide +kernel)
theorem hd_C_requireCoreOrNone : y_C_requireCoreOrNone.cls = "CacheLevels" ∧ y_C_requireCoreOrNone.cls ≠ "java/lang/invoke/MethodHandle" ∧ y_C_requireCoreOrNone.cls ≠ "java/lang/invoke/VarHandle" ∧ (parseMethodDescriptor y_C_requireCoreOrNone.desc).map (fun d => d.parameters.length) = some 1 := by decide +kernel
abbrev b_C_bankOf : ByteArray := prog_1_method_16_code
def y_C_bankOf : MethodName := ⟨"CacheLevels", "bankOf", "(I)LCacheLevels$Bank;"⟩
theorem cd_C_bankOf : Cond.code y_C_bankOf b_C_bankOf 2 (some (.object "CacheLevels$Bank")) ∈ tbW := tw 405 (by decide +kernel) (by decide +kernel)
theorem in_C_bankOf : Cond.instanceMethod y_C_bankOf ∈ tbW := tw 404 (by decide +kernel) (by decide +kernel)
theorem se_C_bankOf : Cond.selects y_C_bankOf.cls y_C_bankOf y_C_bankOf ∈ tbW := tp 16 (by decide +kernel) (by decide +kernel)
theorem hd_C_bankOf : y_C_bankOf.cls = "CacheLevels" ∧ y_C_bankOf.cls ≠ "java/lang/invoke/MethodHandle" ∧ y_C_bankOf.cls ≠ "java/lang/invoke/VarHandle" ∧ (parseMethodDescriptor y_C_bankOf.desc).map (fun d => d.parameters.length) = some 1 := by decide +kernel
abbrev b_C_groupOf : ByteArray := prog_1_method_17_code
def y_C_groupOf : MethodName := ⟨"CacheLevels", "groupOf", "(I)I"⟩
theorem cd_C_groupOf : Cond.code y_C_groupOf b_C_groupOf 1 (some .int) ∈ tbW := tw 408 (by decide +kernel) (by decide +kernel)
theorem st_C_groupOf : Cond.static y_C_groupOf ∈ tbW := tw 407 (by decide +kernel) (by decide +kernel)
theorem hd_C_groupOf : y_C_groupOf.cls ≠ "java/lang/invoke/MethodHandle" ∧ y_C_groupOf.cls ≠ "java/lang/invoke/VarHandle" ∧ (parseMethodDescriptor y_C_groupOf.desc).map (fun d => d.parameters.length) = some 1 := by decide +kernel
abbrev b_L_version : ByteArray := method_6_code
def y_L_version : MethodName := ⟨"CacheLevelsLaw", "version", "(LCacheLevels;II[J)I"⟩
theorem st_L_version : Cond.static y_L_version ∈ tbW := tw 410 (by decide +kernel) (by decide +kernel)
theorem hd_L_version : y_L_version.cls ≠ "java/lang/invoke/MethodHandle" ∧ y_L_version.cls ≠ "java/lang/invoke/VarHandle" ∧ (parseMethodDescriptor y_L_version.desc).map (fun d => d.parameters.length) = some 4 := by decide +kernel
abbrev b_C_version : ByteArray := prog_1_method_7_code
def y_C_version : MethodName := ⟨"CacheLevels", "version", "(II)I"⟩
theorem cd_C_version : Cond.code y_C_version b_C_version 6 (some .int) ∈ tbW := tw 415 (by decide +kernel) (by decide +kernel)
theorem in_C_version : Cond.instanceMethod y_C_version ∈ tbW := tw 413 (by decide +kernel) (by decide +kernel)
theorem se_C_version : Cond.selects "CacheLevels" y_C_version y_C_version ∈ tbW := tw 414 (by decide +kernel) (by decide +kernel)
theorem hd_C_version : y_C_version.cls = "CacheLevels" ∧ y_C_version.cls ≠ "java/lang/invoke/MethodHandle" ∧ y_C_version.cls ≠ "java/lang/invoke/VarHandle" ∧ (parseMethodDescriptor y_C_version.desc).map (fun d => d.parameters.length) = some 2 := by decide +kernel
abbrev b_L_line : ByteArray := method_7_code
def y_L_line : MethodName := ⟨"CacheLevelsLaw", "line", "(LCacheLevels;III[J)I"⟩
theorem st_L_line : Cond.static y_L_line ∈ tbW := tw 417 (by decide +kernel) (by decide +kernel)
theorem hd_L_line : y_L_line.cls ≠ "java/lang/invoke/MethodHandle" ∧ y_L_line.cls ≠ "java/lang/invoke/VarHandle" ∧ (parseMethodDescriptor y_L_line.desc).map (fun d => d.parameters.length) = some 5 := by decide +kernel
abbrev b_C_line : ByteArray := prog_1_method_9_code
def y_C_line : MethodName := ⟨"CacheLevels", "line", "(III)I"⟩
theorem cd_C_line : Cond.code y_C_line b_C_line 6 (some .int) ∈ tbW := tw 422 (by decide +kernel) (by decide +kernel)
theorem in_C_line : Cond.instanceMethod y_C_line ∈ tbW := tw 420 (by decide +kernel) (by decide +kernel)
theorem se_C_line : Cond.selects "CacheLevels" y_C_line y_C_line ∈ tbW := tw 421 (by decide +kernel) (by decide +kernel)
theorem hd_C_line : y_C_line.cls = "CacheLevels" ∧ y_C_line.cls ≠ "java/lang/invoke/MethodHandle" ∧ y_C_line.cls ≠ "java/lang/invoke/VarHandle" ∧ (parseMethodDescriptor y_C_line.desc).map (fun d => d.parameters.length) = some 3 := by decide +kernel
abbrev b_L_core : ByteArray := method_8_code
def y_L_core : MethodName := ⟨"CacheLevelsLaw", "core", "(LCacheLevels;II[J)I"⟩
theorem st_L_core : Cond.static y_L_core ∈ tbW := tw 427 (by decide +kernel) (by decide +kernel)
theorem hd_L_core : y_L_core.cls ≠ "java/lang/invoke/MethodHandle" ∧ y_L_core.cls ≠ "java/lang/invoke/VarHandle" ∧ (parseMethodDescriptor y_L_core.desc).map (fun d => d.parameters.length) = some 4 := by decide +kernel
abbrev b_C_core : ByteArray := prog_1_method_12_code
def y_C_core : MethodName := ⟨"CacheLevels", "core", "(II)I"⟩
theorem cd_C_core : Cond.code y_C_core b_C_core 3 (some .int) ∈ tbW := tw 432 (by decide +kernel) (by decide +kernel)
theorem in_C_core : Cond.instanceMethod y_C_core ∈ tbW := tw 430 (by decide +kernel) (by decide +kernel)
theorem se_C_core : Cond.selects "CacheLevels" y_C_core y_C_core ∈ tbW := tw 431 (by decide +kernel) (by decide +kernel)
theorem hd_C_core : y_C_core.cls = "CacheLevels" ∧ y_C_core.cls ≠ "java/lang/invoke/MethodHandle" ∧ y_C_core.cls ≠ "java/lang/invoke/VarHandle" ∧ (parseMethodDescriptor y_C_core.desc).map (fun d => d.parameters.length) = some 2 := by decide +kernel
abbrev b_B_ownedBy : ByteArray := prog_2_method_18_code
def y_B_ownedBy : MethodName := ⟨"CacheLevels$Bank", "ownedBy", "(I)I"⟩
theorem cd_B_ownedBy : Cond.code y_B_ownedBy b_B_ownedBy 4 (some .int) ∈ tbW := tw 437 (by decide +kernel) (by decide +kernel)
theorem in_B_ownedBy : Cond.instanceMethod y_B_ownedBy ∈ tbW := tw 435 (by decide +kernel) (by decide +kernel)
theorem se_B_ownedBy : Cond.selects "CacheLevels$Bank" y_B_ownedBy y_B_ownedBy ∈ tbW := tw 436 (by decide +kernel) (by decide +kernel)
theorem hd_B_ownedBy : y_B_ownedBy.cls = "CacheLevels$Bank" ∧ y_B_ownedBy.cls ≠ "java/lang/invoke/MethodHandle" ∧ y_B_ownedBy.cls ≠ "java/lang/invoke/VarHandle" ∧ (parseMethodDescriptor y_B_ownedBy.desc).map (fun d => d.parameters.length) = some 1 := by decide +kernel
abbrev b_M_init : ByteArray := prog_5_method_1_code
def y_M_init : MethodName := ⟨"CacheLevelsModel", "<init>", "(IIII)V"⟩
theorem cd_M_init : Cond.code y_M_init b_M_init 5 none ∈ tbW := tw 443 (by decide +kernel) (by decide +kernel)
theorem in_M_init : Cond.instanceMethod y_M_init ∈ tbW := tw 442 (by decide +kernel) (by decide +kernel)
theorem hd_M_init : y_M_init.cls = "CacheLevelsModel" ∧ y_M_init.cls ≠ "java/lang/invoke/MethodHandle" ∧ y_M_init.cls ≠ "java/lang/invoke/VarHandle" ∧ (parseMethodDescriptor y_M_init.desc).map (fun d => d.parameters.length) = some 4 := by decide +kernel
abbrev b_M_modulo : ByteArray := prog_5_method_2_code
def y_M_modulo : MethodName := ⟨"CacheLevelsModel", "modulo", "(II)I"⟩
theorem cd_M_modulo : Cond.code y_M_modulo b_M_modulo 2 (some .int) ∈ tbW := tw 447 (by decide +kernel) (by decide +kernel)
theorem st_M_modulo : Cond.static y_M_modulo ∈ tbW := tw 446 (by decide +kernel) (by decide +kernel)
theorem hd_M_modulo : y_M_modulo.cls ≠ "java/lang/invoke/MethodHandle" ∧ y_M_modulo.cls ≠ "java/lang/invoke/VarHandle" ∧ (parseMethodDescriptor y_M_modulo.desc).map (fun d => d.parameters.length) = some 2 := by decide +kernel
abbrev b_M_thrown : ByteArray := prog_5_method_3_code
def y_M_thrown : MethodName := ⟨"CacheLevelsModel", "thrown", "()I"⟩
theorem cd_M_thrown : Cond.code y_M_thrown b_M_thrown 1 (some .int) ∈ tbW := tw 512 (by decide +kernel) (by decide +kernel)
theorem in_M_thrown : Cond.instanceMethod y_M_thrown ∈ tbW := tw 510 (by decide +kernel) (by decide +kernel)
theorem se_M_thrown : Cond.selects "CacheLevelsModel" y_M_thrown y_M_thrown ∈ tbW := tw 511 (by decide +kernel) (by decide +kernel)
theorem hd_M_thrown : y_M_thrown.cls = "CacheLevelsModel" ∧ y_M_thrown.cls ≠ "java/lang/invoke/MethodHandle" ∧ y_M_thrown.cls ≠ "java/lang/invoke/VarHandle" ∧ (parseMethodDescriptor y_M_thrown.desc).map (fun d => d.parameters.length) = some 0 := by decide +kernel
abbrev b_M_access : ByteArray := prog_5_method_28_code
def y_M_access : MethodName := ⟨"CacheLevelsModel", "access", "(III)I"⟩
theorem cd_M_access : Cond.code y_M_access b_M_access 7 (some .int) ∈ tbW := tw 516 (by decide +kernel) (by decide +kernel)
theorem in_M_access : Cond.instanceMethod y_M_access ∈ tbW := tw 514 (by decide +kernel) (by decide +kernel)
theorem se_M_access : Cond.selects "CacheLevelsModel" y_M_access y_M_access ∈ tbW := tw 515 (by decide +kernel) (by decide +kernel)
theorem hd_M_access : y_M_access.cls = "CacheLevelsModel" ∧ y_M_access.cls ≠ "java/lang/invoke/MethodHandle" ∧ y_M_access.cls ≠ "java/lang/invoke/VarHandle" ∧ (parseMethodDescriptor y_M_access.desc).map (fun d => d.parameters.length) = some 3 := by decide +kernel
abbrev b_M_isCore : ByteArray := prog_5_method_6_code
def y_M_isCore : MethodName := ⟨"CacheLevelsModel", "isCore", "(I)Z"⟩
theorem cd_M_isCore : Cond.code y_M_isCore b_M_isCore 2 (some .boolean) ∈ tbW := tw 520 (by decide +kernel) (by decide +kernel)
theorem in_M_isCore : Cond.instanceMethod y_M_isCore ∈ tbW := tw 519 (by decide +kernel) (by decide +kernel)
theorem se_M_isCore : Cond.selects y_M_isCore.cls y_M_isCore y_M_isCore ∈ tbW := tp 17 (by decide +kernel) (by decide +kernel)
theorem hd_M_isCore : y_M_isCore.cls = "CacheLevelsModel" ∧ y_M_isCore.cls ≠ "java/lang/invoke/MethodHandle" ∧ y_M_isCore.cls ≠ "java/lang/invoke/VarHandle" ∧ (parseMethodDescriptor y_M_isCore.desc).map (fun d => d.parameters.length) = some 1 := by decide +kernel
abbrev b_M_within : ByteArray := prog_5_method_5_code
def y_M_within : MethodName := ⟨"CacheLevelsModel", "within", "(III)Z"⟩
theorem cd_M_within : Cond.code y_M_within b_M_within 3 (some .boolean) ∈ tbW := tw 523 (by decide +kernel) (by decide +kernel)
theorem st_M_within : Cond.static y_M_within ∈ tbW := tw 522 (by decide +kernel) (by decide +kernel)
theorem hd_M_within : y_M_within.cls ≠ "java/lang/invoke/MethodHandle" ∧ y_M_within.cls ≠ "java/lang/invoke/VarHandle" ∧ (parseMethodDescriptor y_M_within.desc).map (fun d => d.parameters.length) = some 3 := by decide +kernel
abbrev b_M_fail : ByteArray := prog_5_method_4_code
def y_M_fail : MethodName := ⟨"CacheLevelsModel", "fail", "(I)I"⟩
theorem cd_M_fail : Cond.code y_M_fail b_M_fail 2 (some .int) ∈ tbW := tw 527 (by decide +kernel) (by decide +kernel)
theorem in_M_fail : Cond.instanceMethod y_M_fail ∈ tbW := tw 526 (by decide +kernel) (by decide +kernel)
theorem se_M_fail : Cond.selects y_M_fail.cls y_M_fail y_M_fail ∈ tbW := tp 18 (by decide +kernel) (by decide +kernel)
theorem hd_M_fail : y_M_fail.cls = "CacheLevelsModel" ∧ y_M_fail.cls ≠ "java/lang/invoke/MethodHandle" ∧ y_M_fail.cls ≠ "java/lang/invoke/VarHandle" ∧ (parseMethodDescriptor y_M_fail.desc).map (fun d => d.parameters.length) = some 1 := by decide +kernel
abbrev b_M_at : ByteArray := prog_5_method_11_code
def y_M_at : MethodName := ⟨"CacheLevelsModel", "at", "(II)I"⟩
theorem cd_M_at : Cond.code y_M_at b_M_at 4 (some .int) ∈ tbW := tw 531 (by decide +kernel) (by decide +kernel)
theorem in_M_at : Cond.instanceMethod y_M_at ∈ tbW := tw 530 (by decide +kernel) (by decide +kernel)
theorem se_M_at : Cond.selects y_M_at.cls y_M_at y_M_at ∈ tbW := tp 19 (by decide +kernel) (by decide +kernel)
theorem hd_M_at : y_M_at.cls = "CacheLevelsModel" ∧ y_M_at.cls ≠ "java/lang/invoke/MethodHandle" ∧ y_M_at.cls ≠ "java/lang/invoke/VarHandle" ∧ (parseMethodDescriptor y_M_at.desc).map (fun d => d.parameters.length) = some 2 := by decide +kernel
abbrev b_M_bring : ByteArray := prog_5_method_27_code
def y_M_bring : MethodName := ⟨"CacheLevelsModel", "bring", "(II)I"⟩
theorem cd_M_bring : Cond.code y_M_bring b_M_bring 6 (some .int) ∈ tbW := tw 535 (by decide +kernel) (by decide +kernel)
theorem in_M_bring : Cond.instanceMethod y_M_bring ∈ tbW := tw 534 (by decide +kernel) (by decide +kernel)
theorem se_M_bring : Cond.selects y_M_bring.cls y_M_bring y_M_bring ∈ tbW := tp 20 (by decide +kernel) (by decide +kernel)
theorem hd_M_bring : y_M_bring.cls = "CacheLevelsModel" ∧ y_M_bring.cls ≠ "java/lang/invoke/MethodHandle" ∧ y_M_bring.cls ≠ "java/lang/invoke/VarHandle" ∧ (parseMethodDescriptor y_M_bring.desc).map (fun d => d.parameters.length) = some 2 := by decide +kernel
abbrev b_M_handOver : ByteArray := prog_5_method_25_code
def y_M_handOver : MethodName := ⟨"CacheLevelsModel", "handOver", "(II)V"⟩
theorem cd_M_handOver : Cond.code y_M_handOver b_M_handOver 5 none ∈ tbW := tw 539 (by decide +kernel) (by decide +kernel)
theorem in_M_handOver : Cond.instanceMethod y_M_handOver ∈ tbW := tw 538 (by decide +kernel) (by decide +kernel)
theorem se_M_handOver : Cond.selects y_M_handOver.cls y_M_handOver y_M_handOver ∈ tbW := tp 21 (by decide +kernel) (by decide +kernel)
theorem hd_M_handOver : y_M_handOver.cls = "CacheLevelsModel" ∧ y_M_handOver.cls ≠ "java/lang/invoke/MethodHandle" ∧ y_M_handOver.cls ≠ "java/lang/invoke/VarHandle" ∧ (parseMethodDescriptor y_M_handOver.desc).map (fun d => d.parameters.length) = some 2 := by decide +kernel
abbrev b_M_goDown : ByteArray := prog_5_method_18_code
def y_M_goDown : MethodName := ⟨"CacheLevelsModel", "goDown", "(II)V"⟩
theorem cd_M_goDown : Cond.code y_M_goDown b_M_goDown 4 none ∈ tbW := tw 543 (by decide +kernel) (by decide +kernel)
theorem in_M_goDown : Cond.instanceMethod y_M_goDown ∈ tbW := tw 542 (by decide +kernel) (by decide +kernel)
theorem se_M_goDown : Cond.selects y_M_goDown.cls y_M_goDown y_M_goDown ∈ tbW := tp 22 (by decide +kernel) (by decide +kernel)
theorem hd_M_goDown : y_M_goDown.cls = "CacheLevelsModel" ∧ y_M_goDown.cls ≠ "java/lang/invoke/MethodHandle" ∧ y_M_goDown.cls ≠ "java/lang/invoke/VarHandle" ∧ (parseMethodDescriptor y_M_goDown.desc).map (fun d => d.parameters.length) = some 2 := by decide +kernel
abbrev b_M_toMemory : ByteArray := prog_5_method_17_code
def y_M_toMemory : MethodName := ⟨"CacheLevelsModel", "toMemory", "(II)V"⟩
theorem cd_M_toMemory : Cond.code y_M_toMemory b_M_toMemory 3 none ∈ tbW := tw 547 (by decide +kernel) (by decide +kernel)
theorem in_M_toMemory : Cond.instanceMethod y_M_toMemory ∈ tbW := tw 546 (by decide +kernel) (by decide +kernel)
theorem se_M_toMemory : Cond.selects y_M_toMemory.cls y_M_toMemory y_M_toMemory ∈ tbW := tp 23 (by decide +kernel) (by decide +kernel)
theorem hd_M_toMemory : y_M_toMemory.cls = "CacheLevelsModel" ∧ y_M_toMemory.cls ≠ "java/lang/invoke/MethodHandle" ∧ y_M_toMemory.cls ≠ "java/lang/invoke/VarHandle" ∧ (parseMethodDescriptor y_M_toMemory.desc).map (fun d => d.parameters.length) = some 2 := by decide +kernel
abbrev b_M_learn : ByteArray := prog_5_method_8_code
def y_M_learn : MethodName := ⟨"CacheLevelsModel", "learn", "(I)I"⟩
theorem cd_M_learn : Cond.code y_M_learn b_M_learn 3 (some .int) ∈ tbW := tw 551 (by decide +kernel) (by decide +kernel)
theorem in_M_learn : Cond.instanceMethod y_M_learn ∈ tbW := tw 550 (by decide +kernel) (by decide +kernel)
theorem se_M_learn : Cond.selects y_M_learn.cls y_M_learn y_M_learn ∈ tbW := tp 24 (by decide +kernel) (by decide +kernel)
theorem hd_M_learn : y_M_learn.cls = "CacheLevelsModel" ∧ y_M_learn.cls ≠ "java/lang/invoke/MethodHandle" ∧ y_M_learn.cls ≠ "java/lang/invoke/VarHandle" ∧ (parseMethodDescriptor y_M_learn.desc).map (fun d => d.parameters.length) = some 1 := by decide +kernel
abbrev b_M_find : ByteArray := prog_5_method_7_code
def y_M_find : MethodName := ⟨"CacheLevelsModel", "find", "(I)I"⟩
theorem cd_M_find : Cond.code y_M_find b_M_find 3 (some .int) ∈ tbW := tw 555 (by decide +kernel) (by decide +kernel)
theorem in_M_find : Cond.instanceMethod y_M_find ∈ tbW := tw 554 (by decide +kernel) (by decide +kernel)
theorem se_M_find : Cond.selects y_M_find.cls y_M_find y_M_find ∈ tbW := tp 25 (by decide +kernel) (by decide +kernel)
theorem hd_M_find : y_M_find.cls = "CacheLevelsModel" ∧ y_M_find.cls ≠ "java/lang/invoke/MethodHandle" ∧ y_M_find.cls ≠ "java/lang/invoke/VarHandle" ∧ (parseMethodDescriptor y_M_find.desc).map (fun d => d.parameters.length) = some 1 := by decide +kernel
abbrev b_M_takeOut : ByteArray := prog_5_method_13_code
def y_M_takeOut : MethodName := ⟨"CacheLevelsModel", "takeOut", "(II)V"⟩
theorem cd_M_takeOut : Cond.code y_M_takeOut b_M_takeOut 4 none ∈ tbW := tw 559 (by decide +kernel) (by decide +kernel)
theorem in_M_takeOut : Cond.instanceMethod y_M_takeOut ∈ tbW := tw 558 (by decide +kernel) (by decide +kernel)
theorem se_M_takeOut : Cond.selects y_M_takeOut.cls y_M_takeOut y_M_takeOut ∈ tbW := tp 26 (by decide +kernel) (by decide +kernel)
theorem hd_M_takeOut : y_M_takeOut.cls = "CacheLevelsModel" ∧ y_M_takeOut.cls ≠ "java/lang/invoke/MethodHandle" ∧ y_M_takeOut.cls ≠ "java/lang/invoke/VarHandle" ∧ (parseMethodDescriptor y_M_takeOut.desc).map (fun d => d.parameters.length) = some 2 := by decide +kernel
abbrev b_M_copy : ByteArray := prog_5_method_12_code
def y_M_copy : MethodName := ⟨"CacheLevelsModel", "copy", "(II)V"⟩
theorem cd_M_copy : Cond.code y_M_copy b_M_copy 3 none ∈ tbW := tw 563 (by decide +kernel) (by decide +kernel)
theorem in_M_copy : Cond.instanceMethod y_M_copy ∈ tbW := tw 562 (by decide +kernel) (by decide +kernel)
theorem se_M_copy : Cond.selects y_M_copy.cls y_M_copy y_M_copy ∈ tbW := tp 27 (by decide +kernel) (by decide +kernel)
theorem hd_M_copy : y_M_copy.cls = "CacheLevelsModel" ∧ y_M_copy.cls ≠ "java/lang/invoke/MethodHandle" ∧ y_M_copy.cls ≠ "java/lang/invoke/VarHandle" ∧ (parseMethodDescriptor y_M_copy.desc).map (fun d => d.parameters.length) = some 2 := by decide +kernel
abbrev b_M_use : ByteArray := prog_5_method_15_code
def y_M_use : MethodName := ⟨"CacheLevelsModel", "use", "(II)V"⟩
theorem cd_M_use : Cond.code y_M_use b_M_use 7 none ∈ tbW := tw 567 (by decide +kernel) (by decide +kernel)
theorem in_M_use : Cond.instanceMethod y_M_use ∈ tbW := tw 566 (by decide +kernel) (by decide +kernel)
theorem se_M_use : Cond.selects y_M_use.cls y_M_use y_M_use ∈ tbW := tp 28 (by decide +kernel) (by decide +kernel)
theorem hd_M_use : y_M_use.cls = "CacheLevelsModel" ∧ y_M_use.cls ≠ "java/lang/invoke/MethodHandle" ∧ y_M_use.cls ≠ "java/lang/invoke/VarHandle" ∧ (parseMethodDescriptor y_M_use.desc).map (fun d => d.parameters.length) = some 2 := by decide +kernel
abbrev b_M_putFirst : ByteArray := prog_5_method_14_code
def y_M_putFirst : MethodName := ⟨"CacheLevelsModel", "putFirst", "(IIZII)V"⟩
theorem cd_M_putFirst : Cond.code y_M_putFirst b_M_putFirst 7 none ∈ tbW := tw 571 (by decide +kernel) (by decide +kernel)
theorem in_M_putFirst : Cond.instanceMethod y_M_putFirst ∈ tbW := tw 570 (by decide +kernel) (by decide +kernel)
theorem se_M_putFirst : Cond.selects y_M_putFirst.cls y_M_putFirst y_M_putFirst ∈ tbW := tp 29 (by decide +kernel) (by decide +kernel)
theorem hd_M_putFirst : y_M_putFirst.cls = "CacheLevelsModel" ∧ y_M_putFirst.cls ≠ "java/lang/invoke/MethodHandle" ∧ y_M_putFirst.cls ≠ "java/lang/invoke/VarHandle" ∧ (parseMethodDescriptor y_M_putFirst.desc).map (fun d => d.parameters.length) = some 5 := by decide +kernel
abbrev b_M_comeToFirst : ByteArray := prog_5_method_23_code
def y_M_comeToFirst : MethodName := ⟨"CacheLevelsModel", "comeToFirst", "(IIZI)V"⟩
theorem cd_M_comeToFirst : Cond.code y_M_comeToFirst b_M_comeToFirst 9 none ∈ tbW := tw 575 (by decide +kernel) (by decide +kernel)
theorem in_M_comeToFirst : Cond.instanceMethod y_M_comeToFirst ∈ tbW := tw 574 (by decide +kernel) (by decide +kernel)
theorem se_M_comeToFirst : Cond.selects y_M_comeToFirst.cls y_M_comeToFirst y_M_comeToFirst ∈ tbW := tp 30 (by decide +kernel) (by decide +kernel)
theorem hd_M_comeToFirst : y_M_comeToFirst.cls = "CacheLevelsModel" ∧ y_M_comeToFirst.cls ≠ "java/lang/invoke/MethodHandle" ∧ y_M_comeToFirst.cls ≠ "java/lang/invoke/VarHandle" ∧ (parseMethodDescriptor y_M_comeToFirst.desc).map (fun d => d.parameters.length) = some 4 := by decide +kernel
abbrev b_M_setOf : ByteArray := prog_5_method_10_code
def y_M_setOf : MethodName := ⟨"CacheLevelsModel", "setOf", "(II)I"⟩
theorem cd_M_setOf : Cond.code y_M_setOf b_M_setOf 3 (some .int) ∈ tbW := tw 579 (by decide +kernel) (by decide +kernel)
theorem in_M_setOf : Cond.instanceMethod y_M_setOf ∈ tbW := tw 578 (by decide +kernel) (by decide +kernel)
theorem se_M_setOf : Cond.selects y_M_setOf.cls y_M_setOf y_M_setOf ∈ tbW := tp 31 (by decide +kernel) (by decide +kernel)
theorem hd_M_setOf : y_M_setOf.cls = "CacheLevelsModel" ∧ y_M_setOf.cls ≠ "java/lang/invoke/MethodHandle" ∧ y_M_setOf.cls ≠ "java/lang/invoke/VarHandle" ∧ (parseMethodDescriptor y_M_setOf.desc).map (fun d => d.parameters.length) = some 2 := by decide +kernel
abbrev b_M_sets : ByteArray := prog_5_method_9_code
def y_M_sets : MethodName := ⟨"CacheLevelsModel", "sets", "(I)I"⟩
theorem cd_M_sets : Cond.code y_M_sets b_M_sets 2 (some .int) ∈ tbW := tw 583 (by decide +kernel) (by decide +kernel)
theorem in_M_sets : Cond.instanceMethod y_M_sets ∈ tbW := tw 582 (by decide +kernel) (by decide +kernel)
theorem se_M_sets : Cond.selects y_M_sets.cls y_M_sets y_M_sets ∈ tbW := tp 32 (by decide +kernel) (by decide +kernel)
theorem hd_M_sets : y_M_sets.cls = "CacheLevelsModel" ∧ y_M_sets.cls ≠ "java/lang/invoke/MethodHandle" ∧ y_M_sets.cls ≠ "java/lang/invoke/VarHandle" ∧ (parseMethodDescriptor y_M_sets.desc).map (fun d => d.parameters.length) = some 1 := by decide +kernel
abbrev b_M_oldest : ByteArray := prog_5_method_16_code
def y_M_oldest : MethodName := ⟨"CacheLevelsModel", "oldest", "(IIII)I"⟩
theorem cd_M_oldest : Cond.code y_M_oldest b_M_oldest 8 (some .int) ∈ tbW := tw 587 (by decide +kernel) (by decide +kernel)
theorem in_M_oldest : Cond.instanceMethod y_M_oldest ∈ tbW := tw 586 (by decide +kernel) (by decide +kernel)
theorem se_M_oldest : Cond.selects y_M_oldest.cls y_M_oldest y_M_oldest ∈ tbW := tp 33 (by decide +kernel) (by decide +kernel)
theorem hd_M_oldest : y_M_oldest.cls = "CacheLevelsModel" ∧ y_M_oldest.cls ≠ "java/lang/invoke/MethodHandle" ∧ y_M_oldest.cls ≠ "java/lang/invoke/VarHandle" ∧ (parseMethodDescriptor y_M_oldest.desc).map (fun d => d.parameters.length) = some 4 := by decide +kernel
abbrev b_M_passes : ByteArray := prog_5_method_20_code
def y_M_passes : MethodName := ⟨"CacheLevelsModel", "passes", "(I)Z"⟩
theorem cd_M_passes : Cond.code y_M_passes b_M_passes 2 (some .boolean) ∈ tbW := tw 591 (by decide +kernel) (by decide +kernel)
theorem in_M_passes : Cond.instanceMethod y_M_passes ∈ tbW := tw 590 (by decide +kernel) (by decide +kernel)
theorem se_M_passes : Cond.selects y_M_passes.cls y_M_passes y_M_passes ∈ tbW := tp 34 (by decide +kernel) (by decide +kernel)
theorem hd_M_passes : y_M_passes.cls = "CacheLevelsModel" ∧ y_M_passes.cls ≠ "java/lang/invoke/MethodHandle" ∧ y_M_passes.cls ≠ "java/lang/invoke/VarHandle" ∧ (parseMethodDescriptor y_M_passes.desc).map (fun d => d.parameters.length) = some 1 := by decide +kernel
abbrev b_M_isOneOf : ByteArray := prog_5_method_19_code
def y_M_isOneOf : MethodName := ⟨"CacheLevelsModel", "isOneOf", "(II)Z"⟩
theorem cd_M_isOneOf : Cond.code y_M_isOneOf b_M_isOneOf 5 (some .boolean) ∈ tbW := tw 595 (by decide +kernel) (by decide +kernel)
theorem in_M_isOneOf : Cond.instanceMethod y_M_isOneOf ∈ tbW := tw 594 (by decide +kernel) (by decide +kernel)
theorem se_M_isOneOf : Cond.selects y_M_isOneOf.cls y_M_isOneOf y_M_isOneOf ∈ tbW := tp 35 (by decide +kernel) (by decide +kernel)
theorem hd_M_isOneOf : y_M_isOneOf.cls = "CacheLevelsModel" ∧ y_M_isOneOf.cls ≠ "java/lang/invoke/MethodHandle" ∧ y_M_isOneOf.cls ≠ "java/lang/invoke/VarHandle" ∧ (parseMethodDescriptor y_M_isOneOf.desc).map (fun d => d.parameters.length) = some 2 := by decide +kernel
abbrev b_M_comeToSecond : ByteArray := prog_5_method_22_code
def y_M_comeToSecond : MethodName := ⟨"CacheLevelsModel", "comeToSecond", "(IIZI)V"⟩
theorem cd_M_comeToSecond : Cond.code y_M_comeToSecond b_M_comeToSecond 7 none ∈ tbW := tw 599 (by decide +kernel) (by decide +kernel)
theorem in_M_comeToSecond : Cond.instanceMethod y_M_comeToSecond ∈ tbW := tw 598 (by decide +kernel) (by decide +kernel)
theorem se_M_comeToSecond : Cond.selects y_M_comeToSecond.cls y_M_comeToSecond y_M_comeToSecond ∈ tbW := tp 36 (by decide +kernel) (by decide +kernel)
theorem hd_M_comeToSecond : y_M_comeToSecond.cls = "CacheLevelsModel" ∧ y_M_comeToSecond.cls ≠ "java/lang/invoke/MethodHandle" ∧ y_M_comeToSecond.cls ≠ "java/lang/invoke/VarHandle" ∧ (parseMethodDescriptor y_M_comeToSecond.desc).map (fun d => d.parameters.length) = some 4 := by decide +kernel
abbrev b_M_leaveSecond : ByteArray := prog_5_method_21_code
def y_M_leaveSecond : MethodName := ⟨"CacheLevelsModel", "leaveSecond", "(I)V"⟩
theorem cd_M_leaveSecond : Cond.code y_M_leaveSecond b_M_leaveSecond 7 none ∈ tbW := tw 603 (by decide +kernel) (by decide +kernel)
theorem in_M_leaveSecond : Cond.instanceMethod y_M_leaveSecond ∈ tbW := tw 602 (by decide +kernel) (by decide +kernel)
theorem se_M_leaveSecond : Cond.selects y_M_leaveSecond.cls y_M_leaveSecond y_M_leaveSecond ∈ tbW := tp 37 (by decide +kernel) (by decide +kernel)
theorem hd_M_leaveSecond : y_M_leaveSecond.cls = "CacheLevelsModel" ∧ y_M_leaveSecond.cls ≠ "java/lang/invoke/MethodHandle" ∧ y_M_leaveSecond.cls ≠ "java/lang/invoke/VarHandle" ∧ (parseMethodDescriptor y_M_leaveSecond.desc).map (fun d => d.parameters.length) = some 1 := by decide +kernel
abbrev b_M_memoryOf : ByteArray := prog_5_method_26_code
def y_M_memoryOf : MethodName := ⟨"CacheLevelsModel", "memoryOf", "(I)I"⟩
theorem cd_M_memoryOf : Cond.code y_M_memoryOf b_M_memoryOf 3 (some .int) ∈ tbW := tw 607 (by decide +kernel) (by decide +kernel)
theorem in_M_memoryOf : Cond.instanceMethod y_M_memoryOf ∈ tbW := tw 606 (by decide +kernel) (by decide +kernel)
theorem se_M_memoryOf : Cond.selects y_M_memoryOf.cls y_M_memoryOf y_M_memoryOf ∈ tbW := tp 38 (by decide +kernel) (by decide +kernel)
theorem hd_M_memoryOf : y_M_memoryOf.cls = "CacheLevelsModel" ∧ y_M_memoryOf.cls ≠ "java/lang/invoke/MethodHandle" ∧ y_M_memoryOf.cls ≠ "java/lang/invoke/VarHandle" ∧ (parseMethodDescriptor y_M_memoryOf.desc).map (fun d => d.parameters.length) = some 1 := by decide +kernel
abbrev b_M_othersLose : ByteArray := prog_5_method_24_code
def y_M_othersLose : MethodName := ⟨"CacheLevelsModel", "othersLose", "(II)V"⟩
theorem cd_M_othersLose : Cond.code y_M_othersLose b_M_othersLose 5 none ∈ tbW := tw 611 (by decide +kernel) (by decide +kernel)
theorem in_M_othersLose : Cond.instanceMethod y_M_othersLose ∈ tbW := tw 610 (by decide +kernel) (by decide +kernel)
theorem se_M_othersLose : Cond.selects y_M_othersLose.cls y_M_othersLose y_M_othersLose ∈ tbW := tp 39 (by decide +kernel) (by decide +kernel)
theorem hd_M_othersLose : y_M_othersLose.cls = "CacheLevelsModel" ∧ y_M_othersLose.cls ≠ "java/lang/invoke/MethodHandle" ∧ y_M_othersLose.cls ≠ "java/lang/invoke/VarHandle" ∧ (parseMethodDescriptor y_M_othersLose.desc).map (fun d => d.parameters.length) = some 2 := by decide +kernel
abbrev b_M_quota : ByteArray := prog_5_method_29_code
def y_M_quota : MethodName := ⟨"CacheLevelsModel", "quota", "(II)I"⟩
theorem cd_M_quota : Cond.code y_M_quota b_M_quota 4 (some .int) ∈ tbW := tw 615 (by decide +kernel) (by decide +kernel)
theorem in_M_quota : Cond.instanceMethod y_M_quota ∈ tbW := tw 613 (by decide +kernel) (by decide +kernel)
theorem se_M_quota : Cond.selects "CacheLevelsModel" y_M_quota y_M_quota ∈ tbW := tw 614 (by decide +kernel) (by decide +kernel)
theorem hd_M_quota : y_M_quota.cls = "CacheLevelsModel" ∧ y_M_quota.cls ≠ "java/lang/invoke/MethodHandle" ∧ y_M_quota.cls ≠ "java/lang/invoke/VarHandle" ∧ (parseMethodDescriptor y_M_quota.desc).map (fun d => d.parameters.length) = some 2 := by decide +kernel
abbrev b_M_bypass : ByteArray := prog_5_method_30_code
def y_M_bypass : MethodName := ⟨"CacheLevelsModel", "bypass", "(II)Z"⟩
theorem cd_M_bypass : Cond.code y_M_bypass b_M_bypass 4 (some .boolean) ∈ tbW := tw 619 (by decide +kernel) (by decide +kernel)
theorem in_M_bypass : Cond.instanceMethod y_M_bypass ∈ tbW := tw 617 (by decide +kernel) (by decide +kernel)
theorem se_M_bypass : Cond.selects "CacheLevelsModel" y_M_bypass y_M_bypass ∈ tbW := tw 618 (by decide +kernel) (by decide +kernel)
theorem hd_M_bypass : y_M_bypass.cls = "CacheLevelsModel" ∧ y_M_bypass.cls ≠ "java/lang/invoke/MethodHandle" ∧ y_M_bypass.cls ≠ "java/lang/invoke/VarHandle" ∧ (parseMethodDescriptor y_M_bypass.desc).map (fun d => d.parameters.length) = some 2 := by decide +kernel
abbrev b_M_flush : ByteArray := prog_5_method_32_code
def y_M_flush : MethodName := ⟨"CacheLevelsModel", "flush", "()I"⟩
theorem cd_M_flush : Cond.code y_M_flush b_M_flush 4 (some .int) ∈ tbW := tw 623 (by decide +kernel) (by decide +kernel)
theorem in_M_flush : Cond.instanceMethod y_M_flush ∈ tbW := tw 621 (by decide +kernel) (by decide +kernel)
theorem se_M_flush : Cond.selects "CacheLevelsModel" y_M_flush y_M_flush ∈ tbW := tw 622 (by decide +kernel) (by decide +kernel)
theorem hd_M_flush : y_M_flush.cls = "CacheLevelsModel" ∧ y_M_flush.cls ≠ "java/lang/invoke/MethodHandle" ∧ y_M_flush.cls ≠ "java/lang/invoke/VarHandle" ∧ (parseMethodDescriptor y_M_flush.desc).map (fun d => d.parameters.length) = some 0 := by decide +kernel
abbrev b_M_isWrittenInFirst : ByteArray := prog_5_method_31_code
def y_M_isWrittenInFirst : MethodName := ⟨"CacheLevelsModel", "isWrittenInFirst", "(I)Z"⟩
theorem cd_M_isWrittenInFirst : Cond.code y_M_isWrittenInFirst b_M_isWrittenInFirst 4 (some .boolean) ∈ tbW := tw 627 (by decide +kernel) (by decide +kernel)
theorem in_M_isWrittenInFirst : Cond.instanceMethod y_M_isWrittenInFirst ∈ tbW := tw 626 (by decide +kernel) (by decide +kernel)
theorem se_M_isWrittenInFirst : Cond.selects y_M_isWrittenInFirst.cls y_M_isWrittenInFirst y_M_isWrittenInFirst ∈ tbW := tp 40 (by decide +kernel) (by decide +kernel)
theorem hd_M_isWrittenInFirst : y_M_isWrittenInFirst.cls = "CacheLevelsModel" ∧ y_M_isWrittenInFirst.cls ≠ "java/lang/invoke/MethodHandle" ∧ y_M_isWrittenInFirst.cls ≠ "java/lang/invoke/VarHandle" ∧ (parseMethodDescriptor y_M_isWrittenInFirst.desc).map (fun d => d.parameters.length) = some 1 := by decide +kernel
abbrev b_M_holds : ByteArray := prog_5_method_34_code
def y_M_holds : MethodName := ⟨"CacheLevelsModel", "holds", "(II)I"⟩
theorem cd_M_holds : Cond.code y_M_holds b_M_holds 5 (some .int) ∈ tbW := tw 631 (by decide +kernel) (by decide +kernel)
theorem in_M_holds : Cond.instanceMethod y_M_holds ∈ tbW := tw 629 (by decide +kernel) (by decide +kernel)
theorem se_M_holds : Cond.selects "CacheLevelsModel" y_M_holds y_M_holds ∈ tbW := tw 630 (by decide +kernel) (by decide +kernel)
theorem hd_M_holds : y_M_holds.cls = "CacheLevelsModel" ∧ y_M_holds.cls ≠ "java/lang/invoke/MethodHandle" ∧ y_M_holds.cls ≠ "java/lang/invoke/VarHandle" ∧ (parseMethodDescriptor y_M_holds.desc).map (fun d => d.parameters.length) = some 2 := by decide +kernel
abbrev b_M_cacheOf : ByteArray := prog_5_method_33_code
def y_M_cacheOf : MethodName := ⟨"CacheLevelsModel", "cacheOf", "(I)I"⟩
theorem cd_M_cacheOf : Cond.code y_M_cacheOf b_M_cacheOf 3 (some .int) ∈ tbW := tw 635 (by decide +kernel) (by decide +kernel)
theorem in_M_cacheOf : Cond.instanceMethod y_M_cacheOf ∈ tbW := tw 634 (by decide +kernel) (by decide +kernel)
theorem se_M_cacheOf : Cond.selects y_M_cacheOf.cls y_M_cacheOf y_M_cacheOf ∈ tbW := tp 41 (by decide +kernel) (by decide +kernel)
theorem hd_M_cacheOf : y_M_cacheOf.cls = "CacheLevelsModel" ∧ y_M_cacheOf.cls ≠ "java/lang/invoke/MethodHandle" ∧ y_M_cacheOf.cls ≠ "java/lang/invoke/VarHandle" ∧ (parseMethodDescriptor y_M_cacheOf.desc).map (fun d => d.parameters.length) = some 1 := by decide +kernel
abbrev b_M_version : ByteArray := prog_5_method_35_code
def y_M_version : MethodName := ⟨"CacheLevelsModel", "version", "(II)I"⟩
theorem cd_M_version : Cond.code y_M_version b_M_version 5 (some .int) ∈ tbW := tw 639 (by decide +kernel) (by decide +kernel)
theorem in_M_version : Cond.instanceMethod y_M_version ∈ tbW := tw 637 (by decide +kernel) (by decide +kernel)
theorem se_M_version : Cond.selects "CacheLevelsModel" y_M_version y_M_version ∈ tbW := tw 638 (by decide +kernel) (by decide +kernel)
theorem hd_M_version : y_M_version.cls = "CacheLevelsModel" ∧ y_M_version.cls ≠ "java/lang/invoke/MethodHandle" ∧ y_M_version.cls ≠ "java/lang/invoke/VarHandle" ∧ (parseMethodDescriptor y_M_version.desc).map (fun d => d.parameters.length) = some 2 := by decide +kernel
abbrev b_M_memory : ByteArray := prog_5_method_36_code
def y_M_memory : MethodName := ⟨"CacheLevelsModel", "memory", "(I)I"⟩
theorem cd_M_memory : Cond.code y_M_memory b_M_memory 2 (some .int) ∈ tbW := tw 643 (by decide +kernel) (by decide +kernel)
theorem in_M_memory : Cond.instanceMethod y_M_memory ∈ tbW := tw 641 (by decide +kernel) (by decide +kernel)
theorem se_M_memory : Cond.selects "CacheLevelsModel" y_M_memory y_M_memory ∈ tbW := tw 642 (by decide +kernel) (by decide +kernel)
theorem hd_M_memory : y_M_memory.cls = "CacheLevelsModel" ∧ y_M_memory.cls ≠ "java/lang/invoke/MethodHandle" ∧ y_M_memory.cls ≠ "java/lang/invoke/VarHandle" ∧ (parseMethodDescriptor y_M_memory.desc).map (fun d => d.parameters.length) = some 1 := by decide +kernel
abbrev b_M_line : ByteArray := prog_5_method_37_code
def y_M_line : MethodName := ⟨"CacheLevelsModel", "line", "(III)I"⟩
theorem cd_M_line : Cond.code y_M_line b_M_line 7 (some .int) ∈ tbW := tw 647 (by decide +kernel) (by decide +kernel)
theorem in_M_line : Cond.instanceMethod y_M_line ∈ tbW := tw 645 (by decide +kernel) (by decide +kernel)
theorem se_M_line : Cond.selects "CacheLevelsModel" y_M_line y_M_line ∈ tbW := tw 646 (by decide +kernel) (by decide +kernel)
theorem hd_M_line : y_M_line.cls = "CacheLevelsModel" ∧ y_M_line.cls ≠ "java/lang/invoke/MethodHandle" ∧ y_M_line.cls ≠ "java/lang/invoke/VarHandle" ∧ (parseMethodDescriptor y_M_line.desc).map (fun d => d.parameters.length) = some 3 := by decide +kernel
abbrev b_M_owner : ByteArray := prog_5_method_38_code
def y_M_owner : MethodName := ⟨"CacheLevelsModel", "owner", "(I)I"⟩
theorem cd_M_owner : Cond.code y_M_owner b_M_owner 3 (some .int) ∈ tbW := tw 651 (by decide +kernel) (by decide +kernel)
theorem in_M_owner : Cond.instanceMethod y_M_owner ∈ tbW := tw 649 (by decide +kernel) (by decide +kernel)
theorem se_M_owner : Cond.selects "CacheLevelsModel" y_M_owner y_M_owner ∈ tbW := tw 650 (by decide +kernel) (by decide +kernel)
theorem hd_M_owner : y_M_owner.cls = "CacheLevelsModel" ∧ y_M_owner.cls ≠ "java/lang/invoke/MethodHandle" ∧ y_M_owner.cls ≠ "java/lang/invoke/VarHandle" ∧ (parseMethodDescriptor y_M_owner.desc).map (fun d => d.parameters.length) = some 1 := by decide +kernel
abbrev b_M_directory : ByteArray := prog_5_method_39_code
def y_M_directory : MethodName := ⟨"CacheLevelsModel", "directory", "(I)I"⟩
theorem cd_M_directory : Cond.code y_M_directory b_M_directory 4 (some .int) ∈ tbW := tw 655 (by decide +kernel) (by decide +kernel)
theorem in_M_directory : Cond.instanceMethod y_M_directory ∈ tbW := tw 653 (by decide +kernel) (by decide +kernel)
theorem se_M_directory : Cond.selects "CacheLevelsModel" y_M_directory y_M_directory ∈ tbW := tw 654 (by decide +kernel) (by decide +kernel)
theorem hd_M_directory : y_M_directory.cls = "CacheLevelsModel" ∧ y_M_directory.cls ≠ "java/lang/invoke/MethodHandle" ∧ y_M_directory.cls ≠ "java/lang/invoke/VarHandle" ∧ (parseMethodDescriptor y_M_directory.desc).map (fun d => d.parameters.length) = some 1 := by decide +kernel
abbrev b_M_core : ByteArray := prog_5_method_40_code
def y_M_core : MethodName := ⟨"CacheLevelsModel", "core", "(II)I"⟩
theorem cd_M_core : Cond.code y_M_core b_M_core 5 (some .int) ∈ tbW := tw 659 (by decide +kernel) (by decide +kernel)
theorem in_M_core : Cond.instanceMethod y_M_core ∈ tbW := tw 657 (by decide +kernel) (by decide +kernel)
theorem se_M_core : Cond.selects "CacheLevelsModel" y_M_core y_M_core ∈ tbW := tw 658 (by decide +kernel) (by decide +kernel)
theorem hd_M_core : y_M_core.cls = "CacheLevelsModel" ∧ y_M_core.cls ≠ "java/lang/invoke/MethodHandle" ∧ y_M_core.cls ≠ "java/lang/invoke/VarHandle" ∧ (parseMethodDescriptor y_M_core.desc).map (fun d => d.parameters.length) = some 2 := by decide +kernel
abbrev b_M_count : ByteArray := prog_5_method_41_code
def y_M_count : MethodName := ⟨"CacheLevelsModel", "count", "(I)I"⟩
theorem cd_M_count : Cond.code y_M_count b_M_count 2 (some .int) ∈ tbW := tw 663 (by decide +kernel) (by decide +kernel)
theorem in_M_count : Cond.instanceMethod y_M_count ∈ tbW := tw 661 (by decide +kernel) (by decide +kernel)
theorem se_M_count : Cond.selects "CacheLevelsModel" y_M_count y_M_count ∈ tbW := tw 662 (by decide +kernel) (by decide +kernel)
theorem hd_M_count : y_M_count.cls = "CacheLevelsModel" ∧ y_M_count.cls ≠ "java/lang/invoke/MethodHandle" ∧ y_M_count.cls ≠ "java/lang/invoke/VarHandle" ∧ (parseMethodDescriptor y_M_count.desc).map (fun d => d.parameters.length) = some 1 := by decide +kernel
theorem k_B_15 : Cond.fieldLink "CacheLevels$Bank" 15 "CacheLevels$Bank" "sets" "I" ∈ tbW := tw 31 (by decide +kernel) (by decide +kernel)
theorem k_C_129 : Cond.fieldLink "CacheLevels" 129 "CacheLevels$Bank" "sets" "I" ∈ tbW := tw 32 (by decide +kernel) (by decide +kernel)
theorem k_B_21 : Cond.fieldLink "CacheLevels$Bank" 21 "CacheLevels$Bank" "ways" "I" ∈ tbW := tw 33 (by decide +kernel) (by decide +kernel)
theorem k_C_142 : Cond.fieldLink "CacheLevels" 142 "CacheLevels$Bank" "ways" "I" ∈ tbW := tw 34 (by decide +kernel) (by decide +kernel)
theorem k_B_24 : Cond.fieldLink "CacheLevels$Bank" 24 "CacheLevels$Bank" "sizes" "[I" ∈ tbW := tw 35 (by decide +kernel) (by decide +kernel)
theorem k_B_28 : Cond.fieldLink "CacheLevels$Bank" 28 "CacheLevels$Bank" "lines" "[I" ∈ tbW := tw 36 (by decide +kernel) (by decide +kernel)
theorem k_B_31 : Cond.fieldLink "CacheLevels$Bank" 31 "CacheLevels$Bank" "versions" "[I" ∈ tbW := tw 37 (by decide +kernel) (by decide +kernel)
theorem k_B_34 : Cond.fieldLink "CacheLevels$Bank" 34 "CacheLevels$Bank" "owners" "[I" ∈ tbW := tw 38 (by decide +kernel) (by decide +kernel)
theorem k_B_37 : Cond.fieldLink "CacheLevels$Bank" 37 "CacheLevels$Bank" "written" "[Z" ∈ tbW := tw 39 (by decide +kernel) (by decide +kernel)
theorem k_V_25 : Cond.fieldLink "CacheLevels$Versions" 25 "CacheLevels$Versions" "writeBacks" "I" ∈ tbW := tw 63 (by decide +kernel) (by decide +kernel)
theorem k_C_89 : Cond.fieldLink "CacheLevels" 89 "CacheLevels$Versions" "writeBacks" "I" ∈ tbW := tw 64 (by decide +kernel) (by decide +kernel)
theorem k_V_29 : Cond.fieldLink "CacheLevels$Versions" 29 "CacheLevels$Versions" "size" "I" ∈ tbW := tw 65 (by decide +kernel) (by decide +kernel)
theorem k_V_11 : Cond.fieldLink "CacheLevels$Versions" 11 "CacheLevels$Versions" "lines" "[I" ∈ tbW := tw 66 (by decide +kernel) (by decide +kernel)
theorem k_V_15 : Cond.fieldLink "CacheLevels$Versions" 15 "CacheLevels$Versions" "newest" "[I" ∈ tbW := tw 67 (by decide +kernel) (by decide +kernel)
theorem k_V_18 : Cond.fieldLink "CacheLevels$Versions" 18 "CacheLevels$Versions" "stored" "[I" ∈ tbW := tw 68 (by decide +kernel) (by decide +kernel)
theorem k_C_15 : Cond.fieldLink "CacheLevels" 15 "CacheLevels" "cores" "I" ∈ tbW := tw 80 (by decide +kernel) (by decide +kernel)
theorem k_C_19 : Cond.fieldLink "CacheLevels" 19 "CacheLevels" "keeping" "I" ∈ tbW := tw 81 (by decide +kernel) (by decide +kernel)
theorem k_C_27 : Cond.fieldLink "CacheLevels" 27 "CacheLevels" "first" "LCacheLevels$Bank;" ∈ tbW := tw 82 (by decide +kernel) (by decide +kernel)
theorem k_C_31 : Cond.fieldLink "CacheLevels" 31 "CacheLevels" "second" "LCacheLevels$Bank;" ∈ tbW := tw 83 (by decide +kernel) (by decide +kernel)
theorem k_C_37 : Cond.fieldLink "CacheLevels" 37 "CacheLevels" "versions" "LCacheLevels$Versions;" ∈ tbW := tw 84 (by decide +kernel) (by decide +kernel)
theorem k_C_41 : Cond.fieldLink "CacheLevels" 41 "CacheLevels" "quotas" "[I" ∈ tbW := tw 85 (by decide +kernel) (by decide +kernel)
theorem k_C_45 : Cond.fieldLink "CacheLevels" 45 "CacheLevels" "tallies" "[I" ∈ tbW := tw 86 (by decide +kernel) (by decide +kernel)
theorem k_C_48 : Cond.fieldLink "CacheLevels" 48 "CacheLevels" "passFrom" "I" ∈ tbW := tw 87 (by decide +kernel) (by decide +kernel)
theorem k_C_51 : Cond.fieldLink "CacheLevels" 51 "CacheLevels" "passTo" "I" ∈ tbW := tw 88 (by decide +kernel) (by decide +kernel)
theorem k_C_54 : Cond.fieldLink "CacheLevels" 54 "CacheLevels" "handedOver" "I" ∈ tbW := tw 89 (by decide +kernel) (by decide +kernel)
theorem k_C_3 : Cond.methodLink "CacheLevels" 3 ⟨"java/lang/Object", "<init>", "()V"⟩ ∈ tbW := tw 16 (by decide +kernel) (by decide +kernel)
theorem k_C_9 : Cond.methodLink "CacheLevels" 9 y_Math_floorMod ∈ tbW := tw 19 (by decide +kernel) (by decide +kernel)
theorem k_C_24 : Cond.methodLink "CacheLevels" 24 y_B_init ∈ tbW := tw 24 (by decide +kernel) (by decide +kernel)
theorem k_B_3 : Cond.methodLink "CacheLevels$Bank" 3 ⟨"java/lang/Object", "<init>", "()V"⟩ ∈ tbW := tw 27 (by decide +kernel) (by decide +kernel)
theorem k_B_9 : Cond.methodLink "CacheLevels$Bank" 9 y_Math_max ∈ tbW := tw 28 (by decide +kernel) (by decide +kernel)
theorem k_C_36 : Cond.methodLink "CacheLevels" 36 y_V_init ∈ tbW := tw 59 (by decide +kernel) (by decide +kernel)
theorem k_V_3 : Cond.methodLink "CacheLevels$Versions" 3 ⟨"java/lang/Object", "<init>", "()V"⟩ ∈ tbW := tw 62 (by decide +kernel) (by decide +kernel)
theorem k_C_92 : Cond.methodLink "CacheLevels" 92 y_B_slots ∈ tbW := tw 119 (by decide +kernel) (by decide +kernel)
theorem k_C_96 : Cond.methodLink "CacheLevels" 96 y_B_isWritten ∈ tbW := tw 123 (by decide +kernel) (by decide +kernel)
theorem k_B_48 : Cond.methodLink "CacheLevels$Bank" 48 y_B_isSlot ∈ tbW := tw 127 (by decide +kernel) (by decide +kernel)
theorem k_C_100 : Cond.methodLink "CacheLevels" 100 y_B_lineAt ∈ tbW := tw 131 (by decide +kernel) (by decide +kernel)
theorem k_C_104 : Cond.methodLink "CacheLevels" 104 y_C_writtenInFirst ∈ tbW := tw 135 (by decide +kernel) (by decide +kernel)
theorem k_C_72 : Cond.methodLink "CacheLevels" 72 y_B_find ∈ tbW := tw 139 (by decide +kernel) (by decide +kernel)
theorem k_B_52 : Cond.methodLink "CacheLevels$Bank" 52 y_B_placeOf ∈ tbW := tw 143 (by decide +kernel) (by decide +kernel)
theorem k_B_41 : Cond.methodLink "CacheLevels$Bank" 41 y_Math_floorMod ∈ tbW := tw 147 (by decide +kernel) (by decide +kernel)
theorem k_B_44 : Cond.methodLink "CacheLevels$Bank" 44 y_B_size ∈ tbW := tw 148 (by decide +kernel) (by decide +kernel)
theorem k_B_55 : Cond.methodLink "CacheLevels$Bank" 55 y_B_lineAt ∈ tbW := tw 152 (by decide +kernel) (by decide +kernel)
theorem k_C_107 : Cond.methodLink "CacheLevels" 107 y_B_versionAt ∈ tbW := tw 153 (by decide +kernel) (by decide +kernel)
theorem k_C_110 : Cond.methodLink "CacheLevels" 110 y_V_writeBack ∈ tbW := tw 157 (by decide +kernel) (by decide +kernel)
theorem k_V_21 : Cond.methodLink "CacheLevels$Versions" 21 y_V_indexOf ∈ tbW := tw 161 (by decide +kernel) (by decide +kernel)
theorem k_C_113 : Cond.methodLink "CacheLevels" 113 y_B_clear ∈ tbW := tw 165 (by decide +kernel) (by decide +kernel)
theorem k_C_126 : Cond.methodLink "CacheLevels" 126 y_V_inMemory ∈ tbW := tw 173 (by decide +kernel) (by decide +kernel)
theorem k_C_145 : Cond.methodLink "CacheLevels" 145 y_B_ownerAt ∈ tbW := tw 181 (by decide +kernel) (by decide +kernel)
theorem k_C_153 : Cond.methodLink "CacheLevels" 153 y_B_total ∈ tbW := tw 193 (by decide +kernel) (by decide +kernel)
theorem k_C_57 : Cond.methodLink "CacheLevels" 57 y_C_requireCore ∈ tbW := tw 209 (by decide +kernel) (by decide +kernel)
theorem k_C_136 : Cond.methodLink "CacheLevels" 136 ⟨"java/lang/IndexOutOfBoundsException", "<init>", "(Ljava/lang/String;)V"⟩ ∈ tbW := tw 254 (by decide +kernel) (by decide +kernel)
theorem k_C_65 : Cond.methodLink "CacheLevels" 65 ⟨"java/lang/IllegalArgumentException", "<init>", "(Ljava/lang/String;)V"⟩ ∈ tbW := tw 290 (by decide +kernel) (by decide +kernel)
theorem k_C_68 : Cond.methodLink "CacheLevels" 68 y_C_tally ∈ tbW := tw 296 (by decide +kernel) (by decide +kernel)
theorem k_C_75 : Cond.methodLink "CacheLevels" 75 y_B_useLast ∈ tbW := tw 300 (by decide +kernel) (by decide +kernel)
theorem k_B_71 : Cond.methodLink "CacheLevels$Bank" 71 y_B_swap ∈ tbW := tw 304 (by decide +kernel) (by decide +kernel)
theorem k_C_78 : Cond.methodLink "CacheLevels" 78 y_C_handOver ∈ tbW := tw 308 (by decide +kernel) (by decide +kernel)
theorem k_C_158 : Cond.methodLink "CacheLevels" 158 y_B_clean ∈ tbW := tw 312 (by decide +kernel) (by decide +kernel)
theorem k_C_161 : Cond.methodLink "CacheLevels" 161 y_C_writeDown ∈ tbW := tw 316 (by decide +kernel) (by decide +kernel)
theorem k_C_164 : Cond.methodLink "CacheLevels" 164 y_B_rewrite ∈ tbW := tw 320 (by decide +kernel) (by decide +kernel)
theorem k_C_81 : Cond.methodLink "CacheLevels" 81 y_C_bring ∈ tbW := tw 324 (by decide +kernel) (by decide +kernel)
theorem k_C_167 : Cond.methodLink "CacheLevels" 167 y_C_passesBy ∈ tbW := tw 328 (by decide +kernel) (by decide +kernel)
theorem k_C_170 : Cond.methodLink "CacheLevels" 170 y_C_comeIntoSecond ∈ tbW := tw 332 (by decide +kernel) (by decide +kernel)
theorem k_C_180 : Cond.methodLink "CacheLevels" 180 y_B_placeOf ∈ tbW := tw 336 (by decide +kernel) (by decide +kernel)
theorem k_C_199 : Cond.methodLink "CacheLevels" 199 y_B_ownedAt ∈ tbW := tw 337 (by decide +kernel) (by decide +kernel)
theorem k_B_58 : Cond.methodLink "CacheLevels$Bank" 58 y_B_ownerAt ∈ tbW := tw 341 (by decide +kernel) (by decide +kernel)
theorem k_C_202 : Cond.methodLink "CacheLevels" 202 y_B_oldestOwned ∈ tbW := tw 342 (by decide +kernel) (by decide +kernel)
theorem k_C_205 : Cond.methodLink "CacheLevels" 205 y_C_leaveSecond ∈ tbW := tw 346 (by decide +kernel) (by decide +kernel)
theorem k_C_174 : Cond.methodLink "CacheLevels" 174 y_B_drop ∈ tbW := tw 350 (by decide +kernel) (by decide +kernel)
theorem k_B_75 : Cond.methodLink "CacheLevels$Bank" 75 y_B_oldest ∈ tbW := tw 354 (by decide +kernel) (by decide +kernel)
theorem k_B_78 : Cond.methodLink "CacheLevels$Bank" 78 y_B_clean ∈ tbW := tw 358 (by decide +kernel) (by decide +kernel)
theorem k_C_190 : Cond.methodLink "CacheLevels" 190 y_B_isFull ∈ tbW := tw 359 (by decide +kernel) (by decide +kernel)
theorem k_C_193 : Cond.methodLink "CacheLevels" 193 y_B_oldest ∈ tbW := tw 363 (by decide +kernel) (by decide +kernel)
theorem k_C_183 : Cond.methodLink "CacheLevels" 183 y_B_put ∈ tbW := tw 364 (by decide +kernel) (by decide +kernel)
theorem k_B_64 : Cond.methodLink "CacheLevels$Bank" 64 y_B_isFull ∈ tbW := tw 368 (by decide +kernel) (by decide +kernel)
theorem k_B_67 : Cond.methodLink "CacheLevels$Bank" 67 y_B_useLast ∈ tbW := tw 369 (by decide +kernel) (by decide +kernel)
theorem k_C_177 : Cond.methodLink "CacheLevels" 177 y_C_makeRoomInFirst ∈ tbW := tw 370 (by decide +kernel) (by decide +kernel)
theorem k_C_196 : Cond.methodLink "CacheLevels" 196 y_C_directory ∈ tbW := tw 374 (by decide +kernel) (by decide +kernel)
theorem k_C_84 : Cond.methodLink "CacheLevels" 84 y_C_write ∈ tbW := tw 375 (by decide +kernel) (by decide +kernel)
theorem k_C_187 : Cond.methodLink "CacheLevels" 187 y_V_makeNext ∈ tbW := tw 379 (by decide +kernel) (by decide +kernel)
theorem k_C_116 : Cond.methodLink "CacheLevels" 116 y_C_requireCoreOrNone ∈ tbW := tw 398 (by decide +kernel) (by decide +kernel)
theorem k_C_119 : Cond.methodLink "CacheLevels" 119 y_C_bankOf ∈ tbW := tw 402 (by decide +kernel) (by decide +kernel)
theorem k_C_123 : Cond.methodLink "CacheLevels" 123 y_C_groupOf ∈ tbW := tw 406 (by decide +kernel) (by decide +kernel)
theorem k_C_137 : Cond.methodLink "CacheLevels" 137 y_B_size ∈ tbW := tw 424 (by decide +kernel) (by decide +kernel)
theorem k_C_150 : Cond.methodLink "CacheLevels" 150 y_B_ownedBy ∈ tbW := tw 434 (by decide +kernel) (by decide +kernel)
theorem k_B_61 : Cond.methodLink "CacheLevels$Bank" 61 y_B_ownedAt ∈ tbW := tw 438 (by decide +kernel) (by decide +kernel)
theorem k_C_22 : Cond.classLink "CacheLevels" 22 "CacheLevels$Bank" ∈ tbW := tw 22 (by decide +kernel) (by decide +kernel)
theorem k_C_34 : Cond.classLink "CacheLevels" 34 "CacheLevels$Versions" ∈ tbW := tw 57 (by decide +kernel) (by decide +kernel)
theorem k_C_132 : Cond.classLink "CacheLevels" 132 "java/lang/IndexOutOfBoundsException" ∈ tbW := tw 213 (by decide +kernel) (by decide +kernel)
theorem k_C_61 : Cond.classLink "CacheLevels" 61 "java/lang/IllegalArgumentException" ∈ tbW := tw 280 (by decide +kernel) (by decide +kernel)
theorem ini_C : Cond.initialized "CacheLevels" ∈ tbW := tw 1 (by decide +kernel) (by decide +kernel)
theorem ini_Math : Cond.initialized "java/lang/Math" ∈ tbW := tw 2 (by decide +kernel) (by decide +kernel)
theorem ini_B : Cond.initialized "CacheLevels$Bank" ∈ tbW := tw 3 (by decide +kernel) (by decide +kernel)
theorem ini_V : Cond.initialized "CacheLevels$Versions" ∈ tbW := tw 4 (by decide +kernel) (by decide +kernel)
theorem it_C : Cond.instantiable "CacheLevels" 10 ∈ tbW := tw 12 (by decide +kernel) (by decide +kernel)
theorem it_B : Cond.instantiable "CacheLevels$Bank" 7 ∈ tbW := tw 23 (by decide +kernel) (by decide +kernel)
theorem it_V : Cond.instantiable "CacheLevels$Versions" 5 ∈ tbW := tw 58 (by decide +kernel) (by decide +kernel)
end
section
theorem d_C_init_0 : decode b_C_init 0 = .ok (.aload_n 0, 1) := by decide +kernel
theorem d_C_init_1 : decode b_C_init 1 = .ok (.invokespecial 3, 3) := by decide +kernel
theorem d_C_init_4 : decode b_C_init 4 = .ok (.aload_n 0, 1) := by decide +kernel
theorem d_C_init_5 : decode b_C_init 5 = .ok (.iconst 1, 1) := by decide +kernel
theorem d_C_init_6 : decode b_C_init 6 = .ok (.iload_n 1, 1) := by decide +kernel
theorem d_C_init_7 : decode b_C_init 7 = .ok (.iconst 1, 1) := by decide +kernel
theorem d_C_init_8 : decode b_C_init 8 = .ok (.isub, 1) := by decide +kernel
theorem d_C_init_9 : decode b_C_init 9 = .ok (.iconst 4, 1) := by decide +kernel
theorem d_C_init_10 : decode b_C_init 10 = .ok (.invokestatic 9, 3) := by decide +kernel
theorem d_C_init_13 : decode b_C_init 13 = .ok (.iadd, 1) := by decide +kernel
theorem d_C_init_14 : decode b_C_init 14 = .ok (.putfield 15, 3) := by decide +kernel
theorem d_C_init_17 : decode b_C_init 17 = .ok (.aload_n 0, 1) := by decide +kernel
theorem d_C_init_18 : decode b_C_init 18 = .ok (.iload_n 2, 1) := by decide +kernel
theorem d_C_init_19 : decode b_C_init 19 = .ok (.iconst 3, 1) := by decide +kernel
theorem d_C_init_20 : decode b_C_init 20 = .ok (.invokestatic 9, 3) := by decide +kernel
theorem d_C_init_23 : decode b_C_init 23 = .ok (.putfield 19, 3) := by decide +kernel
theorem d_C_init_26 : decode b_C_init 26 = .ok (.aload_n 0, 1) := by decide +kernel
theorem d_C_init_27 : decode b_C_init 27 = .ok (.new 22, 3) := by decide +kernel
theorem d_C_init_30 : decode b_C_init 30 = .ok (.dup, 1) := by decide +kernel
theorem d_C_init_31 : decode b_C_init 31 = .ok (.aload_n 0, 1) := by decide +kernel
theorem d_C_init_32 : decode b_C_init 32 = .ok (.getfield 15, 3) := by decide +kernel
theorem d_C_init_35 : decode b_C_init 35 = .ok (.iconst 1, 1) := by decide +kernel
theorem d_C_init_36 : decode b_C_init 36 = .ok (.iload_n 3, 1) := by decide +kernel
theorem d_C_init_37 : decode b_C_init 37 = .ok (.iconst 1, 1) := by decide +kernel
theorem d_C_init_38 : decode b_C_init 38 = .ok (.isub, 1) := by decide +kernel
theorem d_C_init_39 : decode b_C_init 39 = .ok (.bipush 8, 2) := by decide +kernel
theorem d_C_init_41 : decode b_C_init 41 = .ok (.invokestatic 9, 3) := by decide +kernel
theorem d_C_init_44 : decode b_C_init 44 = .ok (.iadd, 1) := by decide +kernel
theorem d_C_init_45 : decode b_C_init 45 = .ok (.iconst 2, 1) := by decide +kernel
theorem d_C_init_46 : decode b_C_init 46 = .ok (.invokespecial 24, 3) := by decide +kernel
theorem d_C_init_49 : decode b_C_init 49 = .ok (.putfield 27, 3) := by decide +kernel
theorem d_C_init_52 : decode b_C_init 52 = .ok (.aload_n 0, 1) := by decide +kernel
theorem d_C_init_53 : decode b_C_init 53 = .ok (.new 22, 3) := by decide +kernel
theorem d_C_init_56 : decode b_C_init 56 = .ok (.dup, 1) := by decide +kernel
theorem d_C_init_57 : decode b_C_init 57 = .ok (.iconst 1, 1) := by decide +kernel
theorem d_C_init_58 : decode b_C_init 58 = .ok (.iconst 1, 1) := by decide +kernel
theorem d_C_init_59 : decode b_C_init 59 = .ok (.iload 4, 2) := by decide +kernel
theorem d_C_init_61 : decode b_C_init 61 = .ok (.iconst 1, 1) := by decide +kernel
theorem d_C_init_62 : decode b_C_init 62 = .ok (.isub, 1) := by decide +kernel
theorem d_C_init_63 : decode b_C_init 63 = .ok (.bipush 16, 2) := by decide +kernel
theorem d_C_init_65 : decode b_C_init 65 = .ok (.invokestatic 9, 3) := by decide +kernel
theorem d_C_init_68 : decode b_C_init 68 = .ok (.iadd, 1) := by decide +kernel
theorem d_C_init_69 : decode b_C_init 69 = .ok (.iconst 4, 1) := by decide +kernel
theorem d_C_init_70 : decode b_C_init 70 = .ok (.invokespecial 24, 3) := by decide +kernel
theorem d_C_init_73 : decode b_C_init 73 = .ok (.putfield 31, 3) := by decide +kernel
theorem d_C_init_76 : decode b_C_init 76 = .ok (.aload_n 0, 1) := by decide +kernel
theorem d_C_init_77 : decode b_C_init 77 = .ok (.new 34, 3) := by decide +kernel
theorem d_C_init_80 : decode b_C_init 80 = .ok (.dup, 1) := by decide +kernel
theorem d_C_init_81 : decode b_C_init 81 = .ok (.invokespecial 36, 3) := by decide +kernel
theorem d_C_init_84 : decode b_C_init 84 = .ok (.putfield 37, 3) := by decide +kernel
theorem d_C_init_87 : decode b_C_init 87 = .ok (.aload_n 0, 1) := by decide +kernel
theorem d_C_init_88 : decode b_C_init 88 = .ok (.aload_n 0, 1) := by decide +kernel
theorem d_C_init_89 : decode b_C_init 89 = .ok (.getfield 15, 3) := by decide +kernel
theorem d_C_init_92 : decode b_C_init 92 = .ok (.newarray .int, 2) := by decide +kernel
theorem d_C_init_94 : decode b_C_init 94 = .ok (.putfield 41, 3) := by decide +kernel
theorem d_C_init_97 : decode b_C_init 97 = .ok (.iconst 0, 1) := by decide +kernel
theorem d_C_init_98 : decode b_C_init 98 = .ok (.istore 5, 2) := by decide +kernel
theorem d_C_init_100 : decode b_C_init 100 = .ok (.iload 5, 2) := by decide +kernel
theorem d_C_init_102 : decode b_C_init 102 = .ok (.aload_n 0, 1) := by decide +kernel
theorem d_C_init_103 : decode b_C_init 103 = .ok (.getfield 41, 3) := by decide +kernel
theorem d_C_init_106 : decode b_C_init 106 = .ok (.arraylength, 1) := by decide +kernel
theorem d_C_init_107 : decode b_C_init 107 = .ok (.if_icmp .ge 17, 3) := by decide +kernel
theorem d_C_init_110 : decode b_C_init 110 = .ok (.aload_n 0, 1) := by decide +kernel
theorem d_C_init_111 : decode b_C_init 111 = .ok (.getfield 41, 3) := by decide +kernel
theorem d_C_init_114 : decode b_C_init 114 = .ok (.iload 5, 2) := by decide +kernel
theorem d_C_init_116 : decode b_C_init 116 = .ok (.iconst 4, 1) := by decide +kernel
theorem d_C_init_117 : decode b_C_init 117 = .ok (.iastore, 1) := by decide +kernel
theorem d_C_init_118 : decode b_C_init 118 = .ok (.iinc 5 1, 3) := by decide +kernel
theorem d_C_init_121 : decode b_C_init 121 = .ok (.goto (-21), 3) := by decide +kernel
theorem d_C_init_124 : decode b_C_init 124 = .ok (.aload_n 0, 1) := by decide +kernel
theorem d_C_init_125 : decode b_C_init 125 = .ok (.aload_n 0, 1) := by decide +kernel
theorem d_C_init_126 : decode b_C_init 126 = .ok (.getfield 15, 3) := by decide +kernel
theorem d_C_init_129 : decode b_C_init 129 = .ok (.bipush 7, 2) := by decide +kernel
theorem d_C_init_131 : decode b_C_init 131 = .ok (.imul, 1) := by decide +kernel
theorem d_C_init_132 : decode b_C_init 132 = .ok (.newarray .int, 2) := by decide +kernel
theorem d_C_init_134 : decode b_C_init 134 = .ok (.putfield 45, 3) := by decide +kernel
theorem d_C_init_137 : decode b_C_init 137 = .ok (.aload_n 0, 1) := by decide +kernel
theorem d_C_init_138 : decode b_C_init 138 = .ok (.iconst 0, 1) := by decide +kernel
theorem d_C_init_139 : decode b_C_init 139 = .ok (.putfield 48, 3) := by decide +kernel
theorem d_C_init_142 : decode b_C_init 142 = .ok (.aload_n 0, 1) := by decide +kernel
theorem d_C_init_143 : decode b_C_init 143 = .ok (.iconst (-1), 1) := by decide +kernel
theorem d_C_init_144 : decode b_C_init 144 = .ok (.putfield 51, 3) := by decide +kernel
theorem d_C_init_147 : decode b_C_init 147 = .ok (.aload_n 0, 1) := by decide +kernel
theorem d_C_init_148 : decode b_C_init 148 = .ok (.iconst 0, 1) := by decide +kernel
theorem d_C_init_149 : decode b_C_init 149 = .ok (.putfield 54, 3) := by decide +kernel
theorem d_C_init_152 : decode b_C_init 152 = .ok (.return_, 1) := by decide +kernel
theorem d_C_access_0 : decode b_C_access 0 = .ok (.aload_n 0, 1) := by decide +kernel
theorem d_C_access_1 : decode b_C_access 1 = .ok (.iload_n 1, 1) := by decide +kernel
theorem d_C_access_2 : decode b_C_access 2 = .ok (.invokevirtual 57, 3) := by decide +kernel
theorem d_C_access_5 : decode b_C_access 5 = .ok (.iload_n 3, 1) := by decide +kernel
theorem d_C_access_6 : decode b_C_access 6 = .ok (.ifCond .eq 18, 3) := by decide +kernel
theorem d_C_access_9 : decode b_C_access 9 = .ok (.iload_n 3, 1) := by decide +kernel
theorem d_C_access_10 : decode b_C_access 10 = .ok (.iconst 1, 1) := by decide +kernel
theorem d_C_access_11 : decode b_C_access 11 = .ok (.if_icmp .eq 13, 3) := by decide +kernel
theorem d_C_access_14 : decode b_C_access 14 = .ok (.new 61, 3) := by decide +kernel
theorem d_C_access_17 : decode b_C_access 17 = .ok (.dup, 1) := by decide +kernel
theorem d_C_access_18 : decode b_C_access 18 = .ok (.ldc 63, 2) := by decide +kernel
theorem d_C_access_20 : decode b_C_access 20 = .ok (.invokespecial 65, 3) := by decide +kernel
theorem d_C_access_23 : decode b_C_access 23 = .ok (.athrow, 1) := by decide +kernel
theorem d_C_access_24 : decode b_C_access 24 = .ok (.aload_n 0, 1) := by decide +kernel
theorem d_C_access_25 : decode b_C_access 25 = .ok (.iload_n 1, 1) := by decide +kernel
theorem d_C_access_26 : decode b_C_access 26 = .ok (.iconst 0, 1) := by decide +kernel
theorem d_C_access_27 : decode b_C_access 27 = .ok (.invokevirtual 68, 3) := by decide +kernel
theorem d_C_access_30 : decode b_C_access 30 = .ok (.iconst 1, 1) := by decide +kernel
theorem d_C_access_31 : decode b_C_access 31 = .ok (.istore 4, 2) := by decide +kernel
theorem d_C_access_33 : decode b_C_access 33 = .ok (.aload_n 0, 1) := by decide +kernel
theorem d_C_access_34 : decode b_C_access 34 = .ok (.getfield 27, 3) := by decide +kernel
theorem d_C_access_37 : decode b_C_access 37 = .ok (.iload_n 1, 1) := by decide +kernel
theorem d_C_access_38 : decode b_C_access 38 = .ok (.iload_n 2, 1) := by decide +kernel
theorem d_C_access_39 : decode b_C_access 39 = .ok (.invokevirtual 72, 3) := by decide +kernel
theorem d_C_access_42 : decode b_C_access 42 = .ok (.istore 5, 2) := by decide +kernel
theorem d_C_access_44 : decode b_C_access 44 = .ok (.iload 5, 2) := by decide +kernel
theorem d_C_access_46 : decode b_C_access 46 = .ok (.iconst (-1), 1) := by decide +kernel
theorem d_C_access_47 : decode b_C_access 47 = .ok (.if_icmp .eq 21, 3) := by decide +kernel
theorem d_C_access_50 : decode b_C_access 50 = .ok (.aload_n 0, 1) := by decide +kernel
theorem d_C_access_51 : decode b_C_access 51 = .ok (.getfield 27, 3) := by decide +kernel
theorem d_C_access_54 : decode b_C_access 54 = .ok (.iload 5, 2) := by decide +kernel
theorem d_C_access_56 : decode b_C_access 56 = .ok (.invokevirtual 75, 3) := by decide +kernel
theorem d_C_access_59 : decode b_C_access 59 = .ok (.aload_n 0, 1) := by decide +kernel
theorem d_C_access_60 : decode b_C_access 60 = .ok (.iload_n 1, 1) := by decide +kernel
theorem d_C_access_61 : decode b_C_access 61 = .ok (.iconst 1, 1) := by decide +kernel
theorem d_C_access_62 : decode b_C_access 62 = .ok (.invokevirtual 68, 3) := by decide +kernel
theorem d_C_access_65 : decode b_C_access 65 = .ok (.goto 16, 3) := by decide +kernel
theorem d_C_access_68 : decode b_C_access 68 = .ok (.aload_n 0, 1) := by decide +kernel
theorem d_C_access_69 : decode b_C_access 69 = .ok (.iload_n 2, 1) := by decide +kernel
theorem d_C_access_70 : decode b_C_access 70 = .ok (.invokevirtual 78, 3) := by decide +kernel
theorem d_C_access_73 : decode b_C_access 73 = .ok (.aload_n 0, 1) := by decide +kernel
theorem d_C_access_74 : decode b_C_access 74 = .ok (.iload_n 1, 1) := by decide +kernel
theorem d_C_access_75 : decode b_C_access 75 = .ok (.iload_n 2, 1) := by decide +kernel
theorem d_C_access_76 : decode b_C_access 76 = .ok (.invokevirtual 81, 3) := by decide +kernel
theorem d_C_access_79 : decode b_C_access 79 = .ok (.istore 4, 2) := by decide +kernel
theorem d_C_access_81 : decode b_C_access 81 = .ok (.iload_n 3, 1) := by decide +kernel
theorem d_C_access_82 : decode b_C_access 82 = .ok (.iconst 1, 1) := by decide +kernel
theorem d_C_access_83 : decode b_C_access 83 = .ok (.if_icmp .ne 15, 3) := by decide +kernel
theorem d_C_access_86 : decode b_C_access 86 = .ok (.aload_n 0, 1) := by decide +kernel
theorem d_C_access_87 : decode b_C_access 87 = .ok (.iload_n 1, 1) := by decide +kernel
theorem d_C_access_88 : decode b_C_access 88 = .ok (.iconst 4, 1) := by decide +kernel
theorem d_C_access_89 : decode b_C_access 89 = .ok (.invokevirtual 68, 3) := by decide +kernel
theorem d_C_access_92 : decode b_C_access 92 = .ok (.aload_n 0, 1) := by decide +kernel
theorem d_C_access_93 : decode b_C_access 93 = .ok (.iload_n 1, 1) := by decide +kernel
theorem d_C_access_94 : decode b_C_access 94 = .ok (.iload_n 2, 1) := by decide +kernel
theorem d_C_access_95 : decode b_C_access 95 = .ok (.invokevirtual 84, 3) := by decide +kernel
theorem d_C_access_98 : decode b_C_access 98 = .ok (.iload 4, 2) := by decide +kernel
theorem d_C_access_100 : decode b_C_access 100 = .ok (.ireturn, 1) := by decide +kernel
theorem d_C_quota_0 : decode b_C_quota 0 = .ok (.aload_n 0, 1) := by decide +kernel
theorem d_C_quota_1 : decode b_C_quota 1 = .ok (.iload_n 1, 1) := by decide +kernel
theorem d_C_quota_2 : decode b_C_quota 2 = .ok (.invokevirtual 57, 3) := by decide +kernel
theorem d_C_quota_5 : decode b_C_quota 5 = .ok (.iload_n 2, 1) := by decide +kernel
theorem d_C_quota_6 : decode b_C_quota 6 = .ok (.ifCond .lt 8, 3) := by decide +kernel
theorem d_C_quota_9 : decode b_C_quota 9 = .ok (.iload_n 2, 1) := by decide +kernel
theorem d_C_quota_10 : decode b_C_quota 10 = .ok (.iconst 4, 1) := by decide +kernel
theorem d_C_quota_11 : decode b_C_quota 11 = .ok (.if_icmp .le 13, 3) := by decide +kernel
theorem d_C_quota_14 : decode b_C_quota 14 = .ok (.new 61, 3) := by decide +kernel
theorem d_C_quota_17 : decode b_C_quota 17 = .ok (.dup, 1) := by decide +kernel
theorem d_C_quota_18 : decode b_C_quota 18 = .ok (.ldc 87, 2) := by decide +kernel
theorem d_C_quota_20 : decode b_C_quota 20 = .ok (.invokespecial 65, 3) := by decide +kernel
theorem d_C_quota_23 : decode b_C_quota 23 = .ok (.athrow, 1) := by decide +kernel
theorem d_C_quota_24 : decode b_C_quota 24 = .ok (.aload_n 0, 1) := by decide +kernel
theorem d_C_quota_25 : decode b_C_quota 25 = .ok (.getfield 41, 3) := by decide +kernel
theorem d_C_quota_28 : decode b_C_quota 28 = .ok (.iload_n 1, 1) := by decide +kernel
theorem d_C_quota_29 : decode b_C_quota 29 = .ok (.iaload, 1) := by decide +kernel
theorem d_C_quota_30 : decode b_C_quota 30 = .ok (.istore_n 3, 1) := by decide +kernel
theorem d_C_quota_31 : decode b_C_quota 31 = .ok (.aload_n 0, 1) := by decide +kernel
theorem d_C_quota_32 : decode b_C_quota 32 = .ok (.getfield 41, 3) := by decide +kernel
theorem d_C_quota_35 : decode b_C_quota 35 = .ok (.iload_n 1, 1) := by decide +kernel
theorem d_C_quota_36 : decode b_C_quota 36 = .ok (.iload_n 2, 1) := by decide +kernel
theorem d_C_quota_37 : decode b_C_quota 37 = .ok (.iastore, 1) := by decide +kernel
theorem d_C_quota_38 : decode b_C_quota 38 = .ok (.iload_n 3, 1) := by decide +kernel
theorem d_C_quota_39 : decode b_C_quota 39 = .ok (.ireturn, 1) := by decide +kernel
theorem d_C_bypass_0 : decode b_C_bypass 0 = .ok (.aload_n 0, 1) := by decide +kernel
theorem d_C_bypass_1 : decode b_C_bypass 1 = .ok (.getfield 48, 3) := by decide +kernel
theorem d_C_bypass_4 : decode b_C_bypass 4 = .ok (.aload_n 0, 1) := by decide +kernel
theorem d_C_bypass_5 : decode b_C_bypass 5 = .ok (.getfield 51, 3) := by decide +kernel
theorem d_C_bypass_8 : decode b_C_bypass 8 = .ok (.if_icmp .gt 7, 3) := by decide +kernel
theorem d_C_bypass_11 : decode b_C_bypass 11 = .ok (.iconst 1, 1) := by decide +kernel
theorem d_C_bypass_12 : decode b_C_bypass 12 = .ok (.goto 4, 3) := by decide +kernel
theorem d_C_bypass_15 : decode b_C_bypass 15 = .ok (.iconst 0, 1) := by decide +kernel
theorem d_C_bypass_16 : decode b_C_bypass 16 = .ok (.istore_n 3, 1) := by decide +kernel
theorem d_C_bypass_17 : decode b_C_bypass 17 = .ok (.aload_n 0, 1) := by decide +kernel
theorem d_C_bypass_18 : decode b_C_bypass 18 = .ok (.iload_n 1, 1) := by decide +kernel
theorem d_C_bypass_19 : decode b_C_bypass 19 = .ok (.putfield 48, 3) := by decide +kernel
theorem d_C_bypass_22 : decode b_C_bypass 22 = .ok (.aload_n 0, 1) := by decide +kernel
theorem d_C_bypass_23 : decode b_C_bypass 23 = .ok (.iload_n 2, 1) := by decide +kernel
theorem d_C_bypass_24 : decode b_C_bypass 24 = .ok (.putfield 51, 3) := by decide +kernel
theorem d_C_bypass_27 : decode b_C_bypass 27 = .ok (.iload_n 3, 1) := by decide +kernel
theorem d_C_bypass_28 : decode b_C_bypass 28 = .ok (.ireturn, 1) := by decide +kernel
theorem d_C_flush_0 : decode b_C_flush 0 = .ok (.aload_n 0, 1) := by decide +kernel
theorem d_C_flush_1 : decode b_C_flush 1 = .ok (.getfield 37, 3) := by decide +kernel
theorem d_C_flush_4 : decode b_C_flush 4 = .ok (.getfield 89, 3) := by decide +kernel
theorem d_C_flush_7 : decode b_C_flush 7 = .ok (.istore_n 1, 1) := by decide +kernel
theorem d_C_flush_8 : decode b_C_flush 8 = .ok (.iconst 0, 1) := by decide +kernel
theorem d_C_flush_9 : decode b_C_flush 9 = .ok (.istore_n 2, 1) := by decide +kernel
theorem d_C_flush_10 : decode b_C_flush 10 = .ok (.iload_n 2, 1) := by decide +kernel
theorem d_C_flush_11 : decode b_C_flush 11 = .ok (.aload_n 0, 1) := by decide +kernel
theorem d_C_flush_12 : decode b_C_flush 12 = .ok (.getfield 31, 3) := by decide +kernel
theorem d_C_flush_15 : decode b_C_flush 15 = .ok (.invokevirtual 92, 3) := by decide +kernel
theorem d_C_flush_18 : decode b_C_flush 18 = .ok (.if_icmp .ge 59, 3) := by decide +kernel
theorem d_C_flush_21 : decode b_C_flush 21 = .ok (.aload_n 0, 1) := by decide +kernel
theorem d_C_flush_22 : decode b_C_flush 22 = .ok (.getfield 31, 3) := by decide +kernel
theorem d_C_flush_25 : decode b_C_flush 25 = .ok (.iload_n 2, 1) := by decide +kernel
theorem d_C_flush_26 : decode b_C_flush 26 = .ok (.invokevirtual 96, 3) := by decide +kernel
theorem d_C_flush_29 : decode b_C_flush 29 = .ok (.ifCond .eq 42, 3) := by decide +kernel
theorem d_C_flush_32 : decode b_C_flush 32 = .ok (.aload_n 0, 1) := by decide +kernel
theorem d_C_flush_33 : decode b_C_flush 33 = .ok (.aload_n 0, 1) := by decide +kernel
theorem d_C_flush_34 : decode b_C_flush 34 = .ok (.getfield 31, 3) := by decide +kernel
theorem d_C_flush_37 : decode b_C_flush 37 = .ok (.iload_n 2, 1) := by decide +kernel
theorem d_C_flush_38 : decode b_C_flush 38 = .ok (.invokevirtual 100, 3) := by decide +kernel
theorem d_C_flush_41 : decode b_C_flush 41 = .ok (.invokevirtual 104, 3) := by decide +kernel
theorem d_C_flush_44 : decode b_C_flush 44 = .ok (.iconst (-1), 1) := by decide +kernel
theorem d_C_flush_45 : decode b_C_flush 45 = .ok (.if_icmp .ne 26, 3) := by decide +kernel
theorem d_C_flush_48 : decode b_C_flush 48 = .ok (.aload_n 0, 1) := by decide +kernel
theorem d_C_flush_49 : decode b_C_flush 49 = .ok (.getfield 37, 3) := by decide +kernel
theorem d_C_flush_52 : decode b_C_flush 52 = .ok (.aload_n 0, 1) := by decide +kernel
theorem d_C_flush_53 : decode b_C_flush 53 = .ok (.getfield 31, 3) := by decide +kernel
theorem d_C_flush_56 : decode b_C_flush 56 = .ok (.iload_n 2, 1) := by decide +kernel
theorem d_C_flush_57 : decode b_C_flush 57 = .ok (.invokevirtual 100, 3) := by decide +kernel
theorem d_C_flush_60 : decode b_C_flush 60 = .ok (.aload_n 0, 1) := by decide +kernel
theorem d_C_flush_61 : decode b_C_flush 61 = .ok (.getfield 31, 3) := by decide +kernel
theorem d_C_flush_64 : decode b_C_flush 64 = .ok (.iload_n 2, 1) := by decide +kernel
theorem d_C_flush_65 : decode b_C_flush 65 = .ok (.invokevirtual 107, 3) := by decide +kernel
theorem d_C_flush_68 : decode b_C_flush 68 = .ok (.invokevirtual 110, 3) := by decide +kernel
theorem d_C_flush_71 : decode b_C_flush 71 = .ok (.iinc 2 1, 3) := by decide +kernel
theorem d_C_flush_74 : decode b_C_flush 74 = .ok (.goto (-64), 3) := by decide +kernel
theorem d_C_flush_77 : decode b_C_flush 77 = .ok (.iconst 0, 1) := by decide +kernel
theorem d_C_flush_78 : decode b_C_flush 78 = .ok (.istore_n 2, 1) := by decide +kernel
theorem d_C_flush_79 : decode b_C_flush 79 = .ok (.iload_n 2, 1) := by decide +kernel
theorem d_C_flush_80 : decode b_C_flush 80 = .ok (.aload_n 0, 1) := by decide +kernel
theorem d_C_flush_81 : decode b_C_flush 81 = .ok (.getfield 27, 3) := by decide +kernel
theorem d_C_flush_84 : decode b_C_flush 84 = .ok (.invokevirtual 92, 3) := by decide +kernel
theorem d_C_flush_87 : decode b_C_flush 87 = .ok (.if_icmp .ge 43, 3) := by decide +kernel
theorem d_C_flush_90 : decode b_C_flush 90 = .ok (.aload_n 0, 1) := by decide +kernel
theorem d_C_flush_91 : decode b_C_flush 91 = .ok (.getfield 27, 3) := by decide +kernel
theorem d_C_flush_94 : decode b_C_flush 94 = .ok (.iload_n 2, 1) := by decide +kernel
theorem d_C_flush_95 : decode b_C_flush 95 = .ok (.invokevirtual 96, 3) := by decide +kernel
theorem d_C_flush_98 : decode b_C_flush 98 = .ok (.ifCond .eq 26, 3) := by decide +kernel
theorem d_C_flush_101 : decode b_C_flush 101 = .ok (.aload_n 0, 1) := by decide +kernel
theorem d_C_flush_102 : decode b_C_flush 102 = .ok (.getfield 37, 3) := by decide +kernel
theorem d_C_flush_105 : decode b_C_flush 105 = .ok (.aload_n 0, 1) := by decide +kernel
theorem d_C_flush_106 : decode b_C_flush 106 = .ok (.getfield 27, 3) := by decide +kernel
theorem d_C_flush_109 : decode b_C_flush 109 = .ok (.iload_n 2, 1) := by decide +kernel
theorem d_C_flush_110 : decode b_C_flush 110 = .ok (.invokevirtual 100, 3) := by decide +kernel
theorem d_C_flush_113 : decode b_C_flush 113 = .ok (.aload_n 0, 1) := by decide +kernel
theorem d_C_flush_114 : decode b_C_flush 114 = .ok (.getfield 27, 3) := by decide +kernel
theorem d_C_flush_117 : decode b_C_flush 117 = .ok (.iload_n 2, 1) := by decide +kernel
theorem d_C_flush_118 : decode b_C_flush 118 = .ok (.invokevirtual 107, 3) := by decide +kernel
theorem d_C_flush_121 : decode b_C_flush 121 = .ok (.invokevirtual 110, 3) := by decide +kernel
theorem d_C_flush_124 : decode b_C_flush 124 = .ok (.iinc 2 1, 3) := by decide +kernel
theorem d_C_flush_127 : decode b_C_flush 127 = .ok (.goto (-48), 3) := by decide +kernel
theorem d_C_flush_130 : decode b_C_flush 130 = .ok (.aload_n 0, 1) := by decide +kernel
theorem d_C_flush_131 : decode b_C_flush 131 = .ok (.getfield 27, 3) := by decide +kernel
theorem d_C_flush_134 : decode b_C_flush 134 = .ok (.invokevirtual 113, 3) := by decide +kernel
theorem d_C_flush_137 : decode b_C_flush 137 = .ok (.aload_n 0, 1) := by decide +kernel
theorem d_C_flush_138 : decode b_C_flush 138 = .ok (.getfield 31, 3) := by decide +kernel
theorem d_C_flush_141 : decode b_C_flush 141 = .ok (.invokevirtual 113, 3) := by decide +kernel
theorem d_C_flush_144 : decode b_C_flush 144 = .ok (.aload_n 0, 1) := by decide +kernel
theorem d_C_flush_145 : decode b_C_flush 145 = .ok (.getfield 37, 3) := by decide +kernel
theorem d_C_flush_148 : decode b_C_flush 148 = .ok (.getfield 89, 3) := by decide +kernel
theorem d_C_flush_151 : decode b_C_flush 151 = .ok (.iload_n 1, 1) := by decide +kernel
theorem d_C_flush_152 : decode b_C_flush 152 = .ok (.isub, 1) := by decide +kernel
theorem d_C_flush_153 : decode b_C_flush 153 = .ok (.ireturn, 1) := by decide +kernel
theorem d_C_holds_0 : decode b_C_holds 0 = .ok (.aload_n 0, 1) := by decide +kernel
theorem d_C_holds_1 : decode b_C_holds 1 = .ok (.iload_n 1, 1) := by decide +kernel
theorem d_C_holds_2 : decode b_C_holds 2 = .ok (.invokevirtual 116, 3) := by decide +kernel
theorem d_C_holds_5 : decode b_C_holds 5 = .ok (.aload_n 0, 1) := by decide +kernel
theorem d_C_holds_6 : decode b_C_holds 6 = .ok (.iload_n 1, 1) := by decide +kernel
theorem d_C_holds_7 : decode b_C_holds 7 = .ok (.invokevirtual 119, 3) := by decide +kernel
theorem d_C_holds_10 : decode b_C_holds 10 = .ok (.astore_n 3, 1) := by decide +kernel
theorem d_C_holds_11 : decode b_C_holds 11 = .ok (.aload_n 3, 1) := by decide +kernel
theorem d_C_holds_12 : decode b_C_holds 12 = .ok (.iload_n 1, 1) := by decide +kernel
theorem d_C_holds_13 : decode b_C_holds 13 = .ok (.invokestatic 123, 3) := by decide +kernel
theorem d_C_holds_16 : decode b_C_holds 16 = .ok (.iload_n 2, 1) := by decide +kernel
theorem d_C_holds_17 : decode b_C_holds 17 = .ok (.invokevirtual 72, 3) := by decide +kernel
theorem d_C_holds_20 : decode b_C_holds 20 = .ok (.istore 4, 2) := by decide +kernel
theorem d_C_holds_22 : decode b_C_holds 22 = .ok (.iload 4, 2) := by decide +kernel
theorem d_C_holds_24 : decode b_C_holds 24 = .ok (.iconst (-1), 1) := by decide +kernel
theorem d_C_holds_25 : decode b_C_holds 25 = .ok (.if_icmp .ne 5, 3) := by decide +kernel
theorem d_C_holds_28 : decode b_C_holds 28 = .ok (.iconst 0, 1) := by decide +kernel
theorem d_C_holds_29 : decode b_C_holds 29 = .ok (.ireturn, 1) := by decide +kernel
theorem d_C_holds_30 : decode b_C_holds 30 = .ok (.aload_n 3, 1) := by decide +kernel
theorem d_C_holds_31 : decode b_C_holds 31 = .ok (.iload 4, 2) := by decide +kernel
theorem d_C_holds_33 : decode b_C_holds 33 = .ok (.invokevirtual 96, 3) := by decide +kernel
theorem d_C_holds_36 : decode b_C_holds 36 = .ok (.ifCond .eq 7, 3) := by decide +kernel
theorem d_C_holds_39 : decode b_C_holds 39 = .ok (.iconst 2, 1) := by decide +kernel
theorem d_C_holds_40 : decode b_C_holds 40 = .ok (.goto 4, 3) := by decide +kernel
theorem d_C_holds_43 : decode b_C_holds 43 = .ok (.iconst 1, 1) := by decide +kernel
theorem d_C_holds_44 : decode b_C_holds 44 = .ok (.ireturn, 1) := by decide +kernel
theorem d_C_version_0 : decode b_C_version 0 = .ok (.aload_n 0, 1) := by decide +kernel
theorem d_C_version_1 : decode b_C_version 1 = .ok (.iload_n 1, 1) := by decide +kernel
theorem d_C_version_2 : decode b_C_version 2 = .ok (.invokevirtual 57, 3) := by decide +kernel
theorem d_C_version_5 : decode b_C_version 5 = .ok (.aload_n 0, 1) := by decide +kernel
theorem d_C_version_6 : decode b_C_version 6 = .ok (.getfield 27, 3) := by decide +kernel
theorem d_C_version_9 : decode b_C_version 9 = .ok (.iload_n 1, 1) := by decide +kernel
theorem d_C_version_10 : decode b_C_version 10 = .ok (.iload_n 2, 1) := by decide +kernel
theorem d_C_version_11 : decode b_C_version 11 = .ok (.invokevirtual 72, 3) := by decide +kernel
theorem d_C_version_14 : decode b_C_version 14 = .ok (.istore_n 3, 1) := by decide +kernel
theorem d_C_version_15 : decode b_C_version 15 = .ok (.iload_n 3, 1) := by decide +kernel
theorem d_C_version_16 : decode b_C_version 16 = .ok (.iconst (-1), 1) := by decide +kernel
theorem d_C_version_17 : decode b_C_version 17 = .ok (.if_icmp .eq 12, 3) := by decide +kernel
theorem d_C_version_20 : decode b_C_version 20 = .ok (.aload_n 0, 1) := by decide +kernel
theorem d_C_version_21 : decode b_C_version 21 = .ok (.getfield 27, 3) := by decide +kernel
theorem d_C_version_24 : decode b_C_version 24 = .ok (.iload_n 3, 1) := by decide +kernel
theorem d_C_version_25 : decode b_C_version 25 = .ok (.invokevirtual 107, 3) := by decide +kernel
theorem d_C_version_28 : decode b_C_version 28 = .ok (.ireturn, 1) := by decide +kernel
theorem d_C_version_29 : decode b_C_version 29 = .ok (.aload_n 0, 1) := by decide +kernel
theorem d_C_version_30 : decode b_C_version 30 = .ok (.iload_n 2, 1) := by decide +kernel
theorem d_C_version_31 : decode b_C_version 31 = .ok (.invokevirtual 104, 3) := by decide +kernel
theorem d_C_version_34 : decode b_C_version 34 = .ok (.istore 4, 2) := by decide +kernel
theorem d_C_version_36 : decode b_C_version 36 = .ok (.iload 4, 2) := by decide +kernel
theorem d_C_version_38 : decode b_C_version 38 = .ok (.iconst (-1), 1) := by decide +kernel
theorem d_C_version_39 : decode b_C_version 39 = .ok (.if_icmp .eq 13, 3) := by decide +kernel
theorem d_C_version_42 : decode b_C_version 42 = .ok (.aload_n 0, 1) := by decide +kernel
theorem d_C_version_43 : decode b_C_version 43 = .ok (.getfield 27, 3) := by decide +kernel
theorem d_C_version_46 : decode b_C_version 46 = .ok (.iload 4, 2) := by decide +kernel
theorem d_C_version_48 : decode b_C_version 48 = .ok (.invokevirtual 107, 3) := by decide +kernel
theorem d_C_version_51 : decode b_C_version 51 = .ok (.ireturn, 1) := by decide +kernel
theorem d_C_version_52 : decode b_C_version 52 = .ok (.aload_n 0, 1) := by decide +kernel
theorem d_C_version_53 : decode b_C_version 53 = .ok (.getfield 31, 3) := by decide +kernel
theorem d_C_version_56 : decode b_C_version 56 = .ok (.iconst 0, 1) := by decide +kernel
theorem d_C_version_57 : decode b_C_version 57 = .ok (.iload_n 2, 1) := by decide +kernel
theorem d_C_version_58 : decode b_C_version 58 = .ok (.invokevirtual 72, 3) := by decide +kernel
theorem d_C_version_61 : decode b_C_version 61 = .ok (.istore 5, 2) := by decide +kernel
theorem d_C_version_63 : decode b_C_version 63 = .ok (.iload 5, 2) := by decide +kernel
theorem d_C_version_65 : decode b_C_version 65 = .ok (.iconst (-1), 1) := by decide +kernel
theorem d_C_version_66 : decode b_C_version 66 = .ok (.if_icmp .eq 15, 3) := by decide +kernel
theorem d_C_version_69 : decode b_C_version 69 = .ok (.aload_n 0, 1) := by decide +kernel
theorem d_C_version_70 : decode b_C_version 70 = .ok (.getfield 31, 3) := by decide +kernel
theorem d_C_version_73 : decode b_C_version 73 = .ok (.iload 5, 2) := by decide +kernel
theorem d_C_version_75 : decode b_C_version 75 = .ok (.invokevirtual 107, 3) := by decide +kernel
theorem d_C_version_78 : decode b_C_version 78 = .ok (.goto 11, 3) := by decide +kernel
theorem d_C_version_81 : decode b_C_version 81 = .ok (.aload_n 0, 1) := by decide +kernel
theorem d_C_version_82 : decode b_C_version 82 = .ok (.getfield 37, 3) := by decide +kernel
theorem d_C_version_85 : decode b_C_version 85 = .ok (.iload_n 2, 1) := by decide +kernel
theorem d_C_version_86 : decode b_C_version 86 = .ok (.invokevirtual 126, 3) := by decide +kernel
theorem d_C_version_89 : decode b_C_version 89 = .ok (.ireturn, 1) := by decide +kernel
theorem d_C_memory_0 : decode b_C_memory 0 = .ok (.aload_n 0, 1) := by decide +kernel
theorem d_C_memory_1 : decode b_C_memory 1 = .ok (.getfield 37, 3) := by decide +kernel
theorem d_C_memory_4 : decode b_C_memory 4 = .ok (.iload_n 1, 1) := by decide +kernel
theorem d_C_memory_5 : decode b_C_memory 5 = .ok (.invokevirtual 126, 3) := by decide +kernel
theorem d_C_memory_8 : decode b_C_memory 8 = .ok (.ireturn, 1) := by decide +kernel
theorem d_C_line_0 : decode b_C_line 0 = .ok (.aload_n 0, 1) := by decide +kernel
theorem d_C_line_1 : decode b_C_line 1 = .ok (.iload_n 1, 1) := by decide +kernel
theorem d_C_line_2 : decode b_C_line 2 = .ok (.invokevirtual 116, 3) := by decide +kernel
theorem d_C_line_5 : decode b_C_line 5 = .ok (.aload_n 0, 1) := by decide +kernel
theorem d_C_line_6 : decode b_C_line 6 = .ok (.iload_n 1, 1) := by decide +kernel
theorem d_C_line_7 : decode b_C_line 7 = .ok (.invokevirtual 119, 3) := by decide +kernel
theorem d_C_line_10 : decode b_C_line 10 = .ok (.astore 4, 2) := by decide +kernel
theorem d_C_line_12 : decode b_C_line 12 = .ok (.iload_n 2, 1) := by decide +kernel
theorem d_C_line_13 : decode b_C_line 13 = .ok (.ifCond .lt 12, 3) := by decide +kernel
theorem d_C_line_16 : decode b_C_line 16 = .ok (.iload_n 2, 1) := by decide +kernel
theorem d_C_line_17 : decode b_C_line 17 = .ok (.aload 4, 2) := by decide +kernel
theorem d_C_line_19 : decode b_C_line 19 = .ok (.getfield 129, 3) := by decide +kernel
theorem d_C_line_22 : decode b_C_line 22 = .ok (.if_icmp .lt 13, 3) := by decide +kernel
theorem d_C_line_25 : decode b_C_line 25 = .ok (.new 132, 3) := by decide +kernel
theorem d_C_line_28 : decode b_C_line 28 = .ok (.dup, 1) := by decide +kernel
theorem d_C_line_29 : decode b_C_line 29 = .ok (.ldc 134, 2) := by decide +kernel
theorem d_C_line_31 : decode b_C_line 31 = .ok (.invokespecial 136, 3) := by decide +kernel
theorem d_C_line_34 : decode b_C_line 34 = .ok (.athrow, 1) := by decide +kernel
theorem d_C_line_35 : decode b_C_line 35 = .ok (.iload_n 1, 1) := by decide +kernel
theorem d_C_line_36 : decode b_C_line 36 = .ok (.invokestatic 123, 3) := by decide +kernel
theorem d_C_line_39 : decode b_C_line 39 = .ok (.aload 4, 2) := by decide +kernel
theorem d_C_line_41 : decode b_C_line 41 = .ok (.getfield 129, 3) := by decide +kernel
theorem d_C_line_44 : decode b_C_line 44 = .ok (.imul, 1) := by decide +kernel
theorem d_C_line_45 : decode b_C_line 45 = .ok (.iload_n 2, 1) := by decide +kernel
theorem d_C_line_46 : decode b_C_line 46 = .ok (.iadd, 1) := by decide +kernel
theorem d_C_line_47 : decode b_C_line 47 = .ok (.istore 5, 2) := by decide +kernel
theorem d_C_line_49 : decode b_C_line 49 = .ok (.iload_n 3, 1) := by decide +kernel
theorem d_C_line_50 : decode b_C_line 50 = .ok (.ifCond .lt 14, 3) := by decide +kernel
theorem d_C_line_53 : decode b_C_line 53 = .ok (.iload_n 3, 1) := by decide +kernel
theorem d_C_line_54 : decode b_C_line 54 = .ok (.aload 4, 2) := by decide +kernel
theorem d_C_line_56 : decode b_C_line 56 = .ok (.iload 5, 2) := by decide +kernel
theorem d_C_line_58 : decode b_C_line 58 = .ok (.invokevirtual 137, 3) := by decide +kernel
theorem d_C_line_61 : decode b_C_line 61 = .ok (.if_icmp .lt 13, 3) := by decide +kernel
theorem d_C_line_64 : decode b_C_line 64 = .ok (.new 132, 3) := by decide +kernel
theorem d_C_line_67 : decode b_C_line 67 = .ok (.dup, 1) := by decide +kernel
theorem d_C_line_68 : decode b_C_line 68 = .ok (.ldc 140, 2) := by decide +kernel
theorem d_C_line_70 : decode b_C_line 70 = .ok (.invokespecial 136, 3) := by decide +kernel
theorem d_C_line_73 : decode b_C_line 73 = .ok (.athrow, 1) := by decide +kernel
theorem d_C_line_74 : decode b_C_line 74 = .ok (.aload 4, 2) := by decide +kernel
theorem d_C_line_76 : decode b_C_line 76 = .ok (.iload 5, 2) := by decide +kernel
theorem d_C_line_78 : decode b_C_line 78 = .ok (.aload 4, 2) := by decide +kernel
theorem d_C_line_80 : decode b_C_line 80 = .ok (.getfield 142, 3) := by decide +kernel
theorem d_C_line_83 : decode b_C_line 83 = .ok (.imul, 1) := by decide +kernel
theorem d_C_line_84 : decode b_C_line 84 = .ok (.iload_n 3, 1) := by decide +kernel
theorem d_C_line_85 : decode b_C_line 85 = .ok (.iadd, 1) := by decide +kernel
theorem d_C_line_86 : decode b_C_line 86 = .ok (.invokevirtual 100, 3) := by decide +kernel
theorem d_C_line_89 : decode b_C_line 89 = .ok (.ireturn, 1) := by decide +kernel
theorem d_C_owner_0 : decode b_C_owner 0 = .ok (.aload_n 0, 1) := by decide +kernel
theorem d_C_owner_1 : decode b_C_owner 1 = .ok (.getfield 31, 3) := by decide +kernel
theorem d_C_owner_4 : decode b_C_owner 4 = .ok (.iconst 0, 1) := by decide +kernel
theorem d_C_owner_5 : decode b_C_owner 5 = .ok (.iload_n 1, 1) := by decide +kernel
theorem d_C_owner_6 : decode b_C_owner 6 = .ok (.invokevirtual 72, 3) := by decide +kernel
theorem d_C_owner_9 : decode b_C_owner 9 = .ok (.istore_n 2, 1) := by decide +kernel
theorem d_C_owner_10 : decode b_C_owner 10 = .ok (.iload_n 2, 1) := by decide +kernel
theorem d_C_owner_11 : decode b_C_owner 11 = .ok (.iconst (-1), 1) := by decide +kernel
theorem d_C_owner_12 : decode b_C_owner 12 = .ok (.if_icmp .ne 7, 3) := by decide +kernel
theorem d_C_owner_15 : decode b_C_owner 15 = .ok (.iconst (-1), 1) := by decide +kernel
theorem d_C_owner_16 : decode b_C_owner 16 = .ok (.goto 11, 3) := by decide +kernel
theorem d_C_owner_19 : decode b_C_owner 19 = .ok (.aload_n 0, 1) := by decide +kernel
theorem d_C_owner_20 : decode b_C_owner 20 = .ok (.getfield 31, 3) := by decide +kernel
theorem d_C_owner_23 : decode b_C_owner 23 = .ok (.iload_n 2, 1) := by decide +kernel
theorem d_C_owner_24 : decode b_C_owner 24 = .ok (.invokevirtual 145, 3) := by decide +kernel
theorem d_C_owner_27 : decode b_C_owner 27 = .ok (.ireturn, 1) := by decide +kernel
theorem d_C_directory_0 : decode b_C_directory 0 = .ok (.iconst 0, 1) := by decide +kernel
theorem d_C_directory_1 : decode b_C_directory 1 = .ok (.istore_n 2, 1) := by decide +kernel
theorem d_C_directory_2 : decode b_C_directory 2 = .ok (.iconst 0, 1) := by decide +kernel
theorem d_C_directory_3 : decode b_C_directory 3 = .ok (.istore_n 3, 1) := by decide +kernel
theorem d_C_directory_4 : decode b_C_directory 4 = .ok (.iload_n 3, 1) := by decide +kernel
theorem d_C_directory_5 : decode b_C_directory 5 = .ok (.aload_n 0, 1) := by decide +kernel
theorem d_C_directory_6 : decode b_C_directory 6 = .ok (.getfield 15, 3) := by decide +kernel
theorem d_C_directory_9 : decode b_C_directory 9 = .ok (.if_icmp .ge 28, 3) := by decide +kernel
theorem d_C_directory_12 : decode b_C_directory 12 = .ok (.aload_n 0, 1) := by decide +kernel
theorem d_C_directory_13 : decode b_C_directory 13 = .ok (.getfield 27, 3) := by decide +kernel
theorem d_C_directory_16 : decode b_C_directory 16 = .ok (.iload_n 3, 1) := by decide +kernel
theorem d_C_directory_17 : decode b_C_directory 17 = .ok (.iload_n 1, 1) := by decide +kernel
theorem d_C_directory_18 : decode b_C_directory 18 = .ok (.invokevirtual 72, 3) := by decide +kernel
theorem d_C_directory_21 : decode b_C_directory 21 = .ok (.iconst (-1), 1) := by decide +kernel
theorem d_C_directory_22 : decode b_C_directory 22 = .ok (.if_icmp .eq 9, 3) := by decide +kernel
theorem d_C_directory_25 : decode b_C_directory 25 = .ok (.iload_n 2, 1) := by decide +kernel
theorem d_C_directory_26 : decode b_C_directory 26 = .ok (.iconst 1, 1) := by decide +kernel
theorem d_C_directory_27 : decode b_C_directory 27 = .ok (.iload_n 3, 1) := by decide +kernel
theorem d_C_directory_28 : decode b_C_directory 28 = .ok (.ishl, 1) := by decide +kernel
theorem d_C_directory_29 : decode b_C_directory 29 = .ok (.ior, 1) := by decide +kernel
theorem d_C_directory_30 : decode b_C_directory 30 = .ok (.istore_n 2, 1) := by decide +kernel
theorem d_C_directory_31 : decode b_C_directory 31 = .ok (.iinc 3 1, 3) := by decide +kernel
theorem d_C_directory_34 : decode b_C_directory 34 = .ok (.goto (-30), 3) := by decide +kernel
theorem d_C_directory_37 : decode b_C_directory 37 = .ok (.iload_n 2, 1) := by decide +kernel
theorem d_C_directory_38 : decode b_C_directory 38 = .ok (.ireturn, 1) := by decide +kernel
theorem d_C_core_0 : decode b_C_core 0 = .ok (.aload_n 0, 1) := by decide +kernel
theorem d_C_core_1 : decode b_C_core 1 = .ok (.iload_n 1, 1) := by decide +kernel
theorem d_C_core_2 : decode b_C_core 2 = .ok (.invokevirtual 57, 3) := by decide +kernel
theorem d_C_core_5 : decode b_C_core 5 = .ok (.iload_n 2, 1) := by decide +kernel
theorem d_C_core_6 : decode b_C_core 6 = .ok (.ifCond .lt 9, 3) := by decide +kernel
theorem d_C_core_9 : decode b_C_core 9 = .ok (.iload_n 2, 1) := by decide +kernel
theorem d_C_core_10 : decode b_C_core 10 = .ok (.bipush 7, 2) := by decide +kernel
theorem d_C_core_12 : decode b_C_core 12 = .ok (.if_icmp .le 13, 3) := by decide +kernel
theorem d_C_core_15 : decode b_C_core 15 = .ok (.new 132, 3) := by decide +kernel
theorem d_C_core_18 : decode b_C_core 18 = .ok (.dup, 1) := by decide +kernel
theorem d_C_core_19 : decode b_C_core 19 = .ok (.ldc 148, 2) := by decide +kernel
theorem d_C_core_21 : decode b_C_core 21 = .ok (.invokespecial 136, 3) := by decide +kernel
theorem d_C_core_24 : decode b_C_core 24 = .ok (.athrow, 1) := by decide +kernel
theorem d_C_core_25 : decode b_C_core 25 = .ok (.iload_n 2, 1) := by decide +kernel
theorem d_C_core_26 : decode b_C_core 26 = .ok (.bipush 7, 2) := by decide +kernel
theorem d_C_core_28 : decode b_C_core 28 = .ok (.if_icmp .ne 14, 3) := by decide +kernel
theorem d_C_core_31 : decode b_C_core 31 = .ok (.aload_n 0, 1) := by decide +kernel
theorem d_C_core_32 : decode b_C_core 32 = .ok (.getfield 31, 3) := by decide +kernel
theorem d_C_core_35 : decode b_C_core 35 = .ok (.iload_n 1, 1) := by decide +kernel
theorem d_C_core_36 : decode b_C_core 36 = .ok (.invokevirtual 150, 3) := by decide +kernel
theorem d_C_core_39 : decode b_C_core 39 = .ok (.goto 14, 3) := by decide +kernel
theorem d_C_core_42 : decode b_C_core 42 = .ok (.aload_n 0, 1) := by decide +kernel
theorem d_C_core_43 : decode b_C_core 43 = .ok (.getfield 45, 3) := by decide +kernel
theorem d_C_core_46 : decode b_C_core 46 = .ok (.iload_n 1, 1) := by decide +kernel
theorem d_C_core_47 : decode b_C_core 47 = .ok (.bipush 7, 2) := by decide +kernel
theorem d_C_core_49 : decode b_C_core 49 = .ok (.imul, 1) := by decide +kernel
theorem d_C_core_50 : decode b_C_core 50 = .ok (.iload_n 2, 1) := by decide +kernel
theorem d_C_core_51 : decode b_C_core 51 = .ok (.iadd, 1) := by decide +kernel
theorem d_C_core_52 : decode b_C_core 52 = .ok (.iaload, 1) := by decide +kernel
theorem d_C_core_53 : decode b_C_core 53 = .ok (.ireturn, 1) := by decide +kernel
theorem d_C_count_0 : decode b_C_count 0 = .ok (.iload_n 1, 1) := by decide +kernel
theorem d_C_count_1 : decode b_C_count 1 = .ok (.tableswitch 102 0 7 #[47, 55, 60, 68, 76, 81, 86, 94], 47) := by decide +kernel
theorem d_C_count_48 : decode b_C_count 48 = .ok (.aload_n 0, 1) := by decide +kernel
theorem d_C_count_49 : decode b_C_count 49 = .ok (.getfield 37, 3) := by decide +kernel
theorem d_C_count_52 : decode b_C_count 52 = .ok (.getfield 89, 3) := by decide +kernel
theorem d_C_count_55 : decode b_C_count 55 = .ok (.ireturn, 1) := by decide +kernel
theorem d_C_count_56 : decode b_C_count 56 = .ok (.aload_n 0, 1) := by decide +kernel
theorem d_C_count_57 : decode b_C_count 57 = .ok (.getfield 54, 3) := by decide +kernel
theorem d_C_count_60 : decode b_C_count 60 = .ok (.ireturn, 1) := by decide +kernel
theorem d_C_count_61 : decode b_C_count 61 = .ok (.aload_n 0, 1) := by decide +kernel
theorem d_C_count_62 : decode b_C_count 62 = .ok (.getfield 27, 3) := by decide +kernel
theorem d_C_count_65 : decode b_C_count 65 = .ok (.invokevirtual 153, 3) := by decide +kernel
theorem d_C_count_68 : decode b_C_count 68 = .ok (.ireturn, 1) := by decide +kernel
theorem d_C_count_69 : decode b_C_count 69 = .ok (.aload_n 0, 1) := by decide +kernel
theorem d_C_count_70 : decode b_C_count 70 = .ok (.getfield 31, 3) := by decide +kernel
theorem d_C_count_73 : decode b_C_count 73 = .ok (.invokevirtual 153, 3) := by decide +kernel
theorem d_C_count_76 : decode b_C_count 76 = .ok (.ireturn, 1) := by decide +kernel
theorem d_C_count_77 : decode b_C_count 77 = .ok (.aload_n 0, 1) := by decide +kernel
theorem d_C_count_78 : decode b_C_count 78 = .ok (.getfield 15, 3) := by decide +kernel
theorem d_C_count_81 : decode b_C_count 81 = .ok (.ireturn, 1) := by decide +kernel
theorem d_C_count_82 : decode b_C_count 82 = .ok (.aload_n 0, 1) := by decide +kernel
theorem d_C_count_83 : decode b_C_count 83 = .ok (.getfield 19, 3) := by decide +kernel
theorem d_C_count_86 : decode b_C_count 86 = .ok (.ireturn, 1) := by decide +kernel
theorem d_C_count_87 : decode b_C_count 87 = .ok (.aload_n 0, 1) := by decide +kernel
theorem d_C_count_88 : decode b_C_count 88 = .ok (.getfield 27, 3) := by decide +kernel
theorem d_C_count_91 : decode b_C_count 91 = .ok (.getfield 129, 3) := by decide +kernel
theorem d_C_count_94 : decode b_C_count 94 = .ok (.ireturn, 1) := by decide +kernel
theorem d_C_count_95 : decode b_C_count 95 = .ok (.aload_n 0, 1) := by decide +kernel
theorem d_C_count_96 : decode b_C_count 96 = .ok (.getfield 31, 3) := by decide +kernel
theorem d_C_count_99 : decode b_C_count 99 = .ok (.getfield 129, 3) := by decide +kernel
theorem d_C_count_102 : decode b_C_count 102 = .ok (.ireturn, 1) := by decide +kernel
theorem d_C_count_103 : decode b_C_count 103 = .ok (.iconst (-1), 1) := by decide +kernel
theorem d_C_count_104 : decode b_C_count 104 = .ok (.ireturn, 1) := by decide +kernel
theorem d_C_requireCore_0 : decode b_C_requireCore 0 = .ok (.iload_n 1, 1) := by decide +kernel
theorem d_C_requireCore_1 : decode b_C_requireCore 1 = .ok (.ifCond .lt 11, 3) := by decide +kernel
theorem d_C_requireCore_4 : decode b_C_requireCore 4 = .ok (.iload_n 1, 1) := by decide +kernel
theorem d_C_requireCore_5 : decode b_C_requireCore 5 = .ok (.aload_n 0, 1) := by decide +kernel
theorem d_C_requireCore_6 : decode b_C_requireCore 6 = .ok (.getfield 15, 3) := by decide +kernel
theorem d_C_requireCore_9 : decode b_C_requireCore 9 = .ok (.if_icmp .lt 13, 3) := by decide +kernel
theorem d_C_requireCore_12 : decode b_C_requireCore 12 = .ok (.new 132, 3) := by decide +kernel
theorem d_C_requireCore_15 : decode b_C_requireCore 15 = .ok (.dup, 1) := by decide +kernel
theorem d_C_requireCore_16 : decode b_C_requireCore 16 = .ok (.ldc 156, 2) := by decide +kernel
theorem d_C_requireCore_18 : decode b_C_requireCore 18 = .ok (.invokespecial 136, 3) := by decide +kernel
theorem d_C_requireCore_21 : decode b_C_requireCore 21 = .ok (.athrow, 1) := by decide +kernel
theorem d_C_requireCore_22 : decode b_C_requireCore 22 = .ok (.return_, 1) := by decide +kernel
theorem d_C_requireCoreOrNone_0 : decode b_C_requireCoreOrNone 0 = .ok (.iload_n 1, 1) := by decide +kernel
theorem d_C_requireCoreOrNone_1 : decode b_C_requireCoreOrNone 1 = .ok (.iconst (-1), 1) := by decide +kernel
theorem d_C_requireCoreOrNone_2 : decode b_C_requireCoreOrNone 2 = .ok (.if_icmp .eq 8, 3) := by decide +kernel
theorem d_C_requireCoreOrNone_5 : decode b_C_requireCoreOrNone 5 = .ok (.aload_n 0, 1) := by decide +kernel
theorem d_C_requireCoreOrNone_6 : decode b_C_requireCoreOrNone 6 = .ok (.iload_n 1, 1) := by decide +kernel
theorem d_C_requireCoreOrNone_7 : decode b_C_requireCoreOrNone 7 = .ok (.invokevirtual 57, 3) := by decide +kernel
theorem d_C_requireCoreOrNone_10 : decode b_C_requireCoreOrNone 10 = .ok (.return_, 1) := by decide +kernel
theorem d_C_bankOf_0 : decode b_C_bankOf 0 = .ok (.iload_n 1, 1) := by decide +kernel
theorem d_C_bankOf_1 : decode b_C_bankOf 1 = .ok (.iconst (-1), 1) := by decide +kernel
theorem d_C_bankOf_2 : decode b_C_bankOf 2 = .ok (.if_icmp .ne 10, 3) := by decide +kernel
theorem d_C_bankOf_5 : decode b_C_bankOf 5 = .ok (.aload_n 0, 1) := by decide +kernel
theorem d_C_bankOf_6 : decode b_C_bankOf 6 = .ok (.getfield 31, 3) := by decide +kernel
theorem d_C_bankOf_9 : decode b_C_bankOf 9 = .ok (.goto 7, 3) := by decide +kernel
theorem d_C_bankOf_12 : decode b_C_bankOf 12 = .ok (.aload_n 0, 1) := by decide +kernel
theorem d_C_bankOf_13 : decode b_C_bankOf 13 = .ok (.getfield 27, 3) := by decide +kernel
theorem d_C_bankOf_16 : decode b_C_bankOf 16 = .ok (.areturn, 1) := by decide +kernel
theorem d_C_groupOf_0 : decode b_C_groupOf 0 = .ok (.iload_n 0, 1) := by decide +kernel
theorem d_C_groupOf_1 : decode b_C_groupOf 1 = .ok (.iconst (-1), 1) := by decide +kernel
theorem d_C_groupOf_2 : decode b_C_groupOf 2 = .ok (.if_icmp .ne 7, 3) := by decide +kernel
theorem d_C_groupOf_5 : decode b_C_groupOf 5 = .ok (.iconst 0, 1) := by decide +kernel
theorem d_C_groupOf_6 : decode b_C_groupOf 6 = .ok (.goto 4, 3) := by decide +kernel
theorem d_C_groupOf_9 : decode b_C_groupOf 9 = .ok (.iload_n 0, 1) := by decide +kernel
theorem d_C_groupOf_10 : decode b_C_groupOf 10 = .ok (.ireturn, 1) := by decide +kernel
theorem d_C_tally_0 : decode b_C_tally 0 = .ok (.iload_n 1, 1) := by decide +kernel
theorem d_C_tally_1 : decode b_C_tally 1 = .ok (.bipush 7, 2) := by decide +kernel
theorem d_C_tally_3 : decode b_C_tally 3 = .ok (.imul, 1) := by decide +kernel
theorem d_C_tally_4 : decode b_C_tally 4 = .ok (.iload_n 2, 1) := by decide +kernel
theorem d_C_tally_5 : decode b_C_tally 5 = .ok (.iadd, 1) := by decide +kernel
theorem d_C_tally_6 : decode b_C_tally 6 = .ok (.istore_n 3, 1) := by decide +kernel
theorem d_C_tally_7 : decode b_C_tally 7 = .ok (.iload_n 3, 1) := by decide +kernel
theorem d_C_tally_8 : decode b_C_tally 8 = .ok (.ifCond .lt 22, 3) := by decide +kernel
theorem d_C_tally_11 : decode b_C_tally 11 = .ok (.iload_n 3, 1) := by decide +kernel
theorem d_C_tally_12 : decode b_C_tally 12 = .ok (.aload_n 0, 1) := by decide +kernel
theorem d_C_tally_13 : decode b_C_tally 13 = .ok (.getfield 45, 3) := by decide +kernel
theorem d_C_tally_16 : decode b_C_tally 16 = .ok (.arraylength, 1) := by decide +kernel
theorem d_C_tally_17 : decode b_C_tally 17 = .ok (.if_icmp .ge 13, 3) := by decide +kernel
theorem d_C_tally_20 : decode b_C_tally 20 = .ok (.aload_n 0, 1) := by decide +kernel
theorem d_C_tally_21 : decode b_C_tally 21 = .ok (.getfield 45, 3) := by decide +kernel
theorem d_C_tally_24 : decode b_C_tally 24 = .ok (.iload_n 3, 1) := by decide +kernel
theorem d_C_tally_25 : decode b_C_tally 25 = .ok (.dup2, 1) := by decide +kernel
theorem d_C_tally_26 : decode b_C_tally 26 = .ok (.iaload, 1) := by decide +kernel
theorem d_C_tally_27 : decode b_C_tally 27 = .ok (.iconst 1, 1) := by decide +kernel
theorem d_C_tally_28 : decode b_C_tally 28 = .ok (.iadd, 1) := by decide +kernel
theorem d_C_tally_29 : decode b_C_tally 29 = .ok (.iastore, 1) := by decide +kernel
theorem d_C_tally_30 : decode b_C_tally 30 = .ok (.return_, 1) := by decide +kernel
theorem d_C_passesBy_0 : decode b_C_passesBy 0 = .ok (.iload_n 1, 1) := by decide +kernel
theorem d_C_passesBy_1 : decode b_C_passesBy 1 = .ok (.aload_n 0, 1) := by decide +kernel
theorem d_C_passesBy_2 : decode b_C_passesBy 2 = .ok (.getfield 48, 3) := by decide +kernel
theorem d_C_passesBy_5 : decode b_C_passesBy 5 = .ok (.if_icmp .lt 15, 3) := by decide +kernel
theorem d_C_passesBy_8 : decode b_C_passesBy 8 = .ok (.iload_n 1, 1) := by decide +kernel
theorem d_C_passesBy_9 : decode b_C_passesBy 9 = .ok (.aload_n 0, 1) := by decide +kernel
theorem d_C_passesBy_10 : decode b_C_passesBy 10 = .ok (.getfield 51, 3) := by decide +kernel
theorem d_C_passesBy_13 : decode b_C_passesBy 13 = .ok (.if_icmp .gt 7, 3) := by decide +kernel
theorem d_C_passesBy_16 : decode b_C_passesBy 16 = .ok (.iconst 1, 1) := by decide +kernel
theorem d_C_passesBy_17 : decode b_C_passesBy 17 = .ok (.goto 4, 3) := by decide +kernel
theorem d_C_passesBy_20 : decode b_C_passesBy 20 = .ok (.iconst 0, 1) := by decide +kernel
theorem d_C_passesBy_21 : decode b_C_passesBy 21 = .ok (.ireturn, 1) := by decide +kernel
theorem d_C_writtenInFirst_0 : decode b_C_writtenInFirst 0 = .ok (.iconst 0, 1) := by decide +kernel
theorem d_C_writtenInFirst_1 : decode b_C_writtenInFirst 1 = .ok (.istore_n 2, 1) := by decide +kernel
theorem d_C_writtenInFirst_2 : decode b_C_writtenInFirst 2 = .ok (.iload_n 2, 1) := by decide +kernel
theorem d_C_writtenInFirst_3 : decode b_C_writtenInFirst 3 = .ok (.aload_n 0, 1) := by decide +kernel
theorem d_C_writtenInFirst_4 : decode b_C_writtenInFirst 4 = .ok (.getfield 15, 3) := by decide +kernel
theorem d_C_writtenInFirst_7 : decode b_C_writtenInFirst 7 = .ok (.if_icmp .ge 32, 3) := by decide +kernel
theorem d_C_writtenInFirst_10 : decode b_C_writtenInFirst 10 = .ok (.aload_n 0, 1) := by decide +kernel
theorem d_C_writtenInFirst_11 : decode b_C_writtenInFirst 11 = .ok (.getfield 27, 3) := by decide +kernel
theorem d_C_writtenInFirst_14 : decode b_C_writtenInFirst 14 = .ok (.iload_n 2, 1) := by decide +kernel
theorem d_C_writtenInFirst_15 : decode b_C_writtenInFirst 15 = .ok (.iload_n 1, 1) := by decide +kernel
theorem d_C_writtenInFirst_16 : decode b_C_writtenInFirst 16 = .ok (.invokevirtual 72, 3) := by decide +kernel
theorem d_C_writtenInFirst_19 : decode b_C_writtenInFirst 19 = .ok (.istore_n 3, 1) := by decide +kernel
theorem d_C_writtenInFirst_20 : decode b_C_writtenInFirst 20 = .ok (.aload_n 0, 1) := by decide +kernel
theorem d_C_writtenInFirst_21 : decode b_C_writtenInFirst 21 = .ok (.getfield 27, 3) := by decide +kernel
theorem d_C_writtenInFirst_24 : decode b_C_writtenInFirst 24 = .ok (.iload_n 3, 1) := by decide +kernel
theorem d_C_writtenInFirst_25 : decode b_C_writtenInFirst 25 = .ok (.invokevirtual 96, 3) := by decide +kernel
theorem d_C_writtenInFirst_28 : decode b_C_writtenInFirst 28 = .ok (.ifCond .eq 5, 3) := by decide +kernel
theorem d_C_writtenInFirst_31 : decode b_C_writtenInFirst 31 = .ok (.iload_n 3, 1) := by decide +kernel
theorem d_C_writtenInFirst_32 : decode b_C_writtenInFirst 32 = .ok (.ireturn, 1) := by decide +kernel
theorem d_C_writtenInFirst_33 : decode b_C_writtenInFirst 33 = .ok (.iinc 2 1, 3) := by decide +kernel
theorem d_C_writtenInFirst_36 : decode b_C_writtenInFirst 36 = .ok (.goto (-34), 3) := by decide +kernel
theorem d_C_writtenInFirst_39 : decode b_C_writtenInFirst 39 = .ok (.iconst (-1), 1) := by decide +kernel
theorem d_C_writtenInFirst_40 : decode b_C_writtenInFirst 40 = .ok (.ireturn, 1) := by decide +kernel
theorem d_C_handOver_0 : decode b_C_handOver 0 = .ok (.aload_n 0, 1) := by decide +kernel
theorem d_C_handOver_1 : decode b_C_handOver 1 = .ok (.iload_n 1, 1) := by decide +kernel
theorem d_C_handOver_2 : decode b_C_handOver 2 = .ok (.invokevirtual 104, 3) := by decide +kernel
theorem d_C_handOver_5 : decode b_C_handOver 5 = .ok (.istore_n 2, 1) := by decide +kernel
theorem d_C_handOver_6 : decode b_C_handOver 6 = .ok (.iload_n 2, 1) := by decide +kernel
theorem d_C_handOver_7 : decode b_C_handOver 7 = .ok (.iconst (-1), 1) := by decide +kernel
theorem d_C_handOver_8 : decode b_C_handOver 8 = .ok (.if_icmp .eq 34, 3) := by decide +kernel
theorem d_C_handOver_11 : decode b_C_handOver 11 = .ok (.aload_n 0, 1) := by decide +kernel
theorem d_C_handOver_12 : decode b_C_handOver 12 = .ok (.dup, 1) := by decide +kernel
theorem d_C_handOver_13 : decode b_C_handOver 13 = .ok (.getfield 54, 3) := by decide +kernel
theorem d_C_handOver_16 : decode b_C_handOver 16 = .ok (.iconst 1, 1) := by decide +kernel
theorem d_C_handOver_17 : decode b_C_handOver 17 = .ok (.iadd, 1) := by decide +kernel
theorem d_C_handOver_18 : decode b_C_handOver 18 = .ok (.putfield 54, 3) := by decide +kernel
theorem d_C_handOver_21 : decode b_C_handOver 21 = .ok (.aload_n 0, 1) := by decide +kernel
theorem d_C_handOver_22 : decode b_C_handOver 22 = .ok (.getfield 27, 3) := by decide +kernel
theorem d_C_handOver_25 : decode b_C_handOver 25 = .ok (.iload_n 2, 1) := by decide +kernel
theorem d_C_handOver_26 : decode b_C_handOver 26 = .ok (.invokevirtual 158, 3) := by decide +kernel
theorem d_C_handOver_29 : decode b_C_handOver 29 = .ok (.aload_n 0, 1) := by decide +kernel
theorem d_C_handOver_30 : decode b_C_handOver 30 = .ok (.iload_n 1, 1) := by decide +kernel
theorem d_C_handOver_31 : decode b_C_handOver 31 = .ok (.aload_n 0, 1) := by decide +kernel
theorem d_C_handOver_32 : decode b_C_handOver 32 = .ok (.getfield 27, 3) := by decide +kernel
theorem d_C_handOver_35 : decode b_C_handOver 35 = .ok (.iload_n 2, 1) := by decide +kernel
theorem d_C_handOver_36 : decode b_C_handOver 36 = .ok (.invokevirtual 107, 3) := by decide +kernel
theorem d_C_handOver_39 : decode b_C_handOver 39 = .ok (.invokevirtual 161, 3) := by decide +kernel
theorem d_C_handOver_42 : decode b_C_handOver 42 = .ok (.return_, 1) := by decide +kernel
theorem d_C_writeDown_0 : decode b_C_writeDown 0 = .ok (.aload_n 0, 1) := by decide +kernel
theorem d_C_writeDown_1 : decode b_C_writeDown 1 = .ok (.getfield 31, 3) := by decide +kernel
theorem d_C_writeDown_4 : decode b_C_writeDown 4 = .ok (.iconst 0, 1) := by decide +kernel
theorem d_C_writeDown_5 : decode b_C_writeDown 5 = .ok (.iload_n 1, 1) := by decide +kernel
theorem d_C_writeDown_6 : decode b_C_writeDown 6 = .ok (.invokevirtual 72, 3) := by decide +kernel
theorem d_C_writeDown_9 : decode b_C_writeDown 9 = .ok (.istore_n 3, 1) := by decide +kernel
theorem d_C_writeDown_10 : decode b_C_writeDown 10 = .ok (.iload_n 3, 1) := by decide +kernel
theorem d_C_writeDown_11 : decode b_C_writeDown 11 = .ok (.iconst (-1), 1) := by decide +kernel
theorem d_C_writeDown_12 : decode b_C_writeDown 12 = .ok (.if_icmp .ne 15, 3) := by decide +kernel
theorem d_C_writeDown_15 : decode b_C_writeDown 15 = .ok (.aload_n 0, 1) := by decide +kernel
theorem d_C_writeDown_16 : decode b_C_writeDown 16 = .ok (.getfield 37, 3) := by decide +kernel
theorem d_C_writeDown_19 : decode b_C_writeDown 19 = .ok (.iload_n 1, 1) := by decide +kernel
theorem d_C_writeDown_20 : decode b_C_writeDown 20 = .ok (.iload_n 2, 1) := by decide +kernel
theorem d_C_writeDown_21 : decode b_C_writeDown 21 = .ok (.invokevirtual 110, 3) := by decide +kernel
theorem d_C_writeDown_24 : decode b_C_writeDown 24 = .ok (.goto 12, 3) := by decide +kernel
theorem d_C_writeDown_27 : decode b_C_writeDown 27 = .ok (.aload_n 0, 1) := by decide +kernel
theorem d_C_writeDown_28 : decode b_C_writeDown 28 = .ok (.getfield 31, 3) := by decide +kernel
theorem d_C_writeDown_31 : decode b_C_writeDown 31 = .ok (.iload_n 3, 1) := by decide +kernel
theorem d_C_writeDown_32 : decode b_C_writeDown 32 = .ok (.iload_n 2, 1) := by decide +kernel
theorem d_C_writeDown_33 : decode b_C_writeDown 33 = .ok (.invokevirtual 164, 3) := by decide +kernel
theorem d_C_writeDown_36 : decode b_C_writeDown 36 = .ok (.return_, 1) := by decide +kernel
theorem d_C_bring_0 : decode b_C_bring 0 = .ok (.aload_n 0, 1) := by decide +kernel
theorem d_C_bring_1 : decode b_C_bring 1 = .ok (.getfield 31, 3) := by decide +kernel
theorem d_C_bring_4 : decode b_C_bring 4 = .ok (.iconst 0, 1) := by decide +kernel
theorem d_C_bring_5 : decode b_C_bring 5 = .ok (.iload_n 2, 1) := by decide +kernel
theorem d_C_bring_6 : decode b_C_bring 6 = .ok (.invokevirtual 72, 3) := by decide +kernel
theorem d_C_bring_9 : decode b_C_bring 9 = .ok (.istore_n 3, 1) := by decide +kernel
theorem d_C_bring_10 : decode b_C_bring 10 = .ok (.iload_n 3, 1) := by decide +kernel
theorem d_C_bring_11 : decode b_C_bring 11 = .ok (.iconst (-1), 1) := by decide +kernel
theorem d_C_bring_12 : decode b_C_bring 12 = .ok (.if_icmp .eq 14, 3) := by decide +kernel
theorem d_C_bring_15 : decode b_C_bring 15 = .ok (.aload_n 0, 1) := by decide +kernel
theorem d_C_bring_16 : decode b_C_bring 16 = .ok (.getfield 31, 3) := by decide +kernel
theorem d_C_bring_19 : decode b_C_bring 19 = .ok (.iload_n 3, 1) := by decide +kernel
theorem d_C_bring_20 : decode b_C_bring 20 = .ok (.invokevirtual 107, 3) := by decide +kernel
theorem d_C_bring_23 : decode b_C_bring 23 = .ok (.goto 11, 3) := by decide +kernel
theorem d_C_bring_26 : decode b_C_bring 26 = .ok (.aload_n 0, 1) := by decide +kernel
theorem d_C_bring_27 : decode b_C_bring 27 = .ok (.getfield 37, 3) := by decide +kernel
theorem d_C_bring_30 : decode b_C_bring 30 = .ok (.iload_n 2, 1) := by decide +kernel
theorem d_C_bring_31 : decode b_C_bring 31 = .ok (.invokevirtual 126, 3) := by decide +kernel
theorem d_C_bring_34 : decode b_C_bring 34 = .ok (.istore 4, 2) := by decide +kernel
theorem d_C_bring_36 : decode b_C_bring 36 = .ok (.iconst 0, 1) := by decide +kernel
theorem d_C_bring_37 : decode b_C_bring 37 = .ok (.istore 5, 2) := by decide +kernel
theorem d_C_bring_39 : decode b_C_bring 39 = .ok (.iload_n 3, 1) := by decide +kernel
theorem d_C_bring_40 : decode b_C_bring 40 = .ok (.iconst (-1), 1) := by decide +kernel
theorem d_C_bring_41 : decode b_C_bring 41 = .ok (.if_icmp .ne 31, 3) := by decide +kernel
theorem d_C_bring_44 : decode b_C_bring 44 = .ok (.aload_n 0, 1) := by decide +kernel
theorem d_C_bring_45 : decode b_C_bring 45 = .ok (.getfield 19, 3) := by decide +kernel
theorem d_C_bring_48 : decode b_C_bring 48 = .ok (.iconst 2, 1) := by decide +kernel
theorem d_C_bring_49 : decode b_C_bring 49 = .ok (.if_icmp .eq 60, 3) := by decide +kernel
theorem d_C_bring_52 : decode b_C_bring 52 = .ok (.aload_n 0, 1) := by decide +kernel
theorem d_C_bring_53 : decode b_C_bring 53 = .ok (.iload_n 2, 1) := by decide +kernel
theorem d_C_bring_54 : decode b_C_bring 54 = .ok (.invokevirtual 167, 3) := by decide +kernel
theorem d_C_bring_57 : decode b_C_bring 57 = .ok (.ifCond .ne 52, 3) := by decide +kernel
theorem d_C_bring_60 : decode b_C_bring 60 = .ok (.aload_n 0, 1) := by decide +kernel
theorem d_C_bring_61 : decode b_C_bring 61 = .ok (.iload_n 1, 1) := by decide +kernel
theorem d_C_bring_62 : decode b_C_bring 62 = .ok (.iload_n 2, 1) := by decide +kernel
theorem d_C_bring_63 : decode b_C_bring 63 = .ok (.iload 4, 2) := by decide +kernel
theorem d_C_bring_65 : decode b_C_bring 65 = .ok (.iconst 0, 1) := by decide +kernel
theorem d_C_bring_66 : decode b_C_bring 66 = .ok (.invokevirtual 170, 3) := by decide +kernel
theorem d_C_bring_69 : decode b_C_bring 69 = .ok (.goto 40, 3) := by decide +kernel
theorem d_C_bring_72 : decode b_C_bring 72 = .ok (.aload_n 0, 1) := by decide +kernel
theorem d_C_bring_73 : decode b_C_bring 73 = .ok (.getfield 19, 3) := by decide +kernel
theorem d_C_bring_76 : decode b_C_bring 76 = .ok (.iconst 2, 1) := by decide +kernel
theorem d_C_bring_77 : decode b_C_bring 77 = .ok (.if_icmp .ne 24, 3) := by decide +kernel
theorem d_C_bring_80 : decode b_C_bring 80 = .ok (.aload_n 0, 1) := by decide +kernel
theorem d_C_bring_81 : decode b_C_bring 81 = .ok (.getfield 31, 3) := by decide +kernel
theorem d_C_bring_84 : decode b_C_bring 84 = .ok (.iload_n 3, 1) := by decide +kernel
theorem d_C_bring_85 : decode b_C_bring 85 = .ok (.invokevirtual 96, 3) := by decide +kernel
theorem d_C_bring_88 : decode b_C_bring 88 = .ok (.istore 5, 2) := by decide +kernel
theorem d_C_bring_90 : decode b_C_bring 90 = .ok (.aload_n 0, 1) := by decide +kernel
theorem d_C_bring_91 : decode b_C_bring 91 = .ok (.getfield 31, 3) := by decide +kernel
theorem d_C_bring_94 : decode b_C_bring 94 = .ok (.iload_n 3, 1) := by decide +kernel
theorem d_C_bring_95 : decode b_C_bring 95 = .ok (.invokevirtual 174, 3) := by decide +kernel
theorem d_C_bring_98 : decode b_C_bring 98 = .ok (.goto 11, 3) := by decide +kernel
theorem d_C_bring_101 : decode b_C_bring 101 = .ok (.aload_n 0, 1) := by decide +kernel
theorem d_C_bring_102 : decode b_C_bring 102 = .ok (.getfield 31, 3) := by decide +kernel
theorem d_C_bring_105 : decode b_C_bring 105 = .ok (.iload_n 3, 1) := by decide +kernel
theorem d_C_bring_106 : decode b_C_bring 106 = .ok (.invokevirtual 75, 3) := by decide +kernel
theorem d_C_bring_109 : decode b_C_bring 109 = .ok (.aload_n 0, 1) := by decide +kernel
theorem d_C_bring_110 : decode b_C_bring 110 = .ok (.getfield 19, 3) := by decide +kernel
theorem d_C_bring_113 : decode b_C_bring 113 = .ok (.iconst 1, 1) := by decide +kernel
theorem d_C_bring_114 : decode b_C_bring 114 = .ok (.if_icmp .ne 16, 3) := by decide +kernel
theorem d_C_bring_117 : decode b_C_bring 117 = .ok (.aload_n 0, 1) := by decide +kernel
theorem d_C_bring_118 : decode b_C_bring 118 = .ok (.getfield 31, 3) := by decide +kernel
theorem d_C_bring_121 : decode b_C_bring 121 = .ok (.iconst 0, 1) := by decide +kernel
theorem d_C_bring_122 : decode b_C_bring 122 = .ok (.iload_n 2, 1) := by decide +kernel
theorem d_C_bring_123 : decode b_C_bring 123 = .ok (.invokevirtual 72, 3) := by decide +kernel
theorem d_C_bring_126 : decode b_C_bring 126 = .ok (.iconst (-1), 1) := by decide +kernel
theorem d_C_bring_127 : decode b_C_bring 127 = .ok (.if_icmp .eq 31, 3) := by decide +kernel
theorem d_C_bring_130 : decode b_C_bring 130 = .ok (.aload_n 0, 1) := by decide +kernel
theorem d_C_bring_131 : decode b_C_bring 131 = .ok (.iload_n 1, 1) := by decide +kernel
theorem d_C_bring_132 : decode b_C_bring 132 = .ok (.iload_n 2, 1) := by decide +kernel
theorem d_C_bring_133 : decode b_C_bring 133 = .ok (.invokevirtual 177, 3) := by decide +kernel
theorem d_C_bring_136 : decode b_C_bring 136 = .ok (.aload_n 0, 1) := by decide +kernel
theorem d_C_bring_137 : decode b_C_bring 137 = .ok (.getfield 27, 3) := by decide +kernel
theorem d_C_bring_140 : decode b_C_bring 140 = .ok (.aload_n 0, 1) := by decide +kernel
theorem d_C_bring_141 : decode b_C_bring 141 = .ok (.getfield 27, 3) := by decide +kernel
theorem d_C_bring_144 : decode b_C_bring 144 = .ok (.iload_n 1, 1) := by decide +kernel
theorem d_C_bring_145 : decode b_C_bring 145 = .ok (.iload_n 2, 1) := by decide +kernel
theorem d_C_bring_146 : decode b_C_bring 146 = .ok (.invokevirtual 180, 3) := by decide +kernel
theorem d_C_bring_149 : decode b_C_bring 149 = .ok (.iload_n 2, 1) := by decide +kernel
theorem d_C_bring_150 : decode b_C_bring 150 = .ok (.iload 4, 2) := by decide +kernel
theorem d_C_bring_152 : decode b_C_bring 152 = .ok (.iload 5, 2) := by decide +kernel
theorem d_C_bring_154 : decode b_C_bring 154 = .ok (.iload_n 1, 1) := by decide +kernel
theorem d_C_bring_155 : decode b_C_bring 155 = .ok (.invokevirtual 183, 3) := by decide +kernel
theorem d_C_bring_158 : decode b_C_bring 158 = .ok (.aload_n 0, 1) := by decide +kernel
theorem d_C_bring_159 : decode b_C_bring 159 = .ok (.iload_n 1, 1) := by decide +kernel
theorem d_C_bring_160 : decode b_C_bring 160 = .ok (.iload_n 3, 1) := by decide +kernel
theorem d_C_bring_161 : decode b_C_bring 161 = .ok (.iconst (-1), 1) := by decide +kernel
theorem d_C_bring_162 : decode b_C_bring 162 = .ok (.if_icmp .eq 7, 3) := by decide +kernel
theorem d_C_bring_165 : decode b_C_bring 165 = .ok (.iconst 2, 1) := by decide +kernel
theorem d_C_bring_166 : decode b_C_bring 166 = .ok (.goto 4, 3) := by decide +kernel
theorem d_C_bring_169 : decode b_C_bring 169 = .ok (.iconst 3, 1) := by decide +kernel
theorem d_C_bring_170 : decode b_C_bring 170 = .ok (.invokevirtual 68, 3) := by decide +kernel
theorem d_C_bring_173 : decode b_C_bring 173 = .ok (.iload_n 3, 1) := by decide +kernel
theorem d_C_bring_174 : decode b_C_bring 174 = .ok (.iconst (-1), 1) := by decide +kernel
theorem d_C_bring_175 : decode b_C_bring 175 = .ok (.if_icmp .eq 7, 3) := by decide +kernel
theorem d_C_bring_178 : decode b_C_bring 178 = .ok (.iconst 2, 1) := by decide +kernel
theorem d_C_bring_179 : decode b_C_bring 179 = .ok (.goto 4, 3) := by decide +kernel
theorem d_C_bring_182 : decode b_C_bring 182 = .ok (.iconst 3, 1) := by decide +kernel
theorem d_C_bring_183 : decode b_C_bring 183 = .ok (.ireturn, 1) := by decide +kernel
theorem d_C_write_0 : decode b_C_write 0 = .ok (.iconst 0, 1) := by decide +kernel
theorem d_C_write_1 : decode b_C_write 1 = .ok (.istore_n 3, 1) := by decide +kernel
theorem d_C_write_2 : decode b_C_write 2 = .ok (.iload_n 3, 1) := by decide +kernel
theorem d_C_write_3 : decode b_C_write 3 = .ok (.aload_n 0, 1) := by decide +kernel
theorem d_C_write_4 : decode b_C_write 4 = .ok (.getfield 15, 3) := by decide +kernel
theorem d_C_write_7 : decode b_C_write 7 = .ok (.if_icmp .ge 50, 3) := by decide +kernel
theorem d_C_write_10 : decode b_C_write 10 = .ok (.iload_n 3, 1) := by decide +kernel
theorem d_C_write_11 : decode b_C_write 11 = .ok (.iload_n 1, 1) := by decide +kernel
theorem d_C_write_12 : decode b_C_write 12 = .ok (.if_icmp .ne 7, 3) := by decide +kernel
theorem d_C_write_15 : decode b_C_write 15 = .ok (.iconst (-1), 1) := by decide +kernel
theorem d_C_write_16 : decode b_C_write 16 = .ok (.goto 12, 3) := by decide +kernel
theorem d_C_write_19 : decode b_C_write 19 = .ok (.aload_n 0, 1) := by decide +kernel
theorem d_C_write_20 : decode b_C_write 20 = .ok (.getfield 27, 3) := by decide +kernel
theorem d_C_write_23 : decode b_C_write 23 = .ok (.iload_n 3, 1) := by decide +kernel
theorem d_C_write_24 : decode b_C_write 24 = .ok (.iload_n 2, 1) := by decide +kernel
theorem d_C_write_25 : decode b_C_write 25 = .ok (.invokevirtual 72, 3) := by decide +kernel
theorem d_C_write_28 : decode b_C_write 28 = .ok (.istore 4, 2) := by decide +kernel
theorem d_C_write_30 : decode b_C_write 30 = .ok (.iload 4, 2) := by decide +kernel
theorem d_C_write_32 : decode b_C_write 32 = .ok (.iconst (-1), 1) := by decide +kernel
theorem d_C_write_33 : decode b_C_write 33 = .ok (.if_icmp .eq 18, 3) := by decide +kernel
theorem d_C_write_36 : decode b_C_write 36 = .ok (.aload_n 0, 1) := by decide +kernel
theorem d_C_write_37 : decode b_C_write 37 = .ok (.getfield 27, 3) := by decide +kernel
theorem d_C_write_40 : decode b_C_write 40 = .ok (.iload 4, 2) := by decide +kernel
theorem d_C_write_42 : decode b_C_write 42 = .ok (.invokevirtual 174, 3) := by decide +kernel
theorem d_C_write_45 : decode b_C_write 45 = .ok (.aload_n 0, 1) := by decide +kernel
theorem d_C_write_46 : decode b_C_write 46 = .ok (.iload_n 3, 1) := by decide +kernel
theorem d_C_write_47 : decode b_C_write 47 = .ok (.iconst 5, 1) := by decide +kernel
theorem d_C_write_48 : decode b_C_write 48 = .ok (.invokevirtual 68, 3) := by decide +kernel
theorem d_C_write_51 : decode b_C_write 51 = .ok (.iinc 3 1, 3) := by decide +kernel
theorem d_C_write_54 : decode b_C_write 54 = .ok (.goto (-52), 3) := by decide +kernel
theorem d_C_write_57 : decode b_C_write 57 = .ok (.aload_n 0, 1) := by decide +kernel
theorem d_C_write_58 : decode b_C_write 58 = .ok (.getfield 19, 3) := by decide +kernel
theorem d_C_write_61 : decode b_C_write 61 = .ok (.iconst 2, 1) := by decide +kernel
theorem d_C_write_62 : decode b_C_write 62 = .ok (.if_icmp .ne 19, 3) := by decide +kernel
theorem d_C_write_65 : decode b_C_write 65 = .ok (.aload_n 0, 1) := by decide +kernel
theorem d_C_write_66 : decode b_C_write 66 = .ok (.getfield 31, 3) := by decide +kernel
theorem d_C_write_69 : decode b_C_write 69 = .ok (.aload_n 0, 1) := by decide +kernel
theorem d_C_write_70 : decode b_C_write 70 = .ok (.getfield 31, 3) := by decide +kernel
theorem d_C_write_73 : decode b_C_write 73 = .ok (.iconst 0, 1) := by decide +kernel
theorem d_C_write_74 : decode b_C_write 74 = .ok (.iload_n 2, 1) := by decide +kernel
theorem d_C_write_75 : decode b_C_write 75 = .ok (.invokevirtual 72, 3) := by decide +kernel
theorem d_C_write_78 : decode b_C_write 78 = .ok (.invokevirtual 174, 3) := by decide +kernel
theorem d_C_write_81 : decode b_C_write 81 = .ok (.aload_n 0, 1) := by decide +kernel
theorem d_C_write_82 : decode b_C_write 82 = .ok (.getfield 37, 3) := by decide +kernel
theorem d_C_write_85 : decode b_C_write 85 = .ok (.iload_n 2, 1) := by decide +kernel
theorem d_C_write_86 : decode b_C_write 86 = .ok (.invokevirtual 187, 3) := by decide +kernel
theorem d_C_write_89 : decode b_C_write 89 = .ok (.istore_n 3, 1) := by decide +kernel
theorem d_C_write_90 : decode b_C_write 90 = .ok (.aload_n 0, 1) := by decide +kernel
theorem d_C_write_91 : decode b_C_write 91 = .ok (.getfield 27, 3) := by decide +kernel
theorem d_C_write_94 : decode b_C_write 94 = .ok (.iload_n 1, 1) := by decide +kernel
theorem d_C_write_95 : decode b_C_write 95 = .ok (.iload_n 2, 1) := by decide +kernel
theorem d_C_write_96 : decode b_C_write 96 = .ok (.invokevirtual 72, 3) := by decide +kernel
theorem d_C_write_99 : decode b_C_write 99 = .ok (.istore 4, 2) := by decide +kernel
theorem d_C_write_101 : decode b_C_write 101 = .ok (.iload 4, 2) := by decide +kernel
theorem d_C_write_103 : decode b_C_write 103 = .ok (.iconst (-1), 1) := by decide +kernel
theorem d_C_write_104 : decode b_C_write 104 = .ok (.if_icmp .ne 15, 3) := by decide +kernel
theorem d_C_write_107 : decode b_C_write 107 = .ok (.aload_n 0, 1) := by decide +kernel
theorem d_C_write_108 : decode b_C_write 108 = .ok (.getfield 37, 3) := by decide +kernel
theorem d_C_write_111 : decode b_C_write 111 = .ok (.iload_n 2, 1) := by decide +kernel
theorem d_C_write_112 : decode b_C_write 112 = .ok (.iload_n 3, 1) := by decide +kernel
theorem d_C_write_113 : decode b_C_write 113 = .ok (.invokevirtual 110, 3) := by decide +kernel
theorem d_C_write_116 : decode b_C_write 116 = .ok (.goto 13, 3) := by decide +kernel
theorem d_C_write_119 : decode b_C_write 119 = .ok (.aload_n 0, 1) := by decide +kernel
theorem d_C_write_120 : decode b_C_write 120 = .ok (.getfield 27, 3) := by decide +kernel
theorem d_C_write_123 : decode b_C_write 123 = .ok (.iload 4, 2) := by decide +kernel
theorem d_C_write_125 : decode b_C_write 125 = .ok (.iload_n 3, 1) := by decide +kernel
theorem d_C_write_126 : decode b_C_write 126 = .ok (.invokevirtual 164, 3) := by decide +kernel
theorem d_C_write_129 : decode b_C_write 129 = .ok (.return_, 1) := by decide +kernel
theorem d_C_makeRoomInFirst_0 : decode b_C_makeRoomInFirst 0 = .ok (.aload_n 0, 1) := by decide +kernel
theorem d_C_makeRoomInFirst_1 : decode b_C_makeRoomInFirst 1 = .ok (.getfield 27, 3) := by decide +kernel
theorem d_C_makeRoomInFirst_4 : decode b_C_makeRoomInFirst 4 = .ok (.iload_n 1, 1) := by decide +kernel
theorem d_C_makeRoomInFirst_5 : decode b_C_makeRoomInFirst 5 = .ok (.iload_n 2, 1) := by decide +kernel
theorem d_C_makeRoomInFirst_6 : decode b_C_makeRoomInFirst 6 = .ok (.invokevirtual 180, 3) := by decide +kernel
theorem d_C_makeRoomInFirst_9 : decode b_C_makeRoomInFirst 9 = .ok (.istore_n 3, 1) := by decide +kernel
theorem d_C_makeRoomInFirst_10 : decode b_C_makeRoomInFirst 10 = .ok (.aload_n 0, 1) := by decide +kernel
theorem d_C_makeRoomInFirst_11 : decode b_C_makeRoomInFirst 11 = .ok (.getfield 27, 3) := by decide +kernel
theorem d_C_makeRoomInFirst_14 : decode b_C_makeRoomInFirst 14 = .ok (.iload_n 3, 1) := by decide +kernel
theorem d_C_makeRoomInFirst_15 : decode b_C_makeRoomInFirst 15 = .ok (.invokevirtual 190, 3) := by decide +kernel
theorem d_C_makeRoomInFirst_18 : decode b_C_makeRoomInFirst 18 = .ok (.ifCond .ne 4, 3) := by decide +kernel
theorem d_C_makeRoomInFirst_21 : decode b_C_makeRoomInFirst 21 = .ok (.return_, 1) := by decide +kernel
theorem d_C_makeRoomInFirst_22 : decode b_C_makeRoomInFirst 22 = .ok (.aload_n 0, 1) := by decide +kernel
theorem d_C_makeRoomInFirst_23 : decode b_C_makeRoomInFirst 23 = .ok (.getfield 27, 3) := by decide +kernel
theorem d_C_makeRoomInFirst_26 : decode b_C_makeRoomInFirst 26 = .ok (.iload_n 3, 1) := by decide +kernel
theorem d_C_makeRoomInFirst_27 : decode b_C_makeRoomInFirst 27 = .ok (.invokevirtual 193, 3) := by decide +kernel
theorem d_C_makeRoomInFirst_30 : decode b_C_makeRoomInFirst 30 = .ok (.istore 4, 2) := by decide +kernel
theorem d_C_makeRoomInFirst_32 : decode b_C_makeRoomInFirst 32 = .ok (.aload_n 0, 1) := by decide +kernel
theorem d_C_makeRoomInFirst_33 : decode b_C_makeRoomInFirst 33 = .ok (.getfield 27, 3) := by decide +kernel
theorem d_C_makeRoomInFirst_36 : decode b_C_makeRoomInFirst 36 = .ok (.iload 4, 2) := by decide +kernel
theorem d_C_makeRoomInFirst_38 : decode b_C_makeRoomInFirst 38 = .ok (.invokevirtual 100, 3) := by decide +kernel
theorem d_C_makeRoomInFirst_41 : decode b_C_makeRoomInFirst 41 = .ok (.istore 5, 2) := by decide +kernel
theorem d_C_makeRoomInFirst_43 : decode b_C_makeRoomInFirst 43 = .ok (.aload_n 0, 1) := by decide +kernel
theorem d_C_makeRoomInFirst_44 : decode b_C_makeRoomInFirst 44 = .ok (.getfield 27, 3) := by decide +kernel
theorem d_C_makeRoomInFirst_47 : decode b_C_makeRoomInFirst 47 = .ok (.iload 4, 2) := by decide +kernel
theorem d_C_makeRoomInFirst_49 : decode b_C_makeRoomInFirst 49 = .ok (.invokevirtual 107, 3) := by decide +kernel
theorem d_C_makeRoomInFirst_52 : decode b_C_makeRoomInFirst 52 = .ok (.istore 6, 2) := by decide +kernel
theorem d_C_makeRoomInFirst_54 : decode b_C_makeRoomInFirst 54 = .ok (.aload_n 0, 1) := by decide +kernel
theorem d_C_makeRoomInFirst_55 : decode b_C_makeRoomInFirst 55 = .ok (.getfield 27, 3) := by decide +kernel
theorem d_C_makeRoomInFirst_58 : decode b_C_makeRoomInFirst 58 = .ok (.iload 4, 2) := by decide +kernel
theorem d_C_makeRoomInFirst_60 : decode b_C_makeRoomInFirst 60 = .ok (.invokevirtual 96, 3) := by decide +kernel
theorem d_C_makeRoomInFirst_63 : decode b_C_makeRoomInFirst 63 = .ok (.istore 7, 2) := by decide +kernel
theorem d_C_makeRoomInFirst_65 : decode b_C_makeRoomInFirst 65 = .ok (.aload_n 0, 1) := by decide +kernel
theorem d_C_makeRoomInFirst_66 : decode b_C_makeRoomInFirst 66 = .ok (.getfield 27, 3) := by decide +kernel
theorem d_C_makeRoomInFirst_69 : decode b_C_makeRoomInFirst 69 = .ok (.iload 4, 2) := by decide +kernel
theorem d_C_makeRoomInFirst_71 : decode b_C_makeRoomInFirst 71 = .ok (.invokevirtual 174, 3) := by decide +kernel
theorem d_C_makeRoomInFirst_74 : decode b_C_makeRoomInFirst 74 = .ok (.aload_n 0, 1) := by decide +kernel
theorem d_C_makeRoomInFirst_75 : decode b_C_makeRoomInFirst 75 = .ok (.getfield 19, 3) := by decide +kernel
theorem d_C_makeRoomInFirst_78 : decode b_C_makeRoomInFirst 78 = .ok (.iconst 2, 1) := by decide +kernel
theorem d_C_makeRoomInFirst_79 : decode b_C_makeRoomInFirst 79 = .ok (.if_icmp .ne 35, 3) := by decide +kernel
theorem d_C_makeRoomInFirst_82 : decode b_C_makeRoomInFirst 82 = .ok (.aload_n 0, 1) := by decide +kernel
theorem d_C_makeRoomInFirst_83 : decode b_C_makeRoomInFirst 83 = .ok (.iload 5, 2) := by decide +kernel
theorem d_C_makeRoomInFirst_85 : decode b_C_makeRoomInFirst 85 = .ok (.invokevirtual 167, 3) := by decide +kernel
theorem d_C_makeRoomInFirst_88 : decode b_C_makeRoomInFirst 88 = .ok (.ifCond .ne 26, 3) := by decide +kernel
theorem d_C_makeRoomInFirst_91 : decode b_C_makeRoomInFirst 91 = .ok (.aload_n 0, 1) := by decide +kernel
theorem d_C_makeRoomInFirst_92 : decode b_C_makeRoomInFirst 92 = .ok (.iload 5, 2) := by decide +kernel
theorem d_C_makeRoomInFirst_94 : decode b_C_makeRoomInFirst 94 = .ok (.invokevirtual 196, 3) := by decide +kernel
theorem d_C_makeRoomInFirst_97 : decode b_C_makeRoomInFirst 97 = .ok (.ifCond .ne 17, 3) := by decide +kernel
theorem d_C_makeRoomInFirst_100 : decode b_C_makeRoomInFirst 100 = .ok (.aload_n 0, 1) := by decide +kernel
theorem d_C_makeRoomInFirst_101 : decode b_C_makeRoomInFirst 101 = .ok (.iload_n 1, 1) := by decide +kernel
theorem d_C_makeRoomInFirst_102 : decode b_C_makeRoomInFirst 102 = .ok (.iload 5, 2) := by decide +kernel
theorem d_C_makeRoomInFirst_104 : decode b_C_makeRoomInFirst 104 = .ok (.iload 6, 2) := by decide +kernel
theorem d_C_makeRoomInFirst_106 : decode b_C_makeRoomInFirst 106 = .ok (.iload 7, 2) := by decide +kernel
theorem d_C_makeRoomInFirst_108 : decode b_C_makeRoomInFirst 108 = .ok (.invokevirtual 170, 3) := by decide +kernel
theorem d_C_makeRoomInFirst_111 : decode b_C_makeRoomInFirst 111 = .ok (.goto 16, 3) := by decide +kernel
theorem d_C_makeRoomInFirst_114 : decode b_C_makeRoomInFirst 114 = .ok (.iload 7, 2) := by decide +kernel
theorem d_C_makeRoomInFirst_116 : decode b_C_makeRoomInFirst 116 = .ok (.ifCond .eq 11, 3) := by decide +kernel
theorem d_C_makeRoomInFirst_119 : decode b_C_makeRoomInFirst 119 = .ok (.aload_n 0, 1) := by decide +kernel
theorem d_C_makeRoomInFirst_120 : decode b_C_makeRoomInFirst 120 = .ok (.iload 5, 2) := by decide +kernel
theorem d_C_makeRoomInFirst_122 : decode b_C_makeRoomInFirst 122 = .ok (.iload 6, 2) := by decide +kernel
theorem d_C_makeRoomInFirst_124 : decode b_C_makeRoomInFirst 124 = .ok (.invokevirtual 161, 3) := by decide +kernel
theorem d_C_makeRoomInFirst_127 : decode b_C_makeRoomInFirst 127 = .ok (.return_, 1) := by decide +kernel
theorem d_C_comeIntoSecond_0 : decode b_C_comeIntoSecond 0 = .ok (.iload_n 1, 1) := by decide +kernel
theorem d_C_comeIntoSecond_1 : decode b_C_comeIntoSecond 1 = .ok (.ifCond .lt 21, 3) := by decide +kernel
theorem d_C_comeIntoSecond_4 : decode b_C_comeIntoSecond 4 = .ok (.iload_n 1, 1) := by decide +kernel
theorem d_C_comeIntoSecond_5 : decode b_C_comeIntoSecond 5 = .ok (.aload_n 0, 1) := by decide +kernel
theorem d_C_comeIntoSecond_6 : decode b_C_comeIntoSecond 6 = .ok (.getfield 41, 3) := by decide +kernel
theorem d_C_comeIntoSecond_9 : decode b_C_comeIntoSecond 9 = .ok (.arraylength, 1) := by decide +kernel
theorem d_C_comeIntoSecond_10 : decode b_C_comeIntoSecond 10 = .ok (.if_icmp .ge 12, 3) := by decide +kernel
theorem d_C_comeIntoSecond_13 : decode b_C_comeIntoSecond 13 = .ok (.aload_n 0, 1) := by decide +kernel
theorem d_C_comeIntoSecond_14 : decode b_C_comeIntoSecond 14 = .ok (.getfield 41, 3) := by decide +kernel
theorem d_C_comeIntoSecond_17 : decode b_C_comeIntoSecond 17 = .ok (.iload_n 1, 1) := by decide +kernel
theorem d_C_comeIntoSecond_18 : decode b_C_comeIntoSecond 18 = .ok (.iaload, 1) := by decide +kernel
theorem d_C_comeIntoSecond_19 : decode b_C_comeIntoSecond 19 = .ok (.goto 4, 3) := by decide +kernel
theorem d_C_comeIntoSecond_22 : decode b_C_comeIntoSecond 22 = .ok (.iconst 0, 1) := by decide +kernel
theorem d_C_comeIntoSecond_23 : decode b_C_comeIntoSecond 23 = .ok (.istore 5, 2) := by decide +kernel
theorem d_C_comeIntoSecond_25 : decode b_C_comeIntoSecond 25 = .ok (.iload 5, 2) := by decide +kernel
theorem d_C_comeIntoSecond_27 : decode b_C_comeIntoSecond 27 = .ok (.ifCond .ne 18, 3) := by decide +kernel
theorem d_C_comeIntoSecond_30 : decode b_C_comeIntoSecond 30 = .ok (.iload 4, 2) := by decide +kernel
theorem d_C_comeIntoSecond_32 : decode b_C_comeIntoSecond 32 = .ok (.ifCond .eq 12, 3) := by decide +kernel
theorem d_C_comeIntoSecond_35 : decode b_C_comeIntoSecond 35 = .ok (.aload_n 0, 1) := by decide +kernel
theorem d_C_comeIntoSecond_36 : decode b_C_comeIntoSecond 36 = .ok (.getfield 37, 3) := by decide +kernel
theorem d_C_comeIntoSecond_39 : decode b_C_comeIntoSecond 39 = .ok (.iload_n 2, 1) := by decide +kernel
theorem d_C_comeIntoSecond_40 : decode b_C_comeIntoSecond 40 = .ok (.iload_n 3, 1) := by decide +kernel
theorem d_C_comeIntoSecond_41 : decode b_C_comeIntoSecond 41 = .ok (.invokevirtual 110, 3) := by decide +kernel
theorem d_C_comeIntoSecond_44 : decode b_C_comeIntoSecond 44 = .ok (.return_, 1) := by decide +kernel
theorem d_C_comeIntoSecond_45 : decode b_C_comeIntoSecond 45 = .ok (.aload_n 0, 1) := by decide +kernel
theorem d_C_comeIntoSecond_46 : decode b_C_comeIntoSecond 46 = .ok (.getfield 31, 3) := by decide +kernel
theorem d_C_comeIntoSecond_49 : decode b_C_comeIntoSecond 49 = .ok (.iconst 0, 1) := by decide +kernel
theorem d_C_comeIntoSecond_50 : decode b_C_comeIntoSecond 50 = .ok (.iload_n 2, 1) := by decide +kernel
theorem d_C_comeIntoSecond_51 : decode b_C_comeIntoSecond 51 = .ok (.invokevirtual 180, 3) := by decide +kernel
theorem d_C_comeIntoSecond_54 : decode b_C_comeIntoSecond 54 = .ok (.istore 6, 2) := by decide +kernel
theorem d_C_comeIntoSecond_56 : decode b_C_comeIntoSecond 56 = .ok (.aload_n 0, 1) := by decide +kernel
theorem d_C_comeIntoSecond_57 : decode b_C_comeIntoSecond 57 = .ok (.getfield 31, 3) := by decide +kernel
theorem d_C_comeIntoSecond_60 : decode b_C_comeIntoSecond 60 = .ok (.iload 6, 2) := by decide +kernel
theorem d_C_comeIntoSecond_62 : decode b_C_comeIntoSecond 62 = .ok (.iload_n 1, 1) := by decide +kernel
theorem d_C_comeIntoSecond_63 : decode b_C_comeIntoSecond 63 = .ok (.invokevirtual 199, 3) := by decide +kernel
theorem d_C_comeIntoSecond_66 : decode b_C_comeIntoSecond 66 = .ok (.iload 5, 2) := by decide +kernel
theorem d_C_comeIntoSecond_68 : decode b_C_comeIntoSecond 68 = .ok (.if_icmp .lt 20, 3) := by decide +kernel
theorem d_C_comeIntoSecond_71 : decode b_C_comeIntoSecond 71 = .ok (.aload_n 0, 1) := by decide +kernel
theorem d_C_comeIntoSecond_72 : decode b_C_comeIntoSecond 72 = .ok (.aload_n 0, 1) := by decide +kernel
theorem d_C_comeIntoSecond_73 : decode b_C_comeIntoSecond 73 = .ok (.getfield 31, 3) := by decide +kernel
theorem d_C_comeIntoSecond_76 : decode b_C_comeIntoSecond 76 = .ok (.iload 6, 2) := by decide +kernel
theorem d_C_comeIntoSecond_78 : decode b_C_comeIntoSecond 78 = .ok (.iload_n 1, 1) := by decide +kernel
theorem d_C_comeIntoSecond_79 : decode b_C_comeIntoSecond 79 = .ok (.invokevirtual 202, 3) := by decide +kernel
theorem d_C_comeIntoSecond_82 : decode b_C_comeIntoSecond 82 = .ok (.invokevirtual 205, 3) := by decide +kernel
theorem d_C_comeIntoSecond_85 : decode b_C_comeIntoSecond 85 = .ok (.goto 28, 3) := by decide +kernel
theorem d_C_comeIntoSecond_88 : decode b_C_comeIntoSecond 88 = .ok (.aload_n 0, 1) := by decide +kernel
theorem d_C_comeIntoSecond_89 : decode b_C_comeIntoSecond 89 = .ok (.getfield 31, 3) := by decide +kernel
theorem d_C_comeIntoSecond_92 : decode b_C_comeIntoSecond 92 = .ok (.iload 6, 2) := by decide +kernel
theorem d_C_comeIntoSecond_94 : decode b_C_comeIntoSecond 94 = .ok (.invokevirtual 190, 3) := by decide +kernel
theorem d_C_comeIntoSecond_97 : decode b_C_comeIntoSecond 97 = .ok (.ifCond .eq 16, 3) := by decide +kernel
theorem d_C_comeIntoSecond_100 : decode b_C_comeIntoSecond 100 = .ok (.aload_n 0, 1) := by decide +kernel
theorem d_C_comeIntoSecond_101 : decode b_C_comeIntoSecond 101 = .ok (.aload_n 0, 1) := by decide +kernel
theorem d_C_comeIntoSecond_102 : decode b_C_comeIntoSecond 102 = .ok (.getfield 31, 3) := by decide +kernel
theorem d_C_comeIntoSecond_105 : decode b_C_comeIntoSecond 105 = .ok (.iload 6, 2) := by decide +kernel
theorem d_C_comeIntoSecond_107 : decode b_C_comeIntoSecond 107 = .ok (.invokevirtual 193, 3) := by decide +kernel
theorem d_C_comeIntoSecond_110 : decode b_C_comeIntoSecond 110 = .ok (.invokevirtual 205, 3) := by decide +kernel
theorem d_C_comeIntoSecond_113 : decode b_C_comeIntoSecond 113 = .ok (.aload_n 0, 1) := by decide +kernel
theorem d_C_comeIntoSecond_114 : decode b_C_comeIntoSecond 114 = .ok (.getfield 31, 3) := by decide +kernel
theorem d_C_comeIntoSecond_117 : decode b_C_comeIntoSecond 117 = .ok (.iload 6, 2) := by decide +kernel
theorem d_C_comeIntoSecond_119 : decode b_C_comeIntoSecond 119 = .ok (.iload_n 2, 1) := by decide +kernel
theorem d_C_comeIntoSecond_120 : decode b_C_comeIntoSecond 120 = .ok (.iload_n 3, 1) := by decide +kernel
theorem d_C_comeIntoSecond_121 : decode b_C_comeIntoSecond 121 = .ok (.iload 4, 2) := by decide +kernel
theorem d_C_comeIntoSecond_123 : decode b_C_comeIntoSecond 123 = .ok (.iload_n 1, 1) := by decide +kernel
theorem d_C_comeIntoSecond_124 : decode b_C_comeIntoSecond 124 = .ok (.invokevirtual 183, 3) := by decide +kernel
theorem d_C_comeIntoSecond_127 : decode b_C_comeIntoSecond 127 = .ok (.return_, 1) := by decide +kernel
theorem d_C_leaveSecond_0 : decode b_C_leaveSecond 0 = .ok (.aload_n 0, 1) := by decide +kernel
theorem d_C_leaveSecond_1 : decode b_C_leaveSecond 1 = .ok (.getfield 31, 3) := by decide +kernel
theorem d_C_leaveSecond_4 : decode b_C_leaveSecond 4 = .ok (.iload_n 1, 1) := by decide +kernel
theorem d_C_leaveSecond_5 : decode b_C_leaveSecond 5 = .ok (.invokevirtual 100, 3) := by decide +kernel
theorem d_C_leaveSecond_8 : decode b_C_leaveSecond 8 = .ok (.istore_n 2, 1) := by decide +kernel
theorem d_C_leaveSecond_9 : decode b_C_leaveSecond 9 = .ok (.aload_n 0, 1) := by decide +kernel
theorem d_C_leaveSecond_10 : decode b_C_leaveSecond 10 = .ok (.getfield 31, 3) := by decide +kernel
theorem d_C_leaveSecond_13 : decode b_C_leaveSecond 13 = .ok (.iload_n 1, 1) := by decide +kernel
theorem d_C_leaveSecond_14 : decode b_C_leaveSecond 14 = .ok (.invokevirtual 107, 3) := by decide +kernel
theorem d_C_leaveSecond_17 : decode b_C_leaveSecond 17 = .ok (.istore_n 3, 1) := by decide +kernel
theorem d_C_leaveSecond_18 : decode b_C_leaveSecond 18 = .ok (.aload_n 0, 1) := by decide +kernel
theorem d_C_leaveSecond_19 : decode b_C_leaveSecond 19 = .ok (.getfield 31, 3) := by decide +kernel
theorem d_C_leaveSecond_22 : decode b_C_leaveSecond 22 = .ok (.iload_n 1, 1) := by decide +kernel
theorem d_C_leaveSecond_23 : decode b_C_leaveSecond 23 = .ok (.invokevirtual 96, 3) := by decide +kernel
theorem d_C_leaveSecond_26 : decode b_C_leaveSecond 26 = .ok (.istore 4, 2) := by decide +kernel
theorem d_C_leaveSecond_28 : decode b_C_leaveSecond 28 = .ok (.aload_n 0, 1) := by decide +kernel
theorem d_C_leaveSecond_29 : decode b_C_leaveSecond 29 = .ok (.getfield 31, 3) := by decide +kernel
theorem d_C_leaveSecond_32 : decode b_C_leaveSecond 32 = .ok (.iload_n 1, 1) := by decide +kernel
theorem d_C_leaveSecond_33 : decode b_C_leaveSecond 33 = .ok (.invokevirtual 174, 3) := by decide +kernel
theorem d_C_leaveSecond_36 : decode b_C_leaveSecond 36 = .ok (.iconst 0, 1) := by decide +kernel
theorem d_C_leaveSecond_37 : decode b_C_leaveSecond 37 = .ok (.istore 5, 2) := by decide +kernel
theorem d_C_leaveSecond_39 : decode b_C_leaveSecond 39 = .ok (.aload_n 0, 1) := by decide +kernel
theorem d_C_leaveSecond_40 : decode b_C_leaveSecond 40 = .ok (.getfield 19, 3) := by decide +kernel
theorem d_C_leaveSecond_43 : decode b_C_leaveSecond 43 = .ok (.iconst 1, 1) := by decide +kernel
theorem d_C_leaveSecond_44 : decode b_C_leaveSecond 44 = .ok (.if_icmp .ne 78, 3) := by decide +kernel
theorem d_C_leaveSecond_47 : decode b_C_leaveSecond 47 = .ok (.iload 5, 2) := by decide +kernel
theorem d_C_leaveSecond_49 : decode b_C_leaveSecond 49 = .ok (.aload_n 0, 1) := by decide +kernel
theorem d_C_leaveSecond_50 : decode b_C_leaveSecond 50 = .ok (.getfield 15, 3) := by decide +kernel
theorem d_C_leaveSecond_53 : decode b_C_leaveSecond 53 = .ok (.if_icmp .ge 69, 3) := by decide +kernel
theorem d_C_leaveSecond_56 : decode b_C_leaveSecond 56 = .ok (.aload_n 0, 1) := by decide +kernel
theorem d_C_leaveSecond_57 : decode b_C_leaveSecond 57 = .ok (.getfield 27, 3) := by decide +kernel
theorem d_C_leaveSecond_60 : decode b_C_leaveSecond 60 = .ok (.iload 5, 2) := by decide +kernel
theorem d_C_leaveSecond_62 : decode b_C_leaveSecond 62 = .ok (.iload_n 2, 1) := by decide +kernel
theorem d_C_leaveSecond_63 : decode b_C_leaveSecond 63 = .ok (.invokevirtual 72, 3) := by decide +kernel
theorem d_C_leaveSecond_66 : decode b_C_leaveSecond 66 = .ok (.istore 6, 2) := by decide +kernel
theorem d_C_leaveSecond_68 : decode b_C_leaveSecond 68 = .ok (.aload_n 0, 1) := by decide +kernel
theorem d_C_leaveSecond_69 : decode b_C_leaveSecond 69 = .ok (.getfield 27, 3) := by decide +kernel
theorem d_C_leaveSecond_72 : decode b_C_leaveSecond 72 = .ok (.iload 6, 2) := by decide +kernel
theorem d_C_leaveSecond_74 : decode b_C_leaveSecond 74 = .ok (.invokevirtual 96, 3) := by decide +kernel
theorem d_C_leaveSecond_77 : decode b_C_leaveSecond 77 = .ok (.ifCond .eq 16, 3) := by decide +kernel
theorem d_C_leaveSecond_80 : decode b_C_leaveSecond 80 = .ok (.aload_n 0, 1) := by decide +kernel
theorem d_C_leaveSecond_81 : decode b_C_leaveSecond 81 = .ok (.getfield 27, 3) := by decide +kernel
theorem d_C_leaveSecond_84 : decode b_C_leaveSecond 84 = .ok (.iload 6, 2) := by decide +kernel
theorem d_C_leaveSecond_86 : decode b_C_leaveSecond 86 = .ok (.invokevirtual 107, 3) := by decide +kernel
theorem d_C_leaveSecond_89 : decode b_C_leaveSecond 89 = .ok (.istore_n 3, 1) := by decide +kernel
theorem d_C_leaveSecond_90 : decode b_C_leaveSecond 90 = .ok (.iconst 1, 1) := by decide +kernel
theorem d_C_leaveSecond_91 : decode b_C_leaveSecond 91 = .ok (.istore 4, 2) := by decide +kernel
theorem d_C_leaveSecond_93 : decode b_C_leaveSecond 93 = .ok (.iload 6, 2) := by decide +kernel
theorem d_C_leaveSecond_95 : decode b_C_leaveSecond 95 = .ok (.iconst (-1), 1) := by decide +kernel
theorem d_C_leaveSecond_96 : decode b_C_leaveSecond 96 = .ok (.if_icmp .eq 20, 3) := by decide +kernel
theorem d_C_leaveSecond_99 : decode b_C_leaveSecond 99 = .ok (.aload_n 0, 1) := by decide +kernel
theorem d_C_leaveSecond_100 : decode b_C_leaveSecond 100 = .ok (.getfield 27, 3) := by decide +kernel
theorem d_C_leaveSecond_103 : decode b_C_leaveSecond 103 = .ok (.iload 6, 2) := by decide +kernel
theorem d_C_leaveSecond_105 : decode b_C_leaveSecond 105 = .ok (.invokevirtual 174, 3) := by decide +kernel
theorem d_C_leaveSecond_108 : decode b_C_leaveSecond 108 = .ok (.aload_n 0, 1) := by decide +kernel
theorem d_C_leaveSecond_109 : decode b_C_leaveSecond 109 = .ok (.iload 5, 2) := by decide +kernel
theorem d_C_leaveSecond_111 : decode b_C_leaveSecond 111 = .ok (.bipush 6, 2) := by decide +kernel
theorem d_C_leaveSecond_113 : decode b_C_leaveSecond 113 = .ok (.invokevirtual 68, 3) := by decide +kernel
theorem d_C_leaveSecond_116 : decode b_C_leaveSecond 116 = .ok (.iinc 5 1, 3) := by decide +kernel
theorem d_C_leaveSecond_119 : decode b_C_leaveSecond 119 = .ok (.goto (-80), 3) := by decide +kernel
theorem d_C_leaveSecond_122 : decode b_C_leaveSecond 122 = .ok (.iload 4, 2) := by decide +kernel
theorem d_C_leaveSecond_124 : decode b_C_leaveSecond 124 = .ok (.ifCond .eq 12, 3) := by decide +kernel
theorem d_C_leaveSecond_127 : decode b_C_leaveSecond 127 = .ok (.aload_n 0, 1) := by decide +kernel
theorem d_C_leaveSecond_128 : decode b_C_leaveSecond 128 = .ok (.getfield 37, 3) := by decide +kernel
theorem d_C_leaveSecond_131 : decode b_C_leaveSecond 131 = .ok (.iload_n 2, 1) := by decide +kernel
theorem d_C_leaveSecond_132 : decode b_C_leaveSecond 132 = .ok (.iload_n 3, 1) := by decide +kernel
theorem d_C_leaveSecond_133 : decode b_C_leaveSecond 133 = .ok (.invokevirtual 110, 3) := by decide +kernel
theorem d_C_leaveSecond_136 : decode b_C_leaveSecond 136 = .ok (.return_, 1) := by decide +kernel
theorem d_B_init_0 : decode b_B_init 0 = .ok (.aload_n 0, 1) := by decide +kernel
theorem d_B_init_1 : decode b_B_init 1 = .ok (.invokespecial 3, 3) := by decide +kernel
theorem d_B_init_4 : decode b_B_init 4 = .ok (.aload_n 0, 1) := by decide +kernel
theorem d_B_init_5 : decode b_B_init 5 = .ok (.iconst 1, 1) := by decide +kernel
theorem d_B_init_6 : decode b_B_init 6 = .ok (.iload_n 2, 1) := by decide +kernel
theorem d_B_init_7 : decode b_B_init 7 = .ok (.invokestatic 9, 3) := by decide +kernel
theorem d_B_init_10 : decode b_B_init 10 = .ok (.putfield 15, 3) := by decide +kernel
theorem d_B_init_13 : decode b_B_init 13 = .ok (.aload_n 0, 1) := by decide +kernel
theorem d_B_init_14 : decode b_B_init 14 = .ok (.iconst 1, 1) := by decide +kernel
theorem d_B_init_15 : decode b_B_init 15 = .ok (.iload_n 3, 1) := by decide +kernel
theorem d_B_init_16 : decode b_B_init 16 = .ok (.invokestatic 9, 3) := by decide +kernel
theorem d_B_init_19 : decode b_B_init 19 = .ok (.putfield 21, 3) := by decide +kernel
theorem d_B_init_22 : decode b_B_init 22 = .ok (.iconst 1, 1) := by decide +kernel
theorem d_B_init_23 : decode b_B_init 23 = .ok (.iload_n 1, 1) := by decide +kernel
theorem d_B_init_24 : decode b_B_init 24 = .ok (.invokestatic 9, 3) := by decide +kernel
theorem d_B_init_27 : decode b_B_init 27 = .ok (.aload_n 0, 1) := by decide +kernel
theorem d_B_init_28 : decode b_B_init 28 = .ok (.getfield 15, 3) := by decide +kernel
theorem d_B_init_31 : decode b_B_init 31 = .ok (.imul, 1) := by decide +kernel
theorem d_B_init_32 : decode b_B_init 32 = .ok (.istore 4, 2) := by decide +kernel
theorem d_B_init_34 : decode b_B_init 34 = .ok (.aload_n 0, 1) := by decide +kernel
theorem d_B_init_35 : decode b_B_init 35 = .ok (.iload 4, 2) := by decide +kernel
theorem d_B_init_37 : decode b_B_init 37 = .ok (.newarray .int, 2) := by decide +kernel
theorem d_B_init_39 : decode b_B_init 39 = .ok (.putfield 24, 3) := by decide +kernel
theorem d_B_init_42 : decode b_B_init 42 = .ok (.aload_n 0, 1) := by decide +kernel
theorem d_B_init_43 : decode b_B_init 43 = .ok (.iload 4, 2) := by decide +kernel
theorem d_B_init_45 : decode b_B_init 45 = .ok (.aload_n 0, 1) := by decide +kernel
theorem d_B_init_46 : decode b_B_init 46 = .ok (.getfield 21, 3) := by decide +kernel
theorem d_B_init_49 : decode b_B_init 49 = .ok (.imul, 1) := by decide +kernel
theorem d_B_init_50 : decode b_B_init 50 = .ok (.newarray .int, 2) := by decide +kernel
theorem d_B_init_52 : decode b_B_init 52 = .ok (.putfield 28, 3) := by decide +kernel
theorem d_B_init_55 : decode b_B_init 55 = .ok (.aload_n 0, 1) := by decide +kernel
theorem d_B_init_56 : decode b_B_init 56 = .ok (.iload 4, 2) := by decide +kernel
theorem d_B_init_58 : decode b_B_init 58 = .ok (.aload_n 0, 1) := by decide +kernel
theorem d_B_init_59 : decode b_B_init 59 = .ok (.getfield 21, 3) := by decide +kernel
theorem d_B_init_62 : decode b_B_init 62 = .ok (.imul, 1) := by decide +kernel
theorem d_B_init_63 : decode b_B_init 63 = .ok (.newarray .int, 2) := by decide +kernel
theorem d_B_init_65 : decode b_B_init 65 = .ok (.putfield 31, 3) := by decide +kernel
theorem d_B_init_68 : decode b_B_init 68 = .ok (.aload_n 0, 1) := by decide +kernel
theorem d_B_init_69 : decode b_B_init 69 = .ok (.iload 4, 2) := by decide +kernel
theorem d_B_init_71 : decode b_B_init 71 = .ok (.aload_n 0, 1) := by decide +kernel
theorem d_B_init_72 : decode b_B_init 72 = .ok (.getfield 21, 3) := by decide +kernel
theorem d_B_init_75 : decode b_B_init 75 = .ok (.imul, 1) := by decide +kernel
theorem d_B_init_76 : decode b_B_init 76 = .ok (.newarray .int, 2) := by decide +kernel
theorem d_B_init_78 : decode b_B_init 78 = .ok (.putfield 34, 3) := by decide +kernel
theorem d_B_init_81 : decode b_B_init 81 = .ok (.aload_n 0, 1) := by decide +kernel
theorem d_B_init_82 : decode b_B_init 82 = .ok (.iload 4, 2) := by decide +kernel
theorem d_B_init_84 : decode b_B_init 84 = .ok (.aload_n 0, 1) := by decide +kernel
theorem d_B_init_85 : decode b_B_init 85 = .ok (.getfield 21, 3) := by decide +kernel
theorem d_B_init_88 : decode b_B_init 88 = .ok (.imul, 1) := by decide +kernel
theorem d_B_init_89 : decode b_B_init 89 = .ok (.newarray .boolean, 2) := by decide +kernel
theorem d_B_init_91 : decode b_B_init 91 = .ok (.putfield 37, 3) := by decide +kernel
theorem d_B_init_94 : decode b_B_init 94 = .ok (.return_, 1) := by decide +kernel
theorem d_B_slots_0 : decode b_B_slots 0 = .ok (.aload_n 0, 1) := by decide +kernel
theorem d_B_slots_1 : decode b_B_slots 1 = .ok (.getfield 28, 3) := by decide +kernel
theorem d_B_slots_4 : decode b_B_slots 4 = .ok (.arraylength, 1) := by decide +kernel
theorem d_B_slots_5 : decode b_B_slots 5 = .ok (.ireturn, 1) := by decide +kernel
theorem d_B_placeOf_0 : decode b_B_placeOf 0 = .ok (.iload_n 1, 1) := by decide +kernel
theorem d_B_placeOf_1 : decode b_B_placeOf 1 = .ok (.aload_n 0, 1) := by decide +kernel
theorem d_B_placeOf_2 : decode b_B_placeOf 2 = .ok (.getfield 15, 3) := by decide +kernel
theorem d_B_placeOf_5 : decode b_B_placeOf 5 = .ok (.imul, 1) := by decide +kernel
theorem d_B_placeOf_6 : decode b_B_placeOf 6 = .ok (.iload_n 2, 1) := by decide +kernel
theorem d_B_placeOf_7 : decode b_B_placeOf 7 = .ok (.aload_n 0, 1) := by decide +kernel
theorem d_B_placeOf_8 : decode b_B_placeOf 8 = .ok (.getfield 15, 3) := by decide +kernel
theorem d_B_placeOf_11 : decode b_B_placeOf 11 = .ok (.invokestatic 41, 3) := by decide +kernel
theorem d_B_placeOf_14 : decode b_B_placeOf 14 = .ok (.iadd, 1) := by decide +kernel
theorem d_B_placeOf_15 : decode b_B_placeOf 15 = .ok (.ireturn, 1) := by decide +kernel
theorem d_B_size_0 : decode b_B_size 0 = .ok (.iload_n 1, 1) := by decide +kernel
theorem d_B_size_1 : decode b_B_size 1 = .ok (.ifCond .lt 21, 3) := by decide +kernel
theorem d_B_size_4 : decode b_B_size 4 = .ok (.iload_n 1, 1) := by decide +kernel
theorem d_B_size_5 : decode b_B_size 5 = .ok (.aload_n 0, 1) := by decide +kernel
theorem d_B_size_6 : decode b_B_size 6 = .ok (.getfield 24, 3) := by decide +kernel
theorem d_B_size_9 : decode b_B_size 9 = .ok (.arraylength, 1) := by decide +kernel
theorem d_B_size_10 : decode b_B_size 10 = .ok (.if_icmp .ge 12, 3) := by decide +kernel
theorem d_B_size_13 : decode b_B_size 13 = .ok (.aload_n 0, 1) := by decide +kernel
theorem d_B_size_14 : decode b_B_size 14 = .ok (.getfield 24, 3) := by decide +kernel
theorem d_B_size_17 : decode b_B_size 17 = .ok (.iload_n 1, 1) := by decide +kernel
theorem d_B_size_18 : decode b_B_size 18 = .ok (.iaload, 1) := by decide +kernel
theorem d_B_size_19 : decode b_B_size 19 = .ok (.goto 4, 3) := by decide +kernel
theorem d_B_size_22 : decode b_B_size 22 = .ok (.iconst 0, 1) := by decide +kernel
theorem d_B_size_23 : decode b_B_size 23 = .ok (.ireturn, 1) := by decide +kernel
theorem d_B_isFull_0 : decode b_B_isFull 0 = .ok (.aload_n 0, 1) := by decide +kernel
theorem d_B_isFull_1 : decode b_B_isFull 1 = .ok (.iload_n 1, 1) := by decide +kernel
theorem d_B_isFull_2 : decode b_B_isFull 2 = .ok (.invokevirtual 44, 3) := by decide +kernel
theorem d_B_isFull_5 : decode b_B_isFull 5 = .ok (.aload_n 0, 1) := by decide +kernel
theorem d_B_isFull_6 : decode b_B_isFull 6 = .ok (.getfield 21, 3) := by decide +kernel
theorem d_B_isFull_9 : decode b_B_isFull 9 = .ok (.if_icmp .lt 7, 3) := by decide +kernel
theorem d_B_isFull_12 : decode b_B_isFull 12 = .ok (.iconst 1, 1) := by decide +kernel
theorem d_B_isFull_13 : decode b_B_isFull 13 = .ok (.goto 4, 3) := by decide +kernel
theorem d_B_isFull_16 : decode b_B_isFull 16 = .ok (.iconst 0, 1) := by decide +kernel
theorem d_B_isFull_17 : decode b_B_isFull 17 = .ok (.ireturn, 1) := by decide +kernel
theorem d_B_total_0 : decode b_B_total 0 = .ok (.iconst 0, 1) := by decide +kernel
theorem d_B_total_1 : decode b_B_total 1 = .ok (.istore_n 1, 1) := by decide +kernel
theorem d_B_total_2 : decode b_B_total 2 = .ok (.iconst 0, 1) := by decide +kernel
theorem d_B_total_3 : decode b_B_total 3 = .ok (.istore_n 2, 1) := by decide +kernel
theorem d_B_total_4 : decode b_B_total 4 = .ok (.iload_n 2, 1) := by decide +kernel
theorem d_B_total_5 : decode b_B_total 5 = .ok (.aload_n 0, 1) := by decide +kernel
theorem d_B_total_6 : decode b_B_total 6 = .ok (.getfield 24, 3) := by decide +kernel
theorem d_B_total_9 : decode b_B_total 9 = .ok (.arraylength, 1) := by decide +kernel
theorem d_B_total_10 : decode b_B_total 10 = .ok (.if_icmp .ge 18, 3) := by decide +kernel
theorem d_B_total_13 : decode b_B_total 13 = .ok (.iload_n 1, 1) := by decide +kernel
theorem d_B_total_14 : decode b_B_total 14 = .ok (.aload_n 0, 1) := by decide +kernel
theorem d_B_total_15 : decode b_B_total 15 = .ok (.getfield 24, 3) := by decide +kernel
theorem d_B_total_18 : decode b_B_total 18 = .ok (.iload_n 2, 1) := by decide +kernel
theorem d_B_total_19 : decode b_B_total 19 = .ok (.iaload, 1) := by decide +kernel
theorem d_B_total_20 : decode b_B_total 20 = .ok (.iadd, 1) := by decide +kernel
theorem d_B_total_21 : decode b_B_total 21 = .ok (.istore_n 1, 1) := by decide +kernel
theorem d_B_total_22 : decode b_B_total 22 = .ok (.iinc 2 1, 3) := by decide +kernel
theorem d_B_total_25 : decode b_B_total 25 = .ok (.goto (-21), 3) := by decide +kernel
theorem d_B_total_28 : decode b_B_total 28 = .ok (.iload_n 1, 1) := by decide +kernel
theorem d_B_total_29 : decode b_B_total 29 = .ok (.ireturn, 1) := by decide +kernel
theorem d_B_isSlot_0 : decode b_B_isSlot 0 = .ok (.iload_n 1, 1) := by decide +kernel
theorem d_B_isSlot_1 : decode b_B_isSlot 1 = .ok (.ifCond .lt 16, 3) := by decide +kernel
theorem d_B_isSlot_4 : decode b_B_isSlot 4 = .ok (.iload_n 1, 1) := by decide +kernel
theorem d_B_isSlot_5 : decode b_B_isSlot 5 = .ok (.aload_n 0, 1) := by decide +kernel
theorem d_B_isSlot_6 : decode b_B_isSlot 6 = .ok (.getfield 28, 3) := by decide +kernel
theorem d_B_isSlot_9 : decode b_B_isSlot 9 = .ok (.arraylength, 1) := by decide +kernel
theorem d_B_isSlot_10 : decode b_B_isSlot 10 = .ok (.if_icmp .ge 7, 3) := by decide +kernel
theorem d_B_isSlot_13 : decode b_B_isSlot 13 = .ok (.iconst 1, 1) := by decide +kernel
theorem d_B_isSlot_14 : decode b_B_isSlot 14 = .ok (.goto 4, 3) := by decide +kernel
theorem d_B_isSlot_17 : decode b_B_isSlot 17 = .ok (.iconst 0, 1) := by decide +kernel
theorem d_B_isSlot_18 : decode b_B_isSlot 18 = .ok (.ireturn, 1) := by decide +kernel
theorem d_B_lineAt_0 : decode b_B_lineAt 0 = .ok (.aload_n 0, 1) := by decide +kernel
theorem d_B_lineAt_1 : decode b_B_lineAt 1 = .ok (.iload_n 1, 1) := by decide +kernel
theorem d_B_lineAt_2 : decode b_B_lineAt 2 = .ok (.invokevirtual 48, 3) := by decide +kernel
theorem d_B_lineAt_5 : decode b_B_lineAt 5 = .ok (.ifCond .eq 12, 3) := by decide +kernel
theorem d_B_lineAt_8 : decode b_B_lineAt 8 = .ok (.aload_n 0, 1) := by decide +kernel
theorem d_B_lineAt_9 : decode b_B_lineAt 9 = .ok (.getfield 28, 3) := by decide +kernel
theorem d_B_lineAt_12 : decode b_B_lineAt 12 = .ok (.iload_n 1, 1) := by decide +kernel
theorem d_B_lineAt_13 : decode b_B_lineAt 13 = .ok (.iaload, 1) := by decide +kernel
theorem d_B_lineAt_14 : decode b_B_lineAt 14 = .ok (.goto 4, 3) := by decide +kernel
theorem d_B_lineAt_17 : decode b_B_lineAt 17 = .ok (.iconst 0, 1) := by decide +kernel
theorem d_B_lineAt_18 : decode b_B_lineAt 18 = .ok (.ireturn, 1) := by decide +kernel
theorem d_B_versionAt_0 : decode b_B_versionAt 0 = .ok (.aload_n 0, 1) := by decide +kernel
theorem d_B_versionAt_1 : decode b_B_versionAt 1 = .ok (.iload_n 1, 1) := by decide +kernel
theorem d_B_versionAt_2 : decode b_B_versionAt 2 = .ok (.invokevirtual 48, 3) := by decide +kernel
theorem d_B_versionAt_5 : decode b_B_versionAt 5 = .ok (.ifCond .eq 12, 3) := by decide +kernel
theorem d_B_versionAt_8 : decode b_B_versionAt 8 = .ok (.aload_n 0, 1) := by decide +kernel
theorem d_B_versionAt_9 : decode b_B_versionAt 9 = .ok (.getfield 31, 3) := by decide +kernel
theorem d_B_versionAt_12 : decode b_B_versionAt 12 = .ok (.iload_n 1, 1) := by decide +kernel
theorem d_B_versionAt_13 : decode b_B_versionAt 13 = .ok (.iaload, 1) := by decide +kernel
theorem d_B_versionAt_14 : decode b_B_versionAt 14 = .ok (.goto 4, 3) := by decide +kernel
theorem d_B_versionAt_17 : decode b_B_versionAt 17 = .ok (.iconst 0, 1) := by decide +kernel
theorem d_B_versionAt_18 : decode b_B_versionAt 18 = .ok (.ireturn, 1) := by decide +kernel
theorem d_B_ownerAt_0 : decode b_B_ownerAt 0 = .ok (.aload_n 0, 1) := by decide +kernel
theorem d_B_ownerAt_1 : decode b_B_ownerAt 1 = .ok (.iload_n 1, 1) := by decide +kernel
theorem d_B_ownerAt_2 : decode b_B_ownerAt 2 = .ok (.invokevirtual 48, 3) := by decide +kernel
theorem d_B_ownerAt_5 : decode b_B_ownerAt 5 = .ok (.ifCond .eq 12, 3) := by decide +kernel
theorem d_B_ownerAt_8 : decode b_B_ownerAt 8 = .ok (.aload_n 0, 1) := by decide +kernel
theorem d_B_ownerAt_9 : decode b_B_ownerAt 9 = .ok (.getfield 34, 3) := by decide +kernel
theorem d_B_ownerAt_12 : decode b_B_ownerAt 12 = .ok (.iload_n 1, 1) := by decide +kernel
theorem d_B_ownerAt_13 : decode b_B_ownerAt 13 = .ok (.iaload, 1) := by decide +kernel
theorem d_B_ownerAt_14 : decode b_B_ownerAt 14 = .ok (.goto 4, 3) := by decide +kernel
theorem d_B_ownerAt_17 : decode b_B_ownerAt 17 = .ok (.iconst (-1), 1) := by decide +kernel
theorem d_B_ownerAt_18 : decode b_B_ownerAt 18 = .ok (.ireturn, 1) := by decide +kernel
theorem d_B_isWritten_0 : decode b_B_isWritten 0 = .ok (.aload_n 0, 1) := by decide +kernel
theorem d_B_isWritten_1 : decode b_B_isWritten 1 = .ok (.iload_n 1, 1) := by decide +kernel
theorem d_B_isWritten_2 : decode b_B_isWritten 2 = .ok (.invokevirtual 48, 3) := by decide +kernel
theorem d_B_isWritten_5 : decode b_B_isWritten 5 = .ok (.ifCond .eq 16, 3) := by decide +kernel
theorem d_B_isWritten_8 : decode b_B_isWritten 8 = .ok (.aload_n 0, 1) := by decide +kernel
theorem d_B_isWritten_9 : decode b_B_isWritten 9 = .ok (.getfield 37, 3) := by decide +kernel
theorem d_B_isWritten_12 : decode b_B_isWritten 12 = .ok (.iload_n 1, 1) := by decide +kernel
theorem d_B_isWritten_13 : decode b_B_isWritten 13 = .ok (.baload, 1) := by decide +kernel
theorem d_B_isWritten_14 : decode b_B_isWritten 14 = .ok (.ifCond .eq 7, 3) := by decide +kernel
theorem d_B_isWritten_17 : decode b_B_isWritten 17 = .ok (.iconst 1, 1) := by decide +kernel
theorem d_B_isWritten_18 : decode b_B_isWritten 18 = .ok (.goto 4, 3) := by decide +kernel
theorem d_B_isWritten_21 : decode b_B_isWritten 21 = .ok (.iconst 0, 1) := by decide +kernel
theorem d_B_isWritten_22 : decode b_B_isWritten 22 = .ok (.ireturn, 1) := by decide +kernel
theorem d_B_clean_0 : decode b_B_clean 0 = .ok (.aload_n 0, 1) := by decide +kernel
theorem d_B_clean_1 : decode b_B_clean 1 = .ok (.iload_n 1, 1) := by decide +kernel
theorem d_B_clean_2 : decode b_B_clean 2 = .ok (.invokevirtual 48, 3) := by decide +kernel
theorem d_B_clean_5 : decode b_B_clean 5 = .ok (.ifCond .eq 10, 3) := by decide +kernel
theorem d_B_clean_8 : decode b_B_clean 8 = .ok (.aload_n 0, 1) := by decide +kernel
theorem d_B_clean_9 : decode b_B_clean 9 = .ok (.getfield 37, 3) := by decide +kernel
theorem d_B_clean_12 : decode b_B_clean 12 = .ok (.iload_n 1, 1) := by decide +kernel
theorem d_B_clean_13 : decode b_B_clean 13 = .ok (.iconst 0, 1) := by decide +kernel
theorem d_B_clean_14 : decode b_B_clean 14 = .ok (.bastore, 1) := by decide +kernel
theorem d_B_clean_15 : decode b_B_clean 15 = .ok (.return_, 1) := by decide +kernel
theorem d_B_rewrite_0 : decode b_B_rewrite 0 = .ok (.aload_n 0, 1) := by decide +kernel
theorem d_B_rewrite_1 : decode b_B_rewrite 1 = .ok (.iload_n 1, 1) := by decide +kernel
theorem d_B_rewrite_2 : decode b_B_rewrite 2 = .ok (.invokevirtual 48, 3) := by decide +kernel
theorem d_B_rewrite_5 : decode b_B_rewrite 5 = .ok (.ifCond .eq 17, 3) := by decide +kernel
theorem d_B_rewrite_8 : decode b_B_rewrite 8 = .ok (.aload_n 0, 1) := by decide +kernel
theorem d_B_rewrite_9 : decode b_B_rewrite 9 = .ok (.getfield 31, 3) := by decide +kernel
theorem d_B_rewrite_12 : decode b_B_rewrite 12 = .ok (.iload_n 1, 1) := by decide +kernel
theorem d_B_rewrite_13 : decode b_B_rewrite 13 = .ok (.iload_n 2, 1) := by decide +kernel
theorem d_B_rewrite_14 : decode b_B_rewrite 14 = .ok (.iastore, 1) := by decide +kernel
theorem d_B_rewrite_15 : decode b_B_rewrite 15 = .ok (.aload_n 0, 1) := by decide +kernel
theorem d_B_rewrite_16 : decode b_B_rewrite 16 = .ok (.getfield 37, 3) := by decide +kernel
theorem d_B_rewrite_19 : decode b_B_rewrite 19 = .ok (.iload_n 1, 1) := by decide +kernel
theorem d_B_rewrite_20 : decode b_B_rewrite 20 = .ok (.iconst 1, 1) := by decide +kernel
theorem d_B_rewrite_21 : decode b_B_rewrite 21 = .ok (.bastore, 1) := by decide +kernel
theorem d_B_rewrite_22 : decode b_B_rewrite 22 = .ok (.return_, 1) := by decide +kernel
theorem d_B_find_0 : decode b_B_find 0 = .ok (.aload_n 0, 1) := by decide +kernel
theorem d_B_find_1 : decode b_B_find 1 = .ok (.iload_n 1, 1) := by decide +kernel
theorem d_B_find_2 : decode b_B_find 2 = .ok (.iload_n 2, 1) := by decide +kernel
theorem d_B_find_3 : decode b_B_find 3 = .ok (.invokevirtual 52, 3) := by decide +kernel
theorem d_B_find_6 : decode b_B_find 6 = .ok (.istore_n 3, 1) := by decide +kernel
theorem d_B_find_7 : decode b_B_find 7 = .ok (.iconst 0, 1) := by decide +kernel
theorem d_B_find_8 : decode b_B_find 8 = .ok (.istore 4, 2) := by decide +kernel
theorem d_B_find_10 : decode b_B_find 10 = .ok (.iload 4, 2) := by decide +kernel
theorem d_B_find_12 : decode b_B_find 12 = .ok (.aload_n 0, 1) := by decide +kernel
theorem d_B_find_13 : decode b_B_find 13 = .ok (.iload_n 3, 1) := by decide +kernel
theorem d_B_find_14 : decode b_B_find 14 = .ok (.invokevirtual 44, 3) := by decide +kernel
theorem d_B_find_17 : decode b_B_find 17 = .ok (.if_icmp .ge 36, 3) := by decide +kernel
theorem d_B_find_20 : decode b_B_find 20 = .ok (.aload_n 0, 1) := by decide +kernel
theorem d_B_find_21 : decode b_B_find 21 = .ok (.iload_n 3, 1) := by decide +kernel
theorem d_B_find_22 : decode b_B_find 22 = .ok (.aload_n 0, 1) := by decide +kernel
theorem d_B_find_23 : decode b_B_find 23 = .ok (.getfield 21, 3) := by decide +kernel
theorem d_B_find_26 : decode b_B_find 26 = .ok (.imul, 1) := by decide +kernel
theorem d_B_find_27 : decode b_B_find 27 = .ok (.iload 4, 2) := by decide +kernel
theorem d_B_find_29 : decode b_B_find 29 = .ok (.iadd, 1) := by decide +kernel
theorem d_B_find_30 : decode b_B_find 30 = .ok (.invokevirtual 55, 3) := by decide +kernel
theorem d_B_find_33 : decode b_B_find 33 = .ok (.iload_n 2, 1) := by decide +kernel
theorem d_B_find_34 : decode b_B_find 34 = .ok (.if_icmp .ne 13, 3) := by decide +kernel
theorem d_B_find_37 : decode b_B_find 37 = .ok (.iload_n 3, 1) := by decide +kernel
theorem d_B_find_38 : decode b_B_find 38 = .ok (.aload_n 0, 1) := by decide +kernel
theorem d_B_find_39 : decode b_B_find 39 = .ok (.getfield 21, 3) := by decide +kernel
theorem d_B_find_42 : decode b_B_find 42 = .ok (.imul, 1) := by decide +kernel
theorem d_B_find_43 : decode b_B_find 43 = .ok (.iload 4, 2) := by decide +kernel
theorem d_B_find_45 : decode b_B_find 45 = .ok (.iadd, 1) := by decide +kernel
theorem d_B_find_46 : decode b_B_find 46 = .ok (.ireturn, 1) := by decide +kernel
theorem d_B_find_47 : decode b_B_find 47 = .ok (.iinc 4 1, 3) := by decide +kernel
theorem d_B_find_50 : decode b_B_find 50 = .ok (.goto (-40), 3) := by decide +kernel
theorem d_B_find_53 : decode b_B_find 53 = .ok (.iconst (-1), 1) := by decide +kernel
theorem d_B_find_54 : decode b_B_find 54 = .ok (.ireturn, 1) := by decide +kernel
theorem d_B_oldest_0 : decode b_B_oldest 0 = .ok (.aload_n 0, 1) := by decide +kernel
theorem d_B_oldest_1 : decode b_B_oldest 1 = .ok (.iload_n 1, 1) := by decide +kernel
theorem d_B_oldest_2 : decode b_B_oldest 2 = .ok (.invokevirtual 44, 3) := by decide +kernel
theorem d_B_oldest_5 : decode b_B_oldest 5 = .ok (.istore_n 2, 1) := by decide +kernel
theorem d_B_oldest_6 : decode b_B_oldest 6 = .ok (.iload_n 2, 1) := by decide +kernel
theorem d_B_oldest_7 : decode b_B_oldest 7 = .ok (.ifCond .le 16, 3) := by decide +kernel
theorem d_B_oldest_10 : decode b_B_oldest 10 = .ok (.iload_n 1, 1) := by decide +kernel
theorem d_B_oldest_11 : decode b_B_oldest 11 = .ok (.aload_n 0, 1) := by decide +kernel
theorem d_B_oldest_12 : decode b_B_oldest 12 = .ok (.getfield 21, 3) := by decide +kernel
theorem d_B_oldest_15 : decode b_B_oldest 15 = .ok (.imul, 1) := by decide +kernel
theorem d_B_oldest_16 : decode b_B_oldest 16 = .ok (.iload_n 2, 1) := by decide +kernel
theorem d_B_oldest_17 : decode b_B_oldest 17 = .ok (.iadd, 1) := by decide +kernel
theorem d_B_oldest_18 : decode b_B_oldest 18 = .ok (.iconst 1, 1) := by decide +kernel
theorem d_B_oldest_19 : decode b_B_oldest 19 = .ok (.isub, 1) := by decide +kernel
theorem d_B_oldest_20 : decode b_B_oldest 20 = .ok (.goto 4, 3) := by decide +kernel
theorem d_B_oldest_23 : decode b_B_oldest 23 = .ok (.iconst (-1), 1) := by decide +kernel
theorem d_B_oldest_24 : decode b_B_oldest 24 = .ok (.ireturn, 1) := by decide +kernel
theorem d_B_oldestOwned_0 : decode b_B_oldestOwned 0 = .ok (.aload_n 0, 1) := by decide +kernel
theorem d_B_oldestOwned_1 : decode b_B_oldestOwned 1 = .ok (.iload_n 1, 1) := by decide +kernel
theorem d_B_oldestOwned_2 : decode b_B_oldestOwned 2 = .ok (.invokevirtual 44, 3) := by decide +kernel
theorem d_B_oldestOwned_5 : decode b_B_oldestOwned 5 = .ok (.iconst 1, 1) := by decide +kernel
theorem d_B_oldestOwned_6 : decode b_B_oldestOwned 6 = .ok (.isub, 1) := by decide +kernel
theorem d_B_oldestOwned_7 : decode b_B_oldestOwned 7 = .ok (.istore_n 3, 1) := by decide +kernel
theorem d_B_oldestOwned_8 : decode b_B_oldestOwned 8 = .ok (.iload_n 3, 1) := by decide +kernel
theorem d_B_oldestOwned_9 : decode b_B_oldestOwned 9 = .ok (.ifCond .lt 34, 3) := by decide +kernel
theorem d_B_oldestOwned_12 : decode b_B_oldestOwned 12 = .ok (.aload_n 0, 1) := by decide +kernel
theorem d_B_oldestOwned_13 : decode b_B_oldestOwned 13 = .ok (.iload_n 1, 1) := by decide +kernel
theorem d_B_oldestOwned_14 : decode b_B_oldestOwned 14 = .ok (.aload_n 0, 1) := by decide +kernel
theorem d_B_oldestOwned_15 : decode b_B_oldestOwned 15 = .ok (.getfield 21, 3) := by decide +kernel
theorem d_B_oldestOwned_18 : decode b_B_oldestOwned 18 = .ok (.imul, 1) := by decide +kernel
theorem d_B_oldestOwned_19 : decode b_B_oldestOwned 19 = .ok (.iload_n 3, 1) := by decide +kernel
theorem d_B_oldestOwned_20 : decode b_B_oldestOwned 20 = .ok (.iadd, 1) := by decide +kernel
theorem d_B_oldestOwned_21 : decode b_B_oldestOwned 21 = .ok (.invokevirtual 58, 3) := by decide +kernel
theorem d_B_oldestOwned_24 : decode b_B_oldestOwned 24 = .ok (.iload_n 2, 1) := by decide +kernel
theorem d_B_oldestOwned_25 : decode b_B_oldestOwned 25 = .ok (.if_icmp .ne 12, 3) := by decide +kernel
theorem d_B_oldestOwned_28 : decode b_B_oldestOwned 28 = .ok (.iload_n 1, 1) := by decide +kernel
theorem d_B_oldestOwned_29 : decode b_B_oldestOwned 29 = .ok (.aload_n 0, 1) := by decide +kernel
theorem d_B_oldestOwned_30 : decode b_B_oldestOwned 30 = .ok (.getfield 21, 3) := by decide +kernel
theorem d_B_oldestOwned_33 : decode b_B_oldestOwned 33 = .ok (.imul, 1) := by decide +kernel
theorem d_B_oldestOwned_34 : decode b_B_oldestOwned 34 = .ok (.iload_n 3, 1) := by decide +kernel
theorem d_B_oldestOwned_35 : decode b_B_oldestOwned 35 = .ok (.iadd, 1) := by decide +kernel
theorem d_B_oldestOwned_36 : decode b_B_oldestOwned 36 = .ok (.ireturn, 1) := by decide +kernel
theorem d_B_oldestOwned_37 : decode b_B_oldestOwned 37 = .ok (.iinc 3 (-1), 3) := by decide +kernel
theorem d_B_oldestOwned_40 : decode b_B_oldestOwned 40 = .ok (.goto (-32), 3) := by decide +kernel
theorem d_B_oldestOwned_43 : decode b_B_oldestOwned 43 = .ok (.iconst (-1), 1) := by decide +kernel
theorem d_B_oldestOwned_44 : decode b_B_oldestOwned 44 = .ok (.ireturn, 1) := by decide +kernel
theorem d_B_ownedAt_0 : decode b_B_ownedAt 0 = .ok (.iconst 0, 1) := by decide +kernel
theorem d_B_ownedAt_1 : decode b_B_ownedAt 1 = .ok (.istore_n 3, 1) := by decide +kernel
theorem d_B_ownedAt_2 : decode b_B_ownedAt 2 = .ok (.iconst 0, 1) := by decide +kernel
theorem d_B_ownedAt_3 : decode b_B_ownedAt 3 = .ok (.istore 4, 2) := by decide +kernel
theorem d_B_ownedAt_5 : decode b_B_ownedAt 5 = .ok (.iload 4, 2) := by decide +kernel
theorem d_B_ownedAt_7 : decode b_B_ownedAt 7 = .ok (.aload_n 0, 1) := by decide +kernel
theorem d_B_ownedAt_8 : decode b_B_ownedAt 8 = .ok (.iload_n 1, 1) := by decide +kernel
theorem d_B_ownedAt_9 : decode b_B_ownedAt 9 = .ok (.invokevirtual 44, 3) := by decide +kernel
theorem d_B_ownedAt_12 : decode b_B_ownedAt 12 = .ok (.if_icmp .ge 29, 3) := by decide +kernel
theorem d_B_ownedAt_15 : decode b_B_ownedAt 15 = .ok (.aload_n 0, 1) := by decide +kernel
theorem d_B_ownedAt_16 : decode b_B_ownedAt 16 = .ok (.iload_n 1, 1) := by decide +kernel
theorem d_B_ownedAt_17 : decode b_B_ownedAt 17 = .ok (.aload_n 0, 1) := by decide +kernel
theorem d_B_ownedAt_18 : decode b_B_ownedAt 18 = .ok (.getfield 21, 3) := by decide +kernel
theorem d_B_ownedAt_21 : decode b_B_ownedAt 21 = .ok (.imul, 1) := by decide +kernel
theorem d_B_ownedAt_22 : decode b_B_ownedAt 22 = .ok (.iload 4, 2) := by decide +kernel
theorem d_B_ownedAt_24 : decode b_B_ownedAt 24 = .ok (.iadd, 1) := by decide +kernel
theorem d_B_ownedAt_25 : decode b_B_ownedAt 25 = .ok (.invokevirtual 58, 3) := by decide +kernel
theorem d_B_ownedAt_28 : decode b_B_ownedAt 28 = .ok (.iload_n 2, 1) := by decide +kernel
theorem d_B_ownedAt_29 : decode b_B_ownedAt 29 = .ok (.if_icmp .ne 6, 3) := by decide +kernel
theorem d_B_ownedAt_32 : decode b_B_ownedAt 32 = .ok (.iinc 3 1, 3) := by decide +kernel
theorem d_B_ownedAt_35 : decode b_B_ownedAt 35 = .ok (.iinc 4 1, 3) := by decide +kernel
theorem d_B_ownedAt_38 : decode b_B_ownedAt 38 = .ok (.goto (-33), 3) := by decide +kernel
theorem d_B_ownedAt_41 : decode b_B_ownedAt 41 = .ok (.iload_n 3, 1) := by decide +kernel
theorem d_B_ownedAt_42 : decode b_B_ownedAt 42 = .ok (.ireturn, 1) := by decide +kernel
theorem d_B_ownedBy_0 : decode b_B_ownedBy 0 = .ok (.iconst 0, 1) := by decide +kernel
theorem d_B_ownedBy_1 : decode b_B_ownedBy 1 = .ok (.istore_n 2, 1) := by decide +kernel
theorem d_B_ownedBy_2 : decode b_B_ownedBy 2 = .ok (.iconst 0, 1) := by decide +kernel
theorem d_B_ownedBy_3 : decode b_B_ownedBy 3 = .ok (.istore_n 3, 1) := by decide +kernel
theorem d_B_ownedBy_4 : decode b_B_ownedBy 4 = .ok (.iload_n 3, 1) := by decide +kernel
theorem d_B_ownedBy_5 : decode b_B_ownedBy 5 = .ok (.aload_n 0, 1) := by decide +kernel
theorem d_B_ownedBy_6 : decode b_B_ownedBy 6 = .ok (.getfield 24, 3) := by decide +kernel
theorem d_B_ownedBy_9 : decode b_B_ownedBy 9 = .ok (.arraylength, 1) := by decide +kernel
theorem d_B_ownedBy_10 : decode b_B_ownedBy 10 = .ok (.if_icmp .ge 18, 3) := by decide +kernel
theorem d_B_ownedBy_13 : decode b_B_ownedBy 13 = .ok (.iload_n 2, 1) := by decide +kernel
theorem d_B_ownedBy_14 : decode b_B_ownedBy 14 = .ok (.aload_n 0, 1) := by decide +kernel
theorem d_B_ownedBy_15 : decode b_B_ownedBy 15 = .ok (.iload_n 3, 1) := by decide +kernel
theorem d_B_ownedBy_16 : decode b_B_ownedBy 16 = .ok (.iload_n 1, 1) := by decide +kernel
theorem d_B_ownedBy_17 : decode b_B_ownedBy 17 = .ok (.invokevirtual 61, 3) := by decide +kernel
theorem d_B_ownedBy_20 : decode b_B_ownedBy 20 = .ok (.iadd, 1) := by decide +kernel
theorem d_B_ownedBy_21 : decode b_B_ownedBy 21 = .ok (.istore_n 2, 1) := by decide +kernel
theorem d_B_ownedBy_22 : decode b_B_ownedBy 22 = .ok (.iinc 3 1, 3) := by decide +kernel
theorem d_B_ownedBy_25 : decode b_B_ownedBy 25 = .ok (.goto (-21), 3) := by decide +kernel
theorem d_B_ownedBy_28 : decode b_B_ownedBy 28 = .ok (.iload_n 2, 1) := by decide +kernel
theorem d_B_ownedBy_29 : decode b_B_ownedBy 29 = .ok (.ireturn, 1) := by decide +kernel
theorem d_B_put_0 : decode b_B_put 0 = .ok (.iload_n 1, 1) := by decide +kernel
theorem d_B_put_1 : decode b_B_put 1 = .ok (.ifCond .lt 20, 3) := by decide +kernel
theorem d_B_put_4 : decode b_B_put 4 = .ok (.iload_n 1, 1) := by decide +kernel
theorem d_B_put_5 : decode b_B_put 5 = .ok (.aload_n 0, 1) := by decide +kernel
theorem d_B_put_6 : decode b_B_put 6 = .ok (.getfield 24, 3) := by decide +kernel
theorem d_B_put_9 : decode b_B_put 9 = .ok (.arraylength, 1) := by decide +kernel
theorem d_B_put_10 : decode b_B_put 10 = .ok (.if_icmp .ge 11, 3) := by decide +kernel
theorem d_B_put_13 : decode b_B_put 13 = .ok (.aload_n 0, 1) := by decide +kernel
theorem d_B_put_14 : decode b_B_put 14 = .ok (.iload_n 1, 1) := by decide +kernel
theorem d_B_put_15 : decode b_B_put 15 = .ok (.invokevirtual 64, 3) := by decide +kernel
theorem d_B_put_18 : decode b_B_put 18 = .ok (.ifCond .eq 4, 3) := by decide +kernel
theorem d_B_put_21 : decode b_B_put 21 = .ok (.return_, 1) := by decide +kernel
theorem d_B_put_22 : decode b_B_put 22 = .ok (.iload_n 1, 1) := by decide +kernel
theorem d_B_put_23 : decode b_B_put 23 = .ok (.aload_n 0, 1) := by decide +kernel
theorem d_B_put_24 : decode b_B_put 24 = .ok (.getfield 21, 3) := by decide +kernel
theorem d_B_put_27 : decode b_B_put 27 = .ok (.imul, 1) := by decide +kernel
theorem d_B_put_28 : decode b_B_put 28 = .ok (.aload_n 0, 1) := by decide +kernel
theorem d_B_put_29 : decode b_B_put 29 = .ok (.getfield 24, 3) := by decide +kernel
theorem d_B_put_32 : decode b_B_put 32 = .ok (.iload_n 1, 1) := by decide +kernel
theorem d_B_put_33 : decode b_B_put 33 = .ok (.iaload, 1) := by decide +kernel
theorem d_B_put_34 : decode b_B_put 34 = .ok (.iadd, 1) := by decide +kernel
theorem d_B_put_35 : decode b_B_put 35 = .ok (.istore 6, 2) := by decide +kernel
theorem d_B_put_37 : decode b_B_put 37 = .ok (.aload_n 0, 1) := by decide +kernel
theorem d_B_put_38 : decode b_B_put 38 = .ok (.iload 6, 2) := by decide +kernel
theorem d_B_put_40 : decode b_B_put 40 = .ok (.invokevirtual 48, 3) := by decide +kernel
theorem d_B_put_43 : decode b_B_put 43 = .ok (.ifCond .eq 53, 3) := by decide +kernel
theorem d_B_put_46 : decode b_B_put 46 = .ok (.aload_n 0, 1) := by decide +kernel
theorem d_B_put_47 : decode b_B_put 47 = .ok (.getfield 28, 3) := by decide +kernel
theorem d_B_put_50 : decode b_B_put 50 = .ok (.iload 6, 2) := by decide +kernel
theorem d_B_put_52 : decode b_B_put 52 = .ok (.iload_n 2, 1) := by decide +kernel
theorem d_B_put_53 : decode b_B_put 53 = .ok (.iastore, 1) := by decide +kernel
theorem d_B_put_54 : decode b_B_put 54 = .ok (.aload_n 0, 1) := by decide +kernel
theorem d_B_put_55 : decode b_B_put 55 = .ok (.getfield 31, 3) := by decide +kernel
theorem d_B_put_58 : decode b_B_put 58 = .ok (.iload 6, 2) := by decide +kernel
theorem d_B_put_60 : decode b_B_put 60 = .ok (.iload_n 3, 1) := by decide +kernel
theorem d_B_put_61 : decode b_B_put 61 = .ok (.iastore, 1) := by decide +kernel
theorem d_B_put_62 : decode b_B_put 62 = .ok (.aload_n 0, 1) := by decide +kernel
theorem d_B_put_63 : decode b_B_put 63 = .ok (.getfield 37, 3) := by decide +kernel
theorem d_B_put_66 : decode b_B_put 66 = .ok (.iload 6, 2) := by decide +kernel
theorem d_B_put_68 : decode b_B_put 68 = .ok (.iload 4, 2) := by decide +kernel
theorem d_B_put_70 : decode b_B_put 70 = .ok (.bastore, 1) := by decide +kernel
theorem d_B_put_71 : decode b_B_put 71 = .ok (.aload_n 0, 1) := by decide +kernel
theorem d_B_put_72 : decode b_B_put 72 = .ok (.getfield 34, 3) := by decide +kernel
theorem d_B_put_75 : decode b_B_put 75 = .ok (.iload 6, 2) := by decide +kernel
theorem d_B_put_77 : decode b_B_put 77 = .ok (.iload 5, 2) := by decide +kernel
theorem d_B_put_79 : decode b_B_put 79 = .ok (.iastore, 1) := by decide +kernel
theorem d_B_put_80 : decode b_B_put 80 = .ok (.aload_n 0, 1) := by decide +kernel
theorem d_B_put_81 : decode b_B_put 81 = .ok (.getfield 24, 3) := by decide +kernel
theorem d_B_put_84 : decode b_B_put 84 = .ok (.iload_n 1, 1) := by decide +kernel
theorem d_B_put_85 : decode b_B_put 85 = .ok (.dup2, 1) := by decide +kernel
theorem d_B_put_86 : decode b_B_put 86 = .ok (.iaload, 1) := by decide +kernel
theorem d_B_put_87 : decode b_B_put 87 = .ok (.iconst 1, 1) := by decide +kernel
theorem d_B_put_88 : decode b_B_put 88 = .ok (.iadd, 1) := by decide +kernel
theorem d_B_put_89 : decode b_B_put 89 = .ok (.iastore, 1) := by decide +kernel
theorem d_B_put_90 : decode b_B_put 90 = .ok (.aload_n 0, 1) := by decide +kernel
theorem d_B_put_91 : decode b_B_put 91 = .ok (.iload 6, 2) := by decide +kernel
theorem d_B_put_93 : decode b_B_put 93 = .ok (.invokevirtual 67, 3) := by decide +kernel
theorem d_B_put_96 : decode b_B_put 96 = .ok (.return_, 1) := by decide +kernel
theorem d_B_useLast_0 : decode b_B_useLast 0 = .ok (.iload_n 1, 1) := by decide +kernel
theorem d_B_useLast_1 : decode b_B_useLast 1 = .ok (.aload_n 0, 1) := by decide +kernel
theorem d_B_useLast_2 : decode b_B_useLast 2 = .ok (.getfield 21, 3) := by decide +kernel
theorem d_B_useLast_5 : decode b_B_useLast 5 = .ok (.irem, 1) := by decide +kernel
theorem d_B_useLast_6 : decode b_B_useLast 6 = .ok (.istore_n 2, 1) := by decide +kernel
theorem d_B_useLast_7 : decode b_B_useLast 7 = .ok (.iconst 0, 1) := by decide +kernel
theorem d_B_useLast_8 : decode b_B_useLast 8 = .ok (.istore_n 3, 1) := by decide +kernel
theorem d_B_useLast_9 : decode b_B_useLast 9 = .ok (.iload_n 3, 1) := by decide +kernel
theorem d_B_useLast_10 : decode b_B_useLast 10 = .ok (.iload_n 2, 1) := by decide +kernel
theorem d_B_useLast_11 : decode b_B_useLast 11 = .ok (.if_icmp .ge 21, 3) := by decide +kernel
theorem d_B_useLast_14 : decode b_B_useLast 14 = .ok (.aload_n 0, 1) := by decide +kernel
theorem d_B_useLast_15 : decode b_B_useLast 15 = .ok (.iload_n 1, 1) := by decide +kernel
theorem d_B_useLast_16 : decode b_B_useLast 16 = .ok (.iload_n 3, 1) := by decide +kernel
theorem d_B_useLast_17 : decode b_B_useLast 17 = .ok (.isub, 1) := by decide +kernel
theorem d_B_useLast_18 : decode b_B_useLast 18 = .ok (.iload_n 1, 1) := by decide +kernel
theorem d_B_useLast_19 : decode b_B_useLast 19 = .ok (.iload_n 3, 1) := by decide +kernel
theorem d_B_useLast_20 : decode b_B_useLast 20 = .ok (.isub, 1) := by decide +kernel
theorem d_B_useLast_21 : decode b_B_useLast 21 = .ok (.iconst 1, 1) := by decide +kernel
theorem d_B_useLast_22 : decode b_B_useLast 22 = .ok (.isub, 1) := by decide +kernel
theorem d_B_useLast_23 : decode b_B_useLast 23 = .ok (.invokevirtual 71, 3) := by decide +kernel
theorem d_B_useLast_26 : decode b_B_useLast 26 = .ok (.iinc 3 1, 3) := by decide +kernel
theorem d_B_useLast_29 : decode b_B_useLast 29 = .ok (.goto (-20), 3) := by decide +kernel
theorem d_B_useLast_32 : decode b_B_useLast 32 = .ok (.return_, 1) := by decide +kernel
theorem d_B_drop_0 : decode b_B_drop 0 = .ok (.aload_n 0, 1) := by decide +kernel
theorem d_B_drop_1 : decode b_B_drop 1 = .ok (.iload_n 1, 1) := by decide +kernel
theorem d_B_drop_2 : decode b_B_drop 2 = .ok (.invokevirtual 48, 3) := by decide +kernel
theorem d_B_drop_5 : decode b_B_drop 5 = .ok (.ifCond .eq 12, 3) := by decide +kernel
theorem d_B_drop_8 : decode b_B_drop 8 = .ok (.iload_n 1, 1) := by decide +kernel
theorem d_B_drop_9 : decode b_B_drop 9 = .ok (.aload_n 0, 1) := by decide +kernel
theorem d_B_drop_10 : decode b_B_drop 10 = .ok (.getfield 21, 3) := by decide +kernel
theorem d_B_drop_13 : decode b_B_drop 13 = .ok (.idiv, 1) := by decide +kernel
theorem d_B_drop_14 : decode b_B_drop 14 = .ok (.goto 4, 3) := by decide +kernel
theorem d_B_drop_17 : decode b_B_drop 17 = .ok (.iconst (-1), 1) := by decide +kernel
theorem d_B_drop_18 : decode b_B_drop 18 = .ok (.istore_n 2, 1) := by decide +kernel
theorem d_B_drop_19 : decode b_B_drop 19 = .ok (.aload_n 0, 1) := by decide +kernel
theorem d_B_drop_20 : decode b_B_drop 20 = .ok (.iload_n 2, 1) := by decide +kernel
theorem d_B_drop_21 : decode b_B_drop 21 = .ok (.invokevirtual 75, 3) := by decide +kernel
theorem d_B_drop_24 : decode b_B_drop 24 = .ok (.istore_n 3, 1) := by decide +kernel
theorem d_B_drop_25 : decode b_B_drop 25 = .ok (.iload_n 2, 1) := by decide +kernel
theorem d_B_drop_26 : decode b_B_drop 26 = .ok (.ifCond .lt 17, 3) := by decide +kernel
theorem d_B_drop_29 : decode b_B_drop 29 = .ok (.iload_n 2, 1) := by decide +kernel
theorem d_B_drop_30 : decode b_B_drop 30 = .ok (.aload_n 0, 1) := by decide +kernel
theorem d_B_drop_31 : decode b_B_drop 31 = .ok (.getfield 24, 3) := by decide +kernel
theorem d_B_drop_34 : decode b_B_drop 34 = .ok (.arraylength, 1) := by decide +kernel
theorem d_B_drop_35 : decode b_B_drop 35 = .ok (.if_icmp .ge 8, 3) := by decide +kernel
theorem d_B_drop_38 : decode b_B_drop 38 = .ok (.iload_n 1, 1) := by decide +kernel
theorem d_B_drop_39 : decode b_B_drop 39 = .ok (.iload_n 3, 1) := by decide +kernel
theorem d_B_drop_40 : decode b_B_drop 40 = .ok (.if_icmp .le 4, 3) := by decide +kernel
theorem d_B_drop_43 : decode b_B_drop 43 = .ok (.return_, 1) := by decide +kernel
theorem d_B_drop_44 : decode b_B_drop 44 = .ok (.iload_n 1, 1) := by decide +kernel
theorem d_B_drop_45 : decode b_B_drop 45 = .ok (.istore 4, 2) := by decide +kernel
theorem d_B_drop_47 : decode b_B_drop 47 = .ok (.iload 4, 2) := by decide +kernel
theorem d_B_drop_49 : decode b_B_drop 49 = .ok (.iload_n 3, 1) := by decide +kernel
theorem d_B_drop_50 : decode b_B_drop 50 = .ok (.if_icmp .ge 19, 3) := by decide +kernel
theorem d_B_drop_53 : decode b_B_drop 53 = .ok (.aload_n 0, 1) := by decide +kernel
theorem d_B_drop_54 : decode b_B_drop 54 = .ok (.iload 4, 2) := by decide +kernel
theorem d_B_drop_56 : decode b_B_drop 56 = .ok (.iload 4, 2) := by decide +kernel
theorem d_B_drop_58 : decode b_B_drop 58 = .ok (.iconst 1, 1) := by decide +kernel
theorem d_B_drop_59 : decode b_B_drop 59 = .ok (.iadd, 1) := by decide +kernel
theorem d_B_drop_60 : decode b_B_drop 60 = .ok (.invokevirtual 71, 3) := by decide +kernel
theorem d_B_drop_63 : decode b_B_drop 63 = .ok (.iinc 4 1, 3) := by decide +kernel
theorem d_B_drop_66 : decode b_B_drop 66 = .ok (.goto (-19), 3) := by decide +kernel
theorem d_B_drop_69 : decode b_B_drop 69 = .ok (.aload_n 0, 1) := by decide +kernel
theorem d_B_drop_70 : decode b_B_drop 70 = .ok (.iload_n 3, 1) := by decide +kernel
theorem d_B_drop_71 : decode b_B_drop 71 = .ok (.invokevirtual 78, 3) := by decide +kernel
theorem d_B_drop_74 : decode b_B_drop 74 = .ok (.aload_n 0, 1) := by decide +kernel
theorem d_B_drop_75 : decode b_B_drop 75 = .ok (.getfield 24, 3) := by decide +kernel
theorem d_B_drop_78 : decode b_B_drop 78 = .ok (.iload_n 2, 1) := by decide +kernel
theorem d_B_drop_79 : decode b_B_drop 79 = .ok (.dup2, 1) := by decide +kernel
theorem d_B_drop_80 : decode b_B_drop 80 = .ok (.iaload, 1) := by decide +kernel
theorem d_B_drop_81 : decode b_B_drop 81 = .ok (.iconst 1, 1) := by decide +kernel
theorem d_B_drop_82 : decode b_B_drop 82 = .ok (.isub, 1) := by decide +kernel
theorem d_B_drop_83 : decode b_B_drop 83 = .ok (.iastore, 1) := by decide +kernel
theorem d_B_drop_84 : decode b_B_drop 84 = .ok (.return_, 1) := by decide +kernel
theorem d_B_swap_0 : decode b_B_swap 0 = .ok (.aload_n 0, 1) := by decide +kernel
theorem d_B_swap_1 : decode b_B_swap 1 = .ok (.iload_n 1, 1) := by decide +kernel
theorem d_B_swap_2 : decode b_B_swap 2 = .ok (.invokevirtual 48, 3) := by decide +kernel
theorem d_B_swap_5 : decode b_B_swap 5 = .ok (.ifCond .eq 11, 3) := by decide +kernel
theorem d_B_swap_8 : decode b_B_swap 8 = .ok (.aload_n 0, 1) := by decide +kernel
theorem d_B_swap_9 : decode b_B_swap 9 = .ok (.iload_n 2, 1) := by decide +kernel
theorem d_B_swap_10 : decode b_B_swap 10 = .ok (.invokevirtual 48, 3) := by decide +kernel
theorem d_B_swap_13 : decode b_B_swap 13 = .ok (.ifCond .ne 4, 3) := by decide +kernel
theorem d_B_swap_16 : decode b_B_swap 16 = .ok (.return_, 1) := by decide +kernel
theorem d_B_swap_17 : decode b_B_swap 17 = .ok (.aload_n 0, 1) := by decide +kernel
theorem d_B_swap_18 : decode b_B_swap 18 = .ok (.getfield 28, 3) := by decide +kernel
theorem d_B_swap_21 : decode b_B_swap 21 = .ok (.iload_n 1, 1) := by decide +kernel
theorem d_B_swap_22 : decode b_B_swap 22 = .ok (.iaload, 1) := by decide +kernel
theorem d_B_swap_23 : decode b_B_swap 23 = .ok (.istore_n 3, 1) := by decide +kernel
theorem d_B_swap_24 : decode b_B_swap 24 = .ok (.aload_n 0, 1) := by decide +kernel
theorem d_B_swap_25 : decode b_B_swap 25 = .ok (.getfield 28, 3) := by decide +kernel
theorem d_B_swap_28 : decode b_B_swap 28 = .ok (.iload_n 1, 1) := by decide +kernel
theorem d_B_swap_29 : decode b_B_swap 29 = .ok (.aload_n 0, 1) := by decide +kernel
theorem d_B_swap_30 : decode b_B_swap 30 = .ok (.getfield 28, 3) := by decide +kernel
theorem d_B_swap_33 : decode b_B_swap 33 = .ok (.iload_n 2, 1) := by decide +kernel
theorem d_B_swap_34 : decode b_B_swap 34 = .ok (.iaload, 1) := by decide +kernel
theorem d_B_swap_35 : decode b_B_swap 35 = .ok (.iastore, 1) := by decide +kernel
theorem d_B_swap_36 : decode b_B_swap 36 = .ok (.aload_n 0, 1) := by decide +kernel
theorem d_B_swap_37 : decode b_B_swap 37 = .ok (.getfield 28, 3) := by decide +kernel
theorem d_B_swap_40 : decode b_B_swap 40 = .ok (.iload_n 2, 1) := by decide +kernel
theorem d_B_swap_41 : decode b_B_swap 41 = .ok (.iload_n 3, 1) := by decide +kernel
theorem d_B_swap_42 : decode b_B_swap 42 = .ok (.iastore, 1) := by decide +kernel
theorem d_B_swap_43 : decode b_B_swap 43 = .ok (.aload_n 0, 1) := by decide +kernel
theorem d_B_swap_44 : decode b_B_swap 44 = .ok (.getfield 31, 3) := by decide +kernel
theorem d_B_swap_47 : decode b_B_swap 47 = .ok (.iload_n 1, 1) := by decide +kernel
theorem d_B_swap_48 : decode b_B_swap 48 = .ok (.iaload, 1) := by decide +kernel
theorem d_B_swap_49 : decode b_B_swap 49 = .ok (.istore 4, 2) := by decide +kernel
theorem d_B_swap_51 : decode b_B_swap 51 = .ok (.aload_n 0, 1) := by decide +kernel
theorem d_B_swap_52 : decode b_B_swap 52 = .ok (.getfield 31, 3) := by decide +kernel
theorem d_B_swap_55 : decode b_B_swap 55 = .ok (.iload_n 1, 1) := by decide +kernel
theorem d_B_swap_56 : decode b_B_swap 56 = .ok (.aload_n 0, 1) := by decide +kernel
theorem d_B_swap_57 : decode b_B_swap 57 = .ok (.getfield 31, 3) := by decide +kernel
theorem d_B_swap_60 : decode b_B_swap 60 = .ok (.iload_n 2, 1) := by decide +kernel
theorem d_B_swap_61 : decode b_B_swap 61 = .ok (.iaload, 1) := by decide +kernel
theorem d_B_swap_62 : decode b_B_swap 62 = .ok (.iastore, 1) := by decide +kernel
theorem d_B_swap_63 : decode b_B_swap 63 = .ok (.aload_n 0, 1) := by decide +kernel
theorem d_B_swap_64 : decode b_B_swap 64 = .ok (.getfield 31, 3) := by decide +kernel
theorem d_B_swap_67 : decode b_B_swap 67 = .ok (.iload_n 2, 1) := by decide +kernel
theorem d_B_swap_68 : decode b_B_swap 68 = .ok (.iload 4, 2) := by decide +kernel
theorem d_B_swap_70 : decode b_B_swap 70 = .ok (.iastore, 1) := by decide +kernel
theorem d_B_swap_71 : decode b_B_swap 71 = .ok (.aload_n 0, 1) := by decide +kernel
theorem d_B_swap_72 : decode b_B_swap 72 = .ok (.getfield 34, 3) := by decide +kernel
theorem d_B_swap_75 : decode b_B_swap 75 = .ok (.iload_n 1, 1) := by decide +kernel
theorem d_B_swap_76 : decode b_B_swap 76 = .ok (.iaload, 1) := by decide +kernel
theorem d_B_swap_77 : decode b_B_swap 77 = .ok (.istore 5, 2) := by decide +kernel
theorem d_B_swap_79 : decode b_B_swap 79 = .ok (.aload_n 0, 1) := by decide +kernel
theorem d_B_swap_80 : decode b_B_swap 80 = .ok (.getfield 34, 3) := by decide +kernel
theorem d_B_swap_83 : decode b_B_swap 83 = .ok (.iload_n 1, 1) := by decide +kernel
theorem d_B_swap_84 : decode b_B_swap 84 = .ok (.aload_n 0, 1) := by decide +kernel
theorem d_B_swap_85 : decode b_B_swap 85 = .ok (.getfield 34, 3) := by decide +kernel
theorem d_B_swap_88 : decode b_B_swap 88 = .ok (.iload_n 2, 1) := by decide +kernel
theorem d_B_swap_89 : decode b_B_swap 89 = .ok (.iaload, 1) := by decide +kernel
theorem d_B_swap_90 : decode b_B_swap 90 = .ok (.iastore, 1) := by decide +kernel
theorem d_B_swap_91 : decode b_B_swap 91 = .ok (.aload_n 0, 1) := by decide +kernel
theorem d_B_swap_92 : decode b_B_swap 92 = .ok (.getfield 34, 3) := by decide +kernel
theorem d_B_swap_95 : decode b_B_swap 95 = .ok (.iload_n 2, 1) := by decide +kernel
theorem d_B_swap_96 : decode b_B_swap 96 = .ok (.iload 5, 2) := by decide +kernel
theorem d_B_swap_98 : decode b_B_swap 98 = .ok (.iastore, 1) := by decide +kernel
theorem d_B_swap_99 : decode b_B_swap 99 = .ok (.aload_n 0, 1) := by decide +kernel
theorem d_B_swap_100 : decode b_B_swap 100 = .ok (.getfield 37, 3) := by decide +kernel
theorem d_B_swap_103 : decode b_B_swap 103 = .ok (.iload_n 1, 1) := by decide +kernel
theorem d_B_swap_104 : decode b_B_swap 104 = .ok (.baload, 1) := by decide +kernel
theorem d_B_swap_105 : decode b_B_swap 105 = .ok (.istore 6, 2) := by decide +kernel
theorem d_B_swap_107 : decode b_B_swap 107 = .ok (.aload_n 0, 1) := by decide +kernel
theorem d_B_swap_108 : decode b_B_swap 108 = .ok (.getfield 37, 3) := by decide +kernel
theorem d_B_swap_111 : decode b_B_swap 111 = .ok (.iload_n 1, 1) := by decide +kernel
theorem d_B_swap_112 : decode b_B_swap 112 = .ok (.aload_n 0, 1) := by decide +kernel
theorem d_B_swap_113 : decode b_B_swap 113 = .ok (.getfield 37, 3) := by decide +kernel
theorem d_B_swap_116 : decode b_B_swap 116 = .ok (.iload_n 2, 1) := by decide +kernel
theorem d_B_swap_117 : decode b_B_swap 117 = .ok (.baload, 1) := by decide +kernel
theorem d_B_swap_118 : decode b_B_swap 118 = .ok (.bastore, 1) := by decide +kernel
theorem d_B_swap_119 : decode b_B_swap 119 = .ok (.aload_n 0, 1) := by decide +kernel
theorem d_B_swap_120 : decode b_B_swap 120 = .ok (.getfield 37, 3) := by decide +kernel
theorem d_B_swap_123 : decode b_B_swap 123 = .ok (.iload_n 2, 1) := by decide +kernel
theorem d_B_swap_124 : decode b_B_swap 124 = .ok (.iload 6, 2) := by decide +kernel
theorem d_B_swap_126 : decode b_B_swap 126 = .ok (.bastore, 1) := by decide +kernel
theorem d_B_swap_127 : decode b_B_swap 127 = .ok (.return_, 1) := by decide +kernel
theorem d_B_clear_0 : decode b_B_clear 0 = .ok (.iconst 0, 1) := by decide +kernel
theorem d_B_clear_1 : decode b_B_clear 1 = .ok (.istore_n 1, 1) := by decide +kernel
theorem d_B_clear_2 : decode b_B_clear 2 = .ok (.iload_n 1, 1) := by decide +kernel
theorem d_B_clear_3 : decode b_B_clear 3 = .ok (.aload_n 0, 1) := by decide +kernel
theorem d_B_clear_4 : decode b_B_clear 4 = .ok (.getfield 24, 3) := by decide +kernel
theorem d_B_clear_7 : decode b_B_clear 7 = .ok (.arraylength, 1) := by decide +kernel
theorem d_B_clear_8 : decode b_B_clear 8 = .ok (.if_icmp .ge 16, 3) := by decide +kernel
theorem d_B_clear_11 : decode b_B_clear 11 = .ok (.aload_n 0, 1) := by decide +kernel
theorem d_B_clear_12 : decode b_B_clear 12 = .ok (.getfield 24, 3) := by decide +kernel
theorem d_B_clear_15 : decode b_B_clear 15 = .ok (.iload_n 1, 1) := by decide +kernel
theorem d_B_clear_16 : decode b_B_clear 16 = .ok (.iconst 0, 1) := by decide +kernel
theorem d_B_clear_17 : decode b_B_clear 17 = .ok (.iastore, 1) := by decide +kernel
theorem d_B_clear_18 : decode b_B_clear 18 = .ok (.iinc 1 1, 3) := by decide +kernel
theorem d_B_clear_21 : decode b_B_clear 21 = .ok (.goto (-19), 3) := by decide +kernel
theorem d_B_clear_24 : decode b_B_clear 24 = .ok (.iconst 0, 1) := by decide +kernel
theorem d_B_clear_25 : decode b_B_clear 25 = .ok (.istore_n 1, 1) := by decide +kernel
theorem d_B_clear_26 : decode b_B_clear 26 = .ok (.iload_n 1, 1) := by decide +kernel
theorem d_B_clear_27 : decode b_B_clear 27 = .ok (.aload_n 0, 1) := by decide +kernel
theorem d_B_clear_28 : decode b_B_clear 28 = .ok (.getfield 37, 3) := by decide +kernel
theorem d_B_clear_31 : decode b_B_clear 31 = .ok (.arraylength, 1) := by decide +kernel
theorem d_B_clear_32 : decode b_B_clear 32 = .ok (.if_icmp .ge 16, 3) := by decide +kernel
theorem d_B_clear_35 : decode b_B_clear 35 = .ok (.aload_n 0, 1) := by decide +kernel
theorem d_B_clear_36 : decode b_B_clear 36 = .ok (.getfield 37, 3) := by decide +kernel
theorem d_B_clear_39 : decode b_B_clear 39 = .ok (.iload_n 1, 1) := by decide +kernel
theorem d_B_clear_40 : decode b_B_clear 40 = .ok (.iconst 0, 1) := by decide +kernel
theorem d_B_clear_41 : decode b_B_clear 41 = .ok (.bastore, 1) := by decide +kernel
theorem d_B_clear_42 : decode b_B_clear 42 = .ok (.iinc 1 1, 3) := by decide +kernel
theorem d_B_clear_45 : decode b_B_clear 45 = .ok (.goto (-19), 3) := by decide +kernel
theorem d_B_clear_48 : decode b_B_clear 48 = .ok (.return_, 1) := by decide +kernel
theorem d_V_init_0 : decode b_V_init 0 = .ok (.aload_n 0, 1) := by decide +kernel
theorem d_V_init_1 : decode b_V_init 1 = .ok (.invokespecial 3, 3) := by decide +kernel
theorem d_V_init_4 : decode b_V_init 4 = .ok (.aload_n 0, 1) := by decide +kernel
theorem d_V_init_5 : decode b_V_init 5 = .ok (.sipush 512, 3) := by decide +kernel
theorem d_V_init_8 : decode b_V_init 8 = .ok (.newarray .int, 2) := by decide +kernel
theorem d_V_init_10 : decode b_V_init 10 = .ok (.putfield 11, 3) := by decide +kernel
theorem d_V_init_13 : decode b_V_init 13 = .ok (.aload_n 0, 1) := by decide +kernel
theorem d_V_init_14 : decode b_V_init 14 = .ok (.sipush 512, 3) := by decide +kernel
theorem d_V_init_17 : decode b_V_init 17 = .ok (.newarray .int, 2) := by decide +kernel
theorem d_V_init_19 : decode b_V_init 19 = .ok (.putfield 15, 3) := by decide +kernel
theorem d_V_init_22 : decode b_V_init 22 = .ok (.aload_n 0, 1) := by decide +kernel
theorem d_V_init_23 : decode b_V_init 23 = .ok (.sipush 512, 3) := by decide +kernel
theorem d_V_init_26 : decode b_V_init 26 = .ok (.newarray .int, 2) := by decide +kernel
theorem d_V_init_28 : decode b_V_init 28 = .ok (.putfield 18, 3) := by decide +kernel
theorem d_V_init_31 : decode b_V_init 31 = .ok (.return_, 1) := by decide +kernel
theorem d_V_inMemory_0 : decode b_V_inMemory 0 = .ok (.aload_n 0, 1) := by decide +kernel
theorem d_V_inMemory_1 : decode b_V_inMemory 1 = .ok (.iload_n 1, 1) := by decide +kernel
theorem d_V_inMemory_2 : decode b_V_inMemory 2 = .ok (.invokevirtual 21, 3) := by decide +kernel
theorem d_V_inMemory_5 : decode b_V_inMemory 5 = .ok (.istore_n 2, 1) := by decide +kernel
theorem d_V_inMemory_6 : decode b_V_inMemory 6 = .ok (.iload_n 2, 1) := by decide +kernel
theorem d_V_inMemory_7 : decode b_V_inMemory 7 = .ok (.ifCond .lt 21, 3) := by decide +kernel
theorem d_V_inMemory_10 : decode b_V_inMemory 10 = .ok (.iload_n 2, 1) := by decide +kernel
theorem d_V_inMemory_11 : decode b_V_inMemory 11 = .ok (.aload_n 0, 1) := by decide +kernel
theorem d_V_inMemory_12 : decode b_V_inMemory 12 = .ok (.getfield 18, 3) := by decide +kernel
theorem d_V_inMemory_15 : decode b_V_inMemory 15 = .ok (.arraylength, 1) := by decide +kernel
theorem d_V_inMemory_16 : decode b_V_inMemory 16 = .ok (.if_icmp .ge 12, 3) := by decide +kernel
theorem d_V_inMemory_19 : decode b_V_inMemory 19 = .ok (.aload_n 0, 1) := by decide +kernel
theorem d_V_inMemory_20 : decode b_V_inMemory 20 = .ok (.getfield 18, 3) := by decide +kernel
theorem d_V_inMemory_23 : decode b_V_inMemory 23 = .ok (.iload_n 2, 1) := by decide +kernel
theorem d_V_inMemory_24 : decode b_V_inMemory 24 = .ok (.iaload, 1) := by decide +kernel
theorem d_V_inMemory_25 : decode b_V_inMemory 25 = .ok (.goto 4, 3) := by decide +kernel
theorem d_V_inMemory_28 : decode b_V_inMemory 28 = .ok (.iconst 0, 1) := by decide +kernel
theorem d_V_inMemory_29 : decode b_V_inMemory 29 = .ok (.ireturn, 1) := by decide +kernel
theorem d_V_writeBack_0 : decode b_V_writeBack 0 = .ok (.aload_n 0, 1) := by decide +kernel
theorem d_V_writeBack_1 : decode b_V_writeBack 1 = .ok (.dup, 1) := by decide +kernel
theorem d_V_writeBack_2 : decode b_V_writeBack 2 = .ok (.getfield 25, 3) := by decide +kernel
theorem d_V_writeBack_5 : decode b_V_writeBack 5 = .ok (.iconst 1, 1) := by decide +kernel
theorem d_V_writeBack_6 : decode b_V_writeBack 6 = .ok (.iadd, 1) := by decide +kernel
theorem d_V_writeBack_7 : decode b_V_writeBack 7 = .ok (.putfield 25, 3) := by decide +kernel
theorem d_V_writeBack_10 : decode b_V_writeBack 10 = .ok (.aload_n 0, 1) := by decide +kernel
theorem d_V_writeBack_11 : decode b_V_writeBack 11 = .ok (.iload_n 1, 1) := by decide +kernel
theorem d_V_writeBack_12 : decode b_V_writeBack 12 = .ok (.invokevirtual 21, 3) := by decide +kernel
theorem d_V_writeBack_15 : decode b_V_writeBack 15 = .ok (.istore_n 3, 1) := by decide +kernel
theorem d_V_writeBack_16 : decode b_V_writeBack 16 = .ok (.iload_n 3, 1) := by decide +kernel
theorem d_V_writeBack_17 : decode b_V_writeBack 17 = .ok (.ifCond .lt 19, 3) := by decide +kernel
theorem d_V_writeBack_20 : decode b_V_writeBack 20 = .ok (.iload_n 3, 1) := by decide +kernel
theorem d_V_writeBack_21 : decode b_V_writeBack 21 = .ok (.aload_n 0, 1) := by decide +kernel
theorem d_V_writeBack_22 : decode b_V_writeBack 22 = .ok (.getfield 18, 3) := by decide +kernel
theorem d_V_writeBack_25 : decode b_V_writeBack 25 = .ok (.arraylength, 1) := by decide +kernel
theorem d_V_writeBack_26 : decode b_V_writeBack 26 = .ok (.if_icmp .ge 10, 3) := by decide +kernel
theorem d_V_writeBack_29 : decode b_V_writeBack 29 = .ok (.aload_n 0, 1) := by decide +kernel
theorem d_V_writeBack_30 : decode b_V_writeBack 30 = .ok (.getfield 18, 3) := by decide +kernel
theorem d_V_writeBack_33 : decode b_V_writeBack 33 = .ok (.iload_n 3, 1) := by decide +kernel
theorem d_V_writeBack_34 : decode b_V_writeBack 34 = .ok (.iload_n 2, 1) := by decide +kernel
theorem d_V_writeBack_35 : decode b_V_writeBack 35 = .ok (.iastore, 1) := by decide +kernel
theorem d_V_writeBack_36 : decode b_V_writeBack 36 = .ok (.return_, 1) := by decide +kernel
theorem d_V_makeNext_0 : decode b_V_makeNext 0 = .ok (.aload_n 0, 1) := by decide +kernel
theorem d_V_makeNext_1 : decode b_V_makeNext 1 = .ok (.iload_n 1, 1) := by decide +kernel
theorem d_V_makeNext_2 : decode b_V_makeNext 2 = .ok (.invokevirtual 21, 3) := by decide +kernel
theorem d_V_makeNext_5 : decode b_V_makeNext 5 = .ok (.istore_n 2, 1) := by decide +kernel
theorem d_V_makeNext_6 : decode b_V_makeNext 6 = .ok (.iload_n 2, 1) := by decide +kernel
theorem d_V_makeNext_7 : decode b_V_makeNext 7 = .ok (.iconst (-1), 1) := by decide +kernel
theorem d_V_makeNext_8 : decode b_V_makeNext 8 = .ok (.if_icmp .ne 37, 3) := by decide +kernel
theorem d_V_makeNext_11 : decode b_V_makeNext 11 = .ok (.aload_n 0, 1) := by decide +kernel
theorem d_V_makeNext_12 : decode b_V_makeNext 12 = .ok (.getfield 29, 3) := by decide +kernel
theorem d_V_makeNext_15 : decode b_V_makeNext 15 = .ok (.aload_n 0, 1) := by decide +kernel
theorem d_V_makeNext_16 : decode b_V_makeNext 16 = .ok (.getfield 11, 3) := by decide +kernel
theorem d_V_makeNext_19 : decode b_V_makeNext 19 = .ok (.arraylength, 1) := by decide +kernel
theorem d_V_makeNext_20 : decode b_V_makeNext 20 = .ok (.if_icmp .ge 25, 3) := by decide +kernel
theorem d_V_makeNext_23 : decode b_V_makeNext 23 = .ok (.aload_n 0, 1) := by decide +kernel
theorem d_V_makeNext_24 : decode b_V_makeNext 24 = .ok (.getfield 29, 3) := by decide +kernel
theorem d_V_makeNext_27 : decode b_V_makeNext 27 = .ok (.istore_n 2, 1) := by decide +kernel
theorem d_V_makeNext_28 : decode b_V_makeNext 28 = .ok (.aload_n 0, 1) := by decide +kernel
theorem d_V_makeNext_29 : decode b_V_makeNext 29 = .ok (.getfield 11, 3) := by decide +kernel
theorem d_V_makeNext_32 : decode b_V_makeNext 32 = .ok (.iload_n 2, 1) := by decide +kernel
theorem d_V_makeNext_33 : decode b_V_makeNext 33 = .ok (.iload_n 1, 1) := by decide +kernel
theorem d_V_makeNext_34 : decode b_V_makeNext 34 = .ok (.iastore, 1) := by decide +kernel
theorem d_V_makeNext_35 : decode b_V_makeNext 35 = .ok (.aload_n 0, 1) := by decide +kernel
theorem d_V_makeNext_36 : decode b_V_makeNext 36 = .ok (.dup, 1) := by decide +kernel
theorem d_V_makeNext_37 : decode b_V_makeNext 37 = .ok (.getfield 29, 3) := by decide +kernel
theorem d_V_makeNext_40 : decode b_V_makeNext 40 = .ok (.iconst 1, 1) := by decide +kernel
theorem d_V_makeNext_41 : decode b_V_makeNext 41 = .ok (.iadd, 1) := by decide +kernel
theorem d_V_makeNext_42 : decode b_V_makeNext 42 = .ok (.putfield 29, 3) := by decide +kernel
theorem d_V_makeNext_45 : decode b_V_makeNext 45 = .ok (.iload_n 2, 1) := by decide +kernel
theorem d_V_makeNext_46 : decode b_V_makeNext 46 = .ok (.ifCond .lt 12, 3) := by decide +kernel
theorem d_V_makeNext_49 : decode b_V_makeNext 49 = .ok (.iload_n 2, 1) := by decide +kernel
theorem d_V_makeNext_50 : decode b_V_makeNext 50 = .ok (.aload_n 0, 1) := by decide +kernel
theorem d_V_makeNext_51 : decode b_V_makeNext 51 = .ok (.getfield 15, 3) := by decide +kernel
theorem d_V_makeNext_54 : decode b_V_makeNext 54 = .ok (.arraylength, 1) := by decide +kernel
theorem d_V_makeNext_55 : decode b_V_makeNext 55 = .ok (.if_icmp .lt 5, 3) := by decide +kernel
theorem d_V_makeNext_58 : decode b_V_makeNext 58 = .ok (.iconst 0, 1) := by decide +kernel
theorem d_V_makeNext_59 : decode b_V_makeNext 59 = .ok (.ireturn, 1) := by decide +kernel
theorem d_V_makeNext_60 : decode b_V_makeNext 60 = .ok (.aload_n 0, 1) := by decide +kernel
theorem d_V_makeNext_61 : decode b_V_makeNext 61 = .ok (.getfield 15, 3) := by decide +kernel
theorem d_V_makeNext_64 : decode b_V_makeNext 64 = .ok (.iload_n 2, 1) := by decide +kernel
theorem d_V_makeNext_65 : decode b_V_makeNext 65 = .ok (.dup2, 1) := by decide +kernel
theorem d_V_makeNext_66 : decode b_V_makeNext 66 = .ok (.iaload, 1) := by decide +kernel
theorem d_V_makeNext_67 : decode b_V_makeNext 67 = .ok (.iconst 1, 1) := by decide +kernel
theorem d_V_makeNext_68 : decode b_V_makeNext 68 = .ok (.iadd, 1) := by decide +kernel
theorem d_V_makeNext_69 : decode b_V_makeNext 69 = .ok (.iastore, 1) := by decide +kernel
theorem d_V_makeNext_70 : decode b_V_makeNext 70 = .ok (.aload_n 0, 1) := by decide +kernel
theorem d_V_makeNext_71 : decode b_V_makeNext 71 = .ok (.getfield 15, 3) := by decide +kernel
theorem d_V_makeNext_74 : decode b_V_makeNext 74 = .ok (.iload_n 2, 1) := by decide +kernel
theorem d_V_makeNext_75 : decode b_V_makeNext 75 = .ok (.iaload, 1) := by decide +kernel
theorem d_V_makeNext_76 : decode b_V_makeNext 76 = .ok (.ireturn, 1) := by decide +kernel
theorem d_V_indexOf_0 : decode b_V_indexOf 0 = .ok (.iconst 0, 1) := by decide +kernel
theorem d_V_indexOf_1 : decode b_V_indexOf 1 = .ok (.istore_n 2, 1) := by decide +kernel
theorem d_V_indexOf_2 : decode b_V_indexOf 2 = .ok (.iload_n 2, 1) := by decide +kernel
theorem d_V_indexOf_3 : decode b_V_indexOf 3 = .ok (.aload_n 0, 1) := by decide +kernel
theorem d_V_indexOf_4 : decode b_V_indexOf 4 = .ok (.getfield 29, 3) := by decide +kernel
theorem d_V_indexOf_7 : decode b_V_indexOf 7 = .ok (.if_icmp .ge 30, 3) := by decide +kernel
theorem d_V_indexOf_10 : decode b_V_indexOf 10 = .ok (.iload_n 2, 1) := by decide +kernel
theorem d_V_indexOf_11 : decode b_V_indexOf 11 = .ok (.aload_n 0, 1) := by decide +kernel
theorem d_V_indexOf_12 : decode b_V_indexOf 12 = .ok (.getfield 11, 3) := by decide +kernel
theorem d_V_indexOf_15 : decode b_V_indexOf 15 = .ok (.arraylength, 1) := by decide +kernel
theorem d_V_indexOf_16 : decode b_V_indexOf 16 = .ok (.if_icmp .ge 21, 3) := by decide +kernel
theorem d_V_indexOf_19 : decode b_V_indexOf 19 = .ok (.aload_n 0, 1) := by decide +kernel
theorem d_V_indexOf_20 : decode b_V_indexOf 20 = .ok (.getfield 11, 3) := by decide +kernel
theorem d_V_indexOf_23 : decode b_V_indexOf 23 = .ok (.iload_n 2, 1) := by decide +kernel
theorem d_V_indexOf_24 : decode b_V_indexOf 24 = .ok (.iaload, 1) := by decide +kernel
theorem d_V_indexOf_25 : decode b_V_indexOf 25 = .ok (.iload_n 1, 1) := by decide +kernel
theorem d_V_indexOf_26 : decode b_V_indexOf 26 = .ok (.if_icmp .ne 5, 3) := by decide +kernel
theorem d_V_indexOf_29 : decode b_V_indexOf 29 = .ok (.iload_n 2, 1) := by decide +kernel
theorem d_V_indexOf_30 : decode b_V_indexOf 30 = .ok (.ireturn, 1) := by decide +kernel
theorem d_V_indexOf_31 : decode b_V_indexOf 31 = .ok (.iinc 2 1, 3) := by decide +kernel
theorem d_V_indexOf_34 : decode b_V_indexOf 34 = .ok (.goto (-32), 3) := by decide +kernel
theorem d_V_indexOf_37 : decode b_V_indexOf 37 = .ok (.iconst (-1), 1) := by decide +kernel
theorem d_V_indexOf_38 : decode b_V_indexOf 38 = .ok (.ireturn, 1) := by decide +kernel
theorem d_Math_floorMod_0 : decode b_Math_floorMod 0 = .ok (.iload_n 0, 1) := by decide +kernel
theorem d_Math_floorMod_1 : decode b_Math_floorMod 1 = .ok (.iload_n 1, 1) := by decide +kernel
theorem d_Math_floorMod_2 : decode b_Math_floorMod 2 = .ok (.irem, 1) := by decide +kernel
theorem d_Math_floorMod_3 : decode b_Math_floorMod 3 = .ok (.istore_n 2, 1) := by decide +kernel
theorem d_Math_floorMod_4 : decode b_Math_floorMod 4 = .ok (.iload_n 0, 1) := by decide +kernel
theorem d_Math_floorMod_5 : decode b_Math_floorMod 5 = .ok (.iload_n 1, 1) := by decide +kernel
theorem d_Math_floorMod_6 : decode b_Math_floorMod 6 = .ok (.ixor, 1) := by decide +kernel
theorem d_Math_floorMod_7 : decode b_Math_floorMod 7 = .ok (.ifCond .ge 11, 3) := by decide +kernel
theorem d_Math_floorMod_10 : decode b_Math_floorMod 10 = .ok (.iload_n 2, 1) := by decide +kernel
theorem d_Math_floorMod_11 : decode b_Math_floorMod 11 = .ok (.ifCond .eq 7, 3) := by decide +kernel
theorem d_Math_floorMod_14 : decode b_Math_floorMod 14 = .ok (.iload_n 2, 1) := by decide +kernel
theorem d_Math_floorMod_15 : decode b_Math_floorMod 15 = .ok (.iload_n 1, 1) := by decide +kernel
theorem d_Math_floorMod_16 : decode b_Math_floorMod 16 = .ok (.iadd, 1) := by decide +kernel
theorem d_Math_floorMod_17 : decode b_Math_floorMod 17 = .ok (.ireturn, 1) := by decide +kernel
theorem d_Math_floorMod_18 : decode b_Math_floorMod 18 = .ok (.iload_n 2, 1) := by decide +kernel
theorem d_Math_floorMod_19 : decode b_Math_floorMod 19 = .ok (.ireturn, 1) := by decide +kernel
theorem d_Math_max_0 : decode b_Math_max 0 = .ok (.iload_n 0, 1) := by decide +kernel
theorem d_Math_max_1 : decode b_Math_max 1 = .ok (.iload_n 1, 1) := by decide +kernel
theorem d_Math_max_2 : decode b_Math_max 2 = .ok (.if_icmp .lt 7, 3) := by decide +kernel
theorem d_Math_max_5 : decode b_Math_max 5 = .ok (.iload_n 0, 1) := by decide +kernel
theorem d_Math_max_6 : decode b_Math_max 6 = .ok (.goto 4, 3) := by decide +kernel
theorem d_Math_max_9 : decode b_Math_max 9 = .ok (.iload_n 1, 1) := by decide +kernel
theorem d_Math_max_10 : decode b_Math_max 10 = .ok (.ireturn, 1) := by decide +kernel
end
section
-- rows of this claim's own: a call is one row; what it leaves alone stays
def bnd {α β : Type} (x : α) (f : α → β) : β := f x
theorem bnd_eq {α β : Type} {x r : α} {f : α → β} (h : r = x) : bnd x f = f r := by subst h; rfl
def bnd2 {α β γ : Type} (x : α × β) (f : α → β → γ) : γ := f x.1 x.2
theorem bnd2_eq {α β γ : Type} {x : α × β} {r : α} {u : β} {f : α → β → γ} (h : (r, u) = x) : bnd2 x f = f r u := by subst h; rfl
/-- how far a counter is from its bound -/
def mu (k b : Int32) : Nat := (b.toInt - k.toInt).toNat
theorem i32_succ {k b : Int32} (h : ¬ b ≤ k) : (k + 1).toInt = k.toInt + 1 := by
  have h1 : ¬ b.toInt ≤ k.toInt := fun q => h (Int32.le_iff_toInt_le.mpr q)
  have h2 := Int32.toInt_lt b
  have h3 := Int32.le_toInt k
  have e1 : (1 : Int32).toInt = 1 := by decide
  rw [Jvm.Kit.i32_add (by rw [e1]; omega) (by rw [e1]; omega), e1]
theorem mu_dec {k b : Int32} (h : ¬ b ≤ k) : mu (k + 1) b < mu k b := by
  have h1 : ¬ b.toInt ≤ k.toInt := fun q => h (Int32.le_iff_toInt_le.mpr q)
  unfold mu
  rw [i32_succ h]
  omega
theorem mu_decr {k b r : Int32} (hw : r = b) (h : ¬ r ≤ k) : mu (k + 1) b < mu k b := by
  subst hw
  exact mu_dec h
theorem nle_lt {x y : Int32} (h : x < y) : ¬ y ≤ x := fun q => by
  have a := Int32.lt_iff_toInt_lt.mp h
  have b := Int32.le_iff_toInt_le.mp q
  omega
def dn (k : Int32) : Nat := (k.toInt + 1).toNat
theorem dn_dec {k : Int32} (h : ¬ k < 0) : dn (k + (-1)) < dn k := by
  have h1 : ¬ k.toInt < 0 := fun q => h (Int32.lt_iff_toInt_lt.mpr q)
  have h2 := Int32.toInt_lt k
  have e1 : (-1 : Int32).toInt = -1 := by decide
  unfold dn
  rw [Jvm.Kit.i32_add (by rw [e1]; omega) (by rw [e1]; omega), e1]
  omega
theorem in_ok {x : Int32} {n : Nat} (hn : n < 2 ^ 31) (h0 : ¬ x < 0) (h1 : ¬ nI n ≤ x) : vp_in x n := by
  rw [vp_in_iff]
  have a0 : ¬ x.toInt < 0 := fun q => h0 (Int32.lt_iff_toInt_lt.mpr q)
  have a1 : ¬ (nI n).toInt ≤ x.toInt := fun q => h1 (Int32.le_iff_toInt_le.mpr q)
  rw [nI_toInt hn] at a1
  omega
theorem up_nn {x b : Int32} (h0 : ¬ x < 0) (h1 : ¬ b ≤ x) : ¬ x + 1 < 0 := by
  intro q
  have a0 : ¬ x.toInt < 0 := fun q => h0 (Int32.lt_iff_toInt_lt.mpr q)
  have a1 := Int32.lt_iff_toInt_lt.mp q
  rw [i32_succ h1] at a1
  have e0 : (0 : Int32).toInt = 0 := by decide
  omega
theorem tab_out {x : Int32} (h0 : ¬ x = 0) (h1 : ¬ x = 1) (h2 : ¬ x = 2) (h3 : ¬ x = 3) (h4 : ¬ x = 4) (h5 : ¬ x = 5) (h6 : ¬ x = 6) (h7 : ¬ x = 7) : x.toInt < 0 ∨ 7 < x.toInt := by
  have k : ∀ (j : Int32) (i : Int), j.toInt = i → ¬ x = j → ¬ x.toInt = i := fun j i hj h q => h (Int32.toInt_inj.mp (by rw [hj]; exact q))
  have a0 := k 0 0 (by decide) h0
  have a1 := k 1 1 (by decide) h1
  have a2 := k 2 2 (by decide) h2
  have a3 := k 3 3 (by decide) h3
  have a4 := k 4 4 (by decide) h4
  have a5 := k 5 5 (by decide) h5
  have a6 := k 6 6 (by decide) h6
  have a7 := k 7 7 (by decide) h7
  omega
/-- a method that only reads -/
def PcR (D : va_G) (cl : List vw_C) (tys : List (ClassId × FieldType)) (av : List Value) (wc : va_W) : Array Value → State → Prop := va_Pc av (fun U => va_P D cl wc U.heap ∧ va_K D cl tys U)
/-- a method that writes in its world alone, and makes nothing -/
def PcW (D : va_G) (cl : List vw_C) (tys : List (ClassId × FieldType)) (av : List Value) (wc : va_W) : Array Value → State → Prop := va_Pc av (fun U => va_P D cl wc U.heap ∧ va_K D cl tys U ∧ va_D (fun _ => True) wc)
def Aw (wc : va_W) : Nat → Prop := fun q => ∃ (k : Nat) (x : va_E), wc[k]? = some (q, x)
theorem blindR {D : va_G} {cl : List vw_C} {tys : List (ClassId × FieldType)} {av : List Value} {wc : va_W} : FrameBlind (PcR D cl tys av wc) := fun a U g mk q => ⟨q.1, q.2.1, va_K.moved (u := U) (U := U.calling g mk a) (Vm.Alike.refl U.vm) q.2.2⟩
theorem blindW {D : va_G} {cl : List vw_C} {tys : List (ClassId × FieldType)} {av : List Value} {wc : va_W} : FrameBlind (PcW D cl tys av wc) := fun a U g mk q => ⟨q.1, q.2.1, va_K.moved (u := U) (U := U.calling g mk a) (Vm.Alike.refl U.vm) q.2.2.1, q.2.2.2⟩
theorem Aw_sub {A : Nat → Prop} {Wd wc : va_W} (hD : va_D A Wd) (isC : List Nat) (hC : isC.filterMap (fun i => Wd[i]?) = wc) : ∀ q, Aw wc q → A q := by
  rintro q ⟨k, x, h⟩
  subst hC
  obtain ⟨i, -, hi⟩ := List.mem_filterMap.mp (List.mem_of_getElem? h)
  exact hD.2 i _ hi
theorem pjoin {A : Nat → Prop} {D : va_G} {cl : List vw_C} {Wd wc wr : va_W} {H H1 : Heap} (hP : va_P D cl Wd H) (hD : va_D A Wd) (isC isR : List Nat) (hC : isC.filterMap (fun i => Wd[i]?) = wc) (hR : isR.filterMap (fun i => Wd[i]?) = wr) (hdis : ∀ i ∈ isR, i ∉ isC) (hk : ∀ q : Nat, q < H.size → ¬ Aw wc q → H1[q]? = H[q]?) : va_P D cl wr H1 := by
  intro k q hq
  subst hR
  obtain ⟨i, hi, hq2⟩ := List.mem_filterMap.mp (List.mem_of_getElem? hq)
  refine (hP i q hq2).kept (hk q.1 (hP i q hq2).lt ?_)
  rintro ⟨k2, x, h2⟩
  subst hC
  obtain ⟨j, hj, hj2⟩ := List.mem_filterMap.mp (List.mem_of_getElem? h2)
  have hij := hD.1 i j q (q.1, x) hq2 hj2 rfl
  subst hij
  exact hdis i hi hj
theorem va_D_addr {A : Nat → Prop} {ws ws' : va_W} (h : va_D A ws) (he : ws'.map Prod.fst = ws.map Prod.fst) : va_D A ws' := by
  have key : ∀ (k : Nat) (q : Nat × va_E), ws'[k]? = some q → ∃ q' : Nat × va_E, ws[k]? = some q' ∧ q'.1 = q.1 := by
    intro k q hk
    have h1 : (ws'.map Prod.fst)[k]? = some q.1 := by rw [List.getElem?_map, hk]; rfl
    rw [he, List.getElem?_map] at h1
    cases hw : ws[k]? with
    | none => rw [hw] at h1; cases h1
    | some q' => rw [hw] at h1; exact ⟨q', rfl, Option.some.inj h1⟩
  refine ⟨fun i j p q hp hq e => ?_, fun k q hk => ?_⟩
  · obtain ⟨p', a1, a2⟩ := key i p hp
    obtain ⟨q', b1, b2⟩ := key j q hq
    exact h.1 i j p' q' a1 b1 (by rw [a2, b2, e])
  · obtain ⟨q', a1, a2⟩ := key k q hk
    rw [← a2]
    exact h.2 k q' a1
section MyRows
variable {p : Program} {l : Launch} {e : Env} {R : Room} {s : State} {m : MethodId} {args : Array Value} {below : List Frame} {meth : Method} {c : Code} {H : Heap} {locs : List Loc} {cells slots : Nat} {Q : State → Prop}
variable {cc bytes : ByteArray} {pc nL maxL n index : Nat} {ls : Array Slot} {rest As st0 : List Value} {D : va_G} {cl : List vw_C} {tys : List (ClassId × FieldType)} {A : Nat → Prop} {H0 : Heap} {Wd wc wr : va_W} {Ts wsy : List Cond} {own C : String} {y : MethodName} {ret : Option FieldType} {rm : Room} {b : Nat}
theorem cpi {post : Int32 → Prop} (SF : CallFix p m c cc nL s args Ts own) (hM : Met l y wsy rm (PcR D cl tys (.ref b :: As) wc) (vp_Si post) 0 0 (fun _ => False)) (cw : CallW R s args own C index y bytes maxL ret wsy rm 0 0 n) (hK : va_K D cl tys s) (hP : va_P D cl Wd H) (is : List Nat) (hs : is.filterMap (fun i => Wd[i]?) = wc) {ci : Nat} {fs : List Value} {T : u_T} {N : Nat} (hrec : wc[0]? = some (b, .inr (ci, fs))) (hc : cl[ci]? = some (C, T, N)) (hn : As.length = n) (hsz : ls.size = nL) (hst : st0 = As.reverse ++ .ref b :: rest) (hrm : (rest.map fun v => v.category).sum ≤ 8) (hdg : decode cc pc = .ok (.invokevirtual index, 3)) (hf : cells ≤ R.cells ∧ slots ≤ R.slots)
    (kk : ∀ r : Int32, post r → W p l e R s m args below meth c H locs cells slots Q (F0 m (pc + 3) ls (.int r :: rest))) : W p l e R s m args below meth c H locs cells slots Q (F0 m pc ls st0) := by
  have hPc := hP.sub is hs
  exact vp_callSi (W.runV (As := As) (rest := rest) SF hM cw ⟨blindR, va_recv hK hPc hc hrec, fun U hU hW => ⟨rfl, by rw [hU]; exact hPc, va_K.moved hW.alike hK⟩⟩ rfl hn hsz hst (lv_room hrm) hdg hf) kk
theorem cpv {post : Unit → Prop} (SF : CallFix p m c cc nL s args Ts own) (hM : Met l y wsy rm (PcR D cl tys (.ref b :: As) wc) (va_Sv post) 0 0 (fun _ => False)) (cw : CallW R s args own C index y bytes maxL ret wsy rm 0 0 n) (hK : va_K D cl tys s) (hP : va_P D cl Wd H) (is : List Nat) (hs : is.filterMap (fun i => Wd[i]?) = wc) {ci : Nat} {fs : List Value} {T : u_T} {N : Nat} (hrec : wc[0]? = some (b, .inr (ci, fs))) (hc : cl[ci]? = some (C, T, N)) (hn : As.length = n) (hsz : ls.size = nL) (hst : st0 = As.reverse ++ .ref b :: rest) (hrm : (rest.map fun v => v.category).sum ≤ 8) (hdg : decode cc pc = .ok (.invokevirtual index, 3)) (hf : cells ≤ R.cells ∧ slots ≤ R.slots)
    (kk : W p l e R s m args below meth c H locs cells slots Q (F0 m (pc + 3) ls rest)) : W p l e R s m args below meth c H locs cells slots Q (F0 m pc ls st0) := by
  have hPc := hP.sub is hs
  exact va_csv (W.runV (As := As) (rest := rest) SF hM cw ⟨blindR, va_recv hK hPc hc hrec, fun U hU hW => ⟨rfl, by rw [hU]; exact hPc, va_K.moved hW.alike hK⟩⟩ rfl hn hsz hst (lv_room hrm) hdg hf) (fun _ => kk)
/-- a read that answers a cell that is there -/
theorem cpr {a2 : Nat} (SF : CallFix p m c cc nL s args Ts own) (hM : Met l y wsy rm (PcR D cl tys (.ref b :: As) wc) (va_Sr (fun _ => True) (fun _ => .ref a2)) 0 0 (fun _ => False)) (cw : CallW R s args own C index y bytes maxL ret wsy rm 0 0 n) (hK : va_K D cl tys s) (hP : va_P D cl Wd H) (is : List Nat) (hs : is.filterMap (fun i => Wd[i]?) = wc) {ci : Nat} {fs : List Value} {T : u_T} {N : Nat} (hrec : wc[0]? = some (b, .inr (ci, fs))) (hc : cl[ci]? = some (C, T, N)) (hn : As.length = n) (hsz : ls.size = nL) (hst : st0 = As.reverse ++ .ref b :: rest) (hrm : (rest.map fun v => v.category).sum ≤ 8) (hdg : decode cc pc = .ok (.invokevirtual index, 3)) (hf : cells ≤ R.cells ∧ slots ≤ R.slots)
    (kk : W p l e R s m args below meth c H locs cells slots Q (F0 m (pc + 3) ls (.ref a2 :: rest))) : W p l e R s m args below meth c H locs cells slots Q (F0 m pc ls st0) := by
  have hPc := hP.sub is hs
  exact va_csr (W.runV (As := As) (rest := rest) SF hM cw ⟨blindR, va_recv hK hPc hc hrec, fun U hU hW => ⟨rfl, by rw [hU]; exact hPc, va_K.moved hW.alike hK⟩⟩ rfl hn hsz hst (lv_room hrm) hdg hf) (fun _ _ => kk)
theorem cps {post : Int32 → Prop} (SF : CallFix p m c cc nL s args Ts own) (hM : Met l y wsy rm (va_Pc As (fun _ => True)) (vp_Si post) 0 0 (fun _ => False)) (cw : CallB R s args own index y bytes maxL ret wsy rm 0 0 n ∧ (Cond.static y).before args s = true) (hn : As.length = n) (hsz : ls.size = nL) (hst : st0 = As.reverse ++ rest) (hrm : (rest.map fun v => v.category).sum ≤ 8) (hdg : decode cc pc = .ok (.invokestatic index, 3)) (hf : cells ≤ R.cells ∧ slots ≤ R.slots)
    (kk : ∀ r : Int32, post r → W p l e R s m args below meth c H locs cells slots Q (F0 m (pc + 3) ls (.int r :: rest))) : W p l e R s m args below meth c H locs cells slots Q (F0 m pc ls st0) :=
  vp_callSi (W.runS (As := As) (rest := rest) SF hM cw ⟨fun _ _ _ _ q => q, fun U hU hW => ⟨rfl, trivial⟩⟩ rfl hn hsz hst (lv_room hrm) hdg hf) kk
theorem cwi {S : Type} {post : Int32 → S → Prop} {wld wldC : S → va_W} (SF : CallFix p m c cc nL s args Ts own) (hM : Met l y wsy rm (PcW D cl tys (.ref b :: As) wc) (va_Qi post (fun (u : S) (t : State) => va_P D cl (wld u) t.heap) (Aw wc)) 0 0 (Aw wc)) (cw : CallW R s args own C index y bytes maxL ret wsy rm 0 0 n) (hK : va_K D cl tys s) (hP : va_P D cl Wd H) (hD : va_D A Wd) (hS : va_S A H0 H locs) (isC isR perm : List Nat) (hC : isC.filterMap (fun i => Wd[i]?) = wc) (hC2 : isC.map (fun i => Wd[i]?) = wc.map some) (hnd : va_nd isC = true) (hdis : ∀ i ∈ isR, i ∉ isC) (hR : isR.filterMap (fun i => Wd[i]?) = wr) (hperm : ∀ u, perm.filterMap (fun i => (wr ++ wld u)[i]?) = wldC u) (hadr : ∀ u, (wldC u).map Prod.fst = Wd.map Prod.fst) {ci : Nat} {fs : List Value} {T : u_T} {N : Nat} (hrec : wc[0]? = some (b, .inr (ci, fs))) (hc : cl[ci]? = some (C, T, N)) (hn : As.length = n) (hsz : ls.size = nL) (hst : st0 = As.reverse ++ .ref b :: rest) (hrm : (rest.map fun v => v.category).sum ≤ 8) (hdg : decode cc pc = .ok (.invokevirtual index, 3)) (hf : cells ≤ R.cells ∧ slots ≤ R.slots)
    (kk : ∀ (r : Int32) (u : S) (H : Heap) (locs : List Loc), post r u → va_P D cl (wldC u) H → va_D A (wldC u) → va_S A H0 H locs → W p l e R s m args below meth c H locs cells slots Q (F0 m (pc + 3) ls (.int r :: rest))) : W p l e R s m args below meth c H locs cells slots Q (F0 m pc ls st0) := by
  have hPc := hP.sub isC hC
  have hDc := (hD.sub isC hnd hC2).weaken (B := fun _ => True) (fun _ _ _ _ => trivial)
  refine va_calli (va_runV (As := As) (rest := rest) SF hM cw ⟨blindW, va_recv hK hPc hc hrec, fun U hU hW => ⟨rfl, by rw [hU]; exact hPc, va_K.moved hW.alike hK, hDc⟩⟩ rfl hn hsz hst (lv_room hrm) hdg hf) hS (fun q _ h => Aw_sub hD isC hC q h) (Aw_sub hD isC hC) (fun r u t H1 locs1 ht _ hw hB _ hk1 hS1 => ?_)
  rw [ht] at hB
  exact kk r u H1 locs1 hw (((pjoin hP hD isC isR hC hR hdis hk1).app hB).sub perm (hperm u)) (va_D_addr hD (hadr u)) hS1
theorem cwv_ {S : Type} {post : S → Prop} {wld wldC : S → va_W} (SF : CallFix p m c cc nL s args Ts own) (hM : Met l y wsy rm (PcW D cl tys (.ref b :: As) wc) (va_Qv post (fun (u : S) (t : State) => va_P D cl (wld u) t.heap) (Aw wc)) 0 0 (Aw wc)) (cw : CallW R s args own C index y bytes maxL ret wsy rm 0 0 n) (hK : va_K D cl tys s) (hP : va_P D cl Wd H) (hD : va_D A Wd) (hS : va_S A H0 H locs) (isC isR perm : List Nat) (hC : isC.filterMap (fun i => Wd[i]?) = wc) (hC2 : isC.map (fun i => Wd[i]?) = wc.map some) (hnd : va_nd isC = true) (hdis : ∀ i ∈ isR, i ∉ isC) (hR : isR.filterMap (fun i => Wd[i]?) = wr) (hperm : ∀ u, perm.filterMap (fun i => (wr ++ wld u)[i]?) = wldC u) (hadr : ∀ u, (wldC u).map Prod.fst = Wd.map Prod.fst) {ci : Nat} {fs : List Value} {T : u_T} {N : Nat} (hrec : wc[0]? = some (b, .inr (ci, fs))) (hc : cl[ci]? = some (C, T, N)) (hn : As.length = n) (hsz : ls.size = nL) (hst : st0 = As.reverse ++ .ref b :: rest) (hrm : (rest.map fun v => v.category).sum ≤ 8) (hdg : decode cc pc = .ok (.invokevirtual index, 3)) (hf : cells ≤ R.cells ∧ slots ≤ R.slots)
    (kk : ∀ (u : S) (H : Heap) (locs : List Loc), post u → va_P D cl (wldC u) H → va_D A (wldC u) → va_S A H0 H locs → W p l e R s m args below meth c H locs cells slots Q (F0 m (pc + 3) ls rest)) : W p l e R s m args below meth c H locs cells slots Q (F0 m pc ls st0) := by
  have hPc := hP.sub isC hC
  have hDc := (hD.sub isC hnd hC2).weaken (B := fun _ => True) (fun _ _ _ _ => trivial)
  refine va_callv (va_runV (As := As) (rest := rest) SF hM cw ⟨blindW, va_recv hK hPc hc hrec, fun U hU hW => ⟨rfl, by rw [hU]; exact hPc, va_K.moved hW.alike hK, hDc⟩⟩ rfl hn hsz hst (lv_room hrm) hdg hf) hS (fun q _ h => Aw_sub hD isC hC q h) (Aw_sub hD isC hC) (fun u t H1 locs1 ht _ hw hB _ hk1 hS1 => ?_)
  rw [ht] at hB
  exact kk u H1 locs1 hw (((pjoin hP hD isC isR hC hR hdis hk1).app hB).sub perm (hperm u)) (va_D_addr hD (hadr u)) hS1
/-- a callee's words are the tables' -/
theorem good_TB {w0 : Cond} {wsx : List Cond} (h : ∀ w ∈ wsx, w ∈ tbW) : GoodIn (w0 :: tbW) wsx := fun w hw => ⟨List.mem_cons_of_mem _ (h w hw), good_of_word (tbW_good w (h w hw))⟩
theorem good_TBs {wsx : List Cond} (h : ∀ w ∈ wsx, w ∈ tbW) : GoodIn tbW wsx := fun w hw => ⟨h w hw, good_of_word (tbW_good w (h w hw))⟩
theorem cwv (hts : ∀ w ∈ tbW, w.before args s = true) (hcode : Cond.code y bytes maxL ret ∈ tbW) (hlink : Cond.methodLink own index y ∈ tbW) (hinst : Cond.instanceMethod y ∈ tbW) (hsel : Cond.selects C y y ∈ tbW) (hini : Cond.initialized C ∈ tbW) (hd : y.cls = C ∧ y.cls ≠ "java/lang/invoke/MethodHandle" ∧ y.cls ≠ "java/lang/invoke/VarHandle" ∧ (parseMethodDescriptor y.desc).map (fun d => d.parameters.length) = some n) {fr lo : Nat} (hR : fr + 1 ≤ R.frames ∧ 8 + (maxL + 11) + lo ≤ R.locals) : CallW R s args own C index y bytes maxL ret (.code y bytes maxL ret :: tbW) { frames := fr, cells := 0, slots := 0, locals := lo } 0 0 n := by
  refine cwV n hts (good_TBs fun w hw => ?_) rfl rfl rfl hd hR
  simp only [wsV, List.cons_append, List.nil_append, List.mem_cons] at hw
  rcases hw with rfl | rfl | rfl | rfl | rfl | hw
  · exact hlink
  · exact hinst
  · exact hsel
  · exact hini
  · exact hcode
  · exact hw
theorem cws (hts : ∀ w ∈ tbW, w.before args s = true) (hcode : Cond.code y bytes maxL ret ∈ tbW) (hlink : Cond.methodLink own index y ∈ tbW) (hstat : Cond.static y ∈ tbW) (hini : Cond.initialized y.cls ∈ tbW) (hd : y.cls ≠ "java/lang/invoke/MethodHandle" ∧ y.cls ≠ "java/lang/invoke/VarHandle" ∧ (parseMethodDescriptor y.desc).map (fun d => d.parameters.length) = some n) {fr lo : Nat} (hR : fr + 1 ≤ R.frames ∧ 8 + (maxL + 11) + lo ≤ R.locals) : CallB R s args own index y bytes maxL ret (.code y bytes maxL ret :: tbW) { frames := fr, cells := 0, slots := 0, locals := lo } 0 0 n ∧ (Cond.static y).before args s = true := by
  refine ⟨callB_of n hts (good_TBs fun w hw => ?_) rfl rfl rfl (hts _ hini) (hts _ hlink) hd hR, hts _ hstat⟩
  rcases List.mem_cons.mp hw with rfl | hw
  · exact hcode
  · exact hw
end MyRows
end
section
def R_Math : String := "java/lang/Math"
-- what a state of the class is: numbers and functions; its cells
abbrev Fn : Type := Nat → Int32
abbrev Bk : Type := Fn × Fn × Fn × Fn × Fn
abbrev Vs : Type := Int32 × Fin 513 × Fn × Fn × Fn
abbrev Cs : Type := (Int32 × Int32 × Int32) × Bk × Bk × Vs × Fn × Fn
abbrev GB : Type := (Nat × Nat × Nat × Nat × Nat × Nat) × (Int32 × Int32) × (Nat × Nat)
abbrev GV : Type := (Nat × Nat × Nat × Nat) × (Nat × Nat × Nat)
abbrev GC : Type := (Nat × Nat × Nat) × (Int32 × Int32) × (Nat × Nat) × GB × GB × GV
def okB (g : GB) : Prop := g.2.2.1 < 2 ^ 31 ∧ g.2.2.2 < 2 ^ 31 ∧ ¬ g.2.1.1 = 0 ∧ ¬ g.2.1.2 = 0
def okV (g : GV) : Prop := g.2.1 < 2 ^ 31 ∧ g.2.2.1 < 2 ^ 31 ∧ g.2.2.2 < 2 ^ 31 ∧ g.2.1 ≤ 512
def okC (g : GC) : Prop := (g.2.2.1.1 < 2 ^ 31 ∧ g.2.2.1.2 < 2 ^ 31 ∧ nI g.2.2.1.1 = g.2.1.1 ∧ g.2.2.1.1 ≤ 4 ∧ g.2.2.1.2 = g.2.2.1.1 * 7) ∧ okB g.2.2.2.1 ∧ okB g.2.2.2.2.1 ∧ okV g.2.2.2.2.2
abbrev tyK (cI cZ : ClassId) : List (ClassId × FieldType) := [(cI, .int), (cZ, .boolean)]
def wB (cI cZ : ClassId) (g : GB) (x : Bk) : va_W := [(g.1.1, .inr (0, [.int g.2.1.1, .int g.2.1.2, .ref g.1.2.1, .ref g.1.2.2.1, .ref g.1.2.2.2.1, .ref g.1.2.2.2.2.1, .ref g.1.2.2.2.2.2])), (g.1.2.1, .inl (cI, g.2.2.1, .inl x.1)), (g.1.2.2.1, .inl (cI, g.2.2.2, .inl x.2.1)), (g.1.2.2.2.1, .inl (cI, g.2.2.2, .inl x.2.2.1)), (g.1.2.2.2.2.1, .inl (cI, g.2.2.2, .inl x.2.2.2.1)), (g.1.2.2.2.2.2, .inl (cZ, g.2.2.2, .inl x.2.2.2.2))]
def wV (cI cZ : ClassId) (g : GV) (x : Vs) : va_W := [(g.1.1, .inr (1, [.int x.1, .int (nI x.2.1.val), .ref g.1.2.1, .ref g.1.2.2.1, .ref g.1.2.2.2])), (g.1.2.1, .inl (cI, g.2.1, .inl x.2.2.1)), (g.1.2.2.1, .inl (cI, g.2.2.1, .inl x.2.2.2.1)), (g.1.2.2.2, .inl (cI, g.2.2.2, .inl x.2.2.2.2))]
def wC (cI cZ : ClassId) (g : GC) (x : Cs) : va_W := (g.1.1, .inr (2, [.int g.2.1.1, .int g.2.1.2, .ref g.2.2.2.1.1.1, .ref g.2.2.2.2.1.1.1, .ref g.2.2.2.2.2.1.1, .ref g.1.2.1, .ref g.1.2.2, .int x.1.1, .int x.1.2.1, .int x.1.2.2])) :: (wB cI cZ g.2.2.2.1 x.2.1 ++ wB cI cZ g.2.2.2.2.1 x.2.2.1 ++ wV cI cZ g.2.2.2.2.2 x.2.2.2.1 ++ [(g.1.2.1, .inl (cI, g.2.2.1.1, .inl x.2.2.2.2.1)), (g.1.2.2, .inl (cI, g.2.2.1.2, .inl x.2.2.2.2.2))])
def fsucc (k : Fin 513) : Fin 513 := if h : k.val < 512 then ⟨k.val + 1, by omega⟩ else k
theorem fsucc_nI {k : Fin 513} (h : k.val < 512) : nI k.val + 1 = nI (fsucc k).val := by
  unfold fsucc
  rw [dif_pos h]
  exact nI_1 k.val
theorem fin_nn (k : Fin 513) : ¬ nI k.val < 0 := nI_pos (by have h := k.isLt; omega)
theorem fin_lt {n : Nat} {k : Fin 513} (hn : n ≤ 512) (h : ¬ nI n ≤ nI k.val) : k.val < 512 := by
  rcases Nat.lt_or_ge k.val 512 with q | q
  · exact q
  · exact absurd (nI_le (a := n) (b := k.val) (by omega) (by have h9 := k.isLt; omega)) h
theorem core_in {g : GC} {q : Int32} (h : g.2.2.1.1 < 2 ^ 31 ∧ g.2.2.1.2 < 2 ^ 31 ∧ nI g.2.2.1.1 = g.2.1.1 ∧ g.2.2.1.1 ≤ 4 ∧ g.2.2.1.2 = g.2.2.1.1 * 7) (h0 : ¬ q < 0) (h1 : q < g.2.1.1) : vp_in q g.2.2.1.1 := in_ok h.1 h0 (by rw [h.2.2.1]; exact nle_lt h1)
theorem tally_in {g : GC} {q w : Int32} (h : g.2.2.1.1 < 2 ^ 31 ∧ g.2.2.1.2 < 2 ^ 31 ∧ nI g.2.2.1.1 = g.2.1.1 ∧ g.2.2.1.1 ≤ 4 ∧ g.2.2.1.2 = g.2.2.1.1 * 7) (h0 : ¬ q < 0) (h1 : q < g.2.1.1) (w0 : ¬ w < 0) (w1 : w ≤ 7) (w2 : ¬ w = 7) : vp_in ((q * 7) + w) g.2.2.1.2 := by
  obtain ⟨a, ha, rfl⟩ := vp_in_of (core_in h h0 h1) h.1
  obtain ⟨b, hb, rfl⟩ := nI_of w0
  have e7 : (7 : Int32) = nI 7 := by decide
  rw [e7] at w1 w2 ⊢
  have hb7 : b ≤ 7 := (nI_leI hb (by decide)).mp w1
  have hb6 : b ≠ 7 := fun q => w2 (by rw [q])
  rw [pk_mul, nI_add]
  exact vp_in_nI (by have := h.2.2.2.2; have := h.2.2.2.1; omega) h.2.1
end
section
def M_Math_floorMod (p0 p1 : Int32) : Int32 := (if 0 ≤ (p0 ^^^ p1) then (p0 - p0 / p1 * p1) else (if (p0 - p0 / p1 * p1) = 0 then (p0 - p0 / p1 * p1) else ((p0 - p0 / p1 * p1) + p1)))
theorem M_Math_floorMod_eq (p0 p1 : Int32) : M_Math_floorMod p0 p1 = (if 0 ≤ (p0 ^^^ p1) then (p0 - p0 / p1 * p1) else (if (p0 - p0 / p1 * p1) = 0 then (p0 - p0 / p1 * p1) else ((p0 - p0 / p1 * p1) + p1))) := rfl
abbrev w_Math_floorMod : List Cond := .code y_Math_floorMod b_Math_floorMod 3 (some .int) :: tbW
abbrev rm_Math_floorMod : Room := { frames := 0, cells := 0, slots := 0, locals := 0 }
set_option maxHeartbeats 4000000 in
set_option maxRecDepth 100000 in
theorem c_Math_floorMod (l : Launch) (p0 p1 : Int32) (hne : ¬ p1 = 0) : Met l y_Math_floorMod w_Math_floorMod rm_Math_floorMod (va_Pc [.int p0, .int p1] (fun _ => True)) (vp_Si (fun r => r = M_Math_floorMod p0 p1)) 0 0 (fun _ => False) := by
  refine va_MetF (cc := b_Math_floorMod) (maxL := 3) (ret := (some .int)) (by decide +kernel) rfl ?_
  intro p e s m args below meth c s₁ B hml hv
  obtain ⟨rfl, -⟩ := hv
  have hx := B.exec
  have hb := B.bytes
  have hr := B.returns
  have htb : ∀ w ∈ tbW, w.before _ s = true := fun w h => atoms_spec (ws := w_Math_floorMod) B.pre w (List.mem_cons_of_mem _ h)
  have hown : s.vm.findClass R_Math = some m.cls := findClass_of_methodNamed B.named
  have hlocks := B.notSynchronized
  have hl := lv_entry ([.int p0, .int p1]) (n := 3) (Nat.le_of_ble_eq_true rfl)
  rw [lg_entry_eq]
  generalize (lg_sl ([.int p0, .int p1]) ++ List.replicate (3 - (lg_sl ([.int p0, .int p1])).length) Slot.unset).toArray = ls at hl ⊢
  have hl : lv_has ls 3 [(0, .int p0), (1, .int p1)] := hl
  have hF := M_Math_floorMod_eq p0 p1
  refine lv_iload_n hx hb d_Math_floorMod_0 rfl (lv_at hl 0 rfl) ?_
  refine lv_iload_n hx hb d_Math_floorMod_1 rfl (lv_at hl 1 rfl) ?_
  refine lv_irem hx hb d_Math_floorMod_2 hne ?_
  refine lv_istore_n (lv' := [(2, .int (p0 - p0 / p1 * p1)), (0, .int p0), (1, .int p1)]) hx hb d_Math_floorMod_3 rfl hl (by decide) rfl (fun ls hl => ?_)
  refine lv_iload_n hx hb d_Math_floorMod_4 rfl (lv_at hl 1 rfl) ?_
  refine lv_iload_n hx hb d_Math_floorMod_5 rfl (lv_at hl 2 rfl) ?_
  refine lv_ixor hx hb d_Math_floorMod_6 ?_
  refine lv_if_ge (tgt := 18) hx hb d_Math_floorMod_7 (by decide) (fun c_7 => ?_) (fun c_7 => ?_)
  · have hF := hF.trans (if_pos c_7)
    refine lv_iload_n hx hb d_Math_floorMod_18 rfl (lv_at hl 0 rfl) ?_
    exact W.iret (v := (p0 - p0 / p1 * p1)) hx hb hr (fun t ht hW => ⟨_, rfl, hF.symm, ht⟩) (fun q h => by cases h) d_Math_floorMod_19
  · have hF := hF.trans (if_neg c_7)
    refine lv_iload_n hx hb d_Math_floorMod_10 rfl (lv_at hl 0 rfl) ?_
    refine lv_if_eq (tgt := 18) hx hb d_Math_floorMod_11 (by decide) (fun c_11 => ?_) (fun c_11 => ?_)
    · have hF := hF.trans (if_pos c_11)
      refine lv_iload_n hx hb d_Math_floorMod_18 rfl (lv_at hl 0 rfl) ?_
      exact W.iret (v := (p0 - p0 / p1 * p1)) hx hb hr (fun t ht hW => ⟨_, rfl, hF.symm, ht⟩) (fun q h => by cases h) d_Math_floorMod_19
    · have hF := hF.trans (if_neg c_11)
      refine lv_iload_n hx hb d_Math_floorMod_14 rfl (lv_at hl 0 rfl) ?_
      refine lv_iload_n hx hb d_Math_floorMod_15 rfl (lv_at hl 2 rfl) ?_
      refine lv_iadd hx hb d_Math_floorMod_16 ?_
      exact W.iret (v := ((p0 - p0 / p1 * p1) + p1)) hx hb hr (fun t ht hW => ⟨_, rfl, hF.symm, ht⟩) (fun q h => by cases h) d_Math_floorMod_17
end
section
def M_B_slots (g : GB) (x : Bk) : Int32 := (nI g.2.2.2)
theorem M_B_slots_eq (g : GB) (x : Bk) : M_B_slots g x = (nI g.2.2.2) := rfl
abbrev w_B_slots : List Cond := .code y_B_slots b_B_slots 1 (some .int) :: tbW
abbrev rm_B_slots : Room := { frames := 0, cells := 0, slots := 0, locals := 0 }
set_option maxHeartbeats 4000000 in
set_option maxRecDepth 100000 in
theorem c_B_slots (l : Launch) (D : va_G) (cI cZ : ClassId) (g : GB) (hg : okB g) (x : Bk) : Met l y_B_slots w_B_slots rm_B_slots (PcR D vwCl (tyK cI cZ) [.ref g.1.1] (wB cI cZ g x)) (vp_Si (fun r => r = M_B_slots g x)) 0 0 (fun _ => False) := by
  refine Met.ofW (cc := b_B_slots) (maxL := 1) (ret := (some .int)) (by decide) rfl ?_
  intro p e s m args below meth c s₁ B hml hv
  obtain ⟨rfl, hP, hK⟩ := hv
  have hx := B.exec
  have hb := B.bytes
  have hr := B.returns
  have htb : ∀ w ∈ tbW, w.before _ s = true := fun w h => atoms_spec (ws := w_B_slots) B.pre w (List.mem_cons_of_mem _ h)
  have hown : s.vm.findClass R_B = some m.cls := findClass_of_methodNamed B.named
  have hlocks := B.notSynchronized
  have hl := lv_entry ([.ref g.1.1]) (n := 1) (Nat.le_of_ble_eq_true rfl)
  rw [lg_entry_eq]
  generalize (lg_sl ([.ref g.1.1]) ++ List.replicate (1 - (lg_sl ([.ref g.1.1])).length) Slot.unset).toArray = ls at hl ⊢
  have hl : lv_has ls 1 [(0, .ref g.1.1)] := hl
  have hF := M_B_slots_eq g x
  refine lv_aload_n hx hb d_B_slots_0 rfl (lv_at hl 0 rfl) ?_
  refine va_get (D := D) (ci := 0) (v := .ref g.1.2.2.1) (C := R_B) (T := T_B) (N := 7) hx hb htb i_B hown hK hP 0 rfl rfl 3 (by decide) (htb _ k_B_28) (fun _ h9 => h9) rfl d_B_slots_1 ?_
  refine va_alen hx hb hK hP 2 0 rfl rfl (v := nI g.2.2.2) rfl d_B_slots_4 ?_
  exact W.iret (v := (nI g.2.2.2)) hx hb hr (fun t ht hW => ⟨_, rfl, hF.symm, ht⟩) (fun q h => by cases h) d_B_slots_5

def M_B_placeOf (g : GB) (x : Bk) (p0 p1 : Int32) : Int32 := (bnd (M_Math_floorMod p1 g.2.1.1) (fun r_11 => ((p0 * g.2.1.1) + r_11)))
theorem M_B_placeOf_eq (g : GB) (x : Bk) (p0 p1 : Int32) : M_B_placeOf g x p0 p1 = (bnd (M_Math_floorMod p1 g.2.1.1) (fun r_11 => ((p0 * g.2.1.1) + r_11))) := rfl
abbrev w_B_placeOf : List Cond := .code y_B_placeOf b_B_placeOf 3 (some .int) :: tbW
abbrev rm_B_placeOf : Room := { frames := 1, cells := 0, slots := 0, locals := 22 }
set_option maxHeartbeats 4000000 in
set_option maxRecDepth 100000 in
theorem c_B_placeOf (l : Launch) (D : va_G) (cI cZ : ClassId) (g : GB) (hg : okB g) (x : Bk) (p0 p1 : Int32) : Met l y_B_placeOf w_B_placeOf rm_B_placeOf (PcR D vwCl (tyK cI cZ) [.ref g.1.1, .int p0, .int p1] (wB cI cZ g x)) (vp_Si (fun r => r = M_B_placeOf g x p0 p1)) 0 0 (fun _ => False) := by
  refine Met.ofW (cc := b_B_placeOf) (maxL := 3) (ret := (some .int)) (by decide) rfl ?_
  intro p e s m args below meth c s₁ B hml hv
  obtain ⟨rfl, hP, hK⟩ := hv
  have hx := B.exec
  have hb := B.bytes
  have hr := B.returns
  have htb : ∀ w ∈ tbW, w.before _ s = true := fun w h => atoms_spec (ws := w_B_placeOf) B.pre w (List.mem_cons_of_mem _ h)
  have hown : s.vm.findClass R_B = some m.cls := findClass_of_methodNamed B.named
  have hlocks := B.notSynchronized
  have hl := lv_entry ([.ref g.1.1, .int p0, .int p1]) (n := 3) (Nat.le_of_ble_eq_true rfl)
  rw [lg_entry_eq]
  generalize (lg_sl ([.ref g.1.1, .int p0, .int p1]) ++ List.replicate (3 - (lg_sl ([.ref g.1.1, .int p0, .int p1])).length) Slot.unset).toArray = ls at hl ⊢
  have hl : lv_has ls 3 [(0, .ref g.1.1), (1, .int p0), (2, .int p1)] := hl
  have hF := M_B_placeOf_eq g x p0 p1
  refine lv_iload_n hx hb d_B_placeOf_0 rfl (lv_at hl 1 rfl) ?_
  refine lv_aload_n hx hb d_B_placeOf_1 rfl (lv_at hl 0 rfl) ?_
  refine va_get (D := D) (ci := 0) (v := .int g.2.1.1) (C := R_B) (T := T_B) (N := 7) hx hb htb i_B hown hK hP 0 rfl rfl 0 (by decide) (htb _ k_B_15) (fun _ h9 => h9) rfl d_B_placeOf_2 ?_
  refine lv_imul hx hb d_B_placeOf_5 ?_
  refine lv_iload_n hx hb d_B_placeOf_6 rfl (lv_at hl 2 rfl) ?_
  refine lv_aload_n hx hb d_B_placeOf_7 rfl (lv_at hl 0 rfl) ?_
  refine va_get (D := D) (ci := 0) (v := .int g.2.1.1) (C := R_B) (T := T_B) (N := 7) hx hb htb i_B hown hK hP 0 rfl rfl 0 (by decide) (htb _ k_B_15) (fun _ h9 => h9) rfl d_B_placeOf_8 ?_
  refine cps (As := [.int p1, .int g.2.1.1]) (rest := [.int (p0 * g.2.1.1)]) ⟨hx, hb, hml, hown, htb⟩ (c_Math_floorMod l p1 g.2.1.1 hg.2.2.1) (cws (n := 2) htb cd_Math_floorMod k_B_41 st_Math_floorMod ini_Math hd_Math_floorMod ⟨Nat.le_of_ble_eq_true rfl, Nat.le_of_ble_eq_true rfl⟩) rfl hl.1 rfl (Nat.le_of_ble_eq_true rfl) d_B_placeOf_11 ⟨Nat.zero_le _, Nat.zero_le _⟩ (fun r_11 hw_11 => ?_)
  have hF := hF.trans (bnd_eq hw_11)
  refine lv_iadd hx hb d_B_placeOf_14 ?_
  exact W.iret (v := ((p0 * g.2.1.1) + r_11)) hx hb hr (fun t ht hW => ⟨_, rfl, hF.symm, ht⟩) (fun q h => by cases h) d_B_placeOf_15

def M_B_size (g : GB) (x : Bk) (p0 : Int32) : Int32 := (if p0 < 0 then (0 : Int32) else (if (nI g.2.2.1) ≤ p0 then (0 : Int32) else (x.1 p0.toNatClampNeg)))
theorem M_B_size_eq (g : GB) (x : Bk) (p0 : Int32) : M_B_size g x p0 = (if p0 < 0 then (0 : Int32) else (if (nI g.2.2.1) ≤ p0 then (0 : Int32) else (x.1 p0.toNatClampNeg))) := rfl
abbrev w_B_size : List Cond := .code y_B_size b_B_size 2 (some .int) :: tbW
abbrev rm_B_size : Room := { frames := 0, cells := 0, slots := 0, locals := 0 }
set_option maxHeartbeats 4000000 in
set_option maxRecDepth 100000 in
theorem c_B_size (l : Launch) (D : va_G) (cI cZ : ClassId) (g : GB) (hg : okB g) (x : Bk) (p0 : Int32) : Met l y_B_size w_B_size rm_B_size (PcR D vwCl (tyK cI cZ) [.ref g.1.1, .int p0] (wB cI cZ g x)) (vp_Si (fun r => r = M_B_size g x p0)) 0 0 (fun _ => False) := by
  refine Met.ofW (cc := b_B_size) (maxL := 2) (ret := (some .int)) (by decide) rfl ?_
  intro p e s m args below meth c s₁ B hml hv
  obtain ⟨rfl, hP, hK⟩ := hv
  have hx := B.exec
  have hb := B.bytes
  have hr := B.returns
  have htb : ∀ w ∈ tbW, w.before _ s = true := fun w h => atoms_spec (ws := w_B_size) B.pre w (List.mem_cons_of_mem _ h)
  have hown : s.vm.findClass R_B = some m.cls := findClass_of_methodNamed B.named
  have hlocks := B.notSynchronized
  have hl := lv_entry ([.ref g.1.1, .int p0]) (n := 2) (Nat.le_of_ble_eq_true rfl)
  rw [lg_entry_eq]
  generalize (lg_sl ([.ref g.1.1, .int p0]) ++ List.replicate (2 - (lg_sl ([.ref g.1.1, .int p0])).length) Slot.unset).toArray = ls at hl ⊢
  have hl : lv_has ls 2 [(0, .ref g.1.1), (1, .int p0)] := hl
  have hF := M_B_size_eq g x p0
  refine lv_iload_n hx hb d_B_size_0 rfl (lv_at hl 1 rfl) ?_
  refine lv_if_lt (tgt := 22) hx hb d_B_size_1 (by decide) (fun c_1 => ?_) (fun c_1 => ?_)
  · have hF := hF.trans (if_pos c_1)
    refine lv_iconst (v := 0) hx hb d_B_size_22 (by decide) ?_
    exact W.iret (v := (0 : Int32)) hx hb hr (fun t ht hW => ⟨_, rfl, hF.symm, ht⟩) (fun q h => by cases h) d_B_size_23
  · have hF := hF.trans (if_neg c_1)
    refine lv_iload_n hx hb d_B_size_4 rfl (lv_at hl 1 rfl) ?_
    refine lv_aload_n hx hb d_B_size_5 rfl (lv_at hl 0 rfl) ?_
    refine va_get (D := D) (ci := 0) (v := .ref g.1.2.1) (C := R_B) (T := T_B) (N := 7) hx hb htb i_B hown hK hP 0 rfl rfl 2 (by decide) (htb _ k_B_24) (fun _ h9 => h9) rfl d_B_size_6 ?_
    refine va_alen hx hb hK hP 1 0 rfl rfl (v := nI g.2.2.1) rfl d_B_size_9 ?_
    refine lv_icmp_ge (tgt := 22) hx hb d_B_size_10 (by decide) (fun c_10 => ?_) (fun c_10 => ?_)
    · have hF := hF.trans (if_pos c_10)
      refine lv_iconst (v := 0) hx hb d_B_size_22 (by decide) ?_
      exact W.iret (v := (0 : Int32)) hx hb hr (fun t ht hW => ⟨_, rfl, hF.symm, ht⟩) (fun q h => by cases h) d_B_size_23
    · have hF := hF.trans (if_neg c_10)
      refine lv_aload_n hx hb d_B_size_13 rfl (lv_at hl 0 rfl) ?_
      refine va_get (D := D) (ci := 0) (v := .ref g.1.2.1) (C := R_B) (T := T_B) (N := 7) hx hb htb i_B hown hK hP 0 rfl rfl 2 (by decide) (htb _ k_B_24) (fun _ h9 => h9) rfl d_B_size_14 ?_
      refine lv_iload_n hx hb d_B_size_17 rfl (lv_at hl 1 rfl) ?_
      refine va_iald hx hb hK hP 1 0 rfl rfl (in_ok hg.1 c_1 c_10) d_B_size_18 ?_
      refine lv_goto (tgt := 23) hx hb d_B_size_19 (by decide) ?_
      exact W.iret (v := (x.1 p0.toNatClampNeg)) hx hb hr (fun t ht hW => ⟨_, rfl, hF.symm, ht⟩) (fun q h => by cases h) d_B_size_23

def M_B_isFull (g : GB) (x : Bk) (p0 : Int32) : Int32 := (bnd (M_B_size g x p0) (fun r_2 => (if r_2 < g.2.1.2 then (0 : Int32) else (1 : Int32))))
theorem M_B_isFull_eq (g : GB) (x : Bk) (p0 : Int32) : M_B_isFull g x p0 = (bnd (M_B_size g x p0) (fun r_2 => (if r_2 < g.2.1.2 then (0 : Int32) else (1 : Int32)))) := rfl
abbrev w_B_isFull : List Cond := .code y_B_isFull b_B_isFull 2 (some .boolean) :: tbW
abbrev rm_B_isFull : Room := { frames := 1, cells := 0, slots := 0, locals := 21 }
set_option maxHeartbeats 4000000 in
set_option maxRecDepth 100000 in
theorem c_B_isFull (l : Launch) (D : va_G) (cI cZ : ClassId) (g : GB) (hg : okB g) (x : Bk) (p0 : Int32) : Met l y_B_isFull w_B_isFull rm_B_isFull (PcR D vwCl (tyK cI cZ) [.ref g.1.1, .int p0] (wB cI cZ g x)) (vp_Si (fun r => r = M_B_isFull g x p0)) 0 0 (fun _ => False) := by
  refine Met.ofW (cc := b_B_isFull) (maxL := 2) (ret := (some .boolean)) (by decide) rfl ?_
  intro p e s m args below meth c s₁ B hml hv
  obtain ⟨rfl, hP, hK⟩ := hv
  have hx := B.exec
  have hb := B.bytes
  have hr := B.returns
  have htb : ∀ w ∈ tbW, w.before _ s = true := fun w h => atoms_spec (ws := w_B_isFull) B.pre w (List.mem_cons_of_mem _ h)
  have hown : s.vm.findClass R_B = some m.cls := findClass_of_methodNamed B.named
  have hlocks := B.notSynchronized
  have hl := lv_entry ([.ref g.1.1, .int p0]) (n := 2) (Nat.le_of_ble_eq_true rfl)
  rw [lg_entry_eq]
  generalize (lg_sl ([.ref g.1.1, .int p0]) ++ List.replicate (2 - (lg_sl ([.ref g.1.1, .int p0])).length) Slot.unset).toArray = ls at hl ⊢
  have hl : lv_has ls 2 [(0, .ref g.1.1), (1, .int p0)] := hl
  have hF := M_B_isFull_eq g x p0
  refine lv_aload_n hx hb d_B_isFull_0 rfl (lv_at hl 0 rfl) ?_
  refine lv_iload_n hx hb d_B_isFull_1 rfl (lv_at hl 1 rfl) ?_
  refine cpi (As := [.int p0]) (rest := []) ⟨hx, hb, hml, hown, htb⟩ (c_B_size l D cI cZ g hg x p0) (cwv (n := 1) htb cd_B_size k_B_44 in_B_size se_B_size ini_B hd_B_size ⟨Nat.le_of_ble_eq_true rfl, Nat.le_of_ble_eq_true rfl⟩) hK hP [0, 1, 2, 3, 4, 5] rfl (ci := 0) rfl rfl rfl hl.1 rfl (Nat.le_of_ble_eq_true rfl) d_B_isFull_2 ⟨Nat.zero_le _, Nat.zero_le _⟩ (fun r_2 hw_2 => ?_)
  have hF := hF.trans (bnd_eq hw_2)
  refine lv_aload_n hx hb d_B_isFull_5 rfl (lv_at hl 0 rfl) ?_
  refine va_get (D := D) (ci := 0) (v := .int g.2.1.2) (C := R_B) (T := T_B) (N := 7) hx hb htb i_B hown hK hP 0 rfl rfl 1 (by decide) (htb _ k_B_21) (fun _ h9 => h9) rfl d_B_isFull_6 ?_
  refine lv_icmp_lt (tgt := 16) hx hb d_B_isFull_9 (by decide) (fun c_9 => ?_) (fun c_9 => ?_)
  · have hF := hF.trans (if_pos c_9)
    refine lv_iconst (v := 0) hx hb d_B_isFull_16 (by decide) ?_
    exact W.zret (v := (0 : Int32)) (ty := .boolean) hx hb hr rfl (fun t ht hW => ⟨_, rfl, hF.symm, ht⟩) (fun q h => by cases h) d_B_isFull_17
  · have hF := hF.trans (if_neg c_9)
    refine lv_iconst (v := 1) hx hb d_B_isFull_12 (by decide) ?_
    refine lv_goto (tgt := 17) hx hb d_B_isFull_13 (by decide) ?_
    exact W.zret (v := (1 : Int32)) (ty := .boolean) hx hb hr rfl (fun t ht hW => ⟨_, rfl, hF.symm, ht⟩) (fun q h => by cases h) d_B_isFull_17

def L_B_total_4 (g : GB) (x : Bk) : Nat → Int32 → Int32 → Int32
  | 0, _, _ => 0
  | n + 1, v1, v2 => (if (nI g.2.2.1) ≤ v2 then v1 else L_B_total_4 g x n (v1 + (x.1 v2.toNatClampNeg)) (v2 + 1))
theorem L_B_total_4_eq (g : GB) (x : Bk) (n : Nat) (v1 v2 : Int32) : L_B_total_4 g x (n + 1) v1 v2 = (if (nI g.2.2.1) ≤ v2 then v1 else L_B_total_4 g x n (v1 + (x.1 v2.toNatClampNeg)) (v2 + 1)) := by first | rfl | rw [L_B_total_4]
def M_B_total (g : GB) (x : Bk) : Int32 := L_B_total_4 g x (mu (0 : Int32) (nI g.2.2.1) + 1) (0 : Int32) (0 : Int32)
theorem M_B_total_eq (g : GB) (x : Bk) : M_B_total g x = L_B_total_4 g x (mu (0 : Int32) (nI g.2.2.1) + 1) (0 : Int32) (0 : Int32) := rfl
abbrev w_B_total : List Cond := .code y_B_total b_B_total 3 (some .int) :: tbW
abbrev rm_B_total : Room := { frames := 0, cells := 0, slots := 0, locals := 0 }
set_option maxHeartbeats 4000000 in
set_option maxRecDepth 100000 in
theorem c_B_total (l : Launch) (D : va_G) (cI cZ : ClassId) (g : GB) (hg : okB g) (x : Bk) : Met l y_B_total w_B_total rm_B_total (PcR D vwCl (tyK cI cZ) [.ref g.1.1] (wB cI cZ g x)) (vp_Si (fun r => r = M_B_total g x)) 0 0 (fun _ => False) := by
  refine Met.ofW (cc := b_B_total) (maxL := 3) (ret := (some .int)) (by decide) rfl ?_
  intro p e s m args below meth c s₁ B hml hv
  obtain ⟨rfl, hP, hK⟩ := hv
  have hx := B.exec
  have hb := B.bytes
  have hr := B.returns
  have htb : ∀ w ∈ tbW, w.before _ s = true := fun w h => atoms_spec (ws := w_B_total) B.pre w (List.mem_cons_of_mem _ h)
  have hown : s.vm.findClass R_B = some m.cls := findClass_of_methodNamed B.named
  have hlocks := B.notSynchronized
  have cut_4 : ∀ (n : Nat) (v1 v2 : Int32) (ls : Array Slot), mu v2 (nI g.2.2.1) < n → ¬ v2 < 0 → M_B_total g x = L_B_total_4 g x n v1 v2 → lv_has ls 3 [(0, .ref g.1.1), (1, .int v1), (2, .int v2)] → W p l e (headSpec w_B_total rm_B_total).room s m ([.ref g.1.1] : List Value).toArray below meth c s.heap [] 0 0 (MQ below (vp_Si (fun r => r = M_B_total g x)) ([.ref g.1.1] : List Value).toArray s 0 0 (fun _ => False)) (F0 m 4 ls []) := by
    intro n
    induction n with
    | zero => intro v1 v2 ls hm _ _ _; exact absurd hm (Nat.not_lt_zero _)
    | succ n ih =>
      intro v1 v2 ls hm h0 hF hl
      have hF := hF.trans (L_B_total_4_eq g x n v1 v2)
      refine lv_iload_n hx hb d_B_total_4 rfl (lv_at hl 2 rfl) ?_
      refine lv_aload_n hx hb d_B_total_5 rfl (lv_at hl 0 rfl) ?_
      refine va_get (D := D) (ci := 0) (v := .ref g.1.2.1) (C := R_B) (T := T_B) (N := 7) hx hb htb i_B hown hK hP 0 rfl rfl 2 (by decide) (htb _ k_B_24) (fun _ h9 => h9) rfl d_B_total_6 ?_
      refine va_alen hx hb hK hP 1 0 rfl rfl (v := nI g.2.2.1) rfl d_B_total_9 ?_
      refine lv_icmp_ge (tgt := 28) hx hb d_B_total_10 (by decide) (fun c_10 => ?_) (fun c_10 => ?_)
      · have hF := hF.trans (if_pos c_10)
        refine lv_iload_n hx hb d_B_total_28 rfl (lv_at hl 1 rfl) ?_
        exact W.iret (v := v1) hx hb hr (fun t ht hW => ⟨_, rfl, hF.symm, ht⟩) (fun q h => by cases h) d_B_total_29
      · have hF := hF.trans (if_neg c_10)
        refine lv_iload_n hx hb d_B_total_13 rfl (lv_at hl 1 rfl) ?_
        refine lv_aload_n hx hb d_B_total_14 rfl (lv_at hl 0 rfl) ?_
        refine va_get (D := D) (ci := 0) (v := .ref g.1.2.1) (C := R_B) (T := T_B) (N := 7) hx hb htb i_B hown hK hP 0 rfl rfl 2 (by decide) (htb _ k_B_24) (fun _ h9 => h9) rfl d_B_total_15 ?_
        refine lv_iload_n hx hb d_B_total_18 rfl (lv_at hl 2 rfl) ?_
        refine va_iald hx hb hK hP 1 0 rfl rfl (in_ok hg.1 h0 c_10) d_B_total_19 ?_
        refine lv_iadd hx hb d_B_total_20 ?_
        refine lv_istore_n (lv' := [(1, .int (v1 + (x.1 v2.toNatClampNeg))), (0, .ref g.1.1), (2, .int v2)]) hx hb d_B_total_21 rfl hl (by decide) rfl (fun ls hl => ?_)
        refine lv_iinc (v := (v2 + 1)) (lv' := [(2, .int (v2 + 1)), (1, .int (v1 + (x.1 v2.toNatClampNeg))), (0, .ref g.1.1)]) hx hb d_B_total_22 hl (k := 2) rfl rfl (by decide) rfl (fun ls hl => ?_)
        refine lv_goto (tgt := 4) hx hb d_B_total_25 (by decide) ?_
        have hl := lv_sub (l' := [(0, .ref g.1.1), (1, .int (v1 + (x.1 v2.toNatClampNeg))), (2, .int (v2 + 1))]) hl [2, 1, 0] rfl
        exact ih (v1 + (x.1 v2.toNatClampNeg)) (v2 + 1) _ (Nat.lt_of_lt_of_le (mu_dec c_10) (Nat.le_of_lt_succ hm)) (up_nn h0 c_10) hF hl
  have hl := lv_entry ([.ref g.1.1]) (n := 3) (Nat.le_of_ble_eq_true rfl)
  rw [lg_entry_eq]
  generalize (lg_sl ([.ref g.1.1]) ++ List.replicate (3 - (lg_sl ([.ref g.1.1])).length) Slot.unset).toArray = ls at hl ⊢
  have hl : lv_has ls 3 [(0, .ref g.1.1)] := hl
  have hF := M_B_total_eq g x
  refine lv_iconst (v := 0) hx hb d_B_total_0 (by decide) ?_
  refine lv_istore_n (lv' := [(1, .int (0 : Int32)), (0, .ref g.1.1)]) hx hb d_B_total_1 rfl hl (by decide) rfl (fun ls hl => ?_)
  refine lv_iconst (v := 0) hx hb d_B_total_2 (by decide) ?_
  refine lv_istore_n (lv' := [(2, .int (0 : Int32)), (1, .int (0 : Int32)), (0, .ref g.1.1)]) hx hb d_B_total_3 rfl hl (by decide) rfl (fun ls hl => ?_)
  have hl := lv_sub (l' := [(0, .ref g.1.1), (1, .int (0 : Int32)), (2, .int (0 : Int32))]) hl [2, 1, 0] rfl
  exact cut_4 (mu (0 : Int32) (nI g.2.2.1) + 1) (0 : Int32) (0 : Int32) _ (Nat.lt_succ_self _) (by decide) hF hl

def M_B_isSlot (g : GB) (x : Bk) (p0 : Int32) : Int32 := (if p0 < 0 then (0 : Int32) else (if (nI g.2.2.2) ≤ p0 then (0 : Int32) else (1 : Int32)))
theorem M_B_isSlot_eq (g : GB) (x : Bk) (p0 : Int32) : M_B_isSlot g x p0 = (if p0 < 0 then (0 : Int32) else (if (nI g.2.2.2) ≤ p0 then (0 : Int32) else (1 : Int32))) := rfl
abbrev w_B_isSlot : List Cond := .code y_B_isSlot b_B_isSlot 2 (some .boolean) :: tbW
abbrev rm_B_isSlot : Room := { frames := 0, cells := 0, slots := 0, locals := 0 }
set_option maxHeartbeats 4000000 in
set_option maxRecDepth 100000 in
theorem c_B_isSlot (l : Launch) (D : va_G) (cI cZ : ClassId) (g : GB) (hg : okB g) (x : Bk) (p0 : Int32) : Met l y_B_isSlot w_B_isSlot rm_B_isSlot (PcR D vwCl (tyK cI cZ) [.ref g.1.1, .int p0] (wB cI cZ g x)) (vp_Si (fun r => r = M_B_isSlot g x p0)) 0 0 (fun _ => False) := by
  refine Met.ofW (cc := b_B_isSlot) (maxL := 2) (ret := (some .boolean)) (by decide) rfl ?_
  intro p e s m args below meth c s₁ B hml hv
  obtain ⟨rfl, hP, hK⟩ := hv
  have hx := B.exec
  have hb := B.bytes
  have hr := B.returns
  have htb : ∀ w ∈ tbW, w.before _ s = true := fun w h => atoms_spec (ws := w_B_isSlot) B.pre w (List.mem_cons_of_mem _ h)
  have hown : s.vm.findClass R_B = some m.cls := findClass_of_methodNamed B.named
  have hlocks := B.notSynchronized
  have hl := lv_entry ([.ref g.1.1, .int p0]) (n := 2) (Nat.le_of_ble_eq_true rfl)
  rw [lg_entry_eq]
  generalize (lg_sl ([.ref g.1.1, .int p0]) ++ List.replicate (2 - (lg_sl ([.ref g.1.1, .int p0])).length) Slot.unset).toArray = ls at hl ⊢
  have hl : lv_has ls 2 [(0, .ref g.1.1), (1, .int p0)] := hl
  have hF := M_B_isSlot_eq g x p0
  refine lv_iload_n hx hb d_B_isSlot_0 rfl (lv_at hl 1 rfl) ?_
  refine lv_if_lt (tgt := 17) hx hb d_B_isSlot_1 (by decide) (fun c_1 => ?_) (fun c_1 => ?_)
  · have hF := hF.trans (if_pos c_1)
    refine lv_iconst (v := 0) hx hb d_B_isSlot_17 (by decide) ?_
    exact W.zret (v := (0 : Int32)) (ty := .boolean) hx hb hr rfl (fun t ht hW => ⟨_, rfl, hF.symm, ht⟩) (fun q h => by cases h) d_B_isSlot_18
  · have hF := hF.trans (if_neg c_1)
    refine lv_iload_n hx hb d_B_isSlot_4 rfl (lv_at hl 1 rfl) ?_
    refine lv_aload_n hx hb d_B_isSlot_5 rfl (lv_at hl 0 rfl) ?_
    refine va_get (D := D) (ci := 0) (v := .ref g.1.2.2.1) (C := R_B) (T := T_B) (N := 7) hx hb htb i_B hown hK hP 0 rfl rfl 3 (by decide) (htb _ k_B_28) (fun _ h9 => h9) rfl d_B_isSlot_6 ?_
    refine va_alen hx hb hK hP 2 0 rfl rfl (v := nI g.2.2.2) rfl d_B_isSlot_9 ?_
    refine lv_icmp_ge (tgt := 17) hx hb d_B_isSlot_10 (by decide) (fun c_10 => ?_) (fun c_10 => ?_)
    · have hF := hF.trans (if_pos c_10)
      refine lv_iconst (v := 0) hx hb d_B_isSlot_17 (by decide) ?_
      exact W.zret (v := (0 : Int32)) (ty := .boolean) hx hb hr rfl (fun t ht hW => ⟨_, rfl, hF.symm, ht⟩) (fun q h => by cases h) d_B_isSlot_18
    · have hF := hF.trans (if_neg c_10)
      refine lv_iconst (v := 1) hx hb d_B_isSlot_13 (by decide) ?_
      refine lv_goto (tgt := 18) hx hb d_B_isSlot_14 (by decide) ?_
      exact W.zret (v := (1 : Int32)) (ty := .boolean) hx hb hr rfl (fun t ht hW => ⟨_, rfl, hF.symm, ht⟩) (fun q h => by cases h) d_B_isSlot_18
theorem isSlot_in {g : GB} {x : Bk} {q r : Int32} (hg : okB g) (hw : r = M_B_isSlot g x q) (h : ¬ r = 0) : vp_in q g.2.2.2 := by
  rw [hw, M_B_isSlot_eq] at h
  by_cases c1 : q < 0
  · rw [if_pos c1] at h
    exact absurd rfl h
  · rw [if_neg c1] at h
    by_cases c2 : nI g.2.2.2 ≤ q
    · rw [if_pos c2] at h
      exact absurd rfl h
    · exact in_ok hg.2.1 c1 c2

def M_B_lineAt (g : GB) (x : Bk) (p0 : Int32) : Int32 := (bnd (M_B_isSlot g x p0) (fun r_2 => (if r_2 = 0 then (0 : Int32) else (x.2.1 p0.toNatClampNeg))))
theorem M_B_lineAt_eq (g : GB) (x : Bk) (p0 : Int32) : M_B_lineAt g x p0 = (bnd (M_B_isSlot g x p0) (fun r_2 => (if r_2 = 0 then (0 : Int32) else (x.2.1 p0.toNatClampNeg)))) := rfl
abbrev w_B_lineAt : List Cond := .code y_B_lineAt b_B_lineAt 2 (some .int) :: tbW
abbrev rm_B_lineAt : Room := { frames := 1, cells := 0, slots := 0, locals := 21 }
set_option maxHeartbeats 4000000 in
set_option maxRecDepth 100000 in
theorem c_B_lineAt (l : Launch) (D : va_G) (cI cZ : ClassId) (g : GB) (hg : okB g) (x : Bk) (p0 : Int32) : Met l y_B_lineAt w_B_lineAt rm_B_lineAt (PcR D vwCl (tyK cI cZ) [.ref g.1.1, .int p0] (wB cI cZ g x)) (vp_Si (fun r => r = M_B_lineAt g x p0)) 0 0 (fun _ => False) := by
  refine Met.ofW (cc := b_B_lineAt) (maxL := 2) (ret := (some .int)) (by decide) rfl ?_
  intro p e s m args below meth c s₁ B hml hv
  obtain ⟨rfl, hP, hK⟩ := hv
  have hx := B.exec
  have hb := B.bytes
  have hr := B.returns
  have htb : ∀ w ∈ tbW, w.before _ s = true := fun w h => atoms_spec (ws := w_B_lineAt) B.pre w (List.mem_cons_of_mem _ h)
  have hown : s.vm.findClass R_B = some m.cls := findClass_of_methodNamed B.named
  have hlocks := B.notSynchronized
  have hl := lv_entry ([.ref g.1.1, .int p0]) (n := 2) (Nat.le_of_ble_eq_true rfl)
  rw [lg_entry_eq]
  generalize (lg_sl ([.ref g.1.1, .int p0]) ++ List.replicate (2 - (lg_sl ([.ref g.1.1, .int p0])).length) Slot.unset).toArray = ls at hl ⊢
  have hl : lv_has ls 2 [(0, .ref g.1.1), (1, .int p0)] := hl
  have hF := M_B_lineAt_eq g x p0
  refine lv_aload_n hx hb d_B_lineAt_0 rfl (lv_at hl 0 rfl) ?_
  refine lv_iload_n hx hb d_B_lineAt_1 rfl (lv_at hl 1 rfl) ?_
  refine cpi (As := [.int p0]) (rest := []) ⟨hx, hb, hml, hown, htb⟩ (c_B_isSlot l D cI cZ g hg x p0) (cwv (n := 1) htb cd_B_isSlot k_B_48 in_B_isSlot se_B_isSlot ini_B hd_B_isSlot ⟨Nat.le_of_ble_eq_true rfl, Nat.le_of_ble_eq_true rfl⟩) hK hP [0, 1, 2, 3, 4, 5] rfl (ci := 0) rfl rfl rfl hl.1 rfl (Nat.le_of_ble_eq_true rfl) d_B_lineAt_2 ⟨Nat.zero_le _, Nat.zero_le _⟩ (fun r_2 hw_2 => ?_)
  have hF := hF.trans (bnd_eq hw_2)
  refine lv_if_eq (tgt := 17) hx hb d_B_lineAt_5 (by decide) (fun c_5 => ?_) (fun c_5 => ?_)
  · have hF := hF.trans (if_pos c_5)
    refine lv_iconst (v := 0) hx hb d_B_lineAt_17 (by decide) ?_
    exact W.iret (v := (0 : Int32)) hx hb hr (fun t ht hW => ⟨_, rfl, hF.symm, ht⟩) (fun q h => by cases h) d_B_lineAt_18
  · have hF := hF.trans (if_neg c_5)
    refine lv_aload_n hx hb d_B_lineAt_8 rfl (lv_at hl 0 rfl) ?_
    refine va_get (D := D) (ci := 0) (v := .ref g.1.2.2.1) (C := R_B) (T := T_B) (N := 7) hx hb htb i_B hown hK hP 0 rfl rfl 3 (by decide) (htb _ k_B_28) (fun _ h9 => h9) rfl d_B_lineAt_9 ?_
    refine lv_iload_n hx hb d_B_lineAt_12 rfl (lv_at hl 1 rfl) ?_
    refine va_iald hx hb hK hP 2 0 rfl rfl (isSlot_in hg hw_2 c_5) d_B_lineAt_13 ?_
    refine lv_goto (tgt := 18) hx hb d_B_lineAt_14 (by decide) ?_
    exact W.iret (v := (x.2.1 p0.toNatClampNeg)) hx hb hr (fun t ht hW => ⟨_, rfl, hF.symm, ht⟩) (fun q h => by cases h) d_B_lineAt_18

def M_B_versionAt (g : GB) (x : Bk) (p0 : Int32) : Int32 := (bnd (M_B_isSlot g x p0) (fun r_2 => (if r_2 = 0 then (0 : Int32) else (x.2.2.1 p0.toNatClampNeg))))
theorem M_B_versionAt_eq (g : GB) (x : Bk) (p0 : Int32) : M_B_versionAt g x p0 = (bnd (M_B_isSlot g x p0) (fun r_2 => (if r_2 = 0 then (0 : Int32) else (x.2.2.1 p0.toNatClampNeg)))) := rfl
abbrev w_B_versionAt : List Cond := .code y_B_versionAt b_B_versionAt 2 (some .int) :: tbW
abbrev rm_B_versionAt : Room := { frames := 1, cells := 0, slots := 0, locals := 21 }
set_option maxHeartbeats 4000000 in
set_option maxRecDepth 100000 in
theorem c_B_versionAt (l : Launch) (D : va_G) (cI cZ : ClassId) (g : GB) (hg : okB g) (x : Bk) (p0 : Int32) : Met l y_B_versionAt w_B_versionAt rm_B_versionAt (PcR D vwCl (tyK cI cZ) [.ref g.1.1, .int p0] (wB cI cZ g x)) (vp_Si (fun r => r = M_B_versionAt g x p0)) 0 0 (fun _ => False) := by
  refine Met.ofW (cc := b_B_versionAt) (maxL := 2) (ret := (some .int)) (by decide) rfl ?_
  intro p e s m args below meth c s₁ B hml hv
  obtain ⟨rfl, hP, hK⟩ := hv
  have hx := B.exec
  have hb := B.bytes
  have hr := B.returns
  have htb : ∀ w ∈ tbW, w.before _ s = true := fun w h => atoms_spec (ws := w_B_versionAt) B.pre w (List.mem_cons_of_mem _ h)
  have hown : s.vm.findClass R_B = some m.cls := findClass_of_methodNamed B.named
  have hlocks := B.notSynchronized
  have hl := lv_entry ([.ref g.1.1, .int p0]) (n := 2) (Nat.le_of_ble_eq_true rfl)
  rw [lg_entry_eq]
  generalize (lg_sl ([.ref g.1.1, .int p0]) ++ List.replicate (2 - (lg_sl ([.ref g.1.1, .int p0])).length) Slot.unset).toArray = ls at hl ⊢
  have hl : lv_has ls 2 [(0, .ref g.1.1), (1, .int p0)] := hl
  have hF := M_B_versionAt_eq g x p0
  refine lv_aload_n hx hb d_B_versionAt_0 rfl (lv_at hl 0 rfl) ?_
  refine lv_iload_n hx hb d_B_versionAt_1 rfl (lv_at hl 1 rfl) ?_
  refine cpi (As := [.int p0]) (rest := []) ⟨hx, hb, hml, hown, htb⟩ (c_B_isSlot l D cI cZ g hg x p0) (cwv (n := 1) htb cd_B_isSlot k_B_48 in_B_isSlot se_B_isSlot ini_B hd_B_isSlot ⟨Nat.le_of_ble_eq_true rfl, Nat.le_of_ble_eq_true rfl⟩) hK hP [0, 1, 2, 3, 4, 5] rfl (ci := 0) rfl rfl rfl hl.1 rfl (Nat.le_of_ble_eq_true rfl) d_B_versionAt_2 ⟨Nat.zero_le _, Nat.zero_le _⟩ (fun r_2 hw_2 => ?_)
  have hF := hF.trans (bnd_eq hw_2)
  refine lv_if_eq (tgt := 17) hx hb d_B_versionAt_5 (by decide) (fun c_5 => ?_) (fun c_5 => ?_)
  · have hF := hF.trans (if_pos c_5)
    refine lv_iconst (v := 0) hx hb d_B_versionAt_17 (by decide) ?_
    exact W.iret (v := (0 : Int32)) hx hb hr (fun t ht hW => ⟨_, rfl, hF.symm, ht⟩) (fun q h => by cases h) d_B_versionAt_18
  · have hF := hF.trans (if_neg c_5)
    refine lv_aload_n hx hb d_B_versionAt_8 rfl (lv_at hl 0 rfl) ?_
    refine va_get (D := D) (ci := 0) (v := .ref g.1.2.2.2.1) (C := R_B) (T := T_B) (N := 7) hx hb htb i_B hown hK hP 0 rfl rfl 4 (by decide) (htb _ k_B_31) (fun _ h9 => h9) rfl d_B_versionAt_9 ?_
    refine lv_iload_n hx hb d_B_versionAt_12 rfl (lv_at hl 1 rfl) ?_
    refine va_iald hx hb hK hP 3 0 rfl rfl (isSlot_in hg hw_2 c_5) d_B_versionAt_13 ?_
    refine lv_goto (tgt := 18) hx hb d_B_versionAt_14 (by decide) ?_
    exact W.iret (v := (x.2.2.1 p0.toNatClampNeg)) hx hb hr (fun t ht hW => ⟨_, rfl, hF.symm, ht⟩) (fun q h => by cases h) d_B_versionAt_18

def M_B_ownerAt (g : GB) (x : Bk) (p0 : Int32) : Int32 := (bnd (M_B_isSlot g x p0) (fun r_2 => (if r_2 = 0 then (-1 : Int32) else (x.2.2.2.1 p0.toNatClampNeg))))
theorem M_B_ownerAt_eq (g : GB) (x : Bk) (p0 : Int32) : M_B_ownerAt g x p0 = (bnd (M_B_isSlot g x p0) (fun r_2 => (if r_2 = 0 then (-1 : Int32) else (x.2.2.2.1 p0.toNatClampNeg)))) := rfl
abbrev w_B_ownerAt : List Cond := .code y_B_ownerAt b_B_ownerAt 2 (some .int) :: tbW
abbrev rm_B_ownerAt : Room := { frames := 1, cells := 0, slots := 0, locals := 21 }
set_option maxHeartbeats 4000000 in
set_option maxRecDepth 100000 in
theorem c_B_ownerAt (l : Launch) (D : va_G) (cI cZ : ClassId) (g : GB) (hg : okB g) (x : Bk) (p0 : Int32) : Met l y_B_ownerAt w_B_ownerAt rm_B_ownerAt (PcR D vwCl (tyK cI cZ) [.ref g.1.1, .int p0] (wB cI cZ g x)) (vp_Si (fun r => r = M_B_ownerAt g x p0)) 0 0 (fun _ => False) := by
  refine Met.ofW (cc := b_B_ownerAt) (maxL := 2) (ret := (some .int)) (by decide) rfl ?_
  intro p e s m args below meth c s₁ B hml hv
  obtain ⟨rfl, hP, hK⟩ := hv
  have hx := B.exec
  have hb := B.bytes
  have hr := B.returns
  have htb : ∀ w ∈ tbW, w.before _ s = true := fun w h => atoms_spec (ws := w_B_ownerAt) B.pre w (List.mem_cons_of_mem _ h)
  have hown : s.vm.findClass R_B = some m.cls := findClass_of_methodNamed B.named
  have hlocks := B.notSynchronized
  have hl := lv_entry ([.ref g.1.1, .int p0]) (n := 2) (Nat.le_of_ble_eq_true rfl)
  rw [lg_entry_eq]
  generalize (lg_sl ([.ref g.1.1, .int p0]) ++ List.replicate (2 - (lg_sl ([.ref g.1.1, .int p0])).length) Slot.unset).toArray = ls at hl ⊢
  have hl : lv_has ls 2 [(0, .ref g.1.1), (1, .int p0)] := hl
  have hF := M_B_ownerAt_eq g x p0
  refine lv_aload_n hx hb d_B_ownerAt_0 rfl (lv_at hl 0 rfl) ?_
  refine lv_iload_n hx hb d_B_ownerAt_1 rfl (lv_at hl 1 rfl) ?_
  refine cpi (As := [.int p0]) (rest := []) ⟨hx, hb, hml, hown, htb⟩ (c_B_isSlot l D cI cZ g hg x p0) (cwv (n := 1) htb cd_B_isSlot k_B_48 in_B_isSlot se_B_isSlot ini_B hd_B_isSlot ⟨Nat.le_of_ble_eq_true rfl, Nat.le_of_ble_eq_true rfl⟩) hK hP [0, 1, 2, 3, 4, 5] rfl (ci := 0) rfl rfl rfl hl.1 rfl (Nat.le_of_ble_eq_true rfl) d_B_ownerAt_2 ⟨Nat.zero_le _, Nat.zero_le _⟩ (fun r_2 hw_2 => ?_)
  have hF := hF.trans (bnd_eq hw_2)
  refine lv_if_eq (tgt := 17) hx hb d_B_ownerAt_5 (by decide) (fun c_5 => ?_) (fun c_5 => ?_)
  · have hF := hF.trans (if_pos c_5)
    refine lv_iconst (v := -1) hx hb d_B_ownerAt_17 (by decide) ?_
    exact W.iret (v := (-1 : Int32)) hx hb hr (fun t ht hW => ⟨_, rfl, hF.symm, ht⟩) (fun q h => by cases h) d_B_ownerAt_18
  · have hF := hF.trans (if_neg c_5)
    refine lv_aload_n hx hb d_B_ownerAt_8 rfl (lv_at hl 0 rfl) ?_
    refine va_get (D := D) (ci := 0) (v := .ref g.1.2.2.2.2.1) (C := R_B) (T := T_B) (N := 7) hx hb htb i_B hown hK hP 0 rfl rfl 5 (by decide) (htb _ k_B_34) (fun _ h9 => h9) rfl d_B_ownerAt_9 ?_
    refine lv_iload_n hx hb d_B_ownerAt_12 rfl (lv_at hl 1 rfl) ?_
    refine va_iald hx hb hK hP 4 0 rfl rfl (isSlot_in hg hw_2 c_5) d_B_ownerAt_13 ?_
    refine lv_goto (tgt := 18) hx hb d_B_ownerAt_14 (by decide) ?_
    exact W.iret (v := (x.2.2.2.1 p0.toNatClampNeg)) hx hb hr (fun t ht hW => ⟨_, rfl, hF.symm, ht⟩) (fun q h => by cases h) d_B_ownerAt_18

def M_B_isWritten (g : GB) (x : Bk) (p0 : Int32) : Int32 := (bnd (M_B_isSlot g x p0) (fun r_2 => (if r_2 = 0 then (0 : Int32) else (if (x.2.2.2.2 p0.toNatClampNeg) = 0 then (0 : Int32) else (1 : Int32)))))
theorem M_B_isWritten_eq (g : GB) (x : Bk) (p0 : Int32) : M_B_isWritten g x p0 = (bnd (M_B_isSlot g x p0) (fun r_2 => (if r_2 = 0 then (0 : Int32) else (if (x.2.2.2.2 p0.toNatClampNeg) = 0 then (0 : Int32) else (1 : Int32))))) := rfl
abbrev w_B_isWritten : List Cond := .code y_B_isWritten b_B_isWritten 2 (some .boolean) :: tbW
abbrev rm_B_isWritten : Room := { frames := 1, cells := 0, slots := 0, locals := 21 }
set_option maxHeartbeats 4000000 in
set_option maxRecDepth 100000 in
theorem c_B_isWritten (l : Launch) (D : va_G) (cI cZ : ClassId) (g : GB) (hg : okB g) (x : Bk) (p0 : Int32) : Met l y_B_isWritten w_B_isWritten rm_B_isWritten (PcR D vwCl (tyK cI cZ) [.ref g.1.1, .int p0] (wB cI cZ g x)) (vp_Si (fun r => r = M_B_isWritten g x p0)) 0 0 (fun _ => False) := by
  refine Met.ofW (cc := b_B_isWritten) (maxL := 2) (ret := (some .boolean)) (by decide) rfl ?_
  intro p e s m args below meth c s₁ B hml hv
  obtain ⟨rfl, hP, hK⟩ := hv
  have hx := B.exec
  have hb := B.bytes
  have hr := B.returns
  have htb : ∀ w ∈ tbW, w.before _ s = true := fun w h => atoms_spec (ws := w_B_isWritten) B.pre w (List.mem_cons_of_mem _ h)
  have hown : s.vm.findClass R_B = some m.cls := findClass_of_methodNamed B.named
  have hlocks := B.notSynchronized
  have hl := lv_entry ([.ref g.1.1, .int p0]) (n := 2) (Nat.le_of_ble_eq_true rfl)
  rw [lg_entry_eq]
  generalize (lg_sl ([.ref g.1.1, .int p0]) ++ List.replicate (2 - (lg_sl ([.ref g.1.1, .int p0])).length) Slot.unset).toArray = ls at hl ⊢
  have hl : lv_has ls 2 [(0, .ref g.1.1), (1, .int p0)] := hl
  have hF := M_B_isWritten_eq g x p0
  refine lv_aload_n hx hb d_B_isWritten_0 rfl (lv_at hl 0 rfl) ?_
  refine lv_iload_n hx hb d_B_isWritten_1 rfl (lv_at hl 1 rfl) ?_
  refine cpi (As := [.int p0]) (rest := []) ⟨hx, hb, hml, hown, htb⟩ (c_B_isSlot l D cI cZ g hg x p0) (cwv (n := 1) htb cd_B_isSlot k_B_48 in_B_isSlot se_B_isSlot ini_B hd_B_isSlot ⟨Nat.le_of_ble_eq_true rfl, Nat.le_of_ble_eq_true rfl⟩) hK hP [0, 1, 2, 3, 4, 5] rfl (ci := 0) rfl rfl rfl hl.1 rfl (Nat.le_of_ble_eq_true rfl) d_B_isWritten_2 ⟨Nat.zero_le _, Nat.zero_le _⟩ (fun r_2 hw_2 => ?_)
  have hF := hF.trans (bnd_eq hw_2)
  refine lv_if_eq (tgt := 21) hx hb d_B_isWritten_5 (by decide) (fun c_5 => ?_) (fun c_5 => ?_)
  · have hF := hF.trans (if_pos c_5)
    refine lv_iconst (v := 0) hx hb d_B_isWritten_21 (by decide) ?_
    exact W.zret (v := (0 : Int32)) (ty := .boolean) hx hb hr rfl (fun t ht hW => ⟨_, rfl, hF.symm, ht⟩) (fun q h => by cases h) d_B_isWritten_22
  · have hF := hF.trans (if_neg c_5)
    refine lv_aload_n hx hb d_B_isWritten_8 rfl (lv_at hl 0 rfl) ?_
    refine va_get (D := D) (ci := 0) (v := .ref g.1.2.2.2.2.2) (C := R_B) (T := T_B) (N := 7) hx hb htb i_B hown hK hP 0 rfl rfl 6 (by decide) (htb _ k_B_37) (fun _ h9 => h9) rfl d_B_isWritten_9 ?_
    refine lv_iload_n hx hb d_B_isWritten_12 rfl (lv_at hl 1 rfl) ?_
    refine va_zald hx hb hK hP 5 1 rfl rfl (isSlot_in hg hw_2 c_5) d_B_isWritten_13 ?_
    refine lv_if_eq (tgt := 21) hx hb d_B_isWritten_14 (by decide) (fun c_14 => ?_) (fun c_14 => ?_)
    · have hF := hF.trans (if_pos c_14)
      refine lv_iconst (v := 0) hx hb d_B_isWritten_21 (by decide) ?_
      exact W.zret (v := (0 : Int32)) (ty := .boolean) hx hb hr rfl (fun t ht hW => ⟨_, rfl, hF.symm, ht⟩) (fun q h => by cases h) d_B_isWritten_22
    · have hF := hF.trans (if_neg c_14)
      refine lv_iconst (v := 1) hx hb d_B_isWritten_17 (by decide) ?_
      refine lv_goto (tgt := 22) hx hb d_B_isWritten_18 (by decide) ?_
      exact W.zret (v := (1 : Int32)) (ty := .boolean) hx hb hr rfl (fun t ht hW => ⟨_, rfl, hF.symm, ht⟩) (fun q h => by cases h) d_B_isWritten_22

def M_B_clean (g : GB) (x : Bk) (p0 : Int32) : Bk := (bnd (M_B_isSlot g x p0) (fun r_2 => (if r_2 = 0 then x else (x.1, x.2.1, x.2.2.1, x.2.2.2.1, (upd x.2.2.2.2 p0.toNatClampNeg (vp_nar .boolean (0 : Int32)))))))
theorem M_B_clean_eq (g : GB) (x : Bk) (p0 : Int32) : M_B_clean g x p0 = (bnd (M_B_isSlot g x p0) (fun r_2 => (if r_2 = 0 then x else (x.1, x.2.1, x.2.2.1, x.2.2.2.1, (upd x.2.2.2.2 p0.toNatClampNeg (vp_nar .boolean (0 : Int32))))))) := rfl
abbrev w_B_clean : List Cond := .code y_B_clean b_B_clean 2 none :: tbW
abbrev rm_B_clean : Room := { frames := 1, cells := 0, slots := 0, locals := 21 }
set_option maxHeartbeats 4000000 in
set_option maxRecDepth 100000 in
theorem c_B_clean (l : Launch) (D : va_G) (cI cZ : ClassId) (g : GB) (hg : okB g) (x : Bk) (p0 : Int32) : Met l y_B_clean w_B_clean rm_B_clean (PcW D vwCl (tyK cI cZ) [.ref g.1.1, .int p0] (wB cI cZ g x)) (va_Qv (fun (u : Bk) => u = M_B_clean g x p0) (fun (u : Bk) (t : State) => va_P D vwCl (wB cI cZ g u) t.heap) (Aw (wB cI cZ g x))) 0 0 (Aw (wB cI cZ g x)) := by
  refine Met.ofW (cc := b_B_clean) (maxL := 2) (ret := none) (by decide) rfl ?_
  intro p e s m args below meth c s₁ B hml hv
  obtain ⟨rfl, hP, hK, hD0⟩ := hv
  have hx := B.exec
  have hb := B.bytes
  have hr := B.returns
  have htb : ∀ w ∈ tbW, w.before _ s = true := fun w h => atoms_spec (ws := w_B_clean) B.pre w (List.mem_cons_of_mem _ h)
  have hown : s.vm.findClass R_B = some m.cls := findClass_of_methodNamed B.named
  have hlocks := B.notSynchronized
  have hD : va_D (Aw (wB cI cZ g x)) (wB cI cZ g x) := ⟨hD0.1, fun k q hk => ⟨k, q.2, hk⟩⟩
  have hS : va_S (Aw (wB cI cZ g x)) s.heap s.heap [] := va_S.rf
  have hl := lv_entry ([.ref g.1.1, .int p0]) (n := 2) (Nat.le_of_ble_eq_true rfl)
  rw [lg_entry_eq]
  generalize (lg_sl ([.ref g.1.1, .int p0]) ++ List.replicate (2 - (lg_sl ([.ref g.1.1, .int p0])).length) Slot.unset).toArray = ls at hl ⊢
  have hl : lv_has ls 2 [(0, .ref g.1.1), (1, .int p0)] := hl
  have hF := M_B_clean_eq g x p0
  refine lv_aload_n hx hb d_B_clean_0 rfl (lv_at hl 0 rfl) ?_
  refine lv_iload_n hx hb d_B_clean_1 rfl (lv_at hl 1 rfl) ?_
  refine cpi (As := [.int p0]) (rest := []) ⟨hx, hb, hml, hown, htb⟩ (c_B_isSlot l D cI cZ g hg x p0) (cwv (n := 1) htb cd_B_isSlot k_B_48 in_B_isSlot se_B_isSlot ini_B hd_B_isSlot ⟨Nat.le_of_ble_eq_true rfl, Nat.le_of_ble_eq_true rfl⟩) hK hP [0, 1, 2, 3, 4, 5] rfl (ci := 0) rfl rfl rfl hl.1 rfl (Nat.le_of_ble_eq_true rfl) d_B_clean_2 ⟨Nat.zero_le _, Nat.zero_le _⟩ (fun r_2 hw_2 => ?_)
  have hF := hF.trans (bnd_eq hw_2)
  refine lv_if_eq (tgt := 15) hx hb d_B_clean_5 (by decide) (fun c_5 => ?_) (fun c_5 => ?_)
  · have hF := hF.trans (if_pos c_5)
    exact W.vret hx hb hr (fun t ht hW => ⟨⟨x, rfl, hF.symm, by dsimp only; rw [ht]; exact hP⟩, hS.F ht⟩) hS.2.2 d_B_clean_15
  · have hF := hF.trans (if_neg c_5)
    refine lv_aload_n hx hb d_B_clean_8 rfl (lv_at hl 0 rfl) ?_
    refine va_get (D := D) (ci := 0) (v := .ref g.1.2.2.2.2.2) (C := R_B) (T := T_B) (N := 7) hx hb htb i_B hown hK hP 0 rfl rfl 6 (by decide) (htb _ k_B_37) (fun _ h9 => h9) rfl d_B_clean_9 ?_
    refine lv_iload_n hx hb d_B_clean_12 rfl (lv_at hl 1 rfl) ?_
    refine lv_iconst (v := 0) hx hb d_B_clean_13 (by decide) ?_
    refine va_zast hx hb hK hP hD hS 5 1 rfl rfl (isSlot_in hg hw_2 c_5) d_B_clean_14 (fun H locs hP hD hS => ?_)
    have hP : va_P D vwCl (wB cI cZ g (x.1, x.2.1, x.2.2.1, x.2.2.2.1, (upd x.2.2.2.2 p0.toNatClampNeg (vp_nar .boolean (0 : Int32))))) H := hP
    have hD : va_D _ (wB cI cZ g (x.1, x.2.1, x.2.2.1, x.2.2.2.1, (upd x.2.2.2.2 p0.toNatClampNeg (vp_nar .boolean (0 : Int32))))) := hD
    exact W.vret hx hb hr (fun t ht hW => ⟨⟨(x.1, x.2.1, x.2.2.1, x.2.2.2.1, (upd x.2.2.2.2 p0.toNatClampNeg (vp_nar .boolean (0 : Int32)))), rfl, hF.symm, by dsimp only; rw [ht]; exact hP⟩, hS.F ht⟩) hS.2.2 d_B_clean_15

def M_B_rewrite (g : GB) (x : Bk) (p0 p1 : Int32) : Bk := (bnd (M_B_isSlot g x p0) (fun r_2 => (if r_2 = 0 then x else (x.1, x.2.1, (upd x.2.2.1 p0.toNatClampNeg p1), x.2.2.2.1, (upd x.2.2.2.2 p0.toNatClampNeg (vp_nar .boolean (1 : Int32)))))))
theorem M_B_rewrite_eq (g : GB) (x : Bk) (p0 p1 : Int32) : M_B_rewrite g x p0 p1 = (bnd (M_B_isSlot g x p0) (fun r_2 => (if r_2 = 0 then x else (x.1, x.2.1, (upd x.2.2.1 p0.toNatClampNeg p1), x.2.2.2.1, (upd x.2.2.2.2 p0.toNatClampNeg (vp_nar .boolean (1 : Int32))))))) := rfl
abbrev w_B_rewrite : List Cond := .code y_B_rewrite b_B_rewrite 3 none :: tbW
abbrev rm_B_rewrite : Room := { frames := 1, cells := 0, slots := 0, locals := 21 }
set_option maxHeartbeats 4000000 in
set_option maxRecDepth 100000 in
theorem c_B_rewrite (l : Launch) (D : va_G) (cI cZ : ClassId) (g : GB) (hg : okB g) (x : Bk) (p0 p1 : Int32) : Met l y_B_rewrite w_B_rewrite rm_B_rewrite (PcW D vwCl (tyK cI cZ) [.ref g.1.1, .int p0, .int p1] (wB cI cZ g x)) (va_Qv (fun (u : Bk) => u = M_B_rewrite g x p0 p1) (fun (u : Bk) (t : State) => va_P D vwCl (wB cI cZ g u) t.heap) (Aw (wB cI cZ g x))) 0 0 (Aw (wB cI cZ g x)) := by
  refine Met.ofW (cc := b_B_rewrite) (maxL := 3) (ret := none) (by decide) rfl ?_
  intro p e s m args below meth c s₁ B hml hv
  obtain ⟨rfl, hP, hK, hD0⟩ := hv
  have hx := B.exec
  have hb := B.bytes
  have hr := B.returns
  have htb : ∀ w ∈ tbW, w.before _ s = true := fun w h => atoms_spec (ws := w_B_rewrite) B.pre w (List.mem_cons_of_mem _ h)
  have hown : s.vm.findClass R_B = some m.cls := findClass_of_methodNamed B.named
  have hlocks := B.notSynchronized
  have hD : va_D (Aw (wB cI cZ g x)) (wB cI cZ g x) := ⟨hD0.1, fun k q hk => ⟨k, q.2, hk⟩⟩
  have hS : va_S (Aw (wB cI cZ g x)) s.heap s.heap [] := va_S.rf
  have hl := lv_entry ([.ref g.1.1, .int p0, .int p1]) (n := 3) (Nat.le_of_ble_eq_true rfl)
  rw [lg_entry_eq]
  generalize (lg_sl ([.ref g.1.1, .int p0, .int p1]) ++ List.replicate (3 - (lg_sl ([.ref g.1.1, .int p0, .int p1])).length) Slot.unset).toArray = ls at hl ⊢
  have hl : lv_has ls 3 [(0, .ref g.1.1), (1, .int p0), (2, .int p1)] := hl
  have hF := M_B_rewrite_eq g x p0 p1
  refine lv_aload_n hx hb d_B_rewrite_0 rfl (lv_at hl 0 rfl) ?_
  refine lv_iload_n hx hb d_B_rewrite_1 rfl (lv_at hl 1 rfl) ?_
  refine cpi (As := [.int p0]) (rest := []) ⟨hx, hb, hml, hown, htb⟩ (c_B_isSlot l D cI cZ g hg x p0) (cwv (n := 1) htb cd_B_isSlot k_B_48 in_B_isSlot se_B_isSlot ini_B hd_B_isSlot ⟨Nat.le_of_ble_eq_true rfl, Nat.le_of_ble_eq_true rfl⟩) hK hP [0, 1, 2, 3, 4, 5] rfl (ci := 0) rfl rfl rfl hl.1 rfl (Nat.le_of_ble_eq_true rfl) d_B_rewrite_2 ⟨Nat.zero_le _, Nat.zero_le _⟩ (fun r_2 hw_2 => ?_)
  have hF := hF.trans (bnd_eq hw_2)
  refine lv_if_eq (tgt := 22) hx hb d_B_rewrite_5 (by decide) (fun c_5 => ?_) (fun c_5 => ?_)
  · have hF := hF.trans (if_pos c_5)
    exact W.vret hx hb hr (fun t ht hW => ⟨⟨x, rfl, hF.symm, by dsimp only; rw [ht]; exact hP⟩, hS.F ht⟩) hS.2.2 d_B_rewrite_22
  · have hF := hF.trans (if_neg c_5)
    refine lv_aload_n hx hb d_B_rewrite_8 rfl (lv_at hl 0 rfl) ?_
    refine va_get (D := D) (ci := 0) (v := .ref g.1.2.2.2.1) (C := R_B) (T := T_B) (N := 7) hx hb htb i_B hown hK hP 0 rfl rfl 4 (by decide) (htb _ k_B_31) (fun _ h9 => h9) rfl d_B_rewrite_9 ?_
    refine lv_iload_n hx hb d_B_rewrite_12 rfl (lv_at hl 1 rfl) ?_
    refine lv_iload_n hx hb d_B_rewrite_13 rfl (lv_at hl 2 rfl) ?_
    refine va_iast hx hb hK hP hD hS 3 0 rfl rfl (isSlot_in hg hw_2 c_5) d_B_rewrite_14 (fun H locs hP hD hS => ?_)
    have hP : va_P D vwCl (wB cI cZ g (x.1, x.2.1, (upd x.2.2.1 p0.toNatClampNeg p1), x.2.2.2.1, x.2.2.2.2)) H := hP
    have hD : va_D _ (wB cI cZ g (x.1, x.2.1, (upd x.2.2.1 p0.toNatClampNeg p1), x.2.2.2.1, x.2.2.2.2)) := hD
    refine lv_aload_n hx hb d_B_rewrite_15 rfl (lv_at hl 0 rfl) ?_
    refine va_get (D := D) (ci := 0) (v := .ref g.1.2.2.2.2.2) (C := R_B) (T := T_B) (N := 7) hx hb htb i_B hown hK hP 0 rfl rfl 6 (by decide) (htb _ k_B_37) (fun _ h9 => h9) rfl d_B_rewrite_16 ?_
    refine lv_iload_n hx hb d_B_rewrite_19 rfl (lv_at hl 1 rfl) ?_
    refine lv_iconst (v := 1) hx hb d_B_rewrite_20 (by decide) ?_
    refine va_zast hx hb hK hP hD hS 5 1 rfl rfl (isSlot_in hg hw_2 c_5) d_B_rewrite_21 (fun H locs hP hD hS => ?_)
    have hP : va_P D vwCl (wB cI cZ g (x.1, x.2.1, (upd x.2.2.1 p0.toNatClampNeg p1), x.2.2.2.1, (upd x.2.2.2.2 p0.toNatClampNeg (vp_nar .boolean (1 : Int32))))) H := hP
    have hD : va_D _ (wB cI cZ g (x.1, x.2.1, (upd x.2.2.1 p0.toNatClampNeg p1), x.2.2.2.1, (upd x.2.2.2.2 p0.toNatClampNeg (vp_nar .boolean (1 : Int32))))) := hD
    exact W.vret hx hb hr (fun t ht hW => ⟨⟨(x.1, x.2.1, (upd x.2.2.1 p0.toNatClampNeg p1), x.2.2.2.1, (upd x.2.2.2.2 p0.toNatClampNeg (vp_nar .boolean (1 : Int32)))), rfl, hF.symm, by dsimp only; rw [ht]; exact hP⟩, hS.F ht⟩) hS.2.2 d_B_rewrite_22

def L_B_find_10 (g : GB) (x : Bk) (p0 p1 : Int32) : Nat → Int32 → Int32 → Int32
  | 0, _, _ => 0
  | n + 1, v3, v4 => (bnd (M_B_size g x v3) (fun r_14 => (if r_14 ≤ v4 then (-1 : Int32) else (bnd (M_B_lineAt g x ((v3 * g.2.1.2) + v4)) (fun r_30 => (if r_30 = p1 then ((v3 * g.2.1.2) + v4) else L_B_find_10 g x p0 p1 n v3 (v4 + 1)))))))
theorem L_B_find_10_eq (g : GB) (x : Bk) (p0 p1 : Int32) (n : Nat) (v3 v4 : Int32) : L_B_find_10 g x p0 p1 (n + 1) v3 v4 = (bnd (M_B_size g x v3) (fun r_14 => (if r_14 ≤ v4 then (-1 : Int32) else (bnd (M_B_lineAt g x ((v3 * g.2.1.2) + v4)) (fun r_30 => (if r_30 = p1 then ((v3 * g.2.1.2) + v4) else L_B_find_10 g x p0 p1 n v3 (v4 + 1))))))) := by first | rfl | rw [L_B_find_10]
def M_B_find (g : GB) (x : Bk) (p0 p1 : Int32) : Int32 := (bnd (M_B_placeOf g x p0 p1) (fun r_3 => L_B_find_10 g x p0 p1 (mu (0 : Int32) (M_B_size g x r_3) + 1) r_3 (0 : Int32)))
theorem M_B_find_eq (g : GB) (x : Bk) (p0 p1 : Int32) : M_B_find g x p0 p1 = (bnd (M_B_placeOf g x p0 p1) (fun r_3 => L_B_find_10 g x p0 p1 (mu (0 : Int32) (M_B_size g x r_3) + 1) r_3 (0 : Int32))) := rfl
abbrev w_B_find : List Cond := .code y_B_find b_B_find 5 (some .int) :: tbW
abbrev rm_B_find : Room := { frames := 2, cells := 0, slots := 0, locals := 44 }
set_option maxHeartbeats 4000000 in
set_option maxRecDepth 100000 in
theorem c_B_find (l : Launch) (D : va_G) (cI cZ : ClassId) (g : GB) (hg : okB g) (x : Bk) (p0 p1 : Int32) : Met l y_B_find w_B_find rm_B_find (PcR D vwCl (tyK cI cZ) [.ref g.1.1, .int p0, .int p1] (wB cI cZ g x)) (vp_Si (fun r => r = M_B_find g x p0 p1)) 0 0 (fun _ => False) := by
  refine Met.ofW (cc := b_B_find) (maxL := 5) (ret := (some .int)) (by decide) rfl ?_
  intro p e s m args below meth c s₁ B hml hv
  obtain ⟨rfl, hP, hK⟩ := hv
  have hx := B.exec
  have hb := B.bytes
  have hr := B.returns
  have htb : ∀ w ∈ tbW, w.before _ s = true := fun w h => atoms_spec (ws := w_B_find) B.pre w (List.mem_cons_of_mem _ h)
  have hown : s.vm.findClass R_B = some m.cls := findClass_of_methodNamed B.named
  have hlocks := B.notSynchronized
  have cut_10 : ∀ (n : Nat) (v3 v4 : Int32) (ls : Array Slot), mu v4 (M_B_size g x v3) < n → M_B_find g x p0 p1 = L_B_find_10 g x p0 p1 n v3 v4 → lv_has ls 5 [(0, .ref g.1.1), (1, .int p0), (2, .int p1), (3, .int v3), (4, .int v4)] → W p l e (headSpec w_B_find rm_B_find).room s m ([.ref g.1.1, .int p0, .int p1] : List Value).toArray below meth c s.heap [] 0 0 (MQ below (vp_Si (fun r => r = M_B_find g x p0 p1)) ([.ref g.1.1, .int p0, .int p1] : List Value).toArray s 0 0 (fun _ => False)) (F0 m 10 ls []) := by
    intro n
    induction n with
    | zero => intro v3 v4 ls hm _ _; exact absurd hm (Nat.not_lt_zero _)
    | succ n ih =>
      intro v3 v4 ls hm hF hl
      have hF := hF.trans (L_B_find_10_eq g x p0 p1 n v3 v4)
      refine lv_iload hx hb d_B_find_10 (lv_at hl 4 rfl) ?_
      refine lv_aload_n hx hb d_B_find_12 rfl (lv_at hl 0 rfl) ?_
      refine lv_iload_n hx hb d_B_find_13 rfl (lv_at hl 3 rfl) ?_
      refine cpi (As := [.int v3]) (rest := [.int v4]) ⟨hx, hb, hml, hown, htb⟩ (c_B_size l D cI cZ g hg x v3) (cwv (n := 1) htb cd_B_size k_B_44 in_B_size se_B_size ini_B hd_B_size ⟨Nat.le_of_ble_eq_true rfl, Nat.le_of_ble_eq_true rfl⟩) hK hP [0, 1, 2, 3, 4, 5] rfl (ci := 0) rfl rfl rfl hl.1 rfl (Nat.le_of_ble_eq_true rfl) d_B_find_14 ⟨Nat.zero_le _, Nat.zero_le _⟩ (fun r_14 hw_14 => ?_)
      have hF := hF.trans (bnd_eq hw_14)
      refine lv_icmp_ge (tgt := 53) hx hb d_B_find_17 (by decide) (fun c_17 => ?_) (fun c_17 => ?_)
      · have hF := hF.trans (if_pos c_17)
        refine lv_iconst (v := -1) hx hb d_B_find_53 (by decide) ?_
        exact W.iret (v := (-1 : Int32)) hx hb hr (fun t ht hW => ⟨_, rfl, hF.symm, ht⟩) (fun q h => by cases h) d_B_find_54
      · have hF := hF.trans (if_neg c_17)
        refine lv_aload_n hx hb d_B_find_20 rfl (lv_at hl 0 rfl) ?_
        refine lv_iload_n hx hb d_B_find_21 rfl (lv_at hl 3 rfl) ?_
        refine lv_aload_n hx hb d_B_find_22 rfl (lv_at hl 0 rfl) ?_
        refine va_get (D := D) (ci := 0) (v := .int g.2.1.2) (C := R_B) (T := T_B) (N := 7) hx hb htb i_B hown hK hP 0 rfl rfl 1 (by decide) (htb _ k_B_21) (fun _ h9 => h9) rfl d_B_find_23 ?_
        refine lv_imul hx hb d_B_find_26 ?_
        refine lv_iload hx hb d_B_find_27 (lv_at hl 4 rfl) ?_
        refine lv_iadd hx hb d_B_find_29 ?_
        refine cpi (As := [.int ((v3 * g.2.1.2) + v4)]) (rest := []) ⟨hx, hb, hml, hown, htb⟩ (c_B_lineAt l D cI cZ g hg x ((v3 * g.2.1.2) + v4)) (cwv (n := 1) htb cd_B_lineAt k_B_55 in_B_lineAt se_B_lineAt ini_B hd_B_lineAt ⟨Nat.le_of_ble_eq_true rfl, Nat.le_of_ble_eq_true rfl⟩) hK hP [0, 1, 2, 3, 4, 5] rfl (ci := 0) rfl rfl rfl hl.1 rfl (Nat.le_of_ble_eq_true rfl) d_B_find_30 ⟨Nat.zero_le _, Nat.zero_le _⟩ (fun r_30 hw_30 => ?_)
        have hF := hF.trans (bnd_eq hw_30)
        refine lv_iload_n hx hb d_B_find_33 rfl (lv_at hl 2 rfl) ?_
        refine lv_icmp_ne (tgt := 47) hx hb d_B_find_34 (by decide) (fun c_34 => ?_) (fun c_34 => ?_)
        · have hF := hF.trans (if_neg c_34)
          refine lv_iinc (v := (v4 + 1)) (lv' := [(4, .int (v4 + 1)), (0, .ref g.1.1), (1, .int p0), (2, .int p1), (3, .int v3)]) hx hb d_B_find_47 hl (k := 4) rfl rfl (by decide) rfl (fun ls hl => ?_)
          refine lv_goto (tgt := 10) hx hb d_B_find_50 (by decide) ?_
          have hl := lv_sub (l' := [(0, .ref g.1.1), (1, .int p0), (2, .int p1), (3, .int v3), (4, .int (v4 + 1))]) hl [1, 2, 3, 4, 0] rfl
          exact ih v3 (v4 + 1) _ (Nat.lt_of_lt_of_le (mu_decr hw_14 c_17) (Nat.le_of_lt_succ hm)) hF hl
        · have hF := hF.trans (if_pos c_34)
          refine lv_iload_n hx hb d_B_find_37 rfl (lv_at hl 3 rfl) ?_
          refine lv_aload_n hx hb d_B_find_38 rfl (lv_at hl 0 rfl) ?_
          refine va_get (D := D) (ci := 0) (v := .int g.2.1.2) (C := R_B) (T := T_B) (N := 7) hx hb htb i_B hown hK hP 0 rfl rfl 1 (by decide) (htb _ k_B_21) (fun _ h9 => h9) rfl d_B_find_39 ?_
          refine lv_imul hx hb d_B_find_42 ?_
          refine lv_iload hx hb d_B_find_43 (lv_at hl 4 rfl) ?_
          refine lv_iadd hx hb d_B_find_45 ?_
          exact W.iret (v := ((v3 * g.2.1.2) + v4)) hx hb hr (fun t ht hW => ⟨_, rfl, hF.symm, ht⟩) (fun q h => by cases h) d_B_find_46
  have hl := lv_entry ([.ref g.1.1, .int p0, .int p1]) (n := 5) (Nat.le_of_ble_eq_true rfl)
  rw [lg_entry_eq]
  generalize (lg_sl ([.ref g.1.1, .int p0, .int p1]) ++ List.replicate (5 - (lg_sl ([.ref g.1.1, .int p0, .int p1])).length) Slot.unset).toArray = ls at hl ⊢
  have hl : lv_has ls 5 [(0, .ref g.1.1), (1, .int p0), (2, .int p1)] := hl
  have hF := M_B_find_eq g x p0 p1
  refine lv_aload_n hx hb d_B_find_0 rfl (lv_at hl 0 rfl) ?_
  refine lv_iload_n hx hb d_B_find_1 rfl (lv_at hl 1 rfl) ?_
  refine lv_iload_n hx hb d_B_find_2 rfl (lv_at hl 2 rfl) ?_
  refine cpi (As := [.int p0, .int p1]) (rest := []) ⟨hx, hb, hml, hown, htb⟩ (c_B_placeOf l D cI cZ g hg x p0 p1) (cwv (n := 2) htb cd_B_placeOf k_B_52 in_B_placeOf se_B_placeOf ini_B hd_B_placeOf ⟨Nat.le_of_ble_eq_true rfl, Nat.le_of_ble_eq_true rfl⟩) hK hP [0, 1, 2, 3, 4, 5] rfl (ci := 0) rfl rfl rfl hl.1 rfl (Nat.le_of_ble_eq_true rfl) d_B_find_3 ⟨Nat.zero_le _, Nat.zero_le _⟩ (fun r_3 hw_3 => ?_)
  have hF := hF.trans (bnd_eq hw_3)
  refine lv_istore_n (lv' := [(3, .int r_3), (0, .ref g.1.1), (1, .int p0), (2, .int p1)]) hx hb d_B_find_6 rfl hl (by decide) rfl (fun ls hl => ?_)
  refine lv_iconst (v := 0) hx hb d_B_find_7 (by decide) ?_
  refine lv_istore (lv' := [(4, .int (0 : Int32)), (3, .int r_3), (0, .ref g.1.1), (1, .int p0), (2, .int p1)]) hx hb d_B_find_8 hl (by decide) rfl (fun ls hl => ?_)
  have hl := lv_sub (l' := [(0, .ref g.1.1), (1, .int p0), (2, .int p1), (3, .int r_3), (4, .int (0 : Int32))]) hl [2, 3, 4, 1, 0] rfl
  exact cut_10 (mu (0 : Int32) (M_B_size g x r_3) + 1) r_3 (0 : Int32) _ (Nat.lt_succ_self _) hF hl

def M_B_oldest (g : GB) (x : Bk) (p0 : Int32) : Int32 := (bnd (M_B_size g x p0) (fun r_2 => (if r_2 ≤ 0 then (-1 : Int32) else (((p0 * g.2.1.2) + r_2) - (1 : Int32)))))
theorem M_B_oldest_eq (g : GB) (x : Bk) (p0 : Int32) : M_B_oldest g x p0 = (bnd (M_B_size g x p0) (fun r_2 => (if r_2 ≤ 0 then (-1 : Int32) else (((p0 * g.2.1.2) + r_2) - (1 : Int32))))) := rfl
abbrev w_B_oldest : List Cond := .code y_B_oldest b_B_oldest 3 (some .int) :: tbW
abbrev rm_B_oldest : Room := { frames := 1, cells := 0, slots := 0, locals := 21 }
set_option maxHeartbeats 4000000 in
set_option maxRecDepth 100000 in
theorem c_B_oldest (l : Launch) (D : va_G) (cI cZ : ClassId) (g : GB) (hg : okB g) (x : Bk) (p0 : Int32) : Met l y_B_oldest w_B_oldest rm_B_oldest (PcR D vwCl (tyK cI cZ) [.ref g.1.1, .int p0] (wB cI cZ g x)) (vp_Si (fun r => r = M_B_oldest g x p0)) 0 0 (fun _ => False) := by
  refine Met.ofW (cc := b_B_oldest) (maxL := 3) (ret := (some .int)) (by decide) rfl ?_
  intro p e s m args below meth c s₁ B hml hv
  obtain ⟨rfl, hP, hK⟩ := hv
  have hx := B.exec
  have hb := B.bytes
  have hr := B.returns
  have htb : ∀ w ∈ tbW, w.before _ s = true := fun w h => atoms_spec (ws := w_B_oldest) B.pre w (List.mem_cons_of_mem _ h)
  have hown : s.vm.findClass R_B = some m.cls := findClass_of_methodNamed B.named
  have hlocks := B.notSynchronized
  have hl := lv_entry ([.ref g.1.1, .int p0]) (n := 3) (Nat.le_of_ble_eq_true rfl)
  rw [lg_entry_eq]
  generalize (lg_sl ([.ref g.1.1, .int p0]) ++ List.replicate (3 - (lg_sl ([.ref g.1.1, .int p0])).length) Slot.unset).toArray = ls at hl ⊢
  have hl : lv_has ls 3 [(0, .ref g.1.1), (1, .int p0)] := hl
  have hF := M_B_oldest_eq g x p0
  refine lv_aload_n hx hb d_B_oldest_0 rfl (lv_at hl 0 rfl) ?_
  refine lv_iload_n hx hb d_B_oldest_1 rfl (lv_at hl 1 rfl) ?_
  refine cpi (As := [.int p0]) (rest := []) ⟨hx, hb, hml, hown, htb⟩ (c_B_size l D cI cZ g hg x p0) (cwv (n := 1) htb cd_B_size k_B_44 in_B_size se_B_size ini_B hd_B_size ⟨Nat.le_of_ble_eq_true rfl, Nat.le_of_ble_eq_true rfl⟩) hK hP [0, 1, 2, 3, 4, 5] rfl (ci := 0) rfl rfl rfl hl.1 rfl (Nat.le_of_ble_eq_true rfl) d_B_oldest_2 ⟨Nat.zero_le _, Nat.zero_le _⟩ (fun r_2 hw_2 => ?_)
  have hF := hF.trans (bnd_eq hw_2)
  refine lv_istore_n (lv' := [(2, .int r_2), (0, .ref g.1.1), (1, .int p0)]) hx hb d_B_oldest_5 rfl hl (by decide) rfl (fun ls hl => ?_)
  refine lv_iload_n hx hb d_B_oldest_6 rfl (lv_at hl 0 rfl) ?_
  refine lv_if_le (tgt := 23) hx hb d_B_oldest_7 (by decide) (fun c_7 => ?_) (fun c_7 => ?_)
  · have hF := hF.trans (if_pos c_7)
    refine lv_iconst (v := -1) hx hb d_B_oldest_23 (by decide) ?_
    exact W.iret (v := (-1 : Int32)) hx hb hr (fun t ht hW => ⟨_, rfl, hF.symm, ht⟩) (fun q h => by cases h) d_B_oldest_24
  · have hF := hF.trans (if_neg c_7)
    refine lv_iload_n hx hb d_B_oldest_10 rfl (lv_at hl 2 rfl) ?_
    refine lv_aload_n hx hb d_B_oldest_11 rfl (lv_at hl 1 rfl) ?_
    refine va_get (D := D) (ci := 0) (v := .int g.2.1.2) (C := R_B) (T := T_B) (N := 7) hx hb htb i_B hown hK hP 0 rfl rfl 1 (by decide) (htb _ k_B_21) (fun _ h9 => h9) rfl d_B_oldest_12 ?_
    refine lv_imul hx hb d_B_oldest_15 ?_
    refine lv_iload_n hx hb d_B_oldest_16 rfl (lv_at hl 0 rfl) ?_
    refine lv_iadd hx hb d_B_oldest_17 ?_
    refine lv_iconst (v := 1) hx hb d_B_oldest_18 (by decide) ?_
    refine lv_isub hx hb d_B_oldest_19 ?_
    refine lv_goto (tgt := 24) hx hb d_B_oldest_20 (by decide) ?_
    exact W.iret (v := (((p0 * g.2.1.2) + r_2) - (1 : Int32))) hx hb hr (fun t ht hW => ⟨_, rfl, hF.symm, ht⟩) (fun q h => by cases h) d_B_oldest_24

def L_B_oldestOwned_8 (g : GB) (x : Bk) (p0 p1 : Int32) : Nat → Int32 → Int32
  | 0, _ => 0
  | n + 1, v3 => (if v3 < 0 then (-1 : Int32) else (bnd (M_B_ownerAt g x ((p0 * g.2.1.2) + v3)) (fun r_21 => (if r_21 = p1 then ((p0 * g.2.1.2) + v3) else L_B_oldestOwned_8 g x p0 p1 n (v3 + (-1))))))
theorem L_B_oldestOwned_8_eq (g : GB) (x : Bk) (p0 p1 : Int32) (n : Nat) (v3 : Int32) : L_B_oldestOwned_8 g x p0 p1 (n + 1) v3 = (if v3 < 0 then (-1 : Int32) else (bnd (M_B_ownerAt g x ((p0 * g.2.1.2) + v3)) (fun r_21 => (if r_21 = p1 then ((p0 * g.2.1.2) + v3) else L_B_oldestOwned_8 g x p0 p1 n (v3 + (-1)))))) := by first | rfl | rw [L_B_oldestOwned_8]
def M_B_oldestOwned (g : GB) (x : Bk) (p0 p1 : Int32) : Int32 := (bnd (M_B_size g x p0) (fun r_2 => L_B_oldestOwned_8 g x p0 p1 (dn (r_2 - (1 : Int32)) + 1) (r_2 - (1 : Int32))))
theorem M_B_oldestOwned_eq (g : GB) (x : Bk) (p0 p1 : Int32) : M_B_oldestOwned g x p0 p1 = (bnd (M_B_size g x p0) (fun r_2 => L_B_oldestOwned_8 g x p0 p1 (dn (r_2 - (1 : Int32)) + 1) (r_2 - (1 : Int32)))) := rfl
abbrev w_B_oldestOwned : List Cond := .code y_B_oldestOwned b_B_oldestOwned 4 (some .int) :: tbW
abbrev rm_B_oldestOwned : Room := { frames := 2, cells := 0, slots := 0, locals := 42 }
set_option maxHeartbeats 4000000 in
set_option maxRecDepth 100000 in
theorem c_B_oldestOwned (l : Launch) (D : va_G) (cI cZ : ClassId) (g : GB) (hg : okB g) (x : Bk) (p0 p1 : Int32) : Met l y_B_oldestOwned w_B_oldestOwned rm_B_oldestOwned (PcR D vwCl (tyK cI cZ) [.ref g.1.1, .int p0, .int p1] (wB cI cZ g x)) (vp_Si (fun r => r = M_B_oldestOwned g x p0 p1)) 0 0 (fun _ => False) := by
  refine Met.ofW (cc := b_B_oldestOwned) (maxL := 4) (ret := (some .int)) (by decide) rfl ?_
  intro p e s m args below meth c s₁ B hml hv
  obtain ⟨rfl, hP, hK⟩ := hv
  have hx := B.exec
  have hb := B.bytes
  have hr := B.returns
  have htb : ∀ w ∈ tbW, w.before _ s = true := fun w h => atoms_spec (ws := w_B_oldestOwned) B.pre w (List.mem_cons_of_mem _ h)
  have hown : s.vm.findClass R_B = some m.cls := findClass_of_methodNamed B.named
  have hlocks := B.notSynchronized
  have cut_8 : ∀ (n : Nat) (v3 : Int32) (ls : Array Slot), dn v3 < n → M_B_oldestOwned g x p0 p1 = L_B_oldestOwned_8 g x p0 p1 n v3 → lv_has ls 4 [(0, .ref g.1.1), (1, .int p0), (2, .int p1), (3, .int v3)] → W p l e (headSpec w_B_oldestOwned rm_B_oldestOwned).room s m ([.ref g.1.1, .int p0, .int p1] : List Value).toArray below meth c s.heap [] 0 0 (MQ below (vp_Si (fun r => r = M_B_oldestOwned g x p0 p1)) ([.ref g.1.1, .int p0, .int p1] : List Value).toArray s 0 0 (fun _ => False)) (F0 m 8 ls []) := by
    intro n
    induction n with
    | zero => intro v3 ls hm _ _; exact absurd hm (Nat.not_lt_zero _)
    | succ n ih =>
      intro v3 ls hm hF hl
      have hF := hF.trans (L_B_oldestOwned_8_eq g x p0 p1 n v3)
      refine lv_iload_n hx hb d_B_oldestOwned_8 rfl (lv_at hl 3 rfl) ?_
      refine lv_if_lt (tgt := 43) hx hb d_B_oldestOwned_9 (by decide) (fun c_9 => ?_) (fun c_9 => ?_)
      · have hF := hF.trans (if_pos c_9)
        refine lv_iconst (v := -1) hx hb d_B_oldestOwned_43 (by decide) ?_
        exact W.iret (v := (-1 : Int32)) hx hb hr (fun t ht hW => ⟨_, rfl, hF.symm, ht⟩) (fun q h => by cases h) d_B_oldestOwned_44
      · have hF := hF.trans (if_neg c_9)
        refine lv_aload_n hx hb d_B_oldestOwned_12 rfl (lv_at hl 0 rfl) ?_
        refine lv_iload_n hx hb d_B_oldestOwned_13 rfl (lv_at hl 1 rfl) ?_
        refine lv_aload_n hx hb d_B_oldestOwned_14 rfl (lv_at hl 0 rfl) ?_
        refine va_get (D := D) (ci := 0) (v := .int g.2.1.2) (C := R_B) (T := T_B) (N := 7) hx hb htb i_B hown hK hP 0 rfl rfl 1 (by decide) (htb _ k_B_21) (fun _ h9 => h9) rfl d_B_oldestOwned_15 ?_
        refine lv_imul hx hb d_B_oldestOwned_18 ?_
        refine lv_iload_n hx hb d_B_oldestOwned_19 rfl (lv_at hl 3 rfl) ?_
        refine lv_iadd hx hb d_B_oldestOwned_20 ?_
        refine cpi (As := [.int ((p0 * g.2.1.2) + v3)]) (rest := []) ⟨hx, hb, hml, hown, htb⟩ (c_B_ownerAt l D cI cZ g hg x ((p0 * g.2.1.2) + v3)) (cwv (n := 1) htb cd_B_ownerAt k_B_58 in_B_ownerAt se_B_ownerAt ini_B hd_B_ownerAt ⟨Nat.le_of_ble_eq_true rfl, Nat.le_of_ble_eq_true rfl⟩) hK hP [0, 1, 2, 3, 4, 5] rfl (ci := 0) rfl rfl rfl hl.1 rfl (Nat.le_of_ble_eq_true rfl) d_B_oldestOwned_21 ⟨Nat.zero_le _, Nat.zero_le _⟩ (fun r_21 hw_21 => ?_)
        have hF := hF.trans (bnd_eq hw_21)
        refine lv_iload_n hx hb d_B_oldestOwned_24 rfl (lv_at hl 2 rfl) ?_
        refine lv_icmp_ne (tgt := 37) hx hb d_B_oldestOwned_25 (by decide) (fun c_25 => ?_) (fun c_25 => ?_)
        · have hF := hF.trans (if_neg c_25)
          refine lv_iinc (v := (v3 + (-1))) (lv' := [(3, .int (v3 + (-1))), (0, .ref g.1.1), (1, .int p0), (2, .int p1)]) hx hb d_B_oldestOwned_37 hl (k := 3) rfl rfl (by decide) rfl (fun ls hl => ?_)
          refine lv_goto (tgt := 8) hx hb d_B_oldestOwned_40 (by decide) ?_
          have hl := lv_sub (l' := [(0, .ref g.1.1), (1, .int p0), (2, .int p1), (3, .int (v3 + (-1)))]) hl [1, 2, 3, 0] rfl
          exact ih (v3 + (-1)) _ (Nat.lt_of_lt_of_le (dn_dec c_9) (Nat.le_of_lt_succ hm)) hF hl
        · have hF := hF.trans (if_pos c_25)
          refine lv_iload_n hx hb d_B_oldestOwned_28 rfl (lv_at hl 1 rfl) ?_
          refine lv_aload_n hx hb d_B_oldestOwned_29 rfl (lv_at hl 0 rfl) ?_
          refine va_get (D := D) (ci := 0) (v := .int g.2.1.2) (C := R_B) (T := T_B) (N := 7) hx hb htb i_B hown hK hP 0 rfl rfl 1 (by decide) (htb _ k_B_21) (fun _ h9 => h9) rfl d_B_oldestOwned_30 ?_
          refine lv_imul hx hb d_B_oldestOwned_33 ?_
          refine lv_iload_n hx hb d_B_oldestOwned_34 rfl (lv_at hl 3 rfl) ?_
          refine lv_iadd hx hb d_B_oldestOwned_35 ?_
          exact W.iret (v := ((p0 * g.2.1.2) + v3)) hx hb hr (fun t ht hW => ⟨_, rfl, hF.symm, ht⟩) (fun q h => by cases h) d_B_oldestOwned_36
  have hl := lv_entry ([.ref g.1.1, .int p0, .int p1]) (n := 4) (Nat.le_of_ble_eq_true rfl)
  rw [lg_entry_eq]
  generalize (lg_sl ([.ref g.1.1, .int p0, .int p1]) ++ List.replicate (4 - (lg_sl ([.ref g.1.1, .int p0, .int p1])).length) Slot.unset).toArray = ls at hl ⊢
  have hl : lv_has ls 4 [(0, .ref g.1.1), (1, .int p0), (2, .int p1)] := hl
  have hF := M_B_oldestOwned_eq g x p0 p1
  refine lv_aload_n hx hb d_B_oldestOwned_0 rfl (lv_at hl 0 rfl) ?_
  refine lv_iload_n hx hb d_B_oldestOwned_1 rfl (lv_at hl 1 rfl) ?_
  refine cpi (As := [.int p0]) (rest := []) ⟨hx, hb, hml, hown, htb⟩ (c_B_size l D cI cZ g hg x p0) (cwv (n := 1) htb cd_B_size k_B_44 in_B_size se_B_size ini_B hd_B_size ⟨Nat.le_of_ble_eq_true rfl, Nat.le_of_ble_eq_true rfl⟩) hK hP [0, 1, 2, 3, 4, 5] rfl (ci := 0) rfl rfl rfl hl.1 rfl (Nat.le_of_ble_eq_true rfl) d_B_oldestOwned_2 ⟨Nat.zero_le _, Nat.zero_le _⟩ (fun r_2 hw_2 => ?_)
  have hF := hF.trans (bnd_eq hw_2)
  refine lv_iconst (v := 1) hx hb d_B_oldestOwned_5 (by decide) ?_
  refine lv_isub hx hb d_B_oldestOwned_6 ?_
  refine lv_istore_n (lv' := [(3, .int (r_2 - (1 : Int32))), (0, .ref g.1.1), (1, .int p0), (2, .int p1)]) hx hb d_B_oldestOwned_7 rfl hl (by decide) rfl (fun ls hl => ?_)
  have hl := lv_sub (l' := [(0, .ref g.1.1), (1, .int p0), (2, .int p1), (3, .int (r_2 - (1 : Int32)))]) hl [1, 2, 3, 0] rfl
  exact cut_8 (dn (r_2 - (1 : Int32)) + 1) (r_2 - (1 : Int32)) _ (Nat.lt_succ_self _) hF hl

def L_B_ownedAt_5 (g : GB) (x : Bk) (p0 p1 : Int32) : Nat → Int32 → Int32 → Int32
  | 0, _, _ => 0
  | n + 1, v3, v4 => (bnd (M_B_size g x p0) (fun r_9 => (if r_9 ≤ v4 then v3 else (bnd (M_B_ownerAt g x ((p0 * g.2.1.2) + v4)) (fun r_25 => (if r_25 = p1 then L_B_ownedAt_5 g x p0 p1 n (v3 + 1) (v4 + 1) else L_B_ownedAt_5 g x p0 p1 n v3 (v4 + 1)))))))
theorem L_B_ownedAt_5_eq (g : GB) (x : Bk) (p0 p1 : Int32) (n : Nat) (v3 v4 : Int32) : L_B_ownedAt_5 g x p0 p1 (n + 1) v3 v4 = (bnd (M_B_size g x p0) (fun r_9 => (if r_9 ≤ v4 then v3 else (bnd (M_B_ownerAt g x ((p0 * g.2.1.2) + v4)) (fun r_25 => (if r_25 = p1 then L_B_ownedAt_5 g x p0 p1 n (v3 + 1) (v4 + 1) else L_B_ownedAt_5 g x p0 p1 n v3 (v4 + 1))))))) := by first | rfl | rw [L_B_ownedAt_5]
def M_B_ownedAt (g : GB) (x : Bk) (p0 p1 : Int32) : Int32 := L_B_ownedAt_5 g x p0 p1 (mu (0 : Int32) (M_B_size g x p0) + 1) (0 : Int32) (0 : Int32)
theorem M_B_ownedAt_eq (g : GB) (x : Bk) (p0 p1 : Int32) : M_B_ownedAt g x p0 p1 = L_B_ownedAt_5 g x p0 p1 (mu (0 : Int32) (M_B_size g x p0) + 1) (0 : Int32) (0 : Int32) := rfl
abbrev w_B_ownedAt : List Cond := .code y_B_ownedAt b_B_ownedAt 5 (some .int) :: tbW
abbrev rm_B_ownedAt : Room := { frames := 2, cells := 0, slots := 0, locals := 42 }
set_option maxHeartbeats 4000000 in
set_option maxRecDepth 100000 in
theorem c_B_ownedAt (l : Launch) (D : va_G) (cI cZ : ClassId) (g : GB) (hg : okB g) (x : Bk) (p0 p1 : Int32) : Met l y_B_ownedAt w_B_ownedAt rm_B_ownedAt (PcR D vwCl (tyK cI cZ) [.ref g.1.1, .int p0, .int p1] (wB cI cZ g x)) (vp_Si (fun r => r = M_B_ownedAt g x p0 p1)) 0 0 (fun _ => False) := by
  refine Met.ofW (cc := b_B_ownedAt) (maxL := 5) (ret := (some .int)) (by decide) rfl ?_
  intro p e s m args below meth c s₁ B hml hv
  obtain ⟨rfl, hP, hK⟩ := hv
  have hx := B.exec
  have hb := B.bytes
  have hr := B.returns
  have htb : ∀ w ∈ tbW, w.before _ s = true := fun w h => atoms_spec (ws := w_B_ownedAt) B.pre w (List.mem_cons_of_mem _ h)
  have hown : s.vm.findClass R_B = some m.cls := findClass_of_methodNamed B.named
  have hlocks := B.notSynchronized
  have cut_5 : ∀ (n : Nat) (v3 v4 : Int32) (ls : Array Slot), mu v4 (M_B_size g x p0) < n → M_B_ownedAt g x p0 p1 = L_B_ownedAt_5 g x p0 p1 n v3 v4 → lv_has ls 5 [(0, .ref g.1.1), (1, .int p0), (2, .int p1), (3, .int v3), (4, .int v4)] → W p l e (headSpec w_B_ownedAt rm_B_ownedAt).room s m ([.ref g.1.1, .int p0, .int p1] : List Value).toArray below meth c s.heap [] 0 0 (MQ below (vp_Si (fun r => r = M_B_ownedAt g x p0 p1)) ([.ref g.1.1, .int p0, .int p1] : List Value).toArray s 0 0 (fun _ => False)) (F0 m 5 ls []) := by
    intro n
    induction n with
    | zero => intro v3 v4 ls hm _ _; exact absurd hm (Nat.not_lt_zero _)
    | succ n ih =>
      intro v3 v4 ls hm hF hl
      have hF := hF.trans (L_B_ownedAt_5_eq g x p0 p1 n v3 v4)
      refine lv_iload hx hb d_B_ownedAt_5 (lv_at hl 4 rfl) ?_
      refine lv_aload_n hx hb d_B_ownedAt_7 rfl (lv_at hl 0 rfl) ?_
      refine lv_iload_n hx hb d_B_ownedAt_8 rfl (lv_at hl 1 rfl) ?_
      refine cpi (As := [.int p0]) (rest := [.int v4]) ⟨hx, hb, hml, hown, htb⟩ (c_B_size l D cI cZ g hg x p0) (cwv (n := 1) htb cd_B_size k_B_44 in_B_size se_B_size ini_B hd_B_size ⟨Nat.le_of_ble_eq_true rfl, Nat.le_of_ble_eq_true rfl⟩) hK hP [0, 1, 2, 3, 4, 5] rfl (ci := 0) rfl rfl rfl hl.1 rfl (Nat.le_of_ble_eq_true rfl) d_B_ownedAt_9 ⟨Nat.zero_le _, Nat.zero_le _⟩ (fun r_9 hw_9 => ?_)
      have hF := hF.trans (bnd_eq hw_9)
      refine lv_icmp_ge (tgt := 41) hx hb d_B_ownedAt_12 (by decide) (fun c_12 => ?_) (fun c_12 => ?_)
      · have hF := hF.trans (if_pos c_12)
        refine lv_iload_n hx hb d_B_ownedAt_41 rfl (lv_at hl 3 rfl) ?_
        exact W.iret (v := v3) hx hb hr (fun t ht hW => ⟨_, rfl, hF.symm, ht⟩) (fun q h => by cases h) d_B_ownedAt_42
      · have hF := hF.trans (if_neg c_12)
        refine lv_aload_n hx hb d_B_ownedAt_15 rfl (lv_at hl 0 rfl) ?_
        refine lv_iload_n hx hb d_B_ownedAt_16 rfl (lv_at hl 1 rfl) ?_
        refine lv_aload_n hx hb d_B_ownedAt_17 rfl (lv_at hl 0 rfl) ?_
        refine va_get (D := D) (ci := 0) (v := .int g.2.1.2) (C := R_B) (T := T_B) (N := 7) hx hb htb i_B hown hK hP 0 rfl rfl 1 (by decide) (htb _ k_B_21) (fun _ h9 => h9) rfl d_B_ownedAt_18 ?_
        refine lv_imul hx hb d_B_ownedAt_21 ?_
        refine lv_iload hx hb d_B_ownedAt_22 (lv_at hl 4 rfl) ?_
        refine lv_iadd hx hb d_B_ownedAt_24 ?_
        refine cpi (As := [.int ((p0 * g.2.1.2) + v4)]) (rest := []) ⟨hx, hb, hml, hown, htb⟩ (c_B_ownerAt l D cI cZ g hg x ((p0 * g.2.1.2) + v4)) (cwv (n := 1) htb cd_B_ownerAt k_B_58 in_B_ownerAt se_B_ownerAt ini_B hd_B_ownerAt ⟨Nat.le_of_ble_eq_true rfl, Nat.le_of_ble_eq_true rfl⟩) hK hP [0, 1, 2, 3, 4, 5] rfl (ci := 0) rfl rfl rfl hl.1 rfl (Nat.le_of_ble_eq_true rfl) d_B_ownedAt_25 ⟨Nat.zero_le _, Nat.zero_le _⟩ (fun r_25 hw_25 => ?_)
        have hF := hF.trans (bnd_eq hw_25)
        refine lv_iload_n hx hb d_B_ownedAt_28 rfl (lv_at hl 2 rfl) ?_
        refine lv_icmp_ne (tgt := 35) hx hb d_B_ownedAt_29 (by decide) (fun c_29 => ?_) (fun c_29 => ?_)
        · have hF := hF.trans (if_neg c_29)
          refine lv_iinc (v := (v4 + 1)) (lv' := [(4, .int (v4 + 1)), (0, .ref g.1.1), (1, .int p0), (2, .int p1), (3, .int v3)]) hx hb d_B_ownedAt_35 hl (k := 4) rfl rfl (by decide) rfl (fun ls hl => ?_)
          refine lv_goto (tgt := 5) hx hb d_B_ownedAt_38 (by decide) ?_
          have hl := lv_sub (l' := [(0, .ref g.1.1), (1, .int p0), (2, .int p1), (3, .int v3), (4, .int (v4 + 1))]) hl [1, 2, 3, 4, 0] rfl
          exact ih v3 (v4 + 1) _ (Nat.lt_of_lt_of_le (mu_decr hw_9 c_12) (Nat.le_of_lt_succ hm)) hF hl
        · have hF := hF.trans (if_pos c_29)
          refine lv_iinc (v := (v3 + 1)) (lv' := [(3, .int (v3 + 1)), (0, .ref g.1.1), (1, .int p0), (2, .int p1), (4, .int v4)]) hx hb d_B_ownedAt_32 hl (k := 3) rfl rfl (by decide) rfl (fun ls hl => ?_)
          refine lv_iinc (v := (v4 + 1)) (lv' := [(4, .int (v4 + 1)), (3, .int (v3 + 1)), (0, .ref g.1.1), (1, .int p0), (2, .int p1)]) hx hb d_B_ownedAt_35 hl (k := 4) rfl rfl (by decide) rfl (fun ls hl => ?_)
          refine lv_goto (tgt := 5) hx hb d_B_ownedAt_38 (by decide) ?_
          have hl := lv_sub (l' := [(0, .ref g.1.1), (1, .int p0), (2, .int p1), (3, .int (v3 + 1)), (4, .int (v4 + 1))]) hl [2, 3, 4, 1, 0] rfl
          exact ih (v3 + 1) (v4 + 1) _ (Nat.lt_of_lt_of_le (mu_decr hw_9 c_12) (Nat.le_of_lt_succ hm)) hF hl
  have hl := lv_entry ([.ref g.1.1, .int p0, .int p1]) (n := 5) (Nat.le_of_ble_eq_true rfl)
  rw [lg_entry_eq]
  generalize (lg_sl ([.ref g.1.1, .int p0, .int p1]) ++ List.replicate (5 - (lg_sl ([.ref g.1.1, .int p0, .int p1])).length) Slot.unset).toArray = ls at hl ⊢
  have hl : lv_has ls 5 [(0, .ref g.1.1), (1, .int p0), (2, .int p1)] := hl
  have hF := M_B_ownedAt_eq g x p0 p1
  refine lv_iconst (v := 0) hx hb d_B_ownedAt_0 (by decide) ?_
  refine lv_istore_n (lv' := [(3, .int (0 : Int32)), (0, .ref g.1.1), (1, .int p0), (2, .int p1)]) hx hb d_B_ownedAt_1 rfl hl (by decide) rfl (fun ls hl => ?_)
  refine lv_iconst (v := 0) hx hb d_B_ownedAt_2 (by decide) ?_
  refine lv_istore (lv' := [(4, .int (0 : Int32)), (3, .int (0 : Int32)), (0, .ref g.1.1), (1, .int p0), (2, .int p1)]) hx hb d_B_ownedAt_3 hl (by decide) rfl (fun ls hl => ?_)
  have hl := lv_sub (l' := [(0, .ref g.1.1), (1, .int p0), (2, .int p1), (3, .int (0 : Int32)), (4, .int (0 : Int32))]) hl [2, 3, 4, 1, 0] rfl
  exact cut_5 (mu (0 : Int32) (M_B_size g x p0) + 1) (0 : Int32) (0 : Int32) _ (Nat.lt_succ_self _) hF hl

def L_B_ownedBy_4 (g : GB) (x : Bk) (p0 : Int32) : Nat → Int32 → Int32 → Int32
  | 0, _, _ => 0
  | n + 1, v2, v3 => (if (nI g.2.2.1) ≤ v3 then v2 else (bnd (M_B_ownedAt g x v3 p0) (fun r_17 => L_B_ownedBy_4 g x p0 n (v2 + r_17) (v3 + 1))))
theorem L_B_ownedBy_4_eq (g : GB) (x : Bk) (p0 : Int32) (n : Nat) (v2 v3 : Int32) : L_B_ownedBy_4 g x p0 (n + 1) v2 v3 = (if (nI g.2.2.1) ≤ v3 then v2 else (bnd (M_B_ownedAt g x v3 p0) (fun r_17 => L_B_ownedBy_4 g x p0 n (v2 + r_17) (v3 + 1)))) := by first | rfl | rw [L_B_ownedBy_4]
def M_B_ownedBy (g : GB) (x : Bk) (p0 : Int32) : Int32 := L_B_ownedBy_4 g x p0 (mu (0 : Int32) (nI g.2.2.1) + 1) (0 : Int32) (0 : Int32)
theorem M_B_ownedBy_eq (g : GB) (x : Bk) (p0 : Int32) : M_B_ownedBy g x p0 = L_B_ownedBy_4 g x p0 (mu (0 : Int32) (nI g.2.2.1) + 1) (0 : Int32) (0 : Int32) := rfl
abbrev w_B_ownedBy : List Cond := .code y_B_ownedBy b_B_ownedBy 4 (some .int) :: tbW
abbrev rm_B_ownedBy : Room := { frames := 3, cells := 0, slots := 0, locals := 66 }
set_option maxHeartbeats 4000000 in
set_option maxRecDepth 100000 in
theorem c_B_ownedBy (l : Launch) (D : va_G) (cI cZ : ClassId) (g : GB) (hg : okB g) (x : Bk) (p0 : Int32) : Met l y_B_ownedBy w_B_ownedBy rm_B_ownedBy (PcR D vwCl (tyK cI cZ) [.ref g.1.1, .int p0] (wB cI cZ g x)) (vp_Si (fun r => r = M_B_ownedBy g x p0)) 0 0 (fun _ => False) := by
  refine Met.ofW (cc := b_B_ownedBy) (maxL := 4) (ret := (some .int)) (by decide) rfl ?_
  intro p e s m args below meth c s₁ B hml hv
  obtain ⟨rfl, hP, hK⟩ := hv
  have hx := B.exec
  have hb := B.bytes
  have hr := B.returns
  have htb : ∀ w ∈ tbW, w.before _ s = true := fun w h => atoms_spec (ws := w_B_ownedBy) B.pre w (List.mem_cons_of_mem _ h)
  have hown : s.vm.findClass R_B = some m.cls := findClass_of_methodNamed B.named
  have hlocks := B.notSynchronized
  have cut_4 : ∀ (n : Nat) (v2 v3 : Int32) (ls : Array Slot), mu v3 (nI g.2.2.1) < n → M_B_ownedBy g x p0 = L_B_ownedBy_4 g x p0 n v2 v3 → lv_has ls 4 [(0, .ref g.1.1), (1, .int p0), (2, .int v2), (3, .int v3)] → W p l e (headSpec w_B_ownedBy rm_B_ownedBy).room s m ([.ref g.1.1, .int p0] : List Value).toArray below meth c s.heap [] 0 0 (MQ below (vp_Si (fun r => r = M_B_ownedBy g x p0)) ([.ref g.1.1, .int p0] : List Value).toArray s 0 0 (fun _ => False)) (F0 m 4 ls []) := by
    intro n
    induction n with
    | zero => intro v2 v3 ls hm _ _; exact absurd hm (Nat.not_lt_zero _)
    | succ n ih =>
      intro v2 v3 ls hm hF hl
      have hF := hF.trans (L_B_ownedBy_4_eq g x p0 n v2 v3)
      refine lv_iload_n hx hb d_B_ownedBy_4 rfl (lv_at hl 3 rfl) ?_
      refine lv_aload_n hx hb d_B_ownedBy_5 rfl (lv_at hl 0 rfl) ?_
      refine va_get (D := D) (ci := 0) (v := .ref g.1.2.1) (C := R_B) (T := T_B) (N := 7) hx hb htb i_B hown hK hP 0 rfl rfl 2 (by decide) (htb _ k_B_24) (fun _ h9 => h9) rfl d_B_ownedBy_6 ?_
      refine va_alen hx hb hK hP 1 0 rfl rfl (v := nI g.2.2.1) rfl d_B_ownedBy_9 ?_
      refine lv_icmp_ge (tgt := 28) hx hb d_B_ownedBy_10 (by decide) (fun c_10 => ?_) (fun c_10 => ?_)
      · have hF := hF.trans (if_pos c_10)
        refine lv_iload_n hx hb d_B_ownedBy_28 rfl (lv_at hl 2 rfl) ?_
        exact W.iret (v := v2) hx hb hr (fun t ht hW => ⟨_, rfl, hF.symm, ht⟩) (fun q h => by cases h) d_B_ownedBy_29
      · have hF := hF.trans (if_neg c_10)
        refine lv_iload_n hx hb d_B_ownedBy_13 rfl (lv_at hl 2 rfl) ?_
        refine lv_aload_n hx hb d_B_ownedBy_14 rfl (lv_at hl 0 rfl) ?_
        refine lv_iload_n hx hb d_B_ownedBy_15 rfl (lv_at hl 3 rfl) ?_
        refine lv_iload_n hx hb d_B_ownedBy_16 rfl (lv_at hl 1 rfl) ?_
        refine cpi (As := [.int v3, .int p0]) (rest := [.int v2]) ⟨hx, hb, hml, hown, htb⟩ (c_B_ownedAt l D cI cZ g hg x v3 p0) (cwv (n := 2) htb cd_B_ownedAt k_B_61 in_B_ownedAt se_B_ownedAt ini_B hd_B_ownedAt ⟨Nat.le_of_ble_eq_true rfl, Nat.le_of_ble_eq_true rfl⟩) hK hP [0, 1, 2, 3, 4, 5] rfl (ci := 0) rfl rfl rfl hl.1 rfl (Nat.le_of_ble_eq_true rfl) d_B_ownedBy_17 ⟨Nat.zero_le _, Nat.zero_le _⟩ (fun r_17 hw_17 => ?_)
        have hF := hF.trans (bnd_eq hw_17)
        refine lv_iadd hx hb d_B_ownedBy_20 ?_
        refine lv_istore_n (lv' := [(2, .int (v2 + r_17)), (0, .ref g.1.1), (1, .int p0), (3, .int v3)]) hx hb d_B_ownedBy_21 rfl hl (by decide) rfl (fun ls hl => ?_)
        refine lv_iinc (v := (v3 + 1)) (lv' := [(3, .int (v3 + 1)), (2, .int (v2 + r_17)), (0, .ref g.1.1), (1, .int p0)]) hx hb d_B_ownedBy_22 hl (k := 3) rfl rfl (by decide) rfl (fun ls hl => ?_)
        refine lv_goto (tgt := 4) hx hb d_B_ownedBy_25 (by decide) ?_
        have hl := lv_sub (l' := [(0, .ref g.1.1), (1, .int p0), (2, .int (v2 + r_17)), (3, .int (v3 + 1))]) hl [2, 3, 1, 0] rfl
        exact ih (v2 + r_17) (v3 + 1) _ (Nat.lt_of_lt_of_le (mu_dec c_10) (Nat.le_of_lt_succ hm)) hF hl
  have hl := lv_entry ([.ref g.1.1, .int p0]) (n := 4) (Nat.le_of_ble_eq_true rfl)
  rw [lg_entry_eq]
  generalize (lg_sl ([.ref g.1.1, .int p0]) ++ List.replicate (4 - (lg_sl ([.ref g.1.1, .int p0])).length) Slot.unset).toArray = ls at hl ⊢
  have hl : lv_has ls 4 [(0, .ref g.1.1), (1, .int p0)] := hl
  have hF := M_B_ownedBy_eq g x p0
  refine lv_iconst (v := 0) hx hb d_B_ownedBy_0 (by decide) ?_
  refine lv_istore_n (lv' := [(2, .int (0 : Int32)), (0, .ref g.1.1), (1, .int p0)]) hx hb d_B_ownedBy_1 rfl hl (by decide) rfl (fun ls hl => ?_)
  refine lv_iconst (v := 0) hx hb d_B_ownedBy_2 (by decide) ?_
  refine lv_istore_n (lv' := [(3, .int (0 : Int32)), (2, .int (0 : Int32)), (0, .ref g.1.1), (1, .int p0)]) hx hb d_B_ownedBy_3 rfl hl (by decide) rfl (fun ls hl => ?_)
  have hl := lv_sub (l' := [(0, .ref g.1.1), (1, .int p0), (2, .int (0 : Int32)), (3, .int (0 : Int32))]) hl [2, 3, 1, 0] rfl
  exact cut_4 (mu (0 : Int32) (nI g.2.2.1) + 1) (0 : Int32) (0 : Int32) _ (Nat.lt_succ_self _) hF hl

def M_B_swap (g : GB) (x : Bk) (p0 p1 : Int32) : Bk := (bnd (M_B_isSlot g x p0) (fun r_2 => (if r_2 = 0 then x else (bnd (M_B_isSlot g x p1) (fun r_10 => (if r_10 = 0 then x else (x.1, (upd (upd x.2.1 p0.toNatClampNeg (x.2.1 p1.toNatClampNeg)) p1.toNatClampNeg (x.2.1 p0.toNatClampNeg)), (upd (upd x.2.2.1 p0.toNatClampNeg (x.2.2.1 p1.toNatClampNeg)) p1.toNatClampNeg (x.2.2.1 p0.toNatClampNeg)), (upd (upd x.2.2.2.1 p0.toNatClampNeg (x.2.2.2.1 p1.toNatClampNeg)) p1.toNatClampNeg (x.2.2.2.1 p0.toNatClampNeg)), (upd (upd x.2.2.2.2 p0.toNatClampNeg (vp_nar .boolean (x.2.2.2.2 p1.toNatClampNeg))) p1.toNatClampNeg (vp_nar .boolean (x.2.2.2.2 p0.toNatClampNeg))))))))))
theorem M_B_swap_eq (g : GB) (x : Bk) (p0 p1 : Int32) : M_B_swap g x p0 p1 = (bnd (M_B_isSlot g x p0) (fun r_2 => (if r_2 = 0 then x else (bnd (M_B_isSlot g x p1) (fun r_10 => (if r_10 = 0 then x else (x.1, (upd (upd x.2.1 p0.toNatClampNeg (x.2.1 p1.toNatClampNeg)) p1.toNatClampNeg (x.2.1 p0.toNatClampNeg)), (upd (upd x.2.2.1 p0.toNatClampNeg (x.2.2.1 p1.toNatClampNeg)) p1.toNatClampNeg (x.2.2.1 p0.toNatClampNeg)), (upd (upd x.2.2.2.1 p0.toNatClampNeg (x.2.2.2.1 p1.toNatClampNeg)) p1.toNatClampNeg (x.2.2.2.1 p0.toNatClampNeg)), (upd (upd x.2.2.2.2 p0.toNatClampNeg (vp_nar .boolean (x.2.2.2.2 p1.toNatClampNeg))) p1.toNatClampNeg (vp_nar .boolean (x.2.2.2.2 p0.toNatClampNeg)))))))))) := rfl
abbrev w_B_swap : List Cond := .code y_B_swap b_B_swap 7 none :: tbW
abbrev rm_B_swap : Room := { frames := 1, cells := 0, slots := 0, locals := 21 }
set_option maxHeartbeats 4000000 in
set_option maxRecDepth 100000 in
theorem c_B_swap (l : Launch) (D : va_G) (cI cZ : ClassId) (g : GB) (hg : okB g) (x : Bk) (p0 p1 : Int32) : Met l y_B_swap w_B_swap rm_B_swap (PcW D vwCl (tyK cI cZ) [.ref g.1.1, .int p0, .int p1] (wB cI cZ g x)) (va_Qv (fun (u : Bk) => u = M_B_swap g x p0 p1) (fun (u : Bk) (t : State) => va_P D vwCl (wB cI cZ g u) t.heap) (Aw (wB cI cZ g x))) 0 0 (Aw (wB cI cZ g x)) := by
  refine Met.ofW (cc := b_B_swap) (maxL := 7) (ret := none) (by decide) rfl ?_
  intro p e s m args below meth c s₁ B hml hv
  obtain ⟨rfl, hP, hK, hD0⟩ := hv
  have hx := B.exec
  have hb := B.bytes
  have hr := B.returns
  have htb : ∀ w ∈ tbW, w.before _ s = true := fun w h => atoms_spec (ws := w_B_swap) B.pre w (List.mem_cons_of_mem _ h)
  have hown : s.vm.findClass R_B = some m.cls := findClass_of_methodNamed B.named
  have hlocks := B.notSynchronized
  have hD : va_D (Aw (wB cI cZ g x)) (wB cI cZ g x) := ⟨hD0.1, fun k q hk => ⟨k, q.2, hk⟩⟩
  have hS : va_S (Aw (wB cI cZ g x)) s.heap s.heap [] := va_S.rf
  have hl := lv_entry ([.ref g.1.1, .int p0, .int p1]) (n := 7) (Nat.le_of_ble_eq_true rfl)
  rw [lg_entry_eq]
  generalize (lg_sl ([.ref g.1.1, .int p0, .int p1]) ++ List.replicate (7 - (lg_sl ([.ref g.1.1, .int p0, .int p1])).length) Slot.unset).toArray = ls at hl ⊢
  have hl : lv_has ls 7 [(0, .ref g.1.1), (1, .int p0), (2, .int p1)] := hl
  have hF := M_B_swap_eq g x p0 p1
  refine lv_aload_n hx hb d_B_swap_0 rfl (lv_at hl 0 rfl) ?_
  refine lv_iload_n hx hb d_B_swap_1 rfl (lv_at hl 1 rfl) ?_
  refine cpi (As := [.int p0]) (rest := []) ⟨hx, hb, hml, hown, htb⟩ (c_B_isSlot l D cI cZ g hg x p0) (cwv (n := 1) htb cd_B_isSlot k_B_48 in_B_isSlot se_B_isSlot ini_B hd_B_isSlot ⟨Nat.le_of_ble_eq_true rfl, Nat.le_of_ble_eq_true rfl⟩) hK hP [0, 1, 2, 3, 4, 5] rfl (ci := 0) rfl rfl rfl hl.1 rfl (Nat.le_of_ble_eq_true rfl) d_B_swap_2 ⟨Nat.zero_le _, Nat.zero_le _⟩ (fun r_2 hw_2 => ?_)
  have hF := hF.trans (bnd_eq hw_2)
  refine lv_if_eq (tgt := 16) hx hb d_B_swap_5 (by decide) (fun c_5 => ?_) (fun c_5 => ?_)
  · have hF := hF.trans (if_pos c_5)
    exact W.vret hx hb hr (fun t ht hW => ⟨⟨x, rfl, hF.symm, by dsimp only; rw [ht]; exact hP⟩, hS.F ht⟩) hS.2.2 d_B_swap_16
  · have hF := hF.trans (if_neg c_5)
    refine lv_aload_n hx hb d_B_swap_8 rfl (lv_at hl 0 rfl) ?_
    refine lv_iload_n hx hb d_B_swap_9 rfl (lv_at hl 2 rfl) ?_
    refine cpi (As := [.int p1]) (rest := []) ⟨hx, hb, hml, hown, htb⟩ (c_B_isSlot l D cI cZ g hg x p1) (cwv (n := 1) htb cd_B_isSlot k_B_48 in_B_isSlot se_B_isSlot ini_B hd_B_isSlot ⟨Nat.le_of_ble_eq_true rfl, Nat.le_of_ble_eq_true rfl⟩) hK hP [0, 1, 2, 3, 4, 5] rfl (ci := 0) rfl rfl rfl hl.1 rfl (Nat.le_of_ble_eq_true rfl) d_B_swap_10 ⟨Nat.zero_le _, Nat.zero_le _⟩ (fun r_10 hw_10 => ?_)
    have hF := hF.trans (bnd_eq hw_10)
    refine lv_if_ne (tgt := 17) hx hb d_B_swap_13 (by decide) (fun c_13 => ?_) (fun c_13 => ?_)
    · have hF := hF.trans (if_neg c_13)
      refine lv_aload_n hx hb d_B_swap_17 rfl (lv_at hl 0 rfl) ?_
      refine va_get (D := D) (ci := 0) (v := .ref g.1.2.2.1) (C := R_B) (T := T_B) (N := 7) hx hb htb i_B hown hK hP 0 rfl rfl 3 (by decide) (htb _ k_B_28) (fun _ h9 => h9) rfl d_B_swap_18 ?_
      refine lv_iload_n hx hb d_B_swap_21 rfl (lv_at hl 1 rfl) ?_
      refine va_iald hx hb hK hP 2 0 rfl rfl (isSlot_in hg hw_2 c_5) d_B_swap_22 ?_
      refine lv_istore_n (lv' := [(3, .int (x.2.1 p0.toNatClampNeg)), (0, .ref g.1.1), (1, .int p0), (2, .int p1)]) hx hb d_B_swap_23 rfl hl (by decide) rfl (fun ls hl => ?_)
      refine lv_aload_n hx hb d_B_swap_24 rfl (lv_at hl 1 rfl) ?_
      refine va_get (D := D) (ci := 0) (v := .ref g.1.2.2.1) (C := R_B) (T := T_B) (N := 7) hx hb htb i_B hown hK hP 0 rfl rfl 3 (by decide) (htb _ k_B_28) (fun _ h9 => h9) rfl d_B_swap_25 ?_
      refine lv_iload_n hx hb d_B_swap_28 rfl (lv_at hl 2 rfl) ?_
      refine lv_aload_n hx hb d_B_swap_29 rfl (lv_at hl 1 rfl) ?_
      refine va_get (D := D) (ci := 0) (v := .ref g.1.2.2.1) (C := R_B) (T := T_B) (N := 7) hx hb htb i_B hown hK hP 0 rfl rfl 3 (by decide) (htb _ k_B_28) (fun _ h9 => h9) rfl d_B_swap_30 ?_
      refine lv_iload_n hx hb d_B_swap_33 rfl (lv_at hl 3 rfl) ?_
      refine va_iald hx hb hK hP 2 0 rfl rfl (isSlot_in hg hw_10 c_13) d_B_swap_34 ?_
      refine va_iast hx hb hK hP hD hS 2 0 rfl rfl (isSlot_in hg hw_2 c_5) d_B_swap_35 (fun H locs hP hD hS => ?_)
      have hP : va_P D vwCl (wB cI cZ g (x.1, (upd x.2.1 p0.toNatClampNeg (x.2.1 p1.toNatClampNeg)), x.2.2.1, x.2.2.2.1, x.2.2.2.2)) H := hP
      have hD : va_D _ (wB cI cZ g (x.1, (upd x.2.1 p0.toNatClampNeg (x.2.1 p1.toNatClampNeg)), x.2.2.1, x.2.2.2.1, x.2.2.2.2)) := hD
      refine lv_aload_n hx hb d_B_swap_36 rfl (lv_at hl 1 rfl) ?_
      refine va_get (D := D) (ci := 0) (v := .ref g.1.2.2.1) (C := R_B) (T := T_B) (N := 7) hx hb htb i_B hown hK hP 0 rfl rfl 3 (by decide) (htb _ k_B_28) (fun _ h9 => h9) rfl d_B_swap_37 ?_
      refine lv_iload_n hx hb d_B_swap_40 rfl (lv_at hl 3 rfl) ?_
      refine lv_iload_n hx hb d_B_swap_41 rfl (lv_at hl 0 rfl) ?_
      refine va_iast hx hb hK hP hD hS 2 0 rfl rfl (isSlot_in hg hw_10 c_13) d_B_swap_42 (fun H locs hP hD hS => ?_)
      have hP : va_P D vwCl (wB cI cZ g (x.1, (upd (upd x.2.1 p0.toNatClampNeg (x.2.1 p1.toNatClampNeg)) p1.toNatClampNeg (x.2.1 p0.toNatClampNeg)), x.2.2.1, x.2.2.2.1, x.2.2.2.2)) H := hP
      have hD : va_D _ (wB cI cZ g (x.1, (upd (upd x.2.1 p0.toNatClampNeg (x.2.1 p1.toNatClampNeg)) p1.toNatClampNeg (x.2.1 p0.toNatClampNeg)), x.2.2.1, x.2.2.2.1, x.2.2.2.2)) := hD
      refine lv_aload_n hx hb d_B_swap_43 rfl (lv_at hl 1 rfl) ?_
      refine va_get (D := D) (ci := 0) (v := .ref g.1.2.2.2.1) (C := R_B) (T := T_B) (N := 7) hx hb htb i_B hown hK hP 0 rfl rfl 4 (by decide) (htb _ k_B_31) (fun _ h9 => h9) rfl d_B_swap_44 ?_
      refine lv_iload_n hx hb d_B_swap_47 rfl (lv_at hl 2 rfl) ?_
      refine va_iald hx hb hK hP 3 0 rfl rfl (isSlot_in hg hw_2 c_5) d_B_swap_48 ?_
      refine lv_istore (lv' := [(4, .int (x.2.2.1 p0.toNatClampNeg)), (3, .int (x.2.1 p0.toNatClampNeg)), (0, .ref g.1.1), (1, .int p0), (2, .int p1)]) hx hb d_B_swap_49 hl (by decide) rfl (fun ls hl => ?_)
      refine lv_aload_n hx hb d_B_swap_51 rfl (lv_at hl 2 rfl) ?_
      refine va_get (D := D) (ci := 0) (v := .ref g.1.2.2.2.1) (C := R_B) (T := T_B) (N := 7) hx hb htb i_B hown hK hP 0 rfl rfl 4 (by decide) (htb _ k_B_31) (fun _ h9 => h9) rfl d_B_swap_52 ?_
      refine lv_iload_n hx hb d_B_swap_55 rfl (lv_at hl 3 rfl) ?_
      refine lv_aload_n hx hb d_B_swap_56 rfl (lv_at hl 2 rfl) ?_
      refine va_get (D := D) (ci := 0) (v := .ref g.1.2.2.2.1) (C := R_B) (T := T_B) (N := 7) hx hb htb i_B hown hK hP 0 rfl rfl 4 (by decide) (htb _ k_B_31) (fun _ h9 => h9) rfl d_B_swap_57 ?_
      refine lv_iload_n hx hb d_B_swap_60 rfl (lv_at hl 4 rfl) ?_
      refine va_iald hx hb hK hP 3 0 rfl rfl (isSlot_in hg hw_10 c_13) d_B_swap_61 ?_
      refine va_iast hx hb hK hP hD hS 3 0 rfl rfl (isSlot_in hg hw_2 c_5) d_B_swap_62 (fun H locs hP hD hS => ?_)
      have hP : va_P D vwCl (wB cI cZ g (x.1, (upd (upd x.2.1 p0.toNatClampNeg (x.2.1 p1.toNatClampNeg)) p1.toNatClampNeg (x.2.1 p0.toNatClampNeg)), (upd x.2.2.1 p0.toNatClampNeg (x.2.2.1 p1.toNatClampNeg)), x.2.2.2.1, x.2.2.2.2)) H := hP
      have hD : va_D _ (wB cI cZ g (x.1, (upd (upd x.2.1 p0.toNatClampNeg (x.2.1 p1.toNatClampNeg)) p1.toNatClampNeg (x.2.1 p0.toNatClampNeg)), (upd x.2.2.1 p0.toNatClampNeg (x.2.2.1 p1.toNatClampNeg)), x.2.2.2.1, x.2.2.2.2)) := hD
      refine lv_aload_n hx hb d_B_swap_63 rfl (lv_at hl 2 rfl) ?_
      refine va_get (D := D) (ci := 0) (v := .ref g.1.2.2.2.1) (C := R_B) (T := T_B) (N := 7) hx hb htb i_B hown hK hP 0 rfl rfl 4 (by decide) (htb _ k_B_31) (fun _ h9 => h9) rfl d_B_swap_64 ?_
      refine lv_iload_n hx hb d_B_swap_67 rfl (lv_at hl 4 rfl) ?_
      refine lv_iload hx hb d_B_swap_68 (lv_at hl 0 rfl) ?_
      refine va_iast hx hb hK hP hD hS 3 0 rfl rfl (isSlot_in hg hw_10 c_13) d_B_swap_70 (fun H locs hP hD hS => ?_)
      have hP : va_P D vwCl (wB cI cZ g (x.1, (upd (upd x.2.1 p0.toNatClampNeg (x.2.1 p1.toNatClampNeg)) p1.toNatClampNeg (x.2.1 p0.toNatClampNeg)), (upd (upd x.2.2.1 p0.toNatClampNeg (x.2.2.1 p1.toNatClampNeg)) p1.toNatClampNeg (x.2.2.1 p0.toNatClampNeg)), x.2.2.2.1, x.2.2.2.2)) H := hP
      have hD : va_D _ (wB cI cZ g (x.1, (upd (upd x.2.1 p0.toNatClampNeg (x.2.1 p1.toNatClampNeg)) p1.toNatClampNeg (x.2.1 p0.toNatClampNeg)), (upd (upd x.2.2.1 p0.toNatClampNeg (x.2.2.1 p1.toNatClampNeg)) p1.toNatClampNeg (x.2.2.1 p0.toNatClampNeg)), x.2.2.2.1, x.2.2.2.2)) := hD
      refine lv_aload_n hx hb d_B_swap_71 rfl (lv_at hl 2 rfl) ?_
      refine va_get (D := D) (ci := 0) (v := .ref g.1.2.2.2.2.1) (C := R_B) (T := T_B) (N := 7) hx hb htb i_B hown hK hP 0 rfl rfl 5 (by decide) (htb _ k_B_34) (fun _ h9 => h9) rfl d_B_swap_72 ?_
      refine lv_iload_n hx hb d_B_swap_75 rfl (lv_at hl 3 rfl) ?_
      refine va_iald hx hb hK hP 4 0 rfl rfl (isSlot_in hg hw_2 c_5) d_B_swap_76 ?_
      refine lv_istore (lv' := [(5, .int (x.2.2.2.1 p0.toNatClampNeg)), (4, .int (x.2.2.1 p0.toNatClampNeg)), (3, .int (x.2.1 p0.toNatClampNeg)), (0, .ref g.1.1), (1, .int p0), (2, .int p1)]) hx hb d_B_swap_77 hl (by decide) rfl (fun ls hl => ?_)
      refine lv_aload_n hx hb d_B_swap_79 rfl (lv_at hl 3 rfl) ?_
      refine va_get (D := D) (ci := 0) (v := .ref g.1.2.2.2.2.1) (C := R_B) (T := T_B) (N := 7) hx hb htb i_B hown hK hP 0 rfl rfl 5 (by decide) (htb _ k_B_34) (fun _ h9 => h9) rfl d_B_swap_80 ?_
      refine lv_iload_n hx hb d_B_swap_83 rfl (lv_at hl 4 rfl) ?_
      refine lv_aload_n hx hb d_B_swap_84 rfl (lv_at hl 3 rfl) ?_
      refine va_get (D := D) (ci := 0) (v := .ref g.1.2.2.2.2.1) (C := R_B) (T := T_B) (N := 7) hx hb htb i_B hown hK hP 0 rfl rfl 5 (by decide) (htb _ k_B_34) (fun _ h9 => h9) rfl d_B_swap_85 ?_
      refine lv_iload_n hx hb d_B_swap_88 rfl (lv_at hl 5 rfl) ?_
      refine va_iald hx hb hK hP 4 0 rfl rfl (isSlot_in hg hw_10 c_13) d_B_swap_89 ?_
      refine va_iast hx hb hK hP hD hS 4 0 rfl rfl (isSlot_in hg hw_2 c_5) d_B_swap_90 (fun H locs hP hD hS => ?_)
      have hP : va_P D vwCl (wB cI cZ g (x.1, (upd (upd x.2.1 p0.toNatClampNeg (x.2.1 p1.toNatClampNeg)) p1.toNatClampNeg (x.2.1 p0.toNatClampNeg)), (upd (upd x.2.2.1 p0.toNatClampNeg (x.2.2.1 p1.toNatClampNeg)) p1.toNatClampNeg (x.2.2.1 p0.toNatClampNeg)), (upd x.2.2.2.1 p0.toNatClampNeg (x.2.2.2.1 p1.toNatClampNeg)), x.2.2.2.2)) H := hP
      have hD : va_D _ (wB cI cZ g (x.1, (upd (upd x.2.1 p0.toNatClampNeg (x.2.1 p1.toNatClampNeg)) p1.toNatClampNeg (x.2.1 p0.toNatClampNeg)), (upd (upd x.2.2.1 p0.toNatClampNeg (x.2.2.1 p1.toNatClampNeg)) p1.toNatClampNeg (x.2.2.1 p0.toNatClampNeg)), (upd x.2.2.2.1 p0.toNatClampNeg (x.2.2.2.1 p1.toNatClampNeg)), x.2.2.2.2)) := hD
      refine lv_aload_n hx hb d_B_swap_91 rfl (lv_at hl 3 rfl) ?_
      refine va_get (D := D) (ci := 0) (v := .ref g.1.2.2.2.2.1) (C := R_B) (T := T_B) (N := 7) hx hb htb i_B hown hK hP 0 rfl rfl 5 (by decide) (htb _ k_B_34) (fun _ h9 => h9) rfl d_B_swap_92 ?_
      refine lv_iload_n hx hb d_B_swap_95 rfl (lv_at hl 5 rfl) ?_
      refine lv_iload hx hb d_B_swap_96 (lv_at hl 0 rfl) ?_
      refine va_iast hx hb hK hP hD hS 4 0 rfl rfl (isSlot_in hg hw_10 c_13) d_B_swap_98 (fun H locs hP hD hS => ?_)
      have hP : va_P D vwCl (wB cI cZ g (x.1, (upd (upd x.2.1 p0.toNatClampNeg (x.2.1 p1.toNatClampNeg)) p1.toNatClampNeg (x.2.1 p0.toNatClampNeg)), (upd (upd x.2.2.1 p0.toNatClampNeg (x.2.2.1 p1.toNatClampNeg)) p1.toNatClampNeg (x.2.2.1 p0.toNatClampNeg)), (upd (upd x.2.2.2.1 p0.toNatClampNeg (x.2.2.2.1 p1.toNatClampNeg)) p1.toNatClampNeg (x.2.2.2.1 p0.toNatClampNeg)), x.2.2.2.2)) H := hP
      have hD : va_D _ (wB cI cZ g (x.1, (upd (upd x.2.1 p0.toNatClampNeg (x.2.1 p1.toNatClampNeg)) p1.toNatClampNeg (x.2.1 p0.toNatClampNeg)), (upd (upd x.2.2.1 p0.toNatClampNeg (x.2.2.1 p1.toNatClampNeg)) p1.toNatClampNeg (x.2.2.1 p0.toNatClampNeg)), (upd (upd x.2.2.2.1 p0.toNatClampNeg (x.2.2.2.1 p1.toNatClampNeg)) p1.toNatClampNeg (x.2.2.2.1 p0.toNatClampNeg)), x.2.2.2.2)) := hD
      refine lv_aload_n hx hb d_B_swap_99 rfl (lv_at hl 3 rfl) ?_
      refine va_get (D := D) (ci := 0) (v := .ref g.1.2.2.2.2.2) (C := R_B) (T := T_B) (N := 7) hx hb htb i_B hown hK hP 0 rfl rfl 6 (by decide) (htb _ k_B_37) (fun _ h9 => h9) rfl d_B_swap_100 ?_
      refine lv_iload_n hx hb d_B_swap_103 rfl (lv_at hl 4 rfl) ?_
      refine va_zald hx hb hK hP 5 1 rfl rfl (isSlot_in hg hw_2 c_5) d_B_swap_104 ?_
      refine lv_istore (lv' := [(6, .int (x.2.2.2.2 p0.toNatClampNeg)), (5, .int (x.2.2.2.1 p0.toNatClampNeg)), (4, .int (x.2.2.1 p0.toNatClampNeg)), (3, .int (x.2.1 p0.toNatClampNeg)), (0, .ref g.1.1), (1, .int p0), (2, .int p1)]) hx hb d_B_swap_105 hl (by decide) rfl (fun ls hl => ?_)
      refine lv_aload_n hx hb d_B_swap_107 rfl (lv_at hl 4 rfl) ?_
      refine va_get (D := D) (ci := 0) (v := .ref g.1.2.2.2.2.2) (C := R_B) (T := T_B) (N := 7) hx hb htb i_B hown hK hP 0 rfl rfl 6 (by decide) (htb _ k_B_37) (fun _ h9 => h9) rfl d_B_swap_108 ?_
      refine lv_iload_n hx hb d_B_swap_111 rfl (lv_at hl 5 rfl) ?_
      refine lv_aload_n hx hb d_B_swap_112 rfl (lv_at hl 4 rfl) ?_
      refine va_get (D := D) (ci := 0) (v := .ref g.1.2.2.2.2.2) (C := R_B) (T := T_B) (N := 7) hx hb htb i_B hown hK hP 0 rfl rfl 6 (by decide) (htb _ k_B_37) (fun _ h9 => h9) rfl d_B_swap_113 ?_
      refine lv_iload_n hx hb d_B_swap_116 rfl (lv_at hl 6 rfl) ?_
      refine va_zald hx hb hK hP 5 1 rfl rfl (isSlot_in hg hw_10 c_13) d_B_swap_117 ?_
      refine va_zast hx hb hK hP hD hS 5 1 rfl rfl (isSlot_in hg hw_2 c_5) d_B_swap_118 (fun H locs hP hD hS => ?_)
      have hP : va_P D vwCl (wB cI cZ g (x.1, (upd (upd x.2.1 p0.toNatClampNeg (x.2.1 p1.toNatClampNeg)) p1.toNatClampNeg (x.2.1 p0.toNatClampNeg)), (upd (upd x.2.2.1 p0.toNatClampNeg (x.2.2.1 p1.toNatClampNeg)) p1.toNatClampNeg (x.2.2.1 p0.toNatClampNeg)), (upd (upd x.2.2.2.1 p0.toNatClampNeg (x.2.2.2.1 p1.toNatClampNeg)) p1.toNatClampNeg (x.2.2.2.1 p0.toNatClampNeg)), (upd x.2.2.2.2 p0.toNatClampNeg (vp_nar .boolean (x.2.2.2.2 p1.toNatClampNeg))))) H := hP
      have hD : va_D _ (wB cI cZ g (x.1, (upd (upd x.2.1 p0.toNatClampNeg (x.2.1 p1.toNatClampNeg)) p1.toNatClampNeg (x.2.1 p0.toNatClampNeg)), (upd (upd x.2.2.1 p0.toNatClampNeg (x.2.2.1 p1.toNatClampNeg)) p1.toNatClampNeg (x.2.2.1 p0.toNatClampNeg)), (upd (upd x.2.2.2.1 p0.toNatClampNeg (x.2.2.2.1 p1.toNatClampNeg)) p1.toNatClampNeg (x.2.2.2.1 p0.toNatClampNeg)), (upd x.2.2.2.2 p0.toNatClampNeg (vp_nar .boolean (x.2.2.2.2 p1.toNatClampNeg))))) := hD
      refine lv_aload_n hx hb d_B_swap_119 rfl (lv_at hl 4 rfl) ?_
      refine va_get (D := D) (ci := 0) (v := .ref g.1.2.2.2.2.2) (C := R_B) (T := T_B) (N := 7) hx hb htb i_B hown hK hP 0 rfl rfl 6 (by decide) (htb _ k_B_37) (fun _ h9 => h9) rfl d_B_swap_120 ?_
      refine lv_iload_n hx hb d_B_swap_123 rfl (lv_at hl 6 rfl) ?_
      refine lv_iload hx hb d_B_swap_124 (lv_at hl 0 rfl) ?_
      refine va_zast hx hb hK hP hD hS 5 1 rfl rfl (isSlot_in hg hw_10 c_13) d_B_swap_126 (fun H locs hP hD hS => ?_)
      have hP : va_P D vwCl (wB cI cZ g (x.1, (upd (upd x.2.1 p0.toNatClampNeg (x.2.1 p1.toNatClampNeg)) p1.toNatClampNeg (x.2.1 p0.toNatClampNeg)), (upd (upd x.2.2.1 p0.toNatClampNeg (x.2.2.1 p1.toNatClampNeg)) p1.toNatClampNeg (x.2.2.1 p0.toNatClampNeg)), (upd (upd x.2.2.2.1 p0.toNatClampNeg (x.2.2.2.1 p1.toNatClampNeg)) p1.toNatClampNeg (x.2.2.2.1 p0.toNatClampNeg)), (upd (upd x.2.2.2.2 p0.toNatClampNeg (vp_nar .boolean (x.2.2.2.2 p1.toNatClampNeg))) p1.toNatClampNeg (vp_nar .boolean (x.2.2.2.2 p0.toNatClampNeg))))) H := hP
      have hD : va_D _ (wB cI cZ g (x.1, (upd (upd x.2.1 p0.toNatClampNeg (x.2.1 p1.toNatClampNeg)) p1.toNatClampNeg (x.2.1 p0.toNatClampNeg)), (upd (upd x.2.2.1 p0.toNatClampNeg (x.2.2.1 p1.toNatClampNeg)) p1.toNatClampNeg (x.2.2.1 p0.toNatClampNeg)), (upd (upd x.2.2.2.1 p0.toNatClampNeg (x.2.2.2.1 p1.toNatClampNeg)) p1.toNatClampNeg (x.2.2.2.1 p0.toNatClampNeg)), (upd (upd x.2.2.2.2 p0.toNatClampNeg (vp_nar .boolean (x.2.2.2.2 p1.toNatClampNeg))) p1.toNatClampNeg (vp_nar .boolean (x.2.2.2.2 p0.toNatClampNeg))))) := hD
      exact W.vret hx hb hr (fun t ht hW => ⟨⟨(x.1, (upd (upd x.2.1 p0.toNatClampNeg (x.2.1 p1.toNatClampNeg)) p1.toNatClampNeg (x.2.1 p0.toNatClampNeg)), (upd (upd x.2.2.1 p0.toNatClampNeg (x.2.2.1 p1.toNatClampNeg)) p1.toNatClampNeg (x.2.2.1 p0.toNatClampNeg)), (upd (upd x.2.2.2.1 p0.toNatClampNeg (x.2.2.2.1 p1.toNatClampNeg)) p1.toNatClampNeg (x.2.2.2.1 p0.toNatClampNeg)), (upd (upd x.2.2.2.2 p0.toNatClampNeg (vp_nar .boolean (x.2.2.2.2 p1.toNatClampNeg))) p1.toNatClampNeg (vp_nar .boolean (x.2.2.2.2 p0.toNatClampNeg)))), rfl, hF.symm, by dsimp only; rw [ht]; exact hP⟩, hS.F ht⟩) hS.2.2 d_B_swap_127
    · have hF := hF.trans (if_pos c_13)
      exact W.vret hx hb hr (fun t ht hW => ⟨⟨x, rfl, hF.symm, by dsimp only; rw [ht]; exact hP⟩, hS.F ht⟩) hS.2.2 d_B_swap_16

def L_B_useLast_9 (g : GB) (p0 : Int32) : Nat → Int32 → Int32 → Bk → Bk
  | 0, _, _, z => z
  | n + 1, v2, v3, z => (if v2 ≤ v3 then z else (bnd (M_B_swap g z (p0 - v3) ((p0 - v3) - (1 : Int32))) (fun u_23 => L_B_useLast_9 g p0 n v2 (v3 + 1) u_23)))
theorem L_B_useLast_9_eq (g : GB) (p0 : Int32) (n : Nat) (v2 v3 : Int32) (z : Bk) : L_B_useLast_9 g p0 (n + 1) v2 v3 z = (if v2 ≤ v3 then z else (bnd (M_B_swap g z (p0 - v3) ((p0 - v3) - (1 : Int32))) (fun u_23 => L_B_useLast_9 g p0 n v2 (v3 + 1) u_23))) := by first | rfl | rw [L_B_useLast_9]
def M_B_useLast (g : GB) (x : Bk) (p0 : Int32) : Bk := L_B_useLast_9 g p0 (mu (0 : Int32) (p0 - p0 / g.2.1.2 * g.2.1.2) + 1) (p0 - p0 / g.2.1.2 * g.2.1.2) (0 : Int32) x
theorem M_B_useLast_eq (g : GB) (x : Bk) (p0 : Int32) : M_B_useLast g x p0 = L_B_useLast_9 g p0 (mu (0 : Int32) (p0 - p0 / g.2.1.2 * g.2.1.2) + 1) (p0 - p0 / g.2.1.2 * g.2.1.2) (0 : Int32) x := rfl
abbrev w_B_useLast : List Cond := .code y_B_useLast b_B_useLast 4 none :: tbW
abbrev rm_B_useLast : Room := { frames := 2, cells := 0, slots := 0, locals := 47 }
set_option maxHeartbeats 4000000 in
set_option maxRecDepth 100000 in
theorem c_B_useLast (l : Launch) (D : va_G) (cI cZ : ClassId) (g : GB) (hg : okB g) (x : Bk) (p0 : Int32) : Met l y_B_useLast w_B_useLast rm_B_useLast (PcW D vwCl (tyK cI cZ) [.ref g.1.1, .int p0] (wB cI cZ g x)) (va_Qv (fun (u : Bk) => u = M_B_useLast g x p0) (fun (u : Bk) (t : State) => va_P D vwCl (wB cI cZ g u) t.heap) (Aw (wB cI cZ g x))) 0 0 (Aw (wB cI cZ g x)) := by
  refine Met.ofW (cc := b_B_useLast) (maxL := 4) (ret := none) (by decide) rfl ?_
  intro p e s m args below meth c s₁ B hml hv
  obtain ⟨rfl, hP, hK, hD0⟩ := hv
  have hx := B.exec
  have hb := B.bytes
  have hr := B.returns
  have htb : ∀ w ∈ tbW, w.before _ s = true := fun w h => atoms_spec (ws := w_B_useLast) B.pre w (List.mem_cons_of_mem _ h)
  have hown : s.vm.findClass R_B = some m.cls := findClass_of_methodNamed B.named
  have hlocks := B.notSynchronized
  have hD : va_D (Aw (wB cI cZ g x)) (wB cI cZ g x) := ⟨hD0.1, fun k q hk => ⟨k, q.2, hk⟩⟩
  have hS : va_S (Aw (wB cI cZ g x)) s.heap s.heap [] := va_S.rf
  have cut_9 : ∀ (n : Nat) (v2 v3 : Int32) (z : Bk) (H : Heap) (locs : List Loc) (ls : Array Slot), mu v3 v2 < n → M_B_useLast g x p0 = L_B_useLast_9 g p0 n v2 v3 z → va_P D vwCl (wB cI cZ g z) H → va_D (Aw (wB cI cZ g x)) (wB cI cZ g z) → va_S (Aw (wB cI cZ g x)) s.heap H locs → lv_has ls 4 [(0, .ref g.1.1), (1, .int p0), (2, .int v2), (3, .int v3)] → W p l e (headSpec w_B_useLast rm_B_useLast).room s m ([.ref g.1.1, .int p0] : List Value).toArray below meth c H locs 0 0 (MQ below (va_Qv (fun (u : Bk) => u = M_B_useLast g x p0) (fun (u : Bk) (t : State) => va_P D vwCl (wB cI cZ g u) t.heap) (Aw (wB cI cZ g x))) ([.ref g.1.1, .int p0] : List Value).toArray s 0 0 (Aw (wB cI cZ g x))) (F0 m 9 ls []) := by
    intro n
    induction n with
    | zero => intro v2 v3 z H locs ls hm _ _ _ _ _; exact absurd hm (Nat.not_lt_zero _)
    | succ n ih =>
      intro v2 v3 z H locs ls hm hF hP hD hS hl
      have hF := hF.trans (L_B_useLast_9_eq g p0 n v2 v3 z)
      refine lv_iload_n hx hb d_B_useLast_9 rfl (lv_at hl 3 rfl) ?_
      refine lv_iload_n hx hb d_B_useLast_10 rfl (lv_at hl 2 rfl) ?_
      refine lv_icmp_ge (tgt := 32) hx hb d_B_useLast_11 (by decide) (fun c_11 => ?_) (fun c_11 => ?_)
      · have hF := hF.trans (if_pos c_11)
        exact W.vret hx hb hr (fun t ht hW => ⟨⟨z, rfl, hF.symm, by dsimp only; rw [ht]; exact hP⟩, hS.F ht⟩) hS.2.2 d_B_useLast_32
      · have hF := hF.trans (if_neg c_11)
        refine lv_aload_n hx hb d_B_useLast_14 rfl (lv_at hl 0 rfl) ?_
        refine lv_iload_n hx hb d_B_useLast_15 rfl (lv_at hl 1 rfl) ?_
        refine lv_iload_n hx hb d_B_useLast_16 rfl (lv_at hl 3 rfl) ?_
        refine lv_isub hx hb d_B_useLast_17 ?_
        refine lv_iload_n hx hb d_B_useLast_18 rfl (lv_at hl 1 rfl) ?_
        refine lv_iload_n hx hb d_B_useLast_19 rfl (lv_at hl 3 rfl) ?_
        refine lv_isub hx hb d_B_useLast_20 ?_
        refine lv_iconst (v := 1) hx hb d_B_useLast_21 (by decide) ?_
        refine lv_isub hx hb d_B_useLast_22 ?_
        refine cwv_ (As := [.int (p0 - v3), .int ((p0 - v3) - (1 : Int32))]) (rest := []) (wldC := fun u => (wB cI cZ g u)) ⟨hx, hb, hml, hown, htb⟩ (c_B_swap l D cI cZ g hg z (p0 - v3) ((p0 - v3) - (1 : Int32))) (cwv (n := 2) htb cd_B_swap k_B_71 in_B_swap se_B_swap ini_B hd_B_swap ⟨Nat.le_of_ble_eq_true rfl, Nat.le_of_ble_eq_true rfl⟩) hK hP hD hS [0, 1, 2, 3, 4, 5] [] [0, 1, 2, 3, 4, 5] rfl rfl (by decide) (by decide) rfl (fun _ => rfl) (fun _ => rfl) (ci := 0) rfl rfl rfl hl.1 rfl (Nat.le_of_ble_eq_true rfl) d_B_useLast_23 ⟨Nat.zero_le _, Nat.zero_le _⟩ (fun u_23 H locs hw_23 hP hD hS => ?_)
        have hP : va_P D vwCl (wB cI cZ g u_23) H := hP
        have hD : va_D _ (wB cI cZ g u_23) := hD
        have hF := hF.trans (bnd_eq hw_23)
        refine lv_iinc (v := (v3 + 1)) (lv' := [(3, .int (v3 + 1)), (0, .ref g.1.1), (1, .int p0), (2, .int v2)]) hx hb d_B_useLast_26 hl (k := 3) rfl rfl (by decide) rfl (fun ls hl => ?_)
        refine lv_goto (tgt := 9) hx hb d_B_useLast_29 (by decide) ?_
        have hl := lv_sub (l' := [(0, .ref g.1.1), (1, .int p0), (2, .int v2), (3, .int (v3 + 1))]) hl [1, 2, 3, 0] rfl
        exact ih v2 (v3 + 1) u_23 _ _ _ (Nat.lt_of_lt_of_le (mu_dec c_11) (Nat.le_of_lt_succ hm)) hF hP hD hS hl
  have hl := lv_entry ([.ref g.1.1, .int p0]) (n := 4) (Nat.le_of_ble_eq_true rfl)
  rw [lg_entry_eq]
  generalize (lg_sl ([.ref g.1.1, .int p0]) ++ List.replicate (4 - (lg_sl ([.ref g.1.1, .int p0])).length) Slot.unset).toArray = ls at hl ⊢
  have hl : lv_has ls 4 [(0, .ref g.1.1), (1, .int p0)] := hl
  have hF := M_B_useLast_eq g x p0
  refine lv_iload_n hx hb d_B_useLast_0 rfl (lv_at hl 1 rfl) ?_
  refine lv_aload_n hx hb d_B_useLast_1 rfl (lv_at hl 0 rfl) ?_
  refine va_get (D := D) (ci := 0) (v := .int g.2.1.2) (C := R_B) (T := T_B) (N := 7) hx hb htb i_B hown hK hP 0 rfl rfl 1 (by decide) (htb _ k_B_21) (fun _ h9 => h9) rfl d_B_useLast_2 ?_
  refine lv_irem hx hb d_B_useLast_5 hg.2.2.2 ?_
  refine lv_istore_n (lv' := [(2, .int (p0 - p0 / g.2.1.2 * g.2.1.2)), (0, .ref g.1.1), (1, .int p0)]) hx hb d_B_useLast_6 rfl hl (by decide) rfl (fun ls hl => ?_)
  refine lv_iconst (v := 0) hx hb d_B_useLast_7 (by decide) ?_
  refine lv_istore_n (lv' := [(3, .int (0 : Int32)), (2, .int (p0 - p0 / g.2.1.2 * g.2.1.2)), (0, .ref g.1.1), (1, .int p0)]) hx hb d_B_useLast_8 rfl hl (by decide) rfl (fun ls hl => ?_)
  have hl := lv_sub (l' := [(0, .ref g.1.1), (1, .int p0), (2, .int (p0 - p0 / g.2.1.2 * g.2.1.2)), (3, .int (0 : Int32))]) hl [2, 3, 1, 0] rfl
  exact cut_9 (mu (0 : Int32) (p0 - p0 / g.2.1.2 * g.2.1.2) + 1) (p0 - p0 / g.2.1.2 * g.2.1.2) (0 : Int32) x _ _ _ (Nat.lt_succ_self _) hF hP hD hS hl

def M_B_put (g : GB) (x : Bk) (p0 p1 p2 p3 p4 : Int32) : Bk := (if p0 < 0 then x else (if (nI g.2.2.1) ≤ p0 then x else (bnd (M_B_isFull g x p0) (fun r_15 => (if r_15 = 0 then (bnd (M_B_isSlot g x ((p0 * g.2.1.2) + (x.1 p0.toNatClampNeg))) (fun r_40 => (if r_40 = 0 then x else (bnd (M_B_useLast g ((upd x.1 p0.toNatClampNeg ((x.1 p0.toNatClampNeg) + (1 : Int32))), (upd x.2.1 ((p0 * g.2.1.2) + (x.1 p0.toNatClampNeg)).toNatClampNeg p1), (upd x.2.2.1 ((p0 * g.2.1.2) + (x.1 p0.toNatClampNeg)).toNatClampNeg p2), (upd x.2.2.2.1 ((p0 * g.2.1.2) + (x.1 p0.toNatClampNeg)).toNatClampNeg p4), (upd x.2.2.2.2 ((p0 * g.2.1.2) + (x.1 p0.toNatClampNeg)).toNatClampNeg (vp_nar .boolean p3))) ((p0 * g.2.1.2) + (x.1 p0.toNatClampNeg))) (fun u_93 => u_93))))) else x)))))
theorem M_B_put_eq (g : GB) (x : Bk) (p0 p1 p2 p3 p4 : Int32) : M_B_put g x p0 p1 p2 p3 p4 = (if p0 < 0 then x else (if (nI g.2.2.1) ≤ p0 then x else (bnd (M_B_isFull g x p0) (fun r_15 => (if r_15 = 0 then (bnd (M_B_isSlot g x ((p0 * g.2.1.2) + (x.1 p0.toNatClampNeg))) (fun r_40 => (if r_40 = 0 then x else (bnd (M_B_useLast g ((upd x.1 p0.toNatClampNeg ((x.1 p0.toNatClampNeg) + (1 : Int32))), (upd x.2.1 ((p0 * g.2.1.2) + (x.1 p0.toNatClampNeg)).toNatClampNeg p1), (upd x.2.2.1 ((p0 * g.2.1.2) + (x.1 p0.toNatClampNeg)).toNatClampNeg p2), (upd x.2.2.2.1 ((p0 * g.2.1.2) + (x.1 p0.toNatClampNeg)).toNatClampNeg p4), (upd x.2.2.2.2 ((p0 * g.2.1.2) + (x.1 p0.toNatClampNeg)).toNatClampNeg (vp_nar .boolean p3))) ((p0 * g.2.1.2) + (x.1 p0.toNatClampNeg))) (fun u_93 => u_93))))) else x))))) := rfl
abbrev w_B_put : List Cond := .code y_B_put b_B_put 7 none :: tbW
abbrev rm_B_put : Room := { frames := 3, cells := 0, slots := 0, locals := 70 }
set_option maxHeartbeats 4000000 in
set_option maxRecDepth 100000 in
theorem c_B_put (l : Launch) (D : va_G) (cI cZ : ClassId) (g : GB) (hg : okB g) (x : Bk) (p0 p1 p2 p3 p4 : Int32) : Met l y_B_put w_B_put rm_B_put (PcW D vwCl (tyK cI cZ) [.ref g.1.1, .int p0, .int p1, .int p2, .int p3, .int p4] (wB cI cZ g x)) (va_Qv (fun (u : Bk) => u = M_B_put g x p0 p1 p2 p3 p4) (fun (u : Bk) (t : State) => va_P D vwCl (wB cI cZ g u) t.heap) (Aw (wB cI cZ g x))) 0 0 (Aw (wB cI cZ g x)) := by
  refine Met.ofW (cc := b_B_put) (maxL := 7) (ret := none) (by decide) rfl ?_
  intro p e s m args below meth c s₁ B hml hv
  obtain ⟨rfl, hP, hK, hD0⟩ := hv
  have hx := B.exec
  have hb := B.bytes
  have hr := B.returns
  have htb : ∀ w ∈ tbW, w.before _ s = true := fun w h => atoms_spec (ws := w_B_put) B.pre w (List.mem_cons_of_mem _ h)
  have hown : s.vm.findClass R_B = some m.cls := findClass_of_methodNamed B.named
  have hlocks := B.notSynchronized
  have hD : va_D (Aw (wB cI cZ g x)) (wB cI cZ g x) := ⟨hD0.1, fun k q hk => ⟨k, q.2, hk⟩⟩
  have hS : va_S (Aw (wB cI cZ g x)) s.heap s.heap [] := va_S.rf
  have hl := lv_entry ([.ref g.1.1, .int p0, .int p1, .int p2, .int p3, .int p4]) (n := 7) (Nat.le_of_ble_eq_true rfl)
  rw [lg_entry_eq]
  generalize (lg_sl ([.ref g.1.1, .int p0, .int p1, .int p2, .int p3, .int p4]) ++ List.replicate (7 - (lg_sl ([.ref g.1.1, .int p0, .int p1, .int p2, .int p3, .int p4])).length) Slot.unset).toArray = ls at hl ⊢
  have hl : lv_has ls 7 [(0, .ref g.1.1), (1, .int p0), (2, .int p1), (3, .int p2), (4, .int p3), (5, .int p4)] := hl
  have hF := M_B_put_eq g x p0 p1 p2 p3 p4
  refine lv_iload_n hx hb d_B_put_0 rfl (lv_at hl 1 rfl) ?_
  refine lv_if_lt (tgt := 21) hx hb d_B_put_1 (by decide) (fun c_1 => ?_) (fun c_1 => ?_)
  · have hF := hF.trans (if_pos c_1)
    exact W.vret hx hb hr (fun t ht hW => ⟨⟨x, rfl, hF.symm, by dsimp only; rw [ht]; exact hP⟩, hS.F ht⟩) hS.2.2 d_B_put_21
  · have hF := hF.trans (if_neg c_1)
    refine lv_iload_n hx hb d_B_put_4 rfl (lv_at hl 1 rfl) ?_
    refine lv_aload_n hx hb d_B_put_5 rfl (lv_at hl 0 rfl) ?_
    refine va_get (D := D) (ci := 0) (v := .ref g.1.2.1) (C := R_B) (T := T_B) (N := 7) hx hb htb i_B hown hK hP 0 rfl rfl 2 (by decide) (htb _ k_B_24) (fun _ h9 => h9) rfl d_B_put_6 ?_
    refine va_alen hx hb hK hP 1 0 rfl rfl (v := nI g.2.2.1) rfl d_B_put_9 ?_
    refine lv_icmp_ge (tgt := 21) hx hb d_B_put_10 (by decide) (fun c_10 => ?_) (fun c_10 => ?_)
    · have hF := hF.trans (if_pos c_10)
      exact W.vret hx hb hr (fun t ht hW => ⟨⟨x, rfl, hF.symm, by dsimp only; rw [ht]; exact hP⟩, hS.F ht⟩) hS.2.2 d_B_put_21
    · have hF := hF.trans (if_neg c_10)
      refine lv_aload_n hx hb d_B_put_13 rfl (lv_at hl 0 rfl) ?_
      refine lv_iload_n hx hb d_B_put_14 rfl (lv_at hl 1 rfl) ?_
      refine cpi (As := [.int p0]) (rest := []) ⟨hx, hb, hml, hown, htb⟩ (c_B_isFull l D cI cZ g hg x p0) (cwv (n := 1) htb cd_B_isFull k_B_64 in_B_isFull se_B_isFull ini_B hd_B_isFull ⟨Nat.le_of_ble_eq_true rfl, Nat.le_of_ble_eq_true rfl⟩) hK hP [0, 1, 2, 3, 4, 5] rfl (ci := 0) rfl rfl rfl hl.1 rfl (Nat.le_of_ble_eq_true rfl) d_B_put_15 ⟨Nat.zero_le _, Nat.zero_le _⟩ (fun r_15 hw_15 => ?_)
      have hF := hF.trans (bnd_eq hw_15)
      refine lv_if_eq (tgt := 22) hx hb d_B_put_18 (by decide) (fun c_18 => ?_) (fun c_18 => ?_)
      · have hF := hF.trans (if_pos c_18)
        refine lv_iload_n hx hb d_B_put_22 rfl (lv_at hl 1 rfl) ?_
        refine lv_aload_n hx hb d_B_put_23 rfl (lv_at hl 0 rfl) ?_
        refine va_get (D := D) (ci := 0) (v := .int g.2.1.2) (C := R_B) (T := T_B) (N := 7) hx hb htb i_B hown hK hP 0 rfl rfl 1 (by decide) (htb _ k_B_21) (fun _ h9 => h9) rfl d_B_put_24 ?_
        refine lv_imul hx hb d_B_put_27 ?_
        refine lv_aload_n hx hb d_B_put_28 rfl (lv_at hl 0 rfl) ?_
        refine va_get (D := D) (ci := 0) (v := .ref g.1.2.1) (C := R_B) (T := T_B) (N := 7) hx hb htb i_B hown hK hP 0 rfl rfl 2 (by decide) (htb _ k_B_24) (fun _ h9 => h9) rfl d_B_put_29 ?_
        refine lv_iload_n hx hb d_B_put_32 rfl (lv_at hl 1 rfl) ?_
        refine va_iald hx hb hK hP 1 0 rfl rfl (in_ok hg.1 c_1 c_10) d_B_put_33 ?_
        refine lv_iadd hx hb d_B_put_34 ?_
        refine lv_istore (lv' := [(6, .int ((p0 * g.2.1.2) + (x.1 p0.toNatClampNeg))), (0, .ref g.1.1), (1, .int p0), (2, .int p1), (3, .int p2), (4, .int p3), (5, .int p4)]) hx hb d_B_put_35 hl (by decide) rfl (fun ls hl => ?_)
        refine lv_aload_n hx hb d_B_put_37 rfl (lv_at hl 1 rfl) ?_
        refine lv_iload hx hb d_B_put_38 (lv_at hl 0 rfl) ?_
        refine cpi (As := [.int ((p0 * g.2.1.2) + (x.1 p0.toNatClampNeg))]) (rest := []) ⟨hx, hb, hml, hown, htb⟩ (c_B_isSlot l D cI cZ g hg x ((p0 * g.2.1.2) + (x.1 p0.toNatClampNeg))) (cwv (n := 1) htb cd_B_isSlot k_B_48 in_B_isSlot se_B_isSlot ini_B hd_B_isSlot ⟨Nat.le_of_ble_eq_true rfl, Nat.le_of_ble_eq_true rfl⟩) hK hP [0, 1, 2, 3, 4, 5] rfl (ci := 0) rfl rfl rfl hl.1 rfl (Nat.le_of_ble_eq_true rfl) d_B_put_40 ⟨Nat.zero_le _, Nat.zero_le _⟩ (fun r_40 hw_40 => ?_)
        have hF := hF.trans (bnd_eq hw_40)
        refine lv_if_eq (tgt := 96) hx hb d_B_put_43 (by decide) (fun c_43 => ?_) (fun c_43 => ?_)
        · have hF := hF.trans (if_pos c_43)
          exact W.vret hx hb hr (fun t ht hW => ⟨⟨x, rfl, hF.symm, by dsimp only; rw [ht]; exact hP⟩, hS.F ht⟩) hS.2.2 d_B_put_96
        · have hF := hF.trans (if_neg c_43)
          refine lv_aload_n hx hb d_B_put_46 rfl (lv_at hl 1 rfl) ?_
          refine va_get (D := D) (ci := 0) (v := .ref g.1.2.2.1) (C := R_B) (T := T_B) (N := 7) hx hb htb i_B hown hK hP 0 rfl rfl 3 (by decide) (htb _ k_B_28) (fun _ h9 => h9) rfl d_B_put_47 ?_
          refine lv_iload hx hb d_B_put_50 (lv_at hl 0 rfl) ?_
          refine lv_iload_n hx hb d_B_put_52 rfl (lv_at hl 3 rfl) ?_
          refine va_iast hx hb hK hP hD hS 2 0 rfl rfl (isSlot_in hg hw_40 c_43) d_B_put_53 (fun H locs hP hD hS => ?_)
          have hP : va_P D vwCl (wB cI cZ g (x.1, (upd x.2.1 ((p0 * g.2.1.2) + (x.1 p0.toNatClampNeg)).toNatClampNeg p1), x.2.2.1, x.2.2.2.1, x.2.2.2.2)) H := hP
          have hD : va_D _ (wB cI cZ g (x.1, (upd x.2.1 ((p0 * g.2.1.2) + (x.1 p0.toNatClampNeg)).toNatClampNeg p1), x.2.2.1, x.2.2.2.1, x.2.2.2.2)) := hD
          refine lv_aload_n hx hb d_B_put_54 rfl (lv_at hl 1 rfl) ?_
          refine va_get (D := D) (ci := 0) (v := .ref g.1.2.2.2.1) (C := R_B) (T := T_B) (N := 7) hx hb htb i_B hown hK hP 0 rfl rfl 4 (by decide) (htb _ k_B_31) (fun _ h9 => h9) rfl d_B_put_55 ?_
          refine lv_iload hx hb d_B_put_58 (lv_at hl 0 rfl) ?_
          refine lv_iload_n hx hb d_B_put_60 rfl (lv_at hl 4 rfl) ?_
          refine va_iast hx hb hK hP hD hS 3 0 rfl rfl (isSlot_in hg hw_40 c_43) d_B_put_61 (fun H locs hP hD hS => ?_)
          have hP : va_P D vwCl (wB cI cZ g (x.1, (upd x.2.1 ((p0 * g.2.1.2) + (x.1 p0.toNatClampNeg)).toNatClampNeg p1), (upd x.2.2.1 ((p0 * g.2.1.2) + (x.1 p0.toNatClampNeg)).toNatClampNeg p2), x.2.2.2.1, x.2.2.2.2)) H := hP
          have hD : va_D _ (wB cI cZ g (x.1, (upd x.2.1 ((p0 * g.2.1.2) + (x.1 p0.toNatClampNeg)).toNatClampNeg p1), (upd x.2.2.1 ((p0 * g.2.1.2) + (x.1 p0.toNatClampNeg)).toNatClampNeg p2), x.2.2.2.1, x.2.2.2.2)) := hD
          refine lv_aload_n hx hb d_B_put_62 rfl (lv_at hl 1 rfl) ?_
          refine va_get (D := D) (ci := 0) (v := .ref g.1.2.2.2.2.2) (C := R_B) (T := T_B) (N := 7) hx hb htb i_B hown hK hP 0 rfl rfl 6 (by decide) (htb _ k_B_37) (fun _ h9 => h9) rfl d_B_put_63 ?_
          refine lv_iload hx hb d_B_put_66 (lv_at hl 0 rfl) ?_
          refine lv_iload hx hb d_B_put_68 (lv_at hl 5 rfl) ?_
          refine va_zast hx hb hK hP hD hS 5 1 rfl rfl (isSlot_in hg hw_40 c_43) d_B_put_70 (fun H locs hP hD hS => ?_)
          have hP : va_P D vwCl (wB cI cZ g (x.1, (upd x.2.1 ((p0 * g.2.1.2) + (x.1 p0.toNatClampNeg)).toNatClampNeg p1), (upd x.2.2.1 ((p0 * g.2.1.2) + (x.1 p0.toNatClampNeg)).toNatClampNeg p2), x.2.2.2.1, (upd x.2.2.2.2 ((p0 * g.2.1.2) + (x.1 p0.toNatClampNeg)).toNatClampNeg (vp_nar .boolean p3)))) H := hP
          have hD : va_D _ (wB cI cZ g (x.1, (upd x.2.1 ((p0 * g.2.1.2) + (x.1 p0.toNatClampNeg)).toNatClampNeg p1), (upd x.2.2.1 ((p0 * g.2.1.2) + (x.1 p0.toNatClampNeg)).toNatClampNeg p2), x.2.2.2.1, (upd x.2.2.2.2 ((p0 * g.2.1.2) + (x.1 p0.toNatClampNeg)).toNatClampNeg (vp_nar .boolean p3)))) := hD
          refine lv_aload_n hx hb d_B_put_71 rfl (lv_at hl 1 rfl) ?_
          refine va_get (D := D) (ci := 0) (v := .ref g.1.2.2.2.2.1) (C := R_B) (T := T_B) (N := 7) hx hb htb i_B hown hK hP 0 rfl rfl 5 (by decide) (htb _ k_B_34) (fun _ h9 => h9) rfl d_B_put_72 ?_
          refine lv_iload hx hb d_B_put_75 (lv_at hl 0 rfl) ?_
          refine lv_iload hx hb d_B_put_77 (lv_at hl 6 rfl) ?_
          refine va_iast hx hb hK hP hD hS 4 0 rfl rfl (isSlot_in hg hw_40 c_43) d_B_put_79 (fun H locs hP hD hS => ?_)
          have hP : va_P D vwCl (wB cI cZ g (x.1, (upd x.2.1 ((p0 * g.2.1.2) + (x.1 p0.toNatClampNeg)).toNatClampNeg p1), (upd x.2.2.1 ((p0 * g.2.1.2) + (x.1 p0.toNatClampNeg)).toNatClampNeg p2), (upd x.2.2.2.1 ((p0 * g.2.1.2) + (x.1 p0.toNatClampNeg)).toNatClampNeg p4), (upd x.2.2.2.2 ((p0 * g.2.1.2) + (x.1 p0.toNatClampNeg)).toNatClampNeg (vp_nar .boolean p3)))) H := hP
          have hD : va_D _ (wB cI cZ g (x.1, (upd x.2.1 ((p0 * g.2.1.2) + (x.1 p0.toNatClampNeg)).toNatClampNeg p1), (upd x.2.2.1 ((p0 * g.2.1.2) + (x.1 p0.toNatClampNeg)).toNatClampNeg p2), (upd x.2.2.2.1 ((p0 * g.2.1.2) + (x.1 p0.toNatClampNeg)).toNatClampNeg p4), (upd x.2.2.2.2 ((p0 * g.2.1.2) + (x.1 p0.toNatClampNeg)).toNatClampNeg (vp_nar .boolean p3)))) := hD
          refine lv_aload_n hx hb d_B_put_80 rfl (lv_at hl 1 rfl) ?_
          refine va_get (D := D) (ci := 0) (v := .ref g.1.2.1) (C := R_B) (T := T_B) (N := 7) hx hb htb i_B hown hK hP 0 rfl rfl 2 (by decide) (htb _ k_B_24) (fun _ h9 => h9) rfl d_B_put_81 ?_
          refine lv_iload_n hx hb d_B_put_84 rfl (lv_at hl 2 rfl) ?_
          refine lv_dup2_11 hx hb d_B_put_85 rfl rfl ?_
          refine va_iald hx hb hK hP 1 0 rfl rfl (in_ok hg.1 c_1 c_10) d_B_put_86 ?_
          refine lv_iconst (v := 1) hx hb d_B_put_87 (by decide) ?_
          refine lv_iadd hx hb d_B_put_88 ?_
          refine va_iast hx hb hK hP hD hS 1 0 rfl rfl (in_ok hg.1 c_1 c_10) d_B_put_89 (fun H locs hP hD hS => ?_)
          have hP : va_P D vwCl (wB cI cZ g ((upd x.1 p0.toNatClampNeg ((x.1 p0.toNatClampNeg) + (1 : Int32))), (upd x.2.1 ((p0 * g.2.1.2) + (x.1 p0.toNatClampNeg)).toNatClampNeg p1), (upd x.2.2.1 ((p0 * g.2.1.2) + (x.1 p0.toNatClampNeg)).toNatClampNeg p2), (upd x.2.2.2.1 ((p0 * g.2.1.2) + (x.1 p0.toNatClampNeg)).toNatClampNeg p4), (upd x.2.2.2.2 ((p0 * g.2.1.2) + (x.1 p0.toNatClampNeg)).toNatClampNeg (vp_nar .boolean p3)))) H := hP
          have hD : va_D _ (wB cI cZ g ((upd x.1 p0.toNatClampNeg ((x.1 p0.toNatClampNeg) + (1 : Int32))), (upd x.2.1 ((p0 * g.2.1.2) + (x.1 p0.toNatClampNeg)).toNatClampNeg p1), (upd x.2.2.1 ((p0 * g.2.1.2) + (x.1 p0.toNatClampNeg)).toNatClampNeg p2), (upd x.2.2.2.1 ((p0 * g.2.1.2) + (x.1 p0.toNatClampNeg)).toNatClampNeg p4), (upd x.2.2.2.2 ((p0 * g.2.1.2) + (x.1 p0.toNatClampNeg)).toNatClampNeg (vp_nar .boolean p3)))) := hD
          refine lv_aload_n hx hb d_B_put_90 rfl (lv_at hl 1 rfl) ?_
          refine lv_iload hx hb d_B_put_91 (lv_at hl 0 rfl) ?_
          refine cwv_ (As := [.int ((p0 * g.2.1.2) + (x.1 p0.toNatClampNeg))]) (rest := []) (wldC := fun u => (wB cI cZ g u)) ⟨hx, hb, hml, hown, htb⟩ (c_B_useLast l D cI cZ g hg ((upd x.1 p0.toNatClampNeg ((x.1 p0.toNatClampNeg) + (1 : Int32))), (upd x.2.1 ((p0 * g.2.1.2) + (x.1 p0.toNatClampNeg)).toNatClampNeg p1), (upd x.2.2.1 ((p0 * g.2.1.2) + (x.1 p0.toNatClampNeg)).toNatClampNeg p2), (upd x.2.2.2.1 ((p0 * g.2.1.2) + (x.1 p0.toNatClampNeg)).toNatClampNeg p4), (upd x.2.2.2.2 ((p0 * g.2.1.2) + (x.1 p0.toNatClampNeg)).toNatClampNeg (vp_nar .boolean p3))) ((p0 * g.2.1.2) + (x.1 p0.toNatClampNeg))) (cwv (n := 1) htb cd_B_useLast k_B_67 in_B_useLast se_B_useLast ini_B hd_B_useLast ⟨Nat.le_of_ble_eq_true rfl, Nat.le_of_ble_eq_true rfl⟩) hK hP hD hS [0, 1, 2, 3, 4, 5] [] [0, 1, 2, 3, 4, 5] rfl rfl (by decide) (by decide) rfl (fun _ => rfl) (fun _ => rfl) (ci := 0) rfl rfl rfl hl.1 rfl (Nat.le_of_ble_eq_true rfl) d_B_put_93 ⟨Nat.zero_le _, Nat.zero_le _⟩ (fun u_93 H locs hw_93 hP hD hS => ?_)
          have hP : va_P D vwCl (wB cI cZ g u_93) H := hP
          have hD : va_D _ (wB cI cZ g u_93) := hD
          have hF := hF.trans (bnd_eq hw_93)
          exact W.vret hx hb hr (fun t ht hW => ⟨⟨u_93, rfl, hF.symm, by dsimp only; rw [ht]; exact hP⟩, hS.F ht⟩) hS.2.2 d_B_put_96
      · have hF := hF.trans (if_neg c_18)
        exact W.vret hx hb hr (fun t ht hW => ⟨⟨x, rfl, hF.symm, by dsimp only; rw [ht]; exact hP⟩, hS.F ht⟩) hS.2.2 d_B_put_21

def L_B_drop_47 (g : GB) (p0 : Int32) : Nat → Int32 → Int32 → Int32 → Bk → Bk
  | 0, _, _, _, z => z
  | n + 1, v2, v3, v4, z => (if v3 ≤ v4 then (bnd (M_B_clean g z v3) (fun u_71 => ((upd u_71.1 v2.toNatClampNeg ((u_71.1 v2.toNatClampNeg) - (1 : Int32))), u_71.2.1, u_71.2.2.1, u_71.2.2.2.1, u_71.2.2.2.2))) else (bnd (M_B_swap g z v4 (v4 + (1 : Int32))) (fun u_60 => L_B_drop_47 g p0 n v2 v3 (v4 + 1) u_60)))
theorem L_B_drop_47_eq (g : GB) (p0 : Int32) (n : Nat) (v2 v3 v4 : Int32) (z : Bk) : L_B_drop_47 g p0 (n + 1) v2 v3 v4 z = (if v3 ≤ v4 then (bnd (M_B_clean g z v3) (fun u_71 => ((upd u_71.1 v2.toNatClampNeg ((u_71.1 v2.toNatClampNeg) - (1 : Int32))), u_71.2.1, u_71.2.2.1, u_71.2.2.2.1, u_71.2.2.2.2))) else (bnd (M_B_swap g z v4 (v4 + (1 : Int32))) (fun u_60 => L_B_drop_47 g p0 n v2 v3 (v4 + 1) u_60))) := by first | rfl | rw [L_B_drop_47]
def L_B_drop_19 (g : GB) (p0 : Int32) (v2 : Int32) (z : Bk) : Bk := (bnd (M_B_oldest g z v2) (fun r_21 => (if v2 < 0 then z else (if (nI g.2.2.1) ≤ v2 then z else (if p0 ≤ r_21 then L_B_drop_47 g p0 (mu p0 r_21 + 1) v2 r_21 p0 z else z)))))
theorem L_B_drop_19_eq (g : GB) (p0 : Int32) (v2 : Int32) (z : Bk) : L_B_drop_19 g p0 v2 z = (bnd (M_B_oldest g z v2) (fun r_21 => (if v2 < 0 then z else (if (nI g.2.2.1) ≤ v2 then z else (if p0 ≤ r_21 then L_B_drop_47 g p0 (mu p0 r_21 + 1) v2 r_21 p0 z else z))))) := rfl
def M_B_drop (g : GB) (x : Bk) (p0 : Int32) : Bk := (bnd (M_B_isSlot g x p0) (fun r_2 => (if r_2 = 0 then L_B_drop_19 g p0 (-1 : Int32) x else L_B_drop_19 g p0 (p0 / g.2.1.2) x)))
theorem M_B_drop_eq (g : GB) (x : Bk) (p0 : Int32) : M_B_drop g x p0 = (bnd (M_B_isSlot g x p0) (fun r_2 => (if r_2 = 0 then L_B_drop_19 g p0 (-1 : Int32) x else L_B_drop_19 g p0 (p0 / g.2.1.2) x))) := rfl
abbrev w_B_drop : List Cond := .code y_B_drop b_B_drop 5 none :: tbW
abbrev rm_B_drop : Room := { frames := 2, cells := 0, slots := 0, locals := 47 }
set_option maxHeartbeats 4000000 in
set_option maxRecDepth 100000 in
theorem c_B_drop (l : Launch) (D : va_G) (cI cZ : ClassId) (g : GB) (hg : okB g) (x : Bk) (p0 : Int32) : Met l y_B_drop w_B_drop rm_B_drop (PcW D vwCl (tyK cI cZ) [.ref g.1.1, .int p0] (wB cI cZ g x)) (va_Qv (fun (u : Bk) => u = M_B_drop g x p0) (fun (u : Bk) (t : State) => va_P D vwCl (wB cI cZ g u) t.heap) (Aw (wB cI cZ g x))) 0 0 (Aw (wB cI cZ g x)) := by
  refine Met.ofW (cc := b_B_drop) (maxL := 5) (ret := none) (by decide) rfl ?_
  intro p e s m args below meth c s₁ B hml hv
  obtain ⟨rfl, hP, hK, hD0⟩ := hv
  have hx := B.exec
  have hb := B.bytes
  have hr := B.returns
  have htb : ∀ w ∈ tbW, w.before _ s = true := fun w h => atoms_spec (ws := w_B_drop) B.pre w (List.mem_cons_of_mem _ h)
  have hown : s.vm.findClass R_B = some m.cls := findClass_of_methodNamed B.named
  have hlocks := B.notSynchronized
  have hD : va_D (Aw (wB cI cZ g x)) (wB cI cZ g x) := ⟨hD0.1, fun k q hk => ⟨k, q.2, hk⟩⟩
  have hS : va_S (Aw (wB cI cZ g x)) s.heap s.heap [] := va_S.rf
  have cut_47 : ∀ (n : Nat) (v2 v3 v4 : Int32) (z : Bk) (H : Heap) (locs : List Loc) (ls : Array Slot), mu v4 v3 < n → vp_in v2 g.2.2.1 → M_B_drop g x p0 = L_B_drop_47 g p0 n v2 v3 v4 z → va_P D vwCl (wB cI cZ g z) H → va_D (Aw (wB cI cZ g x)) (wB cI cZ g z) → va_S (Aw (wB cI cZ g x)) s.heap H locs → lv_has ls 5 [(0, .ref g.1.1), (1, .int p0), (2, .int v2), (3, .int v3), (4, .int v4)] → W p l e (headSpec w_B_drop rm_B_drop).room s m ([.ref g.1.1, .int p0] : List Value).toArray below meth c H locs 0 0 (MQ below (va_Qv (fun (u : Bk) => u = M_B_drop g x p0) (fun (u : Bk) (t : State) => va_P D vwCl (wB cI cZ g u) t.heap) (Aw (wB cI cZ g x))) ([.ref g.1.1, .int p0] : List Value).toArray s 0 0 (Aw (wB cI cZ g x))) (F0 m 47 ls []) := by
    intro n
    induction n with
    | zero => intro v2 v3 v4 z H locs ls hm _ _ _ _ _ _; exact absurd hm (Nat.not_lt_zero _)
    | succ n ih =>
      intro v2 v3 v4 z H locs ls hm h1 hF hP hD hS hl
      have hF := hF.trans (L_B_drop_47_eq g p0 n v2 v3 v4 z)
      refine lv_iload hx hb d_B_drop_47 (lv_at hl 4 rfl) ?_
      refine lv_iload_n hx hb d_B_drop_49 rfl (lv_at hl 3 rfl) ?_
      refine lv_icmp_ge (tgt := 69) hx hb d_B_drop_50 (by decide) (fun c_50 => ?_) (fun c_50 => ?_)
      · have hF := hF.trans (if_pos c_50)
        refine lv_aload_n hx hb d_B_drop_69 rfl (lv_at hl 0 rfl) ?_
        refine lv_iload_n hx hb d_B_drop_70 rfl (lv_at hl 3 rfl) ?_
        refine cwv_ (As := [.int v3]) (rest := []) (wldC := fun u => (wB cI cZ g u)) ⟨hx, hb, hml, hown, htb⟩ (c_B_clean l D cI cZ g hg z v3) (cwv (n := 1) htb cd_B_clean k_B_78 in_B_clean se_B_clean ini_B hd_B_clean ⟨Nat.le_of_ble_eq_true rfl, Nat.le_of_ble_eq_true rfl⟩) hK hP hD hS [0, 1, 2, 3, 4, 5] [] [0, 1, 2, 3, 4, 5] rfl rfl (by decide) (by decide) rfl (fun _ => rfl) (fun _ => rfl) (ci := 0) rfl rfl rfl hl.1 rfl (Nat.le_of_ble_eq_true rfl) d_B_drop_71 ⟨Nat.zero_le _, Nat.zero_le _⟩ (fun u_71 H locs hw_71 hP hD hS => ?_)
        have hP : va_P D vwCl (wB cI cZ g u_71) H := hP
        have hD : va_D _ (wB cI cZ g u_71) := hD
        have hF := hF.trans (bnd_eq hw_71)
        refine lv_aload_n hx hb d_B_drop_74 rfl (lv_at hl 0 rfl) ?_
        refine va_get (D := D) (ci := 0) (v := .ref g.1.2.1) (C := R_B) (T := T_B) (N := 7) hx hb htb i_B hown hK hP 0 rfl rfl 2 (by decide) (htb _ k_B_24) (fun _ h9 => h9) rfl d_B_drop_75 ?_
        refine lv_iload_n hx hb d_B_drop_78 rfl (lv_at hl 2 rfl) ?_
        refine lv_dup2_11 hx hb d_B_drop_79 rfl rfl ?_
        refine va_iald hx hb hK hP 1 0 rfl rfl h1 d_B_drop_80 ?_
        refine lv_iconst (v := 1) hx hb d_B_drop_81 (by decide) ?_
        refine lv_isub hx hb d_B_drop_82 ?_
        refine va_iast hx hb hK hP hD hS 1 0 rfl rfl h1 d_B_drop_83 (fun H locs hP hD hS => ?_)
        have hP : va_P D vwCl (wB cI cZ g ((upd u_71.1 v2.toNatClampNeg ((u_71.1 v2.toNatClampNeg) - (1 : Int32))), u_71.2.1, u_71.2.2.1, u_71.2.2.2.1, u_71.2.2.2.2)) H := hP
        have hD : va_D _ (wB cI cZ g ((upd u_71.1 v2.toNatClampNeg ((u_71.1 v2.toNatClampNeg) - (1 : Int32))), u_71.2.1, u_71.2.2.1, u_71.2.2.2.1, u_71.2.2.2.2)) := hD
        exact W.vret hx hb hr (fun t ht hW => ⟨⟨((upd u_71.1 v2.toNatClampNeg ((u_71.1 v2.toNatClampNeg) - (1 : Int32))), u_71.2.1, u_71.2.2.1, u_71.2.2.2.1, u_71.2.2.2.2), rfl, hF.symm, by dsimp only; rw [ht]; exact hP⟩, hS.F ht⟩) hS.2.2 d_B_drop_84
      · have hF := hF.trans (if_neg c_50)
        refine lv_aload_n hx hb d_B_drop_53 rfl (lv_at hl 0 rfl) ?_
        refine lv_iload hx hb d_B_drop_54 (lv_at hl 4 rfl) ?_
        refine lv_iload hx hb d_B_drop_56 (lv_at hl 4 rfl) ?_
        refine lv_iconst (v := 1) hx hb d_B_drop_58 (by decide) ?_
        refine lv_iadd hx hb d_B_drop_59 ?_
        refine cwv_ (As := [.int v4, .int (v4 + (1 : Int32))]) (rest := []) (wldC := fun u => (wB cI cZ g u)) ⟨hx, hb, hml, hown, htb⟩ (c_B_swap l D cI cZ g hg z v4 (v4 + (1 : Int32))) (cwv (n := 2) htb cd_B_swap k_B_71 in_B_swap se_B_swap ini_B hd_B_swap ⟨Nat.le_of_ble_eq_true rfl, Nat.le_of_ble_eq_true rfl⟩) hK hP hD hS [0, 1, 2, 3, 4, 5] [] [0, 1, 2, 3, 4, 5] rfl rfl (by decide) (by decide) rfl (fun _ => rfl) (fun _ => rfl) (ci := 0) rfl rfl rfl hl.1 rfl (Nat.le_of_ble_eq_true rfl) d_B_drop_60 ⟨Nat.zero_le _, Nat.zero_le _⟩ (fun u_60 H locs hw_60 hP hD hS => ?_)
        have hP : va_P D vwCl (wB cI cZ g u_60) H := hP
        have hD : va_D _ (wB cI cZ g u_60) := hD
        have hF := hF.trans (bnd_eq hw_60)
        refine lv_iinc (v := (v4 + 1)) (lv' := [(4, .int (v4 + 1)), (0, .ref g.1.1), (1, .int p0), (2, .int v2), (3, .int v3)]) hx hb d_B_drop_63 hl (k := 4) rfl rfl (by decide) rfl (fun ls hl => ?_)
        refine lv_goto (tgt := 47) hx hb d_B_drop_66 (by decide) ?_
        have hl := lv_sub (l' := [(0, .ref g.1.1), (1, .int p0), (2, .int v2), (3, .int v3), (4, .int (v4 + 1))]) hl [1, 2, 3, 4, 0] rfl
        exact ih v2 v3 (v4 + 1) u_60 _ _ _ (Nat.lt_of_lt_of_le (mu_dec c_50) (Nat.le_of_lt_succ hm)) h1 hF hP hD hS hl
  have cut_19 : ∀ (v2 : Int32) (z : Bk) (H : Heap) (locs : List Loc) (ls : Array Slot), M_B_drop g x p0 = L_B_drop_19 g p0 v2 z → va_P D vwCl (wB cI cZ g z) H → va_D (Aw (wB cI cZ g x)) (wB cI cZ g z) → va_S (Aw (wB cI cZ g x)) s.heap H locs → lv_has ls 5 [(0, .ref g.1.1), (1, .int p0), (2, .int v2)] → W p l e (headSpec w_B_drop rm_B_drop).room s m ([.ref g.1.1, .int p0] : List Value).toArray below meth c H locs 0 0 (MQ below (va_Qv (fun (u : Bk) => u = M_B_drop g x p0) (fun (u : Bk) (t : State) => va_P D vwCl (wB cI cZ g u) t.heap) (Aw (wB cI cZ g x))) ([.ref g.1.1, .int p0] : List Value).toArray s 0 0 (Aw (wB cI cZ g x))) (F0 m 19 ls []) := by
    intro v2 z H locs ls hF hP hD hS hl
    have hF := hF.trans (L_B_drop_19_eq g p0 v2 z)
    refine lv_aload_n hx hb d_B_drop_19 rfl (lv_at hl 0 rfl) ?_
    refine lv_iload_n hx hb d_B_drop_20 rfl (lv_at hl 2 rfl) ?_
    refine cpi (As := [.int v2]) (rest := []) ⟨hx, hb, hml, hown, htb⟩ (c_B_oldest l D cI cZ g hg z v2) (cwv (n := 1) htb cd_B_oldest k_B_75 in_B_oldest se_B_oldest ini_B hd_B_oldest ⟨Nat.le_of_ble_eq_true rfl, Nat.le_of_ble_eq_true rfl⟩) hK hP [0, 1, 2, 3, 4, 5] rfl (ci := 0) rfl rfl rfl hl.1 rfl (Nat.le_of_ble_eq_true rfl) d_B_drop_21 ⟨Nat.zero_le _, Nat.zero_le _⟩ (fun r_21 hw_21 => ?_)
    have hF := hF.trans (bnd_eq hw_21)
    refine lv_istore_n (lv' := [(3, .int r_21), (0, .ref g.1.1), (1, .int p0), (2, .int v2)]) hx hb d_B_drop_24 rfl hl (by decide) rfl (fun ls hl => ?_)
    refine lv_iload_n hx hb d_B_drop_25 rfl (lv_at hl 3 rfl) ?_
    refine lv_if_lt (tgt := 43) hx hb d_B_drop_26 (by decide) (fun c_26 => ?_) (fun c_26 => ?_)
    · have hF := hF.trans (if_pos c_26)
      exact W.vret hx hb hr (fun t ht hW => ⟨⟨z, rfl, hF.symm, by dsimp only; rw [ht]; exact hP⟩, hS.F ht⟩) hS.2.2 d_B_drop_43
    · have hF := hF.trans (if_neg c_26)
      refine lv_iload_n hx hb d_B_drop_29 rfl (lv_at hl 3 rfl) ?_
      refine lv_aload_n hx hb d_B_drop_30 rfl (lv_at hl 1 rfl) ?_
      refine va_get (D := D) (ci := 0) (v := .ref g.1.2.1) (C := R_B) (T := T_B) (N := 7) hx hb htb i_B hown hK hP 0 rfl rfl 2 (by decide) (htb _ k_B_24) (fun _ h9 => h9) rfl d_B_drop_31 ?_
      refine va_alen hx hb hK hP 1 0 rfl rfl (v := nI g.2.2.1) rfl d_B_drop_34 ?_
      refine lv_icmp_ge (tgt := 43) hx hb d_B_drop_35 (by decide) (fun c_35 => ?_) (fun c_35 => ?_)
      · have hF := hF.trans (if_pos c_35)
        exact W.vret hx hb hr (fun t ht hW => ⟨⟨z, rfl, hF.symm, by dsimp only; rw [ht]; exact hP⟩, hS.F ht⟩) hS.2.2 d_B_drop_43
      · have hF := hF.trans (if_neg c_35)
        refine lv_iload_n hx hb d_B_drop_38 rfl (lv_at hl 2 rfl) ?_
        refine lv_iload_n hx hb d_B_drop_39 rfl (lv_at hl 0 rfl) ?_
        refine lv_icmp_le (tgt := 44) hx hb d_B_drop_40 (by decide) (fun c_40 => ?_) (fun c_40 => ?_)
        · have hF := hF.trans (if_pos c_40)
          refine lv_iload_n hx hb d_B_drop_44 rfl (lv_at hl 2 rfl) ?_
          refine lv_istore (lv' := [(4, .int p0), (3, .int r_21), (0, .ref g.1.1), (1, .int p0), (2, .int v2)]) hx hb d_B_drop_45 hl (by decide) rfl (fun ls hl => ?_)
          have hl := lv_sub (l' := [(0, .ref g.1.1), (1, .int p0), (2, .int v2), (3, .int r_21), (4, .int p0)]) hl [2, 3, 4, 1, 0] rfl
          exact cut_47 (mu p0 r_21 + 1) v2 r_21 p0 z _ _ _ (Nat.lt_succ_self _) (in_ok hg.1 c_26 c_35) hF hP hD hS hl
        · have hF := hF.trans (if_neg c_40)
          exact W.vret hx hb hr (fun t ht hW => ⟨⟨z, rfl, hF.symm, by dsimp only; rw [ht]; exact hP⟩, hS.F ht⟩) hS.2.2 d_B_drop_43
  have hl := lv_entry ([.ref g.1.1, .int p0]) (n := 5) (Nat.le_of_ble_eq_true rfl)
  rw [lg_entry_eq]
  generalize (lg_sl ([.ref g.1.1, .int p0]) ++ List.replicate (5 - (lg_sl ([.ref g.1.1, .int p0])).length) Slot.unset).toArray = ls at hl ⊢
  have hl : lv_has ls 5 [(0, .ref g.1.1), (1, .int p0)] := hl
  have hF := M_B_drop_eq g x p0
  refine lv_aload_n hx hb d_B_drop_0 rfl (lv_at hl 0 rfl) ?_
  refine lv_iload_n hx hb d_B_drop_1 rfl (lv_at hl 1 rfl) ?_
  refine cpi (As := [.int p0]) (rest := []) ⟨hx, hb, hml, hown, htb⟩ (c_B_isSlot l D cI cZ g hg x p0) (cwv (n := 1) htb cd_B_isSlot k_B_48 in_B_isSlot se_B_isSlot ini_B hd_B_isSlot ⟨Nat.le_of_ble_eq_true rfl, Nat.le_of_ble_eq_true rfl⟩) hK hP [0, 1, 2, 3, 4, 5] rfl (ci := 0) rfl rfl rfl hl.1 rfl (Nat.le_of_ble_eq_true rfl) d_B_drop_2 ⟨Nat.zero_le _, Nat.zero_le _⟩ (fun r_2 hw_2 => ?_)
  have hF := hF.trans (bnd_eq hw_2)
  refine lv_if_eq (tgt := 17) hx hb d_B_drop_5 (by decide) (fun c_5 => ?_) (fun c_5 => ?_)
  · have hF := hF.trans (if_pos c_5)
    refine lv_iconst (v := -1) hx hb d_B_drop_17 (by decide) ?_
    refine lv_istore_n (lv' := [(2, .int (-1 : Int32)), (0, .ref g.1.1), (1, .int p0)]) hx hb d_B_drop_18 rfl hl (by decide) rfl (fun ls hl => ?_)
    have hl := lv_sub (l' := [(0, .ref g.1.1), (1, .int p0), (2, .int (-1 : Int32))]) hl [1, 2, 0] rfl
    exact cut_19 (-1 : Int32) x _ _ _ hF hP hD hS hl
  · have hF := hF.trans (if_neg c_5)
    refine lv_iload_n hx hb d_B_drop_8 rfl (lv_at hl 1 rfl) ?_
    refine lv_aload_n hx hb d_B_drop_9 rfl (lv_at hl 0 rfl) ?_
    refine va_get (D := D) (ci := 0) (v := .int g.2.1.2) (C := R_B) (T := T_B) (N := 7) hx hb htb i_B hown hK hP 0 rfl rfl 1 (by decide) (htb _ k_B_21) (fun _ h9 => h9) rfl d_B_drop_10 ?_
    refine lv_idiv hx hb d_B_drop_13 hg.2.2.2 ?_
    refine lv_goto (tgt := 18) hx hb d_B_drop_14 (by decide) ?_
    refine lv_istore_n (lv' := [(2, .int (p0 / g.2.1.2)), (0, .ref g.1.1), (1, .int p0)]) hx hb d_B_drop_18 rfl hl (by decide) rfl (fun ls hl => ?_)
    have hl := lv_sub (l' := [(0, .ref g.1.1), (1, .int p0), (2, .int (p0 / g.2.1.2))]) hl [1, 2, 0] rfl
    exact cut_19 (p0 / g.2.1.2) x _ _ _ hF hP hD hS hl

def L_B_clear_26 (g : GB) : Nat → Int32 → Bk → Bk
  | 0, _, z => z
  | n + 1, v1, z => (if (nI g.2.2.2) ≤ v1 then z else L_B_clear_26 g n (v1 + 1) (z.1, z.2.1, z.2.2.1, z.2.2.2.1, (upd z.2.2.2.2 v1.toNatClampNeg (vp_nar .boolean (0 : Int32)))))
theorem L_B_clear_26_eq (g : GB) (n : Nat) (v1 : Int32) (z : Bk) : L_B_clear_26 g (n + 1) v1 z = (if (nI g.2.2.2) ≤ v1 then z else L_B_clear_26 g n (v1 + 1) (z.1, z.2.1, z.2.2.1, z.2.2.2.1, (upd z.2.2.2.2 v1.toNatClampNeg (vp_nar .boolean (0 : Int32))))) := by first | rfl | rw [L_B_clear_26]
def L_B_clear_2 (g : GB) : Nat → Int32 → Bk → Bk
  | 0, _, z => z
  | n + 1, v1, z => (if (nI g.2.2.1) ≤ v1 then L_B_clear_26 g (mu (0 : Int32) (nI g.2.2.2) + 1) (0 : Int32) z else L_B_clear_2 g n (v1 + 1) ((upd z.1 v1.toNatClampNeg (0 : Int32)), z.2.1, z.2.2.1, z.2.2.2.1, z.2.2.2.2))
theorem L_B_clear_2_eq (g : GB) (n : Nat) (v1 : Int32) (z : Bk) : L_B_clear_2 g (n + 1) v1 z = (if (nI g.2.2.1) ≤ v1 then L_B_clear_26 g (mu (0 : Int32) (nI g.2.2.2) + 1) (0 : Int32) z else L_B_clear_2 g n (v1 + 1) ((upd z.1 v1.toNatClampNeg (0 : Int32)), z.2.1, z.2.2.1, z.2.2.2.1, z.2.2.2.2)) := by first | rfl | rw [L_B_clear_2]
def M_B_clear (g : GB) (x : Bk) : Bk := L_B_clear_2 g (mu (0 : Int32) (nI g.2.2.1) + 1) (0 : Int32) x
theorem M_B_clear_eq (g : GB) (x : Bk) : M_B_clear g x = L_B_clear_2 g (mu (0 : Int32) (nI g.2.2.1) + 1) (0 : Int32) x := rfl
abbrev w_B_clear : List Cond := .code y_B_clear b_B_clear 2 none :: tbW
abbrev rm_B_clear : Room := { frames := 0, cells := 0, slots := 0, locals := 0 }
set_option maxHeartbeats 4000000 in
set_option maxRecDepth 100000 in
theorem c_B_clear (l : Launch) (D : va_G) (cI cZ : ClassId) (g : GB) (hg : okB g) (x : Bk) : Met l y_B_clear w_B_clear rm_B_clear (PcW D vwCl (tyK cI cZ) [.ref g.1.1] (wB cI cZ g x)) (va_Qv (fun (u : Bk) => u = M_B_clear g x) (fun (u : Bk) (t : State) => va_P D vwCl (wB cI cZ g u) t.heap) (Aw (wB cI cZ g x))) 0 0 (Aw (wB cI cZ g x)) := by
  refine Met.ofW (cc := b_B_clear) (maxL := 2) (ret := none) (by decide) rfl ?_
  intro p e s m args below meth c s₁ B hml hv
  obtain ⟨rfl, hP, hK, hD0⟩ := hv
  have hx := B.exec
  have hb := B.bytes
  have hr := B.returns
  have htb : ∀ w ∈ tbW, w.before _ s = true := fun w h => atoms_spec (ws := w_B_clear) B.pre w (List.mem_cons_of_mem _ h)
  have hown : s.vm.findClass R_B = some m.cls := findClass_of_methodNamed B.named
  have hlocks := B.notSynchronized
  have hD : va_D (Aw (wB cI cZ g x)) (wB cI cZ g x) := ⟨hD0.1, fun k q hk => ⟨k, q.2, hk⟩⟩
  have hS : va_S (Aw (wB cI cZ g x)) s.heap s.heap [] := va_S.rf
  have cut_26 : ∀ (n : Nat) (v1 : Int32) (z : Bk) (H : Heap) (locs : List Loc) (ls : Array Slot), mu v1 (nI g.2.2.2) < n → ¬ v1 < 0 → M_B_clear g x = L_B_clear_26 g n v1 z → va_P D vwCl (wB cI cZ g z) H → va_D (Aw (wB cI cZ g x)) (wB cI cZ g z) → va_S (Aw (wB cI cZ g x)) s.heap H locs → lv_has ls 2 [(0, .ref g.1.1), (1, .int v1)] → W p l e (headSpec w_B_clear rm_B_clear).room s m ([.ref g.1.1] : List Value).toArray below meth c H locs 0 0 (MQ below (va_Qv (fun (u : Bk) => u = M_B_clear g x) (fun (u : Bk) (t : State) => va_P D vwCl (wB cI cZ g u) t.heap) (Aw (wB cI cZ g x))) ([.ref g.1.1] : List Value).toArray s 0 0 (Aw (wB cI cZ g x))) (F0 m 26 ls []) := by
    intro n
    induction n with
    | zero => intro v1 z H locs ls hm _ _ _ _ _ _; exact absurd hm (Nat.not_lt_zero _)
    | succ n ih =>
      intro v1 z H locs ls hm h0 hF hP hD hS hl
      have hF := hF.trans (L_B_clear_26_eq g n v1 z)
      refine lv_iload_n hx hb d_B_clear_26 rfl (lv_at hl 1 rfl) ?_
      refine lv_aload_n hx hb d_B_clear_27 rfl (lv_at hl 0 rfl) ?_
      refine va_get (D := D) (ci := 0) (v := .ref g.1.2.2.2.2.2) (C := R_B) (T := T_B) (N := 7) hx hb htb i_B hown hK hP 0 rfl rfl 6 (by decide) (htb _ k_B_37) (fun _ h9 => h9) rfl d_B_clear_28 ?_
      refine va_alen hx hb hK hP 5 1 rfl rfl (v := nI g.2.2.2) rfl d_B_clear_31 ?_
      refine lv_icmp_ge (tgt := 48) hx hb d_B_clear_32 (by decide) (fun c_32 => ?_) (fun c_32 => ?_)
      · have hF := hF.trans (if_pos c_32)
        exact W.vret hx hb hr (fun t ht hW => ⟨⟨z, rfl, hF.symm, by dsimp only; rw [ht]; exact hP⟩, hS.F ht⟩) hS.2.2 d_B_clear_48
      · have hF := hF.trans (if_neg c_32)
        refine lv_aload_n hx hb d_B_clear_35 rfl (lv_at hl 0 rfl) ?_
        refine va_get (D := D) (ci := 0) (v := .ref g.1.2.2.2.2.2) (C := R_B) (T := T_B) (N := 7) hx hb htb i_B hown hK hP 0 rfl rfl 6 (by decide) (htb _ k_B_37) (fun _ h9 => h9) rfl d_B_clear_36 ?_
        refine lv_iload_n hx hb d_B_clear_39 rfl (lv_at hl 1 rfl) ?_
        refine lv_iconst (v := 0) hx hb d_B_clear_40 (by decide) ?_
        refine va_zast hx hb hK hP hD hS 5 1 rfl rfl (in_ok hg.2.1 h0 c_32) d_B_clear_41 (fun H locs hP hD hS => ?_)
        have hP : va_P D vwCl (wB cI cZ g (z.1, z.2.1, z.2.2.1, z.2.2.2.1, (upd z.2.2.2.2 v1.toNatClampNeg (vp_nar .boolean (0 : Int32))))) H := hP
        have hD : va_D _ (wB cI cZ g (z.1, z.2.1, z.2.2.1, z.2.2.2.1, (upd z.2.2.2.2 v1.toNatClampNeg (vp_nar .boolean (0 : Int32))))) := hD
        refine lv_iinc (v := (v1 + 1)) (lv' := [(1, .int (v1 + 1)), (0, .ref g.1.1)]) hx hb d_B_clear_42 hl (k := 1) rfl rfl (by decide) rfl (fun ls hl => ?_)
        refine lv_goto (tgt := 26) hx hb d_B_clear_45 (by decide) ?_
        have hl := lv_sub (l' := [(0, .ref g.1.1), (1, .int (v1 + 1))]) hl [1, 0] rfl
        exact ih (v1 + 1) (z.1, z.2.1, z.2.2.1, z.2.2.2.1, (upd z.2.2.2.2 v1.toNatClampNeg (vp_nar .boolean (0 : Int32)))) _ _ _ (Nat.lt_of_lt_of_le (mu_dec c_32) (Nat.le_of_lt_succ hm)) (up_nn h0 c_32) hF hP hD hS hl
  have cut_2 : ∀ (n : Nat) (v1 : Int32) (z : Bk) (H : Heap) (locs : List Loc) (ls : Array Slot), mu v1 (nI g.2.2.1) < n → ¬ v1 < 0 → M_B_clear g x = L_B_clear_2 g n v1 z → va_P D vwCl (wB cI cZ g z) H → va_D (Aw (wB cI cZ g x)) (wB cI cZ g z) → va_S (Aw (wB cI cZ g x)) s.heap H locs → lv_has ls 2 [(0, .ref g.1.1), (1, .int v1)] → W p l e (headSpec w_B_clear rm_B_clear).room s m ([.ref g.1.1] : List Value).toArray below meth c H locs 0 0 (MQ below (va_Qv (fun (u : Bk) => u = M_B_clear g x) (fun (u : Bk) (t : State) => va_P D vwCl (wB cI cZ g u) t.heap) (Aw (wB cI cZ g x))) ([.ref g.1.1] : List Value).toArray s 0 0 (Aw (wB cI cZ g x))) (F0 m 2 ls []) := by
    intro n
    induction n with
    | zero => intro v1 z H locs ls hm _ _ _ _ _ _; exact absurd hm (Nat.not_lt_zero _)
    | succ n ih =>
      intro v1 z H locs ls hm h0 hF hP hD hS hl
      have hF := hF.trans (L_B_clear_2_eq g n v1 z)
      refine lv_iload_n hx hb d_B_clear_2 rfl (lv_at hl 1 rfl) ?_
      refine lv_aload_n hx hb d_B_clear_3 rfl (lv_at hl 0 rfl) ?_
      refine va_get (D := D) (ci := 0) (v := .ref g.1.2.1) (C := R_B) (T := T_B) (N := 7) hx hb htb i_B hown hK hP 0 rfl rfl 2 (by decide) (htb _ k_B_24) (fun _ h9 => h9) rfl d_B_clear_4 ?_
      refine va_alen hx hb hK hP 1 0 rfl rfl (v := nI g.2.2.1) rfl d_B_clear_7 ?_
      refine lv_icmp_ge (tgt := 24) hx hb d_B_clear_8 (by decide) (fun c_8 => ?_) (fun c_8 => ?_)
      · have hF := hF.trans (if_pos c_8)
        refine lv_iconst (v := 0) hx hb d_B_clear_24 (by decide) ?_
        refine lv_istore_n (lv' := [(1, .int (0 : Int32)), (0, .ref g.1.1)]) hx hb d_B_clear_25 rfl hl (by decide) rfl (fun ls hl => ?_)
        have hl := lv_sub (l' := [(0, .ref g.1.1), (1, .int (0 : Int32))]) hl [1, 0] rfl
        exact cut_26 (mu (0 : Int32) (nI g.2.2.2) + 1) (0 : Int32) z _ _ _ (Nat.lt_succ_self _) (by decide) hF hP hD hS hl
      · have hF := hF.trans (if_neg c_8)
        refine lv_aload_n hx hb d_B_clear_11 rfl (lv_at hl 0 rfl) ?_
        refine va_get (D := D) (ci := 0) (v := .ref g.1.2.1) (C := R_B) (T := T_B) (N := 7) hx hb htb i_B hown hK hP 0 rfl rfl 2 (by decide) (htb _ k_B_24) (fun _ h9 => h9) rfl d_B_clear_12 ?_
        refine lv_iload_n hx hb d_B_clear_15 rfl (lv_at hl 1 rfl) ?_
        refine lv_iconst (v := 0) hx hb d_B_clear_16 (by decide) ?_
        refine va_iast hx hb hK hP hD hS 1 0 rfl rfl (in_ok hg.1 h0 c_8) d_B_clear_17 (fun H locs hP hD hS => ?_)
        have hP : va_P D vwCl (wB cI cZ g ((upd z.1 v1.toNatClampNeg (0 : Int32)), z.2.1, z.2.2.1, z.2.2.2.1, z.2.2.2.2)) H := hP
        have hD : va_D _ (wB cI cZ g ((upd z.1 v1.toNatClampNeg (0 : Int32)), z.2.1, z.2.2.1, z.2.2.2.1, z.2.2.2.2)) := hD
        refine lv_iinc (v := (v1 + 1)) (lv' := [(1, .int (v1 + 1)), (0, .ref g.1.1)]) hx hb d_B_clear_18 hl (k := 1) rfl rfl (by decide) rfl (fun ls hl => ?_)
        refine lv_goto (tgt := 2) hx hb d_B_clear_21 (by decide) ?_
        have hl := lv_sub (l' := [(0, .ref g.1.1), (1, .int (v1 + 1))]) hl [1, 0] rfl
        exact ih (v1 + 1) ((upd z.1 v1.toNatClampNeg (0 : Int32)), z.2.1, z.2.2.1, z.2.2.2.1, z.2.2.2.2) _ _ _ (Nat.lt_of_lt_of_le (mu_dec c_8) (Nat.le_of_lt_succ hm)) (up_nn h0 c_8) hF hP hD hS hl
  have hl := lv_entry ([.ref g.1.1]) (n := 2) (Nat.le_of_ble_eq_true rfl)
  rw [lg_entry_eq]
  generalize (lg_sl ([.ref g.1.1]) ++ List.replicate (2 - (lg_sl ([.ref g.1.1])).length) Slot.unset).toArray = ls at hl ⊢
  have hl : lv_has ls 2 [(0, .ref g.1.1)] := hl
  have hF := M_B_clear_eq g x
  refine lv_iconst (v := 0) hx hb d_B_clear_0 (by decide) ?_
  refine lv_istore_n (lv' := [(1, .int (0 : Int32)), (0, .ref g.1.1)]) hx hb d_B_clear_1 rfl hl (by decide) rfl (fun ls hl => ?_)
  have hl := lv_sub (l' := [(0, .ref g.1.1), (1, .int (0 : Int32))]) hl [1, 0] rfl
  exact cut_2 (mu (0 : Int32) (nI g.2.2.1) + 1) (0 : Int32) x _ _ _ (Nat.lt_succ_self _) (by decide) hF hP hD hS hl
end
section
def L_V_indexOf_2 (g : GV) (x : Vs) (p0 : Int32) : Nat → Int32 → Int32
  | 0, _ => 0
  | n + 1, v2 => (if (nI x.2.1.val) ≤ v2 then (-1 : Int32) else (if (nI g.2.1) ≤ v2 then (-1 : Int32) else (if (x.2.2.1 v2.toNatClampNeg) = p0 then v2 else L_V_indexOf_2 g x p0 n (v2 + 1))))
theorem L_V_indexOf_2_eq (g : GV) (x : Vs) (p0 : Int32) (n : Nat) (v2 : Int32) : L_V_indexOf_2 g x p0 (n + 1) v2 = (if (nI x.2.1.val) ≤ v2 then (-1 : Int32) else (if (nI g.2.1) ≤ v2 then (-1 : Int32) else (if (x.2.2.1 v2.toNatClampNeg) = p0 then v2 else L_V_indexOf_2 g x p0 n (v2 + 1)))) := by first | rfl | rw [L_V_indexOf_2]
def M_V_indexOf (g : GV) (x : Vs) (p0 : Int32) : Int32 := L_V_indexOf_2 g x p0 (mu (0 : Int32) (nI x.2.1.val) + 1) (0 : Int32)
theorem M_V_indexOf_eq (g : GV) (x : Vs) (p0 : Int32) : M_V_indexOf g x p0 = L_V_indexOf_2 g x p0 (mu (0 : Int32) (nI x.2.1.val) + 1) (0 : Int32) := rfl
abbrev w_V_indexOf : List Cond := .code y_V_indexOf b_V_indexOf 3 (some .int) :: tbW
abbrev rm_V_indexOf : Room := { frames := 0, cells := 0, slots := 0, locals := 0 }
set_option maxHeartbeats 4000000 in
set_option maxRecDepth 100000 in
theorem c_V_indexOf (l : Launch) (D : va_G) (cI cZ : ClassId) (g : GV) (hg : okV g) (x : Vs) (p0 : Int32) : Met l y_V_indexOf w_V_indexOf rm_V_indexOf (PcR D vwCl (tyK cI cZ) [.ref g.1.1, .int p0] (wV cI cZ g x)) (vp_Si (fun r => r = M_V_indexOf g x p0)) 0 0 (fun _ => False) := by
  refine Met.ofW (cc := b_V_indexOf) (maxL := 3) (ret := (some .int)) (by decide) rfl ?_
  intro p e s m args below meth c s₁ B hml hv
  obtain ⟨rfl, hP, hK⟩ := hv
  have hx := B.exec
  have hb := B.bytes
  have hr := B.returns
  have htb : ∀ w ∈ tbW, w.before _ s = true := fun w h => atoms_spec (ws := w_V_indexOf) B.pre w (List.mem_cons_of_mem _ h)
  have hown : s.vm.findClass R_V = some m.cls := findClass_of_methodNamed B.named
  have hlocks := B.notSynchronized
  have cut_2 : ∀ (n : Nat) (v2 : Int32) (ls : Array Slot), mu v2 (nI x.2.1.val) < n → ¬ v2 < 0 → M_V_indexOf g x p0 = L_V_indexOf_2 g x p0 n v2 → lv_has ls 3 [(0, .ref g.1.1), (1, .int p0), (2, .int v2)] → W p l e (headSpec w_V_indexOf rm_V_indexOf).room s m ([.ref g.1.1, .int p0] : List Value).toArray below meth c s.heap [] 0 0 (MQ below (vp_Si (fun r => r = M_V_indexOf g x p0)) ([.ref g.1.1, .int p0] : List Value).toArray s 0 0 (fun _ => False)) (F0 m 2 ls []) := by
    intro n
    induction n with
    | zero => intro v2 ls hm _ _ _; exact absurd hm (Nat.not_lt_zero _)
    | succ n ih =>
      intro v2 ls hm h0 hF hl
      have hF := hF.trans (L_V_indexOf_2_eq g x p0 n v2)
      refine lv_iload_n hx hb d_V_indexOf_2 rfl (lv_at hl 2 rfl) ?_
      refine lv_aload_n hx hb d_V_indexOf_3 rfl (lv_at hl 0 rfl) ?_
      refine va_get (D := D) (ci := 1) (v := .int (nI x.2.1.val)) (C := R_V) (T := T_V) (N := 5) hx hb htb i_V hown hK hP 0 rfl rfl 1 (by decide) (htb _ k_V_29) (fun _ h9 => h9) rfl d_V_indexOf_4 ?_
      refine lv_icmp_ge (tgt := 37) hx hb d_V_indexOf_7 (by decide) (fun c_7 => ?_) (fun c_7 => ?_)
      · have hF := hF.trans (if_pos c_7)
        refine lv_iconst (v := -1) hx hb d_V_indexOf_37 (by decide) ?_
        exact W.iret (v := (-1 : Int32)) hx hb hr (fun t ht hW => ⟨_, rfl, hF.symm, ht⟩) (fun q h => by cases h) d_V_indexOf_38
      · have hF := hF.trans (if_neg c_7)
        refine lv_iload_n hx hb d_V_indexOf_10 rfl (lv_at hl 2 rfl) ?_
        refine lv_aload_n hx hb d_V_indexOf_11 rfl (lv_at hl 0 rfl) ?_
        refine va_get (D := D) (ci := 1) (v := .ref g.1.2.1) (C := R_V) (T := T_V) (N := 5) hx hb htb i_V hown hK hP 0 rfl rfl 2 (by decide) (htb _ k_V_11) (fun _ h9 => h9) rfl d_V_indexOf_12 ?_
        refine va_alen hx hb hK hP 1 0 rfl rfl (v := nI g.2.1) rfl d_V_indexOf_15 ?_
        refine lv_icmp_ge (tgt := 37) hx hb d_V_indexOf_16 (by decide) (fun c_16 => ?_) (fun c_16 => ?_)
        · have hF := hF.trans (if_pos c_16)
          refine lv_iconst (v := -1) hx hb d_V_indexOf_37 (by decide) ?_
          exact W.iret (v := (-1 : Int32)) hx hb hr (fun t ht hW => ⟨_, rfl, hF.symm, ht⟩) (fun q h => by cases h) d_V_indexOf_38
        · have hF := hF.trans (if_neg c_16)
          refine lv_aload_n hx hb d_V_indexOf_19 rfl (lv_at hl 0 rfl) ?_
          refine va_get (D := D) (ci := 1) (v := .ref g.1.2.1) (C := R_V) (T := T_V) (N := 5) hx hb htb i_V hown hK hP 0 rfl rfl 2 (by decide) (htb _ k_V_11) (fun _ h9 => h9) rfl d_V_indexOf_20 ?_
          refine lv_iload_n hx hb d_V_indexOf_23 rfl (lv_at hl 2 rfl) ?_
          refine va_iald hx hb hK hP 1 0 rfl rfl (in_ok hg.1 h0 c_16) d_V_indexOf_24 ?_
          refine lv_iload_n hx hb d_V_indexOf_25 rfl (lv_at hl 1 rfl) ?_
          refine lv_icmp_ne (tgt := 31) hx hb d_V_indexOf_26 (by decide) (fun c_26 => ?_) (fun c_26 => ?_)
          · have hF := hF.trans (if_neg c_26)
            refine lv_iinc (v := (v2 + 1)) (lv' := [(2, .int (v2 + 1)), (0, .ref g.1.1), (1, .int p0)]) hx hb d_V_indexOf_31 hl (k := 2) rfl rfl (by decide) rfl (fun ls hl => ?_)
            refine lv_goto (tgt := 2) hx hb d_V_indexOf_34 (by decide) ?_
            have hl := lv_sub (l' := [(0, .ref g.1.1), (1, .int p0), (2, .int (v2 + 1))]) hl [1, 2, 0] rfl
            exact ih (v2 + 1) _ (Nat.lt_of_lt_of_le (mu_dec c_7) (Nat.le_of_lt_succ hm)) (up_nn h0 c_16) hF hl
          · have hF := hF.trans (if_pos c_26)
            refine lv_iload_n hx hb d_V_indexOf_29 rfl (lv_at hl 2 rfl) ?_
            exact W.iret (v := v2) hx hb hr (fun t ht hW => ⟨_, rfl, hF.symm, ht⟩) (fun q h => by cases h) d_V_indexOf_30
  have hl := lv_entry ([.ref g.1.1, .int p0]) (n := 3) (Nat.le_of_ble_eq_true rfl)
  rw [lg_entry_eq]
  generalize (lg_sl ([.ref g.1.1, .int p0]) ++ List.replicate (3 - (lg_sl ([.ref g.1.1, .int p0])).length) Slot.unset).toArray = ls at hl ⊢
  have hl : lv_has ls 3 [(0, .ref g.1.1), (1, .int p0)] := hl
  have hF := M_V_indexOf_eq g x p0
  refine lv_iconst (v := 0) hx hb d_V_indexOf_0 (by decide) ?_
  refine lv_istore_n (lv' := [(2, .int (0 : Int32)), (0, .ref g.1.1), (1, .int p0)]) hx hb d_V_indexOf_1 rfl hl (by decide) rfl (fun ls hl => ?_)
  have hl := lv_sub (l' := [(0, .ref g.1.1), (1, .int p0), (2, .int (0 : Int32))]) hl [1, 2, 0] rfl
  exact cut_2 (mu (0 : Int32) (nI x.2.1.val) + 1) (0 : Int32) _ (Nat.lt_succ_self _) (by decide) hF hl

def M_V_inMemory (g : GV) (x : Vs) (p0 : Int32) : Int32 := (bnd (M_V_indexOf g x p0) (fun r_2 => (if r_2 < 0 then (0 : Int32) else (if (nI g.2.2.2) ≤ r_2 then (0 : Int32) else (x.2.2.2.2 r_2.toNatClampNeg)))))
theorem M_V_inMemory_eq (g : GV) (x : Vs) (p0 : Int32) : M_V_inMemory g x p0 = (bnd (M_V_indexOf g x p0) (fun r_2 => (if r_2 < 0 then (0 : Int32) else (if (nI g.2.2.2) ≤ r_2 then (0 : Int32) else (x.2.2.2.2 r_2.toNatClampNeg))))) := rfl
abbrev w_V_inMemory : List Cond := .code y_V_inMemory b_V_inMemory 3 (some .int) :: tbW
abbrev rm_V_inMemory : Room := { frames := 1, cells := 0, slots := 0, locals := 22 }
set_option maxHeartbeats 4000000 in
set_option maxRecDepth 100000 in
theorem c_V_inMemory (l : Launch) (D : va_G) (cI cZ : ClassId) (g : GV) (hg : okV g) (x : Vs) (p0 : Int32) : Met l y_V_inMemory w_V_inMemory rm_V_inMemory (PcR D vwCl (tyK cI cZ) [.ref g.1.1, .int p0] (wV cI cZ g x)) (vp_Si (fun r => r = M_V_inMemory g x p0)) 0 0 (fun _ => False) := by
  refine Met.ofW (cc := b_V_inMemory) (maxL := 3) (ret := (some .int)) (by decide) rfl ?_
  intro p e s m args below meth c s₁ B hml hv
  obtain ⟨rfl, hP, hK⟩ := hv
  have hx := B.exec
  have hb := B.bytes
  have hr := B.returns
  have htb : ∀ w ∈ tbW, w.before _ s = true := fun w h => atoms_spec (ws := w_V_inMemory) B.pre w (List.mem_cons_of_mem _ h)
  have hown : s.vm.findClass R_V = some m.cls := findClass_of_methodNamed B.named
  have hlocks := B.notSynchronized
  have hl := lv_entry ([.ref g.1.1, .int p0]) (n := 3) (Nat.le_of_ble_eq_true rfl)
  rw [lg_entry_eq]
  generalize (lg_sl ([.ref g.1.1, .int p0]) ++ List.replicate (3 - (lg_sl ([.ref g.1.1, .int p0])).length) Slot.unset).toArray = ls at hl ⊢
  have hl : lv_has ls 3 [(0, .ref g.1.1), (1, .int p0)] := hl
  have hF := M_V_inMemory_eq g x p0
  refine lv_aload_n hx hb d_V_inMemory_0 rfl (lv_at hl 0 rfl) ?_
  refine lv_iload_n hx hb d_V_inMemory_1 rfl (lv_at hl 1 rfl) ?_
  refine cpi (As := [.int p0]) (rest := []) ⟨hx, hb, hml, hown, htb⟩ (c_V_indexOf l D cI cZ g hg x p0) (cwv (n := 1) htb cd_V_indexOf k_V_21 in_V_indexOf se_V_indexOf ini_V hd_V_indexOf ⟨Nat.le_of_ble_eq_true rfl, Nat.le_of_ble_eq_true rfl⟩) hK hP [0, 1, 2, 3] rfl (ci := 1) rfl rfl rfl hl.1 rfl (Nat.le_of_ble_eq_true rfl) d_V_inMemory_2 ⟨Nat.zero_le _, Nat.zero_le _⟩ (fun r_2 hw_2 => ?_)
  have hF := hF.trans (bnd_eq hw_2)
  refine lv_istore_n (lv' := [(2, .int r_2), (0, .ref g.1.1), (1, .int p0)]) hx hb d_V_inMemory_5 rfl hl (by decide) rfl (fun ls hl => ?_)
  refine lv_iload_n hx hb d_V_inMemory_6 rfl (lv_at hl 0 rfl) ?_
  refine lv_if_lt (tgt := 28) hx hb d_V_inMemory_7 (by decide) (fun c_7 => ?_) (fun c_7 => ?_)
  · have hF := hF.trans (if_pos c_7)
    refine lv_iconst (v := 0) hx hb d_V_inMemory_28 (by decide) ?_
    exact W.iret (v := (0 : Int32)) hx hb hr (fun t ht hW => ⟨_, rfl, hF.symm, ht⟩) (fun q h => by cases h) d_V_inMemory_29
  · have hF := hF.trans (if_neg c_7)
    refine lv_iload_n hx hb d_V_inMemory_10 rfl (lv_at hl 0 rfl) ?_
    refine lv_aload_n hx hb d_V_inMemory_11 rfl (lv_at hl 1 rfl) ?_
    refine va_get (D := D) (ci := 1) (v := .ref g.1.2.2.2) (C := R_V) (T := T_V) (N := 5) hx hb htb i_V hown hK hP 0 rfl rfl 4 (by decide) (htb _ k_V_18) (fun _ h9 => h9) rfl d_V_inMemory_12 ?_
    refine va_alen hx hb hK hP 3 0 rfl rfl (v := nI g.2.2.2) rfl d_V_inMemory_15 ?_
    refine lv_icmp_ge (tgt := 28) hx hb d_V_inMemory_16 (by decide) (fun c_16 => ?_) (fun c_16 => ?_)
    · have hF := hF.trans (if_pos c_16)
      refine lv_iconst (v := 0) hx hb d_V_inMemory_28 (by decide) ?_
      exact W.iret (v := (0 : Int32)) hx hb hr (fun t ht hW => ⟨_, rfl, hF.symm, ht⟩) (fun q h => by cases h) d_V_inMemory_29
    · have hF := hF.trans (if_neg c_16)
      refine lv_aload_n hx hb d_V_inMemory_19 rfl (lv_at hl 1 rfl) ?_
      refine va_get (D := D) (ci := 1) (v := .ref g.1.2.2.2) (C := R_V) (T := T_V) (N := 5) hx hb htb i_V hown hK hP 0 rfl rfl 4 (by decide) (htb _ k_V_18) (fun _ h9 => h9) rfl d_V_inMemory_20 ?_
      refine lv_iload_n hx hb d_V_inMemory_23 rfl (lv_at hl 0 rfl) ?_
      refine va_iald hx hb hK hP 3 0 rfl rfl (in_ok hg.2.2.1 c_7 c_16) d_V_inMemory_24 ?_
      refine lv_goto (tgt := 29) hx hb d_V_inMemory_25 (by decide) ?_
      exact W.iret (v := (x.2.2.2.2 r_2.toNatClampNeg)) hx hb hr (fun t ht hW => ⟨_, rfl, hF.symm, ht⟩) (fun q h => by cases h) d_V_inMemory_29

def M_V_writeBack (g : GV) (x : Vs) (p0 p1 : Int32) : Vs := (bnd (M_V_indexOf g ((x.1 + (1 : Int32)), x.2.1, x.2.2.1, x.2.2.2.1, x.2.2.2.2) p0) (fun r_12 => (if r_12 < 0 then ((x.1 + (1 : Int32)), x.2.1, x.2.2.1, x.2.2.2.1, x.2.2.2.2) else (if (nI g.2.2.2) ≤ r_12 then ((x.1 + (1 : Int32)), x.2.1, x.2.2.1, x.2.2.2.1, x.2.2.2.2) else ((x.1 + (1 : Int32)), x.2.1, x.2.2.1, x.2.2.2.1, (upd x.2.2.2.2 r_12.toNatClampNeg p1))))))
theorem M_V_writeBack_eq (g : GV) (x : Vs) (p0 p1 : Int32) : M_V_writeBack g x p0 p1 = (bnd (M_V_indexOf g ((x.1 + (1 : Int32)), x.2.1, x.2.2.1, x.2.2.2.1, x.2.2.2.2) p0) (fun r_12 => (if r_12 < 0 then ((x.1 + (1 : Int32)), x.2.1, x.2.2.1, x.2.2.2.1, x.2.2.2.2) else (if (nI g.2.2.2) ≤ r_12 then ((x.1 + (1 : Int32)), x.2.1, x.2.2.1, x.2.2.2.1, x.2.2.2.2) else ((x.1 + (1 : Int32)), x.2.1, x.2.2.1, x.2.2.2.1, (upd x.2.2.2.2 r_12.toNatClampNeg p1)))))) := rfl
abbrev w_V_writeBack : List Cond := .code y_V_writeBack b_V_writeBack 4 none :: tbW
abbrev rm_V_writeBack : Room := { frames := 1, cells := 0, slots := 0, locals := 22 }
set_option maxHeartbeats 4000000 in
set_option maxRecDepth 100000 in
theorem c_V_writeBack (l : Launch) (D : va_G) (cI cZ : ClassId) (g : GV) (hg : okV g) (x : Vs) (p0 p1 : Int32) : Met l y_V_writeBack w_V_writeBack rm_V_writeBack (PcW D vwCl (tyK cI cZ) [.ref g.1.1, .int p0, .int p1] (wV cI cZ g x)) (va_Qv (fun (u : Vs) => u = M_V_writeBack g x p0 p1) (fun (u : Vs) (t : State) => va_P D vwCl (wV cI cZ g u) t.heap) (Aw (wV cI cZ g x))) 0 0 (Aw (wV cI cZ g x)) := by
  refine Met.ofW (cc := b_V_writeBack) (maxL := 4) (ret := none) (by decide) rfl ?_
  intro p e s m args below meth c s₁ B hml hv
  obtain ⟨rfl, hP, hK, hD0⟩ := hv
  have hx := B.exec
  have hb := B.bytes
  have hr := B.returns
  have htb : ∀ w ∈ tbW, w.before _ s = true := fun w h => atoms_spec (ws := w_V_writeBack) B.pre w (List.mem_cons_of_mem _ h)
  have hown : s.vm.findClass R_V = some m.cls := findClass_of_methodNamed B.named
  have hlocks := B.notSynchronized
  have hD : va_D (Aw (wV cI cZ g x)) (wV cI cZ g x) := ⟨hD0.1, fun k q hk => ⟨k, q.2, hk⟩⟩
  have hS : va_S (Aw (wV cI cZ g x)) s.heap s.heap [] := va_S.rf
  have hl := lv_entry ([.ref g.1.1, .int p0, .int p1]) (n := 4) (Nat.le_of_ble_eq_true rfl)
  rw [lg_entry_eq]
  generalize (lg_sl ([.ref g.1.1, .int p0, .int p1]) ++ List.replicate (4 - (lg_sl ([.ref g.1.1, .int p0, .int p1])).length) Slot.unset).toArray = ls at hl ⊢
  have hl : lv_has ls 4 [(0, .ref g.1.1), (1, .int p0), (2, .int p1)] := hl
  have hF := M_V_writeBack_eq g x p0 p1
  refine lv_aload_n hx hb d_V_writeBack_0 rfl (lv_at hl 0 rfl) ?_
  refine lv_dup hx hb d_V_writeBack_1 rfl ?_
  refine va_get (D := D) (ci := 1) (v := .int x.1) (C := R_V) (T := T_V) (N := 5) hx hb htb i_V hown hK hP 0 rfl rfl 0 (by decide) (htb _ k_V_25) (fun _ h9 => h9) rfl d_V_writeBack_2 ?_
  refine lv_iconst (v := 1) hx hb d_V_writeBack_5 (by decide) ?_
  refine lv_iadd hx hb d_V_writeBack_6 ?_
  refine va_put (D := D) (ci := 1) (v := .int (x.1 + (1 : Int32))) (ty := .int) (C := R_V) (T := T_V) (N := 5) hx hb htb i_V ty_V tyo_V nm_V hown hK hP hD hS 0 rfl rfl 0 (by decide) (htb _ k_V_25) (fun _ h9 => h9) rfl (by decide +kernel) rfl rfl (Nat.le_of_ble_eq_true rfl) d_V_writeBack_7 (fun H locs hP hD hS => ?_)
  have hP : va_P D vwCl (wV cI cZ g ((x.1 + (1 : Int32)), x.2.1, x.2.2.1, x.2.2.2.1, x.2.2.2.2)) H := hP
  have hD : va_D _ (wV cI cZ g ((x.1 + (1 : Int32)), x.2.1, x.2.2.1, x.2.2.2.1, x.2.2.2.2)) := hD
  refine lv_aload_n hx hb d_V_writeBack_10 rfl (lv_at hl 0 rfl) ?_
  refine lv_iload_n hx hb d_V_writeBack_11 rfl (lv_at hl 1 rfl) ?_
  refine cpi (As := [.int p0]) (rest := []) ⟨hx, hb, hml, hown, htb⟩ (c_V_indexOf l D cI cZ g hg ((x.1 + (1 : Int32)), x.2.1, x.2.2.1, x.2.2.2.1, x.2.2.2.2) p0) (cwv (n := 1) htb cd_V_indexOf k_V_21 in_V_indexOf se_V_indexOf ini_V hd_V_indexOf ⟨Nat.le_of_ble_eq_true rfl, Nat.le_of_ble_eq_true rfl⟩) hK hP [0, 1, 2, 3] rfl (ci := 1) rfl rfl rfl hl.1 rfl (Nat.le_of_ble_eq_true rfl) d_V_writeBack_12 ⟨Nat.zero_le _, Nat.zero_le _⟩ (fun r_12 hw_12 => ?_)
  have hF := hF.trans (bnd_eq hw_12)
  refine lv_istore_n (lv' := [(3, .int r_12), (0, .ref g.1.1), (1, .int p0), (2, .int p1)]) hx hb d_V_writeBack_15 rfl hl (by decide) rfl (fun ls hl => ?_)
  refine lv_iload_n hx hb d_V_writeBack_16 rfl (lv_at hl 0 rfl) ?_
  refine lv_if_lt (tgt := 36) hx hb d_V_writeBack_17 (by decide) (fun c_17 => ?_) (fun c_17 => ?_)
  · have hF := hF.trans (if_pos c_17)
    exact W.vret hx hb hr (fun t ht hW => ⟨⟨((x.1 + (1 : Int32)), x.2.1, x.2.2.1, x.2.2.2.1, x.2.2.2.2), rfl, hF.symm, by dsimp only; rw [ht]; exact hP⟩, hS.F ht⟩) hS.2.2 d_V_writeBack_36
  · have hF := hF.trans (if_neg c_17)
    refine lv_iload_n hx hb d_V_writeBack_20 rfl (lv_at hl 0 rfl) ?_
    refine lv_aload_n hx hb d_V_writeBack_21 rfl (lv_at hl 1 rfl) ?_
    refine va_get (D := D) (ci := 1) (v := .ref g.1.2.2.2) (C := R_V) (T := T_V) (N := 5) hx hb htb i_V hown hK hP 0 rfl rfl 4 (by decide) (htb _ k_V_18) (fun _ h9 => h9) rfl d_V_writeBack_22 ?_
    refine va_alen hx hb hK hP 3 0 rfl rfl (v := nI g.2.2.2) rfl d_V_writeBack_25 ?_
    refine lv_icmp_ge (tgt := 36) hx hb d_V_writeBack_26 (by decide) (fun c_26 => ?_) (fun c_26 => ?_)
    · have hF := hF.trans (if_pos c_26)
      exact W.vret hx hb hr (fun t ht hW => ⟨⟨((x.1 + (1 : Int32)), x.2.1, x.2.2.1, x.2.2.2.1, x.2.2.2.2), rfl, hF.symm, by dsimp only; rw [ht]; exact hP⟩, hS.F ht⟩) hS.2.2 d_V_writeBack_36
    · have hF := hF.trans (if_neg c_26)
      refine lv_aload_n hx hb d_V_writeBack_29 rfl (lv_at hl 1 rfl) ?_
      refine va_get (D := D) (ci := 1) (v := .ref g.1.2.2.2) (C := R_V) (T := T_V) (N := 5) hx hb htb i_V hown hK hP 0 rfl rfl 4 (by decide) (htb _ k_V_18) (fun _ h9 => h9) rfl d_V_writeBack_30 ?_
      refine lv_iload_n hx hb d_V_writeBack_33 rfl (lv_at hl 0 rfl) ?_
      refine lv_iload_n hx hb d_V_writeBack_34 rfl (lv_at hl 3 rfl) ?_
      refine va_iast hx hb hK hP hD hS 3 0 rfl rfl (in_ok hg.2.2.1 c_17 c_26) d_V_writeBack_35 (fun H locs hP hD hS => ?_)
      have hP : va_P D vwCl (wV cI cZ g ((x.1 + (1 : Int32)), x.2.1, x.2.2.1, x.2.2.2.1, (upd x.2.2.2.2 r_12.toNatClampNeg p1))) H := hP
      have hD : va_D _ (wV cI cZ g ((x.1 + (1 : Int32)), x.2.1, x.2.2.1, x.2.2.2.1, (upd x.2.2.2.2 r_12.toNatClampNeg p1))) := hD
      exact W.vret hx hb hr (fun t ht hW => ⟨⟨((x.1 + (1 : Int32)), x.2.1, x.2.2.1, x.2.2.2.1, (upd x.2.2.2.2 r_12.toNatClampNeg p1)), rfl, hF.symm, by dsimp only; rw [ht]; exact hP⟩, hS.F ht⟩) hS.2.2 d_V_writeBack_36

def L_V_makeNext_45 (g : GV) (p0 : Int32) (v2 : Int32) (z : Vs) : Int32 × Vs := (if v2 < 0 then ((0 : Int32), z) else (if v2 < (nI g.2.2.1) then (((upd z.2.2.2.1 v2.toNatClampNeg ((z.2.2.2.1 v2.toNatClampNeg) + (1 : Int32))) v2.toNatClampNeg), (z.1, z.2.1, z.2.2.1, (upd z.2.2.2.1 v2.toNatClampNeg ((z.2.2.2.1 v2.toNatClampNeg) + (1 : Int32))), z.2.2.2.2)) else ((0 : Int32), z)))
theorem L_V_makeNext_45_eq (g : GV) (p0 : Int32) (v2 : Int32) (z : Vs) : L_V_makeNext_45 g p0 v2 z = (if v2 < 0 then ((0 : Int32), z) else (if v2 < (nI g.2.2.1) then (((upd z.2.2.2.1 v2.toNatClampNeg ((z.2.2.2.1 v2.toNatClampNeg) + (1 : Int32))) v2.toNatClampNeg), (z.1, z.2.1, z.2.2.1, (upd z.2.2.2.1 v2.toNatClampNeg ((z.2.2.2.1 v2.toNatClampNeg) + (1 : Int32))), z.2.2.2.2)) else ((0 : Int32), z))) := rfl
def M_V_makeNext (g : GV) (x : Vs) (p0 : Int32) : Int32 × Vs := (bnd (M_V_indexOf g x p0) (fun r_2 => (if r_2 = (-1 : Int32) then (if (nI g.2.1) ≤ (nI x.2.1.val) then L_V_makeNext_45 g p0 r_2 x else L_V_makeNext_45 g p0 (nI x.2.1.val) (x.1, (fsucc x.2.1), (upd x.2.2.1 (nI x.2.1.val).toNatClampNeg p0), x.2.2.2.1, x.2.2.2.2)) else L_V_makeNext_45 g p0 r_2 x)))
theorem M_V_makeNext_eq (g : GV) (x : Vs) (p0 : Int32) : M_V_makeNext g x p0 = (bnd (M_V_indexOf g x p0) (fun r_2 => (if r_2 = (-1 : Int32) then (if (nI g.2.1) ≤ (nI x.2.1.val) then L_V_makeNext_45 g p0 r_2 x else L_V_makeNext_45 g p0 (nI x.2.1.val) (x.1, (fsucc x.2.1), (upd x.2.2.1 (nI x.2.1.val).toNatClampNeg p0), x.2.2.2.1, x.2.2.2.2)) else L_V_makeNext_45 g p0 r_2 x))) := rfl
abbrev w_V_makeNext : List Cond := .code y_V_makeNext b_V_makeNext 3 (some .int) :: tbW
abbrev rm_V_makeNext : Room := { frames := 1, cells := 0, slots := 0, locals := 22 }
set_option maxHeartbeats 4000000 in
set_option maxRecDepth 100000 in
theorem c_V_makeNext (l : Launch) (D : va_G) (cI cZ : ClassId) (g : GV) (hg : okV g) (x : Vs) (p0 : Int32) : Met l y_V_makeNext w_V_makeNext rm_V_makeNext (PcW D vwCl (tyK cI cZ) [.ref g.1.1, .int p0] (wV cI cZ g x)) (va_Qi (fun (r : Int32) (u : Vs) => (r, u) = M_V_makeNext g x p0) (fun (u : Vs) (t : State) => va_P D vwCl (wV cI cZ g u) t.heap) (Aw (wV cI cZ g x))) 0 0 (Aw (wV cI cZ g x)) := by
  refine Met.ofW (cc := b_V_makeNext) (maxL := 3) (ret := (some .int)) (by decide) rfl ?_
  intro p e s m args below meth c s₁ B hml hv
  obtain ⟨rfl, hP, hK, hD0⟩ := hv
  have hx := B.exec
  have hb := B.bytes
  have hr := B.returns
  have htb : ∀ w ∈ tbW, w.before _ s = true := fun w h => atoms_spec (ws := w_V_makeNext) B.pre w (List.mem_cons_of_mem _ h)
  have hown : s.vm.findClass R_V = some m.cls := findClass_of_methodNamed B.named
  have hlocks := B.notSynchronized
  have hD : va_D (Aw (wV cI cZ g x)) (wV cI cZ g x) := ⟨hD0.1, fun k q hk => ⟨k, q.2, hk⟩⟩
  have hS : va_S (Aw (wV cI cZ g x)) s.heap s.heap [] := va_S.rf
  have cut_45 : ∀ (v2 : Int32) (z : Vs) (H : Heap) (locs : List Loc) (ls : Array Slot), M_V_makeNext g x p0 = L_V_makeNext_45 g p0 v2 z → va_P D vwCl (wV cI cZ g z) H → va_D (Aw (wV cI cZ g x)) (wV cI cZ g z) → va_S (Aw (wV cI cZ g x)) s.heap H locs → lv_has ls 3 [(0, .ref g.1.1), (1, .int p0), (2, .int v2)] → W p l e (headSpec w_V_makeNext rm_V_makeNext).room s m ([.ref g.1.1, .int p0] : List Value).toArray below meth c H locs 0 0 (MQ below (va_Qi (fun (r : Int32) (u : Vs) => (r, u) = M_V_makeNext g x p0) (fun (u : Vs) (t : State) => va_P D vwCl (wV cI cZ g u) t.heap) (Aw (wV cI cZ g x))) ([.ref g.1.1, .int p0] : List Value).toArray s 0 0 (Aw (wV cI cZ g x))) (F0 m 45 ls []) := by
    intro v2 z H locs ls hF hP hD hS hl
    have hF := hF.trans (L_V_makeNext_45_eq g p0 v2 z)
    refine lv_iload_n hx hb d_V_makeNext_45 rfl (lv_at hl 2 rfl) ?_
    refine lv_if_lt (tgt := 58) hx hb d_V_makeNext_46 (by decide) (fun c_46 => ?_) (fun c_46 => ?_)
    · have hF := hF.trans (if_pos c_46)
      refine lv_iconst (v := 0) hx hb d_V_makeNext_58 (by decide) ?_
      exact W.iret (v := (0 : Int32)) hx hb hr (fun t ht hW => ⟨⟨(0 : Int32), z, rfl, hF.symm, by dsimp only; rw [ht]; exact hP⟩, hS.F ht⟩) hS.2.2 d_V_makeNext_59
    · have hF := hF.trans (if_neg c_46)
      refine lv_iload_n hx hb d_V_makeNext_49 rfl (lv_at hl 2 rfl) ?_
      refine lv_aload_n hx hb d_V_makeNext_50 rfl (lv_at hl 0 rfl) ?_
      refine va_get (D := D) (ci := 1) (v := .ref g.1.2.2.1) (C := R_V) (T := T_V) (N := 5) hx hb htb i_V hown hK hP 0 rfl rfl 3 (by decide) (htb _ k_V_15) (fun _ h9 => h9) rfl d_V_makeNext_51 ?_
      refine va_alen hx hb hK hP 2 0 rfl rfl (v := nI g.2.2.1) rfl d_V_makeNext_54 ?_
      refine lv_icmp_lt (tgt := 60) hx hb d_V_makeNext_55 (by decide) (fun c_55 => ?_) (fun c_55 => ?_)
      · have hF := hF.trans (if_pos c_55)
        refine lv_aload_n hx hb d_V_makeNext_60 rfl (lv_at hl 0 rfl) ?_
        refine va_get (D := D) (ci := 1) (v := .ref g.1.2.2.1) (C := R_V) (T := T_V) (N := 5) hx hb htb i_V hown hK hP 0 rfl rfl 3 (by decide) (htb _ k_V_15) (fun _ h9 => h9) rfl d_V_makeNext_61 ?_
        refine lv_iload_n hx hb d_V_makeNext_64 rfl (lv_at hl 2 rfl) ?_
        refine lv_dup2_11 hx hb d_V_makeNext_65 rfl rfl ?_
        refine va_iald hx hb hK hP 2 0 rfl rfl (in_ok hg.2.1 c_46 (nle_lt c_55)) d_V_makeNext_66 ?_
        refine lv_iconst (v := 1) hx hb d_V_makeNext_67 (by decide) ?_
        refine lv_iadd hx hb d_V_makeNext_68 ?_
        refine va_iast hx hb hK hP hD hS 2 0 rfl rfl (in_ok hg.2.1 c_46 (nle_lt c_55)) d_V_makeNext_69 (fun H locs hP hD hS => ?_)
        have hP : va_P D vwCl (wV cI cZ g (z.1, z.2.1, z.2.2.1, (upd z.2.2.2.1 v2.toNatClampNeg ((z.2.2.2.1 v2.toNatClampNeg) + (1 : Int32))), z.2.2.2.2)) H := hP
        have hD : va_D _ (wV cI cZ g (z.1, z.2.1, z.2.2.1, (upd z.2.2.2.1 v2.toNatClampNeg ((z.2.2.2.1 v2.toNatClampNeg) + (1 : Int32))), z.2.2.2.2)) := hD
        refine lv_aload_n hx hb d_V_makeNext_70 rfl (lv_at hl 0 rfl) ?_
        refine va_get (D := D) (ci := 1) (v := .ref g.1.2.2.1) (C := R_V) (T := T_V) (N := 5) hx hb htb i_V hown hK hP 0 rfl rfl 3 (by decide) (htb _ k_V_15) (fun _ h9 => h9) rfl d_V_makeNext_71 ?_
        refine lv_iload_n hx hb d_V_makeNext_74 rfl (lv_at hl 2 rfl) ?_
        refine va_iald hx hb hK hP 2 0 rfl rfl (in_ok hg.2.1 c_46 (nle_lt c_55)) d_V_makeNext_75 ?_
        exact W.iret (v := ((upd z.2.2.2.1 v2.toNatClampNeg ((z.2.2.2.1 v2.toNatClampNeg) + (1 : Int32))) v2.toNatClampNeg)) hx hb hr (fun t ht hW => ⟨⟨((upd z.2.2.2.1 v2.toNatClampNeg ((z.2.2.2.1 v2.toNatClampNeg) + (1 : Int32))) v2.toNatClampNeg), (z.1, z.2.1, z.2.2.1, (upd z.2.2.2.1 v2.toNatClampNeg ((z.2.2.2.1 v2.toNatClampNeg) + (1 : Int32))), z.2.2.2.2), rfl, hF.symm, by dsimp only; rw [ht]; exact hP⟩, hS.F ht⟩) hS.2.2 d_V_makeNext_76
      · have hF := hF.trans (if_neg c_55)
        refine lv_iconst (v := 0) hx hb d_V_makeNext_58 (by decide) ?_
        exact W.iret (v := (0 : Int32)) hx hb hr (fun t ht hW => ⟨⟨(0 : Int32), z, rfl, hF.symm, by dsimp only; rw [ht]; exact hP⟩, hS.F ht⟩) hS.2.2 d_V_makeNext_59
  have hl := lv_entry ([.ref g.1.1, .int p0]) (n := 3) (Nat.le_of_ble_eq_true rfl)
  rw [lg_entry_eq]
  generalize (lg_sl ([.ref g.1.1, .int p0]) ++ List.replicate (3 - (lg_sl ([.ref g.1.1, .int p0])).length) Slot.unset).toArray = ls at hl ⊢
  have hl : lv_has ls 3 [(0, .ref g.1.1), (1, .int p0)] := hl
  have hF := M_V_makeNext_eq g x p0
  refine lv_aload_n hx hb d_V_makeNext_0 rfl (lv_at hl 0 rfl) ?_
  refine lv_iload_n hx hb d_V_makeNext_1 rfl (lv_at hl 1 rfl) ?_
  refine cpi (As := [.int p0]) (rest := []) ⟨hx, hb, hml, hown, htb⟩ (c_V_indexOf l D cI cZ g hg x p0) (cwv (n := 1) htb cd_V_indexOf k_V_21 in_V_indexOf se_V_indexOf ini_V hd_V_indexOf ⟨Nat.le_of_ble_eq_true rfl, Nat.le_of_ble_eq_true rfl⟩) hK hP [0, 1, 2, 3] rfl (ci := 1) rfl rfl rfl hl.1 rfl (Nat.le_of_ble_eq_true rfl) d_V_makeNext_2 ⟨Nat.zero_le _, Nat.zero_le _⟩ (fun r_2 hw_2 => ?_)
  have hF := hF.trans (bnd_eq hw_2)
  refine lv_istore_n (lv' := [(2, .int r_2), (0, .ref g.1.1), (1, .int p0)]) hx hb d_V_makeNext_5 rfl hl (by decide) rfl (fun ls hl => ?_)
  refine lv_iload_n hx hb d_V_makeNext_6 rfl (lv_at hl 0 rfl) ?_
  refine lv_iconst (v := -1) hx hb d_V_makeNext_7 (by decide) ?_
  refine lv_icmp_ne (tgt := 45) hx hb d_V_makeNext_8 (by decide) (fun c_8 => ?_) (fun c_8 => ?_)
  · have hF := hF.trans (if_neg c_8)
    have hl := lv_sub (l' := [(0, .ref g.1.1), (1, .int p0), (2, .int r_2)]) hl [1, 2, 0] rfl
    exact cut_45 r_2 x _ _ _ hF hP hD hS hl
  · have hF := hF.trans (if_pos c_8)
    refine lv_aload_n hx hb d_V_makeNext_11 rfl (lv_at hl 1 rfl) ?_
    refine va_get (D := D) (ci := 1) (v := .int (nI x.2.1.val)) (C := R_V) (T := T_V) (N := 5) hx hb htb i_V hown hK hP 0 rfl rfl 1 (by decide) (htb _ k_V_29) (fun _ h9 => h9) rfl d_V_makeNext_12 ?_
    refine lv_aload_n hx hb d_V_makeNext_15 rfl (lv_at hl 1 rfl) ?_
    refine va_get (D := D) (ci := 1) (v := .ref g.1.2.1) (C := R_V) (T := T_V) (N := 5) hx hb htb i_V hown hK hP 0 rfl rfl 2 (by decide) (htb _ k_V_11) (fun _ h9 => h9) rfl d_V_makeNext_16 ?_
    refine va_alen hx hb hK hP 1 0 rfl rfl (v := nI g.2.1) rfl d_V_makeNext_19 ?_
    refine lv_icmp_ge (tgt := 45) hx hb d_V_makeNext_20 (by decide) (fun c_20 => ?_) (fun c_20 => ?_)
    · have hF := hF.trans (if_pos c_20)
      have hl := lv_sub (l' := [(0, .ref g.1.1), (1, .int p0), (2, .int r_2)]) hl [1, 2, 0] rfl
      exact cut_45 r_2 x _ _ _ hF hP hD hS hl
    · have hF := hF.trans (if_neg c_20)
      refine lv_aload_n hx hb d_V_makeNext_23 rfl (lv_at hl 1 rfl) ?_
      refine va_get (D := D) (ci := 1) (v := .int (nI x.2.1.val)) (C := R_V) (T := T_V) (N := 5) hx hb htb i_V hown hK hP 0 rfl rfl 1 (by decide) (htb _ k_V_29) (fun _ h9 => h9) rfl d_V_makeNext_24 ?_
      refine lv_istore_n (lv' := [(2, .int (nI x.2.1.val)), (0, .ref g.1.1), (1, .int p0)]) hx hb d_V_makeNext_27 rfl hl (by decide) rfl (fun ls hl => ?_)
      refine lv_aload_n hx hb d_V_makeNext_28 rfl (lv_at hl 1 rfl) ?_
      refine va_get (D := D) (ci := 1) (v := .ref g.1.2.1) (C := R_V) (T := T_V) (N := 5) hx hb htb i_V hown hK hP 0 rfl rfl 2 (by decide) (htb _ k_V_11) (fun _ h9 => h9) rfl d_V_makeNext_29 ?_
      refine lv_iload_n hx hb d_V_makeNext_32 rfl (lv_at hl 0 rfl) ?_
      refine lv_iload_n hx hb d_V_makeNext_33 rfl (lv_at hl 2 rfl) ?_
      refine va_iast hx hb hK hP hD hS 1 0 rfl rfl (in_ok hg.1 (fin_nn _) c_20) d_V_makeNext_34 (fun H locs hP hD hS => ?_)
      have hP : va_P D vwCl (wV cI cZ g (x.1, x.2.1, (upd x.2.2.1 (nI x.2.1.val).toNatClampNeg p0), x.2.2.2.1, x.2.2.2.2)) H := hP
      have hD : va_D _ (wV cI cZ g (x.1, x.2.1, (upd x.2.2.1 (nI x.2.1.val).toNatClampNeg p0), x.2.2.2.1, x.2.2.2.2)) := hD
      refine lv_aload_n hx hb d_V_makeNext_35 rfl (lv_at hl 1 rfl) ?_
      refine lv_dup hx hb d_V_makeNext_36 rfl ?_
      refine va_get (D := D) (ci := 1) (v := .int (nI x.2.1.val)) (C := R_V) (T := T_V) (N := 5) hx hb htb i_V hown hK hP 0 rfl rfl 1 (by decide) (htb _ k_V_29) (fun _ h9 => h9) rfl d_V_makeNext_37 ?_
      refine lv_iconst (v := 1) hx hb d_V_makeNext_40 (by decide) ?_
      refine lv_iadd hx hb d_V_makeNext_41 ?_
      refine W.eq (g2 := F0 m 42 ls [.int (nI (fsucc x.2.1).val), .ref g.1.1]) (by rw [fsucc_nI (fin_lt hg.2.2.2 c_20)]) ?_
      refine va_put (D := D) (ci := 1) (v := .int (nI (fsucc x.2.1).val)) (ty := .int) (C := R_V) (T := T_V) (N := 5) hx hb htb i_V ty_V tyo_V nm_V hown hK hP hD hS 0 rfl rfl 1 (by decide) (htb _ k_V_29) (fun _ h9 => h9) rfl (by decide +kernel) rfl rfl (Nat.le_of_ble_eq_true rfl) d_V_makeNext_42 (fun H locs hP hD hS => ?_)
      have hP : va_P D vwCl (wV cI cZ g (x.1, (fsucc x.2.1), (upd x.2.2.1 (nI x.2.1.val).toNatClampNeg p0), x.2.2.2.1, x.2.2.2.2)) H := hP
      have hD : va_D _ (wV cI cZ g (x.1, (fsucc x.2.1), (upd x.2.2.1 (nI x.2.1.val).toNatClampNeg p0), x.2.2.2.1, x.2.2.2.2)) := hD
      have hl := lv_sub (l' := [(0, .ref g.1.1), (1, .int p0), (2, .int (nI x.2.1.val))]) hl [1, 2, 0] rfl
      exact cut_45 (nI x.2.1.val) (x.1, (fsucc x.2.1), (upd x.2.2.1 (nI x.2.1.val).toNatClampNeg p0), x.2.2.2.1, x.2.2.2.2) _ _ _ hF hP hD hS hl
end
section
abbrev w_C_requireCore : List Cond := .code y_C_requireCore b_C_requireCore 2 none :: tbW
abbrev rm_C_requireCore : Room := { frames := 0, cells := 0, slots := 0, locals := 0 }
set_option maxHeartbeats 4000000 in
set_option maxRecDepth 100000 in
theorem c_C_requireCore (l : Launch) (D : va_G) (cI cZ : ClassId) (g : GC) (hg : okC g) (x : Cs) (p0 : Int32) (hv0 : ¬ p0 < 0) (hv1 : p0 < g.2.1.1) : Met l y_C_requireCore w_C_requireCore rm_C_requireCore (PcR D vwCl (tyK cI cZ) [.ref g.1.1, .int p0] (wC cI cZ g x)) (va_Sv (fun _ => True)) 0 0 (fun _ => False) := by
  refine Met.ofW (cc := b_C_requireCore) (maxL := 2) (ret := none) (by decide) rfl ?_
  intro p e s m args below meth c s₁ B hml hv
  obtain ⟨rfl, hP, hK⟩ := hv
  have hx := B.exec
  have hb := B.bytes
  have hr := B.returns
  have htb : ∀ w ∈ tbW, w.before _ s = true := fun w h => atoms_spec (ws := w_C_requireCore) B.pre w (List.mem_cons_of_mem _ h)
  have hown : s.vm.findClass R_C = some m.cls := findClass_of_methodNamed B.named
  have hlocks := B.notSynchronized
  have hl := lv_entry ([.ref g.1.1, .int p0]) (n := 2) (Nat.le_of_ble_eq_true rfl)
  rw [lg_entry_eq]
  generalize (lg_sl ([.ref g.1.1, .int p0]) ++ List.replicate (2 - (lg_sl ([.ref g.1.1, .int p0])).length) Slot.unset).toArray = ls at hl ⊢
  have hl : lv_has ls 2 [(0, .ref g.1.1), (1, .int p0)] := hl
  refine lv_iload_n hx hb d_C_requireCore_0 rfl (lv_at hl 1 rfl) ?_
  refine lv_if_lt (tgt := 12) hx hb d_C_requireCore_1 (by decide) (fun c_1 => ?_) (fun c_1 => ?_)
  · exact absurd c_1 hv0
  · skip
    refine lv_iload_n hx hb d_C_requireCore_4 rfl (lv_at hl 1 rfl) ?_
    refine lv_aload_n hx hb d_C_requireCore_5 rfl (lv_at hl 0 rfl) ?_
    refine va_get (D := D) (ci := 2) (v := .int g.2.1.1) (C := R_C) (T := T_C) (N := 10) hx hb htb i_C hown hK hP 0 rfl rfl 0 (by decide) (htb _ k_C_15) (fun _ h9 => h9) rfl d_C_requireCore_6 ?_
    refine lv_icmp_lt (tgt := 22) hx hb d_C_requireCore_9 (by decide) (fun c_9 => ?_) (fun c_9 => ?_)
    · skip
      exact W.vret hx hb hr (fun t ht hW => ⟨rfl, trivial, ht⟩) (fun q h => by cases h) d_C_requireCore_22
    · exact absurd hv1 c_9

abbrev w_C_requireCoreOrNone : List Cond := .code y_C_requireCoreOrNone b_C_requireCoreOrNone 2 none :: tbW
abbrev rm_C_requireCoreOrNone : Room := { frames := 1, cells := 0, slots := 0, locals := 21 }
set_option maxHeartbeats 4000000 in
set_option maxRecDepth 100000 in
theorem c_C_requireCoreOrNone (l : Launch) (D : va_G) (cI cZ : ClassId) (g : GC) (hg : okC g) (x : Cs) (p0 : Int32) (hv : p0 = -1 ∨ (¬ p0 < 0 ∧ p0 < g.2.1.1)) : Met l y_C_requireCoreOrNone w_C_requireCoreOrNone rm_C_requireCoreOrNone (PcR D vwCl (tyK cI cZ) [.ref g.1.1, .int p0] (wC cI cZ g x)) (va_Sv (fun _ => True)) 0 0 (fun _ => False) := by
  refine Met.ofW (cc := b_C_requireCoreOrNone) (maxL := 2) (ret := none) (by decide) rfl ?_
  intro p e s m args below meth c s₁ B hml hv
  obtain ⟨rfl, hP, hK⟩ := hv
  have hx := B.exec
  have hb := B.bytes
  have hr := B.returns
  have htb : ∀ w ∈ tbW, w.before _ s = true := fun w h => atoms_spec (ws := w_C_requireCoreOrNone) B.pre w (List.mem_cons_of_mem _ h)
  have hown : s.vm.findClass R_C = some m.cls := findClass_of_methodNamed B.named
  have hlocks := B.notSynchronized
  have hl := lv_entry ([.ref g.1.1, .int p0]) (n := 2) (Nat.le_of_ble_eq_true rfl)
  rw [lg_entry_eq]
  generalize (lg_sl ([.ref g.1.1, .int p0]) ++ List.replicate (2 - (lg_sl ([.ref g.1.1, .int p0])).length) Slot.unset).toArray = ls at hl ⊢
  have hl : lv_has ls 2 [(0, .ref g.1.1), (1, .int p0)] := hl
  refine lv_iload_n hx hb d_C_requireCoreOrNone_0 rfl (lv_at hl 1 rfl) ?_
  refine lv_iconst (v := -1) hx hb d_C_requireCoreOrNone_1 (by decide) ?_
  refine lv_icmp_eq (tgt := 10) hx hb d_C_requireCoreOrNone_2 (by decide) (fun c_2 => ?_) (fun c_2 => ?_)
  · skip
    exact W.vret hx hb hr (fun t ht hW => ⟨rfl, trivial, ht⟩) (fun q h => by cases h) d_C_requireCoreOrNone_10
  · skip
    refine lv_aload_n hx hb d_C_requireCoreOrNone_5 rfl (lv_at hl 0 rfl) ?_
    refine lv_iload_n hx hb d_C_requireCoreOrNone_6 rfl (lv_at hl 1 rfl) ?_
    refine cpv (As := [.int p0]) (rest := []) ⟨hx, hb, hml, hown, htb⟩ (c_C_requireCore l D cI cZ g hg x p0 (hv.resolve_left c_2).1 (hv.resolve_left c_2).2) (cwv (n := 1) htb cd_C_requireCore k_C_57 in_C_requireCore se_C_requireCore ini_C hd_C_requireCore ⟨Nat.le_of_ble_eq_true rfl, Nat.le_of_ble_eq_true rfl⟩) hK hP [0, 1, 2, 3, 4, 5, 6, 7, 8, 9, 10, 11, 12, 13, 14, 15, 16, 17, 18] rfl (ci := 2) rfl rfl rfl hl.1 rfl (Nat.le_of_ble_eq_true rfl) d_C_requireCoreOrNone_7 ⟨Nat.zero_le _, Nat.zero_le _⟩ (?_)
    exact W.vret hx hb hr (fun t ht hW => ⟨rfl, trivial, ht⟩) (fun q h => by cases h) d_C_requireCoreOrNone_10

abbrev w_C_bankOf_n : List Cond := .code y_C_bankOf b_C_bankOf 2 (some (.object R_B)) :: tbW
abbrev rm_C_bankOf_n : Room := { frames := 0, cells := 0, slots := 0, locals := 0 }
set_option maxHeartbeats 4000000 in
set_option maxRecDepth 100000 in
theorem c_C_bankOf_n (l : Launch) (D : va_G) (cI cZ : ClassId) (g : GC) (hg : okC g) (x : Cs) (p0 : Int32) (hq : p0 = -1) : Met l y_C_bankOf w_C_bankOf_n rm_C_bankOf_n (PcR D vwCl (tyK cI cZ) [.ref g.1.1, .int p0] (wC cI cZ g x)) (va_Sr (fun _ => True) (fun _ => .ref g.2.2.2.2.1.1.1)) 0 0 (fun _ => False) := by
  refine Met.ofW (cc := b_C_bankOf) (maxL := 2) (ret := (some (.object R_B))) (by decide) rfl ?_
  intro p e s m args below meth c s₁ B hml hv
  obtain ⟨rfl, hP, hK⟩ := hv
  have hx := B.exec
  have hb := B.bytes
  have hr := B.returns
  have htb : ∀ w ∈ tbW, w.before _ s = true := fun w h => atoms_spec (ws := w_C_bankOf_n) B.pre w (List.mem_cons_of_mem _ h)
  have hown : s.vm.findClass R_C = some m.cls := findClass_of_methodNamed B.named
  have hlocks := B.notSynchronized
  have hl := lv_entry ([.ref g.1.1, .int p0]) (n := 2) (Nat.le_of_ble_eq_true rfl)
  rw [lg_entry_eq]
  generalize (lg_sl ([.ref g.1.1, .int p0]) ++ List.replicate (2 - (lg_sl ([.ref g.1.1, .int p0])).length) Slot.unset).toArray = ls at hl ⊢
  have hl : lv_has ls 2 [(0, .ref g.1.1), (1, .int p0)] := hl
  refine lv_iload_n hx hb d_C_bankOf_0 rfl (lv_at hl 1 rfl) ?_
  refine lv_iconst (v := -1) hx hb d_C_bankOf_1 (by decide) ?_
  refine lv_icmp_ne (tgt := 12) hx hb d_C_bankOf_2 (by decide) (fun c_2 => ?_) (fun c_2 => ?_)
  · exact absurd hq c_2
  · skip
    refine lv_aload_n hx hb d_C_bankOf_5 rfl (lv_at hl 0 rfl) ?_
    refine va_get (D := D) (ci := 2) (v := .ref g.2.2.2.2.1.1.1) (C := R_C) (T := T_C) (N := 10) hx hb htb i_C hown hK hP 0 rfl rfl 3 (by decide) (htb _ k_C_31) (fun _ h9 => h9) rfl d_C_bankOf_6 ?_
    refine lv_goto (tgt := 16) hx hb d_C_bankOf_9 (by decide) ?_
    exact W.aret (v := .ref g.2.2.2.2.1.1.1) hx hb hr (Or.inl ⟨_, rfl⟩) (Or.inr ⟨_, rfl⟩) (fun t ht hW => ⟨0, rfl, trivial, ht⟩) (fun q h => by cases h) d_C_bankOf_16

abbrev w_C_bankOf_c : List Cond := .code y_C_bankOf b_C_bankOf 2 (some (.object R_B)) :: tbW
abbrev rm_C_bankOf_c : Room := { frames := 0, cells := 0, slots := 0, locals := 0 }
set_option maxHeartbeats 4000000 in
set_option maxRecDepth 100000 in
theorem c_C_bankOf_c (l : Launch) (D : va_G) (cI cZ : ClassId) (g : GC) (hg : okC g) (x : Cs) (p0 : Int32) (hq : ¬ p0 = -1) : Met l y_C_bankOf w_C_bankOf_c rm_C_bankOf_c (PcR D vwCl (tyK cI cZ) [.ref g.1.1, .int p0] (wC cI cZ g x)) (va_Sr (fun _ => True) (fun _ => .ref g.2.2.2.1.1.1)) 0 0 (fun _ => False) := by
  refine Met.ofW (cc := b_C_bankOf) (maxL := 2) (ret := (some (.object R_B))) (by decide) rfl ?_
  intro p e s m args below meth c s₁ B hml hv
  obtain ⟨rfl, hP, hK⟩ := hv
  have hx := B.exec
  have hb := B.bytes
  have hr := B.returns
  have htb : ∀ w ∈ tbW, w.before _ s = true := fun w h => atoms_spec (ws := w_C_bankOf_c) B.pre w (List.mem_cons_of_mem _ h)
  have hown : s.vm.findClass R_C = some m.cls := findClass_of_methodNamed B.named
  have hlocks := B.notSynchronized
  have hl := lv_entry ([.ref g.1.1, .int p0]) (n := 2) (Nat.le_of_ble_eq_true rfl)
  rw [lg_entry_eq]
  generalize (lg_sl ([.ref g.1.1, .int p0]) ++ List.replicate (2 - (lg_sl ([.ref g.1.1, .int p0])).length) Slot.unset).toArray = ls at hl ⊢
  have hl : lv_has ls 2 [(0, .ref g.1.1), (1, .int p0)] := hl
  refine lv_iload_n hx hb d_C_bankOf_0 rfl (lv_at hl 1 rfl) ?_
  refine lv_iconst (v := -1) hx hb d_C_bankOf_1 (by decide) ?_
  refine lv_icmp_ne (tgt := 12) hx hb d_C_bankOf_2 (by decide) (fun c_2 => ?_) (fun c_2 => ?_)
  · skip
    refine lv_aload_n hx hb d_C_bankOf_12 rfl (lv_at hl 0 rfl) ?_
    refine va_get (D := D) (ci := 2) (v := .ref g.2.2.2.1.1.1) (C := R_C) (T := T_C) (N := 10) hx hb htb i_C hown hK hP 0 rfl rfl 2 (by decide) (htb _ k_C_27) (fun _ h9 => h9) rfl d_C_bankOf_13 ?_
    exact W.aret (v := .ref g.2.2.2.1.1.1) hx hb hr (Or.inl ⟨_, rfl⟩) (Or.inr ⟨_, rfl⟩) (fun t ht hW => ⟨0, rfl, trivial, ht⟩) (fun q h => by cases h) d_C_bankOf_16
  · exact absurd c_2 hq

def M_C_groupOf (p0 : Int32) : Int32 := (if p0 = (-1 : Int32) then (0 : Int32) else p0)
theorem M_C_groupOf_eq (p0 : Int32) : M_C_groupOf p0 = (if p0 = (-1 : Int32) then (0 : Int32) else p0) := rfl
abbrev w_C_groupOf : List Cond := .code y_C_groupOf b_C_groupOf 1 (some .int) :: tbW
abbrev rm_C_groupOf : Room := { frames := 0, cells := 0, slots := 0, locals := 0 }
set_option maxHeartbeats 4000000 in
set_option maxRecDepth 100000 in
theorem c_C_groupOf (l : Launch) (p0 : Int32) : Met l y_C_groupOf w_C_groupOf rm_C_groupOf (va_Pc [.int p0] (fun _ => True)) (vp_Si (fun r => r = M_C_groupOf p0)) 0 0 (fun _ => False) := by
  refine Met.ofW (cc := b_C_groupOf) (maxL := 1) (ret := (some .int)) (by decide) rfl ?_
  intro p e s m args below meth c s₁ B hml hv
  obtain ⟨rfl, -⟩ := hv
  have hx := B.exec
  have hb := B.bytes
  have hr := B.returns
  have htb : ∀ w ∈ tbW, w.before _ s = true := fun w h => atoms_spec (ws := w_C_groupOf) B.pre w (List.mem_cons_of_mem _ h)
  have hown : s.vm.findClass R_C = some m.cls := findClass_of_methodNamed B.named
  have hlocks := B.notSynchronized
  have hl := lv_entry ([.int p0]) (n := 1) (Nat.le_of_ble_eq_true rfl)
  rw [lg_entry_eq]
  generalize (lg_sl ([.int p0]) ++ List.replicate (1 - (lg_sl ([.int p0])).length) Slot.unset).toArray = ls at hl ⊢
  have hl : lv_has ls 1 [(0, .int p0)] := hl
  have hF := M_C_groupOf_eq p0
  refine lv_iload_n hx hb d_C_groupOf_0 rfl (lv_at hl 0 rfl) ?_
  refine lv_iconst (v := -1) hx hb d_C_groupOf_1 (by decide) ?_
  refine lv_icmp_ne (tgt := 9) hx hb d_C_groupOf_2 (by decide) (fun c_2 => ?_) (fun c_2 => ?_)
  · have hF := hF.trans (if_neg c_2)
    refine lv_iload_n hx hb d_C_groupOf_9 rfl (lv_at hl 0 rfl) ?_
    exact W.iret (v := p0) hx hb hr (fun t ht hW => ⟨_, rfl, hF.symm, ht⟩) (fun q h => by cases h) d_C_groupOf_10
  · have hF := hF.trans (if_pos c_2)
    refine lv_iconst (v := 0) hx hb d_C_groupOf_5 (by decide) ?_
    refine lv_goto (tgt := 10) hx hb d_C_groupOf_6 (by decide) ?_
    exact W.iret (v := (0 : Int32)) hx hb hr (fun t ht hW => ⟨_, rfl, hF.symm, ht⟩) (fun q h => by cases h) d_C_groupOf_10

def M_C_tally (g : GC) (x : Cs) (p0 p1 : Int32) : Cs := (if ((p0 * (7 : Int32)) + p1) < 0 then x else (if (nI g.2.2.1.2) ≤ ((p0 * (7 : Int32)) + p1) then x else (x.1, x.2.1, x.2.2.1, x.2.2.2.1, x.2.2.2.2.1, (upd x.2.2.2.2.2 ((p0 * (7 : Int32)) + p1).toNatClampNeg ((x.2.2.2.2.2 ((p0 * (7 : Int32)) + p1).toNatClampNeg) + (1 : Int32))))))
theorem M_C_tally_eq (g : GC) (x : Cs) (p0 p1 : Int32) : M_C_tally g x p0 p1 = (if ((p0 * (7 : Int32)) + p1) < 0 then x else (if (nI g.2.2.1.2) ≤ ((p0 * (7 : Int32)) + p1) then x else (x.1, x.2.1, x.2.2.1, x.2.2.2.1, x.2.2.2.2.1, (upd x.2.2.2.2.2 ((p0 * (7 : Int32)) + p1).toNatClampNeg ((x.2.2.2.2.2 ((p0 * (7 : Int32)) + p1).toNatClampNeg) + (1 : Int32)))))) := rfl
abbrev w_C_tally : List Cond := .code y_C_tally b_C_tally 4 none :: tbW
abbrev rm_C_tally : Room := { frames := 0, cells := 0, slots := 0, locals := 0 }
set_option maxHeartbeats 4000000 in
set_option maxRecDepth 100000 in
theorem c_C_tally (l : Launch) (D : va_G) (cI cZ : ClassId) (g : GC) (hg : okC g) (x : Cs) (p0 p1 : Int32) : Met l y_C_tally w_C_tally rm_C_tally (PcW D vwCl (tyK cI cZ) [.ref g.1.1, .int p0, .int p1] (wC cI cZ g x)) (va_Qv (fun (u : Cs) => u = M_C_tally g x p0 p1) (fun (u : Cs) (t : State) => va_P D vwCl (wC cI cZ g u) t.heap) (Aw (wC cI cZ g x))) 0 0 (Aw (wC cI cZ g x)) := by
  refine Met.ofW (cc := b_C_tally) (maxL := 4) (ret := none) (by decide) rfl ?_
  intro p e s m args below meth c s₁ B hml hv
  obtain ⟨rfl, hP, hK, hD0⟩ := hv
  have hx := B.exec
  have hb := B.bytes
  have hr := B.returns
  have htb : ∀ w ∈ tbW, w.before _ s = true := fun w h => atoms_spec (ws := w_C_tally) B.pre w (List.mem_cons_of_mem _ h)
  have hown : s.vm.findClass R_C = some m.cls := findClass_of_methodNamed B.named
  have hlocks := B.notSynchronized
  have hD : va_D (Aw (wC cI cZ g x)) (wC cI cZ g x) := ⟨hD0.1, fun k q hk => ⟨k, q.2, hk⟩⟩
  have hS : va_S (Aw (wC cI cZ g x)) s.heap s.heap [] := va_S.rf
  have hl := lv_entry ([.ref g.1.1, .int p0, .int p1]) (n := 4) (Nat.le_of_ble_eq_true rfl)
  rw [lg_entry_eq]
  generalize (lg_sl ([.ref g.1.1, .int p0, .int p1]) ++ List.replicate (4 - (lg_sl ([.ref g.1.1, .int p0, .int p1])).length) Slot.unset).toArray = ls at hl ⊢
  have hl : lv_has ls 4 [(0, .ref g.1.1), (1, .int p0), (2, .int p1)] := hl
  have hF := M_C_tally_eq g x p0 p1
  refine lv_iload_n hx hb d_C_tally_0 rfl (lv_at hl 1 rfl) ?_
  refine lv_bipush (v := 7) hx hb d_C_tally_1 (by decide) ?_
  refine lv_imul hx hb d_C_tally_3 ?_
  refine lv_iload_n hx hb d_C_tally_4 rfl (lv_at hl 2 rfl) ?_
  refine lv_iadd hx hb d_C_tally_5 ?_
  refine lv_istore_n (lv' := [(3, .int ((p0 * (7 : Int32)) + p1)), (0, .ref g.1.1), (1, .int p0), (2, .int p1)]) hx hb d_C_tally_6 rfl hl (by decide) rfl (fun ls hl => ?_)
  refine lv_iload_n hx hb d_C_tally_7 rfl (lv_at hl 0 rfl) ?_
  refine lv_if_lt (tgt := 30) hx hb d_C_tally_8 (by decide) (fun c_8 => ?_) (fun c_8 => ?_)
  · have hF := hF.trans (if_pos c_8)
    exact W.vret hx hb hr (fun t ht hW => ⟨⟨x, rfl, hF.symm, by dsimp only; rw [ht]; exact hP⟩, hS.F ht⟩) hS.2.2 d_C_tally_30
  · have hF := hF.trans (if_neg c_8)
    refine lv_iload_n hx hb d_C_tally_11 rfl (lv_at hl 0 rfl) ?_
    refine lv_aload_n hx hb d_C_tally_12 rfl (lv_at hl 1 rfl) ?_
    refine va_get (D := D) (ci := 2) (v := .ref g.1.2.2) (C := R_C) (T := T_C) (N := 10) hx hb htb i_C hown hK hP 0 rfl rfl 6 (by decide) (htb _ k_C_45) (fun _ h9 => h9) rfl d_C_tally_13 ?_
    refine va_alen hx hb hK hP 18 0 rfl rfl (v := nI g.2.2.1.2) rfl d_C_tally_16 ?_
    refine lv_icmp_ge (tgt := 30) hx hb d_C_tally_17 (by decide) (fun c_17 => ?_) (fun c_17 => ?_)
    · have hF := hF.trans (if_pos c_17)
      exact W.vret hx hb hr (fun t ht hW => ⟨⟨x, rfl, hF.symm, by dsimp only; rw [ht]; exact hP⟩, hS.F ht⟩) hS.2.2 d_C_tally_30
    · have hF := hF.trans (if_neg c_17)
      refine lv_aload_n hx hb d_C_tally_20 rfl (lv_at hl 1 rfl) ?_
      refine va_get (D := D) (ci := 2) (v := .ref g.1.2.2) (C := R_C) (T := T_C) (N := 10) hx hb htb i_C hown hK hP 0 rfl rfl 6 (by decide) (htb _ k_C_45) (fun _ h9 => h9) rfl d_C_tally_21 ?_
      refine lv_iload_n hx hb d_C_tally_24 rfl (lv_at hl 0 rfl) ?_
      refine lv_dup2_11 hx hb d_C_tally_25 rfl rfl ?_
      refine va_iald hx hb hK hP 18 0 rfl rfl (in_ok hg.1.2.1 c_8 c_17) d_C_tally_26 ?_
      refine lv_iconst (v := 1) hx hb d_C_tally_27 (by decide) ?_
      refine lv_iadd hx hb d_C_tally_28 ?_
      refine va_iast hx hb hK hP hD hS 18 0 rfl rfl (in_ok hg.1.2.1 c_8 c_17) d_C_tally_29 (fun H locs hP hD hS => ?_)
      have hP : va_P D vwCl (wC cI cZ g (x.1, x.2.1, x.2.2.1, x.2.2.2.1, x.2.2.2.2.1, (upd x.2.2.2.2.2 ((p0 * (7 : Int32)) + p1).toNatClampNeg ((x.2.2.2.2.2 ((p0 * (7 : Int32)) + p1).toNatClampNeg) + (1 : Int32))))) H := hP
      have hD : va_D _ (wC cI cZ g (x.1, x.2.1, x.2.2.1, x.2.2.2.1, x.2.2.2.2.1, (upd x.2.2.2.2.2 ((p0 * (7 : Int32)) + p1).toNatClampNeg ((x.2.2.2.2.2 ((p0 * (7 : Int32)) + p1).toNatClampNeg) + (1 : Int32))))) := hD
      exact W.vret hx hb hr (fun t ht hW => ⟨⟨(x.1, x.2.1, x.2.2.1, x.2.2.2.1, x.2.2.2.2.1, (upd x.2.2.2.2.2 ((p0 * (7 : Int32)) + p1).toNatClampNeg ((x.2.2.2.2.2 ((p0 * (7 : Int32)) + p1).toNatClampNeg) + (1 : Int32)))), rfl, hF.symm, by dsimp only; rw [ht]; exact hP⟩, hS.F ht⟩) hS.2.2 d_C_tally_30

def M_C_passesBy (g : GC) (x : Cs) (p0 : Int32) : Int32 := (if p0 < x.1.1 then (0 : Int32) else (if x.1.2.1 < p0 then (0 : Int32) else (1 : Int32)))
theorem M_C_passesBy_eq (g : GC) (x : Cs) (p0 : Int32) : M_C_passesBy g x p0 = (if p0 < x.1.1 then (0 : Int32) else (if x.1.2.1 < p0 then (0 : Int32) else (1 : Int32))) := rfl
abbrev w_C_passesBy : List Cond := .code y_C_passesBy b_C_passesBy 2 (some .boolean) :: tbW
abbrev rm_C_passesBy : Room := { frames := 0, cells := 0, slots := 0, locals := 0 }
set_option maxHeartbeats 4000000 in
set_option maxRecDepth 100000 in
theorem c_C_passesBy (l : Launch) (D : va_G) (cI cZ : ClassId) (g : GC) (hg : okC g) (x : Cs) (p0 : Int32) : Met l y_C_passesBy w_C_passesBy rm_C_passesBy (PcR D vwCl (tyK cI cZ) [.ref g.1.1, .int p0] (wC cI cZ g x)) (vp_Si (fun r => r = M_C_passesBy g x p0)) 0 0 (fun _ => False) := by
  refine Met.ofW (cc := b_C_passesBy) (maxL := 2) (ret := (some .boolean)) (by decide) rfl ?_
  intro p e s m args below meth c s₁ B hml hv
  obtain ⟨rfl, hP, hK⟩ := hv
  have hx := B.exec
  have hb := B.bytes
  have hr := B.returns
  have htb : ∀ w ∈ tbW, w.before _ s = true := fun w h => atoms_spec (ws := w_C_passesBy) B.pre w (List.mem_cons_of_mem _ h)
  have hown : s.vm.findClass R_C = some m.cls := findClass_of_methodNamed B.named
  have hlocks := B.notSynchronized
  have hl := lv_entry ([.ref g.1.1, .int p0]) (n := 2) (Nat.le_of_ble_eq_true rfl)
  rw [lg_entry_eq]
  generalize (lg_sl ([.ref g.1.1, .int p0]) ++ List.replicate (2 - (lg_sl ([.ref g.1.1, .int p0])).length) Slot.unset).toArray = ls at hl ⊢
  have hl : lv_has ls 2 [(0, .ref g.1.1), (1, .int p0)] := hl
  have hF := M_C_passesBy_eq g x p0
  refine lv_iload_n hx hb d_C_passesBy_0 rfl (lv_at hl 1 rfl) ?_
  refine lv_aload_n hx hb d_C_passesBy_1 rfl (lv_at hl 0 rfl) ?_
  refine va_get (D := D) (ci := 2) (v := .int x.1.1) (C := R_C) (T := T_C) (N := 10) hx hb htb i_C hown hK hP 0 rfl rfl 7 (by decide) (htb _ k_C_48) (fun _ h9 => h9) rfl d_C_passesBy_2 ?_
  refine lv_icmp_lt (tgt := 20) hx hb d_C_passesBy_5 (by decide) (fun c_5 => ?_) (fun c_5 => ?_)
  · have hF := hF.trans (if_pos c_5)
    refine lv_iconst (v := 0) hx hb d_C_passesBy_20 (by decide) ?_
    exact W.zret (v := (0 : Int32)) (ty := .boolean) hx hb hr rfl (fun t ht hW => ⟨_, rfl, hF.symm, ht⟩) (fun q h => by cases h) d_C_passesBy_21
  · have hF := hF.trans (if_neg c_5)
    refine lv_iload_n hx hb d_C_passesBy_8 rfl (lv_at hl 1 rfl) ?_
    refine lv_aload_n hx hb d_C_passesBy_9 rfl (lv_at hl 0 rfl) ?_
    refine va_get (D := D) (ci := 2) (v := .int x.1.2.1) (C := R_C) (T := T_C) (N := 10) hx hb htb i_C hown hK hP 0 rfl rfl 8 (by decide) (htb _ k_C_51) (fun _ h9 => h9) rfl d_C_passesBy_10 ?_
    refine lv_icmp_gt (tgt := 20) hx hb d_C_passesBy_13 (by decide) (fun c_13 => ?_) (fun c_13 => ?_)
    · have hF := hF.trans (if_pos c_13)
      refine lv_iconst (v := 0) hx hb d_C_passesBy_20 (by decide) ?_
      exact W.zret (v := (0 : Int32)) (ty := .boolean) hx hb hr rfl (fun t ht hW => ⟨_, rfl, hF.symm, ht⟩) (fun q h => by cases h) d_C_passesBy_21
    · have hF := hF.trans (if_neg c_13)
      refine lv_iconst (v := 1) hx hb d_C_passesBy_16 (by decide) ?_
      refine lv_goto (tgt := 21) hx hb d_C_passesBy_17 (by decide) ?_
      exact W.zret (v := (1 : Int32)) (ty := .boolean) hx hb hr rfl (fun t ht hW => ⟨_, rfl, hF.symm, ht⟩) (fun q h => by cases h) d_C_passesBy_21

def L_C_writtenInFirst_2 (g : GC) (x : Cs) (p0 : Int32) : Nat → Int32 → Int32
  | 0, _ => 0
  | n + 1, v2 => (if g.2.1.1 ≤ v2 then (-1 : Int32) else (bnd (M_B_find g.2.2.2.1 x.2.1 v2 p0) (fun r_16 => (bnd (M_B_isWritten g.2.2.2.1 x.2.1 r_16) (fun r_25 => (if r_25 = 0 then L_C_writtenInFirst_2 g x p0 n (v2 + 1) else r_16))))))
theorem L_C_writtenInFirst_2_eq (g : GC) (x : Cs) (p0 : Int32) (n : Nat) (v2 : Int32) : L_C_writtenInFirst_2 g x p0 (n + 1) v2 = (if g.2.1.1 ≤ v2 then (-1 : Int32) else (bnd (M_B_find g.2.2.2.1 x.2.1 v2 p0) (fun r_16 => (bnd (M_B_isWritten g.2.2.2.1 x.2.1 r_16) (fun r_25 => (if r_25 = 0 then L_C_writtenInFirst_2 g x p0 n (v2 + 1) else r_16)))))) := by first | rfl | rw [L_C_writtenInFirst_2]
def M_C_writtenInFirst (g : GC) (x : Cs) (p0 : Int32) : Int32 := L_C_writtenInFirst_2 g x p0 (mu (0 : Int32) g.2.1.1 + 1) (0 : Int32)
theorem M_C_writtenInFirst_eq (g : GC) (x : Cs) (p0 : Int32) : M_C_writtenInFirst g x p0 = L_C_writtenInFirst_2 g x p0 (mu (0 : Int32) g.2.1.1 + 1) (0 : Int32) := rfl
abbrev w_C_writtenInFirst : List Cond := .code y_C_writtenInFirst b_C_writtenInFirst 4 (some .int) :: tbW
abbrev rm_C_writtenInFirst : Room := { frames := 3, cells := 0, slots := 0, locals := 68 }
set_option maxHeartbeats 4000000 in
set_option maxRecDepth 100000 in
theorem c_C_writtenInFirst (l : Launch) (D : va_G) (cI cZ : ClassId) (g : GC) (hg : okC g) (x : Cs) (p0 : Int32) : Met l y_C_writtenInFirst w_C_writtenInFirst rm_C_writtenInFirst (PcR D vwCl (tyK cI cZ) [.ref g.1.1, .int p0] (wC cI cZ g x)) (vp_Si (fun r => r = M_C_writtenInFirst g x p0)) 0 0 (fun _ => False) := by
  refine Met.ofW (cc := b_C_writtenInFirst) (maxL := 4) (ret := (some .int)) (by decide) rfl ?_
  intro p e s m args below meth c s₁ B hml hv
  obtain ⟨rfl, hP, hK⟩ := hv
  have hx := B.exec
  have hb := B.bytes
  have hr := B.returns
  have htb : ∀ w ∈ tbW, w.before _ s = true := fun w h => atoms_spec (ws := w_C_writtenInFirst) B.pre w (List.mem_cons_of_mem _ h)
  have hown : s.vm.findClass R_C = some m.cls := findClass_of_methodNamed B.named
  have hlocks := B.notSynchronized
  have cut_2 : ∀ (n : Nat) (v2 : Int32) (ls : Array Slot), mu v2 g.2.1.1 < n → M_C_writtenInFirst g x p0 = L_C_writtenInFirst_2 g x p0 n v2 → lv_has ls 4 [(0, .ref g.1.1), (1, .int p0), (2, .int v2)] → W p l e (headSpec w_C_writtenInFirst rm_C_writtenInFirst).room s m ([.ref g.1.1, .int p0] : List Value).toArray below meth c s.heap [] 0 0 (MQ below (vp_Si (fun r => r = M_C_writtenInFirst g x p0)) ([.ref g.1.1, .int p0] : List Value).toArray s 0 0 (fun _ => False)) (F0 m 2 ls []) := by
    intro n
    induction n with
    | zero => intro v2 ls hm _ _; exact absurd hm (Nat.not_lt_zero _)
    | succ n ih =>
      intro v2 ls hm hF hl
      have hF := hF.trans (L_C_writtenInFirst_2_eq g x p0 n v2)
      refine lv_iload_n hx hb d_C_writtenInFirst_2 rfl (lv_at hl 2 rfl) ?_
      refine lv_aload_n hx hb d_C_writtenInFirst_3 rfl (lv_at hl 0 rfl) ?_
      refine va_get (D := D) (ci := 2) (v := .int g.2.1.1) (C := R_C) (T := T_C) (N := 10) hx hb htb i_C hown hK hP 0 rfl rfl 0 (by decide) (htb _ k_C_15) (fun _ h9 => h9) rfl d_C_writtenInFirst_4 ?_
      refine lv_icmp_ge (tgt := 39) hx hb d_C_writtenInFirst_7 (by decide) (fun c_7 => ?_) (fun c_7 => ?_)
      · have hF := hF.trans (if_pos c_7)
        refine lv_iconst (v := -1) hx hb d_C_writtenInFirst_39 (by decide) ?_
        exact W.iret (v := (-1 : Int32)) hx hb hr (fun t ht hW => ⟨_, rfl, hF.symm, ht⟩) (fun q h => by cases h) d_C_writtenInFirst_40
      · have hF := hF.trans (if_neg c_7)
        refine lv_aload_n hx hb d_C_writtenInFirst_10 rfl (lv_at hl 0 rfl) ?_
        refine va_get (D := D) (ci := 2) (v := .ref g.2.2.2.1.1.1) (C := R_C) (T := T_C) (N := 10) hx hb htb i_C hown hK hP 0 rfl rfl 2 (by decide) (htb _ k_C_27) (fun _ h9 => h9) rfl d_C_writtenInFirst_11 ?_
        refine lv_iload_n hx hb d_C_writtenInFirst_14 rfl (lv_at hl 2 rfl) ?_
        refine lv_iload_n hx hb d_C_writtenInFirst_15 rfl (lv_at hl 1 rfl) ?_
        refine cpi (As := [.int v2, .int p0]) (rest := []) ⟨hx, hb, hml, hown, htb⟩ (c_B_find l D cI cZ g.2.2.2.1 hg.2.1 x.2.1 v2 p0) (cwv (n := 2) htb cd_B_find k_C_72 in_B_find se_B_find ini_B hd_B_find ⟨Nat.le_of_ble_eq_true rfl, Nat.le_of_ble_eq_true rfl⟩) hK hP [1, 2, 3, 4, 5, 6] rfl (ci := 0) rfl rfl rfl hl.1 rfl (Nat.le_of_ble_eq_true rfl) d_C_writtenInFirst_16 ⟨Nat.zero_le _, Nat.zero_le _⟩ (fun r_16 hw_16 => ?_)
        have hF := hF.trans (bnd_eq hw_16)
        refine lv_istore_n (lv' := [(3, .int r_16), (0, .ref g.1.1), (1, .int p0), (2, .int v2)]) hx hb d_C_writtenInFirst_19 rfl hl (by decide) rfl (fun ls hl => ?_)
        refine lv_aload_n hx hb d_C_writtenInFirst_20 rfl (lv_at hl 1 rfl) ?_
        refine va_get (D := D) (ci := 2) (v := .ref g.2.2.2.1.1.1) (C := R_C) (T := T_C) (N := 10) hx hb htb i_C hown hK hP 0 rfl rfl 2 (by decide) (htb _ k_C_27) (fun _ h9 => h9) rfl d_C_writtenInFirst_21 ?_
        refine lv_iload_n hx hb d_C_writtenInFirst_24 rfl (lv_at hl 0 rfl) ?_
        refine cpi (As := [.int r_16]) (rest := []) ⟨hx, hb, hml, hown, htb⟩ (c_B_isWritten l D cI cZ g.2.2.2.1 hg.2.1 x.2.1 r_16) (cwv (n := 1) htb cd_B_isWritten k_C_96 in_B_isWritten se_B_isWritten ini_B hd_B_isWritten ⟨Nat.le_of_ble_eq_true rfl, Nat.le_of_ble_eq_true rfl⟩) hK hP [1, 2, 3, 4, 5, 6] rfl (ci := 0) rfl rfl rfl hl.1 rfl (Nat.le_of_ble_eq_true rfl) d_C_writtenInFirst_25 ⟨Nat.zero_le _, Nat.zero_le _⟩ (fun r_25 hw_25 => ?_)
        have hF := hF.trans (bnd_eq hw_25)
        refine lv_if_eq (tgt := 33) hx hb d_C_writtenInFirst_28 (by decide) (fun c_28 => ?_) (fun c_28 => ?_)
        · have hF := hF.trans (if_pos c_28)
          refine lv_iinc (v := (v2 + 1)) (lv' := [(2, .int (v2 + 1)), (3, .int r_16), (0, .ref g.1.1), (1, .int p0)]) hx hb d_C_writtenInFirst_33 hl (k := 3) rfl rfl (by decide) rfl (fun ls hl => ?_)
          refine lv_goto (tgt := 2) hx hb d_C_writtenInFirst_36 (by decide) ?_
          have hl := lv_sub (l' := [(0, .ref g.1.1), (1, .int p0), (2, .int (v2 + 1))]) hl [2, 3, 0] rfl
          exact ih (v2 + 1) _ (Nat.lt_of_lt_of_le (mu_dec c_7) (Nat.le_of_lt_succ hm)) hF hl
        · have hF := hF.trans (if_neg c_28)
          refine lv_iload_n hx hb d_C_writtenInFirst_31 rfl (lv_at hl 0 rfl) ?_
          exact W.iret (v := r_16) hx hb hr (fun t ht hW => ⟨_, rfl, hF.symm, ht⟩) (fun q h => by cases h) d_C_writtenInFirst_32
  have hl := lv_entry ([.ref g.1.1, .int p0]) (n := 4) (Nat.le_of_ble_eq_true rfl)
  rw [lg_entry_eq]
  generalize (lg_sl ([.ref g.1.1, .int p0]) ++ List.replicate (4 - (lg_sl ([.ref g.1.1, .int p0])).length) Slot.unset).toArray = ls at hl ⊢
  have hl : lv_has ls 4 [(0, .ref g.1.1), (1, .int p0)] := hl
  have hF := M_C_writtenInFirst_eq g x p0
  refine lv_iconst (v := 0) hx hb d_C_writtenInFirst_0 (by decide) ?_
  refine lv_istore_n (lv' := [(2, .int (0 : Int32)), (0, .ref g.1.1), (1, .int p0)]) hx hb d_C_writtenInFirst_1 rfl hl (by decide) rfl (fun ls hl => ?_)
  have hl := lv_sub (l' := [(0, .ref g.1.1), (1, .int p0), (2, .int (0 : Int32))]) hl [1, 2, 0] rfl
  exact cut_2 (mu (0 : Int32) g.2.1.1 + 1) (0 : Int32) _ (Nat.lt_succ_self _) hF hl

def L_C_directory_4 (g : GC) (x : Cs) (p0 : Int32) : Nat → Int32 → Int32 → Int32
  | 0, _, _ => 0
  | n + 1, v2, v3 => (if g.2.1.1 ≤ v3 then v2 else (bnd (M_B_find g.2.2.2.1 x.2.1 v3 p0) (fun r_18 => (if r_18 = (-1 : Int32) then L_C_directory_4 g x p0 n v2 (v3 + 1) else L_C_directory_4 g x p0 n (v2 ||| ((1 : Int32) <<< (v3 &&& 31))) (v3 + 1)))))
theorem L_C_directory_4_eq (g : GC) (x : Cs) (p0 : Int32) (n : Nat) (v2 v3 : Int32) : L_C_directory_4 g x p0 (n + 1) v2 v3 = (if g.2.1.1 ≤ v3 then v2 else (bnd (M_B_find g.2.2.2.1 x.2.1 v3 p0) (fun r_18 => (if r_18 = (-1 : Int32) then L_C_directory_4 g x p0 n v2 (v3 + 1) else L_C_directory_4 g x p0 n (v2 ||| ((1 : Int32) <<< (v3 &&& 31))) (v3 + 1))))) := by first | rfl | rw [L_C_directory_4]
def M_C_directory (g : GC) (x : Cs) (p0 : Int32) : Int32 := L_C_directory_4 g x p0 (mu (0 : Int32) g.2.1.1 + 1) (0 : Int32) (0 : Int32)
theorem M_C_directory_eq (g : GC) (x : Cs) (p0 : Int32) : M_C_directory g x p0 = L_C_directory_4 g x p0 (mu (0 : Int32) g.2.1.1 + 1) (0 : Int32) (0 : Int32) := rfl
abbrev w_C_directory : List Cond := .code y_C_directory b_C_directory 4 (some .int) :: tbW
abbrev rm_C_directory : Room := { frames := 3, cells := 0, slots := 0, locals := 68 }
set_option maxHeartbeats 4000000 in
set_option maxRecDepth 100000 in
theorem c_C_directory (l : Launch) (D : va_G) (cI cZ : ClassId) (g : GC) (hg : okC g) (x : Cs) (p0 : Int32) : Met l y_C_directory w_C_directory rm_C_directory (PcR D vwCl (tyK cI cZ) [.ref g.1.1, .int p0] (wC cI cZ g x)) (vp_Si (fun r => r = M_C_directory g x p0)) 0 0 (fun _ => False) := by
  refine Met.ofW (cc := b_C_directory) (maxL := 4) (ret := (some .int)) (by decide) rfl ?_
  intro p e s m args below meth c s₁ B hml hv
  obtain ⟨rfl, hP, hK⟩ := hv
  have hx := B.exec
  have hb := B.bytes
  have hr := B.returns
  have htb : ∀ w ∈ tbW, w.before _ s = true := fun w h => atoms_spec (ws := w_C_directory) B.pre w (List.mem_cons_of_mem _ h)
  have hown : s.vm.findClass R_C = some m.cls := findClass_of_methodNamed B.named
  have hlocks := B.notSynchronized
  have cut_4 : ∀ (n : Nat) (v2 v3 : Int32) (ls : Array Slot), mu v3 g.2.1.1 < n → M_C_directory g x p0 = L_C_directory_4 g x p0 n v2 v3 → lv_has ls 4 [(0, .ref g.1.1), (1, .int p0), (2, .int v2), (3, .int v3)] → W p l e (headSpec w_C_directory rm_C_directory).room s m ([.ref g.1.1, .int p0] : List Value).toArray below meth c s.heap [] 0 0 (MQ below (vp_Si (fun r => r = M_C_directory g x p0)) ([.ref g.1.1, .int p0] : List Value).toArray s 0 0 (fun _ => False)) (F0 m 4 ls []) := by
    intro n
    induction n with
    | zero => intro v2 v3 ls hm _ _; exact absurd hm (Nat.not_lt_zero _)
    | succ n ih =>
      intro v2 v3 ls hm hF hl
      have hF := hF.trans (L_C_directory_4_eq g x p0 n v2 v3)
      refine lv_iload_n hx hb d_C_directory_4 rfl (lv_at hl 3 rfl) ?_
      refine lv_aload_n hx hb d_C_directory_5 rfl (lv_at hl 0 rfl) ?_
      refine va_get (D := D) (ci := 2) (v := .int g.2.1.1) (C := R_C) (T := T_C) (N := 10) hx hb htb i_C hown hK hP 0 rfl rfl 0 (by decide) (htb _ k_C_15) (fun _ h9 => h9) rfl d_C_directory_6 ?_
      refine lv_icmp_ge (tgt := 37) hx hb d_C_directory_9 (by decide) (fun c_9 => ?_) (fun c_9 => ?_)
      · have hF := hF.trans (if_pos c_9)
        refine lv_iload_n hx hb d_C_directory_37 rfl (lv_at hl 2 rfl) ?_
        exact W.iret (v := v2) hx hb hr (fun t ht hW => ⟨_, rfl, hF.symm, ht⟩) (fun q h => by cases h) d_C_directory_38
      · have hF := hF.trans (if_neg c_9)
        refine lv_aload_n hx hb d_C_directory_12 rfl (lv_at hl 0 rfl) ?_
        refine va_get (D := D) (ci := 2) (v := .ref g.2.2.2.1.1.1) (C := R_C) (T := T_C) (N := 10) hx hb htb i_C hown hK hP 0 rfl rfl 2 (by decide) (htb _ k_C_27) (fun _ h9 => h9) rfl d_C_directory_13 ?_
        refine lv_iload_n hx hb d_C_directory_16 rfl (lv_at hl 3 rfl) ?_
        refine lv_iload_n hx hb d_C_directory_17 rfl (lv_at hl 1 rfl) ?_
        refine cpi (As := [.int v3, .int p0]) (rest := []) ⟨hx, hb, hml, hown, htb⟩ (c_B_find l D cI cZ g.2.2.2.1 hg.2.1 x.2.1 v3 p0) (cwv (n := 2) htb cd_B_find k_C_72 in_B_find se_B_find ini_B hd_B_find ⟨Nat.le_of_ble_eq_true rfl, Nat.le_of_ble_eq_true rfl⟩) hK hP [1, 2, 3, 4, 5, 6] rfl (ci := 0) rfl rfl rfl hl.1 rfl (Nat.le_of_ble_eq_true rfl) d_C_directory_18 ⟨Nat.zero_le _, Nat.zero_le _⟩ (fun r_18 hw_18 => ?_)
        have hF := hF.trans (bnd_eq hw_18)
        refine lv_iconst (v := -1) hx hb d_C_directory_21 (by decide) ?_
        refine lv_icmp_eq (tgt := 31) hx hb d_C_directory_22 (by decide) (fun c_22 => ?_) (fun c_22 => ?_)
        · have hF := hF.trans (if_pos c_22)
          refine lv_iinc (v := (v3 + 1)) (lv' := [(3, .int (v3 + 1)), (0, .ref g.1.1), (1, .int p0), (2, .int v2)]) hx hb d_C_directory_31 hl (k := 3) rfl rfl (by decide) rfl (fun ls hl => ?_)
          refine lv_goto (tgt := 4) hx hb d_C_directory_34 (by decide) ?_
          have hl := lv_sub (l' := [(0, .ref g.1.1), (1, .int p0), (2, .int v2), (3, .int (v3 + 1))]) hl [1, 2, 3, 0] rfl
          exact ih v2 (v3 + 1) _ (Nat.lt_of_lt_of_le (mu_dec c_9) (Nat.le_of_lt_succ hm)) hF hl
        · have hF := hF.trans (if_neg c_22)
          refine lv_iload_n hx hb d_C_directory_25 rfl (lv_at hl 2 rfl) ?_
          refine lv_iconst (v := 1) hx hb d_C_directory_26 (by decide) ?_
          refine lv_iload_n hx hb d_C_directory_27 rfl (lv_at hl 3 rfl) ?_
          refine lv_ishl hx hb d_C_directory_28 ?_
          refine lv_ior hx hb d_C_directory_29 ?_
          refine lv_istore_n (lv' := [(2, .int (v2 ||| ((1 : Int32) <<< (v3 &&& 31)))), (0, .ref g.1.1), (1, .int p0), (3, .int v3)]) hx hb d_C_directory_30 rfl hl (by decide) rfl (fun ls hl => ?_)
          refine lv_iinc (v := (v3 + 1)) (lv' := [(3, .int (v3 + 1)), (2, .int (v2 ||| ((1 : Int32) <<< (v3 &&& 31)))), (0, .ref g.1.1), (1, .int p0)]) hx hb d_C_directory_31 hl (k := 3) rfl rfl (by decide) rfl (fun ls hl => ?_)
          refine lv_goto (tgt := 4) hx hb d_C_directory_34 (by decide) ?_
          have hl := lv_sub (l' := [(0, .ref g.1.1), (1, .int p0), (2, .int (v2 ||| ((1 : Int32) <<< (v3 &&& 31)))), (3, .int (v3 + 1))]) hl [2, 3, 1, 0] rfl
          exact ih (v2 ||| ((1 : Int32) <<< (v3 &&& 31))) (v3 + 1) _ (Nat.lt_of_lt_of_le (mu_dec c_9) (Nat.le_of_lt_succ hm)) hF hl
  have hl := lv_entry ([.ref g.1.1, .int p0]) (n := 4) (Nat.le_of_ble_eq_true rfl)
  rw [lg_entry_eq]
  generalize (lg_sl ([.ref g.1.1, .int p0]) ++ List.replicate (4 - (lg_sl ([.ref g.1.1, .int p0])).length) Slot.unset).toArray = ls at hl ⊢
  have hl : lv_has ls 4 [(0, .ref g.1.1), (1, .int p0)] := hl
  have hF := M_C_directory_eq g x p0
  refine lv_iconst (v := 0) hx hb d_C_directory_0 (by decide) ?_
  refine lv_istore_n (lv' := [(2, .int (0 : Int32)), (0, .ref g.1.1), (1, .int p0)]) hx hb d_C_directory_1 rfl hl (by decide) rfl (fun ls hl => ?_)
  refine lv_iconst (v := 0) hx hb d_C_directory_2 (by decide) ?_
  refine lv_istore_n (lv' := [(3, .int (0 : Int32)), (2, .int (0 : Int32)), (0, .ref g.1.1), (1, .int p0)]) hx hb d_C_directory_3 rfl hl (by decide) rfl (fun ls hl => ?_)
  have hl := lv_sub (l' := [(0, .ref g.1.1), (1, .int p0), (2, .int (0 : Int32)), (3, .int (0 : Int32))]) hl [2, 3, 1, 0] rfl
  exact cut_4 (mu (0 : Int32) g.2.1.1 + 1) (0 : Int32) (0 : Int32) _ (Nat.lt_succ_self _) hF hl

def M_C_writeDown (g : GC) (x : Cs) (p0 p1 : Int32) : Cs := (bnd (M_B_find g.2.2.2.2.1 x.2.2.1 (0 : Int32) p0) (fun r_6 => (if r_6 = (-1 : Int32) then (bnd (M_V_writeBack g.2.2.2.2.2 x.2.2.2.1 p0 p1) (fun u_21 => (x.1, x.2.1, x.2.2.1, u_21, x.2.2.2.2.1, x.2.2.2.2.2))) else (bnd (M_B_rewrite g.2.2.2.2.1 x.2.2.1 r_6 p1) (fun u_33 => (x.1, x.2.1, u_33, x.2.2.2.1, x.2.2.2.2.1, x.2.2.2.2.2))))))
theorem M_C_writeDown_eq (g : GC) (x : Cs) (p0 p1 : Int32) : M_C_writeDown g x p0 p1 = (bnd (M_B_find g.2.2.2.2.1 x.2.2.1 (0 : Int32) p0) (fun r_6 => (if r_6 = (-1 : Int32) then (bnd (M_V_writeBack g.2.2.2.2.2 x.2.2.2.1 p0 p1) (fun u_21 => (x.1, x.2.1, x.2.2.1, u_21, x.2.2.2.2.1, x.2.2.2.2.2))) else (bnd (M_B_rewrite g.2.2.2.2.1 x.2.2.1 r_6 p1) (fun u_33 => (x.1, x.2.1, u_33, x.2.2.2.1, x.2.2.2.2.1, x.2.2.2.2.2)))))) := rfl
abbrev w_C_writeDown : List Cond := .code y_C_writeDown b_C_writeDown 4 none :: tbW
abbrev rm_C_writeDown : Room := { frames := 3, cells := 0, slots := 0, locals := 68 }
set_option maxHeartbeats 4000000 in
set_option maxRecDepth 100000 in
theorem c_C_writeDown (l : Launch) (D : va_G) (cI cZ : ClassId) (g : GC) (hg : okC g) (x : Cs) (p0 p1 : Int32) : Met l y_C_writeDown w_C_writeDown rm_C_writeDown (PcW D vwCl (tyK cI cZ) [.ref g.1.1, .int p0, .int p1] (wC cI cZ g x)) (va_Qv (fun (u : Cs) => u = M_C_writeDown g x p0 p1) (fun (u : Cs) (t : State) => va_P D vwCl (wC cI cZ g u) t.heap) (Aw (wC cI cZ g x))) 0 0 (Aw (wC cI cZ g x)) := by
  refine Met.ofW (cc := b_C_writeDown) (maxL := 4) (ret := none) (by decide) rfl ?_
  intro p e s m args below meth c s₁ B hml hv
  obtain ⟨rfl, hP, hK, hD0⟩ := hv
  have hx := B.exec
  have hb := B.bytes
  have hr := B.returns
  have htb : ∀ w ∈ tbW, w.before _ s = true := fun w h => atoms_spec (ws := w_C_writeDown) B.pre w (List.mem_cons_of_mem _ h)
  have hown : s.vm.findClass R_C = some m.cls := findClass_of_methodNamed B.named
  have hlocks := B.notSynchronized
  have hD : va_D (Aw (wC cI cZ g x)) (wC cI cZ g x) := ⟨hD0.1, fun k q hk => ⟨k, q.2, hk⟩⟩
  have hS : va_S (Aw (wC cI cZ g x)) s.heap s.heap [] := va_S.rf
  have hl := lv_entry ([.ref g.1.1, .int p0, .int p1]) (n := 4) (Nat.le_of_ble_eq_true rfl)
  rw [lg_entry_eq]
  generalize (lg_sl ([.ref g.1.1, .int p0, .int p1]) ++ List.replicate (4 - (lg_sl ([.ref g.1.1, .int p0, .int p1])).length) Slot.unset).toArray = ls at hl ⊢
  have hl : lv_has ls 4 [(0, .ref g.1.1), (1, .int p0), (2, .int p1)] := hl
  have hF := M_C_writeDown_eq g x p0 p1
  refine lv_aload_n hx hb d_C_writeDown_0 rfl (lv_at hl 0 rfl) ?_
  refine va_get (D := D) (ci := 2) (v := .ref g.2.2.2.2.1.1.1) (C := R_C) (T := T_C) (N := 10) hx hb htb i_C hown hK hP 0 rfl rfl 3 (by decide) (htb _ k_C_31) (fun _ h9 => h9) rfl d_C_writeDown_1 ?_
  refine lv_iconst (v := 0) hx hb d_C_writeDown_4 (by decide) ?_
  refine lv_iload_n hx hb d_C_writeDown_5 rfl (lv_at hl 1 rfl) ?_
  refine cpi (As := [.int (0 : Int32), .int p0]) (rest := []) ⟨hx, hb, hml, hown, htb⟩ (c_B_find l D cI cZ g.2.2.2.2.1 hg.2.2.1 x.2.2.1 (0 : Int32) p0) (cwv (n := 2) htb cd_B_find k_C_72 in_B_find se_B_find ini_B hd_B_find ⟨Nat.le_of_ble_eq_true rfl, Nat.le_of_ble_eq_true rfl⟩) hK hP [7, 8, 9, 10, 11, 12] rfl (ci := 0) rfl rfl rfl hl.1 rfl (Nat.le_of_ble_eq_true rfl) d_C_writeDown_6 ⟨Nat.zero_le _, Nat.zero_le _⟩ (fun r_6 hw_6 => ?_)
  have hF := hF.trans (bnd_eq hw_6)
  refine lv_istore_n (lv' := [(3, .int r_6), (0, .ref g.1.1), (1, .int p0), (2, .int p1)]) hx hb d_C_writeDown_9 rfl hl (by decide) rfl (fun ls hl => ?_)
  refine lv_iload_n hx hb d_C_writeDown_10 rfl (lv_at hl 0 rfl) ?_
  refine lv_iconst (v := -1) hx hb d_C_writeDown_11 (by decide) ?_
  refine lv_icmp_ne (tgt := 27) hx hb d_C_writeDown_12 (by decide) (fun c_12 => ?_) (fun c_12 => ?_)
  · have hF := hF.trans (if_neg c_12)
    refine lv_aload_n hx hb d_C_writeDown_27 rfl (lv_at hl 1 rfl) ?_
    refine va_get (D := D) (ci := 2) (v := .ref g.2.2.2.2.1.1.1) (C := R_C) (T := T_C) (N := 10) hx hb htb i_C hown hK hP 0 rfl rfl 3 (by decide) (htb _ k_C_31) (fun _ h9 => h9) rfl d_C_writeDown_28 ?_
    refine lv_iload_n hx hb d_C_writeDown_31 rfl (lv_at hl 0 rfl) ?_
    refine lv_iload_n hx hb d_C_writeDown_32 rfl (lv_at hl 3 rfl) ?_
    refine cwv_ (As := [.int r_6, .int p1]) (rest := []) (wldC := fun u => (wC cI cZ g (x.1, x.2.1, u, x.2.2.2.1, x.2.2.2.2.1, x.2.2.2.2.2))) ⟨hx, hb, hml, hown, htb⟩ (c_B_rewrite l D cI cZ g.2.2.2.2.1 hg.2.2.1 x.2.2.1 r_6 p1) (cwv (n := 2) htb cd_B_rewrite k_C_164 in_B_rewrite se_B_rewrite ini_B hd_B_rewrite ⟨Nat.le_of_ble_eq_true rfl, Nat.le_of_ble_eq_true rfl⟩) hK hP hD hS [7, 8, 9, 10, 11, 12] [0, 1, 2, 3, 4, 5, 6, 13, 14, 15, 16, 17, 18] [0, 1, 2, 3, 4, 5, 6, 13, 14, 15, 16, 17, 18, 7, 8, 9, 10, 11, 12] rfl rfl (by decide) (by decide) rfl (fun _ => rfl) (fun _ => rfl) (ci := 0) rfl rfl rfl hl.1 rfl (Nat.le_of_ble_eq_true rfl) d_C_writeDown_33 ⟨Nat.zero_le _, Nat.zero_le _⟩ (fun u_33 H locs hw_33 hP hD hS => ?_)
    have hP : va_P D vwCl (wC cI cZ g (x.1, x.2.1, u_33, x.2.2.2.1, x.2.2.2.2.1, x.2.2.2.2.2)) H := hP
    have hD : va_D _ (wC cI cZ g (x.1, x.2.1, u_33, x.2.2.2.1, x.2.2.2.2.1, x.2.2.2.2.2)) := hD
    have hF := hF.trans (bnd_eq hw_33)
    exact W.vret hx hb hr (fun t ht hW => ⟨⟨(x.1, x.2.1, u_33, x.2.2.2.1, x.2.2.2.2.1, x.2.2.2.2.2), rfl, hF.symm, by dsimp only; rw [ht]; exact hP⟩, hS.F ht⟩) hS.2.2 d_C_writeDown_36
  · have hF := hF.trans (if_pos c_12)
    refine lv_aload_n hx hb d_C_writeDown_15 rfl (lv_at hl 1 rfl) ?_
    refine va_get (D := D) (ci := 2) (v := .ref g.2.2.2.2.2.1.1) (C := R_C) (T := T_C) (N := 10) hx hb htb i_C hown hK hP 0 rfl rfl 4 (by decide) (htb _ k_C_37) (fun _ h9 => h9) rfl d_C_writeDown_16 ?_
    refine lv_iload_n hx hb d_C_writeDown_19 rfl (lv_at hl 2 rfl) ?_
    refine lv_iload_n hx hb d_C_writeDown_20 rfl (lv_at hl 3 rfl) ?_
    refine cwv_ (As := [.int p0, .int p1]) (rest := []) (wldC := fun u => (wC cI cZ g (x.1, x.2.1, x.2.2.1, u, x.2.2.2.2.1, x.2.2.2.2.2))) ⟨hx, hb, hml, hown, htb⟩ (c_V_writeBack l D cI cZ g.2.2.2.2.2 hg.2.2.2 x.2.2.2.1 p0 p1) (cwv (n := 2) htb cd_V_writeBack k_C_110 in_V_writeBack se_V_writeBack ini_V hd_V_writeBack ⟨Nat.le_of_ble_eq_true rfl, Nat.le_of_ble_eq_true rfl⟩) hK hP hD hS [13, 14, 15, 16] [0, 1, 2, 3, 4, 5, 6, 7, 8, 9, 10, 11, 12, 17, 18] [0, 1, 2, 3, 4, 5, 6, 7, 8, 9, 10, 11, 12, 15, 16, 17, 18, 13, 14] rfl rfl (by decide) (by decide) rfl (fun _ => rfl) (fun _ => rfl) (ci := 1) rfl rfl rfl hl.1 rfl (Nat.le_of_ble_eq_true rfl) d_C_writeDown_21 ⟨Nat.zero_le _, Nat.zero_le _⟩ (fun u_21 H locs hw_21 hP hD hS => ?_)
    have hP : va_P D vwCl (wC cI cZ g (x.1, x.2.1, x.2.2.1, u_21, x.2.2.2.2.1, x.2.2.2.2.2)) H := hP
    have hD : va_D _ (wC cI cZ g (x.1, x.2.1, x.2.2.1, u_21, x.2.2.2.2.1, x.2.2.2.2.2)) := hD
    have hF := hF.trans (bnd_eq hw_21)
    refine lv_goto (tgt := 36) hx hb d_C_writeDown_24 (by decide) ?_
    exact W.vret hx hb hr (fun t ht hW => ⟨⟨(x.1, x.2.1, x.2.2.1, u_21, x.2.2.2.2.1, x.2.2.2.2.2), rfl, hF.symm, by dsimp only; rw [ht]; exact hP⟩, hS.F ht⟩) hS.2.2 d_C_writeDown_36

def M_C_handOver (g : GC) (x : Cs) (p0 : Int32) : Cs := (bnd (M_C_writtenInFirst g x p0) (fun r_2 => (if r_2 = (-1 : Int32) then x else (bnd (M_B_clean g.2.2.2.1 x.2.1 r_2) (fun u_26 => (bnd (M_B_versionAt g.2.2.2.1 u_26 r_2) (fun r_36 => (bnd (M_C_writeDown g ((x.1.1, x.1.2.1, (x.1.2.2 + (1 : Int32))), u_26, x.2.2.1, x.2.2.2.1, x.2.2.2.2.1, x.2.2.2.2.2) p0 r_36) (fun u_39 => u_39)))))))))
theorem M_C_handOver_eq (g : GC) (x : Cs) (p0 : Int32) : M_C_handOver g x p0 = (bnd (M_C_writtenInFirst g x p0) (fun r_2 => (if r_2 = (-1 : Int32) then x else (bnd (M_B_clean g.2.2.2.1 x.2.1 r_2) (fun u_26 => (bnd (M_B_versionAt g.2.2.2.1 u_26 r_2) (fun r_36 => (bnd (M_C_writeDown g ((x.1.1, x.1.2.1, (x.1.2.2 + (1 : Int32))), u_26, x.2.2.1, x.2.2.2.1, x.2.2.2.2.1, x.2.2.2.2.2) p0 r_36) (fun u_39 => u_39))))))))) := rfl
abbrev w_C_handOver : List Cond := .code y_C_handOver b_C_handOver 3 none :: tbW
abbrev rm_C_handOver : Room := { frames := 4, cells := 0, slots := 0, locals := 91 }
set_option maxHeartbeats 4000000 in
set_option maxRecDepth 100000 in
theorem c_C_handOver (l : Launch) (D : va_G) (cI cZ : ClassId) (g : GC) (hg : okC g) (x : Cs) (p0 : Int32) : Met l y_C_handOver w_C_handOver rm_C_handOver (PcW D vwCl (tyK cI cZ) [.ref g.1.1, .int p0] (wC cI cZ g x)) (va_Qv (fun (u : Cs) => u = M_C_handOver g x p0) (fun (u : Cs) (t : State) => va_P D vwCl (wC cI cZ g u) t.heap) (Aw (wC cI cZ g x))) 0 0 (Aw (wC cI cZ g x)) := by
  refine Met.ofW (cc := b_C_handOver) (maxL := 3) (ret := none) (by decide) rfl ?_
  intro p e s m args below meth c s₁ B hml hv
  obtain ⟨rfl, hP, hK, hD0⟩ := hv
  have hx := B.exec
  have hb := B.bytes
  have hr := B.returns
  have htb : ∀ w ∈ tbW, w.before _ s = true := fun w h => atoms_spec (ws := w_C_handOver) B.pre w (List.mem_cons_of_mem _ h)
  have hown : s.vm.findClass R_C = some m.cls := findClass_of_methodNamed B.named
  have hlocks := B.notSynchronized
  have hD : va_D (Aw (wC cI cZ g x)) (wC cI cZ g x) := ⟨hD0.1, fun k q hk => ⟨k, q.2, hk⟩⟩
  have hS : va_S (Aw (wC cI cZ g x)) s.heap s.heap [] := va_S.rf
  have hl := lv_entry ([.ref g.1.1, .int p0]) (n := 3) (Nat.le_of_ble_eq_true rfl)
  rw [lg_entry_eq]
  generalize (lg_sl ([.ref g.1.1, .int p0]) ++ List.replicate (3 - (lg_sl ([.ref g.1.1, .int p0])).length) Slot.unset).toArray = ls at hl ⊢
  have hl : lv_has ls 3 [(0, .ref g.1.1), (1, .int p0)] := hl
  have hF := M_C_handOver_eq g x p0
  refine lv_aload_n hx hb d_C_handOver_0 rfl (lv_at hl 0 rfl) ?_
  refine lv_iload_n hx hb d_C_handOver_1 rfl (lv_at hl 1 rfl) ?_
  refine cpi (As := [.int p0]) (rest := []) ⟨hx, hb, hml, hown, htb⟩ (c_C_writtenInFirst l D cI cZ g hg x p0) (cwv (n := 1) htb cd_C_writtenInFirst k_C_104 in_C_writtenInFirst se_C_writtenInFirst ini_C hd_C_writtenInFirst ⟨Nat.le_of_ble_eq_true rfl, Nat.le_of_ble_eq_true rfl⟩) hK hP [0, 1, 2, 3, 4, 5, 6, 7, 8, 9, 10, 11, 12, 13, 14, 15, 16, 17, 18] rfl (ci := 2) rfl rfl rfl hl.1 rfl (Nat.le_of_ble_eq_true rfl) d_C_handOver_2 ⟨Nat.zero_le _, Nat.zero_le _⟩ (fun r_2 hw_2 => ?_)
  have hF := hF.trans (bnd_eq hw_2)
  refine lv_istore_n (lv' := [(2, .int r_2), (0, .ref g.1.1), (1, .int p0)]) hx hb d_C_handOver_5 rfl hl (by decide) rfl (fun ls hl => ?_)
  refine lv_iload_n hx hb d_C_handOver_6 rfl (lv_at hl 0 rfl) ?_
  refine lv_iconst (v := -1) hx hb d_C_handOver_7 (by decide) ?_
  refine lv_icmp_eq (tgt := 42) hx hb d_C_handOver_8 (by decide) (fun c_8 => ?_) (fun c_8 => ?_)
  · have hF := hF.trans (if_pos c_8)
    exact W.vret hx hb hr (fun t ht hW => ⟨⟨x, rfl, hF.symm, by dsimp only; rw [ht]; exact hP⟩, hS.F ht⟩) hS.2.2 d_C_handOver_42
  · have hF := hF.trans (if_neg c_8)
    refine lv_aload_n hx hb d_C_handOver_11 rfl (lv_at hl 1 rfl) ?_
    refine lv_dup hx hb d_C_handOver_12 rfl ?_
    refine va_get (D := D) (ci := 2) (v := .int x.1.2.2) (C := R_C) (T := T_C) (N := 10) hx hb htb i_C hown hK hP 0 rfl rfl 9 (by decide) (htb _ k_C_54) (fun _ h9 => h9) rfl d_C_handOver_13 ?_
    refine lv_iconst (v := 1) hx hb d_C_handOver_16 (by decide) ?_
    refine lv_iadd hx hb d_C_handOver_17 ?_
    refine va_put (D := D) (ci := 2) (v := .int (x.1.2.2 + (1 : Int32))) (ty := .int) (C := R_C) (T := T_C) (N := 10) hx hb htb i_C ty_C tyo_C nm_C hown hK hP hD hS 0 rfl rfl 9 (by decide) (htb _ k_C_54) (fun _ h9 => h9) rfl (by decide +kernel) rfl rfl (Nat.le_of_ble_eq_true rfl) d_C_handOver_18 (fun H locs hP hD hS => ?_)
    have hP : va_P D vwCl (wC cI cZ g ((x.1.1, x.1.2.1, (x.1.2.2 + (1 : Int32))), x.2.1, x.2.2.1, x.2.2.2.1, x.2.2.2.2.1, x.2.2.2.2.2)) H := hP
    have hD : va_D _ (wC cI cZ g ((x.1.1, x.1.2.1, (x.1.2.2 + (1 : Int32))), x.2.1, x.2.2.1, x.2.2.2.1, x.2.2.2.2.1, x.2.2.2.2.2)) := hD
    refine lv_aload_n hx hb d_C_handOver_21 rfl (lv_at hl 1 rfl) ?_
    refine va_get (D := D) (ci := 2) (v := .ref g.2.2.2.1.1.1) (C := R_C) (T := T_C) (N := 10) hx hb htb i_C hown hK hP 0 rfl rfl 2 (by decide) (htb _ k_C_27) (fun _ h9 => h9) rfl d_C_handOver_22 ?_
    refine lv_iload_n hx hb d_C_handOver_25 rfl (lv_at hl 0 rfl) ?_
    refine cwv_ (As := [.int r_2]) (rest := []) (wldC := fun u => (wC cI cZ g ((x.1.1, x.1.2.1, (x.1.2.2 + (1 : Int32))), u, x.2.2.1, x.2.2.2.1, x.2.2.2.2.1, x.2.2.2.2.2))) ⟨hx, hb, hml, hown, htb⟩ (c_B_clean l D cI cZ g.2.2.2.1 hg.2.1 x.2.1 r_2) (cwv (n := 1) htb cd_B_clean k_C_158 in_B_clean se_B_clean ini_B hd_B_clean ⟨Nat.le_of_ble_eq_true rfl, Nat.le_of_ble_eq_true rfl⟩) hK hP hD hS [1, 2, 3, 4, 5, 6] [0, 7, 8, 9, 10, 11, 12, 13, 14, 15, 16, 17, 18] [0, 13, 14, 15, 16, 17, 18, 1, 2, 3, 4, 5, 6, 7, 8, 9, 10, 11, 12] rfl rfl (by decide) (by decide) rfl (fun _ => rfl) (fun _ => rfl) (ci := 0) rfl rfl rfl hl.1 rfl (Nat.le_of_ble_eq_true rfl) d_C_handOver_26 ⟨Nat.zero_le _, Nat.zero_le _⟩ (fun u_26 H locs hw_26 hP hD hS => ?_)
    have hP : va_P D vwCl (wC cI cZ g ((x.1.1, x.1.2.1, (x.1.2.2 + (1 : Int32))), u_26, x.2.2.1, x.2.2.2.1, x.2.2.2.2.1, x.2.2.2.2.2)) H := hP
    have hD : va_D _ (wC cI cZ g ((x.1.1, x.1.2.1, (x.1.2.2 + (1 : Int32))), u_26, x.2.2.1, x.2.2.2.1, x.2.2.2.2.1, x.2.2.2.2.2)) := hD
    have hF := hF.trans (bnd_eq hw_26)
    refine lv_aload_n hx hb d_C_handOver_29 rfl (lv_at hl 1 rfl) ?_
    refine lv_iload_n hx hb d_C_handOver_30 rfl (lv_at hl 2 rfl) ?_
    refine lv_aload_n hx hb d_C_handOver_31 rfl (lv_at hl 1 rfl) ?_
    refine va_get (D := D) (ci := 2) (v := .ref g.2.2.2.1.1.1) (C := R_C) (T := T_C) (N := 10) hx hb htb i_C hown hK hP 0 rfl rfl 2 (by decide) (htb _ k_C_27) (fun _ h9 => h9) rfl d_C_handOver_32 ?_
    refine lv_iload_n hx hb d_C_handOver_35 rfl (lv_at hl 0 rfl) ?_
    refine cpi (As := [.int r_2]) (rest := [.int p0, .ref g.1.1]) ⟨hx, hb, hml, hown, htb⟩ (c_B_versionAt l D cI cZ g.2.2.2.1 hg.2.1 u_26 r_2) (cwv (n := 1) htb cd_B_versionAt k_C_107 in_B_versionAt se_B_versionAt ini_B hd_B_versionAt ⟨Nat.le_of_ble_eq_true rfl, Nat.le_of_ble_eq_true rfl⟩) hK hP [1, 2, 3, 4, 5, 6] rfl (ci := 0) rfl rfl rfl hl.1 rfl (Nat.le_of_ble_eq_true rfl) d_C_handOver_36 ⟨Nat.zero_le _, Nat.zero_le _⟩ (fun r_36 hw_36 => ?_)
    have hF := hF.trans (bnd_eq hw_36)
    refine cwv_ (As := [.int p0, .int r_36]) (rest := []) (wldC := fun u => (wC cI cZ g u)) ⟨hx, hb, hml, hown, htb⟩ (c_C_writeDown l D cI cZ g hg ((x.1.1, x.1.2.1, (x.1.2.2 + (1 : Int32))), u_26, x.2.2.1, x.2.2.2.1, x.2.2.2.2.1, x.2.2.2.2.2) p0 r_36) (cwv (n := 2) htb cd_C_writeDown k_C_161 in_C_writeDown se_C_writeDown ini_C hd_C_writeDown ⟨Nat.le_of_ble_eq_true rfl, Nat.le_of_ble_eq_true rfl⟩) hK hP hD hS [0, 1, 2, 3, 4, 5, 6, 7, 8, 9, 10, 11, 12, 13, 14, 15, 16, 17, 18] [] [0, 1, 2, 3, 4, 5, 6, 7, 8, 9, 10, 11, 12, 13, 14, 15, 16, 17, 18] rfl rfl (by decide) (by decide) rfl (fun _ => rfl) (fun _ => rfl) (ci := 2) rfl rfl rfl hl.1 rfl (Nat.le_of_ble_eq_true rfl) d_C_handOver_39 ⟨Nat.zero_le _, Nat.zero_le _⟩ (fun u_39 H locs hw_39 hP hD hS => ?_)
    have hP : va_P D vwCl (wC cI cZ g u_39) H := hP
    have hD : va_D _ (wC cI cZ g u_39) := hD
    have hF := hF.trans (bnd_eq hw_39)
    exact W.vret hx hb hr (fun t ht hW => ⟨⟨u_39, rfl, hF.symm, by dsimp only; rw [ht]; exact hP⟩, hS.F ht⟩) hS.2.2 d_C_handOver_42

def L_C_leaveSecond_122 (g : GC) (p0 : Int32) (v2 v3 v4 : Int32) (z : Cs) : Cs := (if v4 = 0 then z else (bnd (M_V_writeBack g.2.2.2.2.2 z.2.2.2.1 v2 v3) (fun u_133 => (z.1, z.2.1, z.2.2.1, u_133, z.2.2.2.2.1, z.2.2.2.2.2))))
theorem L_C_leaveSecond_122_eq (g : GC) (p0 : Int32) (v2 v3 v4 : Int32) (z : Cs) : L_C_leaveSecond_122 g p0 v2 v3 v4 z = (if v4 = 0 then z else (bnd (M_V_writeBack g.2.2.2.2.2 z.2.2.2.1 v2 v3) (fun u_133 => (z.1, z.2.1, z.2.2.1, u_133, z.2.2.2.2.1, z.2.2.2.2.2)))) := rfl
def L_C_leaveSecond_39 (g : GC) (p0 : Int32) : Nat → Int32 → Int32 → Int32 → Int32 → Cs → Cs
  | 0, _, _, _, _, z => z
  | n + 1, v2, v3, v4, v5, z => (if g.2.1.2 = (1 : Int32) then (if g.2.1.1 ≤ v5 then L_C_leaveSecond_122 g p0 v2 v3 v4 z else (bnd (M_B_find g.2.2.2.1 z.2.1 v5 v2) (fun r_63 => (bnd (M_B_isWritten g.2.2.2.1 z.2.1 r_63) (fun r_74 => (if r_74 = 0 then (if r_63 = (-1 : Int32) then L_C_leaveSecond_39 g p0 n v2 v3 v4 (v5 + 1) z else (bnd (M_B_drop g.2.2.2.1 z.2.1 r_63) (fun u_105 => (bnd (M_C_tally g (z.1, u_105, z.2.2.1, z.2.2.2.1, z.2.2.2.2.1, z.2.2.2.2.2) v5 (6 : Int32)) (fun u_113 => L_C_leaveSecond_39 g p0 n v2 v3 v4 (v5 + 1) u_113))))) else (bnd (M_B_versionAt g.2.2.2.1 z.2.1 r_63) (fun r_86 => (if r_63 = (-1 : Int32) then L_C_leaveSecond_39 g p0 n v2 r_86 (1 : Int32) (v5 + 1) z else (bnd (M_B_drop g.2.2.2.1 z.2.1 r_63) (fun u_105 => (bnd (M_C_tally g (z.1, u_105, z.2.2.1, z.2.2.2.1, z.2.2.2.2.1, z.2.2.2.2.2) v5 (6 : Int32)) (fun u_113 => L_C_leaveSecond_39 g p0 n v2 r_86 (1 : Int32) (v5 + 1) u_113))))))))))))) else L_C_leaveSecond_122 g p0 v2 v3 v4 z)
theorem L_C_leaveSecond_39_eq (g : GC) (p0 : Int32) (n : Nat) (v2 v3 v4 v5 : Int32) (z : Cs) : L_C_leaveSecond_39 g p0 (n + 1) v2 v3 v4 v5 z = (if g.2.1.2 = (1 : Int32) then (if g.2.1.1 ≤ v5 then L_C_leaveSecond_122 g p0 v2 v3 v4 z else (bnd (M_B_find g.2.2.2.1 z.2.1 v5 v2) (fun r_63 => (bnd (M_B_isWritten g.2.2.2.1 z.2.1 r_63) (fun r_74 => (if r_74 = 0 then (if r_63 = (-1 : Int32) then L_C_leaveSecond_39 g p0 n v2 v3 v4 (v5 + 1) z else (bnd (M_B_drop g.2.2.2.1 z.2.1 r_63) (fun u_105 => (bnd (M_C_tally g (z.1, u_105, z.2.2.1, z.2.2.2.1, z.2.2.2.2.1, z.2.2.2.2.2) v5 (6 : Int32)) (fun u_113 => L_C_leaveSecond_39 g p0 n v2 v3 v4 (v5 + 1) u_113))))) else (bnd (M_B_versionAt g.2.2.2.1 z.2.1 r_63) (fun r_86 => (if r_63 = (-1 : Int32) then L_C_leaveSecond_39 g p0 n v2 r_86 (1 : Int32) (v5 + 1) z else (bnd (M_B_drop g.2.2.2.1 z.2.1 r_63) (fun u_105 => (bnd (M_C_tally g (z.1, u_105, z.2.2.1, z.2.2.2.1, z.2.2.2.2.1, z.2.2.2.2.2) v5 (6 : Int32)) (fun u_113 => L_C_leaveSecond_39 g p0 n v2 r_86 (1 : Int32) (v5 + 1) u_113))))))))))))) else L_C_leaveSecond_122 g p0 v2 v3 v4 z) := by first | rfl | rw [L_C_leaveSecond_39]
def M_C_leaveSecond (g : GC) (x : Cs) (p0 : Int32) : Cs := (bnd (M_B_lineAt g.2.2.2.2.1 x.2.2.1 p0) (fun r_5 => (bnd (M_B_versionAt g.2.2.2.2.1 x.2.2.1 p0) (fun r_14 => (bnd (M_B_isWritten g.2.2.2.2.1 x.2.2.1 p0) (fun r_23 => (bnd (M_B_drop g.2.2.2.2.1 x.2.2.1 p0) (fun u_33 => L_C_leaveSecond_39 g p0 (mu (0 : Int32) g.2.1.1 + 1) r_5 r_14 r_23 (0 : Int32) (x.1, x.2.1, u_33, x.2.2.2.1, x.2.2.2.2.1, x.2.2.2.2.2)))))))))
theorem M_C_leaveSecond_eq (g : GC) (x : Cs) (p0 : Int32) : M_C_leaveSecond g x p0 = (bnd (M_B_lineAt g.2.2.2.2.1 x.2.2.1 p0) (fun r_5 => (bnd (M_B_versionAt g.2.2.2.2.1 x.2.2.1 p0) (fun r_14 => (bnd (M_B_isWritten g.2.2.2.2.1 x.2.2.1 p0) (fun r_23 => (bnd (M_B_drop g.2.2.2.2.1 x.2.2.1 p0) (fun u_33 => L_C_leaveSecond_39 g p0 (mu (0 : Int32) g.2.1.1 + 1) r_5 r_14 r_23 (0 : Int32) (x.1, x.2.1, u_33, x.2.2.2.1, x.2.2.2.2.1, x.2.2.2.2.2))))))))) := rfl
abbrev w_C_leaveSecond : List Cond := .code y_C_leaveSecond b_C_leaveSecond 7 none :: tbW
abbrev rm_C_leaveSecond : Room := { frames := 3, cells := 0, slots := 0, locals := 71 }
set_option maxHeartbeats 4000000 in
set_option maxRecDepth 100000 in
theorem c_C_leaveSecond (l : Launch) (D : va_G) (cI cZ : ClassId) (g : GC) (hg : okC g) (x : Cs) (p0 : Int32) : Met l y_C_leaveSecond w_C_leaveSecond rm_C_leaveSecond (PcW D vwCl (tyK cI cZ) [.ref g.1.1, .int p0] (wC cI cZ g x)) (va_Qv (fun (u : Cs) => u = M_C_leaveSecond g x p0) (fun (u : Cs) (t : State) => va_P D vwCl (wC cI cZ g u) t.heap) (Aw (wC cI cZ g x))) 0 0 (Aw (wC cI cZ g x)) := by
  refine Met.ofW (cc := b_C_leaveSecond) (maxL := 7) (ret := none) (by decide) rfl ?_
  intro p e s m args below meth c s₁ B hml hv
  obtain ⟨rfl, hP, hK, hD0⟩ := hv
  have hx := B.exec
  have hb := B.bytes
  have hr := B.returns
  have htb : ∀ w ∈ tbW, w.before _ s = true := fun w h => atoms_spec (ws := w_C_leaveSecond) B.pre w (List.mem_cons_of_mem _ h)
  have hown : s.vm.findClass R_C = some m.cls := findClass_of_methodNamed B.named
  have hlocks := B.notSynchronized
  have hD : va_D (Aw (wC cI cZ g x)) (wC cI cZ g x) := ⟨hD0.1, fun k q hk => ⟨k, q.2, hk⟩⟩
  have hS : va_S (Aw (wC cI cZ g x)) s.heap s.heap [] := va_S.rf
  have cut_122 : ∀ (v2 v3 v4 : Int32) (z : Cs) (H : Heap) (locs : List Loc) (ls : Array Slot), M_C_leaveSecond g x p0 = L_C_leaveSecond_122 g p0 v2 v3 v4 z → va_P D vwCl (wC cI cZ g z) H → va_D (Aw (wC cI cZ g x)) (wC cI cZ g z) → va_S (Aw (wC cI cZ g x)) s.heap H locs → lv_has ls 7 [(0, .ref g.1.1), (1, .int p0), (2, .int v2), (3, .int v3), (4, .int v4)] → W p l e (headSpec w_C_leaveSecond rm_C_leaveSecond).room s m ([.ref g.1.1, .int p0] : List Value).toArray below meth c H locs 0 0 (MQ below (va_Qv (fun (u : Cs) => u = M_C_leaveSecond g x p0) (fun (u : Cs) (t : State) => va_P D vwCl (wC cI cZ g u) t.heap) (Aw (wC cI cZ g x))) ([.ref g.1.1, .int p0] : List Value).toArray s 0 0 (Aw (wC cI cZ g x))) (F0 m 122 ls []) := by
    intro v2 v3 v4 z H locs ls hF hP hD hS hl
    have hF := hF.trans (L_C_leaveSecond_122_eq g p0 v2 v3 v4 z)
    refine lv_iload hx hb d_C_leaveSecond_122 (lv_at hl 4 rfl) ?_
    refine lv_if_eq (tgt := 136) hx hb d_C_leaveSecond_124 (by decide) (fun c_124 => ?_) (fun c_124 => ?_)
    · have hF := hF.trans (if_pos c_124)
      exact W.vret hx hb hr (fun t ht hW => ⟨⟨z, rfl, hF.symm, by dsimp only; rw [ht]; exact hP⟩, hS.F ht⟩) hS.2.2 d_C_leaveSecond_136
    · have hF := hF.trans (if_neg c_124)
      refine lv_aload_n hx hb d_C_leaveSecond_127 rfl (lv_at hl 0 rfl) ?_
      refine va_get (D := D) (ci := 2) (v := .ref g.2.2.2.2.2.1.1) (C := R_C) (T := T_C) (N := 10) hx hb htb i_C hown hK hP 0 rfl rfl 4 (by decide) (htb _ k_C_37) (fun _ h9 => h9) rfl d_C_leaveSecond_128 ?_
      refine lv_iload_n hx hb d_C_leaveSecond_131 rfl (lv_at hl 2 rfl) ?_
      refine lv_iload_n hx hb d_C_leaveSecond_132 rfl (lv_at hl 3 rfl) ?_
      refine cwv_ (As := [.int v2, .int v3]) (rest := []) (wldC := fun u => (wC cI cZ g (z.1, z.2.1, z.2.2.1, u, z.2.2.2.2.1, z.2.2.2.2.2))) ⟨hx, hb, hml, hown, htb⟩ (c_V_writeBack l D cI cZ g.2.2.2.2.2 hg.2.2.2 z.2.2.2.1 v2 v3) (cwv (n := 2) htb cd_V_writeBack k_C_110 in_V_writeBack se_V_writeBack ini_V hd_V_writeBack ⟨Nat.le_of_ble_eq_true rfl, Nat.le_of_ble_eq_true rfl⟩) hK hP hD hS [13, 14, 15, 16] [0, 1, 2, 3, 4, 5, 6, 7, 8, 9, 10, 11, 12, 17, 18] [0, 1, 2, 3, 4, 5, 6, 7, 8, 9, 10, 11, 12, 15, 16, 17, 18, 13, 14] rfl rfl (by decide) (by decide) rfl (fun _ => rfl) (fun _ => rfl) (ci := 1) rfl rfl rfl hl.1 rfl (Nat.le_of_ble_eq_true rfl) d_C_leaveSecond_133 ⟨Nat.zero_le _, Nat.zero_le _⟩ (fun u_133 H locs hw_133 hP hD hS => ?_)
      have hP : va_P D vwCl (wC cI cZ g (z.1, z.2.1, z.2.2.1, u_133, z.2.2.2.2.1, z.2.2.2.2.2)) H := hP
      have hD : va_D _ (wC cI cZ g (z.1, z.2.1, z.2.2.1, u_133, z.2.2.2.2.1, z.2.2.2.2.2)) := hD
      have hF := hF.trans (bnd_eq hw_133)
      exact W.vret hx hb hr (fun t ht hW => ⟨⟨(z.1, z.2.1, z.2.2.1, u_133, z.2.2.2.2.1, z.2.2.2.2.2), rfl, hF.symm, by dsimp only; rw [ht]; exact hP⟩, hS.F ht⟩) hS.2.2 d_C_leaveSecond_136
  have cut_39 : ∀ (n : Nat) (v2 v3 v4 v5 : Int32) (z : Cs) (H : Heap) (locs : List Loc) (ls : Array Slot), mu v5 g.2.1.1 < n → M_C_leaveSecond g x p0 = L_C_leaveSecond_39 g p0 n v2 v3 v4 v5 z → va_P D vwCl (wC cI cZ g z) H → va_D (Aw (wC cI cZ g x)) (wC cI cZ g z) → va_S (Aw (wC cI cZ g x)) s.heap H locs → lv_has ls 7 [(0, .ref g.1.1), (1, .int p0), (2, .int v2), (3, .int v3), (4, .int v4), (5, .int v5)] → W p l e (headSpec w_C_leaveSecond rm_C_leaveSecond).room s m ([.ref g.1.1, .int p0] : List Value).toArray below meth c H locs 0 0 (MQ below (va_Qv (fun (u : Cs) => u = M_C_leaveSecond g x p0) (fun (u : Cs) (t : State) => va_P D vwCl (wC cI cZ g u) t.heap) (Aw (wC cI cZ g x))) ([.ref g.1.1, .int p0] : List Value).toArray s 0 0 (Aw (wC cI cZ g x))) (F0 m 39 ls []) := by
    intro n
    induction n with
    | zero => intro v2 v3 v4 v5 z H locs ls hm _ _ _ _ _; exact absurd hm (Nat.not_lt_zero _)
    | succ n ih =>
      intro v2 v3 v4 v5 z H locs ls hm hF hP hD hS hl
      have hF := hF.trans (L_C_leaveSecond_39_eq g p0 n v2 v3 v4 v5 z)
      refine lv_aload_n hx hb d_C_leaveSecond_39 rfl (lv_at hl 0 rfl) ?_
      refine va_get (D := D) (ci := 2) (v := .int g.2.1.2) (C := R_C) (T := T_C) (N := 10) hx hb htb i_C hown hK hP 0 rfl rfl 1 (by decide) (htb _ k_C_19) (fun _ h9 => h9) rfl d_C_leaveSecond_40 ?_
      refine lv_iconst (v := 1) hx hb d_C_leaveSecond_43 (by decide) ?_
      refine lv_icmp_ne (tgt := 122) hx hb d_C_leaveSecond_44 (by decide) (fun c_44 => ?_) (fun c_44 => ?_)
      · have hF := hF.trans (if_neg c_44)
        have hl := lv_sub (l' := [(0, .ref g.1.1), (1, .int p0), (2, .int v2), (3, .int v3), (4, .int v4)]) hl [0, 1, 2, 3, 4] rfl
        exact cut_122 v2 v3 v4 z _ _ _ hF hP hD hS hl
      · have hF := hF.trans (if_pos c_44)
        refine lv_iload hx hb d_C_leaveSecond_47 (lv_at hl 5 rfl) ?_
        refine lv_aload_n hx hb d_C_leaveSecond_49 rfl (lv_at hl 0 rfl) ?_
        refine va_get (D := D) (ci := 2) (v := .int g.2.1.1) (C := R_C) (T := T_C) (N := 10) hx hb htb i_C hown hK hP 0 rfl rfl 0 (by decide) (htb _ k_C_15) (fun _ h9 => h9) rfl d_C_leaveSecond_50 ?_
        refine lv_icmp_ge (tgt := 122) hx hb d_C_leaveSecond_53 (by decide) (fun c_53 => ?_) (fun c_53 => ?_)
        · have hF := hF.trans (if_pos c_53)
          have hl := lv_sub (l' := [(0, .ref g.1.1), (1, .int p0), (2, .int v2), (3, .int v3), (4, .int v4)]) hl [0, 1, 2, 3, 4] rfl
          exact cut_122 v2 v3 v4 z _ _ _ hF hP hD hS hl
        · have hF := hF.trans (if_neg c_53)
          refine lv_aload_n hx hb d_C_leaveSecond_56 rfl (lv_at hl 0 rfl) ?_
          refine va_get (D := D) (ci := 2) (v := .ref g.2.2.2.1.1.1) (C := R_C) (T := T_C) (N := 10) hx hb htb i_C hown hK hP 0 rfl rfl 2 (by decide) (htb _ k_C_27) (fun _ h9 => h9) rfl d_C_leaveSecond_57 ?_
          refine lv_iload hx hb d_C_leaveSecond_60 (lv_at hl 5 rfl) ?_
          refine lv_iload_n hx hb d_C_leaveSecond_62 rfl (lv_at hl 2 rfl) ?_
          refine cpi (As := [.int v5, .int v2]) (rest := []) ⟨hx, hb, hml, hown, htb⟩ (c_B_find l D cI cZ g.2.2.2.1 hg.2.1 z.2.1 v5 v2) (cwv (n := 2) htb cd_B_find k_C_72 in_B_find se_B_find ini_B hd_B_find ⟨Nat.le_of_ble_eq_true rfl, Nat.le_of_ble_eq_true rfl⟩) hK hP [1, 2, 3, 4, 5, 6] rfl (ci := 0) rfl rfl rfl hl.1 rfl (Nat.le_of_ble_eq_true rfl) d_C_leaveSecond_63 ⟨Nat.zero_le _, Nat.zero_le _⟩ (fun r_63 hw_63 => ?_)
          have hF := hF.trans (bnd_eq hw_63)
          refine lv_istore (lv' := [(6, .int r_63), (0, .ref g.1.1), (1, .int p0), (2, .int v2), (3, .int v3), (4, .int v4), (5, .int v5)]) hx hb d_C_leaveSecond_66 hl (by decide) rfl (fun ls hl => ?_)
          refine lv_aload_n hx hb d_C_leaveSecond_68 rfl (lv_at hl 1 rfl) ?_
          refine va_get (D := D) (ci := 2) (v := .ref g.2.2.2.1.1.1) (C := R_C) (T := T_C) (N := 10) hx hb htb i_C hown hK hP 0 rfl rfl 2 (by decide) (htb _ k_C_27) (fun _ h9 => h9) rfl d_C_leaveSecond_69 ?_
          refine lv_iload hx hb d_C_leaveSecond_72 (lv_at hl 0 rfl) ?_
          refine cpi (As := [.int r_63]) (rest := []) ⟨hx, hb, hml, hown, htb⟩ (c_B_isWritten l D cI cZ g.2.2.2.1 hg.2.1 z.2.1 r_63) (cwv (n := 1) htb cd_B_isWritten k_C_96 in_B_isWritten se_B_isWritten ini_B hd_B_isWritten ⟨Nat.le_of_ble_eq_true rfl, Nat.le_of_ble_eq_true rfl⟩) hK hP [1, 2, 3, 4, 5, 6] rfl (ci := 0) rfl rfl rfl hl.1 rfl (Nat.le_of_ble_eq_true rfl) d_C_leaveSecond_74 ⟨Nat.zero_le _, Nat.zero_le _⟩ (fun r_74 hw_74 => ?_)
          have hF := hF.trans (bnd_eq hw_74)
          refine lv_if_eq (tgt := 93) hx hb d_C_leaveSecond_77 (by decide) (fun c_77 => ?_) (fun c_77 => ?_)
          · have hF := hF.trans (if_pos c_77)
            refine lv_iload hx hb d_C_leaveSecond_93 (lv_at hl 0 rfl) ?_
            refine lv_iconst (v := -1) hx hb d_C_leaveSecond_95 (by decide) ?_
            refine lv_icmp_eq (tgt := 116) hx hb d_C_leaveSecond_96 (by decide) (fun c_96 => ?_) (fun c_96 => ?_)
            · have hF := hF.trans (if_pos c_96)
              refine lv_iinc (v := (v5 + 1)) (lv' := [(5, .int (v5 + 1)), (6, .int r_63), (0, .ref g.1.1), (1, .int p0), (2, .int v2), (3, .int v3), (4, .int v4)]) hx hb d_C_leaveSecond_116 hl (k := 6) rfl rfl (by decide) rfl (fun ls hl => ?_)
              refine lv_goto (tgt := 39) hx hb d_C_leaveSecond_119 (by decide) ?_
              have hl := lv_sub (l' := [(0, .ref g.1.1), (1, .int p0), (2, .int v2), (3, .int v3), (4, .int v4), (5, .int (v5 + 1))]) hl [2, 3, 4, 5, 6, 0] rfl
              exact ih v2 v3 v4 (v5 + 1) z _ _ _ (Nat.lt_of_lt_of_le (mu_dec c_53) (Nat.le_of_lt_succ hm)) hF hP hD hS hl
            · have hF := hF.trans (if_neg c_96)
              refine lv_aload_n hx hb d_C_leaveSecond_99 rfl (lv_at hl 1 rfl) ?_
              refine va_get (D := D) (ci := 2) (v := .ref g.2.2.2.1.1.1) (C := R_C) (T := T_C) (N := 10) hx hb htb i_C hown hK hP 0 rfl rfl 2 (by decide) (htb _ k_C_27) (fun _ h9 => h9) rfl d_C_leaveSecond_100 ?_
              refine lv_iload hx hb d_C_leaveSecond_103 (lv_at hl 0 rfl) ?_
              refine cwv_ (As := [.int r_63]) (rest := []) (wldC := fun u => (wC cI cZ g (z.1, u, z.2.2.1, z.2.2.2.1, z.2.2.2.2.1, z.2.2.2.2.2))) ⟨hx, hb, hml, hown, htb⟩ (c_B_drop l D cI cZ g.2.2.2.1 hg.2.1 z.2.1 r_63) (cwv (n := 1) htb cd_B_drop k_C_174 in_B_drop se_B_drop ini_B hd_B_drop ⟨Nat.le_of_ble_eq_true rfl, Nat.le_of_ble_eq_true rfl⟩) hK hP hD hS [1, 2, 3, 4, 5, 6] [0, 7, 8, 9, 10, 11, 12, 13, 14, 15, 16, 17, 18] [0, 13, 14, 15, 16, 17, 18, 1, 2, 3, 4, 5, 6, 7, 8, 9, 10, 11, 12] rfl rfl (by decide) (by decide) rfl (fun _ => rfl) (fun _ => rfl) (ci := 0) rfl rfl rfl hl.1 rfl (Nat.le_of_ble_eq_true rfl) d_C_leaveSecond_105 ⟨Nat.zero_le _, Nat.zero_le _⟩ (fun u_105 H locs hw_105 hP hD hS => ?_)
              have hP : va_P D vwCl (wC cI cZ g (z.1, u_105, z.2.2.1, z.2.2.2.1, z.2.2.2.2.1, z.2.2.2.2.2)) H := hP
              have hD : va_D _ (wC cI cZ g (z.1, u_105, z.2.2.1, z.2.2.2.1, z.2.2.2.2.1, z.2.2.2.2.2)) := hD
              have hF := hF.trans (bnd_eq hw_105)
              refine lv_aload_n hx hb d_C_leaveSecond_108 rfl (lv_at hl 1 rfl) ?_
              refine lv_iload hx hb d_C_leaveSecond_109 (lv_at hl 6 rfl) ?_
              refine lv_bipush (v := 6) hx hb d_C_leaveSecond_111 (by decide) ?_
              refine cwv_ (As := [.int v5, .int (6 : Int32)]) (rest := []) (wldC := fun u => (wC cI cZ g u)) ⟨hx, hb, hml, hown, htb⟩ (c_C_tally l D cI cZ g hg (z.1, u_105, z.2.2.1, z.2.2.2.1, z.2.2.2.2.1, z.2.2.2.2.2) v5 (6 : Int32)) (cwv (n := 2) htb cd_C_tally k_C_68 in_C_tally se_C_tally ini_C hd_C_tally ⟨Nat.le_of_ble_eq_true rfl, Nat.le_of_ble_eq_true rfl⟩) hK hP hD hS [0, 1, 2, 3, 4, 5, 6, 7, 8, 9, 10, 11, 12, 13, 14, 15, 16, 17, 18] [] [0, 1, 2, 3, 4, 5, 6, 7, 8, 9, 10, 11, 12, 13, 14, 15, 16, 17, 18] rfl rfl (by decide) (by decide) rfl (fun _ => rfl) (fun _ => rfl) (ci := 2) rfl rfl rfl hl.1 rfl (Nat.le_of_ble_eq_true rfl) d_C_leaveSecond_113 ⟨Nat.zero_le _, Nat.zero_le _⟩ (fun u_113 H locs hw_113 hP hD hS => ?_)
              have hP : va_P D vwCl (wC cI cZ g u_113) H := hP
              have hD : va_D _ (wC cI cZ g u_113) := hD
              have hF := hF.trans (bnd_eq hw_113)
              refine lv_iinc (v := (v5 + 1)) (lv' := [(5, .int (v5 + 1)), (6, .int r_63), (0, .ref g.1.1), (1, .int p0), (2, .int v2), (3, .int v3), (4, .int v4)]) hx hb d_C_leaveSecond_116 hl (k := 6) rfl rfl (by decide) rfl (fun ls hl => ?_)
              refine lv_goto (tgt := 39) hx hb d_C_leaveSecond_119 (by decide) ?_
              have hl := lv_sub (l' := [(0, .ref g.1.1), (1, .int p0), (2, .int v2), (3, .int v3), (4, .int v4), (5, .int (v5 + 1))]) hl [2, 3, 4, 5, 6, 0] rfl
              exact ih v2 v3 v4 (v5 + 1) u_113 _ _ _ (Nat.lt_of_lt_of_le (mu_dec c_53) (Nat.le_of_lt_succ hm)) hF hP hD hS hl
          · have hF := hF.trans (if_neg c_77)
            refine lv_aload_n hx hb d_C_leaveSecond_80 rfl (lv_at hl 1 rfl) ?_
            refine va_get (D := D) (ci := 2) (v := .ref g.2.2.2.1.1.1) (C := R_C) (T := T_C) (N := 10) hx hb htb i_C hown hK hP 0 rfl rfl 2 (by decide) (htb _ k_C_27) (fun _ h9 => h9) rfl d_C_leaveSecond_81 ?_
            refine lv_iload hx hb d_C_leaveSecond_84 (lv_at hl 0 rfl) ?_
            refine cpi (As := [.int r_63]) (rest := []) ⟨hx, hb, hml, hown, htb⟩ (c_B_versionAt l D cI cZ g.2.2.2.1 hg.2.1 z.2.1 r_63) (cwv (n := 1) htb cd_B_versionAt k_C_107 in_B_versionAt se_B_versionAt ini_B hd_B_versionAt ⟨Nat.le_of_ble_eq_true rfl, Nat.le_of_ble_eq_true rfl⟩) hK hP [1, 2, 3, 4, 5, 6] rfl (ci := 0) rfl rfl rfl hl.1 rfl (Nat.le_of_ble_eq_true rfl) d_C_leaveSecond_86 ⟨Nat.zero_le _, Nat.zero_le _⟩ (fun r_86 hw_86 => ?_)
            have hF := hF.trans (bnd_eq hw_86)
            refine lv_istore_n (lv' := [(3, .int r_86), (6, .int r_63), (0, .ref g.1.1), (1, .int p0), (2, .int v2), (4, .int v4), (5, .int v5)]) hx hb d_C_leaveSecond_89 rfl hl (by decide) rfl (fun ls hl => ?_)
            refine lv_iconst (v := 1) hx hb d_C_leaveSecond_90 (by decide) ?_
            refine lv_istore (lv' := [(4, .int (1 : Int32)), (3, .int r_86), (6, .int r_63), (0, .ref g.1.1), (1, .int p0), (2, .int v2), (5, .int v5)]) hx hb d_C_leaveSecond_91 hl (by decide) rfl (fun ls hl => ?_)
            refine lv_iload hx hb d_C_leaveSecond_93 (lv_at hl 2 rfl) ?_
            refine lv_iconst (v := -1) hx hb d_C_leaveSecond_95 (by decide) ?_
            refine lv_icmp_eq (tgt := 116) hx hb d_C_leaveSecond_96 (by decide) (fun c_96 => ?_) (fun c_96 => ?_)
            · have hF := hF.trans (if_pos c_96)
              refine lv_iinc (v := (v5 + 1)) (lv' := [(5, .int (v5 + 1)), (4, .int (1 : Int32)), (3, .int r_86), (6, .int r_63), (0, .ref g.1.1), (1, .int p0), (2, .int v2)]) hx hb d_C_leaveSecond_116 hl (k := 6) rfl rfl (by decide) rfl (fun ls hl => ?_)
              refine lv_goto (tgt := 39) hx hb d_C_leaveSecond_119 (by decide) ?_
              have hl := lv_sub (l' := [(0, .ref g.1.1), (1, .int p0), (2, .int v2), (3, .int r_86), (4, .int (1 : Int32)), (5, .int (v5 + 1))]) hl [4, 5, 6, 2, 1, 0] rfl
              exact ih v2 r_86 (1 : Int32) (v5 + 1) z _ _ _ (Nat.lt_of_lt_of_le (mu_dec c_53) (Nat.le_of_lt_succ hm)) hF hP hD hS hl
            · have hF := hF.trans (if_neg c_96)
              refine lv_aload_n hx hb d_C_leaveSecond_99 rfl (lv_at hl 3 rfl) ?_
              refine va_get (D := D) (ci := 2) (v := .ref g.2.2.2.1.1.1) (C := R_C) (T := T_C) (N := 10) hx hb htb i_C hown hK hP 0 rfl rfl 2 (by decide) (htb _ k_C_27) (fun _ h9 => h9) rfl d_C_leaveSecond_100 ?_
              refine lv_iload hx hb d_C_leaveSecond_103 (lv_at hl 2 rfl) ?_
              refine cwv_ (As := [.int r_63]) (rest := []) (wldC := fun u => (wC cI cZ g (z.1, u, z.2.2.1, z.2.2.2.1, z.2.2.2.2.1, z.2.2.2.2.2))) ⟨hx, hb, hml, hown, htb⟩ (c_B_drop l D cI cZ g.2.2.2.1 hg.2.1 z.2.1 r_63) (cwv (n := 1) htb cd_B_drop k_C_174 in_B_drop se_B_drop ini_B hd_B_drop ⟨Nat.le_of_ble_eq_true rfl, Nat.le_of_ble_eq_true rfl⟩) hK hP hD hS [1, 2, 3, 4, 5, 6] [0, 7, 8, 9, 10, 11, 12, 13, 14, 15, 16, 17, 18] [0, 13, 14, 15, 16, 17, 18, 1, 2, 3, 4, 5, 6, 7, 8, 9, 10, 11, 12] rfl rfl (by decide) (by decide) rfl (fun _ => rfl) (fun _ => rfl) (ci := 0) rfl rfl rfl hl.1 rfl (Nat.le_of_ble_eq_true rfl) d_C_leaveSecond_105 ⟨Nat.zero_le _, Nat.zero_le _⟩ (fun u_105 H locs hw_105 hP hD hS => ?_)
              have hP : va_P D vwCl (wC cI cZ g (z.1, u_105, z.2.2.1, z.2.2.2.1, z.2.2.2.2.1, z.2.2.2.2.2)) H := hP
              have hD : va_D _ (wC cI cZ g (z.1, u_105, z.2.2.1, z.2.2.2.1, z.2.2.2.2.1, z.2.2.2.2.2)) := hD
              have hF := hF.trans (bnd_eq hw_105)
              refine lv_aload_n hx hb d_C_leaveSecond_108 rfl (lv_at hl 3 rfl) ?_
              refine lv_iload hx hb d_C_leaveSecond_109 (lv_at hl 6 rfl) ?_
              refine lv_bipush (v := 6) hx hb d_C_leaveSecond_111 (by decide) ?_
              refine cwv_ (As := [.int v5, .int (6 : Int32)]) (rest := []) (wldC := fun u => (wC cI cZ g u)) ⟨hx, hb, hml, hown, htb⟩ (c_C_tally l D cI cZ g hg (z.1, u_105, z.2.2.1, z.2.2.2.1, z.2.2.2.2.1, z.2.2.2.2.2) v5 (6 : Int32)) (cwv (n := 2) htb cd_C_tally k_C_68 in_C_tally se_C_tally ini_C hd_C_tally ⟨Nat.le_of_ble_eq_true rfl, Nat.le_of_ble_eq_true rfl⟩) hK hP hD hS [0, 1, 2, 3, 4, 5, 6, 7, 8, 9, 10, 11, 12, 13, 14, 15, 16, 17, 18] [] [0, 1, 2, 3, 4, 5, 6, 7, 8, 9, 10, 11, 12, 13, 14, 15, 16, 17, 18] rfl rfl (by decide) (by decide) rfl (fun _ => rfl) (fun _ => rfl) (ci := 2) rfl rfl rfl hl.1 rfl (Nat.le_of_ble_eq_true rfl) d_C_leaveSecond_113 ⟨Nat.zero_le _, Nat.zero_le _⟩ (fun u_113 H locs hw_113 hP hD hS => ?_)
              have hP : va_P D vwCl (wC cI cZ g u_113) H := hP
              have hD : va_D _ (wC cI cZ g u_113) := hD
              have hF := hF.trans (bnd_eq hw_113)
              refine lv_iinc (v := (v5 + 1)) (lv' := [(5, .int (v5 + 1)), (4, .int (1 : Int32)), (3, .int r_86), (6, .int r_63), (0, .ref g.1.1), (1, .int p0), (2, .int v2)]) hx hb d_C_leaveSecond_116 hl (k := 6) rfl rfl (by decide) rfl (fun ls hl => ?_)
              refine lv_goto (tgt := 39) hx hb d_C_leaveSecond_119 (by decide) ?_
              have hl := lv_sub (l' := [(0, .ref g.1.1), (1, .int p0), (2, .int v2), (3, .int r_86), (4, .int (1 : Int32)), (5, .int (v5 + 1))]) hl [4, 5, 6, 2, 1, 0] rfl
              exact ih v2 r_86 (1 : Int32) (v5 + 1) u_113 _ _ _ (Nat.lt_of_lt_of_le (mu_dec c_53) (Nat.le_of_lt_succ hm)) hF hP hD hS hl
  have hl := lv_entry ([.ref g.1.1, .int p0]) (n := 7) (Nat.le_of_ble_eq_true rfl)
  rw [lg_entry_eq]
  generalize (lg_sl ([.ref g.1.1, .int p0]) ++ List.replicate (7 - (lg_sl ([.ref g.1.1, .int p0])).length) Slot.unset).toArray = ls at hl ⊢
  have hl : lv_has ls 7 [(0, .ref g.1.1), (1, .int p0)] := hl
  have hF := M_C_leaveSecond_eq g x p0
  refine lv_aload_n hx hb d_C_leaveSecond_0 rfl (lv_at hl 0 rfl) ?_
  refine va_get (D := D) (ci := 2) (v := .ref g.2.2.2.2.1.1.1) (C := R_C) (T := T_C) (N := 10) hx hb htb i_C hown hK hP 0 rfl rfl 3 (by decide) (htb _ k_C_31) (fun _ h9 => h9) rfl d_C_leaveSecond_1 ?_
  refine lv_iload_n hx hb d_C_leaveSecond_4 rfl (lv_at hl 1 rfl) ?_
  refine cpi (As := [.int p0]) (rest := []) ⟨hx, hb, hml, hown, htb⟩ (c_B_lineAt l D cI cZ g.2.2.2.2.1 hg.2.2.1 x.2.2.1 p0) (cwv (n := 1) htb cd_B_lineAt k_C_100 in_B_lineAt se_B_lineAt ini_B hd_B_lineAt ⟨Nat.le_of_ble_eq_true rfl, Nat.le_of_ble_eq_true rfl⟩) hK hP [7, 8, 9, 10, 11, 12] rfl (ci := 0) rfl rfl rfl hl.1 rfl (Nat.le_of_ble_eq_true rfl) d_C_leaveSecond_5 ⟨Nat.zero_le _, Nat.zero_le _⟩ (fun r_5 hw_5 => ?_)
  have hF := hF.trans (bnd_eq hw_5)
  refine lv_istore_n (lv' := [(2, .int r_5), (0, .ref g.1.1), (1, .int p0)]) hx hb d_C_leaveSecond_8 rfl hl (by decide) rfl (fun ls hl => ?_)
  refine lv_aload_n hx hb d_C_leaveSecond_9 rfl (lv_at hl 1 rfl) ?_
  refine va_get (D := D) (ci := 2) (v := .ref g.2.2.2.2.1.1.1) (C := R_C) (T := T_C) (N := 10) hx hb htb i_C hown hK hP 0 rfl rfl 3 (by decide) (htb _ k_C_31) (fun _ h9 => h9) rfl d_C_leaveSecond_10 ?_
  refine lv_iload_n hx hb d_C_leaveSecond_13 rfl (lv_at hl 2 rfl) ?_
  refine cpi (As := [.int p0]) (rest := []) ⟨hx, hb, hml, hown, htb⟩ (c_B_versionAt l D cI cZ g.2.2.2.2.1 hg.2.2.1 x.2.2.1 p0) (cwv (n := 1) htb cd_B_versionAt k_C_107 in_B_versionAt se_B_versionAt ini_B hd_B_versionAt ⟨Nat.le_of_ble_eq_true rfl, Nat.le_of_ble_eq_true rfl⟩) hK hP [7, 8, 9, 10, 11, 12] rfl (ci := 0) rfl rfl rfl hl.1 rfl (Nat.le_of_ble_eq_true rfl) d_C_leaveSecond_14 ⟨Nat.zero_le _, Nat.zero_le _⟩ (fun r_14 hw_14 => ?_)
  have hF := hF.trans (bnd_eq hw_14)
  refine lv_istore_n (lv' := [(3, .int r_14), (2, .int r_5), (0, .ref g.1.1), (1, .int p0)]) hx hb d_C_leaveSecond_17 rfl hl (by decide) rfl (fun ls hl => ?_)
  refine lv_aload_n hx hb d_C_leaveSecond_18 rfl (lv_at hl 2 rfl) ?_
  refine va_get (D := D) (ci := 2) (v := .ref g.2.2.2.2.1.1.1) (C := R_C) (T := T_C) (N := 10) hx hb htb i_C hown hK hP 0 rfl rfl 3 (by decide) (htb _ k_C_31) (fun _ h9 => h9) rfl d_C_leaveSecond_19 ?_
  refine lv_iload_n hx hb d_C_leaveSecond_22 rfl (lv_at hl 3 rfl) ?_
  refine cpi (As := [.int p0]) (rest := []) ⟨hx, hb, hml, hown, htb⟩ (c_B_isWritten l D cI cZ g.2.2.2.2.1 hg.2.2.1 x.2.2.1 p0) (cwv (n := 1) htb cd_B_isWritten k_C_96 in_B_isWritten se_B_isWritten ini_B hd_B_isWritten ⟨Nat.le_of_ble_eq_true rfl, Nat.le_of_ble_eq_true rfl⟩) hK hP [7, 8, 9, 10, 11, 12] rfl (ci := 0) rfl rfl rfl hl.1 rfl (Nat.le_of_ble_eq_true rfl) d_C_leaveSecond_23 ⟨Nat.zero_le _, Nat.zero_le _⟩ (fun r_23 hw_23 => ?_)
  have hF := hF.trans (bnd_eq hw_23)
  refine lv_istore (lv' := [(4, .int r_23), (3, .int r_14), (2, .int r_5), (0, .ref g.1.1), (1, .int p0)]) hx hb d_C_leaveSecond_26 hl (by decide) rfl (fun ls hl => ?_)
  refine lv_aload_n hx hb d_C_leaveSecond_28 rfl (lv_at hl 3 rfl) ?_
  refine va_get (D := D) (ci := 2) (v := .ref g.2.2.2.2.1.1.1) (C := R_C) (T := T_C) (N := 10) hx hb htb i_C hown hK hP 0 rfl rfl 3 (by decide) (htb _ k_C_31) (fun _ h9 => h9) rfl d_C_leaveSecond_29 ?_
  refine lv_iload_n hx hb d_C_leaveSecond_32 rfl (lv_at hl 4 rfl) ?_
  refine cwv_ (As := [.int p0]) (rest := []) (wldC := fun u => (wC cI cZ g (x.1, x.2.1, u, x.2.2.2.1, x.2.2.2.2.1, x.2.2.2.2.2))) ⟨hx, hb, hml, hown, htb⟩ (c_B_drop l D cI cZ g.2.2.2.2.1 hg.2.2.1 x.2.2.1 p0) (cwv (n := 1) htb cd_B_drop k_C_174 in_B_drop se_B_drop ini_B hd_B_drop ⟨Nat.le_of_ble_eq_true rfl, Nat.le_of_ble_eq_true rfl⟩) hK hP hD hS [7, 8, 9, 10, 11, 12] [0, 1, 2, 3, 4, 5, 6, 13, 14, 15, 16, 17, 18] [0, 1, 2, 3, 4, 5, 6, 13, 14, 15, 16, 17, 18, 7, 8, 9, 10, 11, 12] rfl rfl (by decide) (by decide) rfl (fun _ => rfl) (fun _ => rfl) (ci := 0) rfl rfl rfl hl.1 rfl (Nat.le_of_ble_eq_true rfl) d_C_leaveSecond_33 ⟨Nat.zero_le _, Nat.zero_le _⟩ (fun u_33 H locs hw_33 hP hD hS => ?_)
  have hP : va_P D vwCl (wC cI cZ g (x.1, x.2.1, u_33, x.2.2.2.1, x.2.2.2.2.1, x.2.2.2.2.2)) H := hP
  have hD : va_D _ (wC cI cZ g (x.1, x.2.1, u_33, x.2.2.2.1, x.2.2.2.2.1, x.2.2.2.2.2)) := hD
  have hF := hF.trans (bnd_eq hw_33)
  refine lv_iconst (v := 0) hx hb d_C_leaveSecond_36 (by decide) ?_
  refine lv_istore (lv' := [(5, .int (0 : Int32)), (4, .int r_23), (3, .int r_14), (2, .int r_5), (0, .ref g.1.1), (1, .int p0)]) hx hb d_C_leaveSecond_37 hl (by decide) rfl (fun ls hl => ?_)
  have hl := lv_sub (l' := [(0, .ref g.1.1), (1, .int p0), (2, .int r_5), (3, .int r_14), (4, .int r_23), (5, .int (0 : Int32))]) hl [4, 5, 3, 2, 1, 0] rfl
  exact cut_39 (mu (0 : Int32) g.2.1.1 + 1) r_5 r_14 r_23 (0 : Int32) (x.1, x.2.1, u_33, x.2.2.2.1, x.2.2.2.2.1, x.2.2.2.2.2) _ _ _ (Nat.lt_succ_self _) hF hP hD hS hl

def L_C_comeIntoSecond_113 (g : GC) (p0 p1 p2 p3 : Int32) (v6 : Int32) (z : Cs) : Cs := (bnd (M_B_put g.2.2.2.2.1 z.2.2.1 v6 p1 p2 p3 p0) (fun u_124 => (z.1, z.2.1, u_124, z.2.2.2.1, z.2.2.2.2.1, z.2.2.2.2.2)))
theorem L_C_comeIntoSecond_113_eq (g : GC) (p0 p1 p2 p3 : Int32) (v6 : Int32) (z : Cs) : L_C_comeIntoSecond_113 g p0 p1 p2 p3 v6 z = (bnd (M_B_put g.2.2.2.2.1 z.2.2.1 v6 p1 p2 p3 p0) (fun u_124 => (z.1, z.2.1, u_124, z.2.2.2.1, z.2.2.2.2.1, z.2.2.2.2.2))) := rfl
def L_C_comeIntoSecond_25 (g : GC) (p0 p1 p2 p3 : Int32) (v5 : Int32) (z : Cs) : Cs := (if v5 = 0 then (if p3 = 0 then z else (bnd (M_V_writeBack g.2.2.2.2.2 z.2.2.2.1 p1 p2) (fun u_41 => (z.1, z.2.1, z.2.2.1, u_41, z.2.2.2.2.1, z.2.2.2.2.2)))) else (bnd (M_B_placeOf g.2.2.2.2.1 z.2.2.1 (0 : Int32) p1) (fun r_51 => (bnd (M_B_ownedAt g.2.2.2.2.1 z.2.2.1 r_51 p0) (fun r_63 => (if r_63 < v5 then (bnd (M_B_isFull g.2.2.2.2.1 z.2.2.1 r_51) (fun r_94 => (if r_94 = 0 then L_C_comeIntoSecond_113 g p0 p1 p2 p3 r_51 z else (bnd (M_B_oldest g.2.2.2.2.1 z.2.2.1 r_51) (fun r_107 => (bnd (M_C_leaveSecond g z r_107) (fun u_110 => L_C_comeIntoSecond_113 g p0 p1 p2 p3 r_51 u_110))))))) else (bnd (M_B_oldestOwned g.2.2.2.2.1 z.2.2.1 r_51 p0) (fun r_79 => (bnd (M_C_leaveSecond g z r_79) (fun u_82 => L_C_comeIntoSecond_113 g p0 p1 p2 p3 r_51 u_82))))))))))
theorem L_C_comeIntoSecond_25_eq (g : GC) (p0 p1 p2 p3 : Int32) (v5 : Int32) (z : Cs) : L_C_comeIntoSecond_25 g p0 p1 p2 p3 v5 z = (if v5 = 0 then (if p3 = 0 then z else (bnd (M_V_writeBack g.2.2.2.2.2 z.2.2.2.1 p1 p2) (fun u_41 => (z.1, z.2.1, z.2.2.1, u_41, z.2.2.2.2.1, z.2.2.2.2.2)))) else (bnd (M_B_placeOf g.2.2.2.2.1 z.2.2.1 (0 : Int32) p1) (fun r_51 => (bnd (M_B_ownedAt g.2.2.2.2.1 z.2.2.1 r_51 p0) (fun r_63 => (if r_63 < v5 then (bnd (M_B_isFull g.2.2.2.2.1 z.2.2.1 r_51) (fun r_94 => (if r_94 = 0 then L_C_comeIntoSecond_113 g p0 p1 p2 p3 r_51 z else (bnd (M_B_oldest g.2.2.2.2.1 z.2.2.1 r_51) (fun r_107 => (bnd (M_C_leaveSecond g z r_107) (fun u_110 => L_C_comeIntoSecond_113 g p0 p1 p2 p3 r_51 u_110))))))) else (bnd (M_B_oldestOwned g.2.2.2.2.1 z.2.2.1 r_51 p0) (fun r_79 => (bnd (M_C_leaveSecond g z r_79) (fun u_82 => L_C_comeIntoSecond_113 g p0 p1 p2 p3 r_51 u_82)))))))))) := rfl
def M_C_comeIntoSecond (g : GC) (x : Cs) (p0 p1 p2 p3 : Int32) : Cs := (if p0 < 0 then L_C_comeIntoSecond_25 g p0 p1 p2 p3 (0 : Int32) x else (if (nI g.2.2.1.1) ≤ p0 then L_C_comeIntoSecond_25 g p0 p1 p2 p3 (0 : Int32) x else L_C_comeIntoSecond_25 g p0 p1 p2 p3 (x.2.2.2.2.1 p0.toNatClampNeg) x))
theorem M_C_comeIntoSecond_eq (g : GC) (x : Cs) (p0 p1 p2 p3 : Int32) : M_C_comeIntoSecond g x p0 p1 p2 p3 = (if p0 < 0 then L_C_comeIntoSecond_25 g p0 p1 p2 p3 (0 : Int32) x else (if (nI g.2.2.1.1) ≤ p0 then L_C_comeIntoSecond_25 g p0 p1 p2 p3 (0 : Int32) x else L_C_comeIntoSecond_25 g p0 p1 p2 p3 (x.2.2.2.2.1 p0.toNatClampNeg) x)) := rfl
abbrev w_C_comeIntoSecond : List Cond := .code y_C_comeIntoSecond b_C_comeIntoSecond 7 none :: tbW
abbrev rm_C_comeIntoSecond : Room := { frames := 4, cells := 0, slots := 0, locals := 97 }
set_option maxHeartbeats 4000000 in
set_option maxRecDepth 100000 in
theorem c_C_comeIntoSecond (l : Launch) (D : va_G) (cI cZ : ClassId) (g : GC) (hg : okC g) (x : Cs) (p0 p1 p2 p3 : Int32) : Met l y_C_comeIntoSecond w_C_comeIntoSecond rm_C_comeIntoSecond (PcW D vwCl (tyK cI cZ) [.ref g.1.1, .int p0, .int p1, .int p2, .int p3] (wC cI cZ g x)) (va_Qv (fun (u : Cs) => u = M_C_comeIntoSecond g x p0 p1 p2 p3) (fun (u : Cs) (t : State) => va_P D vwCl (wC cI cZ g u) t.heap) (Aw (wC cI cZ g x))) 0 0 (Aw (wC cI cZ g x)) := by
  refine Met.ofW (cc := b_C_comeIntoSecond) (maxL := 7) (ret := none) (by decide) rfl ?_
  intro p e s m args below meth c s₁ B hml hv
  obtain ⟨rfl, hP, hK, hD0⟩ := hv
  have hx := B.exec
  have hb := B.bytes
  have hr := B.returns
  have htb : ∀ w ∈ tbW, w.before _ s = true := fun w h => atoms_spec (ws := w_C_comeIntoSecond) B.pre w (List.mem_cons_of_mem _ h)
  have hown : s.vm.findClass R_C = some m.cls := findClass_of_methodNamed B.named
  have hlocks := B.notSynchronized
  have hD : va_D (Aw (wC cI cZ g x)) (wC cI cZ g x) := ⟨hD0.1, fun k q hk => ⟨k, q.2, hk⟩⟩
  have hS : va_S (Aw (wC cI cZ g x)) s.heap s.heap [] := va_S.rf
  have cut_113 : ∀ (v6 : Int32) (z : Cs) (H : Heap) (locs : List Loc) (ls : Array Slot), M_C_comeIntoSecond g x p0 p1 p2 p3 = L_C_comeIntoSecond_113 g p0 p1 p2 p3 v6 z → va_P D vwCl (wC cI cZ g z) H → va_D (Aw (wC cI cZ g x)) (wC cI cZ g z) → va_S (Aw (wC cI cZ g x)) s.heap H locs → lv_has ls 7 [(0, .ref g.1.1), (1, .int p0), (2, .int p1), (3, .int p2), (4, .int p3), (6, .int v6)] → W p l e (headSpec w_C_comeIntoSecond rm_C_comeIntoSecond).room s m ([.ref g.1.1, .int p0, .int p1, .int p2, .int p3] : List Value).toArray below meth c H locs 0 0 (MQ below (va_Qv (fun (u : Cs) => u = M_C_comeIntoSecond g x p0 p1 p2 p3) (fun (u : Cs) (t : State) => va_P D vwCl (wC cI cZ g u) t.heap) (Aw (wC cI cZ g x))) ([.ref g.1.1, .int p0, .int p1, .int p2, .int p3] : List Value).toArray s 0 0 (Aw (wC cI cZ g x))) (F0 m 113 ls []) := by
    intro v6 z H locs ls hF hP hD hS hl
    have hF := hF.trans (L_C_comeIntoSecond_113_eq g p0 p1 p2 p3 v6 z)
    refine lv_aload_n hx hb d_C_comeIntoSecond_113 rfl (lv_at hl 0 rfl) ?_
    refine va_get (D := D) (ci := 2) (v := .ref g.2.2.2.2.1.1.1) (C := R_C) (T := T_C) (N := 10) hx hb htb i_C hown hK hP 0 rfl rfl 3 (by decide) (htb _ k_C_31) (fun _ h9 => h9) rfl d_C_comeIntoSecond_114 ?_
    refine lv_iload hx hb d_C_comeIntoSecond_117 (lv_at hl 5 rfl) ?_
    refine lv_iload_n hx hb d_C_comeIntoSecond_119 rfl (lv_at hl 2 rfl) ?_
    refine lv_iload_n hx hb d_C_comeIntoSecond_120 rfl (lv_at hl 3 rfl) ?_
    refine lv_iload hx hb d_C_comeIntoSecond_121 (lv_at hl 4 rfl) ?_
    refine lv_iload_n hx hb d_C_comeIntoSecond_123 rfl (lv_at hl 1 rfl) ?_
    refine cwv_ (As := [.int v6, .int p1, .int p2, .int p3, .int p0]) (rest := []) (wldC := fun u => (wC cI cZ g (z.1, z.2.1, u, z.2.2.2.1, z.2.2.2.2.1, z.2.2.2.2.2))) ⟨hx, hb, hml, hown, htb⟩ (c_B_put l D cI cZ g.2.2.2.2.1 hg.2.2.1 z.2.2.1 v6 p1 p2 p3 p0) (cwv (n := 5) htb cd_B_put k_C_183 in_B_put se_B_put ini_B hd_B_put ⟨Nat.le_of_ble_eq_true rfl, Nat.le_of_ble_eq_true rfl⟩) hK hP hD hS [7, 8, 9, 10, 11, 12] [0, 1, 2, 3, 4, 5, 6, 13, 14, 15, 16, 17, 18] [0, 1, 2, 3, 4, 5, 6, 13, 14, 15, 16, 17, 18, 7, 8, 9, 10, 11, 12] rfl rfl (by decide) (by decide) rfl (fun _ => rfl) (fun _ => rfl) (ci := 0) rfl rfl rfl hl.1 rfl (Nat.le_of_ble_eq_true rfl) d_C_comeIntoSecond_124 ⟨Nat.zero_le _, Nat.zero_le _⟩ (fun u_124 H locs hw_124 hP hD hS => ?_)
    have hP : va_P D vwCl (wC cI cZ g (z.1, z.2.1, u_124, z.2.2.2.1, z.2.2.2.2.1, z.2.2.2.2.2)) H := hP
    have hD : va_D _ (wC cI cZ g (z.1, z.2.1, u_124, z.2.2.2.1, z.2.2.2.2.1, z.2.2.2.2.2)) := hD
    have hF := hF.trans (bnd_eq hw_124)
    exact W.vret hx hb hr (fun t ht hW => ⟨⟨(z.1, z.2.1, u_124, z.2.2.2.1, z.2.2.2.2.1, z.2.2.2.2.2), rfl, hF.symm, by dsimp only; rw [ht]; exact hP⟩, hS.F ht⟩) hS.2.2 d_C_comeIntoSecond_127
  have cut_25 : ∀ (v5 : Int32) (z : Cs) (H : Heap) (locs : List Loc) (ls : Array Slot), M_C_comeIntoSecond g x p0 p1 p2 p3 = L_C_comeIntoSecond_25 g p0 p1 p2 p3 v5 z → va_P D vwCl (wC cI cZ g z) H → va_D (Aw (wC cI cZ g x)) (wC cI cZ g z) → va_S (Aw (wC cI cZ g x)) s.heap H locs → lv_has ls 7 [(0, .ref g.1.1), (1, .int p0), (2, .int p1), (3, .int p2), (4, .int p3), (5, .int v5)] → W p l e (headSpec w_C_comeIntoSecond rm_C_comeIntoSecond).room s m ([.ref g.1.1, .int p0, .int p1, .int p2, .int p3] : List Value).toArray below meth c H locs 0 0 (MQ below (va_Qv (fun (u : Cs) => u = M_C_comeIntoSecond g x p0 p1 p2 p3) (fun (u : Cs) (t : State) => va_P D vwCl (wC cI cZ g u) t.heap) (Aw (wC cI cZ g x))) ([.ref g.1.1, .int p0, .int p1, .int p2, .int p3] : List Value).toArray s 0 0 (Aw (wC cI cZ g x))) (F0 m 25 ls []) := by
    intro v5 z H locs ls hF hP hD hS hl
    have hF := hF.trans (L_C_comeIntoSecond_25_eq g p0 p1 p2 p3 v5 z)
    refine lv_iload hx hb d_C_comeIntoSecond_25 (lv_at hl 5 rfl) ?_
    refine lv_if_ne (tgt := 45) hx hb d_C_comeIntoSecond_27 (by decide) (fun c_27 => ?_) (fun c_27 => ?_)
    · have hF := hF.trans (if_neg c_27)
      refine lv_aload_n hx hb d_C_comeIntoSecond_45 rfl (lv_at hl 0 rfl) ?_
      refine va_get (D := D) (ci := 2) (v := .ref g.2.2.2.2.1.1.1) (C := R_C) (T := T_C) (N := 10) hx hb htb i_C hown hK hP 0 rfl rfl 3 (by decide) (htb _ k_C_31) (fun _ h9 => h9) rfl d_C_comeIntoSecond_46 ?_
      refine lv_iconst (v := 0) hx hb d_C_comeIntoSecond_49 (by decide) ?_
      refine lv_iload_n hx hb d_C_comeIntoSecond_50 rfl (lv_at hl 2 rfl) ?_
      refine cpi (As := [.int (0 : Int32), .int p1]) (rest := []) ⟨hx, hb, hml, hown, htb⟩ (c_B_placeOf l D cI cZ g.2.2.2.2.1 hg.2.2.1 z.2.2.1 (0 : Int32) p1) (cwv (n := 2) htb cd_B_placeOf k_C_180 in_B_placeOf se_B_placeOf ini_B hd_B_placeOf ⟨Nat.le_of_ble_eq_true rfl, Nat.le_of_ble_eq_true rfl⟩) hK hP [7, 8, 9, 10, 11, 12] rfl (ci := 0) rfl rfl rfl hl.1 rfl (Nat.le_of_ble_eq_true rfl) d_C_comeIntoSecond_51 ⟨Nat.zero_le _, Nat.zero_le _⟩ (fun r_51 hw_51 => ?_)
      have hF := hF.trans (bnd_eq hw_51)
      refine lv_istore (lv' := [(6, .int r_51), (0, .ref g.1.1), (1, .int p0), (2, .int p1), (3, .int p2), (4, .int p3), (5, .int v5)]) hx hb d_C_comeIntoSecond_54 hl (by decide) rfl (fun ls hl => ?_)
      refine lv_aload_n hx hb d_C_comeIntoSecond_56 rfl (lv_at hl 1 rfl) ?_
      refine va_get (D := D) (ci := 2) (v := .ref g.2.2.2.2.1.1.1) (C := R_C) (T := T_C) (N := 10) hx hb htb i_C hown hK hP 0 rfl rfl 3 (by decide) (htb _ k_C_31) (fun _ h9 => h9) rfl d_C_comeIntoSecond_57 ?_
      refine lv_iload hx hb d_C_comeIntoSecond_60 (lv_at hl 0 rfl) ?_
      refine lv_iload_n hx hb d_C_comeIntoSecond_62 rfl (lv_at hl 2 rfl) ?_
      refine cpi (As := [.int r_51, .int p0]) (rest := []) ⟨hx, hb, hml, hown, htb⟩ (c_B_ownedAt l D cI cZ g.2.2.2.2.1 hg.2.2.1 z.2.2.1 r_51 p0) (cwv (n := 2) htb cd_B_ownedAt k_C_199 in_B_ownedAt se_B_ownedAt ini_B hd_B_ownedAt ⟨Nat.le_of_ble_eq_true rfl, Nat.le_of_ble_eq_true rfl⟩) hK hP [7, 8, 9, 10, 11, 12] rfl (ci := 0) rfl rfl rfl hl.1 rfl (Nat.le_of_ble_eq_true rfl) d_C_comeIntoSecond_63 ⟨Nat.zero_le _, Nat.zero_le _⟩ (fun r_63 hw_63 => ?_)
      have hF := hF.trans (bnd_eq hw_63)
      refine lv_iload hx hb d_C_comeIntoSecond_66 (lv_at hl 6 rfl) ?_
      refine lv_icmp_lt (tgt := 88) hx hb d_C_comeIntoSecond_68 (by decide) (fun c_68 => ?_) (fun c_68 => ?_)
      · have hF := hF.trans (if_pos c_68)
        refine lv_aload_n hx hb d_C_comeIntoSecond_88 rfl (lv_at hl 1 rfl) ?_
        refine va_get (D := D) (ci := 2) (v := .ref g.2.2.2.2.1.1.1) (C := R_C) (T := T_C) (N := 10) hx hb htb i_C hown hK hP 0 rfl rfl 3 (by decide) (htb _ k_C_31) (fun _ h9 => h9) rfl d_C_comeIntoSecond_89 ?_
        refine lv_iload hx hb d_C_comeIntoSecond_92 (lv_at hl 0 rfl) ?_
        refine cpi (As := [.int r_51]) (rest := []) ⟨hx, hb, hml, hown, htb⟩ (c_B_isFull l D cI cZ g.2.2.2.2.1 hg.2.2.1 z.2.2.1 r_51) (cwv (n := 1) htb cd_B_isFull k_C_190 in_B_isFull se_B_isFull ini_B hd_B_isFull ⟨Nat.le_of_ble_eq_true rfl, Nat.le_of_ble_eq_true rfl⟩) hK hP [7, 8, 9, 10, 11, 12] rfl (ci := 0) rfl rfl rfl hl.1 rfl (Nat.le_of_ble_eq_true rfl) d_C_comeIntoSecond_94 ⟨Nat.zero_le _, Nat.zero_le _⟩ (fun r_94 hw_94 => ?_)
        have hF := hF.trans (bnd_eq hw_94)
        refine lv_if_eq (tgt := 113) hx hb d_C_comeIntoSecond_97 (by decide) (fun c_97 => ?_) (fun c_97 => ?_)
        · have hF := hF.trans (if_pos c_97)
          have hl := lv_sub (l' := [(0, .ref g.1.1), (1, .int p0), (2, .int p1), (3, .int p2), (4, .int p3), (6, .int r_51)]) hl [1, 2, 3, 4, 5, 0] rfl
          exact cut_113 r_51 z _ _ _ hF hP hD hS hl
        · have hF := hF.trans (if_neg c_97)
          refine lv_aload_n hx hb d_C_comeIntoSecond_100 rfl (lv_at hl 1 rfl) ?_
          refine lv_aload_n hx hb d_C_comeIntoSecond_101 rfl (lv_at hl 1 rfl) ?_
          refine va_get (D := D) (ci := 2) (v := .ref g.2.2.2.2.1.1.1) (C := R_C) (T := T_C) (N := 10) hx hb htb i_C hown hK hP 0 rfl rfl 3 (by decide) (htb _ k_C_31) (fun _ h9 => h9) rfl d_C_comeIntoSecond_102 ?_
          refine lv_iload hx hb d_C_comeIntoSecond_105 (lv_at hl 0 rfl) ?_
          refine cpi (As := [.int r_51]) (rest := [.ref g.1.1]) ⟨hx, hb, hml, hown, htb⟩ (c_B_oldest l D cI cZ g.2.2.2.2.1 hg.2.2.1 z.2.2.1 r_51) (cwv (n := 1) htb cd_B_oldest k_C_193 in_B_oldest se_B_oldest ini_B hd_B_oldest ⟨Nat.le_of_ble_eq_true rfl, Nat.le_of_ble_eq_true rfl⟩) hK hP [7, 8, 9, 10, 11, 12] rfl (ci := 0) rfl rfl rfl hl.1 rfl (Nat.le_of_ble_eq_true rfl) d_C_comeIntoSecond_107 ⟨Nat.zero_le _, Nat.zero_le _⟩ (fun r_107 hw_107 => ?_)
          have hF := hF.trans (bnd_eq hw_107)
          refine cwv_ (As := [.int r_107]) (rest := []) (wldC := fun u => (wC cI cZ g u)) ⟨hx, hb, hml, hown, htb⟩ (c_C_leaveSecond l D cI cZ g hg z r_107) (cwv (n := 1) htb cd_C_leaveSecond k_C_205 in_C_leaveSecond se_C_leaveSecond ini_C hd_C_leaveSecond ⟨Nat.le_of_ble_eq_true rfl, Nat.le_of_ble_eq_true rfl⟩) hK hP hD hS [0, 1, 2, 3, 4, 5, 6, 7, 8, 9, 10, 11, 12, 13, 14, 15, 16, 17, 18] [] [0, 1, 2, 3, 4, 5, 6, 7, 8, 9, 10, 11, 12, 13, 14, 15, 16, 17, 18] rfl rfl (by decide) (by decide) rfl (fun _ => rfl) (fun _ => rfl) (ci := 2) rfl rfl rfl hl.1 rfl (Nat.le_of_ble_eq_true rfl) d_C_comeIntoSecond_110 ⟨Nat.zero_le _, Nat.zero_le _⟩ (fun u_110 H locs hw_110 hP hD hS => ?_)
          have hP : va_P D vwCl (wC cI cZ g u_110) H := hP
          have hD : va_D _ (wC cI cZ g u_110) := hD
          have hF := hF.trans (bnd_eq hw_110)
          have hl := lv_sub (l' := [(0, .ref g.1.1), (1, .int p0), (2, .int p1), (3, .int p2), (4, .int p3), (6, .int r_51)]) hl [1, 2, 3, 4, 5, 0] rfl
          exact cut_113 r_51 u_110 _ _ _ hF hP hD hS hl
      · have hF := hF.trans (if_neg c_68)
        refine lv_aload_n hx hb d_C_comeIntoSecond_71 rfl (lv_at hl 1 rfl) ?_
        refine lv_aload_n hx hb d_C_comeIntoSecond_72 rfl (lv_at hl 1 rfl) ?_
        refine va_get (D := D) (ci := 2) (v := .ref g.2.2.2.2.1.1.1) (C := R_C) (T := T_C) (N := 10) hx hb htb i_C hown hK hP 0 rfl rfl 3 (by decide) (htb _ k_C_31) (fun _ h9 => h9) rfl d_C_comeIntoSecond_73 ?_
        refine lv_iload hx hb d_C_comeIntoSecond_76 (lv_at hl 0 rfl) ?_
        refine lv_iload_n hx hb d_C_comeIntoSecond_78 rfl (lv_at hl 2 rfl) ?_
        refine cpi (As := [.int r_51, .int p0]) (rest := [.ref g.1.1]) ⟨hx, hb, hml, hown, htb⟩ (c_B_oldestOwned l D cI cZ g.2.2.2.2.1 hg.2.2.1 z.2.2.1 r_51 p0) (cwv (n := 2) htb cd_B_oldestOwned k_C_202 in_B_oldestOwned se_B_oldestOwned ini_B hd_B_oldestOwned ⟨Nat.le_of_ble_eq_true rfl, Nat.le_of_ble_eq_true rfl⟩) hK hP [7, 8, 9, 10, 11, 12] rfl (ci := 0) rfl rfl rfl hl.1 rfl (Nat.le_of_ble_eq_true rfl) d_C_comeIntoSecond_79 ⟨Nat.zero_le _, Nat.zero_le _⟩ (fun r_79 hw_79 => ?_)
        have hF := hF.trans (bnd_eq hw_79)
        refine cwv_ (As := [.int r_79]) (rest := []) (wldC := fun u => (wC cI cZ g u)) ⟨hx, hb, hml, hown, htb⟩ (c_C_leaveSecond l D cI cZ g hg z r_79) (cwv (n := 1) htb cd_C_leaveSecond k_C_205 in_C_leaveSecond se_C_leaveSecond ini_C hd_C_leaveSecond ⟨Nat.le_of_ble_eq_true rfl, Nat.le_of_ble_eq_true rfl⟩) hK hP hD hS [0, 1, 2, 3, 4, 5, 6, 7, 8, 9, 10, 11, 12, 13, 14, 15, 16, 17, 18] [] [0, 1, 2, 3, 4, 5, 6, 7, 8, 9, 10, 11, 12, 13, 14, 15, 16, 17, 18] rfl rfl (by decide) (by decide) rfl (fun _ => rfl) (fun _ => rfl) (ci := 2) rfl rfl rfl hl.1 rfl (Nat.le_of_ble_eq_true rfl) d_C_comeIntoSecond_82 ⟨Nat.zero_le _, Nat.zero_le _⟩ (fun u_82 H locs hw_82 hP hD hS => ?_)
        have hP : va_P D vwCl (wC cI cZ g u_82) H := hP
        have hD : va_D _ (wC cI cZ g u_82) := hD
        have hF := hF.trans (bnd_eq hw_82)
        refine lv_goto (tgt := 113) hx hb d_C_comeIntoSecond_85 (by decide) ?_
        have hl := lv_sub (l' := [(0, .ref g.1.1), (1, .int p0), (2, .int p1), (3, .int p2), (4, .int p3), (6, .int r_51)]) hl [1, 2, 3, 4, 5, 0] rfl
        exact cut_113 r_51 u_82 _ _ _ hF hP hD hS hl
    · have hF := hF.trans (if_pos c_27)
      refine lv_iload hx hb d_C_comeIntoSecond_30 (lv_at hl 4 rfl) ?_
      refine lv_if_eq (tgt := 44) hx hb d_C_comeIntoSecond_32 (by decide) (fun c_32 => ?_) (fun c_32 => ?_)
      · have hF := hF.trans (if_pos c_32)
        exact W.vret hx hb hr (fun t ht hW => ⟨⟨z, rfl, hF.symm, by dsimp only; rw [ht]; exact hP⟩, hS.F ht⟩) hS.2.2 d_C_comeIntoSecond_44
      · have hF := hF.trans (if_neg c_32)
        refine lv_aload_n hx hb d_C_comeIntoSecond_35 rfl (lv_at hl 0 rfl) ?_
        refine va_get (D := D) (ci := 2) (v := .ref g.2.2.2.2.2.1.1) (C := R_C) (T := T_C) (N := 10) hx hb htb i_C hown hK hP 0 rfl rfl 4 (by decide) (htb _ k_C_37) (fun _ h9 => h9) rfl d_C_comeIntoSecond_36 ?_
        refine lv_iload_n hx hb d_C_comeIntoSecond_39 rfl (lv_at hl 2 rfl) ?_
        refine lv_iload_n hx hb d_C_comeIntoSecond_40 rfl (lv_at hl 3 rfl) ?_
        refine cwv_ (As := [.int p1, .int p2]) (rest := []) (wldC := fun u => (wC cI cZ g (z.1, z.2.1, z.2.2.1, u, z.2.2.2.2.1, z.2.2.2.2.2))) ⟨hx, hb, hml, hown, htb⟩ (c_V_writeBack l D cI cZ g.2.2.2.2.2 hg.2.2.2 z.2.2.2.1 p1 p2) (cwv (n := 2) htb cd_V_writeBack k_C_110 in_V_writeBack se_V_writeBack ini_V hd_V_writeBack ⟨Nat.le_of_ble_eq_true rfl, Nat.le_of_ble_eq_true rfl⟩) hK hP hD hS [13, 14, 15, 16] [0, 1, 2, 3, 4, 5, 6, 7, 8, 9, 10, 11, 12, 17, 18] [0, 1, 2, 3, 4, 5, 6, 7, 8, 9, 10, 11, 12, 15, 16, 17, 18, 13, 14] rfl rfl (by decide) (by decide) rfl (fun _ => rfl) (fun _ => rfl) (ci := 1) rfl rfl rfl hl.1 rfl (Nat.le_of_ble_eq_true rfl) d_C_comeIntoSecond_41 ⟨Nat.zero_le _, Nat.zero_le _⟩ (fun u_41 H locs hw_41 hP hD hS => ?_)
        have hP : va_P D vwCl (wC cI cZ g (z.1, z.2.1, z.2.2.1, u_41, z.2.2.2.2.1, z.2.2.2.2.2)) H := hP
        have hD : va_D _ (wC cI cZ g (z.1, z.2.1, z.2.2.1, u_41, z.2.2.2.2.1, z.2.2.2.2.2)) := hD
        have hF := hF.trans (bnd_eq hw_41)
        exact W.vret hx hb hr (fun t ht hW => ⟨⟨(z.1, z.2.1, z.2.2.1, u_41, z.2.2.2.2.1, z.2.2.2.2.2), rfl, hF.symm, by dsimp only; rw [ht]; exact hP⟩, hS.F ht⟩) hS.2.2 d_C_comeIntoSecond_44
  have hl := lv_entry ([.ref g.1.1, .int p0, .int p1, .int p2, .int p3]) (n := 7) (Nat.le_of_ble_eq_true rfl)
  rw [lg_entry_eq]
  generalize (lg_sl ([.ref g.1.1, .int p0, .int p1, .int p2, .int p3]) ++ List.replicate (7 - (lg_sl ([.ref g.1.1, .int p0, .int p1, .int p2, .int p3])).length) Slot.unset).toArray = ls at hl ⊢
  have hl : lv_has ls 7 [(0, .ref g.1.1), (1, .int p0), (2, .int p1), (3, .int p2), (4, .int p3)] := hl
  have hF := M_C_comeIntoSecond_eq g x p0 p1 p2 p3
  refine lv_iload_n hx hb d_C_comeIntoSecond_0 rfl (lv_at hl 1 rfl) ?_
  refine lv_if_lt (tgt := 22) hx hb d_C_comeIntoSecond_1 (by decide) (fun c_1 => ?_) (fun c_1 => ?_)
  · have hF := hF.trans (if_pos c_1)
    refine lv_iconst (v := 0) hx hb d_C_comeIntoSecond_22 (by decide) ?_
    refine lv_istore (lv' := [(5, .int (0 : Int32)), (0, .ref g.1.1), (1, .int p0), (2, .int p1), (3, .int p2), (4, .int p3)]) hx hb d_C_comeIntoSecond_23 hl (by decide) rfl (fun ls hl => ?_)
    have hl := lv_sub (l' := [(0, .ref g.1.1), (1, .int p0), (2, .int p1), (3, .int p2), (4, .int p3), (5, .int (0 : Int32))]) hl [1, 2, 3, 4, 5, 0] rfl
    exact cut_25 (0 : Int32) x _ _ _ hF hP hD hS hl
  · have hF := hF.trans (if_neg c_1)
    refine lv_iload_n hx hb d_C_comeIntoSecond_4 rfl (lv_at hl 1 rfl) ?_
    refine lv_aload_n hx hb d_C_comeIntoSecond_5 rfl (lv_at hl 0 rfl) ?_
    refine va_get (D := D) (ci := 2) (v := .ref g.1.2.1) (C := R_C) (T := T_C) (N := 10) hx hb htb i_C hown hK hP 0 rfl rfl 5 (by decide) (htb _ k_C_41) (fun _ h9 => h9) rfl d_C_comeIntoSecond_6 ?_
    refine va_alen hx hb hK hP 17 0 rfl rfl (v := nI g.2.2.1.1) rfl d_C_comeIntoSecond_9 ?_
    refine lv_icmp_ge (tgt := 22) hx hb d_C_comeIntoSecond_10 (by decide) (fun c_10 => ?_) (fun c_10 => ?_)
    · have hF := hF.trans (if_pos c_10)
      refine lv_iconst (v := 0) hx hb d_C_comeIntoSecond_22 (by decide) ?_
      refine lv_istore (lv' := [(5, .int (0 : Int32)), (0, .ref g.1.1), (1, .int p0), (2, .int p1), (3, .int p2), (4, .int p3)]) hx hb d_C_comeIntoSecond_23 hl (by decide) rfl (fun ls hl => ?_)
      have hl := lv_sub (l' := [(0, .ref g.1.1), (1, .int p0), (2, .int p1), (3, .int p2), (4, .int p3), (5, .int (0 : Int32))]) hl [1, 2, 3, 4, 5, 0] rfl
      exact cut_25 (0 : Int32) x _ _ _ hF hP hD hS hl
    · have hF := hF.trans (if_neg c_10)
      refine lv_aload_n hx hb d_C_comeIntoSecond_13 rfl (lv_at hl 0 rfl) ?_
      refine va_get (D := D) (ci := 2) (v := .ref g.1.2.1) (C := R_C) (T := T_C) (N := 10) hx hb htb i_C hown hK hP 0 rfl rfl 5 (by decide) (htb _ k_C_41) (fun _ h9 => h9) rfl d_C_comeIntoSecond_14 ?_
      refine lv_iload_n hx hb d_C_comeIntoSecond_17 rfl (lv_at hl 1 rfl) ?_
      refine va_iald hx hb hK hP 17 0 rfl rfl (in_ok hg.1.1 c_1 c_10) d_C_comeIntoSecond_18 ?_
      refine lv_goto (tgt := 23) hx hb d_C_comeIntoSecond_19 (by decide) ?_
      refine lv_istore (lv' := [(5, .int (x.2.2.2.2.1 p0.toNatClampNeg)), (0, .ref g.1.1), (1, .int p0), (2, .int p1), (3, .int p2), (4, .int p3)]) hx hb d_C_comeIntoSecond_23 hl (by decide) rfl (fun ls hl => ?_)
      have hl := lv_sub (l' := [(0, .ref g.1.1), (1, .int p0), (2, .int p1), (3, .int p2), (4, .int p3), (5, .int (x.2.2.2.2.1 p0.toNatClampNeg))]) hl [1, 2, 3, 4, 5, 0] rfl
      exact cut_25 (x.2.2.2.2.1 p0.toNatClampNeg) x _ _ _ hF hP hD hS hl

def L_C_makeRoomInFirst_114 (g : GC) (p0 p1 : Int32) (v5 v6 v7 : Int32) (z : Cs) : Cs := (if v7 = 0 then z else (bnd (M_C_writeDown g z v5 v6) (fun u_124 => u_124)))
theorem L_C_makeRoomInFirst_114_eq (g : GC) (p0 p1 : Int32) (v5 v6 v7 : Int32) (z : Cs) : L_C_makeRoomInFirst_114 g p0 p1 v5 v6 v7 z = (if v7 = 0 then z else (bnd (M_C_writeDown g z v5 v6) (fun u_124 => u_124))) := rfl
def M_C_makeRoomInFirst (g : GC) (x : Cs) (p0 p1 : Int32) : Cs := (bnd (M_B_placeOf g.2.2.2.1 x.2.1 p0 p1) (fun r_6 => (bnd (M_B_isFull g.2.2.2.1 x.2.1 r_6) (fun r_15 => (if r_15 = 0 then x else (bnd (M_B_oldest g.2.2.2.1 x.2.1 r_6) (fun r_27 => (bnd (M_B_lineAt g.2.2.2.1 x.2.1 r_27) (fun r_38 => (bnd (M_B_versionAt g.2.2.2.1 x.2.1 r_27) (fun r_49 => (bnd (M_B_isWritten g.2.2.2.1 x.2.1 r_27) (fun r_60 => (bnd (M_B_drop g.2.2.2.1 x.2.1 r_27) (fun u_71 => (if g.2.1.2 = (2 : Int32) then (bnd (M_C_passesBy g (x.1, u_71, x.2.2.1, x.2.2.2.1, x.2.2.2.2.1, x.2.2.2.2.2) r_38) (fun r_85 => (if r_85 = 0 then (bnd (M_C_directory g (x.1, u_71, x.2.2.1, x.2.2.2.1, x.2.2.2.2.1, x.2.2.2.2.2) r_38) (fun r_94 => (if r_94 = 0 then (bnd (M_C_comeIntoSecond g (x.1, u_71, x.2.2.1, x.2.2.2.1, x.2.2.2.2.1, x.2.2.2.2.2) p0 r_38 r_49 r_60) (fun u_108 => u_108)) else L_C_makeRoomInFirst_114 g p0 p1 r_38 r_49 r_60 (x.1, u_71, x.2.2.1, x.2.2.2.1, x.2.2.2.2.1, x.2.2.2.2.2)))) else L_C_makeRoomInFirst_114 g p0 p1 r_38 r_49 r_60 (x.1, u_71, x.2.2.1, x.2.2.2.1, x.2.2.2.2.1, x.2.2.2.2.2)))) else L_C_makeRoomInFirst_114 g p0 p1 r_38 r_49 r_60 (x.1, u_71, x.2.2.1, x.2.2.2.1, x.2.2.2.2.1, x.2.2.2.2.2)))))))))))))))))
theorem M_C_makeRoomInFirst_eq (g : GC) (x : Cs) (p0 p1 : Int32) : M_C_makeRoomInFirst g x p0 p1 = (bnd (M_B_placeOf g.2.2.2.1 x.2.1 p0 p1) (fun r_6 => (bnd (M_B_isFull g.2.2.2.1 x.2.1 r_6) (fun r_15 => (if r_15 = 0 then x else (bnd (M_B_oldest g.2.2.2.1 x.2.1 r_6) (fun r_27 => (bnd (M_B_lineAt g.2.2.2.1 x.2.1 r_27) (fun r_38 => (bnd (M_B_versionAt g.2.2.2.1 x.2.1 r_27) (fun r_49 => (bnd (M_B_isWritten g.2.2.2.1 x.2.1 r_27) (fun r_60 => (bnd (M_B_drop g.2.2.2.1 x.2.1 r_27) (fun u_71 => (if g.2.1.2 = (2 : Int32) then (bnd (M_C_passesBy g (x.1, u_71, x.2.2.1, x.2.2.2.1, x.2.2.2.2.1, x.2.2.2.2.2) r_38) (fun r_85 => (if r_85 = 0 then (bnd (M_C_directory g (x.1, u_71, x.2.2.1, x.2.2.2.1, x.2.2.2.2.1, x.2.2.2.2.2) r_38) (fun r_94 => (if r_94 = 0 then (bnd (M_C_comeIntoSecond g (x.1, u_71, x.2.2.1, x.2.2.2.1, x.2.2.2.2.1, x.2.2.2.2.2) p0 r_38 r_49 r_60) (fun u_108 => u_108)) else L_C_makeRoomInFirst_114 g p0 p1 r_38 r_49 r_60 (x.1, u_71, x.2.2.1, x.2.2.2.1, x.2.2.2.2.1, x.2.2.2.2.2)))) else L_C_makeRoomInFirst_114 g p0 p1 r_38 r_49 r_60 (x.1, u_71, x.2.2.1, x.2.2.2.1, x.2.2.2.2.1, x.2.2.2.2.2)))) else L_C_makeRoomInFirst_114 g p0 p1 r_38 r_49 r_60 (x.1, u_71, x.2.2.1, x.2.2.2.1, x.2.2.2.2.1, x.2.2.2.2.2))))))))))))))))) := rfl
abbrev w_C_makeRoomInFirst : List Cond := .code y_C_makeRoomInFirst b_C_makeRoomInFirst 8 none :: tbW
abbrev rm_C_makeRoomInFirst : Room := { frames := 5, cells := 0, slots := 0, locals := 123 }
set_option maxHeartbeats 4000000 in
set_option maxRecDepth 100000 in
theorem c_C_makeRoomInFirst (l : Launch) (D : va_G) (cI cZ : ClassId) (g : GC) (hg : okC g) (x : Cs) (p0 p1 : Int32) : Met l y_C_makeRoomInFirst w_C_makeRoomInFirst rm_C_makeRoomInFirst (PcW D vwCl (tyK cI cZ) [.ref g.1.1, .int p0, .int p1] (wC cI cZ g x)) (va_Qv (fun (u : Cs) => u = M_C_makeRoomInFirst g x p0 p1) (fun (u : Cs) (t : State) => va_P D vwCl (wC cI cZ g u) t.heap) (Aw (wC cI cZ g x))) 0 0 (Aw (wC cI cZ g x)) := by
  refine Met.ofW (cc := b_C_makeRoomInFirst) (maxL := 8) (ret := none) (by decide) rfl ?_
  intro p e s m args below meth c s₁ B hml hv
  obtain ⟨rfl, hP, hK, hD0⟩ := hv
  have hx := B.exec
  have hb := B.bytes
  have hr := B.returns
  have htb : ∀ w ∈ tbW, w.before _ s = true := fun w h => atoms_spec (ws := w_C_makeRoomInFirst) B.pre w (List.mem_cons_of_mem _ h)
  have hown : s.vm.findClass R_C = some m.cls := findClass_of_methodNamed B.named
  have hlocks := B.notSynchronized
  have hD : va_D (Aw (wC cI cZ g x)) (wC cI cZ g x) := ⟨hD0.1, fun k q hk => ⟨k, q.2, hk⟩⟩
  have hS : va_S (Aw (wC cI cZ g x)) s.heap s.heap [] := va_S.rf
  have cut_114 : ∀ (v5 v6 v7 : Int32) (z : Cs) (H : Heap) (locs : List Loc) (ls : Array Slot), M_C_makeRoomInFirst g x p0 p1 = L_C_makeRoomInFirst_114 g p0 p1 v5 v6 v7 z → va_P D vwCl (wC cI cZ g z) H → va_D (Aw (wC cI cZ g x)) (wC cI cZ g z) → va_S (Aw (wC cI cZ g x)) s.heap H locs → lv_has ls 8 [(0, .ref g.1.1), (1, .int p0), (2, .int p1), (5, .int v5), (6, .int v6), (7, .int v7)] → W p l e (headSpec w_C_makeRoomInFirst rm_C_makeRoomInFirst).room s m ([.ref g.1.1, .int p0, .int p1] : List Value).toArray below meth c H locs 0 0 (MQ below (va_Qv (fun (u : Cs) => u = M_C_makeRoomInFirst g x p0 p1) (fun (u : Cs) (t : State) => va_P D vwCl (wC cI cZ g u) t.heap) (Aw (wC cI cZ g x))) ([.ref g.1.1, .int p0, .int p1] : List Value).toArray s 0 0 (Aw (wC cI cZ g x))) (F0 m 114 ls []) := by
    intro v5 v6 v7 z H locs ls hF hP hD hS hl
    have hF := hF.trans (L_C_makeRoomInFirst_114_eq g p0 p1 v5 v6 v7 z)
    refine lv_iload hx hb d_C_makeRoomInFirst_114 (lv_at hl 5 rfl) ?_
    refine lv_if_eq (tgt := 127) hx hb d_C_makeRoomInFirst_116 (by decide) (fun c_116 => ?_) (fun c_116 => ?_)
    · have hF := hF.trans (if_pos c_116)
      exact W.vret hx hb hr (fun t ht hW => ⟨⟨z, rfl, hF.symm, by dsimp only; rw [ht]; exact hP⟩, hS.F ht⟩) hS.2.2 d_C_makeRoomInFirst_127
    · have hF := hF.trans (if_neg c_116)
      refine lv_aload_n hx hb d_C_makeRoomInFirst_119 rfl (lv_at hl 0 rfl) ?_
      refine lv_iload hx hb d_C_makeRoomInFirst_120 (lv_at hl 3 rfl) ?_
      refine lv_iload hx hb d_C_makeRoomInFirst_122 (lv_at hl 4 rfl) ?_
      refine cwv_ (As := [.int v5, .int v6]) (rest := []) (wldC := fun u => (wC cI cZ g u)) ⟨hx, hb, hml, hown, htb⟩ (c_C_writeDown l D cI cZ g hg z v5 v6) (cwv (n := 2) htb cd_C_writeDown k_C_161 in_C_writeDown se_C_writeDown ini_C hd_C_writeDown ⟨Nat.le_of_ble_eq_true rfl, Nat.le_of_ble_eq_true rfl⟩) hK hP hD hS [0, 1, 2, 3, 4, 5, 6, 7, 8, 9, 10, 11, 12, 13, 14, 15, 16, 17, 18] [] [0, 1, 2, 3, 4, 5, 6, 7, 8, 9, 10, 11, 12, 13, 14, 15, 16, 17, 18] rfl rfl (by decide) (by decide) rfl (fun _ => rfl) (fun _ => rfl) (ci := 2) rfl rfl rfl hl.1 rfl (Nat.le_of_ble_eq_true rfl) d_C_makeRoomInFirst_124 ⟨Nat.zero_le _, Nat.zero_le _⟩ (fun u_124 H locs hw_124 hP hD hS => ?_)
      have hP : va_P D vwCl (wC cI cZ g u_124) H := hP
      have hD : va_D _ (wC cI cZ g u_124) := hD
      have hF := hF.trans (bnd_eq hw_124)
      exact W.vret hx hb hr (fun t ht hW => ⟨⟨u_124, rfl, hF.symm, by dsimp only; rw [ht]; exact hP⟩, hS.F ht⟩) hS.2.2 d_C_makeRoomInFirst_127
  have hl := lv_entry ([.ref g.1.1, .int p0, .int p1]) (n := 8) (Nat.le_of_ble_eq_true rfl)
  rw [lg_entry_eq]
  generalize (lg_sl ([.ref g.1.1, .int p0, .int p1]) ++ List.replicate (8 - (lg_sl ([.ref g.1.1, .int p0, .int p1])).length) Slot.unset).toArray = ls at hl ⊢
  have hl : lv_has ls 8 [(0, .ref g.1.1), (1, .int p0), (2, .int p1)] := hl
  have hF := M_C_makeRoomInFirst_eq g x p0 p1
  refine lv_aload_n hx hb d_C_makeRoomInFirst_0 rfl (lv_at hl 0 rfl) ?_
  refine va_get (D := D) (ci := 2) (v := .ref g.2.2.2.1.1.1) (C := R_C) (T := T_C) (N := 10) hx hb htb i_C hown hK hP 0 rfl rfl 2 (by decide) (htb _ k_C_27) (fun _ h9 => h9) rfl d_C_makeRoomInFirst_1 ?_
  refine lv_iload_n hx hb d_C_makeRoomInFirst_4 rfl (lv_at hl 1 rfl) ?_
  refine lv_iload_n hx hb d_C_makeRoomInFirst_5 rfl (lv_at hl 2 rfl) ?_
  refine cpi (As := [.int p0, .int p1]) (rest := []) ⟨hx, hb, hml, hown, htb⟩ (c_B_placeOf l D cI cZ g.2.2.2.1 hg.2.1 x.2.1 p0 p1) (cwv (n := 2) htb cd_B_placeOf k_C_180 in_B_placeOf se_B_placeOf ini_B hd_B_placeOf ⟨Nat.le_of_ble_eq_true rfl, Nat.le_of_ble_eq_true rfl⟩) hK hP [1, 2, 3, 4, 5, 6] rfl (ci := 0) rfl rfl rfl hl.1 rfl (Nat.le_of_ble_eq_true rfl) d_C_makeRoomInFirst_6 ⟨Nat.zero_le _, Nat.zero_le _⟩ (fun r_6 hw_6 => ?_)
  have hF := hF.trans (bnd_eq hw_6)
  refine lv_istore_n (lv' := [(3, .int r_6), (0, .ref g.1.1), (1, .int p0), (2, .int p1)]) hx hb d_C_makeRoomInFirst_9 rfl hl (by decide) rfl (fun ls hl => ?_)
  refine lv_aload_n hx hb d_C_makeRoomInFirst_10 rfl (lv_at hl 1 rfl) ?_
  refine va_get (D := D) (ci := 2) (v := .ref g.2.2.2.1.1.1) (C := R_C) (T := T_C) (N := 10) hx hb htb i_C hown hK hP 0 rfl rfl 2 (by decide) (htb _ k_C_27) (fun _ h9 => h9) rfl d_C_makeRoomInFirst_11 ?_
  refine lv_iload_n hx hb d_C_makeRoomInFirst_14 rfl (lv_at hl 0 rfl) ?_
  refine cpi (As := [.int r_6]) (rest := []) ⟨hx, hb, hml, hown, htb⟩ (c_B_isFull l D cI cZ g.2.2.2.1 hg.2.1 x.2.1 r_6) (cwv (n := 1) htb cd_B_isFull k_C_190 in_B_isFull se_B_isFull ini_B hd_B_isFull ⟨Nat.le_of_ble_eq_true rfl, Nat.le_of_ble_eq_true rfl⟩) hK hP [1, 2, 3, 4, 5, 6] rfl (ci := 0) rfl rfl rfl hl.1 rfl (Nat.le_of_ble_eq_true rfl) d_C_makeRoomInFirst_15 ⟨Nat.zero_le _, Nat.zero_le _⟩ (fun r_15 hw_15 => ?_)
  have hF := hF.trans (bnd_eq hw_15)
  refine lv_if_ne (tgt := 22) hx hb d_C_makeRoomInFirst_18 (by decide) (fun c_18 => ?_) (fun c_18 => ?_)
  · have hF := hF.trans (if_neg c_18)
    refine lv_aload_n hx hb d_C_makeRoomInFirst_22 rfl (lv_at hl 1 rfl) ?_
    refine va_get (D := D) (ci := 2) (v := .ref g.2.2.2.1.1.1) (C := R_C) (T := T_C) (N := 10) hx hb htb i_C hown hK hP 0 rfl rfl 2 (by decide) (htb _ k_C_27) (fun _ h9 => h9) rfl d_C_makeRoomInFirst_23 ?_
    refine lv_iload_n hx hb d_C_makeRoomInFirst_26 rfl (lv_at hl 0 rfl) ?_
    refine cpi (As := [.int r_6]) (rest := []) ⟨hx, hb, hml, hown, htb⟩ (c_B_oldest l D cI cZ g.2.2.2.1 hg.2.1 x.2.1 r_6) (cwv (n := 1) htb cd_B_oldest k_C_193 in_B_oldest se_B_oldest ini_B hd_B_oldest ⟨Nat.le_of_ble_eq_true rfl, Nat.le_of_ble_eq_true rfl⟩) hK hP [1, 2, 3, 4, 5, 6] rfl (ci := 0) rfl rfl rfl hl.1 rfl (Nat.le_of_ble_eq_true rfl) d_C_makeRoomInFirst_27 ⟨Nat.zero_le _, Nat.zero_le _⟩ (fun r_27 hw_27 => ?_)
    have hF := hF.trans (bnd_eq hw_27)
    refine lv_istore (lv' := [(4, .int r_27), (3, .int r_6), (0, .ref g.1.1), (1, .int p0), (2, .int p1)]) hx hb d_C_makeRoomInFirst_30 hl (by decide) rfl (fun ls hl => ?_)
    refine lv_aload_n hx hb d_C_makeRoomInFirst_32 rfl (lv_at hl 2 rfl) ?_
    refine va_get (D := D) (ci := 2) (v := .ref g.2.2.2.1.1.1) (C := R_C) (T := T_C) (N := 10) hx hb htb i_C hown hK hP 0 rfl rfl 2 (by decide) (htb _ k_C_27) (fun _ h9 => h9) rfl d_C_makeRoomInFirst_33 ?_
    refine lv_iload hx hb d_C_makeRoomInFirst_36 (lv_at hl 0 rfl) ?_
    refine cpi (As := [.int r_27]) (rest := []) ⟨hx, hb, hml, hown, htb⟩ (c_B_lineAt l D cI cZ g.2.2.2.1 hg.2.1 x.2.1 r_27) (cwv (n := 1) htb cd_B_lineAt k_C_100 in_B_lineAt se_B_lineAt ini_B hd_B_lineAt ⟨Nat.le_of_ble_eq_true rfl, Nat.le_of_ble_eq_true rfl⟩) hK hP [1, 2, 3, 4, 5, 6] rfl (ci := 0) rfl rfl rfl hl.1 rfl (Nat.le_of_ble_eq_true rfl) d_C_makeRoomInFirst_38 ⟨Nat.zero_le _, Nat.zero_le _⟩ (fun r_38 hw_38 => ?_)
    have hF := hF.trans (bnd_eq hw_38)
    refine lv_istore (lv' := [(5, .int r_38), (4, .int r_27), (3, .int r_6), (0, .ref g.1.1), (1, .int p0), (2, .int p1)]) hx hb d_C_makeRoomInFirst_41 hl (by decide) rfl (fun ls hl => ?_)
    refine lv_aload_n hx hb d_C_makeRoomInFirst_43 rfl (lv_at hl 3 rfl) ?_
    refine va_get (D := D) (ci := 2) (v := .ref g.2.2.2.1.1.1) (C := R_C) (T := T_C) (N := 10) hx hb htb i_C hown hK hP 0 rfl rfl 2 (by decide) (htb _ k_C_27) (fun _ h9 => h9) rfl d_C_makeRoomInFirst_44 ?_
    refine lv_iload hx hb d_C_makeRoomInFirst_47 (lv_at hl 1 rfl) ?_
    refine cpi (As := [.int r_27]) (rest := []) ⟨hx, hb, hml, hown, htb⟩ (c_B_versionAt l D cI cZ g.2.2.2.1 hg.2.1 x.2.1 r_27) (cwv (n := 1) htb cd_B_versionAt k_C_107 in_B_versionAt se_B_versionAt ini_B hd_B_versionAt ⟨Nat.le_of_ble_eq_true rfl, Nat.le_of_ble_eq_true rfl⟩) hK hP [1, 2, 3, 4, 5, 6] rfl (ci := 0) rfl rfl rfl hl.1 rfl (Nat.le_of_ble_eq_true rfl) d_C_makeRoomInFirst_49 ⟨Nat.zero_le _, Nat.zero_le _⟩ (fun r_49 hw_49 => ?_)
    have hF := hF.trans (bnd_eq hw_49)
    refine lv_istore (lv' := [(6, .int r_49), (5, .int r_38), (4, .int r_27), (3, .int r_6), (0, .ref g.1.1), (1, .int p0), (2, .int p1)]) hx hb d_C_makeRoomInFirst_52 hl (by decide) rfl (fun ls hl => ?_)
    refine lv_aload_n hx hb d_C_makeRoomInFirst_54 rfl (lv_at hl 4 rfl) ?_
    refine va_get (D := D) (ci := 2) (v := .ref g.2.2.2.1.1.1) (C := R_C) (T := T_C) (N := 10) hx hb htb i_C hown hK hP 0 rfl rfl 2 (by decide) (htb _ k_C_27) (fun _ h9 => h9) rfl d_C_makeRoomInFirst_55 ?_
    refine lv_iload hx hb d_C_makeRoomInFirst_58 (lv_at hl 2 rfl) ?_
    refine cpi (As := [.int r_27]) (rest := []) ⟨hx, hb, hml, hown, htb⟩ (c_B_isWritten l D cI cZ g.2.2.2.1 hg.2.1 x.2.1 r_27) (cwv (n := 1) htb cd_B_isWritten k_C_96 in_B_isWritten se_B_isWritten ini_B hd_B_isWritten ⟨Nat.le_of_ble_eq_true rfl, Nat.le_of_ble_eq_true rfl⟩) hK hP [1, 2, 3, 4, 5, 6] rfl (ci := 0) rfl rfl rfl hl.1 rfl (Nat.le_of_ble_eq_true rfl) d_C_makeRoomInFirst_60 ⟨Nat.zero_le _, Nat.zero_le _⟩ (fun r_60 hw_60 => ?_)
    have hF := hF.trans (bnd_eq hw_60)
    refine lv_istore (lv' := [(7, .int r_60), (6, .int r_49), (5, .int r_38), (4, .int r_27), (3, .int r_6), (0, .ref g.1.1), (1, .int p0), (2, .int p1)]) hx hb d_C_makeRoomInFirst_63 hl (by decide) rfl (fun ls hl => ?_)
    refine lv_aload_n hx hb d_C_makeRoomInFirst_65 rfl (lv_at hl 5 rfl) ?_
    refine va_get (D := D) (ci := 2) (v := .ref g.2.2.2.1.1.1) (C := R_C) (T := T_C) (N := 10) hx hb htb i_C hown hK hP 0 rfl rfl 2 (by decide) (htb _ k_C_27) (fun _ h9 => h9) rfl d_C_makeRoomInFirst_66 ?_
    refine lv_iload hx hb d_C_makeRoomInFirst_69 (lv_at hl 3 rfl) ?_
    refine cwv_ (As := [.int r_27]) (rest := []) (wldC := fun u => (wC cI cZ g (x.1, u, x.2.2.1, x.2.2.2.1, x.2.2.2.2.1, x.2.2.2.2.2))) ⟨hx, hb, hml, hown, htb⟩ (c_B_drop l D cI cZ g.2.2.2.1 hg.2.1 x.2.1 r_27) (cwv (n := 1) htb cd_B_drop k_C_174 in_B_drop se_B_drop ini_B hd_B_drop ⟨Nat.le_of_ble_eq_true rfl, Nat.le_of_ble_eq_true rfl⟩) hK hP hD hS [1, 2, 3, 4, 5, 6] [0, 7, 8, 9, 10, 11, 12, 13, 14, 15, 16, 17, 18] [0, 13, 14, 15, 16, 17, 18, 1, 2, 3, 4, 5, 6, 7, 8, 9, 10, 11, 12] rfl rfl (by decide) (by decide) rfl (fun _ => rfl) (fun _ => rfl) (ci := 0) rfl rfl rfl hl.1 rfl (Nat.le_of_ble_eq_true rfl) d_C_makeRoomInFirst_71 ⟨Nat.zero_le _, Nat.zero_le _⟩ (fun u_71 H locs hw_71 hP hD hS => ?_)
    have hP : va_P D vwCl (wC cI cZ g (x.1, u_71, x.2.2.1, x.2.2.2.1, x.2.2.2.2.1, x.2.2.2.2.2)) H := hP
    have hD : va_D _ (wC cI cZ g (x.1, u_71, x.2.2.1, x.2.2.2.1, x.2.2.2.2.1, x.2.2.2.2.2)) := hD
    have hF := hF.trans (bnd_eq hw_71)
    refine lv_aload_n hx hb d_C_makeRoomInFirst_74 rfl (lv_at hl 5 rfl) ?_
    refine va_get (D := D) (ci := 2) (v := .int g.2.1.2) (C := R_C) (T := T_C) (N := 10) hx hb htb i_C hown hK hP 0 rfl rfl 1 (by decide) (htb _ k_C_19) (fun _ h9 => h9) rfl d_C_makeRoomInFirst_75 ?_
    refine lv_iconst (v := 2) hx hb d_C_makeRoomInFirst_78 (by decide) ?_
    refine lv_icmp_ne (tgt := 114) hx hb d_C_makeRoomInFirst_79 (by decide) (fun c_79 => ?_) (fun c_79 => ?_)
    · have hF := hF.trans (if_neg c_79)
      have hl := lv_sub (l' := [(0, .ref g.1.1), (1, .int p0), (2, .int p1), (5, .int r_38), (6, .int r_49), (7, .int r_60)]) hl [5, 6, 7, 2, 1, 0] rfl
      exact cut_114 r_38 r_49 r_60 (x.1, u_71, x.2.2.1, x.2.2.2.1, x.2.2.2.2.1, x.2.2.2.2.2) _ _ _ hF hP hD hS hl
    · have hF := hF.trans (if_pos c_79)
      refine lv_aload_n hx hb d_C_makeRoomInFirst_82 rfl (lv_at hl 5 rfl) ?_
      refine lv_iload hx hb d_C_makeRoomInFirst_83 (lv_at hl 2 rfl) ?_
      refine cpi (As := [.int r_38]) (rest := []) ⟨hx, hb, hml, hown, htb⟩ (c_C_passesBy l D cI cZ g hg (x.1, u_71, x.2.2.1, x.2.2.2.1, x.2.2.2.2.1, x.2.2.2.2.2) r_38) (cwv (n := 1) htb cd_C_passesBy k_C_167 in_C_passesBy se_C_passesBy ini_C hd_C_passesBy ⟨Nat.le_of_ble_eq_true rfl, Nat.le_of_ble_eq_true rfl⟩) hK hP [0, 1, 2, 3, 4, 5, 6, 7, 8, 9, 10, 11, 12, 13, 14, 15, 16, 17, 18] rfl (ci := 2) rfl rfl rfl hl.1 rfl (Nat.le_of_ble_eq_true rfl) d_C_makeRoomInFirst_85 ⟨Nat.zero_le _, Nat.zero_le _⟩ (fun r_85 hw_85 => ?_)
      have hF := hF.trans (bnd_eq hw_85)
      refine lv_if_ne (tgt := 114) hx hb d_C_makeRoomInFirst_88 (by decide) (fun c_88 => ?_) (fun c_88 => ?_)
      · have hF := hF.trans (if_neg c_88)
        have hl := lv_sub (l' := [(0, .ref g.1.1), (1, .int p0), (2, .int p1), (5, .int r_38), (6, .int r_49), (7, .int r_60)]) hl [5, 6, 7, 2, 1, 0] rfl
        exact cut_114 r_38 r_49 r_60 (x.1, u_71, x.2.2.1, x.2.2.2.1, x.2.2.2.2.1, x.2.2.2.2.2) _ _ _ hF hP hD hS hl
      · have hF := hF.trans (if_pos c_88)
        refine lv_aload_n hx hb d_C_makeRoomInFirst_91 rfl (lv_at hl 5 rfl) ?_
        refine lv_iload hx hb d_C_makeRoomInFirst_92 (lv_at hl 2 rfl) ?_
        refine cpi (As := [.int r_38]) (rest := []) ⟨hx, hb, hml, hown, htb⟩ (c_C_directory l D cI cZ g hg (x.1, u_71, x.2.2.1, x.2.2.2.1, x.2.2.2.2.1, x.2.2.2.2.2) r_38) (cwv (n := 1) htb cd_C_directory k_C_196 in_C_directory se_C_directory ini_C hd_C_directory ⟨Nat.le_of_ble_eq_true rfl, Nat.le_of_ble_eq_true rfl⟩) hK hP [0, 1, 2, 3, 4, 5, 6, 7, 8, 9, 10, 11, 12, 13, 14, 15, 16, 17, 18] rfl (ci := 2) rfl rfl rfl hl.1 rfl (Nat.le_of_ble_eq_true rfl) d_C_makeRoomInFirst_94 ⟨Nat.zero_le _, Nat.zero_le _⟩ (fun r_94 hw_94 => ?_)
        have hF := hF.trans (bnd_eq hw_94)
        refine lv_if_ne (tgt := 114) hx hb d_C_makeRoomInFirst_97 (by decide) (fun c_97 => ?_) (fun c_97 => ?_)
        · have hF := hF.trans (if_neg c_97)
          have hl := lv_sub (l' := [(0, .ref g.1.1), (1, .int p0), (2, .int p1), (5, .int r_38), (6, .int r_49), (7, .int r_60)]) hl [5, 6, 7, 2, 1, 0] rfl
          exact cut_114 r_38 r_49 r_60 (x.1, u_71, x.2.2.1, x.2.2.2.1, x.2.2.2.2.1, x.2.2.2.2.2) _ _ _ hF hP hD hS hl
        · have hF := hF.trans (if_pos c_97)
          refine lv_aload_n hx hb d_C_makeRoomInFirst_100 rfl (lv_at hl 5 rfl) ?_
          refine lv_iload_n hx hb d_C_makeRoomInFirst_101 rfl (lv_at hl 6 rfl) ?_
          refine lv_iload hx hb d_C_makeRoomInFirst_102 (lv_at hl 2 rfl) ?_
          refine lv_iload hx hb d_C_makeRoomInFirst_104 (lv_at hl 1 rfl) ?_
          refine lv_iload hx hb d_C_makeRoomInFirst_106 (lv_at hl 0 rfl) ?_
          refine cwv_ (As := [.int p0, .int r_38, .int r_49, .int r_60]) (rest := []) (wldC := fun u => (wC cI cZ g u)) ⟨hx, hb, hml, hown, htb⟩ (c_C_comeIntoSecond l D cI cZ g hg (x.1, u_71, x.2.2.1, x.2.2.2.1, x.2.2.2.2.1, x.2.2.2.2.2) p0 r_38 r_49 r_60) (cwv (n := 4) htb cd_C_comeIntoSecond k_C_170 in_C_comeIntoSecond se_C_comeIntoSecond ini_C hd_C_comeIntoSecond ⟨Nat.le_of_ble_eq_true rfl, Nat.le_of_ble_eq_true rfl⟩) hK hP hD hS [0, 1, 2, 3, 4, 5, 6, 7, 8, 9, 10, 11, 12, 13, 14, 15, 16, 17, 18] [] [0, 1, 2, 3, 4, 5, 6, 7, 8, 9, 10, 11, 12, 13, 14, 15, 16, 17, 18] rfl rfl (by decide) (by decide) rfl (fun _ => rfl) (fun _ => rfl) (ci := 2) rfl rfl rfl hl.1 rfl (Nat.le_of_ble_eq_true rfl) d_C_makeRoomInFirst_108 ⟨Nat.zero_le _, Nat.zero_le _⟩ (fun u_108 H locs hw_108 hP hD hS => ?_)
          have hP : va_P D vwCl (wC cI cZ g u_108) H := hP
          have hD : va_D _ (wC cI cZ g u_108) := hD
          have hF := hF.trans (bnd_eq hw_108)
          refine lv_goto (tgt := 127) hx hb d_C_makeRoomInFirst_111 (by decide) ?_
          exact W.vret hx hb hr (fun t ht hW => ⟨⟨u_108, rfl, hF.symm, by dsimp only; rw [ht]; exact hP⟩, hS.F ht⟩) hS.2.2 d_C_makeRoomInFirst_127
  · have hF := hF.trans (if_pos c_18)
    exact W.vret hx hb hr (fun t ht hW => ⟨⟨x, rfl, hF.symm, by dsimp only; rw [ht]; exact hP⟩, hS.F ht⟩) hS.2.2 d_C_makeRoomInFirst_21

def L_C_bring_158 (g : GC) (p0 p1 : Int32) (v3 : Int32) (z : Cs) : Int32 × Cs := (if v3 = (-1 : Int32) then (bnd (M_C_tally g z p0 (3 : Int32)) (fun u_170 => (if v3 = (-1 : Int32) then ((3 : Int32), u_170) else ((2 : Int32), u_170)))) else (bnd (M_C_tally g z p0 (2 : Int32)) (fun u_170 => (if v3 = (-1 : Int32) then ((3 : Int32), u_170) else ((2 : Int32), u_170)))))
theorem L_C_bring_158_eq (g : GC) (p0 p1 : Int32) (v3 : Int32) (z : Cs) : L_C_bring_158 g p0 p1 v3 z = (if v3 = (-1 : Int32) then (bnd (M_C_tally g z p0 (3 : Int32)) (fun u_170 => (if v3 = (-1 : Int32) then ((3 : Int32), u_170) else ((2 : Int32), u_170)))) else (bnd (M_C_tally g z p0 (2 : Int32)) (fun u_170 => (if v3 = (-1 : Int32) then ((3 : Int32), u_170) else ((2 : Int32), u_170))))) := rfl
def L_C_bring_130 (g : GC) (p0 p1 : Int32) (v3 v4 v5 : Int32) (z : Cs) : Int32 × Cs := (bnd (M_C_makeRoomInFirst g z p0 p1) (fun u_133 => (bnd (M_B_placeOf g.2.2.2.1 u_133.2.1 p0 p1) (fun r_146 => (bnd (M_B_put g.2.2.2.1 u_133.2.1 r_146 p1 v4 v5 p0) (fun u_155 => L_C_bring_158 g p0 p1 v3 (u_133.1, u_155, u_133.2.2.1, u_133.2.2.2.1, u_133.2.2.2.2.1, u_133.2.2.2.2.2)))))))
theorem L_C_bring_130_eq (g : GC) (p0 p1 : Int32) (v3 v4 v5 : Int32) (z : Cs) : L_C_bring_130 g p0 p1 v3 v4 v5 z = (bnd (M_C_makeRoomInFirst g z p0 p1) (fun u_133 => (bnd (M_B_placeOf g.2.2.2.1 u_133.2.1 p0 p1) (fun r_146 => (bnd (M_B_put g.2.2.2.1 u_133.2.1 r_146 p1 v4 v5 p0) (fun u_155 => L_C_bring_158 g p0 p1 v3 (u_133.1, u_155, u_133.2.2.1, u_133.2.2.2.1, u_133.2.2.2.2.1, u_133.2.2.2.2.2))))))) := rfl
def L_C_bring_109 (g : GC) (p0 p1 : Int32) (v3 v4 v5 : Int32) (z : Cs) : Int32 × Cs := (if g.2.1.2 = (1 : Int32) then (bnd (M_B_find g.2.2.2.2.1 z.2.2.1 (0 : Int32) p1) (fun r_123 => (if r_123 = (-1 : Int32) then L_C_bring_158 g p0 p1 v3 z else L_C_bring_130 g p0 p1 v3 v4 v5 z))) else L_C_bring_130 g p0 p1 v3 v4 v5 z)
theorem L_C_bring_109_eq (g : GC) (p0 p1 : Int32) (v3 v4 v5 : Int32) (z : Cs) : L_C_bring_109 g p0 p1 v3 v4 v5 z = (if g.2.1.2 = (1 : Int32) then (bnd (M_B_find g.2.2.2.2.1 z.2.2.1 (0 : Int32) p1) (fun r_123 => (if r_123 = (-1 : Int32) then L_C_bring_158 g p0 p1 v3 z else L_C_bring_130 g p0 p1 v3 v4 v5 z))) else L_C_bring_130 g p0 p1 v3 v4 v5 z) := rfl
def L_C_bring_36 (g : GC) (p0 p1 : Int32) (v3 v4 : Int32) (z : Cs) : Int32 × Cs := (if v3 = (-1 : Int32) then (if g.2.1.2 = (2 : Int32) then L_C_bring_109 g p0 p1 v3 v4 (0 : Int32) z else (bnd (M_C_passesBy g z p1) (fun r_54 => (if r_54 = 0 then (bnd (M_C_comeIntoSecond g z p0 p1 v4 (0 : Int32)) (fun u_66 => L_C_bring_109 g p0 p1 v3 v4 (0 : Int32) u_66)) else L_C_bring_109 g p0 p1 v3 v4 (0 : Int32) z)))) else (if g.2.1.2 = (2 : Int32) then (bnd (M_B_isWritten g.2.2.2.2.1 z.2.2.1 v3) (fun r_85 => (bnd (M_B_drop g.2.2.2.2.1 z.2.2.1 v3) (fun u_95 => L_C_bring_109 g p0 p1 v3 v4 r_85 (z.1, z.2.1, u_95, z.2.2.2.1, z.2.2.2.2.1, z.2.2.2.2.2))))) else (bnd (M_B_useLast g.2.2.2.2.1 z.2.2.1 v3) (fun u_106 => L_C_bring_109 g p0 p1 v3 v4 (0 : Int32) (z.1, z.2.1, u_106, z.2.2.2.1, z.2.2.2.2.1, z.2.2.2.2.2)))))
theorem L_C_bring_36_eq (g : GC) (p0 p1 : Int32) (v3 v4 : Int32) (z : Cs) : L_C_bring_36 g p0 p1 v3 v4 z = (if v3 = (-1 : Int32) then (if g.2.1.2 = (2 : Int32) then L_C_bring_109 g p0 p1 v3 v4 (0 : Int32) z else (bnd (M_C_passesBy g z p1) (fun r_54 => (if r_54 = 0 then (bnd (M_C_comeIntoSecond g z p0 p1 v4 (0 : Int32)) (fun u_66 => L_C_bring_109 g p0 p1 v3 v4 (0 : Int32) u_66)) else L_C_bring_109 g p0 p1 v3 v4 (0 : Int32) z)))) else (if g.2.1.2 = (2 : Int32) then (bnd (M_B_isWritten g.2.2.2.2.1 z.2.2.1 v3) (fun r_85 => (bnd (M_B_drop g.2.2.2.2.1 z.2.2.1 v3) (fun u_95 => L_C_bring_109 g p0 p1 v3 v4 r_85 (z.1, z.2.1, u_95, z.2.2.2.1, z.2.2.2.2.1, z.2.2.2.2.2))))) else (bnd (M_B_useLast g.2.2.2.2.1 z.2.2.1 v3) (fun u_106 => L_C_bring_109 g p0 p1 v3 v4 (0 : Int32) (z.1, z.2.1, u_106, z.2.2.2.1, z.2.2.2.2.1, z.2.2.2.2.2))))) := rfl
def M_C_bring (g : GC) (x : Cs) (p0 p1 : Int32) : Int32 × Cs := (bnd (M_B_find g.2.2.2.2.1 x.2.2.1 (0 : Int32) p1) (fun r_6 => (if r_6 = (-1 : Int32) then (bnd (M_V_inMemory g.2.2.2.2.2 x.2.2.2.1 p1) (fun r_31 => L_C_bring_36 g p0 p1 r_6 r_31 x)) else (bnd (M_B_versionAt g.2.2.2.2.1 x.2.2.1 r_6) (fun r_20 => L_C_bring_36 g p0 p1 r_6 r_20 x)))))
theorem M_C_bring_eq (g : GC) (x : Cs) (p0 p1 : Int32) : M_C_bring g x p0 p1 = (bnd (M_B_find g.2.2.2.2.1 x.2.2.1 (0 : Int32) p1) (fun r_6 => (if r_6 = (-1 : Int32) then (bnd (M_V_inMemory g.2.2.2.2.2 x.2.2.2.1 p1) (fun r_31 => L_C_bring_36 g p0 p1 r_6 r_31 x)) else (bnd (M_B_versionAt g.2.2.2.2.1 x.2.2.1 r_6) (fun r_20 => L_C_bring_36 g p0 p1 r_6 r_20 x))))) := rfl
abbrev w_C_bring : List Cond := .code y_C_bring b_C_bring 6 (some .int) :: tbW
abbrev rm_C_bring : Room := { frames := 6, cells := 0, slots := 0, locals := 150 }
set_option maxHeartbeats 4000000 in
set_option maxRecDepth 100000 in
theorem c_C_bring (l : Launch) (D : va_G) (cI cZ : ClassId) (g : GC) (hg : okC g) (x : Cs) (p0 p1 : Int32) : Met l y_C_bring w_C_bring rm_C_bring (PcW D vwCl (tyK cI cZ) [.ref g.1.1, .int p0, .int p1] (wC cI cZ g x)) (va_Qi (fun (r : Int32) (u : Cs) => (r, u) = M_C_bring g x p0 p1) (fun (u : Cs) (t : State) => va_P D vwCl (wC cI cZ g u) t.heap) (Aw (wC cI cZ g x))) 0 0 (Aw (wC cI cZ g x)) := by
  refine Met.ofW (cc := b_C_bring) (maxL := 6) (ret := (some .int)) (by decide) rfl ?_
  intro p e s m args below meth c s₁ B hml hv
  obtain ⟨rfl, hP, hK, hD0⟩ := hv
  have hx := B.exec
  have hb := B.bytes
  have hr := B.returns
  have htb : ∀ w ∈ tbW, w.before _ s = true := fun w h => atoms_spec (ws := w_C_bring) B.pre w (List.mem_cons_of_mem _ h)
  have hown : s.vm.findClass R_C = some m.cls := findClass_of_methodNamed B.named
  have hlocks := B.notSynchronized
  have hD : va_D (Aw (wC cI cZ g x)) (wC cI cZ g x) := ⟨hD0.1, fun k q hk => ⟨k, q.2, hk⟩⟩
  have hS : va_S (Aw (wC cI cZ g x)) s.heap s.heap [] := va_S.rf
  have cut_158 : ∀ (v3 : Int32) (z : Cs) (H : Heap) (locs : List Loc) (ls : Array Slot), M_C_bring g x p0 p1 = L_C_bring_158 g p0 p1 v3 z → va_P D vwCl (wC cI cZ g z) H → va_D (Aw (wC cI cZ g x)) (wC cI cZ g z) → va_S (Aw (wC cI cZ g x)) s.heap H locs → lv_has ls 6 [(0, .ref g.1.1), (1, .int p0), (2, .int p1), (3, .int v3)] → W p l e (headSpec w_C_bring rm_C_bring).room s m ([.ref g.1.1, .int p0, .int p1] : List Value).toArray below meth c H locs 0 0 (MQ below (va_Qi (fun (r : Int32) (u : Cs) => (r, u) = M_C_bring g x p0 p1) (fun (u : Cs) (t : State) => va_P D vwCl (wC cI cZ g u) t.heap) (Aw (wC cI cZ g x))) ([.ref g.1.1, .int p0, .int p1] : List Value).toArray s 0 0 (Aw (wC cI cZ g x))) (F0 m 158 ls []) := by
    intro v3 z H locs ls hF hP hD hS hl
    have hF := hF.trans (L_C_bring_158_eq g p0 p1 v3 z)
    refine lv_aload_n hx hb d_C_bring_158 rfl (lv_at hl 0 rfl) ?_
    refine lv_iload_n hx hb d_C_bring_159 rfl (lv_at hl 1 rfl) ?_
    refine lv_iload_n hx hb d_C_bring_160 rfl (lv_at hl 3 rfl) ?_
    refine lv_iconst (v := -1) hx hb d_C_bring_161 (by decide) ?_
    refine lv_icmp_eq (tgt := 169) hx hb d_C_bring_162 (by decide) (fun c_162 => ?_) (fun c_162 => ?_)
    · have hF := hF.trans (if_pos c_162)
      refine lv_iconst (v := 3) hx hb d_C_bring_169 (by decide) ?_
      refine cwv_ (As := [.int p0, .int (3 : Int32)]) (rest := []) (wldC := fun u => (wC cI cZ g u)) ⟨hx, hb, hml, hown, htb⟩ (c_C_tally l D cI cZ g hg z p0 (3 : Int32)) (cwv (n := 2) htb cd_C_tally k_C_68 in_C_tally se_C_tally ini_C hd_C_tally ⟨Nat.le_of_ble_eq_true rfl, Nat.le_of_ble_eq_true rfl⟩) hK hP hD hS [0, 1, 2, 3, 4, 5, 6, 7, 8, 9, 10, 11, 12, 13, 14, 15, 16, 17, 18] [] [0, 1, 2, 3, 4, 5, 6, 7, 8, 9, 10, 11, 12, 13, 14, 15, 16, 17, 18] rfl rfl (by decide) (by decide) rfl (fun _ => rfl) (fun _ => rfl) (ci := 2) rfl rfl rfl hl.1 rfl (Nat.le_of_ble_eq_true rfl) d_C_bring_170 ⟨Nat.zero_le _, Nat.zero_le _⟩ (fun u_170 H locs hw_170 hP hD hS => ?_)
      have hP : va_P D vwCl (wC cI cZ g u_170) H := hP
      have hD : va_D _ (wC cI cZ g u_170) := hD
      have hF := hF.trans (bnd_eq hw_170)
      refine lv_iload_n hx hb d_C_bring_173 rfl (lv_at hl 3 rfl) ?_
      refine lv_iconst (v := -1) hx hb d_C_bring_174 (by decide) ?_
      refine lv_icmp_eq (tgt := 182) hx hb d_C_bring_175 (by decide) (fun c_175 => ?_) (fun c_175 => ?_)
      · have hF := hF.trans (if_pos c_175)
        refine lv_iconst (v := 3) hx hb d_C_bring_182 (by decide) ?_
        exact W.iret (v := (3 : Int32)) hx hb hr (fun t ht hW => ⟨⟨(3 : Int32), u_170, rfl, hF.symm, by dsimp only; rw [ht]; exact hP⟩, hS.F ht⟩) hS.2.2 d_C_bring_183
      · have hF := hF.trans (if_neg c_175)
        refine lv_iconst (v := 2) hx hb d_C_bring_178 (by decide) ?_
        refine lv_goto (tgt := 183) hx hb d_C_bring_179 (by decide) ?_
        exact W.iret (v := (2 : Int32)) hx hb hr (fun t ht hW => ⟨⟨(2 : Int32), u_170, rfl, hF.symm, by dsimp only; rw [ht]; exact hP⟩, hS.F ht⟩) hS.2.2 d_C_bring_183
    · have hF := hF.trans (if_neg c_162)
      refine lv_iconst (v := 2) hx hb d_C_bring_165 (by decide) ?_
      refine lv_goto (tgt := 170) hx hb d_C_bring_166 (by decide) ?_
      refine cwv_ (As := [.int p0, .int (2 : Int32)]) (rest := []) (wldC := fun u => (wC cI cZ g u)) ⟨hx, hb, hml, hown, htb⟩ (c_C_tally l D cI cZ g hg z p0 (2 : Int32)) (cwv (n := 2) htb cd_C_tally k_C_68 in_C_tally se_C_tally ini_C hd_C_tally ⟨Nat.le_of_ble_eq_true rfl, Nat.le_of_ble_eq_true rfl⟩) hK hP hD hS [0, 1, 2, 3, 4, 5, 6, 7, 8, 9, 10, 11, 12, 13, 14, 15, 16, 17, 18] [] [0, 1, 2, 3, 4, 5, 6, 7, 8, 9, 10, 11, 12, 13, 14, 15, 16, 17, 18] rfl rfl (by decide) (by decide) rfl (fun _ => rfl) (fun _ => rfl) (ci := 2) rfl rfl rfl hl.1 rfl (Nat.le_of_ble_eq_true rfl) d_C_bring_170 ⟨Nat.zero_le _, Nat.zero_le _⟩ (fun u_170 H locs hw_170 hP hD hS => ?_)
      have hP : va_P D vwCl (wC cI cZ g u_170) H := hP
      have hD : va_D _ (wC cI cZ g u_170) := hD
      have hF := hF.trans (bnd_eq hw_170)
      refine lv_iload_n hx hb d_C_bring_173 rfl (lv_at hl 3 rfl) ?_
      refine lv_iconst (v := -1) hx hb d_C_bring_174 (by decide) ?_
      refine lv_icmp_eq (tgt := 182) hx hb d_C_bring_175 (by decide) (fun c_175 => ?_) (fun c_175 => ?_)
      · have hF := hF.trans (if_pos c_175)
        refine lv_iconst (v := 3) hx hb d_C_bring_182 (by decide) ?_
        exact W.iret (v := (3 : Int32)) hx hb hr (fun t ht hW => ⟨⟨(3 : Int32), u_170, rfl, hF.symm, by dsimp only; rw [ht]; exact hP⟩, hS.F ht⟩) hS.2.2 d_C_bring_183
      · have hF := hF.trans (if_neg c_175)
        refine lv_iconst (v := 2) hx hb d_C_bring_178 (by decide) ?_
        refine lv_goto (tgt := 183) hx hb d_C_bring_179 (by decide) ?_
        exact W.iret (v := (2 : Int32)) hx hb hr (fun t ht hW => ⟨⟨(2 : Int32), u_170, rfl, hF.symm, by dsimp only; rw [ht]; exact hP⟩, hS.F ht⟩) hS.2.2 d_C_bring_183
  have cut_130 : ∀ (v3 v4 v5 : Int32) (z : Cs) (H : Heap) (locs : List Loc) (ls : Array Slot), M_C_bring g x p0 p1 = L_C_bring_130 g p0 p1 v3 v4 v5 z → va_P D vwCl (wC cI cZ g z) H → va_D (Aw (wC cI cZ g x)) (wC cI cZ g z) → va_S (Aw (wC cI cZ g x)) s.heap H locs → lv_has ls 6 [(0, .ref g.1.1), (1, .int p0), (2, .int p1), (3, .int v3), (4, .int v4), (5, .int v5)] → W p l e (headSpec w_C_bring rm_C_bring).room s m ([.ref g.1.1, .int p0, .int p1] : List Value).toArray below meth c H locs 0 0 (MQ below (va_Qi (fun (r : Int32) (u : Cs) => (r, u) = M_C_bring g x p0 p1) (fun (u : Cs) (t : State) => va_P D vwCl (wC cI cZ g u) t.heap) (Aw (wC cI cZ g x))) ([.ref g.1.1, .int p0, .int p1] : List Value).toArray s 0 0 (Aw (wC cI cZ g x))) (F0 m 130 ls []) := by
    intro v3 v4 v5 z H locs ls hF hP hD hS hl
    have hF := hF.trans (L_C_bring_130_eq g p0 p1 v3 v4 v5 z)
    refine lv_aload_n hx hb d_C_bring_130 rfl (lv_at hl 0 rfl) ?_
    refine lv_iload_n hx hb d_C_bring_131 rfl (lv_at hl 1 rfl) ?_
    refine lv_iload_n hx hb d_C_bring_132 rfl (lv_at hl 2 rfl) ?_
    refine cwv_ (As := [.int p0, .int p1]) (rest := []) (wldC := fun u => (wC cI cZ g u)) ⟨hx, hb, hml, hown, htb⟩ (c_C_makeRoomInFirst l D cI cZ g hg z p0 p1) (cwv (n := 2) htb cd_C_makeRoomInFirst k_C_177 in_C_makeRoomInFirst se_C_makeRoomInFirst ini_C hd_C_makeRoomInFirst ⟨Nat.le_of_ble_eq_true rfl, Nat.le_of_ble_eq_true rfl⟩) hK hP hD hS [0, 1, 2, 3, 4, 5, 6, 7, 8, 9, 10, 11, 12, 13, 14, 15, 16, 17, 18] [] [0, 1, 2, 3, 4, 5, 6, 7, 8, 9, 10, 11, 12, 13, 14, 15, 16, 17, 18] rfl rfl (by decide) (by decide) rfl (fun _ => rfl) (fun _ => rfl) (ci := 2) rfl rfl rfl hl.1 rfl (Nat.le_of_ble_eq_true rfl) d_C_bring_133 ⟨Nat.zero_le _, Nat.zero_le _⟩ (fun u_133 H locs hw_133 hP hD hS => ?_)
    have hP : va_P D vwCl (wC cI cZ g u_133) H := hP
    have hD : va_D _ (wC cI cZ g u_133) := hD
    have hF := hF.trans (bnd_eq hw_133)
    refine lv_aload_n hx hb d_C_bring_136 rfl (lv_at hl 0 rfl) ?_
    refine va_get (D := D) (ci := 2) (v := .ref g.2.2.2.1.1.1) (C := R_C) (T := T_C) (N := 10) hx hb htb i_C hown hK hP 0 rfl rfl 2 (by decide) (htb _ k_C_27) (fun _ h9 => h9) rfl d_C_bring_137 ?_
    refine lv_aload_n hx hb d_C_bring_140 rfl (lv_at hl 0 rfl) ?_
    refine va_get (D := D) (ci := 2) (v := .ref g.2.2.2.1.1.1) (C := R_C) (T := T_C) (N := 10) hx hb htb i_C hown hK hP 0 rfl rfl 2 (by decide) (htb _ k_C_27) (fun _ h9 => h9) rfl d_C_bring_141 ?_
    refine lv_iload_n hx hb d_C_bring_144 rfl (lv_at hl 1 rfl) ?_
    refine lv_iload_n hx hb d_C_bring_145 rfl (lv_at hl 2 rfl) ?_
    refine cpi (As := [.int p0, .int p1]) (rest := [.ref g.2.2.2.1.1.1]) ⟨hx, hb, hml, hown, htb⟩ (c_B_placeOf l D cI cZ g.2.2.2.1 hg.2.1 u_133.2.1 p0 p1) (cwv (n := 2) htb cd_B_placeOf k_C_180 in_B_placeOf se_B_placeOf ini_B hd_B_placeOf ⟨Nat.le_of_ble_eq_true rfl, Nat.le_of_ble_eq_true rfl⟩) hK hP [1, 2, 3, 4, 5, 6] rfl (ci := 0) rfl rfl rfl hl.1 rfl (Nat.le_of_ble_eq_true rfl) d_C_bring_146 ⟨Nat.zero_le _, Nat.zero_le _⟩ (fun r_146 hw_146 => ?_)
    have hF := hF.trans (bnd_eq hw_146)
    refine lv_iload_n hx hb d_C_bring_149 rfl (lv_at hl 2 rfl) ?_
    refine lv_iload hx hb d_C_bring_150 (lv_at hl 4 rfl) ?_
    refine lv_iload hx hb d_C_bring_152 (lv_at hl 5 rfl) ?_
    refine lv_iload_n hx hb d_C_bring_154 rfl (lv_at hl 1 rfl) ?_
    refine cwv_ (As := [.int r_146, .int p1, .int v4, .int v5, .int p0]) (rest := []) (wldC := fun u => (wC cI cZ g (u_133.1, u, u_133.2.2.1, u_133.2.2.2.1, u_133.2.2.2.2.1, u_133.2.2.2.2.2))) ⟨hx, hb, hml, hown, htb⟩ (c_B_put l D cI cZ g.2.2.2.1 hg.2.1 u_133.2.1 r_146 p1 v4 v5 p0) (cwv (n := 5) htb cd_B_put k_C_183 in_B_put se_B_put ini_B hd_B_put ⟨Nat.le_of_ble_eq_true rfl, Nat.le_of_ble_eq_true rfl⟩) hK hP hD hS [1, 2, 3, 4, 5, 6] [0, 7, 8, 9, 10, 11, 12, 13, 14, 15, 16, 17, 18] [0, 13, 14, 15, 16, 17, 18, 1, 2, 3, 4, 5, 6, 7, 8, 9, 10, 11, 12] rfl rfl (by decide) (by decide) rfl (fun _ => rfl) (fun _ => rfl) (ci := 0) rfl rfl rfl hl.1 rfl (Nat.le_of_ble_eq_true rfl) d_C_bring_155 ⟨Nat.zero_le _, Nat.zero_le _⟩ (fun u_155 H locs hw_155 hP hD hS => ?_)
    have hP : va_P D vwCl (wC cI cZ g (u_133.1, u_155, u_133.2.2.1, u_133.2.2.2.1, u_133.2.2.2.2.1, u_133.2.2.2.2.2)) H := hP
    have hD : va_D _ (wC cI cZ g (u_133.1, u_155, u_133.2.2.1, u_133.2.2.2.1, u_133.2.2.2.2.1, u_133.2.2.2.2.2)) := hD
    have hF := hF.trans (bnd_eq hw_155)
    have hl := lv_sub (l' := [(0, .ref g.1.1), (1, .int p0), (2, .int p1), (3, .int v3)]) hl [0, 1, 2, 3] rfl
    exact cut_158 v3 (u_133.1, u_155, u_133.2.2.1, u_133.2.2.2.1, u_133.2.2.2.2.1, u_133.2.2.2.2.2) _ _ _ hF hP hD hS hl
  have cut_109 : ∀ (v3 v4 v5 : Int32) (z : Cs) (H : Heap) (locs : List Loc) (ls : Array Slot), M_C_bring g x p0 p1 = L_C_bring_109 g p0 p1 v3 v4 v5 z → va_P D vwCl (wC cI cZ g z) H → va_D (Aw (wC cI cZ g x)) (wC cI cZ g z) → va_S (Aw (wC cI cZ g x)) s.heap H locs → lv_has ls 6 [(0, .ref g.1.1), (1, .int p0), (2, .int p1), (3, .int v3), (4, .int v4), (5, .int v5)] → W p l e (headSpec w_C_bring rm_C_bring).room s m ([.ref g.1.1, .int p0, .int p1] : List Value).toArray below meth c H locs 0 0 (MQ below (va_Qi (fun (r : Int32) (u : Cs) => (r, u) = M_C_bring g x p0 p1) (fun (u : Cs) (t : State) => va_P D vwCl (wC cI cZ g u) t.heap) (Aw (wC cI cZ g x))) ([.ref g.1.1, .int p0, .int p1] : List Value).toArray s 0 0 (Aw (wC cI cZ g x))) (F0 m 109 ls []) := by
    intro v3 v4 v5 z H locs ls hF hP hD hS hl
    have hF := hF.trans (L_C_bring_109_eq g p0 p1 v3 v4 v5 z)
    refine lv_aload_n hx hb d_C_bring_109 rfl (lv_at hl 0 rfl) ?_
    refine va_get (D := D) (ci := 2) (v := .int g.2.1.2) (C := R_C) (T := T_C) (N := 10) hx hb htb i_C hown hK hP 0 rfl rfl 1 (by decide) (htb _ k_C_19) (fun _ h9 => h9) rfl d_C_bring_110 ?_
    refine lv_iconst (v := 1) hx hb d_C_bring_113 (by decide) ?_
    refine lv_icmp_ne (tgt := 130) hx hb d_C_bring_114 (by decide) (fun c_114 => ?_) (fun c_114 => ?_)
    · have hF := hF.trans (if_neg c_114)
      have hl := lv_sub (l' := [(0, .ref g.1.1), (1, .int p0), (2, .int p1), (3, .int v3), (4, .int v4), (5, .int v5)]) hl [0, 1, 2, 3, 4, 5] rfl
      exact cut_130 v3 v4 v5 z _ _ _ hF hP hD hS hl
    · have hF := hF.trans (if_pos c_114)
      refine lv_aload_n hx hb d_C_bring_117 rfl (lv_at hl 0 rfl) ?_
      refine va_get (D := D) (ci := 2) (v := .ref g.2.2.2.2.1.1.1) (C := R_C) (T := T_C) (N := 10) hx hb htb i_C hown hK hP 0 rfl rfl 3 (by decide) (htb _ k_C_31) (fun _ h9 => h9) rfl d_C_bring_118 ?_
      refine lv_iconst (v := 0) hx hb d_C_bring_121 (by decide) ?_
      refine lv_iload_n hx hb d_C_bring_122 rfl (lv_at hl 2 rfl) ?_
      refine cpi (As := [.int (0 : Int32), .int p1]) (rest := []) ⟨hx, hb, hml, hown, htb⟩ (c_B_find l D cI cZ g.2.2.2.2.1 hg.2.2.1 z.2.2.1 (0 : Int32) p1) (cwv (n := 2) htb cd_B_find k_C_72 in_B_find se_B_find ini_B hd_B_find ⟨Nat.le_of_ble_eq_true rfl, Nat.le_of_ble_eq_true rfl⟩) hK hP [7, 8, 9, 10, 11, 12] rfl (ci := 0) rfl rfl rfl hl.1 rfl (Nat.le_of_ble_eq_true rfl) d_C_bring_123 ⟨Nat.zero_le _, Nat.zero_le _⟩ (fun r_123 hw_123 => ?_)
      have hF := hF.trans (bnd_eq hw_123)
      refine lv_iconst (v := -1) hx hb d_C_bring_126 (by decide) ?_
      refine lv_icmp_eq (tgt := 158) hx hb d_C_bring_127 (by decide) (fun c_127 => ?_) (fun c_127 => ?_)
      · have hF := hF.trans (if_pos c_127)
        have hl := lv_sub (l' := [(0, .ref g.1.1), (1, .int p0), (2, .int p1), (3, .int v3)]) hl [0, 1, 2, 3] rfl
        exact cut_158 v3 z _ _ _ hF hP hD hS hl
      · have hF := hF.trans (if_neg c_127)
        have hl := lv_sub (l' := [(0, .ref g.1.1), (1, .int p0), (2, .int p1), (3, .int v3), (4, .int v4), (5, .int v5)]) hl [0, 1, 2, 3, 4, 5] rfl
        exact cut_130 v3 v4 v5 z _ _ _ hF hP hD hS hl
  have cut_36 : ∀ (v3 v4 : Int32) (z : Cs) (H : Heap) (locs : List Loc) (ls : Array Slot), M_C_bring g x p0 p1 = L_C_bring_36 g p0 p1 v3 v4 z → va_P D vwCl (wC cI cZ g z) H → va_D (Aw (wC cI cZ g x)) (wC cI cZ g z) → va_S (Aw (wC cI cZ g x)) s.heap H locs → lv_has ls 6 [(0, .ref g.1.1), (1, .int p0), (2, .int p1), (3, .int v3), (4, .int v4)] → W p l e (headSpec w_C_bring rm_C_bring).room s m ([.ref g.1.1, .int p0, .int p1] : List Value).toArray below meth c H locs 0 0 (MQ below (va_Qi (fun (r : Int32) (u : Cs) => (r, u) = M_C_bring g x p0 p1) (fun (u : Cs) (t : State) => va_P D vwCl (wC cI cZ g u) t.heap) (Aw (wC cI cZ g x))) ([.ref g.1.1, .int p0, .int p1] : List Value).toArray s 0 0 (Aw (wC cI cZ g x))) (F0 m 36 ls []) := by
    intro v3 v4 z H locs ls hF hP hD hS hl
    have hF := hF.trans (L_C_bring_36_eq g p0 p1 v3 v4 z)
    refine lv_iconst (v := 0) hx hb d_C_bring_36 (by decide) ?_
    refine lv_istore (lv' := [(5, .int (0 : Int32)), (0, .ref g.1.1), (1, .int p0), (2, .int p1), (3, .int v3), (4, .int v4)]) hx hb d_C_bring_37 hl (by decide) rfl (fun ls hl => ?_)
    refine lv_iload_n hx hb d_C_bring_39 rfl (lv_at hl 4 rfl) ?_
    refine lv_iconst (v := -1) hx hb d_C_bring_40 (by decide) ?_
    refine lv_icmp_ne (tgt := 72) hx hb d_C_bring_41 (by decide) (fun c_41 => ?_) (fun c_41 => ?_)
    · have hF := hF.trans (if_neg c_41)
      refine lv_aload_n hx hb d_C_bring_72 rfl (lv_at hl 1 rfl) ?_
      refine va_get (D := D) (ci := 2) (v := .int g.2.1.2) (C := R_C) (T := T_C) (N := 10) hx hb htb i_C hown hK hP 0 rfl rfl 1 (by decide) (htb _ k_C_19) (fun _ h9 => h9) rfl d_C_bring_73 ?_
      refine lv_iconst (v := 2) hx hb d_C_bring_76 (by decide) ?_
      refine lv_icmp_ne (tgt := 101) hx hb d_C_bring_77 (by decide) (fun c_77 => ?_) (fun c_77 => ?_)
      · have hF := hF.trans (if_neg c_77)
        refine lv_aload_n hx hb d_C_bring_101 rfl (lv_at hl 1 rfl) ?_
        refine va_get (D := D) (ci := 2) (v := .ref g.2.2.2.2.1.1.1) (C := R_C) (T := T_C) (N := 10) hx hb htb i_C hown hK hP 0 rfl rfl 3 (by decide) (htb _ k_C_31) (fun _ h9 => h9) rfl d_C_bring_102 ?_
        refine lv_iload_n hx hb d_C_bring_105 rfl (lv_at hl 4 rfl) ?_
        refine cwv_ (As := [.int v3]) (rest := []) (wldC := fun u => (wC cI cZ g (z.1, z.2.1, u, z.2.2.2.1, z.2.2.2.2.1, z.2.2.2.2.2))) ⟨hx, hb, hml, hown, htb⟩ (c_B_useLast l D cI cZ g.2.2.2.2.1 hg.2.2.1 z.2.2.1 v3) (cwv (n := 1) htb cd_B_useLast k_C_75 in_B_useLast se_B_useLast ini_B hd_B_useLast ⟨Nat.le_of_ble_eq_true rfl, Nat.le_of_ble_eq_true rfl⟩) hK hP hD hS [7, 8, 9, 10, 11, 12] [0, 1, 2, 3, 4, 5, 6, 13, 14, 15, 16, 17, 18] [0, 1, 2, 3, 4, 5, 6, 13, 14, 15, 16, 17, 18, 7, 8, 9, 10, 11, 12] rfl rfl (by decide) (by decide) rfl (fun _ => rfl) (fun _ => rfl) (ci := 0) rfl rfl rfl hl.1 rfl (Nat.le_of_ble_eq_true rfl) d_C_bring_106 ⟨Nat.zero_le _, Nat.zero_le _⟩ (fun u_106 H locs hw_106 hP hD hS => ?_)
        have hP : va_P D vwCl (wC cI cZ g (z.1, z.2.1, u_106, z.2.2.2.1, z.2.2.2.2.1, z.2.2.2.2.2)) H := hP
        have hD : va_D _ (wC cI cZ g (z.1, z.2.1, u_106, z.2.2.2.1, z.2.2.2.2.1, z.2.2.2.2.2)) := hD
        have hF := hF.trans (bnd_eq hw_106)
        have hl := lv_sub (l' := [(0, .ref g.1.1), (1, .int p0), (2, .int p1), (3, .int v3), (4, .int v4), (5, .int (0 : Int32))]) hl [1, 2, 3, 4, 5, 0] rfl
        exact cut_109 v3 v4 (0 : Int32) (z.1, z.2.1, u_106, z.2.2.2.1, z.2.2.2.2.1, z.2.2.2.2.2) _ _ _ hF hP hD hS hl
      · have hF := hF.trans (if_pos c_77)
        refine lv_aload_n hx hb d_C_bring_80 rfl (lv_at hl 1 rfl) ?_
        refine va_get (D := D) (ci := 2) (v := .ref g.2.2.2.2.1.1.1) (C := R_C) (T := T_C) (N := 10) hx hb htb i_C hown hK hP 0 rfl rfl 3 (by decide) (htb _ k_C_31) (fun _ h9 => h9) rfl d_C_bring_81 ?_
        refine lv_iload_n hx hb d_C_bring_84 rfl (lv_at hl 4 rfl) ?_
        refine cpi (As := [.int v3]) (rest := []) ⟨hx, hb, hml, hown, htb⟩ (c_B_isWritten l D cI cZ g.2.2.2.2.1 hg.2.2.1 z.2.2.1 v3) (cwv (n := 1) htb cd_B_isWritten k_C_96 in_B_isWritten se_B_isWritten ini_B hd_B_isWritten ⟨Nat.le_of_ble_eq_true rfl, Nat.le_of_ble_eq_true rfl⟩) hK hP [7, 8, 9, 10, 11, 12] rfl (ci := 0) rfl rfl rfl hl.1 rfl (Nat.le_of_ble_eq_true rfl) d_C_bring_85 ⟨Nat.zero_le _, Nat.zero_le _⟩ (fun r_85 hw_85 => ?_)
        have hF := hF.trans (bnd_eq hw_85)
        refine lv_istore (lv' := [(5, .int r_85), (0, .ref g.1.1), (1, .int p0), (2, .int p1), (3, .int v3), (4, .int v4)]) hx hb d_C_bring_88 hl (by decide) rfl (fun ls hl => ?_)
        refine lv_aload_n hx hb d_C_bring_90 rfl (lv_at hl 1 rfl) ?_
        refine va_get (D := D) (ci := 2) (v := .ref g.2.2.2.2.1.1.1) (C := R_C) (T := T_C) (N := 10) hx hb htb i_C hown hK hP 0 rfl rfl 3 (by decide) (htb _ k_C_31) (fun _ h9 => h9) rfl d_C_bring_91 ?_
        refine lv_iload_n hx hb d_C_bring_94 rfl (lv_at hl 4 rfl) ?_
        refine cwv_ (As := [.int v3]) (rest := []) (wldC := fun u => (wC cI cZ g (z.1, z.2.1, u, z.2.2.2.1, z.2.2.2.2.1, z.2.2.2.2.2))) ⟨hx, hb, hml, hown, htb⟩ (c_B_drop l D cI cZ g.2.2.2.2.1 hg.2.2.1 z.2.2.1 v3) (cwv (n := 1) htb cd_B_drop k_C_174 in_B_drop se_B_drop ini_B hd_B_drop ⟨Nat.le_of_ble_eq_true rfl, Nat.le_of_ble_eq_true rfl⟩) hK hP hD hS [7, 8, 9, 10, 11, 12] [0, 1, 2, 3, 4, 5, 6, 13, 14, 15, 16, 17, 18] [0, 1, 2, 3, 4, 5, 6, 13, 14, 15, 16, 17, 18, 7, 8, 9, 10, 11, 12] rfl rfl (by decide) (by decide) rfl (fun _ => rfl) (fun _ => rfl) (ci := 0) rfl rfl rfl hl.1 rfl (Nat.le_of_ble_eq_true rfl) d_C_bring_95 ⟨Nat.zero_le _, Nat.zero_le _⟩ (fun u_95 H locs hw_95 hP hD hS => ?_)
        have hP : va_P D vwCl (wC cI cZ g (z.1, z.2.1, u_95, z.2.2.2.1, z.2.2.2.2.1, z.2.2.2.2.2)) H := hP
        have hD : va_D _ (wC cI cZ g (z.1, z.2.1, u_95, z.2.2.2.1, z.2.2.2.2.1, z.2.2.2.2.2)) := hD
        have hF := hF.trans (bnd_eq hw_95)
        refine lv_goto (tgt := 109) hx hb d_C_bring_98 (by decide) ?_
        have hl := lv_sub (l' := [(0, .ref g.1.1), (1, .int p0), (2, .int p1), (3, .int v3), (4, .int v4), (5, .int r_85)]) hl [1, 2, 3, 4, 5, 0] rfl
        exact cut_109 v3 v4 r_85 (z.1, z.2.1, u_95, z.2.2.2.1, z.2.2.2.2.1, z.2.2.2.2.2) _ _ _ hF hP hD hS hl
    · have hF := hF.trans (if_pos c_41)
      refine lv_aload_n hx hb d_C_bring_44 rfl (lv_at hl 1 rfl) ?_
      refine va_get (D := D) (ci := 2) (v := .int g.2.1.2) (C := R_C) (T := T_C) (N := 10) hx hb htb i_C hown hK hP 0 rfl rfl 1 (by decide) (htb _ k_C_19) (fun _ h9 => h9) rfl d_C_bring_45 ?_
      refine lv_iconst (v := 2) hx hb d_C_bring_48 (by decide) ?_
      refine lv_icmp_eq (tgt := 109) hx hb d_C_bring_49 (by decide) (fun c_49 => ?_) (fun c_49 => ?_)
      · have hF := hF.trans (if_pos c_49)
        have hl := lv_sub (l' := [(0, .ref g.1.1), (1, .int p0), (2, .int p1), (3, .int v3), (4, .int v4), (5, .int (0 : Int32))]) hl [1, 2, 3, 4, 5, 0] rfl
        exact cut_109 v3 v4 (0 : Int32) z _ _ _ hF hP hD hS hl
      · have hF := hF.trans (if_neg c_49)
        refine lv_aload_n hx hb d_C_bring_52 rfl (lv_at hl 1 rfl) ?_
        refine lv_iload_n hx hb d_C_bring_53 rfl (lv_at hl 3 rfl) ?_
        refine cpi (As := [.int p1]) (rest := []) ⟨hx, hb, hml, hown, htb⟩ (c_C_passesBy l D cI cZ g hg z p1) (cwv (n := 1) htb cd_C_passesBy k_C_167 in_C_passesBy se_C_passesBy ini_C hd_C_passesBy ⟨Nat.le_of_ble_eq_true rfl, Nat.le_of_ble_eq_true rfl⟩) hK hP [0, 1, 2, 3, 4, 5, 6, 7, 8, 9, 10, 11, 12, 13, 14, 15, 16, 17, 18] rfl (ci := 2) rfl rfl rfl hl.1 rfl (Nat.le_of_ble_eq_true rfl) d_C_bring_54 ⟨Nat.zero_le _, Nat.zero_le _⟩ (fun r_54 hw_54 => ?_)
        have hF := hF.trans (bnd_eq hw_54)
        refine lv_if_ne (tgt := 109) hx hb d_C_bring_57 (by decide) (fun c_57 => ?_) (fun c_57 => ?_)
        · have hF := hF.trans (if_neg c_57)
          have hl := lv_sub (l' := [(0, .ref g.1.1), (1, .int p0), (2, .int p1), (3, .int v3), (4, .int v4), (5, .int (0 : Int32))]) hl [1, 2, 3, 4, 5, 0] rfl
          exact cut_109 v3 v4 (0 : Int32) z _ _ _ hF hP hD hS hl
        · have hF := hF.trans (if_pos c_57)
          refine lv_aload_n hx hb d_C_bring_60 rfl (lv_at hl 1 rfl) ?_
          refine lv_iload_n hx hb d_C_bring_61 rfl (lv_at hl 2 rfl) ?_
          refine lv_iload_n hx hb d_C_bring_62 rfl (lv_at hl 3 rfl) ?_
          refine lv_iload hx hb d_C_bring_63 (lv_at hl 5 rfl) ?_
          refine lv_iconst (v := 0) hx hb d_C_bring_65 (by decide) ?_
          refine cwv_ (As := [.int p0, .int p1, .int v4, .int (0 : Int32)]) (rest := []) (wldC := fun u => (wC cI cZ g u)) ⟨hx, hb, hml, hown, htb⟩ (c_C_comeIntoSecond l D cI cZ g hg z p0 p1 v4 (0 : Int32)) (cwv (n := 4) htb cd_C_comeIntoSecond k_C_170 in_C_comeIntoSecond se_C_comeIntoSecond ini_C hd_C_comeIntoSecond ⟨Nat.le_of_ble_eq_true rfl, Nat.le_of_ble_eq_true rfl⟩) hK hP hD hS [0, 1, 2, 3, 4, 5, 6, 7, 8, 9, 10, 11, 12, 13, 14, 15, 16, 17, 18] [] [0, 1, 2, 3, 4, 5, 6, 7, 8, 9, 10, 11, 12, 13, 14, 15, 16, 17, 18] rfl rfl (by decide) (by decide) rfl (fun _ => rfl) (fun _ => rfl) (ci := 2) rfl rfl rfl hl.1 rfl (Nat.le_of_ble_eq_true rfl) d_C_bring_66 ⟨Nat.zero_le _, Nat.zero_le _⟩ (fun u_66 H locs hw_66 hP hD hS => ?_)
          have hP : va_P D vwCl (wC cI cZ g u_66) H := hP
          have hD : va_D _ (wC cI cZ g u_66) := hD
          have hF := hF.trans (bnd_eq hw_66)
          refine lv_goto (tgt := 109) hx hb d_C_bring_69 (by decide) ?_
          have hl := lv_sub (l' := [(0, .ref g.1.1), (1, .int p0), (2, .int p1), (3, .int v3), (4, .int v4), (5, .int (0 : Int32))]) hl [1, 2, 3, 4, 5, 0] rfl
          exact cut_109 v3 v4 (0 : Int32) u_66 _ _ _ hF hP hD hS hl
  have hl := lv_entry ([.ref g.1.1, .int p0, .int p1]) (n := 6) (Nat.le_of_ble_eq_true rfl)
  rw [lg_entry_eq]
  generalize (lg_sl ([.ref g.1.1, .int p0, .int p1]) ++ List.replicate (6 - (lg_sl ([.ref g.1.1, .int p0, .int p1])).length) Slot.unset).toArray = ls at hl ⊢
  have hl : lv_has ls 6 [(0, .ref g.1.1), (1, .int p0), (2, .int p1)] := hl
  have hF := M_C_bring_eq g x p0 p1
  refine lv_aload_n hx hb d_C_bring_0 rfl (lv_at hl 0 rfl) ?_
  refine va_get (D := D) (ci := 2) (v := .ref g.2.2.2.2.1.1.1) (C := R_C) (T := T_C) (N := 10) hx hb htb i_C hown hK hP 0 rfl rfl 3 (by decide) (htb _ k_C_31) (fun _ h9 => h9) rfl d_C_bring_1 ?_
  refine lv_iconst (v := 0) hx hb d_C_bring_4 (by decide) ?_
  refine lv_iload_n hx hb d_C_bring_5 rfl (lv_at hl 2 rfl) ?_
  refine cpi (As := [.int (0 : Int32), .int p1]) (rest := []) ⟨hx, hb, hml, hown, htb⟩ (c_B_find l D cI cZ g.2.2.2.2.1 hg.2.2.1 x.2.2.1 (0 : Int32) p1) (cwv (n := 2) htb cd_B_find k_C_72 in_B_find se_B_find ini_B hd_B_find ⟨Nat.le_of_ble_eq_true rfl, Nat.le_of_ble_eq_true rfl⟩) hK hP [7, 8, 9, 10, 11, 12] rfl (ci := 0) rfl rfl rfl hl.1 rfl (Nat.le_of_ble_eq_true rfl) d_C_bring_6 ⟨Nat.zero_le _, Nat.zero_le _⟩ (fun r_6 hw_6 => ?_)
  have hF := hF.trans (bnd_eq hw_6)
  refine lv_istore_n (lv' := [(3, .int r_6), (0, .ref g.1.1), (1, .int p0), (2, .int p1)]) hx hb d_C_bring_9 rfl hl (by decide) rfl (fun ls hl => ?_)
  refine lv_iload_n hx hb d_C_bring_10 rfl (lv_at hl 0 rfl) ?_
  refine lv_iconst (v := -1) hx hb d_C_bring_11 (by decide) ?_
  refine lv_icmp_eq (tgt := 26) hx hb d_C_bring_12 (by decide) (fun c_12 => ?_) (fun c_12 => ?_)
  · have hF := hF.trans (if_pos c_12)
    refine lv_aload_n hx hb d_C_bring_26 rfl (lv_at hl 1 rfl) ?_
    refine va_get (D := D) (ci := 2) (v := .ref g.2.2.2.2.2.1.1) (C := R_C) (T := T_C) (N := 10) hx hb htb i_C hown hK hP 0 rfl rfl 4 (by decide) (htb _ k_C_37) (fun _ h9 => h9) rfl d_C_bring_27 ?_
    refine lv_iload_n hx hb d_C_bring_30 rfl (lv_at hl 3 rfl) ?_
    refine cpi (As := [.int p1]) (rest := []) ⟨hx, hb, hml, hown, htb⟩ (c_V_inMemory l D cI cZ g.2.2.2.2.2 hg.2.2.2 x.2.2.2.1 p1) (cwv (n := 1) htb cd_V_inMemory k_C_126 in_V_inMemory se_V_inMemory ini_V hd_V_inMemory ⟨Nat.le_of_ble_eq_true rfl, Nat.le_of_ble_eq_true rfl⟩) hK hP [13, 14, 15, 16] rfl (ci := 1) rfl rfl rfl hl.1 rfl (Nat.le_of_ble_eq_true rfl) d_C_bring_31 ⟨Nat.zero_le _, Nat.zero_le _⟩ (fun r_31 hw_31 => ?_)
    have hF := hF.trans (bnd_eq hw_31)
    refine lv_istore (lv' := [(4, .int r_31), (3, .int r_6), (0, .ref g.1.1), (1, .int p0), (2, .int p1)]) hx hb d_C_bring_34 hl (by decide) rfl (fun ls hl => ?_)
    have hl := lv_sub (l' := [(0, .ref g.1.1), (1, .int p0), (2, .int p1), (3, .int r_6), (4, .int r_31)]) hl [2, 3, 4, 1, 0] rfl
    exact cut_36 r_6 r_31 x _ _ _ hF hP hD hS hl
  · have hF := hF.trans (if_neg c_12)
    refine lv_aload_n hx hb d_C_bring_15 rfl (lv_at hl 1 rfl) ?_
    refine va_get (D := D) (ci := 2) (v := .ref g.2.2.2.2.1.1.1) (C := R_C) (T := T_C) (N := 10) hx hb htb i_C hown hK hP 0 rfl rfl 3 (by decide) (htb _ k_C_31) (fun _ h9 => h9) rfl d_C_bring_16 ?_
    refine lv_iload_n hx hb d_C_bring_19 rfl (lv_at hl 0 rfl) ?_
    refine cpi (As := [.int r_6]) (rest := []) ⟨hx, hb, hml, hown, htb⟩ (c_B_versionAt l D cI cZ g.2.2.2.2.1 hg.2.2.1 x.2.2.1 r_6) (cwv (n := 1) htb cd_B_versionAt k_C_107 in_B_versionAt se_B_versionAt ini_B hd_B_versionAt ⟨Nat.le_of_ble_eq_true rfl, Nat.le_of_ble_eq_true rfl⟩) hK hP [7, 8, 9, 10, 11, 12] rfl (ci := 0) rfl rfl rfl hl.1 rfl (Nat.le_of_ble_eq_true rfl) d_C_bring_20 ⟨Nat.zero_le _, Nat.zero_le _⟩ (fun r_20 hw_20 => ?_)
    have hF := hF.trans (bnd_eq hw_20)
    refine lv_goto (tgt := 34) hx hb d_C_bring_23 (by decide) ?_
    refine lv_istore (lv' := [(4, .int r_20), (3, .int r_6), (0, .ref g.1.1), (1, .int p0), (2, .int p1)]) hx hb d_C_bring_34 hl (by decide) rfl (fun ls hl => ?_)
    have hl := lv_sub (l' := [(0, .ref g.1.1), (1, .int p0), (2, .int p1), (3, .int r_6), (4, .int r_20)]) hl [2, 3, 4, 1, 0] rfl
    exact cut_36 r_6 r_20 x _ _ _ hF hP hD hS hl

def L_C_write_81 (g : GC) (p0 p1 : Int32) (z : Cs) : Cs := (bnd2 (M_V_makeNext g.2.2.2.2.2 z.2.2.2.1 p1) (fun r_86 u_86 => (bnd (M_B_find g.2.2.2.1 z.2.1 p0 p1) (fun r_96 => (if r_96 = (-1 : Int32) then (bnd (M_V_writeBack g.2.2.2.2.2 u_86 p1 r_86) (fun u_113 => (z.1, z.2.1, z.2.2.1, u_113, z.2.2.2.2.1, z.2.2.2.2.2))) else (bnd (M_B_rewrite g.2.2.2.1 z.2.1 r_96 r_86) (fun u_126 => (z.1, u_126, z.2.2.1, u_86, z.2.2.2.2.1, z.2.2.2.2.2))))))))
theorem L_C_write_81_eq (g : GC) (p0 p1 : Int32) (z : Cs) : L_C_write_81 g p0 p1 z = (bnd2 (M_V_makeNext g.2.2.2.2.2 z.2.2.2.1 p1) (fun r_86 u_86 => (bnd (M_B_find g.2.2.2.1 z.2.1 p0 p1) (fun r_96 => (if r_96 = (-1 : Int32) then (bnd (M_V_writeBack g.2.2.2.2.2 u_86 p1 r_86) (fun u_113 => (z.1, z.2.1, z.2.2.1, u_113, z.2.2.2.2.1, z.2.2.2.2.2))) else (bnd (M_B_rewrite g.2.2.2.1 z.2.1 r_96 r_86) (fun u_126 => (z.1, u_126, z.2.2.1, u_86, z.2.2.2.2.1, z.2.2.2.2.2)))))))) := rfl
def L_C_write_2 (g : GC) (p0 p1 : Int32) : Nat → Int32 → Cs → Cs
  | 0, _, z => z
  | n + 1, v3, z => (if g.2.1.1 ≤ v3 then (if g.2.1.2 = (2 : Int32) then (bnd (M_B_find g.2.2.2.2.1 z.2.2.1 (0 : Int32) p1) (fun r_75 => (bnd (M_B_drop g.2.2.2.2.1 z.2.2.1 r_75) (fun u_78 => L_C_write_81 g p0 p1 (z.1, z.2.1, u_78, z.2.2.2.1, z.2.2.2.2.1, z.2.2.2.2.2))))) else L_C_write_81 g p0 p1 z) else (if v3 = p0 then (if (-1 : Int32) = (-1 : Int32) then L_C_write_2 g p0 p1 n (v3 + 1) z else (bnd (M_B_drop g.2.2.2.1 z.2.1 (-1 : Int32)) (fun u_42 => (bnd (M_C_tally g (z.1, u_42, z.2.2.1, z.2.2.2.1, z.2.2.2.2.1, z.2.2.2.2.2) v3 (5 : Int32)) (fun u_48 => L_C_write_2 g p0 p1 n (v3 + 1) u_48))))) else (bnd (M_B_find g.2.2.2.1 z.2.1 v3 p1) (fun r_25 => (if r_25 = (-1 : Int32) then L_C_write_2 g p0 p1 n (v3 + 1) z else (bnd (M_B_drop g.2.2.2.1 z.2.1 r_25) (fun u_42 => (bnd (M_C_tally g (z.1, u_42, z.2.2.1, z.2.2.2.1, z.2.2.2.2.1, z.2.2.2.2.2) v3 (5 : Int32)) (fun u_48 => L_C_write_2 g p0 p1 n (v3 + 1) u_48)))))))))
theorem L_C_write_2_eq (g : GC) (p0 p1 : Int32) (n : Nat) (v3 : Int32) (z : Cs) : L_C_write_2 g p0 p1 (n + 1) v3 z = (if g.2.1.1 ≤ v3 then (if g.2.1.2 = (2 : Int32) then (bnd (M_B_find g.2.2.2.2.1 z.2.2.1 (0 : Int32) p1) (fun r_75 => (bnd (M_B_drop g.2.2.2.2.1 z.2.2.1 r_75) (fun u_78 => L_C_write_81 g p0 p1 (z.1, z.2.1, u_78, z.2.2.2.1, z.2.2.2.2.1, z.2.2.2.2.2))))) else L_C_write_81 g p0 p1 z) else (if v3 = p0 then (if (-1 : Int32) = (-1 : Int32) then L_C_write_2 g p0 p1 n (v3 + 1) z else (bnd (M_B_drop g.2.2.2.1 z.2.1 (-1 : Int32)) (fun u_42 => (bnd (M_C_tally g (z.1, u_42, z.2.2.1, z.2.2.2.1, z.2.2.2.2.1, z.2.2.2.2.2) v3 (5 : Int32)) (fun u_48 => L_C_write_2 g p0 p1 n (v3 + 1) u_48))))) else (bnd (M_B_find g.2.2.2.1 z.2.1 v3 p1) (fun r_25 => (if r_25 = (-1 : Int32) then L_C_write_2 g p0 p1 n (v3 + 1) z else (bnd (M_B_drop g.2.2.2.1 z.2.1 r_25) (fun u_42 => (bnd (M_C_tally g (z.1, u_42, z.2.2.1, z.2.2.2.1, z.2.2.2.2.1, z.2.2.2.2.2) v3 (5 : Int32)) (fun u_48 => L_C_write_2 g p0 p1 n (v3 + 1) u_48))))))))) := by first | rfl | rw [L_C_write_2]
def M_C_write (g : GC) (x : Cs) (p0 p1 : Int32) : Cs := L_C_write_2 g p0 p1 (mu (0 : Int32) g.2.1.1 + 1) (0 : Int32) x
theorem M_C_write_eq (g : GC) (x : Cs) (p0 p1 : Int32) : M_C_write g x p0 p1 = L_C_write_2 g p0 p1 (mu (0 : Int32) g.2.1.1 + 1) (0 : Int32) x := rfl
abbrev w_C_write : List Cond := .code y_C_write b_C_write 5 none :: tbW
abbrev rm_C_write : Room := { frames := 3, cells := 0, slots := 0, locals := 71 }
set_option maxHeartbeats 4000000 in
set_option maxRecDepth 100000 in
theorem c_C_write (l : Launch) (D : va_G) (cI cZ : ClassId) (g : GC) (hg : okC g) (x : Cs) (p0 p1 : Int32) : Met l y_C_write w_C_write rm_C_write (PcW D vwCl (tyK cI cZ) [.ref g.1.1, .int p0, .int p1] (wC cI cZ g x)) (va_Qv (fun (u : Cs) => u = M_C_write g x p0 p1) (fun (u : Cs) (t : State) => va_P D vwCl (wC cI cZ g u) t.heap) (Aw (wC cI cZ g x))) 0 0 (Aw (wC cI cZ g x)) := by
  refine Met.ofW (cc := b_C_write) (maxL := 5) (ret := none) (by decide) rfl ?_
  intro p e s m args below meth c s₁ B hml hv
  obtain ⟨rfl, hP, hK, hD0⟩ := hv
  have hx := B.exec
  have hb := B.bytes
  have hr := B.returns
  have htb : ∀ w ∈ tbW, w.before _ s = true := fun w h => atoms_spec (ws := w_C_write) B.pre w (List.mem_cons_of_mem _ h)
  have hown : s.vm.findClass R_C = some m.cls := findClass_of_methodNamed B.named
  have hlocks := B.notSynchronized
  have hD : va_D (Aw (wC cI cZ g x)) (wC cI cZ g x) := ⟨hD0.1, fun k q hk => ⟨k, q.2, hk⟩⟩
  have hS : va_S (Aw (wC cI cZ g x)) s.heap s.heap [] := va_S.rf
  have cut_81 : ∀ (z : Cs) (H : Heap) (locs : List Loc) (ls : Array Slot), M_C_write g x p0 p1 = L_C_write_81 g p0 p1 z → va_P D vwCl (wC cI cZ g z) H → va_D (Aw (wC cI cZ g x)) (wC cI cZ g z) → va_S (Aw (wC cI cZ g x)) s.heap H locs → lv_has ls 5 [(0, .ref g.1.1), (1, .int p0), (2, .int p1)] → W p l e (headSpec w_C_write rm_C_write).room s m ([.ref g.1.1, .int p0, .int p1] : List Value).toArray below meth c H locs 0 0 (MQ below (va_Qv (fun (u : Cs) => u = M_C_write g x p0 p1) (fun (u : Cs) (t : State) => va_P D vwCl (wC cI cZ g u) t.heap) (Aw (wC cI cZ g x))) ([.ref g.1.1, .int p0, .int p1] : List Value).toArray s 0 0 (Aw (wC cI cZ g x))) (F0 m 81 ls []) := by
    intro z H locs ls hF hP hD hS hl
    have hF := hF.trans (L_C_write_81_eq g p0 p1 z)
    refine lv_aload_n hx hb d_C_write_81 rfl (lv_at hl 0 rfl) ?_
    refine va_get (D := D) (ci := 2) (v := .ref g.2.2.2.2.2.1.1) (C := R_C) (T := T_C) (N := 10) hx hb htb i_C hown hK hP 0 rfl rfl 4 (by decide) (htb _ k_C_37) (fun _ h9 => h9) rfl d_C_write_82 ?_
    refine lv_iload_n hx hb d_C_write_85 rfl (lv_at hl 2 rfl) ?_
    refine cwi (As := [.int p1]) (rest := []) (wldC := fun u => (wC cI cZ g (z.1, z.2.1, z.2.2.1, u, z.2.2.2.2.1, z.2.2.2.2.2))) ⟨hx, hb, hml, hown, htb⟩ (c_V_makeNext l D cI cZ g.2.2.2.2.2 hg.2.2.2 z.2.2.2.1 p1) (cwv (n := 1) htb cd_V_makeNext k_C_187 in_V_makeNext se_V_makeNext ini_V hd_V_makeNext ⟨Nat.le_of_ble_eq_true rfl, Nat.le_of_ble_eq_true rfl⟩) hK hP hD hS [13, 14, 15, 16] [0, 1, 2, 3, 4, 5, 6, 7, 8, 9, 10, 11, 12, 17, 18] [0, 1, 2, 3, 4, 5, 6, 7, 8, 9, 10, 11, 12, 15, 16, 17, 18, 13, 14] rfl rfl (by decide) (by decide) rfl (fun _ => rfl) (fun _ => rfl) (ci := 1) rfl rfl rfl hl.1 rfl (Nat.le_of_ble_eq_true rfl) d_C_write_86 ⟨Nat.zero_le _, Nat.zero_le _⟩ (fun r_86 u_86 H locs hw_86 hP hD hS => ?_)
    have hP : va_P D vwCl (wC cI cZ g (z.1, z.2.1, z.2.2.1, u_86, z.2.2.2.2.1, z.2.2.2.2.2)) H := hP
    have hD : va_D _ (wC cI cZ g (z.1, z.2.1, z.2.2.1, u_86, z.2.2.2.2.1, z.2.2.2.2.2)) := hD
    have hF := hF.trans (bnd2_eq hw_86)
    refine lv_istore_n (lv' := [(3, .int r_86), (0, .ref g.1.1), (1, .int p0), (2, .int p1)]) hx hb d_C_write_89 rfl hl (by decide) rfl (fun ls hl => ?_)
    refine lv_aload_n hx hb d_C_write_90 rfl (lv_at hl 1 rfl) ?_
    refine va_get (D := D) (ci := 2) (v := .ref g.2.2.2.1.1.1) (C := R_C) (T := T_C) (N := 10) hx hb htb i_C hown hK hP 0 rfl rfl 2 (by decide) (htb _ k_C_27) (fun _ h9 => h9) rfl d_C_write_91 ?_
    refine lv_iload_n hx hb d_C_write_94 rfl (lv_at hl 2 rfl) ?_
    refine lv_iload_n hx hb d_C_write_95 rfl (lv_at hl 3 rfl) ?_
    refine cpi (As := [.int p0, .int p1]) (rest := []) ⟨hx, hb, hml, hown, htb⟩ (c_B_find l D cI cZ g.2.2.2.1 hg.2.1 z.2.1 p0 p1) (cwv (n := 2) htb cd_B_find k_C_72 in_B_find se_B_find ini_B hd_B_find ⟨Nat.le_of_ble_eq_true rfl, Nat.le_of_ble_eq_true rfl⟩) hK hP [1, 2, 3, 4, 5, 6] rfl (ci := 0) rfl rfl rfl hl.1 rfl (Nat.le_of_ble_eq_true rfl) d_C_write_96 ⟨Nat.zero_le _, Nat.zero_le _⟩ (fun r_96 hw_96 => ?_)
    have hF := hF.trans (bnd_eq hw_96)
    refine lv_istore (lv' := [(4, .int r_96), (3, .int r_86), (0, .ref g.1.1), (1, .int p0), (2, .int p1)]) hx hb d_C_write_99 hl (by decide) rfl (fun ls hl => ?_)
    refine lv_iload hx hb d_C_write_101 (lv_at hl 0 rfl) ?_
    refine lv_iconst (v := -1) hx hb d_C_write_103 (by decide) ?_
    refine lv_icmp_ne (tgt := 119) hx hb d_C_write_104 (by decide) (fun c_104 => ?_) (fun c_104 => ?_)
    · have hF := hF.trans (if_neg c_104)
      refine lv_aload_n hx hb d_C_write_119 rfl (lv_at hl 2 rfl) ?_
      refine va_get (D := D) (ci := 2) (v := .ref g.2.2.2.1.1.1) (C := R_C) (T := T_C) (N := 10) hx hb htb i_C hown hK hP 0 rfl rfl 2 (by decide) (htb _ k_C_27) (fun _ h9 => h9) rfl d_C_write_120 ?_
      refine lv_iload hx hb d_C_write_123 (lv_at hl 0 rfl) ?_
      refine lv_iload_n hx hb d_C_write_125 rfl (lv_at hl 1 rfl) ?_
      refine cwv_ (As := [.int r_96, .int r_86]) (rest := []) (wldC := fun u => (wC cI cZ g (z.1, u, z.2.2.1, u_86, z.2.2.2.2.1, z.2.2.2.2.2))) ⟨hx, hb, hml, hown, htb⟩ (c_B_rewrite l D cI cZ g.2.2.2.1 hg.2.1 z.2.1 r_96 r_86) (cwv (n := 2) htb cd_B_rewrite k_C_164 in_B_rewrite se_B_rewrite ini_B hd_B_rewrite ⟨Nat.le_of_ble_eq_true rfl, Nat.le_of_ble_eq_true rfl⟩) hK hP hD hS [1, 2, 3, 4, 5, 6] [0, 7, 8, 9, 10, 11, 12, 13, 14, 15, 16, 17, 18] [0, 13, 14, 15, 16, 17, 18, 1, 2, 3, 4, 5, 6, 7, 8, 9, 10, 11, 12] rfl rfl (by decide) (by decide) rfl (fun _ => rfl) (fun _ => rfl) (ci := 0) rfl rfl rfl hl.1 rfl (Nat.le_of_ble_eq_true rfl) d_C_write_126 ⟨Nat.zero_le _, Nat.zero_le _⟩ (fun u_126 H locs hw_126 hP hD hS => ?_)
      have hP : va_P D vwCl (wC cI cZ g (z.1, u_126, z.2.2.1, u_86, z.2.2.2.2.1, z.2.2.2.2.2)) H := hP
      have hD : va_D _ (wC cI cZ g (z.1, u_126, z.2.2.1, u_86, z.2.2.2.2.1, z.2.2.2.2.2)) := hD
      have hF := hF.trans (bnd_eq hw_126)
      exact W.vret hx hb hr (fun t ht hW => ⟨⟨(z.1, u_126, z.2.2.1, u_86, z.2.2.2.2.1, z.2.2.2.2.2), rfl, hF.symm, by dsimp only; rw [ht]; exact hP⟩, hS.F ht⟩) hS.2.2 d_C_write_129
    · have hF := hF.trans (if_pos c_104)
      refine lv_aload_n hx hb d_C_write_107 rfl (lv_at hl 2 rfl) ?_
      refine va_get (D := D) (ci := 2) (v := .ref g.2.2.2.2.2.1.1) (C := R_C) (T := T_C) (N := 10) hx hb htb i_C hown hK hP 0 rfl rfl 4 (by decide) (htb _ k_C_37) (fun _ h9 => h9) rfl d_C_write_108 ?_
      refine lv_iload_n hx hb d_C_write_111 rfl (lv_at hl 4 rfl) ?_
      refine lv_iload_n hx hb d_C_write_112 rfl (lv_at hl 1 rfl) ?_
      refine cwv_ (As := [.int p1, .int r_86]) (rest := []) (wldC := fun u => (wC cI cZ g (z.1, z.2.1, z.2.2.1, u, z.2.2.2.2.1, z.2.2.2.2.2))) ⟨hx, hb, hml, hown, htb⟩ (c_V_writeBack l D cI cZ g.2.2.2.2.2 hg.2.2.2 u_86 p1 r_86) (cwv (n := 2) htb cd_V_writeBack k_C_110 in_V_writeBack se_V_writeBack ini_V hd_V_writeBack ⟨Nat.le_of_ble_eq_true rfl, Nat.le_of_ble_eq_true rfl⟩) hK hP hD hS [13, 14, 15, 16] [0, 1, 2, 3, 4, 5, 6, 7, 8, 9, 10, 11, 12, 17, 18] [0, 1, 2, 3, 4, 5, 6, 7, 8, 9, 10, 11, 12, 15, 16, 17, 18, 13, 14] rfl rfl (by decide) (by decide) rfl (fun _ => rfl) (fun _ => rfl) (ci := 1) rfl rfl rfl hl.1 rfl (Nat.le_of_ble_eq_true rfl) d_C_write_113 ⟨Nat.zero_le _, Nat.zero_le _⟩ (fun u_113 H locs hw_113 hP hD hS => ?_)
      have hP : va_P D vwCl (wC cI cZ g (z.1, z.2.1, z.2.2.1, u_113, z.2.2.2.2.1, z.2.2.2.2.2)) H := hP
      have hD : va_D _ (wC cI cZ g (z.1, z.2.1, z.2.2.1, u_113, z.2.2.2.2.1, z.2.2.2.2.2)) := hD
      have hF := hF.trans (bnd_eq hw_113)
      refine lv_goto (tgt := 129) hx hb d_C_write_116 (by decide) ?_
      exact W.vret hx hb hr (fun t ht hW => ⟨⟨(z.1, z.2.1, z.2.2.1, u_113, z.2.2.2.2.1, z.2.2.2.2.2), rfl, hF.symm, by dsimp only; rw [ht]; exact hP⟩, hS.F ht⟩) hS.2.2 d_C_write_129
  have cut_2 : ∀ (n : Nat) (v3 : Int32) (z : Cs) (H : Heap) (locs : List Loc) (ls : Array Slot), mu v3 g.2.1.1 < n → M_C_write g x p0 p1 = L_C_write_2 g p0 p1 n v3 z → va_P D vwCl (wC cI cZ g z) H → va_D (Aw (wC cI cZ g x)) (wC cI cZ g z) → va_S (Aw (wC cI cZ g x)) s.heap H locs → lv_has ls 5 [(0, .ref g.1.1), (1, .int p0), (2, .int p1), (3, .int v3)] → W p l e (headSpec w_C_write rm_C_write).room s m ([.ref g.1.1, .int p0, .int p1] : List Value).toArray below meth c H locs 0 0 (MQ below (va_Qv (fun (u : Cs) => u = M_C_write g x p0 p1) (fun (u : Cs) (t : State) => va_P D vwCl (wC cI cZ g u) t.heap) (Aw (wC cI cZ g x))) ([.ref g.1.1, .int p0, .int p1] : List Value).toArray s 0 0 (Aw (wC cI cZ g x))) (F0 m 2 ls []) := by
    intro n
    induction n with
    | zero => intro v3 z H locs ls hm _ _ _ _ _; exact absurd hm (Nat.not_lt_zero _)
    | succ n ih =>
      intro v3 z H locs ls hm hF hP hD hS hl
      have hF := hF.trans (L_C_write_2_eq g p0 p1 n v3 z)
      refine lv_iload_n hx hb d_C_write_2 rfl (lv_at hl 3 rfl) ?_
      refine lv_aload_n hx hb d_C_write_3 rfl (lv_at hl 0 rfl) ?_
      refine va_get (D := D) (ci := 2) (v := .int g.2.1.1) (C := R_C) (T := T_C) (N := 10) hx hb htb i_C hown hK hP 0 rfl rfl 0 (by decide) (htb _ k_C_15) (fun _ h9 => h9) rfl d_C_write_4 ?_
      refine lv_icmp_ge (tgt := 57) hx hb d_C_write_7 (by decide) (fun c_7 => ?_) (fun c_7 => ?_)
      · have hF := hF.trans (if_pos c_7)
        refine lv_aload_n hx hb d_C_write_57 rfl (lv_at hl 0 rfl) ?_
        refine va_get (D := D) (ci := 2) (v := .int g.2.1.2) (C := R_C) (T := T_C) (N := 10) hx hb htb i_C hown hK hP 0 rfl rfl 1 (by decide) (htb _ k_C_19) (fun _ h9 => h9) rfl d_C_write_58 ?_
        refine lv_iconst (v := 2) hx hb d_C_write_61 (by decide) ?_
        refine lv_icmp_ne (tgt := 81) hx hb d_C_write_62 (by decide) (fun c_62 => ?_) (fun c_62 => ?_)
        · have hF := hF.trans (if_neg c_62)
          have hl := lv_sub (l' := [(0, .ref g.1.1), (1, .int p0), (2, .int p1)]) hl [0, 1, 2] rfl
          exact cut_81 z _ _ _ hF hP hD hS hl
        · have hF := hF.trans (if_pos c_62)
          refine lv_aload_n hx hb d_C_write_65 rfl (lv_at hl 0 rfl) ?_
          refine va_get (D := D) (ci := 2) (v := .ref g.2.2.2.2.1.1.1) (C := R_C) (T := T_C) (N := 10) hx hb htb i_C hown hK hP 0 rfl rfl 3 (by decide) (htb _ k_C_31) (fun _ h9 => h9) rfl d_C_write_66 ?_
          refine lv_aload_n hx hb d_C_write_69 rfl (lv_at hl 0 rfl) ?_
          refine va_get (D := D) (ci := 2) (v := .ref g.2.2.2.2.1.1.1) (C := R_C) (T := T_C) (N := 10) hx hb htb i_C hown hK hP 0 rfl rfl 3 (by decide) (htb _ k_C_31) (fun _ h9 => h9) rfl d_C_write_70 ?_
          refine lv_iconst (v := 0) hx hb d_C_write_73 (by decide) ?_
          refine lv_iload_n hx hb d_C_write_74 rfl (lv_at hl 2 rfl) ?_
          refine cpi (As := [.int (0 : Int32), .int p1]) (rest := [.ref g.2.2.2.2.1.1.1]) ⟨hx, hb, hml, hown, htb⟩ (c_B_find l D cI cZ g.2.2.2.2.1 hg.2.2.1 z.2.2.1 (0 : Int32) p1) (cwv (n := 2) htb cd_B_find k_C_72 in_B_find se_B_find ini_B hd_B_find ⟨Nat.le_of_ble_eq_true rfl, Nat.le_of_ble_eq_true rfl⟩) hK hP [7, 8, 9, 10, 11, 12] rfl (ci := 0) rfl rfl rfl hl.1 rfl (Nat.le_of_ble_eq_true rfl) d_C_write_75 ⟨Nat.zero_le _, Nat.zero_le _⟩ (fun r_75 hw_75 => ?_)
          have hF := hF.trans (bnd_eq hw_75)
          refine cwv_ (As := [.int r_75]) (rest := []) (wldC := fun u => (wC cI cZ g (z.1, z.2.1, u, z.2.2.2.1, z.2.2.2.2.1, z.2.2.2.2.2))) ⟨hx, hb, hml, hown, htb⟩ (c_B_drop l D cI cZ g.2.2.2.2.1 hg.2.2.1 z.2.2.1 r_75) (cwv (n := 1) htb cd_B_drop k_C_174 in_B_drop se_B_drop ini_B hd_B_drop ⟨Nat.le_of_ble_eq_true rfl, Nat.le_of_ble_eq_true rfl⟩) hK hP hD hS [7, 8, 9, 10, 11, 12] [0, 1, 2, 3, 4, 5, 6, 13, 14, 15, 16, 17, 18] [0, 1, 2, 3, 4, 5, 6, 13, 14, 15, 16, 17, 18, 7, 8, 9, 10, 11, 12] rfl rfl (by decide) (by decide) rfl (fun _ => rfl) (fun _ => rfl) (ci := 0) rfl rfl rfl hl.1 rfl (Nat.le_of_ble_eq_true rfl) d_C_write_78 ⟨Nat.zero_le _, Nat.zero_le _⟩ (fun u_78 H locs hw_78 hP hD hS => ?_)
          have hP : va_P D vwCl (wC cI cZ g (z.1, z.2.1, u_78, z.2.2.2.1, z.2.2.2.2.1, z.2.2.2.2.2)) H := hP
          have hD : va_D _ (wC cI cZ g (z.1, z.2.1, u_78, z.2.2.2.1, z.2.2.2.2.1, z.2.2.2.2.2)) := hD
          have hF := hF.trans (bnd_eq hw_78)
          have hl := lv_sub (l' := [(0, .ref g.1.1), (1, .int p0), (2, .int p1)]) hl [0, 1, 2] rfl
          exact cut_81 (z.1, z.2.1, u_78, z.2.2.2.1, z.2.2.2.2.1, z.2.2.2.2.2) _ _ _ hF hP hD hS hl
      · have hF := hF.trans (if_neg c_7)
        refine lv_iload_n hx hb d_C_write_10 rfl (lv_at hl 3 rfl) ?_
        refine lv_iload_n hx hb d_C_write_11 rfl (lv_at hl 1 rfl) ?_
        refine lv_icmp_ne (tgt := 19) hx hb d_C_write_12 (by decide) (fun c_12 => ?_) (fun c_12 => ?_)
        · have hF := hF.trans (if_neg c_12)
          refine lv_aload_n hx hb d_C_write_19 rfl (lv_at hl 0 rfl) ?_
          refine va_get (D := D) (ci := 2) (v := .ref g.2.2.2.1.1.1) (C := R_C) (T := T_C) (N := 10) hx hb htb i_C hown hK hP 0 rfl rfl 2 (by decide) (htb _ k_C_27) (fun _ h9 => h9) rfl d_C_write_20 ?_
          refine lv_iload_n hx hb d_C_write_23 rfl (lv_at hl 3 rfl) ?_
          refine lv_iload_n hx hb d_C_write_24 rfl (lv_at hl 2 rfl) ?_
          refine cpi (As := [.int v3, .int p1]) (rest := []) ⟨hx, hb, hml, hown, htb⟩ (c_B_find l D cI cZ g.2.2.2.1 hg.2.1 z.2.1 v3 p1) (cwv (n := 2) htb cd_B_find k_C_72 in_B_find se_B_find ini_B hd_B_find ⟨Nat.le_of_ble_eq_true rfl, Nat.le_of_ble_eq_true rfl⟩) hK hP [1, 2, 3, 4, 5, 6] rfl (ci := 0) rfl rfl rfl hl.1 rfl (Nat.le_of_ble_eq_true rfl) d_C_write_25 ⟨Nat.zero_le _, Nat.zero_le _⟩ (fun r_25 hw_25 => ?_)
          have hF := hF.trans (bnd_eq hw_25)
          refine lv_istore (lv' := [(4, .int r_25), (0, .ref g.1.1), (1, .int p0), (2, .int p1), (3, .int v3)]) hx hb d_C_write_28 hl (by decide) rfl (fun ls hl => ?_)
          refine lv_iload hx hb d_C_write_30 (lv_at hl 0 rfl) ?_
          refine lv_iconst (v := -1) hx hb d_C_write_32 (by decide) ?_
          refine lv_icmp_eq (tgt := 51) hx hb d_C_write_33 (by decide) (fun c_33 => ?_) (fun c_33 => ?_)
          · have hF := hF.trans (if_pos c_33)
            refine lv_iinc (v := (v3 + 1)) (lv' := [(3, .int (v3 + 1)), (4, .int r_25), (0, .ref g.1.1), (1, .int p0), (2, .int p1)]) hx hb d_C_write_51 hl (k := 4) rfl rfl (by decide) rfl (fun ls hl => ?_)
            refine lv_goto (tgt := 2) hx hb d_C_write_54 (by decide) ?_
            have hl := lv_sub (l' := [(0, .ref g.1.1), (1, .int p0), (2, .int p1), (3, .int (v3 + 1))]) hl [2, 3, 4, 0] rfl
            exact ih (v3 + 1) z _ _ _ (Nat.lt_of_lt_of_le (mu_dec c_7) (Nat.le_of_lt_succ hm)) hF hP hD hS hl
          · have hF := hF.trans (if_neg c_33)
            refine lv_aload_n hx hb d_C_write_36 rfl (lv_at hl 1 rfl) ?_
            refine va_get (D := D) (ci := 2) (v := .ref g.2.2.2.1.1.1) (C := R_C) (T := T_C) (N := 10) hx hb htb i_C hown hK hP 0 rfl rfl 2 (by decide) (htb _ k_C_27) (fun _ h9 => h9) rfl d_C_write_37 ?_
            refine lv_iload hx hb d_C_write_40 (lv_at hl 0 rfl) ?_
            refine cwv_ (As := [.int r_25]) (rest := []) (wldC := fun u => (wC cI cZ g (z.1, u, z.2.2.1, z.2.2.2.1, z.2.2.2.2.1, z.2.2.2.2.2))) ⟨hx, hb, hml, hown, htb⟩ (c_B_drop l D cI cZ g.2.2.2.1 hg.2.1 z.2.1 r_25) (cwv (n := 1) htb cd_B_drop k_C_174 in_B_drop se_B_drop ini_B hd_B_drop ⟨Nat.le_of_ble_eq_true rfl, Nat.le_of_ble_eq_true rfl⟩) hK hP hD hS [1, 2, 3, 4, 5, 6] [0, 7, 8, 9, 10, 11, 12, 13, 14, 15, 16, 17, 18] [0, 13, 14, 15, 16, 17, 18, 1, 2, 3, 4, 5, 6, 7, 8, 9, 10, 11, 12] rfl rfl (by decide) (by decide) rfl (fun _ => rfl) (fun _ => rfl) (ci := 0) rfl rfl rfl hl.1 rfl (Nat.le_of_ble_eq_true rfl) d_C_write_42 ⟨Nat.zero_le _, Nat.zero_le _⟩ (fun u_42 H locs hw_42 hP hD hS => ?_)
            have hP : va_P D vwCl (wC cI cZ g (z.1, u_42, z.2.2.1, z.2.2.2.1, z.2.2.2.2.1, z.2.2.2.2.2)) H := hP
            have hD : va_D _ (wC cI cZ g (z.1, u_42, z.2.2.1, z.2.2.2.1, z.2.2.2.2.1, z.2.2.2.2.2)) := hD
            have hF := hF.trans (bnd_eq hw_42)
            refine lv_aload_n hx hb d_C_write_45 rfl (lv_at hl 1 rfl) ?_
            refine lv_iload_n hx hb d_C_write_46 rfl (lv_at hl 4 rfl) ?_
            refine lv_iconst (v := 5) hx hb d_C_write_47 (by decide) ?_
            refine cwv_ (As := [.int v3, .int (5 : Int32)]) (rest := []) (wldC := fun u => (wC cI cZ g u)) ⟨hx, hb, hml, hown, htb⟩ (c_C_tally l D cI cZ g hg (z.1, u_42, z.2.2.1, z.2.2.2.1, z.2.2.2.2.1, z.2.2.2.2.2) v3 (5 : Int32)) (cwv (n := 2) htb cd_C_tally k_C_68 in_C_tally se_C_tally ini_C hd_C_tally ⟨Nat.le_of_ble_eq_true rfl, Nat.le_of_ble_eq_true rfl⟩) hK hP hD hS [0, 1, 2, 3, 4, 5, 6, 7, 8, 9, 10, 11, 12, 13, 14, 15, 16, 17, 18] [] [0, 1, 2, 3, 4, 5, 6, 7, 8, 9, 10, 11, 12, 13, 14, 15, 16, 17, 18] rfl rfl (by decide) (by decide) rfl (fun _ => rfl) (fun _ => rfl) (ci := 2) rfl rfl rfl hl.1 rfl (Nat.le_of_ble_eq_true rfl) d_C_write_48 ⟨Nat.zero_le _, Nat.zero_le _⟩ (fun u_48 H locs hw_48 hP hD hS => ?_)
            have hP : va_P D vwCl (wC cI cZ g u_48) H := hP
            have hD : va_D _ (wC cI cZ g u_48) := hD
            have hF := hF.trans (bnd_eq hw_48)
            refine lv_iinc (v := (v3 + 1)) (lv' := [(3, .int (v3 + 1)), (4, .int r_25), (0, .ref g.1.1), (1, .int p0), (2, .int p1)]) hx hb d_C_write_51 hl (k := 4) rfl rfl (by decide) rfl (fun ls hl => ?_)
            refine lv_goto (tgt := 2) hx hb d_C_write_54 (by decide) ?_
            have hl := lv_sub (l' := [(0, .ref g.1.1), (1, .int p0), (2, .int p1), (3, .int (v3 + 1))]) hl [2, 3, 4, 0] rfl
            exact ih (v3 + 1) u_48 _ _ _ (Nat.lt_of_lt_of_le (mu_dec c_7) (Nat.le_of_lt_succ hm)) hF hP hD hS hl
        · have hF := hF.trans (if_pos c_12)
          refine lv_iconst (v := -1) hx hb d_C_write_15 (by decide) ?_
          refine lv_goto (tgt := 28) hx hb d_C_write_16 (by decide) ?_
          refine lv_istore (lv' := [(4, .int (-1 : Int32)), (0, .ref g.1.1), (1, .int p0), (2, .int p1), (3, .int v3)]) hx hb d_C_write_28 hl (by decide) rfl (fun ls hl => ?_)
          refine lv_iload hx hb d_C_write_30 (lv_at hl 0 rfl) ?_
          refine lv_iconst (v := -1) hx hb d_C_write_32 (by decide) ?_
          refine lv_icmp_eq (tgt := 51) hx hb d_C_write_33 (by decide) (fun c_33 => ?_) (fun c_33 => ?_)
          · have hF := hF.trans (if_pos c_33)
            refine lv_iinc (v := (v3 + 1)) (lv' := [(3, .int (v3 + 1)), (4, .int (-1 : Int32)), (0, .ref g.1.1), (1, .int p0), (2, .int p1)]) hx hb d_C_write_51 hl (k := 4) rfl rfl (by decide) rfl (fun ls hl => ?_)
            refine lv_goto (tgt := 2) hx hb d_C_write_54 (by decide) ?_
            have hl := lv_sub (l' := [(0, .ref g.1.1), (1, .int p0), (2, .int p1), (3, .int (v3 + 1))]) hl [2, 3, 4, 0] rfl
            exact ih (v3 + 1) z _ _ _ (Nat.lt_of_lt_of_le (mu_dec c_7) (Nat.le_of_lt_succ hm)) hF hP hD hS hl
          · have hF := hF.trans (if_neg c_33)
            refine lv_aload_n hx hb d_C_write_36 rfl (lv_at hl 1 rfl) ?_
            refine va_get (D := D) (ci := 2) (v := .ref g.2.2.2.1.1.1) (C := R_C) (T := T_C) (N := 10) hx hb htb i_C hown hK hP 0 rfl rfl 2 (by decide) (htb _ k_C_27) (fun _ h9 => h9) rfl d_C_write_37 ?_
            refine lv_iload hx hb d_C_write_40 (lv_at hl 0 rfl) ?_
            refine cwv_ (As := [.int (-1 : Int32)]) (rest := []) (wldC := fun u => (wC cI cZ g (z.1, u, z.2.2.1, z.2.2.2.1, z.2.2.2.2.1, z.2.2.2.2.2))) ⟨hx, hb, hml, hown, htb⟩ (c_B_drop l D cI cZ g.2.2.2.1 hg.2.1 z.2.1 (-1 : Int32)) (cwv (n := 1) htb cd_B_drop k_C_174 in_B_drop se_B_drop ini_B hd_B_drop ⟨Nat.le_of_ble_eq_true rfl, Nat.le_of_ble_eq_true rfl⟩) hK hP hD hS [1, 2, 3, 4, 5, 6] [0, 7, 8, 9, 10, 11, 12, 13, 14, 15, 16, 17, 18] [0, 13, 14, 15, 16, 17, 18, 1, 2, 3, 4, 5, 6, 7, 8, 9, 10, 11, 12] rfl rfl (by decide) (by decide) rfl (fun _ => rfl) (fun _ => rfl) (ci := 0) rfl rfl rfl hl.1 rfl (Nat.le_of_ble_eq_true rfl) d_C_write_42 ⟨Nat.zero_le _, Nat.zero_le _⟩ (fun u_42 H locs hw_42 hP hD hS => ?_)
            have hP : va_P D vwCl (wC cI cZ g (z.1, u_42, z.2.2.1, z.2.2.2.1, z.2.2.2.2.1, z.2.2.2.2.2)) H := hP
            have hD : va_D _ (wC cI cZ g (z.1, u_42, z.2.2.1, z.2.2.2.1, z.2.2.2.2.1, z.2.2.2.2.2)) := hD
            have hF := hF.trans (bnd_eq hw_42)
            refine lv_aload_n hx hb d_C_write_45 rfl (lv_at hl 1 rfl) ?_
            refine lv_iload_n hx hb d_C_write_46 rfl (lv_at hl 4 rfl) ?_
            refine lv_iconst (v := 5) hx hb d_C_write_47 (by decide) ?_
            refine cwv_ (As := [.int v3, .int (5 : Int32)]) (rest := []) (wldC := fun u => (wC cI cZ g u)) ⟨hx, hb, hml, hown, htb⟩ (c_C_tally l D cI cZ g hg (z.1, u_42, z.2.2.1, z.2.2.2.1, z.2.2.2.2.1, z.2.2.2.2.2) v3 (5 : Int32)) (cwv (n := 2) htb cd_C_tally k_C_68 in_C_tally se_C_tally ini_C hd_C_tally ⟨Nat.le_of_ble_eq_true rfl, Nat.le_of_ble_eq_true rfl⟩) hK hP hD hS [0, 1, 2, 3, 4, 5, 6, 7, 8, 9, 10, 11, 12, 13, 14, 15, 16, 17, 18] [] [0, 1, 2, 3, 4, 5, 6, 7, 8, 9, 10, 11, 12, 13, 14, 15, 16, 17, 18] rfl rfl (by decide) (by decide) rfl (fun _ => rfl) (fun _ => rfl) (ci := 2) rfl rfl rfl hl.1 rfl (Nat.le_of_ble_eq_true rfl) d_C_write_48 ⟨Nat.zero_le _, Nat.zero_le _⟩ (fun u_48 H locs hw_48 hP hD hS => ?_)
            have hP : va_P D vwCl (wC cI cZ g u_48) H := hP
            have hD : va_D _ (wC cI cZ g u_48) := hD
            have hF := hF.trans (bnd_eq hw_48)
            refine lv_iinc (v := (v3 + 1)) (lv' := [(3, .int (v3 + 1)), (4, .int (-1 : Int32)), (0, .ref g.1.1), (1, .int p0), (2, .int p1)]) hx hb d_C_write_51 hl (k := 4) rfl rfl (by decide) rfl (fun ls hl => ?_)
            refine lv_goto (tgt := 2) hx hb d_C_write_54 (by decide) ?_
            have hl := lv_sub (l' := [(0, .ref g.1.1), (1, .int p0), (2, .int p1), (3, .int (v3 + 1))]) hl [2, 3, 4, 0] rfl
            exact ih (v3 + 1) u_48 _ _ _ (Nat.lt_of_lt_of_le (mu_dec c_7) (Nat.le_of_lt_succ hm)) hF hP hD hS hl
  have hl := lv_entry ([.ref g.1.1, .int p0, .int p1]) (n := 5) (Nat.le_of_ble_eq_true rfl)
  rw [lg_entry_eq]
  generalize (lg_sl ([.ref g.1.1, .int p0, .int p1]) ++ List.replicate (5 - (lg_sl ([.ref g.1.1, .int p0, .int p1])).length) Slot.unset).toArray = ls at hl ⊢
  have hl : lv_has ls 5 [(0, .ref g.1.1), (1, .int p0), (2, .int p1)] := hl
  have hF := M_C_write_eq g x p0 p1
  refine lv_iconst (v := 0) hx hb d_C_write_0 (by decide) ?_
  refine lv_istore_n (lv' := [(3, .int (0 : Int32)), (0, .ref g.1.1), (1, .int p0), (2, .int p1)]) hx hb d_C_write_1 rfl hl (by decide) rfl (fun ls hl => ?_)
  have hl := lv_sub (l' := [(0, .ref g.1.1), (1, .int p0), (2, .int p1), (3, .int (0 : Int32))]) hl [1, 2, 3, 0] rfl
  exact cut_2 (mu (0 : Int32) g.2.1.1 + 1) (0 : Int32) x _ _ _ (Nat.lt_succ_self _) hF hP hD hS hl

def L_C_access_98 (g : GC) (p0 p1 p2 : Int32) (v4 : Int32) (z : Cs) : Int32 × Cs := (v4, z)
theorem L_C_access_98_eq (g : GC) (p0 p1 p2 : Int32) (v4 : Int32) (z : Cs) : L_C_access_98 g p0 p1 p2 v4 z = (v4, z) := rfl
def L_C_access_81 (g : GC) (p0 p1 p2 : Int32) (v4 : Int32) (z : Cs) : Int32 × Cs := (if p2 = (1 : Int32) then (bnd (M_C_tally g z p0 (4 : Int32)) (fun u_89 => (bnd (M_C_write g u_89 p0 p1) (fun u_95 => L_C_access_98 g p0 p1 p2 v4 u_95)))) else L_C_access_98 g p0 p1 p2 v4 z)
theorem L_C_access_81_eq (g : GC) (p0 p1 p2 : Int32) (v4 : Int32) (z : Cs) : L_C_access_81 g p0 p1 p2 v4 z = (if p2 = (1 : Int32) then (bnd (M_C_tally g z p0 (4 : Int32)) (fun u_89 => (bnd (M_C_write g u_89 p0 p1) (fun u_95 => L_C_access_98 g p0 p1 p2 v4 u_95)))) else L_C_access_98 g p0 p1 p2 v4 z) := rfl
def L_C_access_24 (g : GC) (p0 p1 p2 : Int32) (z : Cs) : Int32 × Cs := (bnd (M_C_tally g z p0 (0 : Int32)) (fun u_27 => (bnd (M_B_find g.2.2.2.1 u_27.2.1 p0 p1) (fun r_39 => (if r_39 = (-1 : Int32) then (bnd (M_C_handOver g u_27 p1) (fun u_70 => (bnd2 (M_C_bring g u_70 p0 p1) (fun r_76 u_76 => L_C_access_81 g p0 p1 p2 r_76 u_76)))) else (bnd (M_B_useLast g.2.2.2.1 u_27.2.1 r_39) (fun u_56 => (bnd (M_C_tally g (u_27.1, u_56, u_27.2.2.1, u_27.2.2.2.1, u_27.2.2.2.2.1, u_27.2.2.2.2.2) p0 (1 : Int32)) (fun u_62 => L_C_access_81 g p0 p1 p2 (1 : Int32) u_62)))))))))
theorem L_C_access_24_eq (g : GC) (p0 p1 p2 : Int32) (z : Cs) : L_C_access_24 g p0 p1 p2 z = (bnd (M_C_tally g z p0 (0 : Int32)) (fun u_27 => (bnd (M_B_find g.2.2.2.1 u_27.2.1 p0 p1) (fun r_39 => (if r_39 = (-1 : Int32) then (bnd (M_C_handOver g u_27 p1) (fun u_70 => (bnd2 (M_C_bring g u_70 p0 p1) (fun r_76 u_76 => L_C_access_81 g p0 p1 p2 r_76 u_76)))) else (bnd (M_B_useLast g.2.2.2.1 u_27.2.1 r_39) (fun u_56 => (bnd (M_C_tally g (u_27.1, u_56, u_27.2.2.1, u_27.2.2.2.1, u_27.2.2.2.2.1, u_27.2.2.2.2.2) p0 (1 : Int32)) (fun u_62 => L_C_access_81 g p0 p1 p2 (1 : Int32) u_62))))))))) := rfl
def M_C_access (g : GC) (x : Cs) (p0 p1 p2 : Int32) : Int32 × Cs := (if p2 = 0 then L_C_access_24 g p0 p1 p2 x else L_C_access_24 g p0 p1 p2 x)
theorem M_C_access_eq (g : GC) (x : Cs) (p0 p1 p2 : Int32) : M_C_access g x p0 p1 p2 = (if p2 = 0 then L_C_access_24 g p0 p1 p2 x else L_C_access_24 g p0 p1 p2 x) := rfl
abbrev w_C_access : List Cond := .code y_C_access b_C_access 6 (some .int) :: tbW
abbrev rm_C_access : Room := { frames := 7, cells := 0, slots := 0, locals := 175 }
set_option maxHeartbeats 4000000 in
set_option maxRecDepth 100000 in
theorem c_C_access (l : Launch) (D : va_G) (cI cZ : ClassId) (g : GC) (hg : okC g) (x : Cs) (p0 p1 p2 : Int32) (hv0 : ¬ p0 < 0) (hv1 : p0 < g.2.1.1) (hk : p2 = 0 ∨ p2 = 1) : Met l y_C_access w_C_access rm_C_access (PcW D vwCl (tyK cI cZ) [.ref g.1.1, .int p0, .int p1, .int p2] (wC cI cZ g x)) (va_Qi (fun (r : Int32) (u : Cs) => (r, u) = M_C_access g x p0 p1 p2) (fun (u : Cs) (t : State) => va_P D vwCl (wC cI cZ g u) t.heap) (Aw (wC cI cZ g x))) 0 0 (Aw (wC cI cZ g x)) := by
  refine Met.ofW (cc := b_C_access) (maxL := 6) (ret := (some .int)) (by decide) rfl ?_
  intro p e s m args below meth c s₁ B hml hv
  obtain ⟨rfl, hP, hK, hD0⟩ := hv
  have hx := B.exec
  have hb := B.bytes
  have hr := B.returns
  have htb : ∀ w ∈ tbW, w.before _ s = true := fun w h => atoms_spec (ws := w_C_access) B.pre w (List.mem_cons_of_mem _ h)
  have hown : s.vm.findClass R_C = some m.cls := findClass_of_methodNamed B.named
  have hlocks := B.notSynchronized
  have hD : va_D (Aw (wC cI cZ g x)) (wC cI cZ g x) := ⟨hD0.1, fun k q hk => ⟨k, q.2, hk⟩⟩
  have hS : va_S (Aw (wC cI cZ g x)) s.heap s.heap [] := va_S.rf
  have cut_98 : ∀ (v4 : Int32) (z : Cs) (H : Heap) (locs : List Loc) (ls : Array Slot), M_C_access g x p0 p1 p2 = L_C_access_98 g p0 p1 p2 v4 z → va_P D vwCl (wC cI cZ g z) H → va_D (Aw (wC cI cZ g x)) (wC cI cZ g z) → va_S (Aw (wC cI cZ g x)) s.heap H locs → lv_has ls 6 [(0, .ref g.1.1), (1, .int p0), (2, .int p1), (3, .int p2), (4, .int v4)] → W p l e (headSpec w_C_access rm_C_access).room s m ([.ref g.1.1, .int p0, .int p1, .int p2] : List Value).toArray below meth c H locs 0 0 (MQ below (va_Qi (fun (r : Int32) (u : Cs) => (r, u) = M_C_access g x p0 p1 p2) (fun (u : Cs) (t : State) => va_P D vwCl (wC cI cZ g u) t.heap) (Aw (wC cI cZ g x))) ([.ref g.1.1, .int p0, .int p1, .int p2] : List Value).toArray s 0 0 (Aw (wC cI cZ g x))) (F0 m 98 ls []) := by
    intro v4 z H locs ls hF hP hD hS hl
    have hF := hF.trans (L_C_access_98_eq g p0 p1 p2 v4 z)
    refine lv_iload hx hb d_C_access_98 (lv_at hl 4 rfl) ?_
    exact W.iret (v := v4) hx hb hr (fun t ht hW => ⟨⟨v4, z, rfl, hF.symm, by dsimp only; rw [ht]; exact hP⟩, hS.F ht⟩) hS.2.2 d_C_access_100
  have cut_81 : ∀ (v4 : Int32) (z : Cs) (H : Heap) (locs : List Loc) (ls : Array Slot), M_C_access g x p0 p1 p2 = L_C_access_81 g p0 p1 p2 v4 z → va_P D vwCl (wC cI cZ g z) H → va_D (Aw (wC cI cZ g x)) (wC cI cZ g z) → va_S (Aw (wC cI cZ g x)) s.heap H locs → lv_has ls 6 [(0, .ref g.1.1), (1, .int p0), (2, .int p1), (3, .int p2), (4, .int v4)] → W p l e (headSpec w_C_access rm_C_access).room s m ([.ref g.1.1, .int p0, .int p1, .int p2] : List Value).toArray below meth c H locs 0 0 (MQ below (va_Qi (fun (r : Int32) (u : Cs) => (r, u) = M_C_access g x p0 p1 p2) (fun (u : Cs) (t : State) => va_P D vwCl (wC cI cZ g u) t.heap) (Aw (wC cI cZ g x))) ([.ref g.1.1, .int p0, .int p1, .int p2] : List Value).toArray s 0 0 (Aw (wC cI cZ g x))) (F0 m 81 ls []) := by
    intro v4 z H locs ls hF hP hD hS hl
    have hF := hF.trans (L_C_access_81_eq g p0 p1 p2 v4 z)
    refine lv_iload_n hx hb d_C_access_81 rfl (lv_at hl 3 rfl) ?_
    refine lv_iconst (v := 1) hx hb d_C_access_82 (by decide) ?_
    refine lv_icmp_ne (tgt := 98) hx hb d_C_access_83 (by decide) (fun c_83 => ?_) (fun c_83 => ?_)
    · have hF := hF.trans (if_neg c_83)
      have hl := lv_sub (l' := [(0, .ref g.1.1), (1, .int p0), (2, .int p1), (3, .int p2), (4, .int v4)]) hl [0, 1, 2, 3, 4] rfl
      exact cut_98 v4 z _ _ _ hF hP hD hS hl
    · have hF := hF.trans (if_pos c_83)
      refine lv_aload_n hx hb d_C_access_86 rfl (lv_at hl 0 rfl) ?_
      refine lv_iload_n hx hb d_C_access_87 rfl (lv_at hl 1 rfl) ?_
      refine lv_iconst (v := 4) hx hb d_C_access_88 (by decide) ?_
      refine cwv_ (As := [.int p0, .int (4 : Int32)]) (rest := []) (wldC := fun u => (wC cI cZ g u)) ⟨hx, hb, hml, hown, htb⟩ (c_C_tally l D cI cZ g hg z p0 (4 : Int32)) (cwv (n := 2) htb cd_C_tally k_C_68 in_C_tally se_C_tally ini_C hd_C_tally ⟨Nat.le_of_ble_eq_true rfl, Nat.le_of_ble_eq_true rfl⟩) hK hP hD hS [0, 1, 2, 3, 4, 5, 6, 7, 8, 9, 10, 11, 12, 13, 14, 15, 16, 17, 18] [] [0, 1, 2, 3, 4, 5, 6, 7, 8, 9, 10, 11, 12, 13, 14, 15, 16, 17, 18] rfl rfl (by decide) (by decide) rfl (fun _ => rfl) (fun _ => rfl) (ci := 2) rfl rfl rfl hl.1 rfl (Nat.le_of_ble_eq_true rfl) d_C_access_89 ⟨Nat.zero_le _, Nat.zero_le _⟩ (fun u_89 H locs hw_89 hP hD hS => ?_)
      have hP : va_P D vwCl (wC cI cZ g u_89) H := hP
      have hD : va_D _ (wC cI cZ g u_89) := hD
      have hF := hF.trans (bnd_eq hw_89)
      refine lv_aload_n hx hb d_C_access_92 rfl (lv_at hl 0 rfl) ?_
      refine lv_iload_n hx hb d_C_access_93 rfl (lv_at hl 1 rfl) ?_
      refine lv_iload_n hx hb d_C_access_94 rfl (lv_at hl 2 rfl) ?_
      refine cwv_ (As := [.int p0, .int p1]) (rest := []) (wldC := fun u => (wC cI cZ g u)) ⟨hx, hb, hml, hown, htb⟩ (c_C_write l D cI cZ g hg u_89 p0 p1) (cwv (n := 2) htb cd_C_write k_C_84 in_C_write se_C_write ini_C hd_C_write ⟨Nat.le_of_ble_eq_true rfl, Nat.le_of_ble_eq_true rfl⟩) hK hP hD hS [0, 1, 2, 3, 4, 5, 6, 7, 8, 9, 10, 11, 12, 13, 14, 15, 16, 17, 18] [] [0, 1, 2, 3, 4, 5, 6, 7, 8, 9, 10, 11, 12, 13, 14, 15, 16, 17, 18] rfl rfl (by decide) (by decide) rfl (fun _ => rfl) (fun _ => rfl) (ci := 2) rfl rfl rfl hl.1 rfl (Nat.le_of_ble_eq_true rfl) d_C_access_95 ⟨Nat.zero_le _, Nat.zero_le _⟩ (fun u_95 H locs hw_95 hP hD hS => ?_)
      have hP : va_P D vwCl (wC cI cZ g u_95) H := hP
      have hD : va_D _ (wC cI cZ g u_95) := hD
      have hF := hF.trans (bnd_eq hw_95)
      have hl := lv_sub (l' := [(0, .ref g.1.1), (1, .int p0), (2, .int p1), (3, .int p2), (4, .int v4)]) hl [0, 1, 2, 3, 4] rfl
      exact cut_98 v4 u_95 _ _ _ hF hP hD hS hl
  have cut_24 : ∀ (z : Cs) (H : Heap) (locs : List Loc) (ls : Array Slot), M_C_access g x p0 p1 p2 = L_C_access_24 g p0 p1 p2 z → va_P D vwCl (wC cI cZ g z) H → va_D (Aw (wC cI cZ g x)) (wC cI cZ g z) → va_S (Aw (wC cI cZ g x)) s.heap H locs → lv_has ls 6 [(0, .ref g.1.1), (1, .int p0), (2, .int p1), (3, .int p2)] → W p l e (headSpec w_C_access rm_C_access).room s m ([.ref g.1.1, .int p0, .int p1, .int p2] : List Value).toArray below meth c H locs 0 0 (MQ below (va_Qi (fun (r : Int32) (u : Cs) => (r, u) = M_C_access g x p0 p1 p2) (fun (u : Cs) (t : State) => va_P D vwCl (wC cI cZ g u) t.heap) (Aw (wC cI cZ g x))) ([.ref g.1.1, .int p0, .int p1, .int p2] : List Value).toArray s 0 0 (Aw (wC cI cZ g x))) (F0 m 24 ls []) := by
    intro z H locs ls hF hP hD hS hl
    have hF := hF.trans (L_C_access_24_eq g p0 p1 p2 z)
    refine lv_aload_n hx hb d_C_access_24 rfl (lv_at hl 0 rfl) ?_
    refine lv_iload_n hx hb d_C_access_25 rfl (lv_at hl 1 rfl) ?_
    refine lv_iconst (v := 0) hx hb d_C_access_26 (by decide) ?_
    refine cwv_ (As := [.int p0, .int (0 : Int32)]) (rest := []) (wldC := fun u => (wC cI cZ g u)) ⟨hx, hb, hml, hown, htb⟩ (c_C_tally l D cI cZ g hg z p0 (0 : Int32)) (cwv (n := 2) htb cd_C_tally k_C_68 in_C_tally se_C_tally ini_C hd_C_tally ⟨Nat.le_of_ble_eq_true rfl, Nat.le_of_ble_eq_true rfl⟩) hK hP hD hS [0, 1, 2, 3, 4, 5, 6, 7, 8, 9, 10, 11, 12, 13, 14, 15, 16, 17, 18] [] [0, 1, 2, 3, 4, 5, 6, 7, 8, 9, 10, 11, 12, 13, 14, 15, 16, 17, 18] rfl rfl (by decide) (by decide) rfl (fun _ => rfl) (fun _ => rfl) (ci := 2) rfl rfl rfl hl.1 rfl (Nat.le_of_ble_eq_true rfl) d_C_access_27 ⟨Nat.zero_le _, Nat.zero_le _⟩ (fun u_27 H locs hw_27 hP hD hS => ?_)
    have hP : va_P D vwCl (wC cI cZ g u_27) H := hP
    have hD : va_D _ (wC cI cZ g u_27) := hD
    have hF := hF.trans (bnd_eq hw_27)
    refine lv_iconst (v := 1) hx hb d_C_access_30 (by decide) ?_
    refine lv_istore (lv' := [(4, .int (1 : Int32)), (0, .ref g.1.1), (1, .int p0), (2, .int p1), (3, .int p2)]) hx hb d_C_access_31 hl (by decide) rfl (fun ls hl => ?_)
    refine lv_aload_n hx hb d_C_access_33 rfl (lv_at hl 1 rfl) ?_
    refine va_get (D := D) (ci := 2) (v := .ref g.2.2.2.1.1.1) (C := R_C) (T := T_C) (N := 10) hx hb htb i_C hown hK hP 0 rfl rfl 2 (by decide) (htb _ k_C_27) (fun _ h9 => h9) rfl d_C_access_34 ?_
    refine lv_iload_n hx hb d_C_access_37 rfl (lv_at hl 2 rfl) ?_
    refine lv_iload_n hx hb d_C_access_38 rfl (lv_at hl 3 rfl) ?_
    refine cpi (As := [.int p0, .int p1]) (rest := []) ⟨hx, hb, hml, hown, htb⟩ (c_B_find l D cI cZ g.2.2.2.1 hg.2.1 u_27.2.1 p0 p1) (cwv (n := 2) htb cd_B_find k_C_72 in_B_find se_B_find ini_B hd_B_find ⟨Nat.le_of_ble_eq_true rfl, Nat.le_of_ble_eq_true rfl⟩) hK hP [1, 2, 3, 4, 5, 6] rfl (ci := 0) rfl rfl rfl hl.1 rfl (Nat.le_of_ble_eq_true rfl) d_C_access_39 ⟨Nat.zero_le _, Nat.zero_le _⟩ (fun r_39 hw_39 => ?_)
    have hF := hF.trans (bnd_eq hw_39)
    refine lv_istore (lv' := [(5, .int r_39), (4, .int (1 : Int32)), (0, .ref g.1.1), (1, .int p0), (2, .int p1), (3, .int p2)]) hx hb d_C_access_42 hl (by decide) rfl (fun ls hl => ?_)
    refine lv_iload hx hb d_C_access_44 (lv_at hl 0 rfl) ?_
    refine lv_iconst (v := -1) hx hb d_C_access_46 (by decide) ?_
    refine lv_icmp_eq (tgt := 68) hx hb d_C_access_47 (by decide) (fun c_47 => ?_) (fun c_47 => ?_)
    · have hF := hF.trans (if_pos c_47)
      refine lv_aload_n hx hb d_C_access_68 rfl (lv_at hl 2 rfl) ?_
      refine lv_iload_n hx hb d_C_access_69 rfl (lv_at hl 4 rfl) ?_
      refine cwv_ (As := [.int p1]) (rest := []) (wldC := fun u => (wC cI cZ g u)) ⟨hx, hb, hml, hown, htb⟩ (c_C_handOver l D cI cZ g hg u_27 p1) (cwv (n := 1) htb cd_C_handOver k_C_78 in_C_handOver se_C_handOver ini_C hd_C_handOver ⟨Nat.le_of_ble_eq_true rfl, Nat.le_of_ble_eq_true rfl⟩) hK hP hD hS [0, 1, 2, 3, 4, 5, 6, 7, 8, 9, 10, 11, 12, 13, 14, 15, 16, 17, 18] [] [0, 1, 2, 3, 4, 5, 6, 7, 8, 9, 10, 11, 12, 13, 14, 15, 16, 17, 18] rfl rfl (by decide) (by decide) rfl (fun _ => rfl) (fun _ => rfl) (ci := 2) rfl rfl rfl hl.1 rfl (Nat.le_of_ble_eq_true rfl) d_C_access_70 ⟨Nat.zero_le _, Nat.zero_le _⟩ (fun u_70 H locs hw_70 hP hD hS => ?_)
      have hP : va_P D vwCl (wC cI cZ g u_70) H := hP
      have hD : va_D _ (wC cI cZ g u_70) := hD
      have hF := hF.trans (bnd_eq hw_70)
      refine lv_aload_n hx hb d_C_access_73 rfl (lv_at hl 2 rfl) ?_
      refine lv_iload_n hx hb d_C_access_74 rfl (lv_at hl 3 rfl) ?_
      refine lv_iload_n hx hb d_C_access_75 rfl (lv_at hl 4 rfl) ?_
      refine cwi (As := [.int p0, .int p1]) (rest := []) (wldC := fun u => (wC cI cZ g u)) ⟨hx, hb, hml, hown, htb⟩ (c_C_bring l D cI cZ g hg u_70 p0 p1) (cwv (n := 2) htb cd_C_bring k_C_81 in_C_bring se_C_bring ini_C hd_C_bring ⟨Nat.le_of_ble_eq_true rfl, Nat.le_of_ble_eq_true rfl⟩) hK hP hD hS [0, 1, 2, 3, 4, 5, 6, 7, 8, 9, 10, 11, 12, 13, 14, 15, 16, 17, 18] [] [0, 1, 2, 3, 4, 5, 6, 7, 8, 9, 10, 11, 12, 13, 14, 15, 16, 17, 18] rfl rfl (by decide) (by decide) rfl (fun _ => rfl) (fun _ => rfl) (ci := 2) rfl rfl rfl hl.1 rfl (Nat.le_of_ble_eq_true rfl) d_C_access_76 ⟨Nat.zero_le _, Nat.zero_le _⟩ (fun r_76 u_76 H locs hw_76 hP hD hS => ?_)
      have hP : va_P D vwCl (wC cI cZ g u_76) H := hP
      have hD : va_D _ (wC cI cZ g u_76) := hD
      have hF := hF.trans (bnd2_eq hw_76)
      refine lv_istore (lv' := [(4, .int r_76), (5, .int r_39), (0, .ref g.1.1), (1, .int p0), (2, .int p1), (3, .int p2)]) hx hb d_C_access_79 hl (by decide) rfl (fun ls hl => ?_)
      have hl := lv_sub (l' := [(0, .ref g.1.1), (1, .int p0), (2, .int p1), (3, .int p2), (4, .int r_76)]) hl [2, 3, 4, 5, 0] rfl
      exact cut_81 r_76 u_76 _ _ _ hF hP hD hS hl
    · have hF := hF.trans (if_neg c_47)
      refine lv_aload_n hx hb d_C_access_50 rfl (lv_at hl 2 rfl) ?_
      refine va_get (D := D) (ci := 2) (v := .ref g.2.2.2.1.1.1) (C := R_C) (T := T_C) (N := 10) hx hb htb i_C hown hK hP 0 rfl rfl 2 (by decide) (htb _ k_C_27) (fun _ h9 => h9) rfl d_C_access_51 ?_
      refine lv_iload hx hb d_C_access_54 (lv_at hl 0 rfl) ?_
      refine cwv_ (As := [.int r_39]) (rest := []) (wldC := fun u => (wC cI cZ g (u_27.1, u, u_27.2.2.1, u_27.2.2.2.1, u_27.2.2.2.2.1, u_27.2.2.2.2.2))) ⟨hx, hb, hml, hown, htb⟩ (c_B_useLast l D cI cZ g.2.2.2.1 hg.2.1 u_27.2.1 r_39) (cwv (n := 1) htb cd_B_useLast k_C_75 in_B_useLast se_B_useLast ini_B hd_B_useLast ⟨Nat.le_of_ble_eq_true rfl, Nat.le_of_ble_eq_true rfl⟩) hK hP hD hS [1, 2, 3, 4, 5, 6] [0, 7, 8, 9, 10, 11, 12, 13, 14, 15, 16, 17, 18] [0, 13, 14, 15, 16, 17, 18, 1, 2, 3, 4, 5, 6, 7, 8, 9, 10, 11, 12] rfl rfl (by decide) (by decide) rfl (fun _ => rfl) (fun _ => rfl) (ci := 0) rfl rfl rfl hl.1 rfl (Nat.le_of_ble_eq_true rfl) d_C_access_56 ⟨Nat.zero_le _, Nat.zero_le _⟩ (fun u_56 H locs hw_56 hP hD hS => ?_)
      have hP : va_P D vwCl (wC cI cZ g (u_27.1, u_56, u_27.2.2.1, u_27.2.2.2.1, u_27.2.2.2.2.1, u_27.2.2.2.2.2)) H := hP
      have hD : va_D _ (wC cI cZ g (u_27.1, u_56, u_27.2.2.1, u_27.2.2.2.1, u_27.2.2.2.2.1, u_27.2.2.2.2.2)) := hD
      have hF := hF.trans (bnd_eq hw_56)
      refine lv_aload_n hx hb d_C_access_59 rfl (lv_at hl 2 rfl) ?_
      refine lv_iload_n hx hb d_C_access_60 rfl (lv_at hl 3 rfl) ?_
      refine lv_iconst (v := 1) hx hb d_C_access_61 (by decide) ?_
      refine cwv_ (As := [.int p0, .int (1 : Int32)]) (rest := []) (wldC := fun u => (wC cI cZ g u)) ⟨hx, hb, hml, hown, htb⟩ (c_C_tally l D cI cZ g hg (u_27.1, u_56, u_27.2.2.1, u_27.2.2.2.1, u_27.2.2.2.2.1, u_27.2.2.2.2.2) p0 (1 : Int32)) (cwv (n := 2) htb cd_C_tally k_C_68 in_C_tally se_C_tally ini_C hd_C_tally ⟨Nat.le_of_ble_eq_true rfl, Nat.le_of_ble_eq_true rfl⟩) hK hP hD hS [0, 1, 2, 3, 4, 5, 6, 7, 8, 9, 10, 11, 12, 13, 14, 15, 16, 17, 18] [] [0, 1, 2, 3, 4, 5, 6, 7, 8, 9, 10, 11, 12, 13, 14, 15, 16, 17, 18] rfl rfl (by decide) (by decide) rfl (fun _ => rfl) (fun _ => rfl) (ci := 2) rfl rfl rfl hl.1 rfl (Nat.le_of_ble_eq_true rfl) d_C_access_62 ⟨Nat.zero_le _, Nat.zero_le _⟩ (fun u_62 H locs hw_62 hP hD hS => ?_)
      have hP : va_P D vwCl (wC cI cZ g u_62) H := hP
      have hD : va_D _ (wC cI cZ g u_62) := hD
      have hF := hF.trans (bnd_eq hw_62)
      refine lv_goto (tgt := 81) hx hb d_C_access_65 (by decide) ?_
      have hl := lv_sub (l' := [(0, .ref g.1.1), (1, .int p0), (2, .int p1), (3, .int p2), (4, .int (1 : Int32))]) hl [2, 3, 4, 5, 1] rfl
      exact cut_81 (1 : Int32) u_62 _ _ _ hF hP hD hS hl
  have hl := lv_entry ([.ref g.1.1, .int p0, .int p1, .int p2]) (n := 6) (Nat.le_of_ble_eq_true rfl)
  rw [lg_entry_eq]
  generalize (lg_sl ([.ref g.1.1, .int p0, .int p1, .int p2]) ++ List.replicate (6 - (lg_sl ([.ref g.1.1, .int p0, .int p1, .int p2])).length) Slot.unset).toArray = ls at hl ⊢
  have hl : lv_has ls 6 [(0, .ref g.1.1), (1, .int p0), (2, .int p1), (3, .int p2)] := hl
  have hF := M_C_access_eq g x p0 p1 p2
  refine lv_aload_n hx hb d_C_access_0 rfl (lv_at hl 0 rfl) ?_
  refine lv_iload_n hx hb d_C_access_1 rfl (lv_at hl 1 rfl) ?_
  refine cpv (As := [.int p0]) (rest := []) ⟨hx, hb, hml, hown, htb⟩ (c_C_requireCore l D cI cZ g hg x p0 hv0 hv1) (cwv (n := 1) htb cd_C_requireCore k_C_57 in_C_requireCore se_C_requireCore ini_C hd_C_requireCore ⟨Nat.le_of_ble_eq_true rfl, Nat.le_of_ble_eq_true rfl⟩) hK hP [0, 1, 2, 3, 4, 5, 6, 7, 8, 9, 10, 11, 12, 13, 14, 15, 16, 17, 18] rfl (ci := 2) rfl rfl rfl hl.1 rfl (Nat.le_of_ble_eq_true rfl) d_C_access_2 ⟨Nat.zero_le _, Nat.zero_le _⟩ (?_)
  refine lv_iload_n hx hb d_C_access_5 rfl (lv_at hl 3 rfl) ?_
  refine lv_if_eq (tgt := 24) hx hb d_C_access_6 (by decide) (fun c_6 => ?_) (fun c_6 => ?_)
  · have hF := hF.trans (if_pos c_6)
    have hl := lv_sub (l' := [(0, .ref g.1.1), (1, .int p0), (2, .int p1), (3, .int p2)]) hl [0, 1, 2, 3] rfl
    exact cut_24 x _ _ _ hF hP hD hS hl
  · have hF := hF.trans (if_neg c_6)
    refine lv_iload_n hx hb d_C_access_9 rfl (lv_at hl 3 rfl) ?_
    refine lv_iconst (v := 1) hx hb d_C_access_10 (by decide) ?_
    refine lv_icmp_eq (tgt := 24) hx hb d_C_access_11 (by decide) (fun c_11 => ?_) (fun c_11 => ?_)
    · skip
      have hl := lv_sub (l' := [(0, .ref g.1.1), (1, .int p0), (2, .int p1), (3, .int p2)]) hl [0, 1, 2, 3] rfl
      exact cut_24 x _ _ _ hF hP hD hS hl
    · exact absurd (hk.resolve_left c_6) c_11

def M_C_quota (g : GC) (x : Cs) (p0 p1 : Int32) : Int32 × Cs := ((x.2.2.2.2.1 p0.toNatClampNeg), (x.1, x.2.1, x.2.2.1, x.2.2.2.1, (upd x.2.2.2.2.1 p0.toNatClampNeg p1), x.2.2.2.2.2))
theorem M_C_quota_eq (g : GC) (x : Cs) (p0 p1 : Int32) : M_C_quota g x p0 p1 = ((x.2.2.2.2.1 p0.toNatClampNeg), (x.1, x.2.1, x.2.2.1, x.2.2.2.1, (upd x.2.2.2.2.1 p0.toNatClampNeg p1), x.2.2.2.2.2)) := rfl
abbrev w_C_quota : List Cond := .code y_C_quota b_C_quota 4 (some .int) :: tbW
abbrev rm_C_quota : Room := { frames := 1, cells := 0, slots := 0, locals := 21 }
set_option maxHeartbeats 4000000 in
set_option maxRecDepth 100000 in
theorem c_C_quota (l : Launch) (D : va_G) (cI cZ : ClassId) (g : GC) (hg : okC g) (x : Cs) (p0 p1 : Int32) (hv0 : ¬ p0 < 0) (hv1 : p0 < g.2.1.1) (hq0 : ¬ p1 < 0) (hq1 : p1 ≤ 4) : Met l y_C_quota w_C_quota rm_C_quota (PcW D vwCl (tyK cI cZ) [.ref g.1.1, .int p0, .int p1] (wC cI cZ g x)) (va_Qi (fun (r : Int32) (u : Cs) => (r, u) = M_C_quota g x p0 p1) (fun (u : Cs) (t : State) => va_P D vwCl (wC cI cZ g u) t.heap) (Aw (wC cI cZ g x))) 0 0 (Aw (wC cI cZ g x)) := by
  refine Met.ofW (cc := b_C_quota) (maxL := 4) (ret := (some .int)) (by decide) rfl ?_
  intro p e s m args below meth c s₁ B hml hv
  obtain ⟨rfl, hP, hK, hD0⟩ := hv
  have hx := B.exec
  have hb := B.bytes
  have hr := B.returns
  have htb : ∀ w ∈ tbW, w.before _ s = true := fun w h => atoms_spec (ws := w_C_quota) B.pre w (List.mem_cons_of_mem _ h)
  have hown : s.vm.findClass R_C = some m.cls := findClass_of_methodNamed B.named
  have hlocks := B.notSynchronized
  have hD : va_D (Aw (wC cI cZ g x)) (wC cI cZ g x) := ⟨hD0.1, fun k q hk => ⟨k, q.2, hk⟩⟩
  have hS : va_S (Aw (wC cI cZ g x)) s.heap s.heap [] := va_S.rf
  have hl := lv_entry ([.ref g.1.1, .int p0, .int p1]) (n := 4) (Nat.le_of_ble_eq_true rfl)
  rw [lg_entry_eq]
  generalize (lg_sl ([.ref g.1.1, .int p0, .int p1]) ++ List.replicate (4 - (lg_sl ([.ref g.1.1, .int p0, .int p1])).length) Slot.unset).toArray = ls at hl ⊢
  have hl : lv_has ls 4 [(0, .ref g.1.1), (1, .int p0), (2, .int p1)] := hl
  have hF := M_C_quota_eq g x p0 p1
  refine lv_aload_n hx hb d_C_quota_0 rfl (lv_at hl 0 rfl) ?_
  refine lv_iload_n hx hb d_C_quota_1 rfl (lv_at hl 1 rfl) ?_
  refine cpv (As := [.int p0]) (rest := []) ⟨hx, hb, hml, hown, htb⟩ (c_C_requireCore l D cI cZ g hg x p0 hv0 hv1) (cwv (n := 1) htb cd_C_requireCore k_C_57 in_C_requireCore se_C_requireCore ini_C hd_C_requireCore ⟨Nat.le_of_ble_eq_true rfl, Nat.le_of_ble_eq_true rfl⟩) hK hP [0, 1, 2, 3, 4, 5, 6, 7, 8, 9, 10, 11, 12, 13, 14, 15, 16, 17, 18] rfl (ci := 2) rfl rfl rfl hl.1 rfl (Nat.le_of_ble_eq_true rfl) d_C_quota_2 ⟨Nat.zero_le _, Nat.zero_le _⟩ (?_)
  refine lv_iload_n hx hb d_C_quota_5 rfl (lv_at hl 2 rfl) ?_
  refine lv_if_lt (tgt := 14) hx hb d_C_quota_6 (by decide) (fun c_6 => ?_) (fun c_6 => ?_)
  · exact absurd c_6 hq0
  · skip
    refine lv_iload_n hx hb d_C_quota_9 rfl (lv_at hl 2 rfl) ?_
    refine lv_iconst (v := 4) hx hb d_C_quota_10 (by decide) ?_
    refine lv_icmp_le (tgt := 24) hx hb d_C_quota_11 (by decide) (fun c_11 => ?_) (fun c_11 => ?_)
    · skip
      refine lv_aload_n hx hb d_C_quota_24 rfl (lv_at hl 0 rfl) ?_
      refine va_get (D := D) (ci := 2) (v := .ref g.1.2.1) (C := R_C) (T := T_C) (N := 10) hx hb htb i_C hown hK hP 0 rfl rfl 5 (by decide) (htb _ k_C_41) (fun _ h9 => h9) rfl d_C_quota_25 ?_
      refine lv_iload_n hx hb d_C_quota_28 rfl (lv_at hl 1 rfl) ?_
      refine va_iald hx hb hK hP 17 0 rfl rfl (core_in hg.1 hv0 hv1) d_C_quota_29 ?_
      refine lv_istore_n (lv' := [(3, .int (x.2.2.2.2.1 p0.toNatClampNeg)), (0, .ref g.1.1), (1, .int p0), (2, .int p1)]) hx hb d_C_quota_30 rfl hl (by decide) rfl (fun ls hl => ?_)
      refine lv_aload_n hx hb d_C_quota_31 rfl (lv_at hl 1 rfl) ?_
      refine va_get (D := D) (ci := 2) (v := .ref g.1.2.1) (C := R_C) (T := T_C) (N := 10) hx hb htb i_C hown hK hP 0 rfl rfl 5 (by decide) (htb _ k_C_41) (fun _ h9 => h9) rfl d_C_quota_32 ?_
      refine lv_iload_n hx hb d_C_quota_35 rfl (lv_at hl 2 rfl) ?_
      refine lv_iload_n hx hb d_C_quota_36 rfl (lv_at hl 3 rfl) ?_
      refine va_iast hx hb hK hP hD hS 17 0 rfl rfl (core_in hg.1 hv0 hv1) d_C_quota_37 (fun H locs hP hD hS => ?_)
      have hP : va_P D vwCl (wC cI cZ g (x.1, x.2.1, x.2.2.1, x.2.2.2.1, (upd x.2.2.2.2.1 p0.toNatClampNeg p1), x.2.2.2.2.2)) H := hP
      have hD : va_D _ (wC cI cZ g (x.1, x.2.1, x.2.2.1, x.2.2.2.1, (upd x.2.2.2.2.1 p0.toNatClampNeg p1), x.2.2.2.2.2)) := hD
      refine lv_iload_n hx hb d_C_quota_38 rfl (lv_at hl 0 rfl) ?_
      exact W.iret (v := (x.2.2.2.2.1 p0.toNatClampNeg)) hx hb hr (fun t ht hW => ⟨⟨(x.2.2.2.2.1 p0.toNatClampNeg), (x.1, x.2.1, x.2.2.1, x.2.2.2.1, (upd x.2.2.2.2.1 p0.toNatClampNeg p1), x.2.2.2.2.2), rfl, hF.symm, by dsimp only; rw [ht]; exact hP⟩, hS.F ht⟩) hS.2.2 d_C_quota_39
    · exact absurd hq1 c_11

def M_C_bypass (g : GC) (x : Cs) (p0 p1 : Int32) : Int32 × Cs := (if x.1.2.1 < x.1.1 then ((0 : Int32), ((p0, p1, x.1.2.2), x.2.1, x.2.2.1, x.2.2.2.1, x.2.2.2.2.1, x.2.2.2.2.2)) else ((1 : Int32), ((p0, p1, x.1.2.2), x.2.1, x.2.2.1, x.2.2.2.1, x.2.2.2.2.1, x.2.2.2.2.2)))
theorem M_C_bypass_eq (g : GC) (x : Cs) (p0 p1 : Int32) : M_C_bypass g x p0 p1 = (if x.1.2.1 < x.1.1 then ((0 : Int32), ((p0, p1, x.1.2.2), x.2.1, x.2.2.1, x.2.2.2.1, x.2.2.2.2.1, x.2.2.2.2.2)) else ((1 : Int32), ((p0, p1, x.1.2.2), x.2.1, x.2.2.1, x.2.2.2.1, x.2.2.2.2.1, x.2.2.2.2.2))) := rfl
abbrev w_C_bypass : List Cond := .code y_C_bypass b_C_bypass 4 (some .boolean) :: tbW
abbrev rm_C_bypass : Room := { frames := 0, cells := 0, slots := 0, locals := 0 }
set_option maxHeartbeats 4000000 in
set_option maxRecDepth 100000 in
theorem c_C_bypass (l : Launch) (D : va_G) (cI cZ : ClassId) (g : GC) (hg : okC g) (x : Cs) (p0 p1 : Int32) : Met l y_C_bypass w_C_bypass rm_C_bypass (PcW D vwCl (tyK cI cZ) [.ref g.1.1, .int p0, .int p1] (wC cI cZ g x)) (va_Qi (fun (r : Int32) (u : Cs) => (r, u) = M_C_bypass g x p0 p1) (fun (u : Cs) (t : State) => va_P D vwCl (wC cI cZ g u) t.heap) (Aw (wC cI cZ g x))) 0 0 (Aw (wC cI cZ g x)) := by
  refine Met.ofW (cc := b_C_bypass) (maxL := 4) (ret := (some .boolean)) (by decide) rfl ?_
  intro p e s m args below meth c s₁ B hml hv
  obtain ⟨rfl, hP, hK, hD0⟩ := hv
  have hx := B.exec
  have hb := B.bytes
  have hr := B.returns
  have htb : ∀ w ∈ tbW, w.before _ s = true := fun w h => atoms_spec (ws := w_C_bypass) B.pre w (List.mem_cons_of_mem _ h)
  have hown : s.vm.findClass R_C = some m.cls := findClass_of_methodNamed B.named
  have hlocks := B.notSynchronized
  have hD : va_D (Aw (wC cI cZ g x)) (wC cI cZ g x) := ⟨hD0.1, fun k q hk => ⟨k, q.2, hk⟩⟩
  have hS : va_S (Aw (wC cI cZ g x)) s.heap s.heap [] := va_S.rf
  have hl := lv_entry ([.ref g.1.1, .int p0, .int p1]) (n := 4) (Nat.le_of_ble_eq_true rfl)
  rw [lg_entry_eq]
  generalize (lg_sl ([.ref g.1.1, .int p0, .int p1]) ++ List.replicate (4 - (lg_sl ([.ref g.1.1, .int p0, .int p1])).length) Slot.unset).toArray = ls at hl ⊢
  have hl : lv_has ls 4 [(0, .ref g.1.1), (1, .int p0), (2, .int p1)] := hl
  have hF := M_C_bypass_eq g x p0 p1
  refine lv_aload_n hx hb d_C_bypass_0 rfl (lv_at hl 0 rfl) ?_
  refine va_get (D := D) (ci := 2) (v := .int x.1.1) (C := R_C) (T := T_C) (N := 10) hx hb htb i_C hown hK hP 0 rfl rfl 7 (by decide) (htb _ k_C_48) (fun _ h9 => h9) rfl d_C_bypass_1 ?_
  refine lv_aload_n hx hb d_C_bypass_4 rfl (lv_at hl 0 rfl) ?_
  refine va_get (D := D) (ci := 2) (v := .int x.1.2.1) (C := R_C) (T := T_C) (N := 10) hx hb htb i_C hown hK hP 0 rfl rfl 8 (by decide) (htb _ k_C_51) (fun _ h9 => h9) rfl d_C_bypass_5 ?_
  refine lv_icmp_gt (tgt := 15) hx hb d_C_bypass_8 (by decide) (fun c_8 => ?_) (fun c_8 => ?_)
  · have hF := hF.trans (if_pos c_8)
    refine lv_iconst (v := 0) hx hb d_C_bypass_15 (by decide) ?_
    refine lv_istore_n (lv' := [(3, .int (0 : Int32)), (0, .ref g.1.1), (1, .int p0), (2, .int p1)]) hx hb d_C_bypass_16 rfl hl (by decide) rfl (fun ls hl => ?_)
    refine lv_aload_n hx hb d_C_bypass_17 rfl (lv_at hl 1 rfl) ?_
    refine lv_iload_n hx hb d_C_bypass_18 rfl (lv_at hl 2 rfl) ?_
    refine va_put (D := D) (ci := 2) (v := .int p0) (ty := .int) (C := R_C) (T := T_C) (N := 10) hx hb htb i_C ty_C tyo_C nm_C hown hK hP hD hS 0 rfl rfl 7 (by decide) (htb _ k_C_48) (fun _ h9 => h9) rfl (by decide +kernel) rfl rfl (Nat.le_of_ble_eq_true rfl) d_C_bypass_19 (fun H locs hP hD hS => ?_)
    have hP : va_P D vwCl (wC cI cZ g ((p0, x.1.2.1, x.1.2.2), x.2.1, x.2.2.1, x.2.2.2.1, x.2.2.2.2.1, x.2.2.2.2.2)) H := hP
    have hD : va_D _ (wC cI cZ g ((p0, x.1.2.1, x.1.2.2), x.2.1, x.2.2.1, x.2.2.2.1, x.2.2.2.2.1, x.2.2.2.2.2)) := hD
    refine lv_aload_n hx hb d_C_bypass_22 rfl (lv_at hl 1 rfl) ?_
    refine lv_iload_n hx hb d_C_bypass_23 rfl (lv_at hl 3 rfl) ?_
    refine va_put (D := D) (ci := 2) (v := .int p1) (ty := .int) (C := R_C) (T := T_C) (N := 10) hx hb htb i_C ty_C tyo_C nm_C hown hK hP hD hS 0 rfl rfl 8 (by decide) (htb _ k_C_51) (fun _ h9 => h9) rfl (by decide +kernel) rfl rfl (Nat.le_of_ble_eq_true rfl) d_C_bypass_24 (fun H locs hP hD hS => ?_)
    have hP : va_P D vwCl (wC cI cZ g ((p0, p1, x.1.2.2), x.2.1, x.2.2.1, x.2.2.2.1, x.2.2.2.2.1, x.2.2.2.2.2)) H := hP
    have hD : va_D _ (wC cI cZ g ((p0, p1, x.1.2.2), x.2.1, x.2.2.1, x.2.2.2.1, x.2.2.2.2.1, x.2.2.2.2.2)) := hD
    refine lv_iload_n hx hb d_C_bypass_27 rfl (lv_at hl 0 rfl) ?_
    exact W.zret (v := (0 : Int32)) (ty := .boolean) hx hb hr rfl (fun t ht hW => ⟨⟨(0 : Int32), ((p0, p1, x.1.2.2), x.2.1, x.2.2.1, x.2.2.2.1, x.2.2.2.2.1, x.2.2.2.2.2), rfl, hF.symm, by dsimp only; rw [ht]; exact hP⟩, hS.F ht⟩) hS.2.2 d_C_bypass_28
  · have hF := hF.trans (if_neg c_8)
    refine lv_iconst (v := 1) hx hb d_C_bypass_11 (by decide) ?_
    refine lv_goto (tgt := 16) hx hb d_C_bypass_12 (by decide) ?_
    refine lv_istore_n (lv' := [(3, .int (1 : Int32)), (0, .ref g.1.1), (1, .int p0), (2, .int p1)]) hx hb d_C_bypass_16 rfl hl (by decide) rfl (fun ls hl => ?_)
    refine lv_aload_n hx hb d_C_bypass_17 rfl (lv_at hl 1 rfl) ?_
    refine lv_iload_n hx hb d_C_bypass_18 rfl (lv_at hl 2 rfl) ?_
    refine va_put (D := D) (ci := 2) (v := .int p0) (ty := .int) (C := R_C) (T := T_C) (N := 10) hx hb htb i_C ty_C tyo_C nm_C hown hK hP hD hS 0 rfl rfl 7 (by decide) (htb _ k_C_48) (fun _ h9 => h9) rfl (by decide +kernel) rfl rfl (Nat.le_of_ble_eq_true rfl) d_C_bypass_19 (fun H locs hP hD hS => ?_)
    have hP : va_P D vwCl (wC cI cZ g ((p0, x.1.2.1, x.1.2.2), x.2.1, x.2.2.1, x.2.2.2.1, x.2.2.2.2.1, x.2.2.2.2.2)) H := hP
    have hD : va_D _ (wC cI cZ g ((p0, x.1.2.1, x.1.2.2), x.2.1, x.2.2.1, x.2.2.2.1, x.2.2.2.2.1, x.2.2.2.2.2)) := hD
    refine lv_aload_n hx hb d_C_bypass_22 rfl (lv_at hl 1 rfl) ?_
    refine lv_iload_n hx hb d_C_bypass_23 rfl (lv_at hl 3 rfl) ?_
    refine va_put (D := D) (ci := 2) (v := .int p1) (ty := .int) (C := R_C) (T := T_C) (N := 10) hx hb htb i_C ty_C tyo_C nm_C hown hK hP hD hS 0 rfl rfl 8 (by decide) (htb _ k_C_51) (fun _ h9 => h9) rfl (by decide +kernel) rfl rfl (Nat.le_of_ble_eq_true rfl) d_C_bypass_24 (fun H locs hP hD hS => ?_)
    have hP : va_P D vwCl (wC cI cZ g ((p0, p1, x.1.2.2), x.2.1, x.2.2.1, x.2.2.2.1, x.2.2.2.2.1, x.2.2.2.2.2)) H := hP
    have hD : va_D _ (wC cI cZ g ((p0, p1, x.1.2.2), x.2.1, x.2.2.1, x.2.2.2.1, x.2.2.2.2.1, x.2.2.2.2.2)) := hD
    refine lv_iload_n hx hb d_C_bypass_27 rfl (lv_at hl 0 rfl) ?_
    exact W.zret (v := (1 : Int32)) (ty := .boolean) hx hb hr rfl (fun t ht hW => ⟨⟨(1 : Int32), ((p0, p1, x.1.2.2), x.2.1, x.2.2.1, x.2.2.2.1, x.2.2.2.2.1, x.2.2.2.2.2), rfl, hF.symm, by dsimp only; rw [ht]; exact hP⟩, hS.F ht⟩) hS.2.2 d_C_bypass_28

def L_C_flush_79 (g : GC) : Nat → Int32 → Int32 → Cs → Int32 × Cs
  | 0, _, _, z => (0, z)
  | n + 1, v1, v2, z => (bnd (M_B_slots g.2.2.2.1 z.2.1) (fun r_84 => (if r_84 ≤ v2 then (bnd (M_B_clear g.2.2.2.1 z.2.1) (fun u_134 => (bnd (M_B_clear g.2.2.2.2.1 z.2.2.1) (fun u_141 => ((z.2.2.2.1.1 - v1), (z.1, u_134, u_141, z.2.2.2.1, z.2.2.2.2.1, z.2.2.2.2.2)))))) else (bnd (M_B_isWritten g.2.2.2.1 z.2.1 v2) (fun r_95 => (if r_95 = 0 then L_C_flush_79 g n v1 (v2 + 1) z else (bnd (M_B_lineAt g.2.2.2.1 z.2.1 v2) (fun r_110 => (bnd (M_B_versionAt g.2.2.2.1 z.2.1 v2) (fun r_118 => (bnd (M_V_writeBack g.2.2.2.2.2 z.2.2.2.1 r_110 r_118) (fun u_121 => L_C_flush_79 g n v1 (v2 + 1) (z.1, z.2.1, z.2.2.1, u_121, z.2.2.2.2.1, z.2.2.2.2.2)))))))))))))
theorem L_C_flush_79_eq (g : GC) (n : Nat) (v1 v2 : Int32) (z : Cs) : L_C_flush_79 g (n + 1) v1 v2 z = (bnd (M_B_slots g.2.2.2.1 z.2.1) (fun r_84 => (if r_84 ≤ v2 then (bnd (M_B_clear g.2.2.2.1 z.2.1) (fun u_134 => (bnd (M_B_clear g.2.2.2.2.1 z.2.2.1) (fun u_141 => ((z.2.2.2.1.1 - v1), (z.1, u_134, u_141, z.2.2.2.1, z.2.2.2.2.1, z.2.2.2.2.2)))))) else (bnd (M_B_isWritten g.2.2.2.1 z.2.1 v2) (fun r_95 => (if r_95 = 0 then L_C_flush_79 g n v1 (v2 + 1) z else (bnd (M_B_lineAt g.2.2.2.1 z.2.1 v2) (fun r_110 => (bnd (M_B_versionAt g.2.2.2.1 z.2.1 v2) (fun r_118 => (bnd (M_V_writeBack g.2.2.2.2.2 z.2.2.2.1 r_110 r_118) (fun u_121 => L_C_flush_79 g n v1 (v2 + 1) (z.1, z.2.1, z.2.2.1, u_121, z.2.2.2.2.1, z.2.2.2.2.2))))))))))))) := by first | rfl | rw [L_C_flush_79]
def L_C_flush_10 (g : GC) : Nat → Int32 → Int32 → Cs → Int32 × Cs
  | 0, _, _, z => (0, z)
  | n + 1, v1, v2, z => (bnd (M_B_slots g.2.2.2.2.1 z.2.2.1) (fun r_15 => (if r_15 ≤ v2 then L_C_flush_79 g (mu (0 : Int32) (nI g.2.2.2.1.2.2.2) + 1) v1 (0 : Int32) z else (bnd (M_B_isWritten g.2.2.2.2.1 z.2.2.1 v2) (fun r_26 => (if r_26 = 0 then L_C_flush_10 g n v1 (v2 + 1) z else (bnd (M_B_lineAt g.2.2.2.2.1 z.2.2.1 v2) (fun r_38 => (bnd (M_C_writtenInFirst g z r_38) (fun r_41 => (if r_41 = (-1 : Int32) then (bnd (M_B_lineAt g.2.2.2.2.1 z.2.2.1 v2) (fun r_57 => (bnd (M_B_versionAt g.2.2.2.2.1 z.2.2.1 v2) (fun r_65 => (bnd (M_V_writeBack g.2.2.2.2.2 z.2.2.2.1 r_57 r_65) (fun u_68 => L_C_flush_10 g n v1 (v2 + 1) (z.1, z.2.1, z.2.2.1, u_68, z.2.2.2.2.1, z.2.2.2.2.2))))))) else L_C_flush_10 g n v1 (v2 + 1) z)))))))))))
theorem L_C_flush_10_eq (g : GC) (n : Nat) (v1 v2 : Int32) (z : Cs) : L_C_flush_10 g (n + 1) v1 v2 z = (bnd (M_B_slots g.2.2.2.2.1 z.2.2.1) (fun r_15 => (if r_15 ≤ v2 then L_C_flush_79 g (mu (0 : Int32) (nI g.2.2.2.1.2.2.2) + 1) v1 (0 : Int32) z else (bnd (M_B_isWritten g.2.2.2.2.1 z.2.2.1 v2) (fun r_26 => (if r_26 = 0 then L_C_flush_10 g n v1 (v2 + 1) z else (bnd (M_B_lineAt g.2.2.2.2.1 z.2.2.1 v2) (fun r_38 => (bnd (M_C_writtenInFirst g z r_38) (fun r_41 => (if r_41 = (-1 : Int32) then (bnd (M_B_lineAt g.2.2.2.2.1 z.2.2.1 v2) (fun r_57 => (bnd (M_B_versionAt g.2.2.2.2.1 z.2.2.1 v2) (fun r_65 => (bnd (M_V_writeBack g.2.2.2.2.2 z.2.2.2.1 r_57 r_65) (fun u_68 => L_C_flush_10 g n v1 (v2 + 1) (z.1, z.2.1, z.2.2.1, u_68, z.2.2.2.2.1, z.2.2.2.2.2))))))) else L_C_flush_10 g n v1 (v2 + 1) z))))))))))) := by first | rfl | rw [L_C_flush_10]
def M_C_flush (g : GC) (x : Cs) : Int32 × Cs := L_C_flush_10 g (mu (0 : Int32) (nI g.2.2.2.2.1.2.2.2) + 1) x.2.2.2.1.1 (0 : Int32) x
theorem M_C_flush_eq (g : GC) (x : Cs) : M_C_flush g x = L_C_flush_10 g (mu (0 : Int32) (nI g.2.2.2.2.1.2.2.2) + 1) x.2.2.2.1.1 (0 : Int32) x := rfl
abbrev w_C_flush : List Cond := .code y_C_flush b_C_flush 3 (some .int) :: tbW
abbrev rm_C_flush : Room := { frames := 4, cells := 0, slots := 0, locals := 91 }
set_option maxHeartbeats 4000000 in
set_option maxRecDepth 100000 in
theorem c_C_flush (l : Launch) (D : va_G) (cI cZ : ClassId) (g : GC) (hg : okC g) (x : Cs) : Met l y_C_flush w_C_flush rm_C_flush (PcW D vwCl (tyK cI cZ) [.ref g.1.1] (wC cI cZ g x)) (va_Qi (fun (r : Int32) (u : Cs) => (r, u) = M_C_flush g x) (fun (u : Cs) (t : State) => va_P D vwCl (wC cI cZ g u) t.heap) (Aw (wC cI cZ g x))) 0 0 (Aw (wC cI cZ g x)) := by
  refine Met.ofW (cc := b_C_flush) (maxL := 3) (ret := (some .int)) (by decide) rfl ?_
  intro p e s m args below meth c s₁ B hml hv
  obtain ⟨rfl, hP, hK, hD0⟩ := hv
  have hx := B.exec
  have hb := B.bytes
  have hr := B.returns
  have htb : ∀ w ∈ tbW, w.before _ s = true := fun w h => atoms_spec (ws := w_C_flush) B.pre w (List.mem_cons_of_mem _ h)
  have hown : s.vm.findClass R_C = some m.cls := findClass_of_methodNamed B.named
  have hlocks := B.notSynchronized
  have hD : va_D (Aw (wC cI cZ g x)) (wC cI cZ g x) := ⟨hD0.1, fun k q hk => ⟨k, q.2, hk⟩⟩
  have hS : va_S (Aw (wC cI cZ g x)) s.heap s.heap [] := va_S.rf
  have cut_79 : ∀ (n : Nat) (v1 v2 : Int32) (z : Cs) (H : Heap) (locs : List Loc) (ls : Array Slot), mu v2 (nI g.2.2.2.1.2.2.2) < n → M_C_flush g x = L_C_flush_79 g n v1 v2 z → va_P D vwCl (wC cI cZ g z) H → va_D (Aw (wC cI cZ g x)) (wC cI cZ g z) → va_S (Aw (wC cI cZ g x)) s.heap H locs → lv_has ls 3 [(0, .ref g.1.1), (1, .int v1), (2, .int v2)] → W p l e (headSpec w_C_flush rm_C_flush).room s m ([.ref g.1.1] : List Value).toArray below meth c H locs 0 0 (MQ below (va_Qi (fun (r : Int32) (u : Cs) => (r, u) = M_C_flush g x) (fun (u : Cs) (t : State) => va_P D vwCl (wC cI cZ g u) t.heap) (Aw (wC cI cZ g x))) ([.ref g.1.1] : List Value).toArray s 0 0 (Aw (wC cI cZ g x))) (F0 m 79 ls []) := by
    intro n
    induction n with
    | zero => intro v1 v2 z H locs ls hm _ _ _ _ _; exact absurd hm (Nat.not_lt_zero _)
    | succ n ih =>
      intro v1 v2 z H locs ls hm hF hP hD hS hl
      have hF := hF.trans (L_C_flush_79_eq g n v1 v2 z)
      refine lv_iload_n hx hb d_C_flush_79 rfl (lv_at hl 2 rfl) ?_
      refine lv_aload_n hx hb d_C_flush_80 rfl (lv_at hl 0 rfl) ?_
      refine va_get (D := D) (ci := 2) (v := .ref g.2.2.2.1.1.1) (C := R_C) (T := T_C) (N := 10) hx hb htb i_C hown hK hP 0 rfl rfl 2 (by decide) (htb _ k_C_27) (fun _ h9 => h9) rfl d_C_flush_81 ?_
      refine cpi (As := []) (rest := [.int v2]) ⟨hx, hb, hml, hown, htb⟩ (c_B_slots l D cI cZ g.2.2.2.1 hg.2.1 z.2.1) (cwv (n := 0) htb cd_B_slots k_C_92 in_B_slots se_B_slots ini_B hd_B_slots ⟨Nat.le_of_ble_eq_true rfl, Nat.le_of_ble_eq_true rfl⟩) hK hP [1, 2, 3, 4, 5, 6] rfl (ci := 0) rfl rfl rfl hl.1 rfl (Nat.le_of_ble_eq_true rfl) d_C_flush_84 ⟨Nat.zero_le _, Nat.zero_le _⟩ (fun r_84 hw_84 => ?_)
      have hF := hF.trans (bnd_eq hw_84)
      refine lv_icmp_ge (tgt := 130) hx hb d_C_flush_87 (by decide) (fun c_87 => ?_) (fun c_87 => ?_)
      · have hF := hF.trans (if_pos c_87)
        refine lv_aload_n hx hb d_C_flush_130 rfl (lv_at hl 0 rfl) ?_
        refine va_get (D := D) (ci := 2) (v := .ref g.2.2.2.1.1.1) (C := R_C) (T := T_C) (N := 10) hx hb htb i_C hown hK hP 0 rfl rfl 2 (by decide) (htb _ k_C_27) (fun _ h9 => h9) rfl d_C_flush_131 ?_
        refine cwv_ (As := []) (rest := []) (wldC := fun u => (wC cI cZ g (z.1, u, z.2.2.1, z.2.2.2.1, z.2.2.2.2.1, z.2.2.2.2.2))) ⟨hx, hb, hml, hown, htb⟩ (c_B_clear l D cI cZ g.2.2.2.1 hg.2.1 z.2.1) (cwv (n := 0) htb cd_B_clear k_C_113 in_B_clear se_B_clear ini_B hd_B_clear ⟨Nat.le_of_ble_eq_true rfl, Nat.le_of_ble_eq_true rfl⟩) hK hP hD hS [1, 2, 3, 4, 5, 6] [0, 7, 8, 9, 10, 11, 12, 13, 14, 15, 16, 17, 18] [0, 13, 14, 15, 16, 17, 18, 1, 2, 3, 4, 5, 6, 7, 8, 9, 10, 11, 12] rfl rfl (by decide) (by decide) rfl (fun _ => rfl) (fun _ => rfl) (ci := 0) rfl rfl rfl hl.1 rfl (Nat.le_of_ble_eq_true rfl) d_C_flush_134 ⟨Nat.zero_le _, Nat.zero_le _⟩ (fun u_134 H locs hw_134 hP hD hS => ?_)
        have hP : va_P D vwCl (wC cI cZ g (z.1, u_134, z.2.2.1, z.2.2.2.1, z.2.2.2.2.1, z.2.2.2.2.2)) H := hP
        have hD : va_D _ (wC cI cZ g (z.1, u_134, z.2.2.1, z.2.2.2.1, z.2.2.2.2.1, z.2.2.2.2.2)) := hD
        have hF := hF.trans (bnd_eq hw_134)
        refine lv_aload_n hx hb d_C_flush_137 rfl (lv_at hl 0 rfl) ?_
        refine va_get (D := D) (ci := 2) (v := .ref g.2.2.2.2.1.1.1) (C := R_C) (T := T_C) (N := 10) hx hb htb i_C hown hK hP 0 rfl rfl 3 (by decide) (htb _ k_C_31) (fun _ h9 => h9) rfl d_C_flush_138 ?_
        refine cwv_ (As := []) (rest := []) (wldC := fun u => (wC cI cZ g (z.1, u_134, u, z.2.2.2.1, z.2.2.2.2.1, z.2.2.2.2.2))) ⟨hx, hb, hml, hown, htb⟩ (c_B_clear l D cI cZ g.2.2.2.2.1 hg.2.2.1 z.2.2.1) (cwv (n := 0) htb cd_B_clear k_C_113 in_B_clear se_B_clear ini_B hd_B_clear ⟨Nat.le_of_ble_eq_true rfl, Nat.le_of_ble_eq_true rfl⟩) hK hP hD hS [7, 8, 9, 10, 11, 12] [0, 1, 2, 3, 4, 5, 6, 13, 14, 15, 16, 17, 18] [0, 1, 2, 3, 4, 5, 6, 13, 14, 15, 16, 17, 18, 7, 8, 9, 10, 11, 12] rfl rfl (by decide) (by decide) rfl (fun _ => rfl) (fun _ => rfl) (ci := 0) rfl rfl rfl hl.1 rfl (Nat.le_of_ble_eq_true rfl) d_C_flush_141 ⟨Nat.zero_le _, Nat.zero_le _⟩ (fun u_141 H locs hw_141 hP hD hS => ?_)
        have hP : va_P D vwCl (wC cI cZ g (z.1, u_134, u_141, z.2.2.2.1, z.2.2.2.2.1, z.2.2.2.2.2)) H := hP
        have hD : va_D _ (wC cI cZ g (z.1, u_134, u_141, z.2.2.2.1, z.2.2.2.2.1, z.2.2.2.2.2)) := hD
        have hF := hF.trans (bnd_eq hw_141)
        refine lv_aload_n hx hb d_C_flush_144 rfl (lv_at hl 0 rfl) ?_
        refine va_get (D := D) (ci := 2) (v := .ref g.2.2.2.2.2.1.1) (C := R_C) (T := T_C) (N := 10) hx hb htb i_C hown hK hP 0 rfl rfl 4 (by decide) (htb _ k_C_37) (fun _ h9 => h9) rfl d_C_flush_145 ?_
        refine va_get (D := D) (ci := 1) (v := .int z.2.2.2.1.1) (C := R_V) (T := T_V) (N := 5) hx hb htb i_V hown hK hP 13 rfl rfl 0 (by decide) (htb _ k_C_89) (fun _ h9 => h9) rfl d_C_flush_148 ?_
        refine lv_iload_n hx hb d_C_flush_151 rfl (lv_at hl 1 rfl) ?_
        refine lv_isub hx hb d_C_flush_152 ?_
        exact W.iret (v := (z.2.2.2.1.1 - v1)) hx hb hr (fun t ht hW => ⟨⟨(z.2.2.2.1.1 - v1), (z.1, u_134, u_141, z.2.2.2.1, z.2.2.2.2.1, z.2.2.2.2.2), rfl, hF.symm, by dsimp only; rw [ht]; exact hP⟩, hS.F ht⟩) hS.2.2 d_C_flush_153
      · have hF := hF.trans (if_neg c_87)
        refine lv_aload_n hx hb d_C_flush_90 rfl (lv_at hl 0 rfl) ?_
        refine va_get (D := D) (ci := 2) (v := .ref g.2.2.2.1.1.1) (C := R_C) (T := T_C) (N := 10) hx hb htb i_C hown hK hP 0 rfl rfl 2 (by decide) (htb _ k_C_27) (fun _ h9 => h9) rfl d_C_flush_91 ?_
        refine lv_iload_n hx hb d_C_flush_94 rfl (lv_at hl 2 rfl) ?_
        refine cpi (As := [.int v2]) (rest := []) ⟨hx, hb, hml, hown, htb⟩ (c_B_isWritten l D cI cZ g.2.2.2.1 hg.2.1 z.2.1 v2) (cwv (n := 1) htb cd_B_isWritten k_C_96 in_B_isWritten se_B_isWritten ini_B hd_B_isWritten ⟨Nat.le_of_ble_eq_true rfl, Nat.le_of_ble_eq_true rfl⟩) hK hP [1, 2, 3, 4, 5, 6] rfl (ci := 0) rfl rfl rfl hl.1 rfl (Nat.le_of_ble_eq_true rfl) d_C_flush_95 ⟨Nat.zero_le _, Nat.zero_le _⟩ (fun r_95 hw_95 => ?_)
        have hF := hF.trans (bnd_eq hw_95)
        refine lv_if_eq (tgt := 124) hx hb d_C_flush_98 (by decide) (fun c_98 => ?_) (fun c_98 => ?_)
        · have hF := hF.trans (if_pos c_98)
          refine lv_iinc (v := (v2 + 1)) (lv' := [(2, .int (v2 + 1)), (0, .ref g.1.1), (1, .int v1)]) hx hb d_C_flush_124 hl (k := 2) rfl rfl (by decide) rfl (fun ls hl => ?_)
          refine lv_goto (tgt := 79) hx hb d_C_flush_127 (by decide) ?_
          have hl := lv_sub (l' := [(0, .ref g.1.1), (1, .int v1), (2, .int (v2 + 1))]) hl [1, 2, 0] rfl
          exact ih v1 (v2 + 1) z _ _ _ (Nat.lt_of_lt_of_le (mu_decr (hw_84.trans (M_B_slots_eq _ _)) c_87) (Nat.le_of_lt_succ hm)) hF hP hD hS hl
        · have hF := hF.trans (if_neg c_98)
          refine lv_aload_n hx hb d_C_flush_101 rfl (lv_at hl 0 rfl) ?_
          refine va_get (D := D) (ci := 2) (v := .ref g.2.2.2.2.2.1.1) (C := R_C) (T := T_C) (N := 10) hx hb htb i_C hown hK hP 0 rfl rfl 4 (by decide) (htb _ k_C_37) (fun _ h9 => h9) rfl d_C_flush_102 ?_
          refine lv_aload_n hx hb d_C_flush_105 rfl (lv_at hl 0 rfl) ?_
          refine va_get (D := D) (ci := 2) (v := .ref g.2.2.2.1.1.1) (C := R_C) (T := T_C) (N := 10) hx hb htb i_C hown hK hP 0 rfl rfl 2 (by decide) (htb _ k_C_27) (fun _ h9 => h9) rfl d_C_flush_106 ?_
          refine lv_iload_n hx hb d_C_flush_109 rfl (lv_at hl 2 rfl) ?_
          refine cpi (As := [.int v2]) (rest := [.ref g.2.2.2.2.2.1.1]) ⟨hx, hb, hml, hown, htb⟩ (c_B_lineAt l D cI cZ g.2.2.2.1 hg.2.1 z.2.1 v2) (cwv (n := 1) htb cd_B_lineAt k_C_100 in_B_lineAt se_B_lineAt ini_B hd_B_lineAt ⟨Nat.le_of_ble_eq_true rfl, Nat.le_of_ble_eq_true rfl⟩) hK hP [1, 2, 3, 4, 5, 6] rfl (ci := 0) rfl rfl rfl hl.1 rfl (Nat.le_of_ble_eq_true rfl) d_C_flush_110 ⟨Nat.zero_le _, Nat.zero_le _⟩ (fun r_110 hw_110 => ?_)
          have hF := hF.trans (bnd_eq hw_110)
          refine lv_aload_n hx hb d_C_flush_113 rfl (lv_at hl 0 rfl) ?_
          refine va_get (D := D) (ci := 2) (v := .ref g.2.2.2.1.1.1) (C := R_C) (T := T_C) (N := 10) hx hb htb i_C hown hK hP 0 rfl rfl 2 (by decide) (htb _ k_C_27) (fun _ h9 => h9) rfl d_C_flush_114 ?_
          refine lv_iload_n hx hb d_C_flush_117 rfl (lv_at hl 2 rfl) ?_
          refine cpi (As := [.int v2]) (rest := [.int r_110, .ref g.2.2.2.2.2.1.1]) ⟨hx, hb, hml, hown, htb⟩ (c_B_versionAt l D cI cZ g.2.2.2.1 hg.2.1 z.2.1 v2) (cwv (n := 1) htb cd_B_versionAt k_C_107 in_B_versionAt se_B_versionAt ini_B hd_B_versionAt ⟨Nat.le_of_ble_eq_true rfl, Nat.le_of_ble_eq_true rfl⟩) hK hP [1, 2, 3, 4, 5, 6] rfl (ci := 0) rfl rfl rfl hl.1 rfl (Nat.le_of_ble_eq_true rfl) d_C_flush_118 ⟨Nat.zero_le _, Nat.zero_le _⟩ (fun r_118 hw_118 => ?_)
          have hF := hF.trans (bnd_eq hw_118)
          refine cwv_ (As := [.int r_110, .int r_118]) (rest := []) (wldC := fun u => (wC cI cZ g (z.1, z.2.1, z.2.2.1, u, z.2.2.2.2.1, z.2.2.2.2.2))) ⟨hx, hb, hml, hown, htb⟩ (c_V_writeBack l D cI cZ g.2.2.2.2.2 hg.2.2.2 z.2.2.2.1 r_110 r_118) (cwv (n := 2) htb cd_V_writeBack k_C_110 in_V_writeBack se_V_writeBack ini_V hd_V_writeBack ⟨Nat.le_of_ble_eq_true rfl, Nat.le_of_ble_eq_true rfl⟩) hK hP hD hS [13, 14, 15, 16] [0, 1, 2, 3, 4, 5, 6, 7, 8, 9, 10, 11, 12, 17, 18] [0, 1, 2, 3, 4, 5, 6, 7, 8, 9, 10, 11, 12, 15, 16, 17, 18, 13, 14] rfl rfl (by decide) (by decide) rfl (fun _ => rfl) (fun _ => rfl) (ci := 1) rfl rfl rfl hl.1 rfl (Nat.le_of_ble_eq_true rfl) d_C_flush_121 ⟨Nat.zero_le _, Nat.zero_le _⟩ (fun u_121 H locs hw_121 hP hD hS => ?_)
          have hP : va_P D vwCl (wC cI cZ g (z.1, z.2.1, z.2.2.1, u_121, z.2.2.2.2.1, z.2.2.2.2.2)) H := hP
          have hD : va_D _ (wC cI cZ g (z.1, z.2.1, z.2.2.1, u_121, z.2.2.2.2.1, z.2.2.2.2.2)) := hD
          have hF := hF.trans (bnd_eq hw_121)
          refine lv_iinc (v := (v2 + 1)) (lv' := [(2, .int (v2 + 1)), (0, .ref g.1.1), (1, .int v1)]) hx hb d_C_flush_124 hl (k := 2) rfl rfl (by decide) rfl (fun ls hl => ?_)
          refine lv_goto (tgt := 79) hx hb d_C_flush_127 (by decide) ?_
          have hl := lv_sub (l' := [(0, .ref g.1.1), (1, .int v1), (2, .int (v2 + 1))]) hl [1, 2, 0] rfl
          exact ih v1 (v2 + 1) (z.1, z.2.1, z.2.2.1, u_121, z.2.2.2.2.1, z.2.2.2.2.2) _ _ _ (Nat.lt_of_lt_of_le (mu_decr (hw_84.trans (M_B_slots_eq _ _)) c_87) (Nat.le_of_lt_succ hm)) hF hP hD hS hl
  have cut_10 : ∀ (n : Nat) (v1 v2 : Int32) (z : Cs) (H : Heap) (locs : List Loc) (ls : Array Slot), mu v2 (nI g.2.2.2.2.1.2.2.2) < n → M_C_flush g x = L_C_flush_10 g n v1 v2 z → va_P D vwCl (wC cI cZ g z) H → va_D (Aw (wC cI cZ g x)) (wC cI cZ g z) → va_S (Aw (wC cI cZ g x)) s.heap H locs → lv_has ls 3 [(0, .ref g.1.1), (1, .int v1), (2, .int v2)] → W p l e (headSpec w_C_flush rm_C_flush).room s m ([.ref g.1.1] : List Value).toArray below meth c H locs 0 0 (MQ below (va_Qi (fun (r : Int32) (u : Cs) => (r, u) = M_C_flush g x) (fun (u : Cs) (t : State) => va_P D vwCl (wC cI cZ g u) t.heap) (Aw (wC cI cZ g x))) ([.ref g.1.1] : List Value).toArray s 0 0 (Aw (wC cI cZ g x))) (F0 m 10 ls []) := by
    intro n
    induction n with
    | zero => intro v1 v2 z H locs ls hm _ _ _ _ _; exact absurd hm (Nat.not_lt_zero _)
    | succ n ih =>
      intro v1 v2 z H locs ls hm hF hP hD hS hl
      have hF := hF.trans (L_C_flush_10_eq g n v1 v2 z)
      refine lv_iload_n hx hb d_C_flush_10 rfl (lv_at hl 2 rfl) ?_
      refine lv_aload_n hx hb d_C_flush_11 rfl (lv_at hl 0 rfl) ?_
      refine va_get (D := D) (ci := 2) (v := .ref g.2.2.2.2.1.1.1) (C := R_C) (T := T_C) (N := 10) hx hb htb i_C hown hK hP 0 rfl rfl 3 (by decide) (htb _ k_C_31) (fun _ h9 => h9) rfl d_C_flush_12 ?_
      refine cpi (As := []) (rest := [.int v2]) ⟨hx, hb, hml, hown, htb⟩ (c_B_slots l D cI cZ g.2.2.2.2.1 hg.2.2.1 z.2.2.1) (cwv (n := 0) htb cd_B_slots k_C_92 in_B_slots se_B_slots ini_B hd_B_slots ⟨Nat.le_of_ble_eq_true rfl, Nat.le_of_ble_eq_true rfl⟩) hK hP [7, 8, 9, 10, 11, 12] rfl (ci := 0) rfl rfl rfl hl.1 rfl (Nat.le_of_ble_eq_true rfl) d_C_flush_15 ⟨Nat.zero_le _, Nat.zero_le _⟩ (fun r_15 hw_15 => ?_)
      have hF := hF.trans (bnd_eq hw_15)
      refine lv_icmp_ge (tgt := 77) hx hb d_C_flush_18 (by decide) (fun c_18 => ?_) (fun c_18 => ?_)
      · have hF := hF.trans (if_pos c_18)
        refine lv_iconst (v := 0) hx hb d_C_flush_77 (by decide) ?_
        refine lv_istore_n (lv' := [(2, .int (0 : Int32)), (0, .ref g.1.1), (1, .int v1)]) hx hb d_C_flush_78 rfl hl (by decide) rfl (fun ls hl => ?_)
        have hl := lv_sub (l' := [(0, .ref g.1.1), (1, .int v1), (2, .int (0 : Int32))]) hl [1, 2, 0] rfl
        exact cut_79 (mu (0 : Int32) (nI g.2.2.2.1.2.2.2) + 1) v1 (0 : Int32) z _ _ _ (Nat.lt_succ_self _) hF hP hD hS hl
      · have hF := hF.trans (if_neg c_18)
        refine lv_aload_n hx hb d_C_flush_21 rfl (lv_at hl 0 rfl) ?_
        refine va_get (D := D) (ci := 2) (v := .ref g.2.2.2.2.1.1.1) (C := R_C) (T := T_C) (N := 10) hx hb htb i_C hown hK hP 0 rfl rfl 3 (by decide) (htb _ k_C_31) (fun _ h9 => h9) rfl d_C_flush_22 ?_
        refine lv_iload_n hx hb d_C_flush_25 rfl (lv_at hl 2 rfl) ?_
        refine cpi (As := [.int v2]) (rest := []) ⟨hx, hb, hml, hown, htb⟩ (c_B_isWritten l D cI cZ g.2.2.2.2.1 hg.2.2.1 z.2.2.1 v2) (cwv (n := 1) htb cd_B_isWritten k_C_96 in_B_isWritten se_B_isWritten ini_B hd_B_isWritten ⟨Nat.le_of_ble_eq_true rfl, Nat.le_of_ble_eq_true rfl⟩) hK hP [7, 8, 9, 10, 11, 12] rfl (ci := 0) rfl rfl rfl hl.1 rfl (Nat.le_of_ble_eq_true rfl) d_C_flush_26 ⟨Nat.zero_le _, Nat.zero_le _⟩ (fun r_26 hw_26 => ?_)
        have hF := hF.trans (bnd_eq hw_26)
        refine lv_if_eq (tgt := 71) hx hb d_C_flush_29 (by decide) (fun c_29 => ?_) (fun c_29 => ?_)
        · have hF := hF.trans (if_pos c_29)
          refine lv_iinc (v := (v2 + 1)) (lv' := [(2, .int (v2 + 1)), (0, .ref g.1.1), (1, .int v1)]) hx hb d_C_flush_71 hl (k := 2) rfl rfl (by decide) rfl (fun ls hl => ?_)
          refine lv_goto (tgt := 10) hx hb d_C_flush_74 (by decide) ?_
          have hl := lv_sub (l' := [(0, .ref g.1.1), (1, .int v1), (2, .int (v2 + 1))]) hl [1, 2, 0] rfl
          exact ih v1 (v2 + 1) z _ _ _ (Nat.lt_of_lt_of_le (mu_decr (hw_15.trans (M_B_slots_eq _ _)) c_18) (Nat.le_of_lt_succ hm)) hF hP hD hS hl
        · have hF := hF.trans (if_neg c_29)
          refine lv_aload_n hx hb d_C_flush_32 rfl (lv_at hl 0 rfl) ?_
          refine lv_aload_n hx hb d_C_flush_33 rfl (lv_at hl 0 rfl) ?_
          refine va_get (D := D) (ci := 2) (v := .ref g.2.2.2.2.1.1.1) (C := R_C) (T := T_C) (N := 10) hx hb htb i_C hown hK hP 0 rfl rfl 3 (by decide) (htb _ k_C_31) (fun _ h9 => h9) rfl d_C_flush_34 ?_
          refine lv_iload_n hx hb d_C_flush_37 rfl (lv_at hl 2 rfl) ?_
          refine cpi (As := [.int v2]) (rest := [.ref g.1.1]) ⟨hx, hb, hml, hown, htb⟩ (c_B_lineAt l D cI cZ g.2.2.2.2.1 hg.2.2.1 z.2.2.1 v2) (cwv (n := 1) htb cd_B_lineAt k_C_100 in_B_lineAt se_B_lineAt ini_B hd_B_lineAt ⟨Nat.le_of_ble_eq_true rfl, Nat.le_of_ble_eq_true rfl⟩) hK hP [7, 8, 9, 10, 11, 12] rfl (ci := 0) rfl rfl rfl hl.1 rfl (Nat.le_of_ble_eq_true rfl) d_C_flush_38 ⟨Nat.zero_le _, Nat.zero_le _⟩ (fun r_38 hw_38 => ?_)
          have hF := hF.trans (bnd_eq hw_38)
          refine cpi (As := [.int r_38]) (rest := []) ⟨hx, hb, hml, hown, htb⟩ (c_C_writtenInFirst l D cI cZ g hg z r_38) (cwv (n := 1) htb cd_C_writtenInFirst k_C_104 in_C_writtenInFirst se_C_writtenInFirst ini_C hd_C_writtenInFirst ⟨Nat.le_of_ble_eq_true rfl, Nat.le_of_ble_eq_true rfl⟩) hK hP [0, 1, 2, 3, 4, 5, 6, 7, 8, 9, 10, 11, 12, 13, 14, 15, 16, 17, 18] rfl (ci := 2) rfl rfl rfl hl.1 rfl (Nat.le_of_ble_eq_true rfl) d_C_flush_41 ⟨Nat.zero_le _, Nat.zero_le _⟩ (fun r_41 hw_41 => ?_)
          have hF := hF.trans (bnd_eq hw_41)
          refine lv_iconst (v := -1) hx hb d_C_flush_44 (by decide) ?_
          refine lv_icmp_ne (tgt := 71) hx hb d_C_flush_45 (by decide) (fun c_45 => ?_) (fun c_45 => ?_)
          · have hF := hF.trans (if_neg c_45)
            refine lv_iinc (v := (v2 + 1)) (lv' := [(2, .int (v2 + 1)), (0, .ref g.1.1), (1, .int v1)]) hx hb d_C_flush_71 hl (k := 2) rfl rfl (by decide) rfl (fun ls hl => ?_)
            refine lv_goto (tgt := 10) hx hb d_C_flush_74 (by decide) ?_
            have hl := lv_sub (l' := [(0, .ref g.1.1), (1, .int v1), (2, .int (v2 + 1))]) hl [1, 2, 0] rfl
            exact ih v1 (v2 + 1) z _ _ _ (Nat.lt_of_lt_of_le (mu_decr (hw_15.trans (M_B_slots_eq _ _)) c_18) (Nat.le_of_lt_succ hm)) hF hP hD hS hl
          · have hF := hF.trans (if_pos c_45)
            refine lv_aload_n hx hb d_C_flush_48 rfl (lv_at hl 0 rfl) ?_
            refine va_get (D := D) (ci := 2) (v := .ref g.2.2.2.2.2.1.1) (C := R_C) (T := T_C) (N := 10) hx hb htb i_C hown hK hP 0 rfl rfl 4 (by decide) (htb _ k_C_37) (fun _ h9 => h9) rfl d_C_flush_49 ?_
            refine lv_aload_n hx hb d_C_flush_52 rfl (lv_at hl 0 rfl) ?_
            refine va_get (D := D) (ci := 2) (v := .ref g.2.2.2.2.1.1.1) (C := R_C) (T := T_C) (N := 10) hx hb htb i_C hown hK hP 0 rfl rfl 3 (by decide) (htb _ k_C_31) (fun _ h9 => h9) rfl d_C_flush_53 ?_
            refine lv_iload_n hx hb d_C_flush_56 rfl (lv_at hl 2 rfl) ?_
            refine cpi (As := [.int v2]) (rest := [.ref g.2.2.2.2.2.1.1]) ⟨hx, hb, hml, hown, htb⟩ (c_B_lineAt l D cI cZ g.2.2.2.2.1 hg.2.2.1 z.2.2.1 v2) (cwv (n := 1) htb cd_B_lineAt k_C_100 in_B_lineAt se_B_lineAt ini_B hd_B_lineAt ⟨Nat.le_of_ble_eq_true rfl, Nat.le_of_ble_eq_true rfl⟩) hK hP [7, 8, 9, 10, 11, 12] rfl (ci := 0) rfl rfl rfl hl.1 rfl (Nat.le_of_ble_eq_true rfl) d_C_flush_57 ⟨Nat.zero_le _, Nat.zero_le _⟩ (fun r_57 hw_57 => ?_)
            have hF := hF.trans (bnd_eq hw_57)
            refine lv_aload_n hx hb d_C_flush_60 rfl (lv_at hl 0 rfl) ?_
            refine va_get (D := D) (ci := 2) (v := .ref g.2.2.2.2.1.1.1) (C := R_C) (T := T_C) (N := 10) hx hb htb i_C hown hK hP 0 rfl rfl 3 (by decide) (htb _ k_C_31) (fun _ h9 => h9) rfl d_C_flush_61 ?_
            refine lv_iload_n hx hb d_C_flush_64 rfl (lv_at hl 2 rfl) ?_
            refine cpi (As := [.int v2]) (rest := [.int r_57, .ref g.2.2.2.2.2.1.1]) ⟨hx, hb, hml, hown, htb⟩ (c_B_versionAt l D cI cZ g.2.2.2.2.1 hg.2.2.1 z.2.2.1 v2) (cwv (n := 1) htb cd_B_versionAt k_C_107 in_B_versionAt se_B_versionAt ini_B hd_B_versionAt ⟨Nat.le_of_ble_eq_true rfl, Nat.le_of_ble_eq_true rfl⟩) hK hP [7, 8, 9, 10, 11, 12] rfl (ci := 0) rfl rfl rfl hl.1 rfl (Nat.le_of_ble_eq_true rfl) d_C_flush_65 ⟨Nat.zero_le _, Nat.zero_le _⟩ (fun r_65 hw_65 => ?_)
            have hF := hF.trans (bnd_eq hw_65)
            refine cwv_ (As := [.int r_57, .int r_65]) (rest := []) (wldC := fun u => (wC cI cZ g (z.1, z.2.1, z.2.2.1, u, z.2.2.2.2.1, z.2.2.2.2.2))) ⟨hx, hb, hml, hown, htb⟩ (c_V_writeBack l D cI cZ g.2.2.2.2.2 hg.2.2.2 z.2.2.2.1 r_57 r_65) (cwv (n := 2) htb cd_V_writeBack k_C_110 in_V_writeBack se_V_writeBack ini_V hd_V_writeBack ⟨Nat.le_of_ble_eq_true rfl, Nat.le_of_ble_eq_true rfl⟩) hK hP hD hS [13, 14, 15, 16] [0, 1, 2, 3, 4, 5, 6, 7, 8, 9, 10, 11, 12, 17, 18] [0, 1, 2, 3, 4, 5, 6, 7, 8, 9, 10, 11, 12, 15, 16, 17, 18, 13, 14] rfl rfl (by decide) (by decide) rfl (fun _ => rfl) (fun _ => rfl) (ci := 1) rfl rfl rfl hl.1 rfl (Nat.le_of_ble_eq_true rfl) d_C_flush_68 ⟨Nat.zero_le _, Nat.zero_le _⟩ (fun u_68 H locs hw_68 hP hD hS => ?_)
            have hP : va_P D vwCl (wC cI cZ g (z.1, z.2.1, z.2.2.1, u_68, z.2.2.2.2.1, z.2.2.2.2.2)) H := hP
            have hD : va_D _ (wC cI cZ g (z.1, z.2.1, z.2.2.1, u_68, z.2.2.2.2.1, z.2.2.2.2.2)) := hD
            have hF := hF.trans (bnd_eq hw_68)
            refine lv_iinc (v := (v2 + 1)) (lv' := [(2, .int (v2 + 1)), (0, .ref g.1.1), (1, .int v1)]) hx hb d_C_flush_71 hl (k := 2) rfl rfl (by decide) rfl (fun ls hl => ?_)
            refine lv_goto (tgt := 10) hx hb d_C_flush_74 (by decide) ?_
            have hl := lv_sub (l' := [(0, .ref g.1.1), (1, .int v1), (2, .int (v2 + 1))]) hl [1, 2, 0] rfl
            exact ih v1 (v2 + 1) (z.1, z.2.1, z.2.2.1, u_68, z.2.2.2.2.1, z.2.2.2.2.2) _ _ _ (Nat.lt_of_lt_of_le (mu_decr (hw_15.trans (M_B_slots_eq _ _)) c_18) (Nat.le_of_lt_succ hm)) hF hP hD hS hl
  have hl := lv_entry ([.ref g.1.1]) (n := 3) (Nat.le_of_ble_eq_true rfl)
  rw [lg_entry_eq]
  generalize (lg_sl ([.ref g.1.1]) ++ List.replicate (3 - (lg_sl ([.ref g.1.1])).length) Slot.unset).toArray = ls at hl ⊢
  have hl : lv_has ls 3 [(0, .ref g.1.1)] := hl
  have hF := M_C_flush_eq g x
  refine lv_aload_n hx hb d_C_flush_0 rfl (lv_at hl 0 rfl) ?_
  refine va_get (D := D) (ci := 2) (v := .ref g.2.2.2.2.2.1.1) (C := R_C) (T := T_C) (N := 10) hx hb htb i_C hown hK hP 0 rfl rfl 4 (by decide) (htb _ k_C_37) (fun _ h9 => h9) rfl d_C_flush_1 ?_
  refine va_get (D := D) (ci := 1) (v := .int x.2.2.2.1.1) (C := R_V) (T := T_V) (N := 5) hx hb htb i_V hown hK hP 13 rfl rfl 0 (by decide) (htb _ k_C_89) (fun _ h9 => h9) rfl d_C_flush_4 ?_
  refine lv_istore_n (lv' := [(1, .int x.2.2.2.1.1), (0, .ref g.1.1)]) hx hb d_C_flush_7 rfl hl (by decide) rfl (fun ls hl => ?_)
  refine lv_iconst (v := 0) hx hb d_C_flush_8 (by decide) ?_
  refine lv_istore_n (lv' := [(2, .int (0 : Int32)), (1, .int x.2.2.2.1.1), (0, .ref g.1.1)]) hx hb d_C_flush_9 rfl hl (by decide) rfl (fun ls hl => ?_)
  have hl := lv_sub (l' := [(0, .ref g.1.1), (1, .int x.2.2.2.1.1), (2, .int (0 : Int32))]) hl [2, 1, 0] rfl
  exact cut_10 (mu (0 : Int32) (nI g.2.2.2.2.1.2.2.2) + 1) x.2.2.2.1.1 (0 : Int32) x _ _ _ (Nat.lt_succ_self _) hF hP hD hS hl

def M_C_holds_n (g : GC) (x : Cs) (p0 p1 : Int32) : Int32 := (bnd (M_C_groupOf p0) (fun r_13 => (bnd (M_B_find g.2.2.2.2.1 x.2.2.1 r_13 p1) (fun r_17 => (if r_17 = (-1 : Int32) then (0 : Int32) else (bnd (M_B_isWritten g.2.2.2.2.1 x.2.2.1 r_17) (fun r_33 => (if r_33 = 0 then (1 : Int32) else (2 : Int32)))))))))
theorem M_C_holds_n_eq (g : GC) (x : Cs) (p0 p1 : Int32) : M_C_holds_n g x p0 p1 = (bnd (M_C_groupOf p0) (fun r_13 => (bnd (M_B_find g.2.2.2.2.1 x.2.2.1 r_13 p1) (fun r_17 => (if r_17 = (-1 : Int32) then (0 : Int32) else (bnd (M_B_isWritten g.2.2.2.2.1 x.2.2.1 r_17) (fun r_33 => (if r_33 = 0 then (1 : Int32) else (2 : Int32))))))))) := rfl
abbrev w_C_holds_n : List Cond := .code y_C_holds b_C_holds 5 (some .int) :: tbW
abbrev rm_C_holds_n : Room := { frames := 3, cells := 0, slots := 0, locals := 68 }
set_option maxHeartbeats 4000000 in
set_option maxRecDepth 100000 in
theorem c_C_holds_n (l : Launch) (D : va_G) (cI cZ : ClassId) (g : GC) (hg : okC g) (x : Cs) (p0 p1 : Int32) (hq : p0 = -1) : Met l y_C_holds w_C_holds_n rm_C_holds_n (PcR D vwCl (tyK cI cZ) [.ref g.1.1, .int p0, .int p1] (wC cI cZ g x)) (vp_Si (fun r => r = M_C_holds_n g x p0 p1)) 0 0 (fun _ => False) := by
  refine Met.ofW (cc := b_C_holds) (maxL := 5) (ret := (some .int)) (by decide) rfl ?_
  intro p e s m args below meth c s₁ B hml hv
  obtain ⟨rfl, hP, hK⟩ := hv
  have hx := B.exec
  have hb := B.bytes
  have hr := B.returns
  have htb : ∀ w ∈ tbW, w.before _ s = true := fun w h => atoms_spec (ws := w_C_holds_n) B.pre w (List.mem_cons_of_mem _ h)
  have hown : s.vm.findClass R_C = some m.cls := findClass_of_methodNamed B.named
  have hlocks := B.notSynchronized
  have hl := lv_entry ([.ref g.1.1, .int p0, .int p1]) (n := 5) (Nat.le_of_ble_eq_true rfl)
  rw [lg_entry_eq]
  generalize (lg_sl ([.ref g.1.1, .int p0, .int p1]) ++ List.replicate (5 - (lg_sl ([.ref g.1.1, .int p0, .int p1])).length) Slot.unset).toArray = ls at hl ⊢
  have hl : lv_has ls 5 [(0, .ref g.1.1), (1, .int p0), (2, .int p1)] := hl
  have hF := M_C_holds_n_eq g x p0 p1
  refine lv_aload_n hx hb d_C_holds_0 rfl (lv_at hl 0 rfl) ?_
  refine lv_iload_n hx hb d_C_holds_1 rfl (lv_at hl 1 rfl) ?_
  refine cpv (As := [.int p0]) (rest := []) ⟨hx, hb, hml, hown, htb⟩ (c_C_requireCoreOrNone l D cI cZ g hg x p0 (Or.inl hq)) (cwv (n := 1) htb cd_C_requireCoreOrNone k_C_116 in_C_requireCoreOrNone se_C_requireCoreOrNone ini_C hd_C_requireCoreOrNone ⟨Nat.le_of_ble_eq_true rfl, Nat.le_of_ble_eq_true rfl⟩) hK hP [0, 1, 2, 3, 4, 5, 6, 7, 8, 9, 10, 11, 12, 13, 14, 15, 16, 17, 18] rfl (ci := 2) rfl rfl rfl hl.1 rfl (Nat.le_of_ble_eq_true rfl) d_C_holds_2 ⟨Nat.zero_le _, Nat.zero_le _⟩ (?_)
  refine lv_aload_n hx hb d_C_holds_5 rfl (lv_at hl 0 rfl) ?_
  refine lv_iload_n hx hb d_C_holds_6 rfl (lv_at hl 1 rfl) ?_
  refine cpr (As := [.int p0]) (rest := []) ⟨hx, hb, hml, hown, htb⟩ (c_C_bankOf_n l D cI cZ g hg x p0 hq) (cwv (n := 1) htb cd_C_bankOf k_C_119 in_C_bankOf se_C_bankOf ini_C hd_C_bankOf ⟨Nat.le_of_ble_eq_true rfl, Nat.le_of_ble_eq_true rfl⟩) hK hP [0, 1, 2, 3, 4, 5, 6, 7, 8, 9, 10, 11, 12, 13, 14, 15, 16, 17, 18] rfl (ci := 2) rfl rfl rfl hl.1 rfl (Nat.le_of_ble_eq_true rfl) d_C_holds_7 ⟨Nat.zero_le _, Nat.zero_le _⟩ (?_)
  refine lv_astore_n (lv' := [(3, .ref g.2.2.2.2.1.1.1), (0, .ref g.1.1), (1, .int p0), (2, .int p1)]) hx hb d_C_holds_10 rfl hl (by decide) rfl (fun ls hl => ?_)
  refine lv_aload_n hx hb d_C_holds_11 rfl (lv_at hl 0 rfl) ?_
  refine lv_iload_n hx hb d_C_holds_12 rfl (lv_at hl 2 rfl) ?_
  refine cps (As := [.int p0]) (rest := [.ref g.2.2.2.2.1.1.1]) ⟨hx, hb, hml, hown, htb⟩ (c_C_groupOf l p0) (cws (n := 1) htb cd_C_groupOf k_C_123 st_C_groupOf ini_C hd_C_groupOf ⟨Nat.le_of_ble_eq_true rfl, Nat.le_of_ble_eq_true rfl⟩) rfl hl.1 rfl (Nat.le_of_ble_eq_true rfl) d_C_holds_13 ⟨Nat.zero_le _, Nat.zero_le _⟩ (fun r_13 hw_13 => ?_)
  have hF := hF.trans (bnd_eq hw_13)
  refine lv_iload_n hx hb d_C_holds_16 rfl (lv_at hl 3 rfl) ?_
  refine cpi (As := [.int r_13, .int p1]) (rest := []) ⟨hx, hb, hml, hown, htb⟩ (c_B_find l D cI cZ g.2.2.2.2.1 hg.2.2.1 x.2.2.1 r_13 p1) (cwv (n := 2) htb cd_B_find k_C_72 in_B_find se_B_find ini_B hd_B_find ⟨Nat.le_of_ble_eq_true rfl, Nat.le_of_ble_eq_true rfl⟩) hK hP [7, 8, 9, 10, 11, 12] rfl (ci := 0) rfl rfl rfl hl.1 rfl (Nat.le_of_ble_eq_true rfl) d_C_holds_17 ⟨Nat.zero_le _, Nat.zero_le _⟩ (fun r_17 hw_17 => ?_)
  have hF := hF.trans (bnd_eq hw_17)
  refine lv_istore (lv' := [(4, .int r_17), (3, .ref g.2.2.2.2.1.1.1), (0, .ref g.1.1), (1, .int p0), (2, .int p1)]) hx hb d_C_holds_20 hl (by decide) rfl (fun ls hl => ?_)
  refine lv_iload hx hb d_C_holds_22 (lv_at hl 0 rfl) ?_
  refine lv_iconst (v := -1) hx hb d_C_holds_24 (by decide) ?_
  refine lv_icmp_ne (tgt := 30) hx hb d_C_holds_25 (by decide) (fun c_25 => ?_) (fun c_25 => ?_)
  · have hF := hF.trans (if_neg c_25)
    refine lv_aload_n hx hb d_C_holds_30 rfl (lv_at hl 1 rfl) ?_
    refine lv_iload hx hb d_C_holds_31 (lv_at hl 0 rfl) ?_
    refine cpi (As := [.int r_17]) (rest := []) ⟨hx, hb, hml, hown, htb⟩ (c_B_isWritten l D cI cZ g.2.2.2.2.1 hg.2.2.1 x.2.2.1 r_17) (cwv (n := 1) htb cd_B_isWritten k_C_96 in_B_isWritten se_B_isWritten ini_B hd_B_isWritten ⟨Nat.le_of_ble_eq_true rfl, Nat.le_of_ble_eq_true rfl⟩) hK hP [7, 8, 9, 10, 11, 12] rfl (ci := 0) rfl rfl rfl hl.1 rfl (Nat.le_of_ble_eq_true rfl) d_C_holds_33 ⟨Nat.zero_le _, Nat.zero_le _⟩ (fun r_33 hw_33 => ?_)
    have hF := hF.trans (bnd_eq hw_33)
    refine lv_if_eq (tgt := 43) hx hb d_C_holds_36 (by decide) (fun c_36 => ?_) (fun c_36 => ?_)
    · have hF := hF.trans (if_pos c_36)
      refine lv_iconst (v := 1) hx hb d_C_holds_43 (by decide) ?_
      exact W.iret (v := (1 : Int32)) hx hb hr (fun t ht hW => ⟨_, rfl, hF.symm, ht⟩) (fun q h => by cases h) d_C_holds_44
    · have hF := hF.trans (if_neg c_36)
      refine lv_iconst (v := 2) hx hb d_C_holds_39 (by decide) ?_
      refine lv_goto (tgt := 44) hx hb d_C_holds_40 (by decide) ?_
      exact W.iret (v := (2 : Int32)) hx hb hr (fun t ht hW => ⟨_, rfl, hF.symm, ht⟩) (fun q h => by cases h) d_C_holds_44
  · have hF := hF.trans (if_pos c_25)
    refine lv_iconst (v := 0) hx hb d_C_holds_28 (by decide) ?_
    exact W.iret (v := (0 : Int32)) hx hb hr (fun t ht hW => ⟨_, rfl, hF.symm, ht⟩) (fun q h => by cases h) d_C_holds_29

def M_C_holds_c (g : GC) (x : Cs) (p0 p1 : Int32) : Int32 := (bnd (M_C_groupOf p0) (fun r_13 => (bnd (M_B_find g.2.2.2.1 x.2.1 r_13 p1) (fun r_17 => (if r_17 = (-1 : Int32) then (0 : Int32) else (bnd (M_B_isWritten g.2.2.2.1 x.2.1 r_17) (fun r_33 => (if r_33 = 0 then (1 : Int32) else (2 : Int32)))))))))
theorem M_C_holds_c_eq (g : GC) (x : Cs) (p0 p1 : Int32) : M_C_holds_c g x p0 p1 = (bnd (M_C_groupOf p0) (fun r_13 => (bnd (M_B_find g.2.2.2.1 x.2.1 r_13 p1) (fun r_17 => (if r_17 = (-1 : Int32) then (0 : Int32) else (bnd (M_B_isWritten g.2.2.2.1 x.2.1 r_17) (fun r_33 => (if r_33 = 0 then (1 : Int32) else (2 : Int32))))))))) := rfl
abbrev w_C_holds_c : List Cond := .code y_C_holds b_C_holds 5 (some .int) :: tbW
abbrev rm_C_holds_c : Room := { frames := 3, cells := 0, slots := 0, locals := 68 }
set_option maxHeartbeats 4000000 in
set_option maxRecDepth 100000 in
theorem c_C_holds_c (l : Launch) (D : va_G) (cI cZ : ClassId) (g : GC) (hg : okC g) (x : Cs) (p0 p1 : Int32) (hv0 : ¬ p0 < 0) (hv1 : p0 < g.2.1.1) (hq : ¬ p0 = -1) : Met l y_C_holds w_C_holds_c rm_C_holds_c (PcR D vwCl (tyK cI cZ) [.ref g.1.1, .int p0, .int p1] (wC cI cZ g x)) (vp_Si (fun r => r = M_C_holds_c g x p0 p1)) 0 0 (fun _ => False) := by
  refine Met.ofW (cc := b_C_holds) (maxL := 5) (ret := (some .int)) (by decide) rfl ?_
  intro p e s m args below meth c s₁ B hml hv
  obtain ⟨rfl, hP, hK⟩ := hv
  have hx := B.exec
  have hb := B.bytes
  have hr := B.returns
  have htb : ∀ w ∈ tbW, w.before _ s = true := fun w h => atoms_spec (ws := w_C_holds_c) B.pre w (List.mem_cons_of_mem _ h)
  have hown : s.vm.findClass R_C = some m.cls := findClass_of_methodNamed B.named
  have hlocks := B.notSynchronized
  have hl := lv_entry ([.ref g.1.1, .int p0, .int p1]) (n := 5) (Nat.le_of_ble_eq_true rfl)
  rw [lg_entry_eq]
  generalize (lg_sl ([.ref g.1.1, .int p0, .int p1]) ++ List.replicate (5 - (lg_sl ([.ref g.1.1, .int p0, .int p1])).length) Slot.unset).toArray = ls at hl ⊢
  have hl : lv_has ls 5 [(0, .ref g.1.1), (1, .int p0), (2, .int p1)] := hl
  have hF := M_C_holds_c_eq g x p0 p1
  refine lv_aload_n hx hb d_C_holds_0 rfl (lv_at hl 0 rfl) ?_
  refine lv_iload_n hx hb d_C_holds_1 rfl (lv_at hl 1 rfl) ?_
  refine cpv (As := [.int p0]) (rest := []) ⟨hx, hb, hml, hown, htb⟩ (c_C_requireCoreOrNone l D cI cZ g hg x p0 (Or.inr ⟨hv0, hv1⟩)) (cwv (n := 1) htb cd_C_requireCoreOrNone k_C_116 in_C_requireCoreOrNone se_C_requireCoreOrNone ini_C hd_C_requireCoreOrNone ⟨Nat.le_of_ble_eq_true rfl, Nat.le_of_ble_eq_true rfl⟩) hK hP [0, 1, 2, 3, 4, 5, 6, 7, 8, 9, 10, 11, 12, 13, 14, 15, 16, 17, 18] rfl (ci := 2) rfl rfl rfl hl.1 rfl (Nat.le_of_ble_eq_true rfl) d_C_holds_2 ⟨Nat.zero_le _, Nat.zero_le _⟩ (?_)
  refine lv_aload_n hx hb d_C_holds_5 rfl (lv_at hl 0 rfl) ?_
  refine lv_iload_n hx hb d_C_holds_6 rfl (lv_at hl 1 rfl) ?_
  refine cpr (As := [.int p0]) (rest := []) ⟨hx, hb, hml, hown, htb⟩ (c_C_bankOf_c l D cI cZ g hg x p0 hq) (cwv (n := 1) htb cd_C_bankOf k_C_119 in_C_bankOf se_C_bankOf ini_C hd_C_bankOf ⟨Nat.le_of_ble_eq_true rfl, Nat.le_of_ble_eq_true rfl⟩) hK hP [0, 1, 2, 3, 4, 5, 6, 7, 8, 9, 10, 11, 12, 13, 14, 15, 16, 17, 18] rfl (ci := 2) rfl rfl rfl hl.1 rfl (Nat.le_of_ble_eq_true rfl) d_C_holds_7 ⟨Nat.zero_le _, Nat.zero_le _⟩ (?_)
  refine lv_astore_n (lv' := [(3, .ref g.2.2.2.1.1.1), (0, .ref g.1.1), (1, .int p0), (2, .int p1)]) hx hb d_C_holds_10 rfl hl (by decide) rfl (fun ls hl => ?_)
  refine lv_aload_n hx hb d_C_holds_11 rfl (lv_at hl 0 rfl) ?_
  refine lv_iload_n hx hb d_C_holds_12 rfl (lv_at hl 2 rfl) ?_
  refine cps (As := [.int p0]) (rest := [.ref g.2.2.2.1.1.1]) ⟨hx, hb, hml, hown, htb⟩ (c_C_groupOf l p0) (cws (n := 1) htb cd_C_groupOf k_C_123 st_C_groupOf ini_C hd_C_groupOf ⟨Nat.le_of_ble_eq_true rfl, Nat.le_of_ble_eq_true rfl⟩) rfl hl.1 rfl (Nat.le_of_ble_eq_true rfl) d_C_holds_13 ⟨Nat.zero_le _, Nat.zero_le _⟩ (fun r_13 hw_13 => ?_)
  have hF := hF.trans (bnd_eq hw_13)
  refine lv_iload_n hx hb d_C_holds_16 rfl (lv_at hl 3 rfl) ?_
  refine cpi (As := [.int r_13, .int p1]) (rest := []) ⟨hx, hb, hml, hown, htb⟩ (c_B_find l D cI cZ g.2.2.2.1 hg.2.1 x.2.1 r_13 p1) (cwv (n := 2) htb cd_B_find k_C_72 in_B_find se_B_find ini_B hd_B_find ⟨Nat.le_of_ble_eq_true rfl, Nat.le_of_ble_eq_true rfl⟩) hK hP [1, 2, 3, 4, 5, 6] rfl (ci := 0) rfl rfl rfl hl.1 rfl (Nat.le_of_ble_eq_true rfl) d_C_holds_17 ⟨Nat.zero_le _, Nat.zero_le _⟩ (fun r_17 hw_17 => ?_)
  have hF := hF.trans (bnd_eq hw_17)
  refine lv_istore (lv' := [(4, .int r_17), (3, .ref g.2.2.2.1.1.1), (0, .ref g.1.1), (1, .int p0), (2, .int p1)]) hx hb d_C_holds_20 hl (by decide) rfl (fun ls hl => ?_)
  refine lv_iload hx hb d_C_holds_22 (lv_at hl 0 rfl) ?_
  refine lv_iconst (v := -1) hx hb d_C_holds_24 (by decide) ?_
  refine lv_icmp_ne (tgt := 30) hx hb d_C_holds_25 (by decide) (fun c_25 => ?_) (fun c_25 => ?_)
  · have hF := hF.trans (if_neg c_25)
    refine lv_aload_n hx hb d_C_holds_30 rfl (lv_at hl 1 rfl) ?_
    refine lv_iload hx hb d_C_holds_31 (lv_at hl 0 rfl) ?_
    refine cpi (As := [.int r_17]) (rest := []) ⟨hx, hb, hml, hown, htb⟩ (c_B_isWritten l D cI cZ g.2.2.2.1 hg.2.1 x.2.1 r_17) (cwv (n := 1) htb cd_B_isWritten k_C_96 in_B_isWritten se_B_isWritten ini_B hd_B_isWritten ⟨Nat.le_of_ble_eq_true rfl, Nat.le_of_ble_eq_true rfl⟩) hK hP [1, 2, 3, 4, 5, 6] rfl (ci := 0) rfl rfl rfl hl.1 rfl (Nat.le_of_ble_eq_true rfl) d_C_holds_33 ⟨Nat.zero_le _, Nat.zero_le _⟩ (fun r_33 hw_33 => ?_)
    have hF := hF.trans (bnd_eq hw_33)
    refine lv_if_eq (tgt := 43) hx hb d_C_holds_36 (by decide) (fun c_36 => ?_) (fun c_36 => ?_)
    · have hF := hF.trans (if_pos c_36)
      refine lv_iconst (v := 1) hx hb d_C_holds_43 (by decide) ?_
      exact W.iret (v := (1 : Int32)) hx hb hr (fun t ht hW => ⟨_, rfl, hF.symm, ht⟩) (fun q h => by cases h) d_C_holds_44
    · have hF := hF.trans (if_neg c_36)
      refine lv_iconst (v := 2) hx hb d_C_holds_39 (by decide) ?_
      refine lv_goto (tgt := 44) hx hb d_C_holds_40 (by decide) ?_
      exact W.iret (v := (2 : Int32)) hx hb hr (fun t ht hW => ⟨_, rfl, hF.symm, ht⟩) (fun q h => by cases h) d_C_holds_44
  · have hF := hF.trans (if_pos c_25)
    refine lv_iconst (v := 0) hx hb d_C_holds_28 (by decide) ?_
    exact W.iret (v := (0 : Int32)) hx hb hr (fun t ht hW => ⟨_, rfl, hF.symm, ht⟩) (fun q h => by cases h) d_C_holds_29

def M_C_version (g : GC) (x : Cs) (p0 p1 : Int32) : Int32 := (bnd (M_B_find g.2.2.2.1 x.2.1 p0 p1) (fun r_11 => (if r_11 = (-1 : Int32) then (bnd (M_C_writtenInFirst g x p1) (fun r_31 => (if r_31 = (-1 : Int32) then (bnd (M_B_find g.2.2.2.2.1 x.2.2.1 (0 : Int32) p1) (fun r_58 => (if r_58 = (-1 : Int32) then (bnd (M_V_inMemory g.2.2.2.2.2 x.2.2.2.1 p1) (fun r_86 => r_86)) else (bnd (M_B_versionAt g.2.2.2.2.1 x.2.2.1 r_58) (fun r_75 => r_75))))) else (bnd (M_B_versionAt g.2.2.2.1 x.2.1 r_31) (fun r_48 => r_48))))) else (bnd (M_B_versionAt g.2.2.2.1 x.2.1 r_11) (fun r_25 => r_25)))))
theorem M_C_version_eq (g : GC) (x : Cs) (p0 p1 : Int32) : M_C_version g x p0 p1 = (bnd (M_B_find g.2.2.2.1 x.2.1 p0 p1) (fun r_11 => (if r_11 = (-1 : Int32) then (bnd (M_C_writtenInFirst g x p1) (fun r_31 => (if r_31 = (-1 : Int32) then (bnd (M_B_find g.2.2.2.2.1 x.2.2.1 (0 : Int32) p1) (fun r_58 => (if r_58 = (-1 : Int32) then (bnd (M_V_inMemory g.2.2.2.2.2 x.2.2.2.1 p1) (fun r_86 => r_86)) else (bnd (M_B_versionAt g.2.2.2.2.1 x.2.2.1 r_58) (fun r_75 => r_75))))) else (bnd (M_B_versionAt g.2.2.2.1 x.2.1 r_31) (fun r_48 => r_48))))) else (bnd (M_B_versionAt g.2.2.2.1 x.2.1 r_11) (fun r_25 => r_25))))) := rfl
abbrev w_C_version : List Cond := .code y_C_version b_C_version 6 (some .int) :: tbW
abbrev rm_C_version : Room := { frames := 4, cells := 0, slots := 0, locals := 91 }
set_option maxHeartbeats 4000000 in
set_option maxRecDepth 100000 in
theorem c_C_version (l : Launch) (D : va_G) (cI cZ : ClassId) (g : GC) (hg : okC g) (x : Cs) (p0 p1 : Int32) (hv0 : ¬ p0 < 0) (hv1 : p0 < g.2.1.1) : Met l y_C_version w_C_version rm_C_version (PcR D vwCl (tyK cI cZ) [.ref g.1.1, .int p0, .int p1] (wC cI cZ g x)) (vp_Si (fun r => r = M_C_version g x p0 p1)) 0 0 (fun _ => False) := by
  refine Met.ofW (cc := b_C_version) (maxL := 6) (ret := (some .int)) (by decide) rfl ?_
  intro p e s m args below meth c s₁ B hml hv
  obtain ⟨rfl, hP, hK⟩ := hv
  have hx := B.exec
  have hb := B.bytes
  have hr := B.returns
  have htb : ∀ w ∈ tbW, w.before _ s = true := fun w h => atoms_spec (ws := w_C_version) B.pre w (List.mem_cons_of_mem _ h)
  have hown : s.vm.findClass R_C = some m.cls := findClass_of_methodNamed B.named
  have hlocks := B.notSynchronized
  have hl := lv_entry ([.ref g.1.1, .int p0, .int p1]) (n := 6) (Nat.le_of_ble_eq_true rfl)
  rw [lg_entry_eq]
  generalize (lg_sl ([.ref g.1.1, .int p0, .int p1]) ++ List.replicate (6 - (lg_sl ([.ref g.1.1, .int p0, .int p1])).length) Slot.unset).toArray = ls at hl ⊢
  have hl : lv_has ls 6 [(0, .ref g.1.1), (1, .int p0), (2, .int p1)] := hl
  have hF := M_C_version_eq g x p0 p1
  refine lv_aload_n hx hb d_C_version_0 rfl (lv_at hl 0 rfl) ?_
  refine lv_iload_n hx hb d_C_version_1 rfl (lv_at hl 1 rfl) ?_
  refine cpv (As := [.int p0]) (rest := []) ⟨hx, hb, hml, hown, htb⟩ (c_C_requireCore l D cI cZ g hg x p0 hv0 hv1) (cwv (n := 1) htb cd_C_requireCore k_C_57 in_C_requireCore se_C_requireCore ini_C hd_C_requireCore ⟨Nat.le_of_ble_eq_true rfl, Nat.le_of_ble_eq_true rfl⟩) hK hP [0, 1, 2, 3, 4, 5, 6, 7, 8, 9, 10, 11, 12, 13, 14, 15, 16, 17, 18] rfl (ci := 2) rfl rfl rfl hl.1 rfl (Nat.le_of_ble_eq_true rfl) d_C_version_2 ⟨Nat.zero_le _, Nat.zero_le _⟩ (?_)
  refine lv_aload_n hx hb d_C_version_5 rfl (lv_at hl 0 rfl) ?_
  refine va_get (D := D) (ci := 2) (v := .ref g.2.2.2.1.1.1) (C := R_C) (T := T_C) (N := 10) hx hb htb i_C hown hK hP 0 rfl rfl 2 (by decide) (htb _ k_C_27) (fun _ h9 => h9) rfl d_C_version_6 ?_
  refine lv_iload_n hx hb d_C_version_9 rfl (lv_at hl 1 rfl) ?_
  refine lv_iload_n hx hb d_C_version_10 rfl (lv_at hl 2 rfl) ?_
  refine cpi (As := [.int p0, .int p1]) (rest := []) ⟨hx, hb, hml, hown, htb⟩ (c_B_find l D cI cZ g.2.2.2.1 hg.2.1 x.2.1 p0 p1) (cwv (n := 2) htb cd_B_find k_C_72 in_B_find se_B_find ini_B hd_B_find ⟨Nat.le_of_ble_eq_true rfl, Nat.le_of_ble_eq_true rfl⟩) hK hP [1, 2, 3, 4, 5, 6] rfl (ci := 0) rfl rfl rfl hl.1 rfl (Nat.le_of_ble_eq_true rfl) d_C_version_11 ⟨Nat.zero_le _, Nat.zero_le _⟩ (fun r_11 hw_11 => ?_)
  have hF := hF.trans (bnd_eq hw_11)
  refine lv_istore_n (lv' := [(3, .int r_11), (0, .ref g.1.1), (1, .int p0), (2, .int p1)]) hx hb d_C_version_14 rfl hl (by decide) rfl (fun ls hl => ?_)
  refine lv_iload_n hx hb d_C_version_15 rfl (lv_at hl 0 rfl) ?_
  refine lv_iconst (v := -1) hx hb d_C_version_16 (by decide) ?_
  refine lv_icmp_eq (tgt := 29) hx hb d_C_version_17 (by decide) (fun c_17 => ?_) (fun c_17 => ?_)
  · have hF := hF.trans (if_pos c_17)
    refine lv_aload_n hx hb d_C_version_29 rfl (lv_at hl 1 rfl) ?_
    refine lv_iload_n hx hb d_C_version_30 rfl (lv_at hl 3 rfl) ?_
    refine cpi (As := [.int p1]) (rest := []) ⟨hx, hb, hml, hown, htb⟩ (c_C_writtenInFirst l D cI cZ g hg x p1) (cwv (n := 1) htb cd_C_writtenInFirst k_C_104 in_C_writtenInFirst se_C_writtenInFirst ini_C hd_C_writtenInFirst ⟨Nat.le_of_ble_eq_true rfl, Nat.le_of_ble_eq_true rfl⟩) hK hP [0, 1, 2, 3, 4, 5, 6, 7, 8, 9, 10, 11, 12, 13, 14, 15, 16, 17, 18] rfl (ci := 2) rfl rfl rfl hl.1 rfl (Nat.le_of_ble_eq_true rfl) d_C_version_31 ⟨Nat.zero_le _, Nat.zero_le _⟩ (fun r_31 hw_31 => ?_)
    have hF := hF.trans (bnd_eq hw_31)
    refine lv_istore (lv' := [(4, .int r_31), (3, .int r_11), (0, .ref g.1.1), (1, .int p0), (2, .int p1)]) hx hb d_C_version_34 hl (by decide) rfl (fun ls hl => ?_)
    refine lv_iload hx hb d_C_version_36 (lv_at hl 0 rfl) ?_
    refine lv_iconst (v := -1) hx hb d_C_version_38 (by decide) ?_
    refine lv_icmp_eq (tgt := 52) hx hb d_C_version_39 (by decide) (fun c_39 => ?_) (fun c_39 => ?_)
    · have hF := hF.trans (if_pos c_39)
      refine lv_aload_n hx hb d_C_version_52 rfl (lv_at hl 2 rfl) ?_
      refine va_get (D := D) (ci := 2) (v := .ref g.2.2.2.2.1.1.1) (C := R_C) (T := T_C) (N := 10) hx hb htb i_C hown hK hP 0 rfl rfl 3 (by decide) (htb _ k_C_31) (fun _ h9 => h9) rfl d_C_version_53 ?_
      refine lv_iconst (v := 0) hx hb d_C_version_56 (by decide) ?_
      refine lv_iload_n hx hb d_C_version_57 rfl (lv_at hl 4 rfl) ?_
      refine cpi (As := [.int (0 : Int32), .int p1]) (rest := []) ⟨hx, hb, hml, hown, htb⟩ (c_B_find l D cI cZ g.2.2.2.2.1 hg.2.2.1 x.2.2.1 (0 : Int32) p1) (cwv (n := 2) htb cd_B_find k_C_72 in_B_find se_B_find ini_B hd_B_find ⟨Nat.le_of_ble_eq_true rfl, Nat.le_of_ble_eq_true rfl⟩) hK hP [7, 8, 9, 10, 11, 12] rfl (ci := 0) rfl rfl rfl hl.1 rfl (Nat.le_of_ble_eq_true rfl) d_C_version_58 ⟨Nat.zero_le _, Nat.zero_le _⟩ (fun r_58 hw_58 => ?_)
      have hF := hF.trans (bnd_eq hw_58)
      refine lv_istore (lv' := [(5, .int r_58), (4, .int r_31), (3, .int r_11), (0, .ref g.1.1), (1, .int p0), (2, .int p1)]) hx hb d_C_version_61 hl (by decide) rfl (fun ls hl => ?_)
      refine lv_iload hx hb d_C_version_63 (lv_at hl 0 rfl) ?_
      refine lv_iconst (v := -1) hx hb d_C_version_65 (by decide) ?_
      refine lv_icmp_eq (tgt := 81) hx hb d_C_version_66 (by decide) (fun c_66 => ?_) (fun c_66 => ?_)
      · have hF := hF.trans (if_pos c_66)
        refine lv_aload_n hx hb d_C_version_81 rfl (lv_at hl 3 rfl) ?_
        refine va_get (D := D) (ci := 2) (v := .ref g.2.2.2.2.2.1.1) (C := R_C) (T := T_C) (N := 10) hx hb htb i_C hown hK hP 0 rfl rfl 4 (by decide) (htb _ k_C_37) (fun _ h9 => h9) rfl d_C_version_82 ?_
        refine lv_iload_n hx hb d_C_version_85 rfl (lv_at hl 5 rfl) ?_
        refine cpi (As := [.int p1]) (rest := []) ⟨hx, hb, hml, hown, htb⟩ (c_V_inMemory l D cI cZ g.2.2.2.2.2 hg.2.2.2 x.2.2.2.1 p1) (cwv (n := 1) htb cd_V_inMemory k_C_126 in_V_inMemory se_V_inMemory ini_V hd_V_inMemory ⟨Nat.le_of_ble_eq_true rfl, Nat.le_of_ble_eq_true rfl⟩) hK hP [13, 14, 15, 16] rfl (ci := 1) rfl rfl rfl hl.1 rfl (Nat.le_of_ble_eq_true rfl) d_C_version_86 ⟨Nat.zero_le _, Nat.zero_le _⟩ (fun r_86 hw_86 => ?_)
        have hF := hF.trans (bnd_eq hw_86)
        exact W.iret (v := r_86) hx hb hr (fun t ht hW => ⟨_, rfl, hF.symm, ht⟩) (fun q h => by cases h) d_C_version_89
      · have hF := hF.trans (if_neg c_66)
        refine lv_aload_n hx hb d_C_version_69 rfl (lv_at hl 3 rfl) ?_
        refine va_get (D := D) (ci := 2) (v := .ref g.2.2.2.2.1.1.1) (C := R_C) (T := T_C) (N := 10) hx hb htb i_C hown hK hP 0 rfl rfl 3 (by decide) (htb _ k_C_31) (fun _ h9 => h9) rfl d_C_version_70 ?_
        refine lv_iload hx hb d_C_version_73 (lv_at hl 0 rfl) ?_
        refine cpi (As := [.int r_58]) (rest := []) ⟨hx, hb, hml, hown, htb⟩ (c_B_versionAt l D cI cZ g.2.2.2.2.1 hg.2.2.1 x.2.2.1 r_58) (cwv (n := 1) htb cd_B_versionAt k_C_107 in_B_versionAt se_B_versionAt ini_B hd_B_versionAt ⟨Nat.le_of_ble_eq_true rfl, Nat.le_of_ble_eq_true rfl⟩) hK hP [7, 8, 9, 10, 11, 12] rfl (ci := 0) rfl rfl rfl hl.1 rfl (Nat.le_of_ble_eq_true rfl) d_C_version_75 ⟨Nat.zero_le _, Nat.zero_le _⟩ (fun r_75 hw_75 => ?_)
        have hF := hF.trans (bnd_eq hw_75)
        refine lv_goto (tgt := 89) hx hb d_C_version_78 (by decide) ?_
        exact W.iret (v := r_75) hx hb hr (fun t ht hW => ⟨_, rfl, hF.symm, ht⟩) (fun q h => by cases h) d_C_version_89
    · have hF := hF.trans (if_neg c_39)
      refine lv_aload_n hx hb d_C_version_42 rfl (lv_at hl 2 rfl) ?_
      refine va_get (D := D) (ci := 2) (v := .ref g.2.2.2.1.1.1) (C := R_C) (T := T_C) (N := 10) hx hb htb i_C hown hK hP 0 rfl rfl 2 (by decide) (htb _ k_C_27) (fun _ h9 => h9) rfl d_C_version_43 ?_
      refine lv_iload hx hb d_C_version_46 (lv_at hl 0 rfl) ?_
      refine cpi (As := [.int r_31]) (rest := []) ⟨hx, hb, hml, hown, htb⟩ (c_B_versionAt l D cI cZ g.2.2.2.1 hg.2.1 x.2.1 r_31) (cwv (n := 1) htb cd_B_versionAt k_C_107 in_B_versionAt se_B_versionAt ini_B hd_B_versionAt ⟨Nat.le_of_ble_eq_true rfl, Nat.le_of_ble_eq_true rfl⟩) hK hP [1, 2, 3, 4, 5, 6] rfl (ci := 0) rfl rfl rfl hl.1 rfl (Nat.le_of_ble_eq_true rfl) d_C_version_48 ⟨Nat.zero_le _, Nat.zero_le _⟩ (fun r_48 hw_48 => ?_)
      have hF := hF.trans (bnd_eq hw_48)
      exact W.iret (v := r_48) hx hb hr (fun t ht hW => ⟨_, rfl, hF.symm, ht⟩) (fun q h => by cases h) d_C_version_51
  · have hF := hF.trans (if_neg c_17)
    refine lv_aload_n hx hb d_C_version_20 rfl (lv_at hl 1 rfl) ?_
    refine va_get (D := D) (ci := 2) (v := .ref g.2.2.2.1.1.1) (C := R_C) (T := T_C) (N := 10) hx hb htb i_C hown hK hP 0 rfl rfl 2 (by decide) (htb _ k_C_27) (fun _ h9 => h9) rfl d_C_version_21 ?_
    refine lv_iload_n hx hb d_C_version_24 rfl (lv_at hl 0 rfl) ?_
    refine cpi (As := [.int r_11]) (rest := []) ⟨hx, hb, hml, hown, htb⟩ (c_B_versionAt l D cI cZ g.2.2.2.1 hg.2.1 x.2.1 r_11) (cwv (n := 1) htb cd_B_versionAt k_C_107 in_B_versionAt se_B_versionAt ini_B hd_B_versionAt ⟨Nat.le_of_ble_eq_true rfl, Nat.le_of_ble_eq_true rfl⟩) hK hP [1, 2, 3, 4, 5, 6] rfl (ci := 0) rfl rfl rfl hl.1 rfl (Nat.le_of_ble_eq_true rfl) d_C_version_25 ⟨Nat.zero_le _, Nat.zero_le _⟩ (fun r_25 hw_25 => ?_)
    have hF := hF.trans (bnd_eq hw_25)
    exact W.iret (v := r_25) hx hb hr (fun t ht hW => ⟨_, rfl, hF.symm, ht⟩) (fun q h => by cases h) d_C_version_28

def M_C_memory (g : GC) (x : Cs) (p0 : Int32) : Int32 := (bnd (M_V_inMemory g.2.2.2.2.2 x.2.2.2.1 p0) (fun r_5 => r_5))
theorem M_C_memory_eq (g : GC) (x : Cs) (p0 : Int32) : M_C_memory g x p0 = (bnd (M_V_inMemory g.2.2.2.2.2 x.2.2.2.1 p0) (fun r_5 => r_5)) := rfl
abbrev w_C_memory : List Cond := .code y_C_memory b_C_memory 2 (some .int) :: tbW
abbrev rm_C_memory : Room := { frames := 2, cells := 0, slots := 0, locals := 44 }
set_option maxHeartbeats 4000000 in
set_option maxRecDepth 100000 in
theorem c_C_memory (l : Launch) (D : va_G) (cI cZ : ClassId) (g : GC) (hg : okC g) (x : Cs) (p0 : Int32) : Met l y_C_memory w_C_memory rm_C_memory (PcR D vwCl (tyK cI cZ) [.ref g.1.1, .int p0] (wC cI cZ g x)) (vp_Si (fun r => r = M_C_memory g x p0)) 0 0 (fun _ => False) := by
  refine Met.ofW (cc := b_C_memory) (maxL := 2) (ret := (some .int)) (by decide) rfl ?_
  intro p e s m args below meth c s₁ B hml hv
  obtain ⟨rfl, hP, hK⟩ := hv
  have hx := B.exec
  have hb := B.bytes
  have hr := B.returns
  have htb : ∀ w ∈ tbW, w.before _ s = true := fun w h => atoms_spec (ws := w_C_memory) B.pre w (List.mem_cons_of_mem _ h)
  have hown : s.vm.findClass R_C = some m.cls := findClass_of_methodNamed B.named
  have hlocks := B.notSynchronized
  have hl := lv_entry ([.ref g.1.1, .int p0]) (n := 2) (Nat.le_of_ble_eq_true rfl)
  rw [lg_entry_eq]
  generalize (lg_sl ([.ref g.1.1, .int p0]) ++ List.replicate (2 - (lg_sl ([.ref g.1.1, .int p0])).length) Slot.unset).toArray = ls at hl ⊢
  have hl : lv_has ls 2 [(0, .ref g.1.1), (1, .int p0)] := hl
  have hF := M_C_memory_eq g x p0
  refine lv_aload_n hx hb d_C_memory_0 rfl (lv_at hl 0 rfl) ?_
  refine va_get (D := D) (ci := 2) (v := .ref g.2.2.2.2.2.1.1) (C := R_C) (T := T_C) (N := 10) hx hb htb i_C hown hK hP 0 rfl rfl 4 (by decide) (htb _ k_C_37) (fun _ h9 => h9) rfl d_C_memory_1 ?_
  refine lv_iload_n hx hb d_C_memory_4 rfl (lv_at hl 1 rfl) ?_
  refine cpi (As := [.int p0]) (rest := []) ⟨hx, hb, hml, hown, htb⟩ (c_V_inMemory l D cI cZ g.2.2.2.2.2 hg.2.2.2 x.2.2.2.1 p0) (cwv (n := 1) htb cd_V_inMemory k_C_126 in_V_inMemory se_V_inMemory ini_V hd_V_inMemory ⟨Nat.le_of_ble_eq_true rfl, Nat.le_of_ble_eq_true rfl⟩) hK hP [13, 14, 15, 16] rfl (ci := 1) rfl rfl rfl hl.1 rfl (Nat.le_of_ble_eq_true rfl) d_C_memory_5 ⟨Nat.zero_le _, Nat.zero_le _⟩ (fun r_5 hw_5 => ?_)
  have hF := hF.trans (bnd_eq hw_5)
  exact W.iret (v := r_5) hx hb hr (fun t ht hW => ⟨_, rfl, hF.symm, ht⟩) (fun q h => by cases h) d_C_memory_8

def M_C_line_n (g : GC) (x : Cs) (p0 p1 p2 : Int32) : Int32 := (bnd (M_C_groupOf p0) (fun r_36 => (bnd (M_B_size g.2.2.2.2.1 x.2.2.1 ((r_36 * g.2.2.2.2.1.2.1.1) + p1)) (fun r_58 => (bnd (M_B_lineAt g.2.2.2.2.1 x.2.2.1 ((((r_36 * g.2.2.2.2.1.2.1.1) + p1) * g.2.2.2.2.1.2.1.2) + p2)) (fun r_86 => r_86))))))
theorem M_C_line_n_eq (g : GC) (x : Cs) (p0 p1 p2 : Int32) : M_C_line_n g x p0 p1 p2 = (bnd (M_C_groupOf p0) (fun r_36 => (bnd (M_B_size g.2.2.2.2.1 x.2.2.1 ((r_36 * g.2.2.2.2.1.2.1.1) + p1)) (fun r_58 => (bnd (M_B_lineAt g.2.2.2.2.1 x.2.2.1 ((((r_36 * g.2.2.2.2.1.2.1.1) + p1) * g.2.2.2.2.1.2.1.2) + p2)) (fun r_86 => r_86)))))) := rfl
abbrev w_C_line_n : List Cond := .code y_C_line b_C_line 6 (some .int) :: tbW
abbrev rm_C_line_n : Room := { frames := 2, cells := 0, slots := 0, locals := 42 }
set_option maxHeartbeats 4000000 in
set_option maxRecDepth 100000 in
theorem c_C_line_n (l : Launch) (D : va_G) (cI cZ : ClassId) (g : GC) (hg : okC g) (x : Cs) (p0 p1 p2 : Int32) (hq : p0 = -1) (hs0 : ¬ p1 < 0) (hs1 : p1 < g.2.2.2.2.1.2.1.1) (hk0 : ¬ p2 < 0) (hk1 : p2 < M_B_size g.2.2.2.2.1 x.2.2.1 ((M_C_groupOf p0 * g.2.2.2.2.1.2.1.1) + p1)) : Met l y_C_line w_C_line_n rm_C_line_n (PcR D vwCl (tyK cI cZ) [.ref g.1.1, .int p0, .int p1, .int p2] (wC cI cZ g x)) (vp_Si (fun r => r = M_C_line_n g x p0 p1 p2)) 0 0 (fun _ => False) := by
  refine Met.ofW (cc := b_C_line) (maxL := 6) (ret := (some .int)) (by decide) rfl ?_
  intro p e s m args below meth c s₁ B hml hv
  obtain ⟨rfl, hP, hK⟩ := hv
  have hx := B.exec
  have hb := B.bytes
  have hr := B.returns
  have htb : ∀ w ∈ tbW, w.before _ s = true := fun w h => atoms_spec (ws := w_C_line_n) B.pre w (List.mem_cons_of_mem _ h)
  have hown : s.vm.findClass R_C = some m.cls := findClass_of_methodNamed B.named
  have hlocks := B.notSynchronized
  have hl := lv_entry ([.ref g.1.1, .int p0, .int p1, .int p2]) (n := 6) (Nat.le_of_ble_eq_true rfl)
  rw [lg_entry_eq]
  generalize (lg_sl ([.ref g.1.1, .int p0, .int p1, .int p2]) ++ List.replicate (6 - (lg_sl ([.ref g.1.1, .int p0, .int p1, .int p2])).length) Slot.unset).toArray = ls at hl ⊢
  have hl : lv_has ls 6 [(0, .ref g.1.1), (1, .int p0), (2, .int p1), (3, .int p2)] := hl
  have hF := M_C_line_n_eq g x p0 p1 p2
  refine lv_aload_n hx hb d_C_line_0 rfl (lv_at hl 0 rfl) ?_
  refine lv_iload_n hx hb d_C_line_1 rfl (lv_at hl 1 rfl) ?_
  refine cpv (As := [.int p0]) (rest := []) ⟨hx, hb, hml, hown, htb⟩ (c_C_requireCoreOrNone l D cI cZ g hg x p0 (Or.inl hq)) (cwv (n := 1) htb cd_C_requireCoreOrNone k_C_116 in_C_requireCoreOrNone se_C_requireCoreOrNone ini_C hd_C_requireCoreOrNone ⟨Nat.le_of_ble_eq_true rfl, Nat.le_of_ble_eq_true rfl⟩) hK hP [0, 1, 2, 3, 4, 5, 6, 7, 8, 9, 10, 11, 12, 13, 14, 15, 16, 17, 18] rfl (ci := 2) rfl rfl rfl hl.1 rfl (Nat.le_of_ble_eq_true rfl) d_C_line_2 ⟨Nat.zero_le _, Nat.zero_le _⟩ (?_)
  refine lv_aload_n hx hb d_C_line_5 rfl (lv_at hl 0 rfl) ?_
  refine lv_iload_n hx hb d_C_line_6 rfl (lv_at hl 1 rfl) ?_
  refine cpr (As := [.int p0]) (rest := []) ⟨hx, hb, hml, hown, htb⟩ (c_C_bankOf_n l D cI cZ g hg x p0 hq) (cwv (n := 1) htb cd_C_bankOf k_C_119 in_C_bankOf se_C_bankOf ini_C hd_C_bankOf ⟨Nat.le_of_ble_eq_true rfl, Nat.le_of_ble_eq_true rfl⟩) hK hP [0, 1, 2, 3, 4, 5, 6, 7, 8, 9, 10, 11, 12, 13, 14, 15, 16, 17, 18] rfl (ci := 2) rfl rfl rfl hl.1 rfl (Nat.le_of_ble_eq_true rfl) d_C_line_7 ⟨Nat.zero_le _, Nat.zero_le _⟩ (?_)
  refine lv_astore (lv' := [(4, .ref g.2.2.2.2.1.1.1), (0, .ref g.1.1), (1, .int p0), (2, .int p1), (3, .int p2)]) hx hb d_C_line_10 hl (by decide) rfl (fun ls hl => ?_)
  refine lv_iload_n hx hb d_C_line_12 rfl (lv_at hl 3 rfl) ?_
  refine lv_if_lt (tgt := 25) hx hb d_C_line_13 (by decide) (fun c_13 => ?_) (fun c_13 => ?_)
  · exact absurd c_13 hs0
  · skip
    refine lv_iload_n hx hb d_C_line_16 rfl (lv_at hl 3 rfl) ?_
    refine lv_aload hx hb d_C_line_17 (lv_at hl 0 rfl) ?_
    refine va_get (D := D) (ci := 0) (v := .int g.2.2.2.2.1.2.1.1) (C := R_B) (T := T_B) (N := 7) hx hb htb i_B hown hK hP 7 rfl rfl 0 (by decide) (htb _ k_C_129) (fun _ h9 => h9) rfl d_C_line_19 ?_
    refine lv_icmp_lt (tgt := 35) hx hb d_C_line_22 (by decide) (fun c_22 => ?_) (fun c_22 => ?_)
    · skip
      refine lv_iload_n hx hb d_C_line_35 rfl (lv_at hl 2 rfl) ?_
      refine cps (As := [.int p0]) (rest := []) ⟨hx, hb, hml, hown, htb⟩ (c_C_groupOf l p0) (cws (n := 1) htb cd_C_groupOf k_C_123 st_C_groupOf ini_C hd_C_groupOf ⟨Nat.le_of_ble_eq_true rfl, Nat.le_of_ble_eq_true rfl⟩) rfl hl.1 rfl (Nat.le_of_ble_eq_true rfl) d_C_line_36 ⟨Nat.zero_le _, Nat.zero_le _⟩ (fun r_36 hw_36 => ?_)
      have hF := hF.trans (bnd_eq hw_36)
      refine lv_aload hx hb d_C_line_39 (lv_at hl 0 rfl) ?_
      refine va_get (D := D) (ci := 0) (v := .int g.2.2.2.2.1.2.1.1) (C := R_B) (T := T_B) (N := 7) hx hb htb i_B hown hK hP 7 rfl rfl 0 (by decide) (htb _ k_C_129) (fun _ h9 => h9) rfl d_C_line_41 ?_
      refine lv_imul hx hb d_C_line_44 ?_
      refine lv_iload_n hx hb d_C_line_45 rfl (lv_at hl 3 rfl) ?_
      refine lv_iadd hx hb d_C_line_46 ?_
      refine lv_istore (lv' := [(5, .int ((r_36 * g.2.2.2.2.1.2.1.1) + p1)), (4, .ref g.2.2.2.2.1.1.1), (0, .ref g.1.1), (1, .int p0), (2, .int p1), (3, .int p2)]) hx hb d_C_line_47 hl (by decide) rfl (fun ls hl => ?_)
      refine lv_iload_n hx hb d_C_line_49 rfl (lv_at hl 5 rfl) ?_
      refine lv_if_lt (tgt := 64) hx hb d_C_line_50 (by decide) (fun c_50 => ?_) (fun c_50 => ?_)
      · exact absurd c_50 hk0
      · skip
        refine lv_iload_n hx hb d_C_line_53 rfl (lv_at hl 5 rfl) ?_
        refine lv_aload hx hb d_C_line_54 (lv_at hl 1 rfl) ?_
        refine lv_iload hx hb d_C_line_56 (lv_at hl 0 rfl) ?_
        refine cpi (As := [.int ((r_36 * g.2.2.2.2.1.2.1.1) + p1)]) (rest := [.int p2]) ⟨hx, hb, hml, hown, htb⟩ (c_B_size l D cI cZ g.2.2.2.2.1 hg.2.2.1 x.2.2.1 ((r_36 * g.2.2.2.2.1.2.1.1) + p1)) (cwv (n := 1) htb cd_B_size k_C_137 in_B_size se_B_size ini_B hd_B_size ⟨Nat.le_of_ble_eq_true rfl, Nat.le_of_ble_eq_true rfl⟩) hK hP [7, 8, 9, 10, 11, 12] rfl (ci := 0) rfl rfl rfl hl.1 rfl (Nat.le_of_ble_eq_true rfl) d_C_line_58 ⟨Nat.zero_le _, Nat.zero_le _⟩ (fun r_58 hw_58 => ?_)
        have hF := hF.trans (bnd_eq hw_58)
        refine lv_icmp_lt (tgt := 74) hx hb d_C_line_61 (by decide) (fun c_61 => ?_) (fun c_61 => ?_)
        · skip
          refine lv_aload hx hb d_C_line_74 (lv_at hl 1 rfl) ?_
          refine lv_iload hx hb d_C_line_76 (lv_at hl 0 rfl) ?_
          refine lv_aload hx hb d_C_line_78 (lv_at hl 1 rfl) ?_
          refine va_get (D := D) (ci := 0) (v := .int g.2.2.2.2.1.2.1.2) (C := R_B) (T := T_B) (N := 7) hx hb htb i_B hown hK hP 7 rfl rfl 1 (by decide) (htb _ k_C_142) (fun _ h9 => h9) rfl d_C_line_80 ?_
          refine lv_imul hx hb d_C_line_83 ?_
          refine lv_iload_n hx hb d_C_line_84 rfl (lv_at hl 5 rfl) ?_
          refine lv_iadd hx hb d_C_line_85 ?_
          refine cpi (As := [.int ((((r_36 * g.2.2.2.2.1.2.1.1) + p1) * g.2.2.2.2.1.2.1.2) + p2)]) (rest := []) ⟨hx, hb, hml, hown, htb⟩ (c_B_lineAt l D cI cZ g.2.2.2.2.1 hg.2.2.1 x.2.2.1 ((((r_36 * g.2.2.2.2.1.2.1.1) + p1) * g.2.2.2.2.1.2.1.2) + p2)) (cwv (n := 1) htb cd_B_lineAt k_C_100 in_B_lineAt se_B_lineAt ini_B hd_B_lineAt ⟨Nat.le_of_ble_eq_true rfl, Nat.le_of_ble_eq_true rfl⟩) hK hP [7, 8, 9, 10, 11, 12] rfl (ci := 0) rfl rfl rfl hl.1 rfl (Nat.le_of_ble_eq_true rfl) d_C_line_86 ⟨Nat.zero_le _, Nat.zero_le _⟩ (fun r_86 hw_86 => ?_)
          have hF := hF.trans (bnd_eq hw_86)
          exact W.iret (v := r_86) hx hb hr (fun t ht hW => ⟨_, rfl, hF.symm, ht⟩) (fun q h => by cases h) d_C_line_89
        · exact absurd (by rw [hw_58, hw_36]; exact hk1) c_61
    · exact absurd hs1 c_22

def M_C_line_c (g : GC) (x : Cs) (p0 p1 p2 : Int32) : Int32 := (bnd (M_C_groupOf p0) (fun r_36 => (bnd (M_B_size g.2.2.2.1 x.2.1 ((r_36 * g.2.2.2.1.2.1.1) + p1)) (fun r_58 => (bnd (M_B_lineAt g.2.2.2.1 x.2.1 ((((r_36 * g.2.2.2.1.2.1.1) + p1) * g.2.2.2.1.2.1.2) + p2)) (fun r_86 => r_86))))))
theorem M_C_line_c_eq (g : GC) (x : Cs) (p0 p1 p2 : Int32) : M_C_line_c g x p0 p1 p2 = (bnd (M_C_groupOf p0) (fun r_36 => (bnd (M_B_size g.2.2.2.1 x.2.1 ((r_36 * g.2.2.2.1.2.1.1) + p1)) (fun r_58 => (bnd (M_B_lineAt g.2.2.2.1 x.2.1 ((((r_36 * g.2.2.2.1.2.1.1) + p1) * g.2.2.2.1.2.1.2) + p2)) (fun r_86 => r_86)))))) := rfl
abbrev w_C_line_c : List Cond := .code y_C_line b_C_line 6 (some .int) :: tbW
abbrev rm_C_line_c : Room := { frames := 2, cells := 0, slots := 0, locals := 42 }
set_option maxHeartbeats 4000000 in
set_option maxRecDepth 100000 in
theorem c_C_line_c (l : Launch) (D : va_G) (cI cZ : ClassId) (g : GC) (hg : okC g) (x : Cs) (p0 p1 p2 : Int32) (hv0 : ¬ p0 < 0) (hv1 : p0 < g.2.1.1) (hq : ¬ p0 = -1) (hs0 : ¬ p1 < 0) (hs1 : p1 < g.2.2.2.1.2.1.1) (hk0 : ¬ p2 < 0) (hk1 : p2 < M_B_size g.2.2.2.1 x.2.1 ((M_C_groupOf p0 * g.2.2.2.1.2.1.1) + p1)) : Met l y_C_line w_C_line_c rm_C_line_c (PcR D vwCl (tyK cI cZ) [.ref g.1.1, .int p0, .int p1, .int p2] (wC cI cZ g x)) (vp_Si (fun r => r = M_C_line_c g x p0 p1 p2)) 0 0 (fun _ => False) := by
  refine Met.ofW (cc := b_C_line) (maxL := 6) (ret := (some .int)) (by decide) rfl ?_
  intro p e s m args below meth c s₁ B hml hv
  obtain ⟨rfl, hP, hK⟩ := hv
  have hx := B.exec
  have hb := B.bytes
  have hr := B.returns
  have htb : ∀ w ∈ tbW, w.before _ s = true := fun w h => atoms_spec (ws := w_C_line_c) B.pre w (List.mem_cons_of_mem _ h)
  have hown : s.vm.findClass R_C = some m.cls := findClass_of_methodNamed B.named
  have hlocks := B.notSynchronized
  have hl := lv_entry ([.ref g.1.1, .int p0, .int p1, .int p2]) (n := 6) (Nat.le_of_ble_eq_true rfl)
  rw [lg_entry_eq]
  generalize (lg_sl ([.ref g.1.1, .int p0, .int p1, .int p2]) ++ List.replicate (6 - (lg_sl ([.ref g.1.1, .int p0, .int p1, .int p2])).length) Slot.unset).toArray = ls at hl ⊢
  have hl : lv_has ls 6 [(0, .ref g.1.1), (1, .int p0), (2, .int p1), (3, .int p2)] := hl
  have hF := M_C_line_c_eq g x p0 p1 p2
  refine lv_aload_n hx hb d_C_line_0 rfl (lv_at hl 0 rfl) ?_
  refine lv_iload_n hx hb d_C_line_1 rfl (lv_at hl 1 rfl) ?_
  refine cpv (As := [.int p0]) (rest := []) ⟨hx, hb, hml, hown, htb⟩ (c_C_requireCoreOrNone l D cI cZ g hg x p0 (Or.inr ⟨hv0, hv1⟩)) (cwv (n := 1) htb cd_C_requireCoreOrNone k_C_116 in_C_requireCoreOrNone se_C_requireCoreOrNone ini_C hd_C_requireCoreOrNone ⟨Nat.le_of_ble_eq_true rfl, Nat.le_of_ble_eq_true rfl⟩) hK hP [0, 1, 2, 3, 4, 5, 6, 7, 8, 9, 10, 11, 12, 13, 14, 15, 16, 17, 18] rfl (ci := 2) rfl rfl rfl hl.1 rfl (Nat.le_of_ble_eq_true rfl) d_C_line_2 ⟨Nat.zero_le _, Nat.zero_le _⟩ (?_)
  refine lv_aload_n hx hb d_C_line_5 rfl (lv_at hl 0 rfl) ?_
  refine lv_iload_n hx hb d_C_line_6 rfl (lv_at hl 1 rfl) ?_
  refine cpr (As := [.int p0]) (rest := []) ⟨hx, hb, hml, hown, htb⟩ (c_C_bankOf_c l D cI cZ g hg x p0 hq) (cwv (n := 1) htb cd_C_bankOf k_C_119 in_C_bankOf se_C_bankOf ini_C hd_C_bankOf ⟨Nat.le_of_ble_eq_true rfl, Nat.le_of_ble_eq_true rfl⟩) hK hP [0, 1, 2, 3, 4, 5, 6, 7, 8, 9, 10, 11, 12, 13, 14, 15, 16, 17, 18] rfl (ci := 2) rfl rfl rfl hl.1 rfl (Nat.le_of_ble_eq_true rfl) d_C_line_7 ⟨Nat.zero_le _, Nat.zero_le _⟩ (?_)
  refine lv_astore (lv' := [(4, .ref g.2.2.2.1.1.1), (0, .ref g.1.1), (1, .int p0), (2, .int p1), (3, .int p2)]) hx hb d_C_line_10 hl (by decide) rfl (fun ls hl => ?_)
  refine lv_iload_n hx hb d_C_line_12 rfl (lv_at hl 3 rfl) ?_
  refine lv_if_lt (tgt := 25) hx hb d_C_line_13 (by decide) (fun c_13 => ?_) (fun c_13 => ?_)
  · exact absurd c_13 hs0
  · skip
    refine lv_iload_n hx hb d_C_line_16 rfl (lv_at hl 3 rfl) ?_
    refine lv_aload hx hb d_C_line_17 (lv_at hl 0 rfl) ?_
    refine va_get (D := D) (ci := 0) (v := .int g.2.2.2.1.2.1.1) (C := R_B) (T := T_B) (N := 7) hx hb htb i_B hown hK hP 1 rfl rfl 0 (by decide) (htb _ k_C_129) (fun _ h9 => h9) rfl d_C_line_19 ?_
    refine lv_icmp_lt (tgt := 35) hx hb d_C_line_22 (by decide) (fun c_22 => ?_) (fun c_22 => ?_)
    · skip
      refine lv_iload_n hx hb d_C_line_35 rfl (lv_at hl 2 rfl) ?_
      refine cps (As := [.int p0]) (rest := []) ⟨hx, hb, hml, hown, htb⟩ (c_C_groupOf l p0) (cws (n := 1) htb cd_C_groupOf k_C_123 st_C_groupOf ini_C hd_C_groupOf ⟨Nat.le_of_ble_eq_true rfl, Nat.le_of_ble_eq_true rfl⟩) rfl hl.1 rfl (Nat.le_of_ble_eq_true rfl) d_C_line_36 ⟨Nat.zero_le _, Nat.zero_le _⟩ (fun r_36 hw_36 => ?_)
      have hF := hF.trans (bnd_eq hw_36)
      refine lv_aload hx hb d_C_line_39 (lv_at hl 0 rfl) ?_
      refine va_get (D := D) (ci := 0) (v := .int g.2.2.2.1.2.1.1) (C := R_B) (T := T_B) (N := 7) hx hb htb i_B hown hK hP 1 rfl rfl 0 (by decide) (htb _ k_C_129) (fun _ h9 => h9) rfl d_C_line_41 ?_
      refine lv_imul hx hb d_C_line_44 ?_
      refine lv_iload_n hx hb d_C_line_45 rfl (lv_at hl 3 rfl) ?_
      refine lv_iadd hx hb d_C_line_46 ?_
      refine lv_istore (lv' := [(5, .int ((r_36 * g.2.2.2.1.2.1.1) + p1)), (4, .ref g.2.2.2.1.1.1), (0, .ref g.1.1), (1, .int p0), (2, .int p1), (3, .int p2)]) hx hb d_C_line_47 hl (by decide) rfl (fun ls hl => ?_)
      refine lv_iload_n hx hb d_C_line_49 rfl (lv_at hl 5 rfl) ?_
      refine lv_if_lt (tgt := 64) hx hb d_C_line_50 (by decide) (fun c_50 => ?_) (fun c_50 => ?_)
      · exact absurd c_50 hk0
      · skip
        refine lv_iload_n hx hb d_C_line_53 rfl (lv_at hl 5 rfl) ?_
        refine lv_aload hx hb d_C_line_54 (lv_at hl 1 rfl) ?_
        refine lv_iload hx hb d_C_line_56 (lv_at hl 0 rfl) ?_
        refine cpi (As := [.int ((r_36 * g.2.2.2.1.2.1.1) + p1)]) (rest := [.int p2]) ⟨hx, hb, hml, hown, htb⟩ (c_B_size l D cI cZ g.2.2.2.1 hg.2.1 x.2.1 ((r_36 * g.2.2.2.1.2.1.1) + p1)) (cwv (n := 1) htb cd_B_size k_C_137 in_B_size se_B_size ini_B hd_B_size ⟨Nat.le_of_ble_eq_true rfl, Nat.le_of_ble_eq_true rfl⟩) hK hP [1, 2, 3, 4, 5, 6] rfl (ci := 0) rfl rfl rfl hl.1 rfl (Nat.le_of_ble_eq_true rfl) d_C_line_58 ⟨Nat.zero_le _, Nat.zero_le _⟩ (fun r_58 hw_58 => ?_)
        have hF := hF.trans (bnd_eq hw_58)
        refine lv_icmp_lt (tgt := 74) hx hb d_C_line_61 (by decide) (fun c_61 => ?_) (fun c_61 => ?_)
        · skip
          refine lv_aload hx hb d_C_line_74 (lv_at hl 1 rfl) ?_
          refine lv_iload hx hb d_C_line_76 (lv_at hl 0 rfl) ?_
          refine lv_aload hx hb d_C_line_78 (lv_at hl 1 rfl) ?_
          refine va_get (D := D) (ci := 0) (v := .int g.2.2.2.1.2.1.2) (C := R_B) (T := T_B) (N := 7) hx hb htb i_B hown hK hP 1 rfl rfl 1 (by decide) (htb _ k_C_142) (fun _ h9 => h9) rfl d_C_line_80 ?_
          refine lv_imul hx hb d_C_line_83 ?_
          refine lv_iload_n hx hb d_C_line_84 rfl (lv_at hl 5 rfl) ?_
          refine lv_iadd hx hb d_C_line_85 ?_
          refine cpi (As := [.int ((((r_36 * g.2.2.2.1.2.1.1) + p1) * g.2.2.2.1.2.1.2) + p2)]) (rest := []) ⟨hx, hb, hml, hown, htb⟩ (c_B_lineAt l D cI cZ g.2.2.2.1 hg.2.1 x.2.1 ((((r_36 * g.2.2.2.1.2.1.1) + p1) * g.2.2.2.1.2.1.2) + p2)) (cwv (n := 1) htb cd_B_lineAt k_C_100 in_B_lineAt se_B_lineAt ini_B hd_B_lineAt ⟨Nat.le_of_ble_eq_true rfl, Nat.le_of_ble_eq_true rfl⟩) hK hP [1, 2, 3, 4, 5, 6] rfl (ci := 0) rfl rfl rfl hl.1 rfl (Nat.le_of_ble_eq_true rfl) d_C_line_86 ⟨Nat.zero_le _, Nat.zero_le _⟩ (fun r_86 hw_86 => ?_)
          have hF := hF.trans (bnd_eq hw_86)
          exact W.iret (v := r_86) hx hb hr (fun t ht hW => ⟨_, rfl, hF.symm, ht⟩) (fun q h => by cases h) d_C_line_89
        · exact absurd (by rw [hw_58, hw_36]; exact hk1) c_61
    · exact absurd hs1 c_22

def M_C_owner (g : GC) (x : Cs) (p0 : Int32) : Int32 := (bnd (M_B_find g.2.2.2.2.1 x.2.2.1 (0 : Int32) p0) (fun r_6 => (if r_6 = (-1 : Int32) then (-1 : Int32) else (bnd (M_B_ownerAt g.2.2.2.2.1 x.2.2.1 r_6) (fun r_24 => r_24)))))
theorem M_C_owner_eq (g : GC) (x : Cs) (p0 : Int32) : M_C_owner g x p0 = (bnd (M_B_find g.2.2.2.2.1 x.2.2.1 (0 : Int32) p0) (fun r_6 => (if r_6 = (-1 : Int32) then (-1 : Int32) else (bnd (M_B_ownerAt g.2.2.2.2.1 x.2.2.1 r_6) (fun r_24 => r_24))))) := rfl
abbrev w_C_owner : List Cond := .code y_C_owner b_C_owner 3 (some .int) :: tbW
abbrev rm_C_owner : Room := { frames := 3, cells := 0, slots := 0, locals := 68 }
set_option maxHeartbeats 4000000 in
set_option maxRecDepth 100000 in
theorem c_C_owner (l : Launch) (D : va_G) (cI cZ : ClassId) (g : GC) (hg : okC g) (x : Cs) (p0 : Int32) : Met l y_C_owner w_C_owner rm_C_owner (PcR D vwCl (tyK cI cZ) [.ref g.1.1, .int p0] (wC cI cZ g x)) (vp_Si (fun r => r = M_C_owner g x p0)) 0 0 (fun _ => False) := by
  refine Met.ofW (cc := b_C_owner) (maxL := 3) (ret := (some .int)) (by decide) rfl ?_
  intro p e s m args below meth c s₁ B hml hv
  obtain ⟨rfl, hP, hK⟩ := hv
  have hx := B.exec
  have hb := B.bytes
  have hr := B.returns
  have htb : ∀ w ∈ tbW, w.before _ s = true := fun w h => atoms_spec (ws := w_C_owner) B.pre w (List.mem_cons_of_mem _ h)
  have hown : s.vm.findClass R_C = some m.cls := findClass_of_methodNamed B.named
  have hlocks := B.notSynchronized
  have hl := lv_entry ([.ref g.1.1, .int p0]) (n := 3) (Nat.le_of_ble_eq_true rfl)
  rw [lg_entry_eq]
  generalize (lg_sl ([.ref g.1.1, .int p0]) ++ List.replicate (3 - (lg_sl ([.ref g.1.1, .int p0])).length) Slot.unset).toArray = ls at hl ⊢
  have hl : lv_has ls 3 [(0, .ref g.1.1), (1, .int p0)] := hl
  have hF := M_C_owner_eq g x p0
  refine lv_aload_n hx hb d_C_owner_0 rfl (lv_at hl 0 rfl) ?_
  refine va_get (D := D) (ci := 2) (v := .ref g.2.2.2.2.1.1.1) (C := R_C) (T := T_C) (N := 10) hx hb htb i_C hown hK hP 0 rfl rfl 3 (by decide) (htb _ k_C_31) (fun _ h9 => h9) rfl d_C_owner_1 ?_
  refine lv_iconst (v := 0) hx hb d_C_owner_4 (by decide) ?_
  refine lv_iload_n hx hb d_C_owner_5 rfl (lv_at hl 1 rfl) ?_
  refine cpi (As := [.int (0 : Int32), .int p0]) (rest := []) ⟨hx, hb, hml, hown, htb⟩ (c_B_find l D cI cZ g.2.2.2.2.1 hg.2.2.1 x.2.2.1 (0 : Int32) p0) (cwv (n := 2) htb cd_B_find k_C_72 in_B_find se_B_find ini_B hd_B_find ⟨Nat.le_of_ble_eq_true rfl, Nat.le_of_ble_eq_true rfl⟩) hK hP [7, 8, 9, 10, 11, 12] rfl (ci := 0) rfl rfl rfl hl.1 rfl (Nat.le_of_ble_eq_true rfl) d_C_owner_6 ⟨Nat.zero_le _, Nat.zero_le _⟩ (fun r_6 hw_6 => ?_)
  have hF := hF.trans (bnd_eq hw_6)
  refine lv_istore_n (lv' := [(2, .int r_6), (0, .ref g.1.1), (1, .int p0)]) hx hb d_C_owner_9 rfl hl (by decide) rfl (fun ls hl => ?_)
  refine lv_iload_n hx hb d_C_owner_10 rfl (lv_at hl 0 rfl) ?_
  refine lv_iconst (v := -1) hx hb d_C_owner_11 (by decide) ?_
  refine lv_icmp_ne (tgt := 19) hx hb d_C_owner_12 (by decide) (fun c_12 => ?_) (fun c_12 => ?_)
  · have hF := hF.trans (if_neg c_12)
    refine lv_aload_n hx hb d_C_owner_19 rfl (lv_at hl 1 rfl) ?_
    refine va_get (D := D) (ci := 2) (v := .ref g.2.2.2.2.1.1.1) (C := R_C) (T := T_C) (N := 10) hx hb htb i_C hown hK hP 0 rfl rfl 3 (by decide) (htb _ k_C_31) (fun _ h9 => h9) rfl d_C_owner_20 ?_
    refine lv_iload_n hx hb d_C_owner_23 rfl (lv_at hl 0 rfl) ?_
    refine cpi (As := [.int r_6]) (rest := []) ⟨hx, hb, hml, hown, htb⟩ (c_B_ownerAt l D cI cZ g.2.2.2.2.1 hg.2.2.1 x.2.2.1 r_6) (cwv (n := 1) htb cd_B_ownerAt k_C_145 in_B_ownerAt se_B_ownerAt ini_B hd_B_ownerAt ⟨Nat.le_of_ble_eq_true rfl, Nat.le_of_ble_eq_true rfl⟩) hK hP [7, 8, 9, 10, 11, 12] rfl (ci := 0) rfl rfl rfl hl.1 rfl (Nat.le_of_ble_eq_true rfl) d_C_owner_24 ⟨Nat.zero_le _, Nat.zero_le _⟩ (fun r_24 hw_24 => ?_)
    have hF := hF.trans (bnd_eq hw_24)
    exact W.iret (v := r_24) hx hb hr (fun t ht hW => ⟨_, rfl, hF.symm, ht⟩) (fun q h => by cases h) d_C_owner_27
  · have hF := hF.trans (if_pos c_12)
    refine lv_iconst (v := -1) hx hb d_C_owner_15 (by decide) ?_
    refine lv_goto (tgt := 27) hx hb d_C_owner_16 (by decide) ?_
    exact W.iret (v := (-1 : Int32)) hx hb hr (fun t ht hW => ⟨_, rfl, hF.symm, ht⟩) (fun q h => by cases h) d_C_owner_27

def M_C_core (g : GC) (x : Cs) (p0 p1 : Int32) : Int32 := (if p1 = (7 : Int32) then (bnd (M_B_ownedBy g.2.2.2.2.1 x.2.2.1 p0) (fun r_36 => r_36)) else (x.2.2.2.2.2 ((p0 * (7 : Int32)) + p1).toNatClampNeg))
theorem M_C_core_eq (g : GC) (x : Cs) (p0 p1 : Int32) : M_C_core g x p0 p1 = (if p1 = (7 : Int32) then (bnd (M_B_ownedBy g.2.2.2.2.1 x.2.2.1 p0) (fun r_36 => r_36)) else (x.2.2.2.2.2 ((p0 * (7 : Int32)) + p1).toNatClampNeg)) := rfl
abbrev w_C_core : List Cond := .code y_C_core b_C_core 3 (some .int) :: tbW
abbrev rm_C_core : Room := { frames := 4, cells := 0, slots := 0, locals := 89 }
set_option maxHeartbeats 4000000 in
set_option maxRecDepth 100000 in
theorem c_C_core (l : Launch) (D : va_G) (cI cZ : ClassId) (g : GC) (hg : okC g) (x : Cs) (p0 p1 : Int32) (hv0 : ¬ p0 < 0) (hv1 : p0 < g.2.1.1) (hw0 : ¬ p1 < 0) (hw1 : p1 ≤ 7) : Met l y_C_core w_C_core rm_C_core (PcR D vwCl (tyK cI cZ) [.ref g.1.1, .int p0, .int p1] (wC cI cZ g x)) (vp_Si (fun r => r = M_C_core g x p0 p1)) 0 0 (fun _ => False) := by
  refine Met.ofW (cc := b_C_core) (maxL := 3) (ret := (some .int)) (by decide) rfl ?_
  intro p e s m args below meth c s₁ B hml hv
  obtain ⟨rfl, hP, hK⟩ := hv
  have hx := B.exec
  have hb := B.bytes
  have hr := B.returns
  have htb : ∀ w ∈ tbW, w.before _ s = true := fun w h => atoms_spec (ws := w_C_core) B.pre w (List.mem_cons_of_mem _ h)
  have hown : s.vm.findClass R_C = some m.cls := findClass_of_methodNamed B.named
  have hlocks := B.notSynchronized
  have hl := lv_entry ([.ref g.1.1, .int p0, .int p1]) (n := 3) (Nat.le_of_ble_eq_true rfl)
  rw [lg_entry_eq]
  generalize (lg_sl ([.ref g.1.1, .int p0, .int p1]) ++ List.replicate (3 - (lg_sl ([.ref g.1.1, .int p0, .int p1])).length) Slot.unset).toArray = ls at hl ⊢
  have hl : lv_has ls 3 [(0, .ref g.1.1), (1, .int p0), (2, .int p1)] := hl
  have hF := M_C_core_eq g x p0 p1
  refine lv_aload_n hx hb d_C_core_0 rfl (lv_at hl 0 rfl) ?_
  refine lv_iload_n hx hb d_C_core_1 rfl (lv_at hl 1 rfl) ?_
  refine cpv (As := [.int p0]) (rest := []) ⟨hx, hb, hml, hown, htb⟩ (c_C_requireCore l D cI cZ g hg x p0 hv0 hv1) (cwv (n := 1) htb cd_C_requireCore k_C_57 in_C_requireCore se_C_requireCore ini_C hd_C_requireCore ⟨Nat.le_of_ble_eq_true rfl, Nat.le_of_ble_eq_true rfl⟩) hK hP [0, 1, 2, 3, 4, 5, 6, 7, 8, 9, 10, 11, 12, 13, 14, 15, 16, 17, 18] rfl (ci := 2) rfl rfl rfl hl.1 rfl (Nat.le_of_ble_eq_true rfl) d_C_core_2 ⟨Nat.zero_le _, Nat.zero_le _⟩ (?_)
  refine lv_iload_n hx hb d_C_core_5 rfl (lv_at hl 2 rfl) ?_
  refine lv_if_lt (tgt := 15) hx hb d_C_core_6 (by decide) (fun c_6 => ?_) (fun c_6 => ?_)
  · exact absurd c_6 hw0
  · skip
    refine lv_iload_n hx hb d_C_core_9 rfl (lv_at hl 2 rfl) ?_
    refine lv_bipush (v := 7) hx hb d_C_core_10 (by decide) ?_
    refine lv_icmp_le (tgt := 25) hx hb d_C_core_12 (by decide) (fun c_12 => ?_) (fun c_12 => ?_)
    · skip
      refine lv_iload_n hx hb d_C_core_25 rfl (lv_at hl 2 rfl) ?_
      refine lv_bipush (v := 7) hx hb d_C_core_26 (by decide) ?_
      refine lv_icmp_ne (tgt := 42) hx hb d_C_core_28 (by decide) (fun c_28 => ?_) (fun c_28 => ?_)
      · have hF := hF.trans (if_neg c_28)
        refine lv_aload_n hx hb d_C_core_42 rfl (lv_at hl 0 rfl) ?_
        refine va_get (D := D) (ci := 2) (v := .ref g.1.2.2) (C := R_C) (T := T_C) (N := 10) hx hb htb i_C hown hK hP 0 rfl rfl 6 (by decide) (htb _ k_C_45) (fun _ h9 => h9) rfl d_C_core_43 ?_
        refine lv_iload_n hx hb d_C_core_46 rfl (lv_at hl 1 rfl) ?_
        refine lv_bipush (v := 7) hx hb d_C_core_47 (by decide) ?_
        refine lv_imul hx hb d_C_core_49 ?_
        refine lv_iload_n hx hb d_C_core_50 rfl (lv_at hl 2 rfl) ?_
        refine lv_iadd hx hb d_C_core_51 ?_
        refine va_iald hx hb hK hP 18 0 rfl rfl (tally_in hg.1 hv0 hv1 hw0 hw1 c_28) d_C_core_52 ?_
        exact W.iret (v := (x.2.2.2.2.2 ((p0 * (7 : Int32)) + p1).toNatClampNeg)) hx hb hr (fun t ht hW => ⟨_, rfl, hF.symm, ht⟩) (fun q h => by cases h) d_C_core_53
      · have hF := hF.trans (if_pos c_28)
        refine lv_aload_n hx hb d_C_core_31 rfl (lv_at hl 0 rfl) ?_
        refine va_get (D := D) (ci := 2) (v := .ref g.2.2.2.2.1.1.1) (C := R_C) (T := T_C) (N := 10) hx hb htb i_C hown hK hP 0 rfl rfl 3 (by decide) (htb _ k_C_31) (fun _ h9 => h9) rfl d_C_core_32 ?_
        refine lv_iload_n hx hb d_C_core_35 rfl (lv_at hl 1 rfl) ?_
        refine cpi (As := [.int p0]) (rest := []) ⟨hx, hb, hml, hown, htb⟩ (c_B_ownedBy l D cI cZ g.2.2.2.2.1 hg.2.2.1 x.2.2.1 p0) (cwv (n := 1) htb cd_B_ownedBy k_C_150 in_B_ownedBy se_B_ownedBy ini_B hd_B_ownedBy ⟨Nat.le_of_ble_eq_true rfl, Nat.le_of_ble_eq_true rfl⟩) hK hP [7, 8, 9, 10, 11, 12] rfl (ci := 0) rfl rfl rfl hl.1 rfl (Nat.le_of_ble_eq_true rfl) d_C_core_36 ⟨Nat.zero_le _, Nat.zero_le _⟩ (fun r_36 hw_36 => ?_)
        have hF := hF.trans (bnd_eq hw_36)
        refine lv_goto (tgt := 53) hx hb d_C_core_39 (by decide) ?_
        exact W.iret (v := r_36) hx hb hr (fun t ht hW => ⟨_, rfl, hF.symm, ht⟩) (fun q h => by cases h) d_C_core_53
    · exact absurd hw1 c_12

def M_C_count (g : GC) (x : Cs) (p0 : Int32) : Int32 := (if p0 = 0 then x.2.2.2.1.1 else (if p0 = 1 then x.1.2.2 else (if p0 = 2 then (bnd (M_B_total g.2.2.2.1 x.2.1) (fun r_65 => r_65)) else (if p0 = 3 then (bnd (M_B_total g.2.2.2.2.1 x.2.2.1) (fun r_73 => r_73)) else (if p0 = 4 then g.2.1.1 else (if p0 = 5 then g.2.1.2 else (if p0 = 6 then g.2.2.2.1.2.1.1 else (if p0 = 7 then g.2.2.2.2.1.2.1.1 else (-1 : Int32)))))))))
theorem M_C_count_eq (g : GC) (x : Cs) (p0 : Int32) : M_C_count g x p0 = (if p0 = 0 then x.2.2.2.1.1 else (if p0 = 1 then x.1.2.2 else (if p0 = 2 then (bnd (M_B_total g.2.2.2.1 x.2.1) (fun r_65 => r_65)) else (if p0 = 3 then (bnd (M_B_total g.2.2.2.2.1 x.2.2.1) (fun r_73 => r_73)) else (if p0 = 4 then g.2.1.1 else (if p0 = 5 then g.2.1.2 else (if p0 = 6 then g.2.2.2.1.2.1.1 else (if p0 = 7 then g.2.2.2.2.1.2.1.1 else (-1 : Int32))))))))) := rfl
abbrev w_C_count : List Cond := .code y_C_count b_C_count 2 (some .int) :: tbW
abbrev rm_C_count : Room := { frames := 1, cells := 0, slots := 0, locals := 22 }
set_option maxHeartbeats 4000000 in
set_option maxRecDepth 100000 in
theorem c_C_count (l : Launch) (D : va_G) (cI cZ : ClassId) (g : GC) (hg : okC g) (x : Cs) (p0 : Int32) : Met l y_C_count w_C_count rm_C_count (PcR D vwCl (tyK cI cZ) [.ref g.1.1, .int p0] (wC cI cZ g x)) (vp_Si (fun r => r = M_C_count g x p0)) 0 0 (fun _ => False) := by
  refine Met.ofW (cc := b_C_count) (maxL := 2) (ret := (some .int)) (by decide) rfl ?_
  intro p e s m args below meth c s₁ B hml hv
  obtain ⟨rfl, hP, hK⟩ := hv
  have hx := B.exec
  have hb := B.bytes
  have hr := B.returns
  have htb : ∀ w ∈ tbW, w.before _ s = true := fun w h => atoms_spec (ws := w_C_count) B.pre w (List.mem_cons_of_mem _ h)
  have hown : s.vm.findClass R_C = some m.cls := findClass_of_methodNamed B.named
  have hlocks := B.notSynchronized
  have hl := lv_entry ([.ref g.1.1, .int p0]) (n := 2) (Nat.le_of_ble_eq_true rfl)
  rw [lg_entry_eq]
  generalize (lg_sl ([.ref g.1.1, .int p0]) ++ List.replicate (2 - (lg_sl ([.ref g.1.1, .int p0])).length) Slot.unset).toArray = ls at hl ⊢
  have hl : lv_has ls 2 [(0, .ref g.1.1), (1, .int p0)] := hl
  have hF := M_C_count_eq g x p0
  refine lv_iload_n hx hb d_C_count_0 rfl (lv_at hl 1 rfl) ?_
  by_cases c_1_0 : p0 = 0
  · have hF := hF.trans (if_pos c_1_0)
    refine lv_tableIn (tgt := 48) hx hb d_C_count_1 (by rw [c_1_0]; decide) (by rw [c_1_0]; decide) (by rw [c_1_0]; rfl) (by decide) ?_
    refine lv_aload_n hx hb d_C_count_48 rfl (lv_at hl 0 rfl) ?_
    refine va_get (D := D) (ci := 2) (v := .ref g.2.2.2.2.2.1.1) (C := R_C) (T := T_C) (N := 10) hx hb htb i_C hown hK hP 0 rfl rfl 4 (by decide) (htb _ k_C_37) (fun _ h9 => h9) rfl d_C_count_49 ?_
    refine va_get (D := D) (ci := 1) (v := .int x.2.2.2.1.1) (C := R_V) (T := T_V) (N := 5) hx hb htb i_V hown hK hP 13 rfl rfl 0 (by decide) (htb _ k_C_89) (fun _ h9 => h9) rfl d_C_count_52 ?_
    exact W.iret (v := x.2.2.2.1.1) hx hb hr (fun t ht hW => ⟨_, rfl, hF.symm, ht⟩) (fun q h => by cases h) d_C_count_55
  have hF := hF.trans (if_neg c_1_0)
  by_cases c_1_1 : p0 = 1
  · have hF := hF.trans (if_pos c_1_1)
    refine lv_tableIn (tgt := 56) hx hb d_C_count_1 (by rw [c_1_1]; decide) (by rw [c_1_1]; decide) (by rw [c_1_1]; rfl) (by decide) ?_
    refine lv_aload_n hx hb d_C_count_56 rfl (lv_at hl 0 rfl) ?_
    refine va_get (D := D) (ci := 2) (v := .int x.1.2.2) (C := R_C) (T := T_C) (N := 10) hx hb htb i_C hown hK hP 0 rfl rfl 9 (by decide) (htb _ k_C_54) (fun _ h9 => h9) rfl d_C_count_57 ?_
    exact W.iret (v := x.1.2.2) hx hb hr (fun t ht hW => ⟨_, rfl, hF.symm, ht⟩) (fun q h => by cases h) d_C_count_60
  have hF := hF.trans (if_neg c_1_1)
  by_cases c_1_2 : p0 = 2
  · have hF := hF.trans (if_pos c_1_2)
    refine lv_tableIn (tgt := 61) hx hb d_C_count_1 (by rw [c_1_2]; decide) (by rw [c_1_2]; decide) (by rw [c_1_2]; rfl) (by decide) ?_
    refine lv_aload_n hx hb d_C_count_61 rfl (lv_at hl 0 rfl) ?_
    refine va_get (D := D) (ci := 2) (v := .ref g.2.2.2.1.1.1) (C := R_C) (T := T_C) (N := 10) hx hb htb i_C hown hK hP 0 rfl rfl 2 (by decide) (htb _ k_C_27) (fun _ h9 => h9) rfl d_C_count_62 ?_
    refine cpi (As := []) (rest := []) ⟨hx, hb, hml, hown, htb⟩ (c_B_total l D cI cZ g.2.2.2.1 hg.2.1 x.2.1) (cwv (n := 0) htb cd_B_total k_C_153 in_B_total se_B_total ini_B hd_B_total ⟨Nat.le_of_ble_eq_true rfl, Nat.le_of_ble_eq_true rfl⟩) hK hP [1, 2, 3, 4, 5, 6] rfl (ci := 0) rfl rfl rfl hl.1 rfl (Nat.le_of_ble_eq_true rfl) d_C_count_65 ⟨Nat.zero_le _, Nat.zero_le _⟩ (fun r_65 hw_65 => ?_)
    have hF := hF.trans (bnd_eq hw_65)
    exact W.iret (v := r_65) hx hb hr (fun t ht hW => ⟨_, rfl, hF.symm, ht⟩) (fun q h => by cases h) d_C_count_68
  have hF := hF.trans (if_neg c_1_2)
  by_cases c_1_3 : p0 = 3
  · have hF := hF.trans (if_pos c_1_3)
    refine lv_tableIn (tgt := 69) hx hb d_C_count_1 (by rw [c_1_3]; decide) (by rw [c_1_3]; decide) (by rw [c_1_3]; rfl) (by decide) ?_
    refine lv_aload_n hx hb d_C_count_69 rfl (lv_at hl 0 rfl) ?_
    refine va_get (D := D) (ci := 2) (v := .ref g.2.2.2.2.1.1.1) (C := R_C) (T := T_C) (N := 10) hx hb htb i_C hown hK hP 0 rfl rfl 3 (by decide) (htb _ k_C_31) (fun _ h9 => h9) rfl d_C_count_70 ?_
    refine cpi (As := []) (rest := []) ⟨hx, hb, hml, hown, htb⟩ (c_B_total l D cI cZ g.2.2.2.2.1 hg.2.2.1 x.2.2.1) (cwv (n := 0) htb cd_B_total k_C_153 in_B_total se_B_total ini_B hd_B_total ⟨Nat.le_of_ble_eq_true rfl, Nat.le_of_ble_eq_true rfl⟩) hK hP [7, 8, 9, 10, 11, 12] rfl (ci := 0) rfl rfl rfl hl.1 rfl (Nat.le_of_ble_eq_true rfl) d_C_count_73 ⟨Nat.zero_le _, Nat.zero_le _⟩ (fun r_73 hw_73 => ?_)
    have hF := hF.trans (bnd_eq hw_73)
    exact W.iret (v := r_73) hx hb hr (fun t ht hW => ⟨_, rfl, hF.symm, ht⟩) (fun q h => by cases h) d_C_count_76
  have hF := hF.trans (if_neg c_1_3)
  by_cases c_1_4 : p0 = 4
  · have hF := hF.trans (if_pos c_1_4)
    refine lv_tableIn (tgt := 77) hx hb d_C_count_1 (by rw [c_1_4]; decide) (by rw [c_1_4]; decide) (by rw [c_1_4]; rfl) (by decide) ?_
    refine lv_aload_n hx hb d_C_count_77 rfl (lv_at hl 0 rfl) ?_
    refine va_get (D := D) (ci := 2) (v := .int g.2.1.1) (C := R_C) (T := T_C) (N := 10) hx hb htb i_C hown hK hP 0 rfl rfl 0 (by decide) (htb _ k_C_15) (fun _ h9 => h9) rfl d_C_count_78 ?_
    exact W.iret (v := g.2.1.1) hx hb hr (fun t ht hW => ⟨_, rfl, hF.symm, ht⟩) (fun q h => by cases h) d_C_count_81
  have hF := hF.trans (if_neg c_1_4)
  by_cases c_1_5 : p0 = 5
  · have hF := hF.trans (if_pos c_1_5)
    refine lv_tableIn (tgt := 82) hx hb d_C_count_1 (by rw [c_1_5]; decide) (by rw [c_1_5]; decide) (by rw [c_1_5]; rfl) (by decide) ?_
    refine lv_aload_n hx hb d_C_count_82 rfl (lv_at hl 0 rfl) ?_
    refine va_get (D := D) (ci := 2) (v := .int g.2.1.2) (C := R_C) (T := T_C) (N := 10) hx hb htb i_C hown hK hP 0 rfl rfl 1 (by decide) (htb _ k_C_19) (fun _ h9 => h9) rfl d_C_count_83 ?_
    exact W.iret (v := g.2.1.2) hx hb hr (fun t ht hW => ⟨_, rfl, hF.symm, ht⟩) (fun q h => by cases h) d_C_count_86
  have hF := hF.trans (if_neg c_1_5)
  by_cases c_1_6 : p0 = 6
  · have hF := hF.trans (if_pos c_1_6)
    refine lv_tableIn (tgt := 87) hx hb d_C_count_1 (by rw [c_1_6]; decide) (by rw [c_1_6]; decide) (by rw [c_1_6]; rfl) (by decide) ?_
    refine lv_aload_n hx hb d_C_count_87 rfl (lv_at hl 0 rfl) ?_
    refine va_get (D := D) (ci := 2) (v := .ref g.2.2.2.1.1.1) (C := R_C) (T := T_C) (N := 10) hx hb htb i_C hown hK hP 0 rfl rfl 2 (by decide) (htb _ k_C_27) (fun _ h9 => h9) rfl d_C_count_88 ?_
    refine va_get (D := D) (ci := 0) (v := .int g.2.2.2.1.2.1.1) (C := R_B) (T := T_B) (N := 7) hx hb htb i_B hown hK hP 1 rfl rfl 0 (by decide) (htb _ k_C_129) (fun _ h9 => h9) rfl d_C_count_91 ?_
    exact W.iret (v := g.2.2.2.1.2.1.1) hx hb hr (fun t ht hW => ⟨_, rfl, hF.symm, ht⟩) (fun q h => by cases h) d_C_count_94
  have hF := hF.trans (if_neg c_1_6)
  by_cases c_1_7 : p0 = 7
  · have hF := hF.trans (if_pos c_1_7)
    refine lv_tableIn (tgt := 95) hx hb d_C_count_1 (by rw [c_1_7]; decide) (by rw [c_1_7]; decide) (by rw [c_1_7]; rfl) (by decide) ?_
    refine lv_aload_n hx hb d_C_count_95 rfl (lv_at hl 0 rfl) ?_
    refine va_get (D := D) (ci := 2) (v := .ref g.2.2.2.2.1.1.1) (C := R_C) (T := T_C) (N := 10) hx hb htb i_C hown hK hP 0 rfl rfl 3 (by decide) (htb _ k_C_31) (fun _ h9 => h9) rfl d_C_count_96 ?_
    refine va_get (D := D) (ci := 0) (v := .int g.2.2.2.2.1.2.1.1) (C := R_B) (T := T_B) (N := 7) hx hb htb i_B hown hK hP 7 rfl rfl 0 (by decide) (htb _ k_C_129) (fun _ h9 => h9) rfl d_C_count_99 ?_
    exact W.iret (v := g.2.2.2.2.1.2.1.1) hx hb hr (fun t ht hW => ⟨_, rfl, hF.symm, ht⟩) (fun q h => by cases h) d_C_count_102
  have hF := hF.trans (if_neg c_1_7)
  refine lv_tableOut (tgt := 103) hx hb d_C_count_1 (tab_out c_1_0 c_1_1 c_1_2 c_1_3 c_1_4 c_1_5 c_1_6 c_1_7) (by decide) ?_
  refine lv_iconst (v := -1) hx hb d_C_count_103 (by decide) ?_
  exact W.iret (v := (-1 : Int32)) hx hb hr (fun t ht hW => ⟨_, rfl, hF.symm, ht⟩) (fun q h => by cases h) d_C_count_104
end
