theorem k_M_61 : Cond.fieldLink "CacheLevelsModel" 61 "CacheLevelsModel" "thrown" "I" ∈ tbW := tw 448 (by decide +kernel) (by decide +kernel)
theorem k_M_45 : Cond.fieldLink "CacheLevelsModel" 45 "CacheLevelsModel" "cores" "I" ∈ tbW := tw 449 (by decide +kernel) (by decide +kernel)
theorem k_M_52 : Cond.fieldLink "CacheLevelsModel" 52 "CacheLevelsModel" "keep" "I" ∈ tbW := tw 450 (by decide +kernel) (by decide +kernel)
theorem k_M_55 : Cond.fieldLink "CacheLevelsModel" 55 "CacheLevelsModel" "firstSets" "I" ∈ tbW := tw 451 (by decide +kernel) (by decide +kernel)
theorem k_M_58 : Cond.fieldLink "CacheLevelsModel" 58 "CacheLevelsModel" "secondSets" "I" ∈ tbW := tw 452 (by decide +kernel) (by decide +kernel)
theorem k_M_7 : Cond.fieldLink "CacheLevelsModel" 7 "CacheLevelsModel" "size" "[I" ∈ tbW := tw 453 (by decide +kernel) (by decide +kernel)
theorem k_M_13 : Cond.fieldLink "CacheLevelsModel" 13 "CacheLevelsModel" "line" "[I" ∈ tbW := tw 454 (by decide +kernel) (by decide +kernel)
theorem k_M_16 : Cond.fieldLink "CacheLevelsModel" 16 "CacheLevelsModel" "written" "[Z" ∈ tbW := tw 455 (by decide +kernel) (by decide +kernel)
theorem k_M_20 : Cond.fieldLink "CacheLevelsModel" 20 "CacheLevelsModel" "version" "[I" ∈ tbW := tw 456 (by decide +kernel) (by decide +kernel)
theorem k_M_23 : Cond.fieldLink "CacheLevelsModel" 23 "CacheLevelsModel" "owner" "[I" ∈ tbW := tw 457 (by decide +kernel) (by decide +kernel)
theorem k_M_26 : Cond.fieldLink "CacheLevelsModel" 26 "CacheLevelsModel" "quota" "[I" ∈ tbW := tw 458 (by decide +kernel) (by decide +kernel)
theorem k_M_29 : Cond.fieldLink "CacheLevelsModel" 29 "CacheLevelsModel" "from" "I" ∈ tbW := tw 459 (by decide +kernel) (by decide +kernel)
theorem k_M_104 : Cond.fieldLink "CacheLevelsModel" 104 "CacheLevelsModel" "to" "I" ∈ tbW := tw 460 (by decide +kernel) (by decide +kernel)
theorem k_M_68 : Cond.fieldLink "CacheLevelsModel" 68 "CacheLevelsModel" "known" "I" ∈ tbW := tw 461 (by decide +kernel) (by decide +kernel)
theorem k_M_33 : Cond.fieldLink "CacheLevelsModel" 33 "CacheLevelsModel" "knownLine" "[I" ∈ tbW := tw 462 (by decide +kernel) (by decide +kernel)
theorem k_M_36 : Cond.fieldLink "CacheLevelsModel" 36 "CacheLevelsModel" "latest" "[I" ∈ tbW := tw 463 (by decide +kernel) (by decide +kernel)
theorem k_M_39 : Cond.fieldLink "CacheLevelsModel" 39 "CacheLevelsModel" "inMemory" "[I" ∈ tbW := tw 464 (by decide +kernel) (by decide +kernel)
theorem k_M_42 : Cond.fieldLink "CacheLevelsModel" 42 "CacheLevelsModel" "counts" "[I" ∈ tbW := tw 465 (by decide +kernel) (by decide +kernel)
theorem k_M_95 : Cond.fieldLink "CacheLevelsModel" 95 "CacheLevelsModel" "backs" "I" ∈ tbW := tw 466 (by decide +kernel) (by decide +kernel)
theorem k_M_130 : Cond.fieldLink "CacheLevelsModel" 130 "CacheLevelsModel" "handed" "I" ∈ tbW := tw 467 (by decide +kernel) (by decide +kernel)
theorem k_M_1 : Cond.methodLink "CacheLevelsModel" 1 ⟨"java/lang/Object", "<init>", "()V"⟩ ∈ tbW := tw 444 (by decide +kernel) (by decide +kernel)
theorem k_M_48 : Cond.methodLink "CacheLevelsModel" 48 y_M_modulo ∈ tbW := tw 445 (by decide +kernel) (by decide +kernel)
theorem k_M_145 : Cond.methodLink "CacheLevelsModel" 145 y_M_isCore ∈ tbW := tw 517 (by decide +kernel) (by decide +kernel)
theorem k_M_64 : Cond.methodLink "CacheLevelsModel" 64 y_M_within ∈ tbW := tw 521 (by decide +kernel) (by decide +kernel)
theorem k_M_148 : Cond.methodLink "CacheLevelsModel" 148 y_M_fail ∈ tbW := tw 524 (by decide +kernel) (by decide +kernel)
theorem k_M_98 : Cond.methodLink "CacheLevelsModel" 98 y_M_at ∈ tbW := tw 528 (by decide +kernel) (by decide +kernel)
theorem k_M_151 : Cond.methodLink "CacheLevelsModel" 151 y_M_bring ∈ tbW := tw 532 (by decide +kernel) (by decide +kernel)
theorem k_M_133 : Cond.methodLink "CacheLevelsModel" 133 y_M_handOver ∈ tbW := tw 536 (by decide +kernel) (by decide +kernel)
theorem k_M_127 : Cond.methodLink "CacheLevelsModel" 127 y_M_goDown ∈ tbW := tw 540 (by decide +kernel) (by decide +kernel)
theorem k_M_101 : Cond.methodLink "CacheLevelsModel" 101 y_M_toMemory ∈ tbW := tw 544 (by decide +kernel) (by decide +kernel)
theorem k_M_92 : Cond.methodLink "CacheLevelsModel" 92 y_M_learn ∈ tbW := tw 548 (by decide +kernel) (by decide +kernel)
theorem k_M_71 : Cond.methodLink "CacheLevelsModel" 71 y_M_find ∈ tbW := tw 552 (by decide +kernel) (by decide +kernel)
theorem k_M_82 : Cond.methodLink "CacheLevelsModel" 82 y_M_takeOut ∈ tbW := tw 556 (by decide +kernel) (by decide +kernel)
theorem k_M_78 : Cond.methodLink "CacheLevelsModel" 78 y_M_copy ∈ tbW := tw 560 (by decide +kernel) (by decide +kernel)
theorem k_M_136 : Cond.methodLink "CacheLevelsModel" 136 y_M_use ∈ tbW := tw 564 (by decide +kernel) (by decide +kernel)
theorem k_M_85 : Cond.methodLink "CacheLevelsModel" 85 y_M_putFirst ∈ tbW := tw 568 (by decide +kernel) (by decide +kernel)
theorem k_M_139 : Cond.methodLink "CacheLevelsModel" 139 y_M_comeToFirst ∈ tbW := tw 572 (by decide +kernel) (by decide +kernel)
theorem k_M_89 : Cond.methodLink "CacheLevelsModel" 89 y_M_setOf ∈ tbW := tw 576 (by decide +kernel) (by decide +kernel)
theorem k_M_75 : Cond.methodLink "CacheLevelsModel" 75 y_M_sets ∈ tbW := tw 580 (by decide +kernel) (by decide +kernel)
theorem k_M_107 : Cond.methodLink "CacheLevelsModel" 107 y_M_oldest ∈ tbW := tw 584 (by decide +kernel) (by decide +kernel)
theorem k_M_115 : Cond.methodLink "CacheLevelsModel" 115 y_M_passes ∈ tbW := tw 588 (by decide +kernel) (by decide +kernel)
theorem k_M_119 : Cond.methodLink "CacheLevelsModel" 119 y_M_isOneOf ∈ tbW := tw 592 (by decide +kernel) (by decide +kernel)
theorem k_M_123 : Cond.methodLink "CacheLevelsModel" 123 y_M_comeToSecond ∈ tbW := tw 596 (by decide +kernel) (by decide +kernel)
theorem k_M_111 : Cond.methodLink "CacheLevelsModel" 111 y_M_leaveSecond ∈ tbW := tw 600 (by decide +kernel) (by decide +kernel)
theorem k_M_142 : Cond.methodLink "CacheLevelsModel" 142 y_M_memoryOf ∈ tbW := tw 604 (by decide +kernel) (by decide +kernel)
theorem k_M_154 : Cond.methodLink "CacheLevelsModel" 154 y_M_othersLose ∈ tbW := tw 608 (by decide +kernel) (by decide +kernel)
theorem k_M_157 : Cond.methodLink "CacheLevelsModel" 157 y_M_isWrittenInFirst ∈ tbW := tw 624 (by decide +kernel) (by decide +kernel)
theorem k_M_160 : Cond.methodLink "CacheLevelsModel" 160 y_M_cacheOf ∈ tbW := tw 632 (by decide +kernel) (by decide +kernel)
theorem ini_M : Cond.initialized "CacheLevelsModel" ∈ tbW := tw 5 (by decide +kernel) (by decide +kernel)
theorem it_M : Cond.instantiable "CacheLevelsModel" 20 ∈ tbW := tw 440 (by decide +kernel) (by decide +kernel)
theorem d_M_init_0 : decode b_M_init 0 = .ok (.aload_n 0, 1) := by decide +kernel
theorem d_M_init_1 : decode b_M_init 1 = .ok (.invokespecial 1, 3) := by decide +kernel
theorem d_M_init_4 : decode b_M_init 4 = .ok (.aload_n 0, 1) := by decide +kernel
theorem d_M_init_5 : decode b_M_init 5 = .ok (.iconst 5, 1) := by decide +kernel
theorem d_M_init_6 : decode b_M_init 6 = .ok (.newarray .int, 2) := by decide +kernel
theorem d_M_init_8 : decode b_M_init 8 = .ok (.putfield 7, 3) := by decide +kernel
theorem d_M_init_11 : decode b_M_init 11 = .ok (.aload_n 0, 1) := by decide +kernel
theorem d_M_init_12 : decode b_M_init 12 = .ok (.sipush 320, 3) := by decide +kernel
theorem d_M_init_15 : decode b_M_init 15 = .ok (.newarray .int, 2) := by decide +kernel
theorem d_M_init_17 : decode b_M_init 17 = .ok (.putfield 13, 3) := by decide +kernel
theorem d_M_init_20 : decode b_M_init 20 = .ok (.aload_n 0, 1) := by decide +kernel
theorem d_M_init_21 : decode b_M_init 21 = .ok (.sipush 320, 3) := by decide +kernel
theorem d_M_init_24 : decode b_M_init 24 = .ok (.newarray .boolean, 2) := by decide +kernel
theorem d_M_init_26 : decode b_M_init 26 = .ok (.putfield 16, 3) := by decide +kernel
theorem d_M_init_29 : decode b_M_init 29 = .ok (.aload_n 0, 1) := by decide +kernel
theorem d_M_init_30 : decode b_M_init 30 = .ok (.sipush 320, 3) := by decide +kernel
theorem d_M_init_33 : decode b_M_init 33 = .ok (.newarray .int, 2) := by decide +kernel
theorem d_M_init_35 : decode b_M_init 35 = .ok (.putfield 20, 3) := by decide +kernel
theorem d_M_init_38 : decode b_M_init 38 = .ok (.aload_n 0, 1) := by decide +kernel
theorem d_M_init_39 : decode b_M_init 39 = .ok (.sipush 320, 3) := by decide +kernel
theorem d_M_init_42 : decode b_M_init 42 = .ok (.newarray .int, 2) := by decide +kernel
theorem d_M_init_44 : decode b_M_init 44 = .ok (.putfield 23, 3) := by decide +kernel
theorem d_M_init_47 : decode b_M_init 47 = .ok (.aload_n 0, 1) := by decide +kernel
theorem d_M_init_48 : decode b_M_init 48 = .ok (.iconst 4, 1) := by decide +kernel
theorem d_M_init_49 : decode b_M_init 49 = .ok (.newarray .int, 2) := by decide +kernel
theorem d_M_init_51 : decode b_M_init 51 = .ok (.dup, 1) := by decide +kernel
theorem d_M_init_52 : decode b_M_init 52 = .ok (.iconst 0, 1) := by decide +kernel
theorem d_M_init_53 : decode b_M_init 53 = .ok (.iconst 4, 1) := by decide +kernel
theorem d_M_init_54 : decode b_M_init 54 = .ok (.iastore, 1) := by decide +kernel
theorem d_M_init_55 : decode b_M_init 55 = .ok (.dup, 1) := by decide +kernel
theorem d_M_init_56 : decode b_M_init 56 = .ok (.iconst 1, 1) := by decide +kernel
theorem d_M_init_57 : decode b_M_init 57 = .ok (.iconst 4, 1) := by decide +kernel
theorem d_M_init_58 : decode b_M_init 58 = .ok (.iastore, 1) := by decide +kernel
theorem d_M_init_59 : decode b_M_init 59 = .ok (.dup, 1) := by decide +kernel
theorem d_M_init_60 : decode b_M_init 60 = .ok (.iconst 2, 1) := by decide +kernel
theorem d_M_init_61 : decode b_M_init 61 = .ok (.iconst 4, 1) := by decide +kernel
theorem d_M_init_62 : decode b_M_init 62 = .ok (.iastore, 1) := by decide +kernel
theorem d_M_init_63 : decode b_M_init 63 = .ok (.dup, 1) := by decide +kernel
theorem d_M_init_64 : decode b_M_init 64 = .ok (.iconst 3, 1) := by decide +kernel
theorem d_M_init_65 : decode b_M_init 65 = .ok (.iconst 4, 1) := by decide +kernel
theorem d_M_init_66 : decode b_M_init 66 = .ok (.iastore, 1) := by decide +kernel
theorem d_M_init_67 : decode b_M_init 67 = .ok (.putfield 26, 3) := by decide +kernel
theorem d_M_init_70 : decode b_M_init 70 = .ok (.aload_n 0, 1) := by decide +kernel
theorem d_M_init_71 : decode b_M_init 71 = .ok (.iconst 1, 1) := by decide +kernel
theorem d_M_init_72 : decode b_M_init 72 = .ok (.putfield 29, 3) := by decide +kernel
theorem d_M_init_75 : decode b_M_init 75 = .ok (.aload_n 0, 1) := by decide +kernel
theorem d_M_init_76 : decode b_M_init 76 = .ok (.sipush 600, 3) := by decide +kernel
theorem d_M_init_79 : decode b_M_init 79 = .ok (.newarray .int, 2) := by decide +kernel
theorem d_M_init_81 : decode b_M_init 81 = .ok (.putfield 33, 3) := by decide +kernel
theorem d_M_init_84 : decode b_M_init 84 = .ok (.aload_n 0, 1) := by decide +kernel
theorem d_M_init_85 : decode b_M_init 85 = .ok (.sipush 600, 3) := by decide +kernel
theorem d_M_init_88 : decode b_M_init 88 = .ok (.newarray .int, 2) := by decide +kernel
theorem d_M_init_90 : decode b_M_init 90 = .ok (.putfield 36, 3) := by decide +kernel
theorem d_M_init_93 : decode b_M_init 93 = .ok (.aload_n 0, 1) := by decide +kernel
theorem d_M_init_94 : decode b_M_init 94 = .ok (.sipush 600, 3) := by decide +kernel
theorem d_M_init_97 : decode b_M_init 97 = .ok (.newarray .int, 2) := by decide +kernel
theorem d_M_init_99 : decode b_M_init 99 = .ok (.putfield 39, 3) := by decide +kernel
theorem d_M_init_102 : decode b_M_init 102 = .ok (.aload_n 0, 1) := by decide +kernel
theorem d_M_init_103 : decode b_M_init 103 = .ok (.bipush 28, 2) := by decide +kernel
theorem d_M_init_105 : decode b_M_init 105 = .ok (.newarray .int, 2) := by decide +kernel
theorem d_M_init_107 : decode b_M_init 107 = .ok (.putfield 42, 3) := by decide +kernel
theorem d_M_init_110 : decode b_M_init 110 = .ok (.aload_n 0, 1) := by decide +kernel
theorem d_M_init_111 : decode b_M_init 111 = .ok (.iconst 1, 1) := by decide +kernel
theorem d_M_init_112 : decode b_M_init 112 = .ok (.iload_n 1, 1) := by decide +kernel
theorem d_M_init_113 : decode b_M_init 113 = .ok (.iconst 1, 1) := by decide +kernel
theorem d_M_init_114 : decode b_M_init 114 = .ok (.isub, 1) := by decide +kernel
theorem d_M_init_115 : decode b_M_init 115 = .ok (.iconst 3, 1) := by decide +kernel
theorem d_M_init_116 : decode b_M_init 116 = .ok (.iand, 1) := by decide +kernel
theorem d_M_init_117 : decode b_M_init 117 = .ok (.iadd, 1) := by decide +kernel
theorem d_M_init_118 : decode b_M_init 118 = .ok (.putfield 45, 3) := by decide +kernel
theorem d_M_init_121 : decode b_M_init 121 = .ok (.aload_n 0, 1) := by decide +kernel
theorem d_M_init_122 : decode b_M_init 122 = .ok (.iload_n 2, 1) := by decide +kernel
theorem d_M_init_123 : decode b_M_init 123 = .ok (.iconst 3, 1) := by decide +kernel
theorem d_M_init_124 : decode b_M_init 124 = .ok (.invokestatic 48, 3) := by decide +kernel
theorem d_M_init_127 : decode b_M_init 127 = .ok (.putfield 52, 3) := by decide +kernel
theorem d_M_init_130 : decode b_M_init 130 = .ok (.aload_n 0, 1) := by decide +kernel
theorem d_M_init_131 : decode b_M_init 131 = .ok (.iconst 1, 1) := by decide +kernel
theorem d_M_init_132 : decode b_M_init 132 = .ok (.iload_n 3, 1) := by decide +kernel
theorem d_M_init_133 : decode b_M_init 133 = .ok (.iconst 1, 1) := by decide +kernel
theorem d_M_init_134 : decode b_M_init 134 = .ok (.isub, 1) := by decide +kernel
theorem d_M_init_135 : decode b_M_init 135 = .ok (.bipush 7, 2) := by decide +kernel
theorem d_M_init_137 : decode b_M_init 137 = .ok (.iand, 1) := by decide +kernel
theorem d_M_init_138 : decode b_M_init 138 = .ok (.iadd, 1) := by decide +kernel
theorem d_M_init_139 : decode b_M_init 139 = .ok (.putfield 55, 3) := by decide +kernel
theorem d_M_init_142 : decode b_M_init 142 = .ok (.aload_n 0, 1) := by decide +kernel
theorem d_M_init_143 : decode b_M_init 143 = .ok (.iconst 1, 1) := by decide +kernel
theorem d_M_init_144 : decode b_M_init 144 = .ok (.iload 4, 2) := by decide +kernel
theorem d_M_init_146 : decode b_M_init 146 = .ok (.iconst 1, 1) := by decide +kernel
theorem d_M_init_147 : decode b_M_init 147 = .ok (.isub, 1) := by decide +kernel
theorem d_M_init_148 : decode b_M_init 148 = .ok (.bipush 15, 2) := by decide +kernel
theorem d_M_init_150 : decode b_M_init 150 = .ok (.iand, 1) := by decide +kernel
theorem d_M_init_151 : decode b_M_init 151 = .ok (.iadd, 1) := by decide +kernel
theorem d_M_init_152 : decode b_M_init 152 = .ok (.putfield 58, 3) := by decide +kernel
theorem d_M_init_155 : decode b_M_init 155 = .ok (.return_, 1) := by decide +kernel
theorem d_M_modulo_0 : decode b_M_modulo 0 = .ok (.iload_n 0, 1) := by decide +kernel
theorem d_M_modulo_1 : decode b_M_modulo 1 = .ok (.iload_n 1, 1) := by decide +kernel
theorem d_M_modulo_2 : decode b_M_modulo 2 = .ok (.irem, 1) := by decide +kernel
theorem d_M_modulo_3 : decode b_M_modulo 3 = .ok (.iload_n 1, 1) := by decide +kernel
theorem d_M_modulo_4 : decode b_M_modulo 4 = .ok (.iadd, 1) := by decide +kernel
theorem d_M_modulo_5 : decode b_M_modulo 5 = .ok (.iload_n 1, 1) := by decide +kernel
theorem d_M_modulo_6 : decode b_M_modulo 6 = .ok (.irem, 1) := by decide +kernel
theorem d_M_modulo_7 : decode b_M_modulo 7 = .ok (.ireturn, 1) := by decide +kernel
theorem d_M_thrown_0 : decode b_M_thrown 0 = .ok (.aload_n 0, 1) := by decide +kernel
theorem d_M_thrown_1 : decode b_M_thrown 1 = .ok (.getfield 61, 3) := by decide +kernel
theorem d_M_thrown_4 : decode b_M_thrown 4 = .ok (.ireturn, 1) := by decide +kernel
theorem d_M_fail_0 : decode b_M_fail 0 = .ok (.aload_n 0, 1) := by decide +kernel
theorem d_M_fail_1 : decode b_M_fail 1 = .ok (.iload_n 1, 1) := by decide +kernel
theorem d_M_fail_2 : decode b_M_fail 2 = .ok (.putfield 61, 3) := by decide +kernel
theorem d_M_fail_5 : decode b_M_fail 5 = .ok (.iconst 0, 1) := by decide +kernel
theorem d_M_fail_6 : decode b_M_fail 6 = .ok (.ireturn, 1) := by decide +kernel
theorem d_M_within_0 : decode b_M_within 0 = .ok (.iload_n 0, 1) := by decide +kernel
theorem d_M_within_1 : decode b_M_within 1 = .ok (.iload_n 1, 1) := by decide +kernel
theorem d_M_within_2 : decode b_M_within 2 = .ok (.if_icmp .lt 12, 3) := by decide +kernel
theorem d_M_within_5 : decode b_M_within 5 = .ok (.iload_n 0, 1) := by decide +kernel
theorem d_M_within_6 : decode b_M_within 6 = .ok (.iload_n 2, 1) := by decide +kernel
theorem d_M_within_7 : decode b_M_within 7 = .ok (.if_icmp .gt 7, 3) := by decide +kernel
theorem d_M_within_10 : decode b_M_within 10 = .ok (.iconst 1, 1) := by decide +kernel
theorem d_M_within_11 : decode b_M_within 11 = .ok (.goto 4, 3) := by decide +kernel
theorem d_M_within_14 : decode b_M_within 14 = .ok (.iconst 0, 1) := by decide +kernel
theorem d_M_within_15 : decode b_M_within 15 = .ok (.ireturn, 1) := by decide +kernel
theorem d_M_isCore_0 : decode b_M_isCore 0 = .ok (.aload_n 0, 1) := by decide +kernel
theorem d_M_isCore_1 : decode b_M_isCore 1 = .ok (.iload_n 1, 1) := by decide +kernel
theorem d_M_isCore_2 : decode b_M_isCore 2 = .ok (.iconst 0, 1) := by decide +kernel
theorem d_M_isCore_3 : decode b_M_isCore 3 = .ok (.aload_n 0, 1) := by decide +kernel
theorem d_M_isCore_4 : decode b_M_isCore 4 = .ok (.getfield 45, 3) := by decide +kernel
theorem d_M_isCore_7 : decode b_M_isCore 7 = .ok (.iconst 1, 1) := by decide +kernel
theorem d_M_isCore_8 : decode b_M_isCore 8 = .ok (.isub, 1) := by decide +kernel
theorem d_M_isCore_9 : decode b_M_isCore 9 = .ok (.invokestatic 64, 3) := by decide +kernel
theorem d_M_isCore_12 : decode b_M_isCore 12 = .ok (.ifCond .eq 7, 3) := by decide +kernel
theorem d_M_isCore_15 : decode b_M_isCore 15 = .ok (.iconst 0, 1) := by decide +kernel
theorem d_M_isCore_16 : decode b_M_isCore 16 = .ok (.goto 4, 3) := by decide +kernel
theorem d_M_isCore_19 : decode b_M_isCore 19 = .ok (.iconst 1, 1) := by decide +kernel
theorem d_M_isCore_20 : decode b_M_isCore 20 = .ok (.putfield 61, 3) := by decide +kernel
theorem d_M_isCore_23 : decode b_M_isCore 23 = .ok (.aload_n 0, 1) := by decide +kernel
theorem d_M_isCore_24 : decode b_M_isCore 24 = .ok (.getfield 61, 3) := by decide +kernel
theorem d_M_isCore_27 : decode b_M_isCore 27 = .ok (.ifCond .ne 7, 3) := by decide +kernel
theorem d_M_isCore_30 : decode b_M_isCore 30 = .ok (.iconst 1, 1) := by decide +kernel
theorem d_M_isCore_31 : decode b_M_isCore 31 = .ok (.goto 4, 3) := by decide +kernel
theorem d_M_isCore_34 : decode b_M_isCore 34 = .ok (.iconst 0, 1) := by decide +kernel
theorem d_M_isCore_35 : decode b_M_isCore 35 = .ok (.ireturn, 1) := by decide +kernel
theorem d_M_find_0 : decode b_M_find 0 = .ok (.iconst 0, 1) := by decide +kernel
theorem d_M_find_1 : decode b_M_find 1 = .ok (.istore_n 2, 1) := by decide +kernel
theorem d_M_find_2 : decode b_M_find 2 = .ok (.iload_n 2, 1) := by decide +kernel
theorem d_M_find_3 : decode b_M_find 3 = .ok (.aload_n 0, 1) := by decide +kernel
theorem d_M_find_4 : decode b_M_find 4 = .ok (.getfield 68, 3) := by decide +kernel
theorem d_M_find_7 : decode b_M_find 7 = .ok (.if_icmp .ge 21, 3) := by decide +kernel
theorem d_M_find_10 : decode b_M_find 10 = .ok (.aload_n 0, 1) := by decide +kernel
theorem d_M_find_11 : decode b_M_find 11 = .ok (.getfield 33, 3) := by decide +kernel
theorem d_M_find_14 : decode b_M_find 14 = .ok (.iload_n 2, 1) := by decide +kernel
theorem d_M_find_15 : decode b_M_find 15 = .ok (.iaload, 1) := by decide +kernel
theorem d_M_find_16 : decode b_M_find 16 = .ok (.iload_n 1, 1) := by decide +kernel
theorem d_M_find_17 : decode b_M_find 17 = .ok (.if_icmp .ne 5, 3) := by decide +kernel
theorem d_M_find_20 : decode b_M_find 20 = .ok (.iload_n 2, 1) := by decide +kernel
theorem d_M_find_21 : decode b_M_find 21 = .ok (.ireturn, 1) := by decide +kernel
theorem d_M_find_22 : decode b_M_find 22 = .ok (.iinc 2 1, 3) := by decide +kernel
theorem d_M_find_25 : decode b_M_find 25 = .ok (.goto (-23), 3) := by decide +kernel
theorem d_M_find_28 : decode b_M_find 28 = .ok (.iconst (-1), 1) := by decide +kernel
theorem d_M_find_29 : decode b_M_find 29 = .ok (.ireturn, 1) := by decide +kernel
theorem d_M_learn_0 : decode b_M_learn 0 = .ok (.aload_n 0, 1) := by decide +kernel
theorem d_M_learn_1 : decode b_M_learn 1 = .ok (.iload_n 1, 1) := by decide +kernel
theorem d_M_learn_2 : decode b_M_learn 2 = .ok (.invokevirtual 71, 3) := by decide +kernel
theorem d_M_learn_5 : decode b_M_learn 5 = .ok (.istore_n 2, 1) := by decide +kernel
theorem d_M_learn_6 : decode b_M_learn 6 = .ok (.iload_n 2, 1) := by decide +kernel
theorem d_M_learn_7 : decode b_M_learn 7 = .ok (.ifCond .lt 5, 3) := by decide +kernel
theorem d_M_learn_10 : decode b_M_learn 10 = .ok (.iload_n 2, 1) := by decide +kernel
theorem d_M_learn_11 : decode b_M_learn 11 = .ok (.ireturn, 1) := by decide +kernel
theorem d_M_learn_12 : decode b_M_learn 12 = .ok (.aload_n 0, 1) := by decide +kernel
theorem d_M_learn_13 : decode b_M_learn 13 = .ok (.getfield 33, 3) := by decide +kernel
theorem d_M_learn_16 : decode b_M_learn 16 = .ok (.aload_n 0, 1) := by decide +kernel
theorem d_M_learn_17 : decode b_M_learn 17 = .ok (.getfield 68, 3) := by decide +kernel
theorem d_M_learn_20 : decode b_M_learn 20 = .ok (.iload_n 1, 1) := by decide +kernel
theorem d_M_learn_21 : decode b_M_learn 21 = .ok (.iastore, 1) := by decide +kernel
theorem d_M_learn_22 : decode b_M_learn 22 = .ok (.aload_n 0, 1) := by decide +kernel
theorem d_M_learn_23 : decode b_M_learn 23 = .ok (.getfield 36, 3) := by decide +kernel
theorem d_M_learn_26 : decode b_M_learn 26 = .ok (.aload_n 0, 1) := by decide +kernel
theorem d_M_learn_27 : decode b_M_learn 27 = .ok (.getfield 68, 3) := by decide +kernel
theorem d_M_learn_30 : decode b_M_learn 30 = .ok (.iconst 0, 1) := by decide +kernel
theorem d_M_learn_31 : decode b_M_learn 31 = .ok (.iastore, 1) := by decide +kernel
theorem d_M_learn_32 : decode b_M_learn 32 = .ok (.aload_n 0, 1) := by decide +kernel
theorem d_M_learn_33 : decode b_M_learn 33 = .ok (.getfield 39, 3) := by decide +kernel
theorem d_M_learn_36 : decode b_M_learn 36 = .ok (.aload_n 0, 1) := by decide +kernel
theorem d_M_learn_37 : decode b_M_learn 37 = .ok (.getfield 68, 3) := by decide +kernel
theorem d_M_learn_40 : decode b_M_learn 40 = .ok (.iconst 0, 1) := by decide +kernel
theorem d_M_learn_41 : decode b_M_learn 41 = .ok (.iastore, 1) := by decide +kernel
theorem d_M_learn_42 : decode b_M_learn 42 = .ok (.aload_n 0, 1) := by decide +kernel
theorem d_M_learn_43 : decode b_M_learn 43 = .ok (.dup, 1) := by decide +kernel
theorem d_M_learn_44 : decode b_M_learn 44 = .ok (.getfield 68, 3) := by decide +kernel
theorem d_M_learn_47 : decode b_M_learn 47 = .ok (.iconst 1, 1) := by decide +kernel
theorem d_M_learn_48 : decode b_M_learn 48 = .ok (.iadd, 1) := by decide +kernel
theorem d_M_learn_49 : decode b_M_learn 49 = .ok (.putfield 68, 3) := by decide +kernel
theorem d_M_learn_52 : decode b_M_learn 52 = .ok (.aload_n 0, 1) := by decide +kernel
theorem d_M_learn_53 : decode b_M_learn 53 = .ok (.getfield 68, 3) := by decide +kernel
theorem d_M_learn_56 : decode b_M_learn 56 = .ok (.iconst 1, 1) := by decide +kernel
theorem d_M_learn_57 : decode b_M_learn 57 = .ok (.isub, 1) := by decide +kernel
theorem d_M_learn_58 : decode b_M_learn 58 = .ok (.ireturn, 1) := by decide +kernel
theorem d_M_sets_0 : decode b_M_sets 0 = .ok (.iload_n 1, 1) := by decide +kernel
theorem d_M_sets_1 : decode b_M_sets 1 = .ok (.iconst 4, 1) := by decide +kernel
theorem d_M_sets_2 : decode b_M_sets 2 = .ok (.if_icmp .ne 10, 3) := by decide +kernel
theorem d_M_sets_5 : decode b_M_sets 5 = .ok (.aload_n 0, 1) := by decide +kernel
theorem d_M_sets_6 : decode b_M_sets 6 = .ok (.getfield 58, 3) := by decide +kernel
theorem d_M_sets_9 : decode b_M_sets 9 = .ok (.goto 7, 3) := by decide +kernel
theorem d_M_sets_12 : decode b_M_sets 12 = .ok (.aload_n 0, 1) := by decide +kernel
theorem d_M_sets_13 : decode b_M_sets 13 = .ok (.getfield 55, 3) := by decide +kernel
theorem d_M_sets_16 : decode b_M_sets 16 = .ok (.ireturn, 1) := by decide +kernel
theorem d_M_setOf_0 : decode b_M_setOf 0 = .ok (.iload_n 2, 1) := by decide +kernel
theorem d_M_setOf_1 : decode b_M_setOf 1 = .ok (.aload_n 0, 1) := by decide +kernel
theorem d_M_setOf_2 : decode b_M_setOf 2 = .ok (.iload_n 1, 1) := by decide +kernel
theorem d_M_setOf_3 : decode b_M_setOf 3 = .ok (.invokevirtual 75, 3) := by decide +kernel
theorem d_M_setOf_6 : decode b_M_setOf 6 = .ok (.invokestatic 48, 3) := by decide +kernel
theorem d_M_setOf_9 : decode b_M_setOf 9 = .ok (.ireturn, 1) := by decide +kernel
theorem d_M_at_0 : decode b_M_at 0 = .ok (.bipush 64, 2) := by decide +kernel
theorem d_M_at_2 : decode b_M_at 2 = .ok (.iload_n 1, 1) := by decide +kernel
theorem d_M_at_3 : decode b_M_at 3 = .ok (.imul, 1) := by decide +kernel
theorem d_M_at_4 : decode b_M_at 4 = .ok (.istore_n 3, 1) := by decide +kernel
theorem d_M_at_5 : decode b_M_at 5 = .ok (.iload_n 3, 1) := by decide +kernel
theorem d_M_at_6 : decode b_M_at 6 = .ok (.bipush 64, 2) := by decide +kernel
theorem d_M_at_8 : decode b_M_at 8 = .ok (.iload_n 1, 1) := by decide +kernel
theorem d_M_at_9 : decode b_M_at 9 = .ok (.imul, 1) := by decide +kernel
theorem d_M_at_10 : decode b_M_at 10 = .ok (.aload_n 0, 1) := by decide +kernel
theorem d_M_at_11 : decode b_M_at 11 = .ok (.getfield 7, 3) := by decide +kernel
theorem d_M_at_14 : decode b_M_at 14 = .ok (.iload_n 1, 1) := by decide +kernel
theorem d_M_at_15 : decode b_M_at 15 = .ok (.iaload, 1) := by decide +kernel
theorem d_M_at_16 : decode b_M_at 16 = .ok (.iadd, 1) := by decide +kernel
theorem d_M_at_17 : decode b_M_at 17 = .ok (.if_icmp .ge 21, 3) := by decide +kernel
theorem d_M_at_20 : decode b_M_at 20 = .ok (.aload_n 0, 1) := by decide +kernel
theorem d_M_at_21 : decode b_M_at 21 = .ok (.getfield 13, 3) := by decide +kernel
theorem d_M_at_24 : decode b_M_at 24 = .ok (.iload_n 3, 1) := by decide +kernel
theorem d_M_at_25 : decode b_M_at 25 = .ok (.iaload, 1) := by decide +kernel
theorem d_M_at_26 : decode b_M_at 26 = .ok (.iload_n 2, 1) := by decide +kernel
theorem d_M_at_27 : decode b_M_at 27 = .ok (.if_icmp .ne 5, 3) := by decide +kernel
theorem d_M_at_30 : decode b_M_at 30 = .ok (.iload_n 3, 1) := by decide +kernel
theorem d_M_at_31 : decode b_M_at 31 = .ok (.ireturn, 1) := by decide +kernel
theorem d_M_at_32 : decode b_M_at 32 = .ok (.iinc 3 1, 3) := by decide +kernel
theorem d_M_at_35 : decode b_M_at 35 = .ok (.goto (-30), 3) := by decide +kernel
theorem d_M_at_38 : decode b_M_at 38 = .ok (.iconst (-1), 1) := by decide +kernel
theorem d_M_at_39 : decode b_M_at 39 = .ok (.ireturn, 1) := by decide +kernel
theorem d_M_copy_0 : decode b_M_copy 0 = .ok (.aload_n 0, 1) := by decide +kernel
theorem d_M_copy_1 : decode b_M_copy 1 = .ok (.getfield 13, 3) := by decide +kernel
theorem d_M_copy_4 : decode b_M_copy 4 = .ok (.iload_n 1, 1) := by decide +kernel
theorem d_M_copy_5 : decode b_M_copy 5 = .ok (.aload_n 0, 1) := by decide +kernel
theorem d_M_copy_6 : decode b_M_copy 6 = .ok (.getfield 13, 3) := by decide +kernel
theorem d_M_copy_9 : decode b_M_copy 9 = .ok (.iload_n 2, 1) := by decide +kernel
theorem d_M_copy_10 : decode b_M_copy 10 = .ok (.iaload, 1) := by decide +kernel
theorem d_M_copy_11 : decode b_M_copy 11 = .ok (.iastore, 1) := by decide +kernel
theorem d_M_copy_12 : decode b_M_copy 12 = .ok (.aload_n 0, 1) := by decide +kernel
theorem d_M_copy_13 : decode b_M_copy 13 = .ok (.getfield 16, 3) := by decide +kernel
theorem d_M_copy_16 : decode b_M_copy 16 = .ok (.iload_n 1, 1) := by decide +kernel
theorem d_M_copy_17 : decode b_M_copy 17 = .ok (.aload_n 0, 1) := by decide +kernel
theorem d_M_copy_18 : decode b_M_copy 18 = .ok (.getfield 16, 3) := by decide +kernel
theorem d_M_copy_21 : decode b_M_copy 21 = .ok (.iload_n 2, 1) := by decide +kernel
theorem d_M_copy_22 : decode b_M_copy 22 = .ok (.baload, 1) := by decide +kernel
theorem d_M_copy_23 : decode b_M_copy 23 = .ok (.bastore, 1) := by decide +kernel
theorem d_M_copy_24 : decode b_M_copy 24 = .ok (.aload_n 0, 1) := by decide +kernel
theorem d_M_copy_25 : decode b_M_copy 25 = .ok (.getfield 20, 3) := by decide +kernel
theorem d_M_copy_28 : decode b_M_copy 28 = .ok (.iload_n 1, 1) := by decide +kernel
theorem d_M_copy_29 : decode b_M_copy 29 = .ok (.aload_n 0, 1) := by decide +kernel
theorem d_M_copy_30 : decode b_M_copy 30 = .ok (.getfield 20, 3) := by decide +kernel
theorem d_M_copy_33 : decode b_M_copy 33 = .ok (.iload_n 2, 1) := by decide +kernel
theorem d_M_copy_34 : decode b_M_copy 34 = .ok (.iaload, 1) := by decide +kernel
theorem d_M_copy_35 : decode b_M_copy 35 = .ok (.iastore, 1) := by decide +kernel
theorem d_M_copy_36 : decode b_M_copy 36 = .ok (.aload_n 0, 1) := by decide +kernel
theorem d_M_copy_37 : decode b_M_copy 37 = .ok (.getfield 23, 3) := by decide +kernel
theorem d_M_copy_40 : decode b_M_copy 40 = .ok (.iload_n 1, 1) := by decide +kernel
theorem d_M_copy_41 : decode b_M_copy 41 = .ok (.aload_n 0, 1) := by decide +kernel
theorem d_M_copy_42 : decode b_M_copy 42 = .ok (.getfield 23, 3) := by decide +kernel
theorem d_M_copy_45 : decode b_M_copy 45 = .ok (.iload_n 2, 1) := by decide +kernel
theorem d_M_copy_46 : decode b_M_copy 46 = .ok (.iaload, 1) := by decide +kernel
theorem d_M_copy_47 : decode b_M_copy 47 = .ok (.iastore, 1) := by decide +kernel
theorem d_M_copy_48 : decode b_M_copy 48 = .ok (.return_, 1) := by decide +kernel
theorem d_M_takeOut_0 : decode b_M_takeOut 0 = .ok (.aload_n 0, 1) := by decide +kernel
theorem d_M_takeOut_1 : decode b_M_takeOut 1 = .ok (.getfield 7, 3) := by decide +kernel
theorem d_M_takeOut_4 : decode b_M_takeOut 4 = .ok (.iload_n 1, 1) := by decide +kernel
theorem d_M_takeOut_5 : decode b_M_takeOut 5 = .ok (.dup2, 1) := by decide +kernel
theorem d_M_takeOut_6 : decode b_M_takeOut 6 = .ok (.iaload, 1) := by decide +kernel
theorem d_M_takeOut_7 : decode b_M_takeOut 7 = .ok (.iconst 1, 1) := by decide +kernel
theorem d_M_takeOut_8 : decode b_M_takeOut 8 = .ok (.isub, 1) := by decide +kernel
theorem d_M_takeOut_9 : decode b_M_takeOut 9 = .ok (.iastore, 1) := by decide +kernel
theorem d_M_takeOut_10 : decode b_M_takeOut 10 = .ok (.iload_n 2, 1) := by decide +kernel
theorem d_M_takeOut_11 : decode b_M_takeOut 11 = .ok (.istore_n 3, 1) := by decide +kernel
theorem d_M_takeOut_12 : decode b_M_takeOut 12 = .ok (.iload_n 3, 1) := by decide +kernel
theorem d_M_takeOut_13 : decode b_M_takeOut 13 = .ok (.bipush 64, 2) := by decide +kernel
theorem d_M_takeOut_15 : decode b_M_takeOut 15 = .ok (.iload_n 1, 1) := by decide +kernel
theorem d_M_takeOut_16 : decode b_M_takeOut 16 = .ok (.imul, 1) := by decide +kernel
theorem d_M_takeOut_17 : decode b_M_takeOut 17 = .ok (.aload_n 0, 1) := by decide +kernel
theorem d_M_takeOut_18 : decode b_M_takeOut 18 = .ok (.getfield 7, 3) := by decide +kernel
theorem d_M_takeOut_21 : decode b_M_takeOut 21 = .ok (.iload_n 1, 1) := by decide +kernel
theorem d_M_takeOut_22 : decode b_M_takeOut 22 = .ok (.iaload, 1) := by decide +kernel
theorem d_M_takeOut_23 : decode b_M_takeOut 23 = .ok (.iadd, 1) := by decide +kernel
theorem d_M_takeOut_24 : decode b_M_takeOut 24 = .ok (.if_icmp .ge 17, 3) := by decide +kernel
theorem d_M_takeOut_27 : decode b_M_takeOut 27 = .ok (.aload_n 0, 1) := by decide +kernel
theorem d_M_takeOut_28 : decode b_M_takeOut 28 = .ok (.iload_n 3, 1) := by decide +kernel
theorem d_M_takeOut_29 : decode b_M_takeOut 29 = .ok (.iload_n 3, 1) := by decide +kernel
theorem d_M_takeOut_30 : decode b_M_takeOut 30 = .ok (.iconst 1, 1) := by decide +kernel
theorem d_M_takeOut_31 : decode b_M_takeOut 31 = .ok (.iadd, 1) := by decide +kernel
theorem d_M_takeOut_32 : decode b_M_takeOut 32 = .ok (.invokevirtual 78, 3) := by decide +kernel
theorem d_M_takeOut_35 : decode b_M_takeOut 35 = .ok (.iinc 3 1, 3) := by decide +kernel
theorem d_M_takeOut_38 : decode b_M_takeOut 38 = .ok (.goto (-26), 3) := by decide +kernel
theorem d_M_takeOut_41 : decode b_M_takeOut 41 = .ok (.return_, 1) := by decide +kernel
theorem d_M_putFirst_0 : decode b_M_putFirst 0 = .ok (.bipush 64, 2) := by decide +kernel
theorem d_M_putFirst_2 : decode b_M_putFirst 2 = .ok (.iload_n 1, 1) := by decide +kernel
theorem d_M_putFirst_3 : decode b_M_putFirst 3 = .ok (.imul, 1) := by decide +kernel
theorem d_M_putFirst_4 : decode b_M_putFirst 4 = .ok (.aload_n 0, 1) := by decide +kernel
theorem d_M_putFirst_5 : decode b_M_putFirst 5 = .ok (.getfield 7, 3) := by decide +kernel
theorem d_M_putFirst_8 : decode b_M_putFirst 8 = .ok (.iload_n 1, 1) := by decide +kernel
theorem d_M_putFirst_9 : decode b_M_putFirst 9 = .ok (.iaload, 1) := by decide +kernel
theorem d_M_putFirst_10 : decode b_M_putFirst 10 = .ok (.iadd, 1) := by decide +kernel
theorem d_M_putFirst_11 : decode b_M_putFirst 11 = .ok (.istore 6, 2) := by decide +kernel
theorem d_M_putFirst_13 : decode b_M_putFirst 13 = .ok (.iload 6, 2) := by decide +kernel
theorem d_M_putFirst_15 : decode b_M_putFirst 15 = .ok (.bipush 64, 2) := by decide +kernel
theorem d_M_putFirst_17 : decode b_M_putFirst 17 = .ok (.iload_n 1, 1) := by decide +kernel
theorem d_M_putFirst_18 : decode b_M_putFirst 18 = .ok (.imul, 1) := by decide +kernel
theorem d_M_putFirst_19 : decode b_M_putFirst 19 = .ok (.if_icmp .le 19, 3) := by decide +kernel
theorem d_M_putFirst_22 : decode b_M_putFirst 22 = .ok (.aload_n 0, 1) := by decide +kernel
theorem d_M_putFirst_23 : decode b_M_putFirst 23 = .ok (.iload 6, 2) := by decide +kernel
theorem d_M_putFirst_25 : decode b_M_putFirst 25 = .ok (.iload 6, 2) := by decide +kernel
theorem d_M_putFirst_27 : decode b_M_putFirst 27 = .ok (.iconst 1, 1) := by decide +kernel
theorem d_M_putFirst_28 : decode b_M_putFirst 28 = .ok (.isub, 1) := by decide +kernel
theorem d_M_putFirst_29 : decode b_M_putFirst 29 = .ok (.invokevirtual 78, 3) := by decide +kernel
theorem d_M_putFirst_32 : decode b_M_putFirst 32 = .ok (.iinc 6 (-1), 3) := by decide +kernel
theorem d_M_putFirst_35 : decode b_M_putFirst 35 = .ok (.goto (-22), 3) := by decide +kernel
theorem d_M_putFirst_38 : decode b_M_putFirst 38 = .ok (.aload_n 0, 1) := by decide +kernel
theorem d_M_putFirst_39 : decode b_M_putFirst 39 = .ok (.getfield 7, 3) := by decide +kernel
theorem d_M_putFirst_42 : decode b_M_putFirst 42 = .ok (.iload_n 1, 1) := by decide +kernel
theorem d_M_putFirst_43 : decode b_M_putFirst 43 = .ok (.dup2, 1) := by decide +kernel
theorem d_M_putFirst_44 : decode b_M_putFirst 44 = .ok (.iaload, 1) := by decide +kernel
theorem d_M_putFirst_45 : decode b_M_putFirst 45 = .ok (.iconst 1, 1) := by decide +kernel
theorem d_M_putFirst_46 : decode b_M_putFirst 46 = .ok (.iadd, 1) := by decide +kernel
theorem d_M_putFirst_47 : decode b_M_putFirst 47 = .ok (.iastore, 1) := by decide +kernel
theorem d_M_putFirst_48 : decode b_M_putFirst 48 = .ok (.bipush 64, 2) := by decide +kernel
theorem d_M_putFirst_50 : decode b_M_putFirst 50 = .ok (.iload_n 1, 1) := by decide +kernel
theorem d_M_putFirst_51 : decode b_M_putFirst 51 = .ok (.imul, 1) := by decide +kernel
theorem d_M_putFirst_52 : decode b_M_putFirst 52 = .ok (.istore 6, 2) := by decide +kernel
theorem d_M_putFirst_54 : decode b_M_putFirst 54 = .ok (.aload_n 0, 1) := by decide +kernel
theorem d_M_putFirst_55 : decode b_M_putFirst 55 = .ok (.getfield 13, 3) := by decide +kernel
theorem d_M_putFirst_58 : decode b_M_putFirst 58 = .ok (.iload 6, 2) := by decide +kernel
theorem d_M_putFirst_60 : decode b_M_putFirst 60 = .ok (.iload_n 2, 1) := by decide +kernel
theorem d_M_putFirst_61 : decode b_M_putFirst 61 = .ok (.iastore, 1) := by decide +kernel
theorem d_M_putFirst_62 : decode b_M_putFirst 62 = .ok (.aload_n 0, 1) := by decide +kernel
theorem d_M_putFirst_63 : decode b_M_putFirst 63 = .ok (.getfield 16, 3) := by decide +kernel
theorem d_M_putFirst_66 : decode b_M_putFirst 66 = .ok (.iload 6, 2) := by decide +kernel
theorem d_M_putFirst_68 : decode b_M_putFirst 68 = .ok (.iload_n 3, 1) := by decide +kernel
theorem d_M_putFirst_69 : decode b_M_putFirst 69 = .ok (.bastore, 1) := by decide +kernel
theorem d_M_putFirst_70 : decode b_M_putFirst 70 = .ok (.aload_n 0, 1) := by decide +kernel
theorem d_M_putFirst_71 : decode b_M_putFirst 71 = .ok (.getfield 20, 3) := by decide +kernel
theorem d_M_putFirst_74 : decode b_M_putFirst 74 = .ok (.iload 6, 2) := by decide +kernel
theorem d_M_putFirst_76 : decode b_M_putFirst 76 = .ok (.iload 4, 2) := by decide +kernel
theorem d_M_putFirst_78 : decode b_M_putFirst 78 = .ok (.iastore, 1) := by decide +kernel
theorem d_M_putFirst_79 : decode b_M_putFirst 79 = .ok (.aload_n 0, 1) := by decide +kernel
theorem d_M_putFirst_80 : decode b_M_putFirst 80 = .ok (.getfield 23, 3) := by decide +kernel
theorem d_M_putFirst_83 : decode b_M_putFirst 83 = .ok (.iload 6, 2) := by decide +kernel
theorem d_M_putFirst_85 : decode b_M_putFirst 85 = .ok (.iload 5, 2) := by decide +kernel
theorem d_M_putFirst_87 : decode b_M_putFirst 87 = .ok (.iastore, 1) := by decide +kernel
theorem d_M_putFirst_88 : decode b_M_putFirst 88 = .ok (.return_, 1) := by decide +kernel
theorem d_M_use_0 : decode b_M_use 0 = .ok (.aload_n 0, 1) := by decide +kernel
theorem d_M_use_1 : decode b_M_use 1 = .ok (.getfield 13, 3) := by decide +kernel
theorem d_M_use_4 : decode b_M_use 4 = .ok (.iload_n 2, 1) := by decide +kernel
theorem d_M_use_5 : decode b_M_use 5 = .ok (.iaload, 1) := by decide +kernel
theorem d_M_use_6 : decode b_M_use 6 = .ok (.istore_n 3, 1) := by decide +kernel
theorem d_M_use_7 : decode b_M_use 7 = .ok (.aload_n 0, 1) := by decide +kernel
theorem d_M_use_8 : decode b_M_use 8 = .ok (.getfield 16, 3) := by decide +kernel
theorem d_M_use_11 : decode b_M_use 11 = .ok (.iload_n 2, 1) := by decide +kernel
theorem d_M_use_12 : decode b_M_use 12 = .ok (.baload, 1) := by decide +kernel
theorem d_M_use_13 : decode b_M_use 13 = .ok (.istore 4, 2) := by decide +kernel
theorem d_M_use_15 : decode b_M_use 15 = .ok (.aload_n 0, 1) := by decide +kernel
theorem d_M_use_16 : decode b_M_use 16 = .ok (.getfield 20, 3) := by decide +kernel
theorem d_M_use_19 : decode b_M_use 19 = .ok (.iload_n 2, 1) := by decide +kernel
theorem d_M_use_20 : decode b_M_use 20 = .ok (.iaload, 1) := by decide +kernel
theorem d_M_use_21 : decode b_M_use 21 = .ok (.istore 5, 2) := by decide +kernel
theorem d_M_use_23 : decode b_M_use 23 = .ok (.aload_n 0, 1) := by decide +kernel
theorem d_M_use_24 : decode b_M_use 24 = .ok (.getfield 23, 3) := by decide +kernel
theorem d_M_use_27 : decode b_M_use 27 = .ok (.iload_n 2, 1) := by decide +kernel
theorem d_M_use_28 : decode b_M_use 28 = .ok (.iaload, 1) := by decide +kernel
theorem d_M_use_29 : decode b_M_use 29 = .ok (.istore 6, 2) := by decide +kernel
theorem d_M_use_31 : decode b_M_use 31 = .ok (.aload_n 0, 1) := by decide +kernel
theorem d_M_use_32 : decode b_M_use 32 = .ok (.iload_n 1, 1) := by decide +kernel
theorem d_M_use_33 : decode b_M_use 33 = .ok (.iload_n 2, 1) := by decide +kernel
theorem d_M_use_34 : decode b_M_use 34 = .ok (.invokevirtual 82, 3) := by decide +kernel
theorem d_M_use_37 : decode b_M_use 37 = .ok (.aload_n 0, 1) := by decide +kernel
theorem d_M_use_38 : decode b_M_use 38 = .ok (.iload_n 1, 1) := by decide +kernel
theorem d_M_use_39 : decode b_M_use 39 = .ok (.iload_n 3, 1) := by decide +kernel
theorem d_M_use_40 : decode b_M_use 40 = .ok (.iload 4, 2) := by decide +kernel
theorem d_M_use_42 : decode b_M_use 42 = .ok (.iload 5, 2) := by decide +kernel
theorem d_M_use_44 : decode b_M_use 44 = .ok (.iload 6, 2) := by decide +kernel
theorem d_M_use_46 : decode b_M_use 46 = .ok (.invokevirtual 85, 3) := by decide +kernel
theorem d_M_use_49 : decode b_M_use 49 = .ok (.return_, 1) := by decide +kernel
theorem d_M_oldest_0 : decode b_M_oldest 0 = .ok (.iconst 0, 1) := by decide +kernel
theorem d_M_oldest_1 : decode b_M_oldest 1 = .ok (.istore 5, 2) := by decide +kernel
theorem d_M_oldest_3 : decode b_M_oldest 3 = .ok (.iconst (-1), 1) := by decide +kernel
theorem d_M_oldest_4 : decode b_M_oldest 4 = .ok (.istore 6, 2) := by decide +kernel
theorem d_M_oldest_6 : decode b_M_oldest 6 = .ok (.bipush 64, 2) := by decide +kernel
theorem d_M_oldest_8 : decode b_M_oldest 8 = .ok (.iload_n 1, 1) := by decide +kernel
theorem d_M_oldest_9 : decode b_M_oldest 9 = .ok (.imul, 1) := by decide +kernel
theorem d_M_oldest_10 : decode b_M_oldest 10 = .ok (.istore 7, 2) := by decide +kernel
theorem d_M_oldest_12 : decode b_M_oldest 12 = .ok (.iload 7, 2) := by decide +kernel
theorem d_M_oldest_14 : decode b_M_oldest 14 = .ok (.bipush 64, 2) := by decide +kernel
theorem d_M_oldest_16 : decode b_M_oldest 16 = .ok (.iload_n 1, 1) := by decide +kernel
theorem d_M_oldest_17 : decode b_M_oldest 17 = .ok (.imul, 1) := by decide +kernel
theorem d_M_oldest_18 : decode b_M_oldest 18 = .ok (.aload_n 0, 1) := by decide +kernel
theorem d_M_oldest_19 : decode b_M_oldest 19 = .ok (.getfield 7, 3) := by decide +kernel
theorem d_M_oldest_22 : decode b_M_oldest 22 = .ok (.iload_n 1, 1) := by decide +kernel
theorem d_M_oldest_23 : decode b_M_oldest 23 = .ok (.iaload, 1) := by decide +kernel
theorem d_M_oldest_24 : decode b_M_oldest 24 = .ok (.iadd, 1) := by decide +kernel
theorem d_M_oldest_25 : decode b_M_oldest 25 = .ok (.if_icmp .ge 47, 3) := by decide +kernel
theorem d_M_oldest_28 : decode b_M_oldest 28 = .ok (.aload_n 0, 1) := by decide +kernel
theorem d_M_oldest_29 : decode b_M_oldest 29 = .ok (.iload_n 1, 1) := by decide +kernel
theorem d_M_oldest_30 : decode b_M_oldest 30 = .ok (.aload_n 0, 1) := by decide +kernel
theorem d_M_oldest_31 : decode b_M_oldest 31 = .ok (.getfield 13, 3) := by decide +kernel
theorem d_M_oldest_34 : decode b_M_oldest 34 = .ok (.iload 7, 2) := by decide +kernel
theorem d_M_oldest_36 : decode b_M_oldest 36 = .ok (.iaload, 1) := by decide +kernel
theorem d_M_oldest_37 : decode b_M_oldest 37 = .ok (.invokevirtual 89, 3) := by decide +kernel
theorem d_M_oldest_40 : decode b_M_oldest 40 = .ok (.iload_n 2, 1) := by decide +kernel
theorem d_M_oldest_41 : decode b_M_oldest 41 = .ok (.if_icmp .ne 25, 3) := by decide +kernel
theorem d_M_oldest_44 : decode b_M_oldest 44 = .ok (.iload_n 3, 1) := by decide +kernel
theorem d_M_oldest_45 : decode b_M_oldest 45 = .ok (.ifCond .lt 14, 3) := by decide +kernel
theorem d_M_oldest_48 : decode b_M_oldest 48 = .ok (.aload_n 0, 1) := by decide +kernel
theorem d_M_oldest_49 : decode b_M_oldest 49 = .ok (.getfield 23, 3) := by decide +kernel
theorem d_M_oldest_52 : decode b_M_oldest 52 = .ok (.iload 7, 2) := by decide +kernel
theorem d_M_oldest_54 : decode b_M_oldest 54 = .ok (.iaload, 1) := by decide +kernel
theorem d_M_oldest_55 : decode b_M_oldest 55 = .ok (.iload_n 3, 1) := by decide +kernel
theorem d_M_oldest_56 : decode b_M_oldest 56 = .ok (.if_icmp .ne 10, 3) := by decide +kernel
theorem d_M_oldest_59 : decode b_M_oldest 59 = .ok (.iinc 5 1, 3) := by decide +kernel
theorem d_M_oldest_62 : decode b_M_oldest 62 = .ok (.iload 7, 2) := by decide +kernel
theorem d_M_oldest_64 : decode b_M_oldest 64 = .ok (.istore 6, 2) := by decide +kernel
theorem d_M_oldest_66 : decode b_M_oldest 66 = .ok (.iinc 7 1, 3) := by decide +kernel
theorem d_M_oldest_69 : decode b_M_oldest 69 = .ok (.goto (-57), 3) := by decide +kernel
theorem d_M_oldest_72 : decode b_M_oldest 72 = .ok (.iload 5, 2) := by decide +kernel
theorem d_M_oldest_74 : decode b_M_oldest 74 = .ok (.iload 4, 2) := by decide +kernel
theorem d_M_oldest_76 : decode b_M_oldest 76 = .ok (.if_icmp .ge 7, 3) := by decide +kernel
theorem d_M_oldest_79 : decode b_M_oldest 79 = .ok (.iconst (-1), 1) := by decide +kernel
theorem d_M_oldest_80 : decode b_M_oldest 80 = .ok (.goto 5, 3) := by decide +kernel
theorem d_M_oldest_83 : decode b_M_oldest 83 = .ok (.iload 6, 2) := by decide +kernel
theorem d_M_oldest_85 : decode b_M_oldest 85 = .ok (.ireturn, 1) := by decide +kernel
theorem d_M_toMemory_0 : decode b_M_toMemory 0 = .ok (.aload_n 0, 1) := by decide +kernel
theorem d_M_toMemory_1 : decode b_M_toMemory 1 = .ok (.getfield 39, 3) := by decide +kernel
theorem d_M_toMemory_4 : decode b_M_toMemory 4 = .ok (.aload_n 0, 1) := by decide +kernel
theorem d_M_toMemory_5 : decode b_M_toMemory 5 = .ok (.iload_n 1, 1) := by decide +kernel
theorem d_M_toMemory_6 : decode b_M_toMemory 6 = .ok (.invokevirtual 92, 3) := by decide +kernel
theorem d_M_toMemory_9 : decode b_M_toMemory 9 = .ok (.iload_n 2, 1) := by decide +kernel
theorem d_M_toMemory_10 : decode b_M_toMemory 10 = .ok (.iastore, 1) := by decide +kernel
theorem d_M_toMemory_11 : decode b_M_toMemory 11 = .ok (.aload_n 0, 1) := by decide +kernel
theorem d_M_toMemory_12 : decode b_M_toMemory 12 = .ok (.dup, 1) := by decide +kernel
theorem d_M_toMemory_13 : decode b_M_toMemory 13 = .ok (.getfield 95, 3) := by decide +kernel
theorem d_M_toMemory_16 : decode b_M_toMemory 16 = .ok (.iconst 1, 1) := by decide +kernel
theorem d_M_toMemory_17 : decode b_M_toMemory 17 = .ok (.iadd, 1) := by decide +kernel
theorem d_M_toMemory_18 : decode b_M_toMemory 18 = .ok (.putfield 95, 3) := by decide +kernel
theorem d_M_toMemory_21 : decode b_M_toMemory 21 = .ok (.return_, 1) := by decide +kernel
theorem d_M_goDown_0 : decode b_M_goDown 0 = .ok (.aload_n 0, 1) := by decide +kernel
theorem d_M_goDown_1 : decode b_M_goDown 1 = .ok (.iconst 4, 1) := by decide +kernel
theorem d_M_goDown_2 : decode b_M_goDown 2 = .ok (.iload_n 1, 1) := by decide +kernel
theorem d_M_goDown_3 : decode b_M_goDown 3 = .ok (.invokevirtual 98, 3) := by decide +kernel
theorem d_M_goDown_6 : decode b_M_goDown 6 = .ok (.istore_n 3, 1) := by decide +kernel
theorem d_M_goDown_7 : decode b_M_goDown 7 = .ok (.iload_n 3, 1) := by decide +kernel
theorem d_M_goDown_8 : decode b_M_goDown 8 = .ok (.ifCond .ge 10, 3) := by decide +kernel
theorem d_M_goDown_11 : decode b_M_goDown 11 = .ok (.aload_n 0, 1) := by decide +kernel
theorem d_M_goDown_12 : decode b_M_goDown 12 = .ok (.iload_n 1, 1) := by decide +kernel
theorem d_M_goDown_13 : decode b_M_goDown 13 = .ok (.iload_n 2, 1) := by decide +kernel
theorem d_M_goDown_14 : decode b_M_goDown 14 = .ok (.invokevirtual 101, 3) := by decide +kernel
theorem d_M_goDown_17 : decode b_M_goDown 17 = .ok (.return_, 1) := by decide +kernel
theorem d_M_goDown_18 : decode b_M_goDown 18 = .ok (.aload_n 0, 1) := by decide +kernel
theorem d_M_goDown_19 : decode b_M_goDown 19 = .ok (.getfield 16, 3) := by decide +kernel
theorem d_M_goDown_22 : decode b_M_goDown 22 = .ok (.iload_n 3, 1) := by decide +kernel
theorem d_M_goDown_23 : decode b_M_goDown 23 = .ok (.iconst 1, 1) := by decide +kernel
theorem d_M_goDown_24 : decode b_M_goDown 24 = .ok (.bastore, 1) := by decide +kernel
theorem d_M_goDown_25 : decode b_M_goDown 25 = .ok (.aload_n 0, 1) := by decide +kernel
theorem d_M_goDown_26 : decode b_M_goDown 26 = .ok (.getfield 20, 3) := by decide +kernel
theorem d_M_goDown_29 : decode b_M_goDown 29 = .ok (.iload_n 3, 1) := by decide +kernel
theorem d_M_goDown_30 : decode b_M_goDown 30 = .ok (.iload_n 2, 1) := by decide +kernel
theorem d_M_goDown_31 : decode b_M_goDown 31 = .ok (.iastore, 1) := by decide +kernel
theorem d_M_goDown_32 : decode b_M_goDown 32 = .ok (.return_, 1) := by decide +kernel
theorem d_M_isOneOf_0 : decode b_M_isOneOf 0 = .ok (.iconst 0, 1) := by decide +kernel
theorem d_M_isOneOf_1 : decode b_M_isOneOf 1 = .ok (.istore_n 3, 1) := by decide +kernel
theorem d_M_isOneOf_2 : decode b_M_isOneOf 2 = .ok (.iconst 0, 1) := by decide +kernel
theorem d_M_isOneOf_3 : decode b_M_isOneOf 3 = .ok (.istore 4, 2) := by decide +kernel
theorem d_M_isOneOf_5 : decode b_M_isOneOf 5 = .ok (.iload 4, 2) := by decide +kernel
theorem d_M_isOneOf_7 : decode b_M_isOneOf 7 = .ok (.aload_n 0, 1) := by decide +kernel
theorem d_M_isOneOf_8 : decode b_M_isOneOf 8 = .ok (.getfield 45, 3) := by decide +kernel
theorem d_M_isOneOf_11 : decode b_M_isOneOf 11 = .ok (.if_icmp .ge 35, 3) := by decide +kernel
theorem d_M_isOneOf_14 : decode b_M_isOneOf 14 = .ok (.iload_n 3, 1) := by decide +kernel
theorem d_M_isOneOf_15 : decode b_M_isOneOf 15 = .ok (.ifCond .ne 19, 3) := by decide +kernel
theorem d_M_isOneOf_18 : decode b_M_isOneOf 18 = .ok (.iload 4, 2) := by decide +kernel
theorem d_M_isOneOf_20 : decode b_M_isOneOf 20 = .ok (.iload_n 2, 1) := by decide +kernel
theorem d_M_isOneOf_21 : decode b_M_isOneOf 21 = .ok (.if_icmp .eq 17, 3) := by decide +kernel
theorem d_M_isOneOf_24 : decode b_M_isOneOf 24 = .ok (.aload_n 0, 1) := by decide +kernel
theorem d_M_isOneOf_25 : decode b_M_isOneOf 25 = .ok (.iload 4, 2) := by decide +kernel
theorem d_M_isOneOf_27 : decode b_M_isOneOf 27 = .ok (.iload_n 1, 1) := by decide +kernel
theorem d_M_isOneOf_28 : decode b_M_isOneOf 28 = .ok (.invokevirtual 98, 3) := by decide +kernel
theorem d_M_isOneOf_31 : decode b_M_isOneOf 31 = .ok (.ifCond .lt 7, 3) := by decide +kernel
theorem d_M_isOneOf_34 : decode b_M_isOneOf 34 = .ok (.iconst 1, 1) := by decide +kernel
theorem d_M_isOneOf_35 : decode b_M_isOneOf 35 = .ok (.goto 4, 3) := by decide +kernel
theorem d_M_isOneOf_38 : decode b_M_isOneOf 38 = .ok (.iconst 0, 1) := by decide +kernel
theorem d_M_isOneOf_39 : decode b_M_isOneOf 39 = .ok (.istore_n 3, 1) := by decide +kernel
theorem d_M_isOneOf_40 : decode b_M_isOneOf 40 = .ok (.iinc 4 1, 3) := by decide +kernel
theorem d_M_isOneOf_43 : decode b_M_isOneOf 43 = .ok (.goto (-38), 3) := by decide +kernel
theorem d_M_isOneOf_46 : decode b_M_isOneOf 46 = .ok (.iload_n 3, 1) := by decide +kernel
theorem d_M_isOneOf_47 : decode b_M_isOneOf 47 = .ok (.ireturn, 1) := by decide +kernel
theorem d_M_passes_0 : decode b_M_passes 0 = .ok (.iload_n 1, 1) := by decide +kernel
theorem d_M_passes_1 : decode b_M_passes 1 = .ok (.aload_n 0, 1) := by decide +kernel
theorem d_M_passes_2 : decode b_M_passes 2 = .ok (.getfield 29, 3) := by decide +kernel
theorem d_M_passes_5 : decode b_M_passes 5 = .ok (.if_icmp .lt 15, 3) := by decide +kernel
theorem d_M_passes_8 : decode b_M_passes 8 = .ok (.iload_n 1, 1) := by decide +kernel
theorem d_M_passes_9 : decode b_M_passes 9 = .ok (.aload_n 0, 1) := by decide +kernel
theorem d_M_passes_10 : decode b_M_passes 10 = .ok (.getfield 104, 3) := by decide +kernel
theorem d_M_passes_13 : decode b_M_passes 13 = .ok (.if_icmp .gt 7, 3) := by decide +kernel
theorem d_M_passes_16 : decode b_M_passes 16 = .ok (.iconst 1, 1) := by decide +kernel
theorem d_M_passes_17 : decode b_M_passes 17 = .ok (.goto 4, 3) := by decide +kernel
theorem d_M_passes_20 : decode b_M_passes 20 = .ok (.iconst 0, 1) := by decide +kernel
theorem d_M_passes_21 : decode b_M_passes 21 = .ok (.ireturn, 1) := by decide +kernel
theorem d_M_leaveSecond_0 : decode b_M_leaveSecond 0 = .ok (.aload_n 0, 1) := by decide +kernel
theorem d_M_leaveSecond_1 : decode b_M_leaveSecond 1 = .ok (.getfield 13, 3) := by decide +kernel
theorem d_M_leaveSecond_4 : decode b_M_leaveSecond 4 = .ok (.iload_n 1, 1) := by decide +kernel
theorem d_M_leaveSecond_5 : decode b_M_leaveSecond 5 = .ok (.iaload, 1) := by decide +kernel
theorem d_M_leaveSecond_6 : decode b_M_leaveSecond 6 = .ok (.istore_n 2, 1) := by decide +kernel
theorem d_M_leaveSecond_7 : decode b_M_leaveSecond 7 = .ok (.aload_n 0, 1) := by decide +kernel
theorem d_M_leaveSecond_8 : decode b_M_leaveSecond 8 = .ok (.getfield 16, 3) := by decide +kernel
theorem d_M_leaveSecond_11 : decode b_M_leaveSecond 11 = .ok (.iload_n 1, 1) := by decide +kernel
theorem d_M_leaveSecond_12 : decode b_M_leaveSecond 12 = .ok (.baload, 1) := by decide +kernel
theorem d_M_leaveSecond_13 : decode b_M_leaveSecond 13 = .ok (.istore_n 3, 1) := by decide +kernel
theorem d_M_leaveSecond_14 : decode b_M_leaveSecond 14 = .ok (.aload_n 0, 1) := by decide +kernel
theorem d_M_leaveSecond_15 : decode b_M_leaveSecond 15 = .ok (.getfield 20, 3) := by decide +kernel
theorem d_M_leaveSecond_18 : decode b_M_leaveSecond 18 = .ok (.iload_n 1, 1) := by decide +kernel
theorem d_M_leaveSecond_19 : decode b_M_leaveSecond 19 = .ok (.iaload, 1) := by decide +kernel
theorem d_M_leaveSecond_20 : decode b_M_leaveSecond 20 = .ok (.istore 4, 2) := by decide +kernel
theorem d_M_leaveSecond_22 : decode b_M_leaveSecond 22 = .ok (.aload_n 0, 1) := by decide +kernel
theorem d_M_leaveSecond_23 : decode b_M_leaveSecond 23 = .ok (.iconst 4, 1) := by decide +kernel
theorem d_M_leaveSecond_24 : decode b_M_leaveSecond 24 = .ok (.iload_n 1, 1) := by decide +kernel
theorem d_M_leaveSecond_25 : decode b_M_leaveSecond 25 = .ok (.invokevirtual 82, 3) := by decide +kernel
theorem d_M_leaveSecond_28 : decode b_M_leaveSecond 28 = .ok (.aload_n 0, 1) := by decide +kernel
theorem d_M_leaveSecond_29 : decode b_M_leaveSecond 29 = .ok (.getfield 52, 3) := by decide +kernel
theorem d_M_leaveSecond_32 : decode b_M_leaveSecond 32 = .ok (.iconst 1, 1) := by decide +kernel
theorem d_M_leaveSecond_33 : decode b_M_leaveSecond 33 = .ok (.if_icmp .ne 81, 3) := by decide +kernel
theorem d_M_leaveSecond_36 : decode b_M_leaveSecond 36 = .ok (.iconst 0, 1) := by decide +kernel
theorem d_M_leaveSecond_37 : decode b_M_leaveSecond 37 = .ok (.istore 5, 2) := by decide +kernel
theorem d_M_leaveSecond_39 : decode b_M_leaveSecond 39 = .ok (.iload 5, 2) := by decide +kernel
theorem d_M_leaveSecond_41 : decode b_M_leaveSecond 41 = .ok (.aload_n 0, 1) := by decide +kernel
theorem d_M_leaveSecond_42 : decode b_M_leaveSecond 42 = .ok (.getfield 45, 3) := by decide +kernel
theorem d_M_leaveSecond_45 : decode b_M_leaveSecond 45 = .ok (.if_icmp .ge 69, 3) := by decide +kernel
theorem d_M_leaveSecond_48 : decode b_M_leaveSecond 48 = .ok (.aload_n 0, 1) := by decide +kernel
theorem d_M_leaveSecond_49 : decode b_M_leaveSecond 49 = .ok (.iload 5, 2) := by decide +kernel
theorem d_M_leaveSecond_51 : decode b_M_leaveSecond 51 = .ok (.iload_n 2, 1) := by decide +kernel
theorem d_M_leaveSecond_52 : decode b_M_leaveSecond 52 = .ok (.invokevirtual 98, 3) := by decide +kernel
theorem d_M_leaveSecond_55 : decode b_M_leaveSecond 55 = .ok (.istore 6, 2) := by decide +kernel
theorem d_M_leaveSecond_57 : decode b_M_leaveSecond 57 = .ok (.iload 6, 2) := by decide +kernel
theorem d_M_leaveSecond_59 : decode b_M_leaveSecond 59 = .ok (.ifCond .lt 49, 3) := by decide +kernel
theorem d_M_leaveSecond_62 : decode b_M_leaveSecond 62 = .ok (.aload_n 0, 1) := by decide +kernel
theorem d_M_leaveSecond_63 : decode b_M_leaveSecond 63 = .ok (.getfield 42, 3) := by decide +kernel
theorem d_M_leaveSecond_66 : decode b_M_leaveSecond 66 = .ok (.bipush 7, 2) := by decide +kernel
theorem d_M_leaveSecond_68 : decode b_M_leaveSecond 68 = .ok (.iload 5, 2) := by decide +kernel
theorem d_M_leaveSecond_70 : decode b_M_leaveSecond 70 = .ok (.imul, 1) := by decide +kernel
theorem d_M_leaveSecond_71 : decode b_M_leaveSecond 71 = .ok (.bipush 6, 2) := by decide +kernel
theorem d_M_leaveSecond_73 : decode b_M_leaveSecond 73 = .ok (.iadd, 1) := by decide +kernel
theorem d_M_leaveSecond_74 : decode b_M_leaveSecond 74 = .ok (.dup2, 1) := by decide +kernel
theorem d_M_leaveSecond_75 : decode b_M_leaveSecond 75 = .ok (.iaload, 1) := by decide +kernel
theorem d_M_leaveSecond_76 : decode b_M_leaveSecond 76 = .ok (.iconst 1, 1) := by decide +kernel
theorem d_M_leaveSecond_77 : decode b_M_leaveSecond 77 = .ok (.iadd, 1) := by decide +kernel
theorem d_M_leaveSecond_78 : decode b_M_leaveSecond 78 = .ok (.iastore, 1) := by decide +kernel
theorem d_M_leaveSecond_79 : decode b_M_leaveSecond 79 = .ok (.aload_n 0, 1) := by decide +kernel
theorem d_M_leaveSecond_80 : decode b_M_leaveSecond 80 = .ok (.getfield 16, 3) := by decide +kernel
theorem d_M_leaveSecond_83 : decode b_M_leaveSecond 83 = .ok (.iload 6, 2) := by decide +kernel
theorem d_M_leaveSecond_85 : decode b_M_leaveSecond 85 = .ok (.baload, 1) := by decide +kernel
theorem d_M_leaveSecond_86 : decode b_M_leaveSecond 86 = .ok (.ifCond .eq 14, 3) := by decide +kernel
theorem d_M_leaveSecond_89 : decode b_M_leaveSecond 89 = .ok (.iconst 1, 1) := by decide +kernel
theorem d_M_leaveSecond_90 : decode b_M_leaveSecond 90 = .ok (.istore_n 3, 1) := by decide +kernel
theorem d_M_leaveSecond_91 : decode b_M_leaveSecond 91 = .ok (.aload_n 0, 1) := by decide +kernel
theorem d_M_leaveSecond_92 : decode b_M_leaveSecond 92 = .ok (.getfield 20, 3) := by decide +kernel
theorem d_M_leaveSecond_95 : decode b_M_leaveSecond 95 = .ok (.iload 6, 2) := by decide +kernel
theorem d_M_leaveSecond_97 : decode b_M_leaveSecond 97 = .ok (.iaload, 1) := by decide +kernel
theorem d_M_leaveSecond_98 : decode b_M_leaveSecond 98 = .ok (.istore 4, 2) := by decide +kernel
theorem d_M_leaveSecond_100 : decode b_M_leaveSecond 100 = .ok (.aload_n 0, 1) := by decide +kernel
theorem d_M_leaveSecond_101 : decode b_M_leaveSecond 101 = .ok (.iload 5, 2) := by decide +kernel
theorem d_M_leaveSecond_103 : decode b_M_leaveSecond 103 = .ok (.iload 6, 2) := by decide +kernel
theorem d_M_leaveSecond_105 : decode b_M_leaveSecond 105 = .ok (.invokevirtual 82, 3) := by decide +kernel
theorem d_M_leaveSecond_108 : decode b_M_leaveSecond 108 = .ok (.iinc 5 1, 3) := by decide +kernel
theorem d_M_leaveSecond_111 : decode b_M_leaveSecond 111 = .ok (.goto (-72), 3) := by decide +kernel
theorem d_M_leaveSecond_114 : decode b_M_leaveSecond 114 = .ok (.iload_n 3, 1) := by decide +kernel
theorem d_M_leaveSecond_115 : decode b_M_leaveSecond 115 = .ok (.ifCond .eq 10, 3) := by decide +kernel
theorem d_M_leaveSecond_118 : decode b_M_leaveSecond 118 = .ok (.aload_n 0, 1) := by decide +kernel
theorem d_M_leaveSecond_119 : decode b_M_leaveSecond 119 = .ok (.iload_n 2, 1) := by decide +kernel
theorem d_M_leaveSecond_120 : decode b_M_leaveSecond 120 = .ok (.iload 4, 2) := by decide +kernel
theorem d_M_leaveSecond_122 : decode b_M_leaveSecond 122 = .ok (.invokevirtual 101, 3) := by decide +kernel
theorem d_M_leaveSecond_125 : decode b_M_leaveSecond 125 = .ok (.return_, 1) := by decide +kernel
theorem d_M_comeToSecond_0 : decode b_M_comeToSecond 0 = .ok (.aload_n 0, 1) := by decide +kernel
theorem d_M_comeToSecond_1 : decode b_M_comeToSecond 1 = .ok (.getfield 26, 3) := by decide +kernel
theorem d_M_comeToSecond_4 : decode b_M_comeToSecond 4 = .ok (.iload_n 1, 1) := by decide +kernel
theorem d_M_comeToSecond_5 : decode b_M_comeToSecond 5 = .ok (.iaload, 1) := by decide +kernel
theorem d_M_comeToSecond_6 : decode b_M_comeToSecond 6 = .ok (.ifCond .ne 15, 3) := by decide +kernel
theorem d_M_comeToSecond_9 : decode b_M_comeToSecond 9 = .ok (.iload_n 3, 1) := by decide +kernel
theorem d_M_comeToSecond_10 : decode b_M_comeToSecond 10 = .ok (.ifCond .eq 10, 3) := by decide +kernel
theorem d_M_comeToSecond_13 : decode b_M_comeToSecond 13 = .ok (.aload_n 0, 1) := by decide +kernel
theorem d_M_comeToSecond_14 : decode b_M_comeToSecond 14 = .ok (.iload_n 2, 1) := by decide +kernel
theorem d_M_comeToSecond_15 : decode b_M_comeToSecond 15 = .ok (.iload 4, 2) := by decide +kernel
theorem d_M_comeToSecond_17 : decode b_M_comeToSecond 17 = .ok (.invokevirtual 101, 3) := by decide +kernel
theorem d_M_comeToSecond_20 : decode b_M_comeToSecond 20 = .ok (.return_, 1) := by decide +kernel
theorem d_M_comeToSecond_21 : decode b_M_comeToSecond 21 = .ok (.aload_n 0, 1) := by decide +kernel
theorem d_M_comeToSecond_22 : decode b_M_comeToSecond 22 = .ok (.iconst 4, 1) := by decide +kernel
theorem d_M_comeToSecond_23 : decode b_M_comeToSecond 23 = .ok (.iload_n 2, 1) := by decide +kernel
theorem d_M_comeToSecond_24 : decode b_M_comeToSecond 24 = .ok (.invokevirtual 89, 3) := by decide +kernel
theorem d_M_comeToSecond_27 : decode b_M_comeToSecond 27 = .ok (.istore 5, 2) := by decide +kernel
theorem d_M_comeToSecond_29 : decode b_M_comeToSecond 29 = .ok (.aload_n 0, 1) := by decide +kernel
theorem d_M_comeToSecond_30 : decode b_M_comeToSecond 30 = .ok (.iconst 4, 1) := by decide +kernel
theorem d_M_comeToSecond_31 : decode b_M_comeToSecond 31 = .ok (.iload 5, 2) := by decide +kernel
theorem d_M_comeToSecond_33 : decode b_M_comeToSecond 33 = .ok (.iload_n 1, 1) := by decide +kernel
theorem d_M_comeToSecond_34 : decode b_M_comeToSecond 34 = .ok (.aload_n 0, 1) := by decide +kernel
theorem d_M_comeToSecond_35 : decode b_M_comeToSecond 35 = .ok (.getfield 26, 3) := by decide +kernel
theorem d_M_comeToSecond_38 : decode b_M_comeToSecond 38 = .ok (.iload_n 1, 1) := by decide +kernel
theorem d_M_comeToSecond_39 : decode b_M_comeToSecond 39 = .ok (.iaload, 1) := by decide +kernel
theorem d_M_comeToSecond_40 : decode b_M_comeToSecond 40 = .ok (.invokevirtual 107, 3) := by decide +kernel
theorem d_M_comeToSecond_43 : decode b_M_comeToSecond 43 = .ok (.istore 6, 2) := by decide +kernel
theorem d_M_comeToSecond_45 : decode b_M_comeToSecond 45 = .ok (.iload 6, 2) := by decide +kernel
theorem d_M_comeToSecond_47 : decode b_M_comeToSecond 47 = .ok (.ifCond .ge 14, 3) := by decide +kernel
theorem d_M_comeToSecond_50 : decode b_M_comeToSecond 50 = .ok (.aload_n 0, 1) := by decide +kernel
theorem d_M_comeToSecond_51 : decode b_M_comeToSecond 51 = .ok (.iconst 4, 1) := by decide +kernel
theorem d_M_comeToSecond_52 : decode b_M_comeToSecond 52 = .ok (.iload 5, 2) := by decide +kernel
theorem d_M_comeToSecond_54 : decode b_M_comeToSecond 54 = .ok (.iconst (-1), 1) := by decide +kernel
theorem d_M_comeToSecond_55 : decode b_M_comeToSecond 55 = .ok (.iconst 4, 1) := by decide +kernel
theorem d_M_comeToSecond_56 : decode b_M_comeToSecond 56 = .ok (.invokevirtual 107, 3) := by decide +kernel
theorem d_M_comeToSecond_59 : decode b_M_comeToSecond 59 = .ok (.istore 6, 2) := by decide +kernel
theorem d_M_comeToSecond_61 : decode b_M_comeToSecond 61 = .ok (.iload 6, 2) := by decide +kernel
theorem d_M_comeToSecond_63 : decode b_M_comeToSecond 63 = .ok (.ifCond .lt 9, 3) := by decide +kernel
theorem d_M_comeToSecond_66 : decode b_M_comeToSecond 66 = .ok (.aload_n 0, 1) := by decide +kernel
theorem d_M_comeToSecond_67 : decode b_M_comeToSecond 67 = .ok (.iload 6, 2) := by decide +kernel
theorem d_M_comeToSecond_69 : decode b_M_comeToSecond 69 = .ok (.invokevirtual 111, 3) := by decide +kernel
theorem d_M_comeToSecond_72 : decode b_M_comeToSecond 72 = .ok (.aload_n 0, 1) := by decide +kernel
theorem d_M_comeToSecond_73 : decode b_M_comeToSecond 73 = .ok (.iconst 4, 1) := by decide +kernel
theorem d_M_comeToSecond_74 : decode b_M_comeToSecond 74 = .ok (.iload_n 2, 1) := by decide +kernel
theorem d_M_comeToSecond_75 : decode b_M_comeToSecond 75 = .ok (.iload_n 3, 1) := by decide +kernel
theorem d_M_comeToSecond_76 : decode b_M_comeToSecond 76 = .ok (.iload 4, 2) := by decide +kernel
theorem d_M_comeToSecond_78 : decode b_M_comeToSecond 78 = .ok (.iload_n 1, 1) := by decide +kernel
theorem d_M_comeToSecond_79 : decode b_M_comeToSecond 79 = .ok (.invokevirtual 85, 3) := by decide +kernel
theorem d_M_comeToSecond_82 : decode b_M_comeToSecond 82 = .ok (.return_, 1) := by decide +kernel
theorem d_M_comeToFirst_0 : decode b_M_comeToFirst 0 = .ok (.aload_n 0, 1) := by decide +kernel
theorem d_M_comeToFirst_1 : decode b_M_comeToFirst 1 = .ok (.iload_n 1, 1) := by decide +kernel
theorem d_M_comeToFirst_2 : decode b_M_comeToFirst 2 = .ok (.aload_n 0, 1) := by decide +kernel
theorem d_M_comeToFirst_3 : decode b_M_comeToFirst 3 = .ok (.iload_n 1, 1) := by decide +kernel
theorem d_M_comeToFirst_4 : decode b_M_comeToFirst 4 = .ok (.iload_n 2, 1) := by decide +kernel
theorem d_M_comeToFirst_5 : decode b_M_comeToFirst 5 = .ok (.invokevirtual 89, 3) := by decide +kernel
theorem d_M_comeToFirst_8 : decode b_M_comeToFirst 8 = .ok (.iconst (-1), 1) := by decide +kernel
theorem d_M_comeToFirst_9 : decode b_M_comeToFirst 9 = .ok (.iconst 2, 1) := by decide +kernel
theorem d_M_comeToFirst_10 : decode b_M_comeToFirst 10 = .ok (.invokevirtual 107, 3) := by decide +kernel
theorem d_M_comeToFirst_13 : decode b_M_comeToFirst 13 = .ok (.istore 5, 2) := by decide +kernel
theorem d_M_comeToFirst_15 : decode b_M_comeToFirst 15 = .ok (.iload 5, 2) := by decide +kernel
theorem d_M_comeToFirst_17 : decode b_M_comeToFirst 17 = .ok (.ifCond .lt 91, 3) := by decide +kernel
theorem d_M_comeToFirst_20 : decode b_M_comeToFirst 20 = .ok (.aload_n 0, 1) := by decide +kernel
theorem d_M_comeToFirst_21 : decode b_M_comeToFirst 21 = .ok (.getfield 13, 3) := by decide +kernel
theorem d_M_comeToFirst_24 : decode b_M_comeToFirst 24 = .ok (.iload 5, 2) := by decide +kernel
theorem d_M_comeToFirst_26 : decode b_M_comeToFirst 26 = .ok (.iaload, 1) := by decide +kernel
theorem d_M_comeToFirst_27 : decode b_M_comeToFirst 27 = .ok (.istore 6, 2) := by decide +kernel
theorem d_M_comeToFirst_29 : decode b_M_comeToFirst 29 = .ok (.aload_n 0, 1) := by decide +kernel
theorem d_M_comeToFirst_30 : decode b_M_comeToFirst 30 = .ok (.getfield 16, 3) := by decide +kernel
theorem d_M_comeToFirst_33 : decode b_M_comeToFirst 33 = .ok (.iload 5, 2) := by decide +kernel
theorem d_M_comeToFirst_35 : decode b_M_comeToFirst 35 = .ok (.baload, 1) := by decide +kernel
theorem d_M_comeToFirst_36 : decode b_M_comeToFirst 36 = .ok (.istore 7, 2) := by decide +kernel
theorem d_M_comeToFirst_38 : decode b_M_comeToFirst 38 = .ok (.aload_n 0, 1) := by decide +kernel
theorem d_M_comeToFirst_39 : decode b_M_comeToFirst 39 = .ok (.getfield 20, 3) := by decide +kernel
theorem d_M_comeToFirst_42 : decode b_M_comeToFirst 42 = .ok (.iload 5, 2) := by decide +kernel
theorem d_M_comeToFirst_44 : decode b_M_comeToFirst 44 = .ok (.iaload, 1) := by decide +kernel
theorem d_M_comeToFirst_45 : decode b_M_comeToFirst 45 = .ok (.istore 8, 2) := by decide +kernel
theorem d_M_comeToFirst_47 : decode b_M_comeToFirst 47 = .ok (.aload_n 0, 1) := by decide +kernel
theorem d_M_comeToFirst_48 : decode b_M_comeToFirst 48 = .ok (.iload_n 1, 1) := by decide +kernel
theorem d_M_comeToFirst_49 : decode b_M_comeToFirst 49 = .ok (.iload 5, 2) := by decide +kernel
theorem d_M_comeToFirst_51 : decode b_M_comeToFirst 51 = .ok (.invokevirtual 82, 3) := by decide +kernel
theorem d_M_comeToFirst_54 : decode b_M_comeToFirst 54 = .ok (.aload_n 0, 1) := by decide +kernel
theorem d_M_comeToFirst_55 : decode b_M_comeToFirst 55 = .ok (.getfield 52, 3) := by decide +kernel
theorem d_M_comeToFirst_58 : decode b_M_comeToFirst 58 = .ok (.iconst 2, 1) := by decide +kernel
theorem d_M_comeToFirst_59 : decode b_M_comeToFirst 59 = .ok (.if_icmp .ne 36, 3) := by decide +kernel
theorem d_M_comeToFirst_62 : decode b_M_comeToFirst 62 = .ok (.aload_n 0, 1) := by decide +kernel
theorem d_M_comeToFirst_63 : decode b_M_comeToFirst 63 = .ok (.iload 6, 2) := by decide +kernel
theorem d_M_comeToFirst_65 : decode b_M_comeToFirst 65 = .ok (.invokevirtual 115, 3) := by decide +kernel
theorem d_M_comeToFirst_68 : decode b_M_comeToFirst 68 = .ok (.ifCond .ne 27, 3) := by decide +kernel
theorem d_M_comeToFirst_71 : decode b_M_comeToFirst 71 = .ok (.aload_n 0, 1) := by decide +kernel
theorem d_M_comeToFirst_72 : decode b_M_comeToFirst 72 = .ok (.iload 6, 2) := by decide +kernel
theorem d_M_comeToFirst_74 : decode b_M_comeToFirst 74 = .ok (.iload_n 1, 1) := by decide +kernel
theorem d_M_comeToFirst_75 : decode b_M_comeToFirst 75 = .ok (.invokevirtual 119, 3) := by decide +kernel
theorem d_M_comeToFirst_78 : decode b_M_comeToFirst 78 = .ok (.ifCond .ne 17, 3) := by decide +kernel
theorem d_M_comeToFirst_81 : decode b_M_comeToFirst 81 = .ok (.aload_n 0, 1) := by decide +kernel
theorem d_M_comeToFirst_82 : decode b_M_comeToFirst 82 = .ok (.iload_n 1, 1) := by decide +kernel
theorem d_M_comeToFirst_83 : decode b_M_comeToFirst 83 = .ok (.iload 6, 2) := by decide +kernel
theorem d_M_comeToFirst_85 : decode b_M_comeToFirst 85 = .ok (.iload 7, 2) := by decide +kernel
theorem d_M_comeToFirst_87 : decode b_M_comeToFirst 87 = .ok (.iload 8, 2) := by decide +kernel
theorem d_M_comeToFirst_89 : decode b_M_comeToFirst 89 = .ok (.invokevirtual 123, 3) := by decide +kernel
theorem d_M_comeToFirst_92 : decode b_M_comeToFirst 92 = .ok (.goto 16, 3) := by decide +kernel
theorem d_M_comeToFirst_95 : decode b_M_comeToFirst 95 = .ok (.iload 7, 2) := by decide +kernel
theorem d_M_comeToFirst_97 : decode b_M_comeToFirst 97 = .ok (.ifCond .eq 11, 3) := by decide +kernel
theorem d_M_comeToFirst_100 : decode b_M_comeToFirst 100 = .ok (.aload_n 0, 1) := by decide +kernel
theorem d_M_comeToFirst_101 : decode b_M_comeToFirst 101 = .ok (.iload 6, 2) := by decide +kernel
theorem d_M_comeToFirst_103 : decode b_M_comeToFirst 103 = .ok (.iload 8, 2) := by decide +kernel
theorem d_M_comeToFirst_105 : decode b_M_comeToFirst 105 = .ok (.invokevirtual 127, 3) := by decide +kernel
theorem d_M_comeToFirst_108 : decode b_M_comeToFirst 108 = .ok (.aload_n 0, 1) := by decide +kernel
theorem d_M_comeToFirst_109 : decode b_M_comeToFirst 109 = .ok (.iload_n 1, 1) := by decide +kernel
theorem d_M_comeToFirst_110 : decode b_M_comeToFirst 110 = .ok (.iload_n 2, 1) := by decide +kernel
theorem d_M_comeToFirst_111 : decode b_M_comeToFirst 111 = .ok (.iload_n 3, 1) := by decide +kernel
theorem d_M_comeToFirst_112 : decode b_M_comeToFirst 112 = .ok (.iload 4, 2) := by decide +kernel
theorem d_M_comeToFirst_114 : decode b_M_comeToFirst 114 = .ok (.iload_n 1, 1) := by decide +kernel
theorem d_M_comeToFirst_115 : decode b_M_comeToFirst 115 = .ok (.invokevirtual 85, 3) := by decide +kernel
theorem d_M_comeToFirst_118 : decode b_M_comeToFirst 118 = .ok (.return_, 1) := by decide +kernel
theorem d_M_othersLose_0 : decode b_M_othersLose 0 = .ok (.iconst 0, 1) := by decide +kernel
theorem d_M_othersLose_1 : decode b_M_othersLose 1 = .ok (.istore_n 3, 1) := by decide +kernel
theorem d_M_othersLose_2 : decode b_M_othersLose 2 = .ok (.iload_n 3, 1) := by decide +kernel
theorem d_M_othersLose_3 : decode b_M_othersLose 3 = .ok (.aload_n 0, 1) := by decide +kernel
theorem d_M_othersLose_4 : decode b_M_othersLose 4 = .ok (.getfield 45, 3) := by decide +kernel
theorem d_M_othersLose_7 : decode b_M_othersLose 7 = .ok (.if_icmp .ge 53, 3) := by decide +kernel
theorem d_M_othersLose_10 : decode b_M_othersLose 10 = .ok (.iload_n 3, 1) := by decide +kernel
theorem d_M_othersLose_11 : decode b_M_othersLose 11 = .ok (.iload_n 1, 1) := by decide +kernel
theorem d_M_othersLose_12 : decode b_M_othersLose 12 = .ok (.if_icmp .ne 7, 3) := by decide +kernel
theorem d_M_othersLose_15 : decode b_M_othersLose 15 = .ok (.iconst (-1), 1) := by decide +kernel
theorem d_M_othersLose_16 : decode b_M_othersLose 16 = .ok (.goto 9, 3) := by decide +kernel
theorem d_M_othersLose_19 : decode b_M_othersLose 19 = .ok (.aload_n 0, 1) := by decide +kernel
theorem d_M_othersLose_20 : decode b_M_othersLose 20 = .ok (.iload_n 3, 1) := by decide +kernel
theorem d_M_othersLose_21 : decode b_M_othersLose 21 = .ok (.iload_n 2, 1) := by decide +kernel
theorem d_M_othersLose_22 : decode b_M_othersLose 22 = .ok (.invokevirtual 98, 3) := by decide +kernel
theorem d_M_othersLose_25 : decode b_M_othersLose 25 = .ok (.istore 4, 2) := by decide +kernel
theorem d_M_othersLose_27 : decode b_M_othersLose 27 = .ok (.iload 4, 2) := by decide +kernel
theorem d_M_othersLose_29 : decode b_M_othersLose 29 = .ok (.ifCond .lt 25, 3) := by decide +kernel
theorem d_M_othersLose_32 : decode b_M_othersLose 32 = .ok (.aload_n 0, 1) := by decide +kernel
theorem d_M_othersLose_33 : decode b_M_othersLose 33 = .ok (.getfield 42, 3) := by decide +kernel
theorem d_M_othersLose_36 : decode b_M_othersLose 36 = .ok (.bipush 7, 2) := by decide +kernel
theorem d_M_othersLose_38 : decode b_M_othersLose 38 = .ok (.iload_n 3, 1) := by decide +kernel
theorem d_M_othersLose_39 : decode b_M_othersLose 39 = .ok (.imul, 1) := by decide +kernel
theorem d_M_othersLose_40 : decode b_M_othersLose 40 = .ok (.iconst 5, 1) := by decide +kernel
theorem d_M_othersLose_41 : decode b_M_othersLose 41 = .ok (.iadd, 1) := by decide +kernel
theorem d_M_othersLose_42 : decode b_M_othersLose 42 = .ok (.dup2, 1) := by decide +kernel
theorem d_M_othersLose_43 : decode b_M_othersLose 43 = .ok (.iaload, 1) := by decide +kernel
theorem d_M_othersLose_44 : decode b_M_othersLose 44 = .ok (.iconst 1, 1) := by decide +kernel
theorem d_M_othersLose_45 : decode b_M_othersLose 45 = .ok (.iadd, 1) := by decide +kernel
theorem d_M_othersLose_46 : decode b_M_othersLose 46 = .ok (.iastore, 1) := by decide +kernel
theorem d_M_othersLose_47 : decode b_M_othersLose 47 = .ok (.aload_n 0, 1) := by decide +kernel
theorem d_M_othersLose_48 : decode b_M_othersLose 48 = .ok (.iload_n 3, 1) := by decide +kernel
theorem d_M_othersLose_49 : decode b_M_othersLose 49 = .ok (.iload 4, 2) := by decide +kernel
theorem d_M_othersLose_51 : decode b_M_othersLose 51 = .ok (.invokevirtual 82, 3) := by decide +kernel
theorem d_M_othersLose_54 : decode b_M_othersLose 54 = .ok (.iinc 3 1, 3) := by decide +kernel
theorem d_M_othersLose_57 : decode b_M_othersLose 57 = .ok (.goto (-55), 3) := by decide +kernel
theorem d_M_othersLose_60 : decode b_M_othersLose 60 = .ok (.aload_n 0, 1) := by decide +kernel
theorem d_M_othersLose_61 : decode b_M_othersLose 61 = .ok (.getfield 52, 3) := by decide +kernel
theorem d_M_othersLose_64 : decode b_M_othersLose 64 = .ok (.iconst 2, 1) := by decide +kernel
theorem d_M_othersLose_65 : decode b_M_othersLose 65 = .ok (.if_icmp .ne 12, 3) := by decide +kernel
theorem d_M_othersLose_68 : decode b_M_othersLose 68 = .ok (.aload_n 0, 1) := by decide +kernel
theorem d_M_othersLose_69 : decode b_M_othersLose 69 = .ok (.iconst 4, 1) := by decide +kernel
theorem d_M_othersLose_70 : decode b_M_othersLose 70 = .ok (.iload_n 2, 1) := by decide +kernel
theorem d_M_othersLose_71 : decode b_M_othersLose 71 = .ok (.invokevirtual 98, 3) := by decide +kernel
theorem d_M_othersLose_74 : decode b_M_othersLose 74 = .ok (.goto 4, 3) := by decide +kernel
theorem d_M_othersLose_77 : decode b_M_othersLose 77 = .ok (.iconst (-1), 1) := by decide +kernel
theorem d_M_othersLose_78 : decode b_M_othersLose 78 = .ok (.istore_n 3, 1) := by decide +kernel
theorem d_M_othersLose_79 : decode b_M_othersLose 79 = .ok (.iload_n 3, 1) := by decide +kernel
theorem d_M_othersLose_80 : decode b_M_othersLose 80 = .ok (.ifCond .lt 9, 3) := by decide +kernel
theorem d_M_othersLose_83 : decode b_M_othersLose 83 = .ok (.aload_n 0, 1) := by decide +kernel
theorem d_M_othersLose_84 : decode b_M_othersLose 84 = .ok (.iconst 4, 1) := by decide +kernel
theorem d_M_othersLose_85 : decode b_M_othersLose 85 = .ok (.iload_n 3, 1) := by decide +kernel
theorem d_M_othersLose_86 : decode b_M_othersLose 86 = .ok (.invokevirtual 82, 3) := by decide +kernel
theorem d_M_othersLose_89 : decode b_M_othersLose 89 = .ok (.return_, 1) := by decide +kernel
theorem d_M_handOver_0 : decode b_M_handOver 0 = .ok (.iconst 0, 1) := by decide +kernel
theorem d_M_handOver_1 : decode b_M_handOver 1 = .ok (.istore_n 3, 1) := by decide +kernel
theorem d_M_handOver_2 : decode b_M_handOver 2 = .ok (.iload_n 3, 1) := by decide +kernel
theorem d_M_handOver_3 : decode b_M_handOver 3 = .ok (.aload_n 0, 1) := by decide +kernel
theorem d_M_handOver_4 : decode b_M_handOver 4 = .ok (.getfield 45, 3) := by decide +kernel
theorem d_M_handOver_7 : decode b_M_handOver 7 = .ok (.if_icmp .ge 71, 3) := by decide +kernel
theorem d_M_handOver_10 : decode b_M_handOver 10 = .ok (.iload_n 3, 1) := by decide +kernel
theorem d_M_handOver_11 : decode b_M_handOver 11 = .ok (.iload_n 1, 1) := by decide +kernel
theorem d_M_handOver_12 : decode b_M_handOver 12 = .ok (.if_icmp .ne 7, 3) := by decide +kernel
theorem d_M_handOver_15 : decode b_M_handOver 15 = .ok (.iconst (-1), 1) := by decide +kernel
theorem d_M_handOver_16 : decode b_M_handOver 16 = .ok (.goto 9, 3) := by decide +kernel
theorem d_M_handOver_19 : decode b_M_handOver 19 = .ok (.aload_n 0, 1) := by decide +kernel
theorem d_M_handOver_20 : decode b_M_handOver 20 = .ok (.iload_n 3, 1) := by decide +kernel
theorem d_M_handOver_21 : decode b_M_handOver 21 = .ok (.iload_n 2, 1) := by decide +kernel
theorem d_M_handOver_22 : decode b_M_handOver 22 = .ok (.invokevirtual 98, 3) := by decide +kernel
theorem d_M_handOver_25 : decode b_M_handOver 25 = .ok (.istore 4, 2) := by decide +kernel
theorem d_M_handOver_27 : decode b_M_handOver 27 = .ok (.iload 4, 2) := by decide +kernel
theorem d_M_handOver_29 : decode b_M_handOver 29 = .ok (.ifCond .lt 43, 3) := by decide +kernel
theorem d_M_handOver_32 : decode b_M_handOver 32 = .ok (.aload_n 0, 1) := by decide +kernel
theorem d_M_handOver_33 : decode b_M_handOver 33 = .ok (.getfield 16, 3) := by decide +kernel
theorem d_M_handOver_36 : decode b_M_handOver 36 = .ok (.iload 4, 2) := by decide +kernel
theorem d_M_handOver_38 : decode b_M_handOver 38 = .ok (.baload, 1) := by decide +kernel
theorem d_M_handOver_39 : decode b_M_handOver 39 = .ok (.ifCond .eq 33, 3) := by decide +kernel
theorem d_M_handOver_42 : decode b_M_handOver 42 = .ok (.aload_n 0, 1) := by decide +kernel
theorem d_M_handOver_43 : decode b_M_handOver 43 = .ok (.getfield 16, 3) := by decide +kernel
theorem d_M_handOver_46 : decode b_M_handOver 46 = .ok (.iload 4, 2) := by decide +kernel
theorem d_M_handOver_48 : decode b_M_handOver 48 = .ok (.iconst 0, 1) := by decide +kernel
theorem d_M_handOver_49 : decode b_M_handOver 49 = .ok (.bastore, 1) := by decide +kernel
theorem d_M_handOver_50 : decode b_M_handOver 50 = .ok (.aload_n 0, 1) := by decide +kernel
theorem d_M_handOver_51 : decode b_M_handOver 51 = .ok (.dup, 1) := by decide +kernel
theorem d_M_handOver_52 : decode b_M_handOver 52 = .ok (.getfield 130, 3) := by decide +kernel
theorem d_M_handOver_55 : decode b_M_handOver 55 = .ok (.iconst 1, 1) := by decide +kernel
theorem d_M_handOver_56 : decode b_M_handOver 56 = .ok (.iadd, 1) := by decide +kernel
theorem d_M_handOver_57 : decode b_M_handOver 57 = .ok (.putfield 130, 3) := by decide +kernel
theorem d_M_handOver_60 : decode b_M_handOver 60 = .ok (.aload_n 0, 1) := by decide +kernel
theorem d_M_handOver_61 : decode b_M_handOver 61 = .ok (.iload_n 2, 1) := by decide +kernel
theorem d_M_handOver_62 : decode b_M_handOver 62 = .ok (.aload_n 0, 1) := by decide +kernel
theorem d_M_handOver_63 : decode b_M_handOver 63 = .ok (.getfield 20, 3) := by decide +kernel
theorem d_M_handOver_66 : decode b_M_handOver 66 = .ok (.iload 4, 2) := by decide +kernel
theorem d_M_handOver_68 : decode b_M_handOver 68 = .ok (.iaload, 1) := by decide +kernel
theorem d_M_handOver_69 : decode b_M_handOver 69 = .ok (.invokevirtual 127, 3) := by decide +kernel
theorem d_M_handOver_72 : decode b_M_handOver 72 = .ok (.iinc 3 1, 3) := by decide +kernel
theorem d_M_handOver_75 : decode b_M_handOver 75 = .ok (.goto (-73), 3) := by decide +kernel
theorem d_M_handOver_78 : decode b_M_handOver 78 = .ok (.return_, 1) := by decide +kernel
theorem d_M_memoryOf_0 : decode b_M_memoryOf 0 = .ok (.aload_n 0, 1) := by decide +kernel
theorem d_M_memoryOf_1 : decode b_M_memoryOf 1 = .ok (.iload_n 1, 1) := by decide +kernel
theorem d_M_memoryOf_2 : decode b_M_memoryOf 2 = .ok (.invokevirtual 71, 3) := by decide +kernel
theorem d_M_memoryOf_5 : decode b_M_memoryOf 5 = .ok (.istore_n 2, 1) := by decide +kernel
theorem d_M_memoryOf_6 : decode b_M_memoryOf 6 = .ok (.iload_n 2, 1) := by decide +kernel
theorem d_M_memoryOf_7 : decode b_M_memoryOf 7 = .ok (.ifCond .ge 7, 3) := by decide +kernel
theorem d_M_memoryOf_10 : decode b_M_memoryOf 10 = .ok (.iconst 0, 1) := by decide +kernel
theorem d_M_memoryOf_11 : decode b_M_memoryOf 11 = .ok (.goto 9, 3) := by decide +kernel
theorem d_M_memoryOf_14 : decode b_M_memoryOf 14 = .ok (.aload_n 0, 1) := by decide +kernel
theorem d_M_memoryOf_15 : decode b_M_memoryOf 15 = .ok (.getfield 39, 3) := by decide +kernel
theorem d_M_memoryOf_18 : decode b_M_memoryOf 18 = .ok (.iload_n 2, 1) := by decide +kernel
theorem d_M_memoryOf_19 : decode b_M_memoryOf 19 = .ok (.iaload, 1) := by decide +kernel
theorem d_M_memoryOf_20 : decode b_M_memoryOf 20 = .ok (.ireturn, 1) := by decide +kernel
theorem d_M_bring_0 : decode b_M_bring 0 = .ok (.aload_n 0, 1) := by decide +kernel
theorem d_M_bring_1 : decode b_M_bring 1 = .ok (.iload_n 1, 1) := by decide +kernel
theorem d_M_bring_2 : decode b_M_bring 2 = .ok (.iload_n 2, 1) := by decide +kernel
theorem d_M_bring_3 : decode b_M_bring 3 = .ok (.invokevirtual 133, 3) := by decide +kernel
theorem d_M_bring_6 : decode b_M_bring 6 = .ok (.aload_n 0, 1) := by decide +kernel
theorem d_M_bring_7 : decode b_M_bring 7 = .ok (.iconst 4, 1) := by decide +kernel
theorem d_M_bring_8 : decode b_M_bring 8 = .ok (.iload_n 2, 1) := by decide +kernel
theorem d_M_bring_9 : decode b_M_bring 9 = .ok (.invokevirtual 98, 3) := by decide +kernel
theorem d_M_bring_12 : decode b_M_bring 12 = .ok (.istore_n 3, 1) := by decide +kernel
theorem d_M_bring_13 : decode b_M_bring 13 = .ok (.iload_n 3, 1) := by decide +kernel
theorem d_M_bring_14 : decode b_M_bring 14 = .ok (.ifCond .lt 70, 3) := by decide +kernel
theorem d_M_bring_17 : decode b_M_bring 17 = .ok (.aload_n 0, 1) := by decide +kernel
theorem d_M_bring_18 : decode b_M_bring 18 = .ok (.getfield 52, 3) := by decide +kernel
theorem d_M_bring_21 : decode b_M_bring 21 = .ok (.iconst 2, 1) := by decide +kernel
theorem d_M_bring_22 : decode b_M_bring 22 = .ok (.if_icmp .ne 16, 3) := by decide +kernel
theorem d_M_bring_25 : decode b_M_bring 25 = .ok (.aload_n 0, 1) := by decide +kernel
theorem d_M_bring_26 : decode b_M_bring 26 = .ok (.getfield 16, 3) := by decide +kernel
theorem d_M_bring_29 : decode b_M_bring 29 = .ok (.iload_n 3, 1) := by decide +kernel
theorem d_M_bring_30 : decode b_M_bring 30 = .ok (.baload, 1) := by decide +kernel
theorem d_M_bring_31 : decode b_M_bring 31 = .ok (.ifCond .eq 7, 3) := by decide +kernel
theorem d_M_bring_34 : decode b_M_bring 34 = .ok (.iconst 1, 1) := by decide +kernel
theorem d_M_bring_35 : decode b_M_bring 35 = .ok (.goto 4, 3) := by decide +kernel
theorem d_M_bring_38 : decode b_M_bring 38 = .ok (.iconst 0, 1) := by decide +kernel
theorem d_M_bring_39 : decode b_M_bring 39 = .ok (.istore 4, 2) := by decide +kernel
theorem d_M_bring_41 : decode b_M_bring 41 = .ok (.aload_n 0, 1) := by decide +kernel
theorem d_M_bring_42 : decode b_M_bring 42 = .ok (.getfield 20, 3) := by decide +kernel
theorem d_M_bring_45 : decode b_M_bring 45 = .ok (.iload_n 3, 1) := by decide +kernel
theorem d_M_bring_46 : decode b_M_bring 46 = .ok (.iaload, 1) := by decide +kernel
theorem d_M_bring_47 : decode b_M_bring 47 = .ok (.istore 5, 2) := by decide +kernel
theorem d_M_bring_49 : decode b_M_bring 49 = .ok (.aload_n 0, 1) := by decide +kernel
theorem d_M_bring_50 : decode b_M_bring 50 = .ok (.getfield 52, 3) := by decide +kernel
theorem d_M_bring_53 : decode b_M_bring 53 = .ok (.iconst 2, 1) := by decide +kernel
theorem d_M_bring_54 : decode b_M_bring 54 = .ok (.if_icmp .ne 12, 3) := by decide +kernel
theorem d_M_bring_57 : decode b_M_bring 57 = .ok (.aload_n 0, 1) := by decide +kernel
theorem d_M_bring_58 : decode b_M_bring 58 = .ok (.iconst 4, 1) := by decide +kernel
theorem d_M_bring_59 : decode b_M_bring 59 = .ok (.iload_n 3, 1) := by decide +kernel
theorem d_M_bring_60 : decode b_M_bring 60 = .ok (.invokevirtual 82, 3) := by decide +kernel
theorem d_M_bring_63 : decode b_M_bring 63 = .ok (.goto 9, 3) := by decide +kernel
theorem d_M_bring_66 : decode b_M_bring 66 = .ok (.aload_n 0, 1) := by decide +kernel
theorem d_M_bring_67 : decode b_M_bring 67 = .ok (.iconst 4, 1) := by decide +kernel
theorem d_M_bring_68 : decode b_M_bring 68 = .ok (.iload_n 3, 1) := by decide +kernel
theorem d_M_bring_69 : decode b_M_bring 69 = .ok (.invokevirtual 136, 3) := by decide +kernel
theorem d_M_bring_72 : decode b_M_bring 72 = .ok (.aload_n 0, 1) := by decide +kernel
theorem d_M_bring_73 : decode b_M_bring 73 = .ok (.iload_n 1, 1) := by decide +kernel
theorem d_M_bring_74 : decode b_M_bring 74 = .ok (.iload_n 2, 1) := by decide +kernel
theorem d_M_bring_75 : decode b_M_bring 75 = .ok (.iload 4, 2) := by decide +kernel
theorem d_M_bring_77 : decode b_M_bring 77 = .ok (.iload 5, 2) := by decide +kernel
theorem d_M_bring_79 : decode b_M_bring 79 = .ok (.invokevirtual 139, 3) := by decide +kernel
theorem d_M_bring_82 : decode b_M_bring 82 = .ok (.iconst 2, 1) := by decide +kernel
theorem d_M_bring_83 : decode b_M_bring 83 = .ok (.ireturn, 1) := by decide +kernel
theorem d_M_bring_84 : decode b_M_bring 84 = .ok (.aload_n 0, 1) := by decide +kernel
theorem d_M_bring_85 : decode b_M_bring 85 = .ok (.iload_n 2, 1) := by decide +kernel
theorem d_M_bring_86 : decode b_M_bring 86 = .ok (.invokevirtual 142, 3) := by decide +kernel
theorem d_M_bring_89 : decode b_M_bring 89 = .ok (.istore 4, 2) := by decide +kernel
theorem d_M_bring_91 : decode b_M_bring 91 = .ok (.aload_n 0, 1) := by decide +kernel
theorem d_M_bring_92 : decode b_M_bring 92 = .ok (.getfield 52, 3) := by decide +kernel
theorem d_M_bring_95 : decode b_M_bring 95 = .ok (.iconst 2, 1) := by decide +kernel
theorem d_M_bring_96 : decode b_M_bring 96 = .ok (.if_icmp .ge 15, 3) := by decide +kernel
theorem d_M_bring_99 : decode b_M_bring 99 = .ok (.aload_n 0, 1) := by decide +kernel
theorem d_M_bring_100 : decode b_M_bring 100 = .ok (.iload_n 2, 1) := by decide +kernel
theorem d_M_bring_101 : decode b_M_bring 101 = .ok (.invokevirtual 115, 3) := by decide +kernel
theorem d_M_bring_104 : decode b_M_bring 104 = .ok (.ifCond .ne 7, 3) := by decide +kernel
theorem d_M_bring_107 : decode b_M_bring 107 = .ok (.iconst 1, 1) := by decide +kernel
theorem d_M_bring_108 : decode b_M_bring 108 = .ok (.goto 4, 3) := by decide +kernel
theorem d_M_bring_111 : decode b_M_bring 111 = .ok (.iconst 0, 1) := by decide +kernel
theorem d_M_bring_112 : decode b_M_bring 112 = .ok (.istore 5, 2) := by decide +kernel
theorem d_M_bring_114 : decode b_M_bring 114 = .ok (.aload_n 0, 1) := by decide +kernel
theorem d_M_bring_115 : decode b_M_bring 115 = .ok (.getfield 52, 3) := by decide +kernel
theorem d_M_bring_118 : decode b_M_bring 118 = .ok (.iconst 1, 1) := by decide +kernel
theorem d_M_bring_119 : decode b_M_bring 119 = .ok (.if_icmp .ne 19, 3) := by decide +kernel
theorem d_M_bring_122 : decode b_M_bring 122 = .ok (.iload 5, 2) := by decide +kernel
theorem d_M_bring_124 : decode b_M_bring 124 = .ok (.ifCond .eq 12, 3) := by decide +kernel
theorem d_M_bring_127 : decode b_M_bring 127 = .ok (.aload_n 0, 1) := by decide +kernel
theorem d_M_bring_128 : decode b_M_bring 128 = .ok (.getfield 26, 3) := by decide +kernel
theorem d_M_bring_131 : decode b_M_bring 131 = .ok (.iload_n 1, 1) := by decide +kernel
theorem d_M_bring_132 : decode b_M_bring 132 = .ok (.iaload, 1) := by decide +kernel
theorem d_M_bring_133 : decode b_M_bring 133 = .ok (.ifCond .ne 5, 3) := by decide +kernel
theorem d_M_bring_136 : decode b_M_bring 136 = .ok (.iconst 4, 1) := by decide +kernel
theorem d_M_bring_137 : decode b_M_bring 137 = .ok (.ireturn, 1) := by decide +kernel
theorem d_M_bring_138 : decode b_M_bring 138 = .ok (.iload 5, 2) := by decide +kernel
theorem d_M_bring_140 : decode b_M_bring 140 = .ok (.ifCond .eq 12, 3) := by decide +kernel
theorem d_M_bring_143 : decode b_M_bring 143 = .ok (.aload_n 0, 1) := by decide +kernel
theorem d_M_bring_144 : decode b_M_bring 144 = .ok (.iload_n 1, 1) := by decide +kernel
theorem d_M_bring_145 : decode b_M_bring 145 = .ok (.iload_n 2, 1) := by decide +kernel
theorem d_M_bring_146 : decode b_M_bring 146 = .ok (.iconst 0, 1) := by decide +kernel
theorem d_M_bring_147 : decode b_M_bring 147 = .ok (.iload 4, 2) := by decide +kernel
theorem d_M_bring_149 : decode b_M_bring 149 = .ok (.invokevirtual 123, 3) := by decide +kernel
theorem d_M_bring_152 : decode b_M_bring 152 = .ok (.aload_n 0, 1) := by decide +kernel
theorem d_M_bring_153 : decode b_M_bring 153 = .ok (.iload_n 1, 1) := by decide +kernel
theorem d_M_bring_154 : decode b_M_bring 154 = .ok (.iload_n 2, 1) := by decide +kernel
theorem d_M_bring_155 : decode b_M_bring 155 = .ok (.iconst 0, 1) := by decide +kernel
theorem d_M_bring_156 : decode b_M_bring 156 = .ok (.iload 4, 2) := by decide +kernel
theorem d_M_bring_158 : decode b_M_bring 158 = .ok (.invokevirtual 139, 3) := by decide +kernel
theorem d_M_bring_161 : decode b_M_bring 161 = .ok (.iconst 3, 1) := by decide +kernel
theorem d_M_bring_162 : decode b_M_bring 162 = .ok (.ireturn, 1) := by decide +kernel
theorem d_M_access_0 : decode b_M_access 0 = .ok (.aload_n 0, 1) := by decide +kernel
theorem d_M_access_1 : decode b_M_access 1 = .ok (.iload_n 1, 1) := by decide +kernel
theorem d_M_access_2 : decode b_M_access 2 = .ok (.invokevirtual 145, 3) := by decide +kernel
theorem d_M_access_5 : decode b_M_access 5 = .ok (.ifCond .ne 5, 3) := by decide +kernel
theorem d_M_access_8 : decode b_M_access 8 = .ok (.iconst 0, 1) := by decide +kernel
theorem d_M_access_9 : decode b_M_access 9 = .ok (.ireturn, 1) := by decide +kernel
theorem d_M_access_10 : decode b_M_access 10 = .ok (.iload_n 3, 1) := by decide +kernel
theorem d_M_access_11 : decode b_M_access 11 = .ok (.iconst 0, 1) := by decide +kernel
theorem d_M_access_12 : decode b_M_access 12 = .ok (.iconst 1, 1) := by decide +kernel
theorem d_M_access_13 : decode b_M_access 13 = .ok (.invokestatic 64, 3) := by decide +kernel
theorem d_M_access_16 : decode b_M_access 16 = .ok (.ifCond .ne 9, 3) := by decide +kernel
theorem d_M_access_19 : decode b_M_access 19 = .ok (.aload_n 0, 1) := by decide +kernel
theorem d_M_access_20 : decode b_M_access 20 = .ok (.iconst 2, 1) := by decide +kernel
theorem d_M_access_21 : decode b_M_access 21 = .ok (.invokevirtual 148, 3) := by decide +kernel
theorem d_M_access_24 : decode b_M_access 24 = .ok (.ireturn, 1) := by decide +kernel
theorem d_M_access_25 : decode b_M_access 25 = .ok (.aload_n 0, 1) := by decide +kernel
theorem d_M_access_26 : decode b_M_access 26 = .ok (.getfield 42, 3) := by decide +kernel
theorem d_M_access_29 : decode b_M_access 29 = .ok (.bipush 7, 2) := by decide +kernel
theorem d_M_access_31 : decode b_M_access 31 = .ok (.iload_n 1, 1) := by decide +kernel
theorem d_M_access_32 : decode b_M_access 32 = .ok (.imul, 1) := by decide +kernel
theorem d_M_access_33 : decode b_M_access 33 = .ok (.dup2, 1) := by decide +kernel
theorem d_M_access_34 : decode b_M_access 34 = .ok (.iaload, 1) := by decide +kernel
theorem d_M_access_35 : decode b_M_access 35 = .ok (.iconst 1, 1) := by decide +kernel
theorem d_M_access_36 : decode b_M_access 36 = .ok (.iadd, 1) := by decide +kernel
theorem d_M_access_37 : decode b_M_access 37 = .ok (.iastore, 1) := by decide +kernel
theorem d_M_access_38 : decode b_M_access 38 = .ok (.aload_n 0, 1) := by decide +kernel
theorem d_M_access_39 : decode b_M_access 39 = .ok (.iload_n 1, 1) := by decide +kernel
theorem d_M_access_40 : decode b_M_access 40 = .ok (.iload_n 2, 1) := by decide +kernel
theorem d_M_access_41 : decode b_M_access 41 = .ok (.invokevirtual 98, 3) := by decide +kernel
theorem d_M_access_44 : decode b_M_access 44 = .ok (.istore 4, 2) := by decide +kernel
theorem d_M_access_46 : decode b_M_access 46 = .ok (.iload 4, 2) := by decide +kernel
theorem d_M_access_48 : decode b_M_access 48 = .ok (.ifCond .lt 7, 3) := by decide +kernel
theorem d_M_access_51 : decode b_M_access 51 = .ok (.iconst 1, 1) := by decide +kernel
theorem d_M_access_52 : decode b_M_access 52 = .ok (.goto 9, 3) := by decide +kernel
theorem d_M_access_55 : decode b_M_access 55 = .ok (.aload_n 0, 1) := by decide +kernel
theorem d_M_access_56 : decode b_M_access 56 = .ok (.iload_n 1, 1) := by decide +kernel
theorem d_M_access_57 : decode b_M_access 57 = .ok (.iload_n 2, 1) := by decide +kernel
theorem d_M_access_58 : decode b_M_access 58 = .ok (.invokevirtual 151, 3) := by decide +kernel
theorem d_M_access_61 : decode b_M_access 61 = .ok (.istore 5, 2) := by decide +kernel
theorem d_M_access_63 : decode b_M_access 63 = .ok (.iload 4, 2) := by decide +kernel
theorem d_M_access_65 : decode b_M_access 65 = .ok (.ifCond .lt 10, 3) := by decide +kernel
theorem d_M_access_68 : decode b_M_access 68 = .ok (.aload_n 0, 1) := by decide +kernel
theorem d_M_access_69 : decode b_M_access 69 = .ok (.iload_n 1, 1) := by decide +kernel
theorem d_M_access_70 : decode b_M_access 70 = .ok (.iload 4, 2) := by decide +kernel
theorem d_M_access_72 : decode b_M_access 72 = .ok (.invokevirtual 136, 3) := by decide +kernel
theorem d_M_access_75 : decode b_M_access 75 = .ok (.aload_n 0, 1) := by decide +kernel
theorem d_M_access_76 : decode b_M_access 76 = .ok (.getfield 42, 3) := by decide +kernel
theorem d_M_access_79 : decode b_M_access 79 = .ok (.bipush 7, 2) := by decide +kernel
theorem d_M_access_81 : decode b_M_access 81 = .ok (.iload_n 1, 1) := by decide +kernel
theorem d_M_access_82 : decode b_M_access 82 = .ok (.imul, 1) := by decide +kernel
theorem d_M_access_83 : decode b_M_access 83 = .ok (.iload 5, 2) := by decide +kernel
theorem d_M_access_85 : decode b_M_access 85 = .ok (.iconst 4, 1) := by decide +kernel
theorem d_M_access_86 : decode b_M_access 86 = .ok (.if_icmp .ne 7, 3) := by decide +kernel
theorem d_M_access_89 : decode b_M_access 89 = .ok (.iconst 3, 1) := by decide +kernel
theorem d_M_access_90 : decode b_M_access 90 = .ok (.goto 5, 3) := by decide +kernel
theorem d_M_access_93 : decode b_M_access 93 = .ok (.iload 5, 2) := by decide +kernel
theorem d_M_access_95 : decode b_M_access 95 = .ok (.iadd, 1) := by decide +kernel
theorem d_M_access_96 : decode b_M_access 96 = .ok (.dup2, 1) := by decide +kernel
theorem d_M_access_97 : decode b_M_access 97 = .ok (.iaload, 1) := by decide +kernel
theorem d_M_access_98 : decode b_M_access 98 = .ok (.iconst 1, 1) := by decide +kernel
theorem d_M_access_99 : decode b_M_access 99 = .ok (.iadd, 1) := by decide +kernel
theorem d_M_access_100 : decode b_M_access 100 = .ok (.iastore, 1) := by decide +kernel
theorem d_M_access_101 : decode b_M_access 101 = .ok (.iload_n 3, 1) := by decide +kernel
theorem d_M_access_102 : decode b_M_access 102 = .ok (.iconst 1, 1) := by decide +kernel
theorem d_M_access_103 : decode b_M_access 103 = .ok (.if_icmp .ne 93, 3) := by decide +kernel
theorem d_M_access_106 : decode b_M_access 106 = .ok (.aload_n 0, 1) := by decide +kernel
theorem d_M_access_107 : decode b_M_access 107 = .ok (.getfield 42, 3) := by decide +kernel
theorem d_M_access_110 : decode b_M_access 110 = .ok (.bipush 7, 2) := by decide +kernel
theorem d_M_access_112 : decode b_M_access 112 = .ok (.iload_n 1, 1) := by decide +kernel
theorem d_M_access_113 : decode b_M_access 113 = .ok (.imul, 1) := by decide +kernel
theorem d_M_access_114 : decode b_M_access 114 = .ok (.iconst 4, 1) := by decide +kernel
theorem d_M_access_115 : decode b_M_access 115 = .ok (.iadd, 1) := by decide +kernel
theorem d_M_access_116 : decode b_M_access 116 = .ok (.dup2, 1) := by decide +kernel
theorem d_M_access_117 : decode b_M_access 117 = .ok (.iaload, 1) := by decide +kernel
theorem d_M_access_118 : decode b_M_access 118 = .ok (.iconst 1, 1) := by decide +kernel
theorem d_M_access_119 : decode b_M_access 119 = .ok (.iadd, 1) := by decide +kernel
theorem d_M_access_120 : decode b_M_access 120 = .ok (.iastore, 1) := by decide +kernel
theorem d_M_access_121 : decode b_M_access 121 = .ok (.aload_n 0, 1) := by decide +kernel
theorem d_M_access_122 : decode b_M_access 122 = .ok (.iload_n 1, 1) := by decide +kernel
theorem d_M_access_123 : decode b_M_access 123 = .ok (.iload_n 2, 1) := by decide +kernel
theorem d_M_access_124 : decode b_M_access 124 = .ok (.invokevirtual 154, 3) := by decide +kernel
theorem d_M_access_127 : decode b_M_access 127 = .ok (.aload_n 0, 1) := by decide +kernel
theorem d_M_access_128 : decode b_M_access 128 = .ok (.iload_n 2, 1) := by decide +kernel
theorem d_M_access_129 : decode b_M_access 129 = .ok (.invokevirtual 92, 3) := by decide +kernel
theorem d_M_access_132 : decode b_M_access 132 = .ok (.istore 6, 2) := by decide +kernel
theorem d_M_access_134 : decode b_M_access 134 = .ok (.aload_n 0, 1) := by decide +kernel
theorem d_M_access_135 : decode b_M_access 135 = .ok (.getfield 36, 3) := by decide +kernel
theorem d_M_access_138 : decode b_M_access 138 = .ok (.iload 6, 2) := by decide +kernel
theorem d_M_access_140 : decode b_M_access 140 = .ok (.dup2, 1) := by decide +kernel
theorem d_M_access_141 : decode b_M_access 141 = .ok (.iaload, 1) := by decide +kernel
theorem d_M_access_142 : decode b_M_access 142 = .ok (.iconst 1, 1) := by decide +kernel
theorem d_M_access_143 : decode b_M_access 143 = .ok (.iadd, 1) := by decide +kernel
theorem d_M_access_144 : decode b_M_access 144 = .ok (.iastore, 1) := by decide +kernel
theorem d_M_access_145 : decode b_M_access 145 = .ok (.iload 5, 2) := by decide +kernel
theorem d_M_access_147 : decode b_M_access 147 = .ok (.iconst 4, 1) := by decide +kernel
theorem d_M_access_148 : decode b_M_access 148 = .ok (.if_icmp .ne 18, 3) := by decide +kernel
theorem d_M_access_151 : decode b_M_access 151 = .ok (.aload_n 0, 1) := by decide +kernel
theorem d_M_access_152 : decode b_M_access 152 = .ok (.iload_n 2, 1) := by decide +kernel
theorem d_M_access_153 : decode b_M_access 153 = .ok (.aload_n 0, 1) := by decide +kernel
theorem d_M_access_154 : decode b_M_access 154 = .ok (.getfield 36, 3) := by decide +kernel
theorem d_M_access_157 : decode b_M_access 157 = .ok (.iload 6, 2) := by decide +kernel
theorem d_M_access_159 : decode b_M_access 159 = .ok (.iaload, 1) := by decide +kernel
theorem d_M_access_160 : decode b_M_access 160 = .ok (.invokevirtual 101, 3) := by decide +kernel
theorem d_M_access_163 : decode b_M_access 163 = .ok (.goto 33, 3) := by decide +kernel
theorem d_M_access_166 : decode b_M_access 166 = .ok (.aload_n 0, 1) := by decide +kernel
theorem d_M_access_167 : decode b_M_access 167 = .ok (.iload_n 1, 1) := by decide +kernel
theorem d_M_access_168 : decode b_M_access 168 = .ok (.iload_n 2, 1) := by decide +kernel
theorem d_M_access_169 : decode b_M_access 169 = .ok (.invokevirtual 98, 3) := by decide +kernel
theorem d_M_access_172 : decode b_M_access 172 = .ok (.istore 4, 2) := by decide +kernel
theorem d_M_access_174 : decode b_M_access 174 = .ok (.aload_n 0, 1) := by decide +kernel
theorem d_M_access_175 : decode b_M_access 175 = .ok (.getfield 16, 3) := by decide +kernel
theorem d_M_access_178 : decode b_M_access 178 = .ok (.iload 4, 2) := by decide +kernel
theorem d_M_access_180 : decode b_M_access 180 = .ok (.iconst 1, 1) := by decide +kernel
theorem d_M_access_181 : decode b_M_access 181 = .ok (.bastore, 1) := by decide +kernel
theorem d_M_access_182 : decode b_M_access 182 = .ok (.aload_n 0, 1) := by decide +kernel
theorem d_M_access_183 : decode b_M_access 183 = .ok (.getfield 20, 3) := by decide +kernel
theorem d_M_access_186 : decode b_M_access 186 = .ok (.iload 4, 2) := by decide +kernel
theorem d_M_access_188 : decode b_M_access 188 = .ok (.aload_n 0, 1) := by decide +kernel
theorem d_M_access_189 : decode b_M_access 189 = .ok (.getfield 36, 3) := by decide +kernel
theorem d_M_access_192 : decode b_M_access 192 = .ok (.iload 6, 2) := by decide +kernel
theorem d_M_access_194 : decode b_M_access 194 = .ok (.iaload, 1) := by decide +kernel
theorem d_M_access_195 : decode b_M_access 195 = .ok (.iastore, 1) := by decide +kernel
theorem d_M_access_196 : decode b_M_access 196 = .ok (.iload 5, 2) := by decide +kernel
theorem d_M_access_198 : decode b_M_access 198 = .ok (.iconst 4, 1) := by decide +kernel
theorem d_M_access_199 : decode b_M_access 199 = .ok (.if_icmp .ne 7, 3) := by decide +kernel
theorem d_M_access_202 : decode b_M_access 202 = .ok (.iconst 3, 1) := by decide +kernel
theorem d_M_access_203 : decode b_M_access 203 = .ok (.goto 5, 3) := by decide +kernel
theorem d_M_access_206 : decode b_M_access 206 = .ok (.iload 5, 2) := by decide +kernel
theorem d_M_access_208 : decode b_M_access 208 = .ok (.ireturn, 1) := by decide +kernel
theorem d_M_quota_0 : decode b_M_quota 0 = .ok (.aload_n 0, 1) := by decide +kernel
theorem d_M_quota_1 : decode b_M_quota 1 = .ok (.iload_n 1, 1) := by decide +kernel
theorem d_M_quota_2 : decode b_M_quota 2 = .ok (.invokevirtual 145, 3) := by decide +kernel
theorem d_M_quota_5 : decode b_M_quota 5 = .ok (.ifCond .ne 5, 3) := by decide +kernel
theorem d_M_quota_8 : decode b_M_quota 8 = .ok (.iconst 0, 1) := by decide +kernel
theorem d_M_quota_9 : decode b_M_quota 9 = .ok (.ireturn, 1) := by decide +kernel
theorem d_M_quota_10 : decode b_M_quota 10 = .ok (.iload_n 2, 1) := by decide +kernel
theorem d_M_quota_11 : decode b_M_quota 11 = .ok (.iconst 0, 1) := by decide +kernel
theorem d_M_quota_12 : decode b_M_quota 12 = .ok (.iconst 4, 1) := by decide +kernel
theorem d_M_quota_13 : decode b_M_quota 13 = .ok (.invokestatic 64, 3) := by decide +kernel
theorem d_M_quota_16 : decode b_M_quota 16 = .ok (.ifCond .ne 9, 3) := by decide +kernel
theorem d_M_quota_19 : decode b_M_quota 19 = .ok (.aload_n 0, 1) := by decide +kernel
theorem d_M_quota_20 : decode b_M_quota 20 = .ok (.iconst 2, 1) := by decide +kernel
theorem d_M_quota_21 : decode b_M_quota 21 = .ok (.invokevirtual 148, 3) := by decide +kernel
theorem d_M_quota_24 : decode b_M_quota 24 = .ok (.ireturn, 1) := by decide +kernel
theorem d_M_quota_25 : decode b_M_quota 25 = .ok (.aload_n 0, 1) := by decide +kernel
theorem d_M_quota_26 : decode b_M_quota 26 = .ok (.getfield 26, 3) := by decide +kernel
theorem d_M_quota_29 : decode b_M_quota 29 = .ok (.iload_n 1, 1) := by decide +kernel
theorem d_M_quota_30 : decode b_M_quota 30 = .ok (.iaload, 1) := by decide +kernel
theorem d_M_quota_31 : decode b_M_quota 31 = .ok (.istore_n 3, 1) := by decide +kernel
theorem d_M_quota_32 : decode b_M_quota 32 = .ok (.aload_n 0, 1) := by decide +kernel
theorem d_M_quota_33 : decode b_M_quota 33 = .ok (.getfield 26, 3) := by decide +kernel
theorem d_M_quota_36 : decode b_M_quota 36 = .ok (.iload_n 1, 1) := by decide +kernel
theorem d_M_quota_37 : decode b_M_quota 37 = .ok (.iload_n 2, 1) := by decide +kernel
theorem d_M_quota_38 : decode b_M_quota 38 = .ok (.iastore, 1) := by decide +kernel
theorem d_M_quota_39 : decode b_M_quota 39 = .ok (.iload_n 3, 1) := by decide +kernel
theorem d_M_quota_40 : decode b_M_quota 40 = .ok (.ireturn, 1) := by decide +kernel
theorem d_M_bypass_0 : decode b_M_bypass 0 = .ok (.aload_n 0, 1) := by decide +kernel
theorem d_M_bypass_1 : decode b_M_bypass 1 = .ok (.iconst 0, 1) := by decide +kernel
theorem d_M_bypass_2 : decode b_M_bypass 2 = .ok (.putfield 61, 3) := by decide +kernel
theorem d_M_bypass_5 : decode b_M_bypass 5 = .ok (.aload_n 0, 1) := by decide +kernel
theorem d_M_bypass_6 : decode b_M_bypass 6 = .ok (.getfield 29, 3) := by decide +kernel
theorem d_M_bypass_9 : decode b_M_bypass 9 = .ok (.aload_n 0, 1) := by decide +kernel
theorem d_M_bypass_10 : decode b_M_bypass 10 = .ok (.getfield 104, 3) := by decide +kernel
theorem d_M_bypass_13 : decode b_M_bypass 13 = .ok (.if_icmp .gt 7, 3) := by decide +kernel
theorem d_M_bypass_16 : decode b_M_bypass 16 = .ok (.iconst 1, 1) := by decide +kernel
theorem d_M_bypass_17 : decode b_M_bypass 17 = .ok (.goto 4, 3) := by decide +kernel
theorem d_M_bypass_20 : decode b_M_bypass 20 = .ok (.iconst 0, 1) := by decide +kernel
theorem d_M_bypass_21 : decode b_M_bypass 21 = .ok (.istore_n 3, 1) := by decide +kernel
theorem d_M_bypass_22 : decode b_M_bypass 22 = .ok (.aload_n 0, 1) := by decide +kernel
theorem d_M_bypass_23 : decode b_M_bypass 23 = .ok (.iload_n 1, 1) := by decide +kernel
theorem d_M_bypass_24 : decode b_M_bypass 24 = .ok (.putfield 29, 3) := by decide +kernel
theorem d_M_bypass_27 : decode b_M_bypass 27 = .ok (.aload_n 0, 1) := by decide +kernel
theorem d_M_bypass_28 : decode b_M_bypass 28 = .ok (.iload_n 2, 1) := by decide +kernel
theorem d_M_bypass_29 : decode b_M_bypass 29 = .ok (.putfield 104, 3) := by decide +kernel
theorem d_M_bypass_32 : decode b_M_bypass 32 = .ok (.iload_n 3, 1) := by decide +kernel
theorem d_M_bypass_33 : decode b_M_bypass 33 = .ok (.ireturn, 1) := by decide +kernel
theorem d_M_isWrittenInFirst_0 : decode b_M_isWrittenInFirst 0 = .ok (.iconst 0, 1) := by decide +kernel
theorem d_M_isWrittenInFirst_1 : decode b_M_isWrittenInFirst 1 = .ok (.istore_n 2, 1) := by decide +kernel
theorem d_M_isWrittenInFirst_2 : decode b_M_isWrittenInFirst 2 = .ok (.iconst 0, 1) := by decide +kernel
theorem d_M_isWrittenInFirst_3 : decode b_M_isWrittenInFirst 3 = .ok (.istore_n 3, 1) := by decide +kernel
theorem d_M_isWrittenInFirst_4 : decode b_M_isWrittenInFirst 4 = .ok (.iload_n 3, 1) := by decide +kernel
theorem d_M_isWrittenInFirst_5 : decode b_M_isWrittenInFirst 5 = .ok (.aload_n 0, 1) := by decide +kernel
theorem d_M_isWrittenInFirst_6 : decode b_M_isWrittenInFirst 6 = .ok (.getfield 45, 3) := by decide +kernel
theorem d_M_isWrittenInFirst_9 : decode b_M_isWrittenInFirst 9 = .ok (.if_icmp .ge 42, 3) := by decide +kernel
theorem d_M_isWrittenInFirst_12 : decode b_M_isWrittenInFirst 12 = .ok (.iload_n 2, 1) := by decide +kernel
theorem d_M_isWrittenInFirst_13 : decode b_M_isWrittenInFirst 13 = .ok (.ifCond .ne 26, 3) := by decide +kernel
theorem d_M_isWrittenInFirst_16 : decode b_M_isWrittenInFirst 16 = .ok (.aload_n 0, 1) := by decide +kernel
theorem d_M_isWrittenInFirst_17 : decode b_M_isWrittenInFirst 17 = .ok (.iload_n 3, 1) := by decide +kernel
theorem d_M_isWrittenInFirst_18 : decode b_M_isWrittenInFirst 18 = .ok (.iload_n 1, 1) := by decide +kernel
theorem d_M_isWrittenInFirst_19 : decode b_M_isWrittenInFirst 19 = .ok (.invokevirtual 98, 3) := by decide +kernel
theorem d_M_isWrittenInFirst_22 : decode b_M_isWrittenInFirst 22 = .ok (.ifCond .lt 21, 3) := by decide +kernel
theorem d_M_isWrittenInFirst_25 : decode b_M_isWrittenInFirst 25 = .ok (.aload_n 0, 1) := by decide +kernel
theorem d_M_isWrittenInFirst_26 : decode b_M_isWrittenInFirst 26 = .ok (.getfield 16, 3) := by decide +kernel
theorem d_M_isWrittenInFirst_29 : decode b_M_isWrittenInFirst 29 = .ok (.aload_n 0, 1) := by decide +kernel
theorem d_M_isWrittenInFirst_30 : decode b_M_isWrittenInFirst 30 = .ok (.iload_n 3, 1) := by decide +kernel
theorem d_M_isWrittenInFirst_31 : decode b_M_isWrittenInFirst 31 = .ok (.iload_n 1, 1) := by decide +kernel
theorem d_M_isWrittenInFirst_32 : decode b_M_isWrittenInFirst 32 = .ok (.invokevirtual 98, 3) := by decide +kernel
theorem d_M_isWrittenInFirst_35 : decode b_M_isWrittenInFirst 35 = .ok (.baload, 1) := by decide +kernel
theorem d_M_isWrittenInFirst_36 : decode b_M_isWrittenInFirst 36 = .ok (.ifCond .eq 7, 3) := by decide +kernel
theorem d_M_isWrittenInFirst_39 : decode b_M_isWrittenInFirst 39 = .ok (.iconst 1, 1) := by decide +kernel
theorem d_M_isWrittenInFirst_40 : decode b_M_isWrittenInFirst 40 = .ok (.goto 4, 3) := by decide +kernel
theorem d_M_isWrittenInFirst_43 : decode b_M_isWrittenInFirst 43 = .ok (.iconst 0, 1) := by decide +kernel
theorem d_M_isWrittenInFirst_44 : decode b_M_isWrittenInFirst 44 = .ok (.istore_n 2, 1) := by decide +kernel
theorem d_M_isWrittenInFirst_45 : decode b_M_isWrittenInFirst 45 = .ok (.iinc 3 1, 3) := by decide +kernel
theorem d_M_isWrittenInFirst_48 : decode b_M_isWrittenInFirst 48 = .ok (.goto (-44), 3) := by decide +kernel
theorem d_M_isWrittenInFirst_51 : decode b_M_isWrittenInFirst 51 = .ok (.iload_n 2, 1) := by decide +kernel
theorem d_M_isWrittenInFirst_52 : decode b_M_isWrittenInFirst 52 = .ok (.ireturn, 1) := by decide +kernel
theorem d_M_flush_0 : decode b_M_flush 0 = .ok (.aload_n 0, 1) := by decide +kernel
theorem d_M_flush_1 : decode b_M_flush 1 = .ok (.iconst 0, 1) := by decide +kernel
theorem d_M_flush_2 : decode b_M_flush 2 = .ok (.putfield 61, 3) := by decide +kernel
theorem d_M_flush_5 : decode b_M_flush 5 = .ok (.aload_n 0, 1) := by decide +kernel
theorem d_M_flush_6 : decode b_M_flush 6 = .ok (.getfield 95, 3) := by decide +kernel
theorem d_M_flush_9 : decode b_M_flush 9 = .ok (.istore_n 1, 1) := by decide +kernel
theorem d_M_flush_10 : decode b_M_flush 10 = .ok (.sipush 256, 3) := by decide +kernel
theorem d_M_flush_13 : decode b_M_flush 13 = .ok (.istore_n 2, 1) := by decide +kernel
theorem d_M_flush_14 : decode b_M_flush 14 = .ok (.iload_n 2, 1) := by decide +kernel
theorem d_M_flush_15 : decode b_M_flush 15 = .ok (.sipush 256, 3) := by decide +kernel
theorem d_M_flush_18 : decode b_M_flush 18 = .ok (.aload_n 0, 1) := by decide +kernel
theorem d_M_flush_19 : decode b_M_flush 19 = .ok (.getfield 7, 3) := by decide +kernel
theorem d_M_flush_22 : decode b_M_flush 22 = .ok (.iconst 4, 1) := by decide +kernel
theorem d_M_flush_23 : decode b_M_flush 23 = .ok (.iaload, 1) := by decide +kernel
theorem d_M_flush_24 : decode b_M_flush 24 = .ok (.iadd, 1) := by decide +kernel
theorem d_M_flush_25 : decode b_M_flush 25 = .ok (.if_icmp .ge 47, 3) := by decide +kernel
theorem d_M_flush_28 : decode b_M_flush 28 = .ok (.aload_n 0, 1) := by decide +kernel
theorem d_M_flush_29 : decode b_M_flush 29 = .ok (.getfield 16, 3) := by decide +kernel
theorem d_M_flush_32 : decode b_M_flush 32 = .ok (.iload_n 2, 1) := by decide +kernel
theorem d_M_flush_33 : decode b_M_flush 33 = .ok (.baload, 1) := by decide +kernel
theorem d_M_flush_34 : decode b_M_flush 34 = .ok (.ifCond .eq 32, 3) := by decide +kernel
theorem d_M_flush_37 : decode b_M_flush 37 = .ok (.aload_n 0, 1) := by decide +kernel
theorem d_M_flush_38 : decode b_M_flush 38 = .ok (.aload_n 0, 1) := by decide +kernel
theorem d_M_flush_39 : decode b_M_flush 39 = .ok (.getfield 13, 3) := by decide +kernel
theorem d_M_flush_42 : decode b_M_flush 42 = .ok (.iload_n 2, 1) := by decide +kernel
theorem d_M_flush_43 : decode b_M_flush 43 = .ok (.iaload, 1) := by decide +kernel
theorem d_M_flush_44 : decode b_M_flush 44 = .ok (.invokevirtual 157, 3) := by decide +kernel
theorem d_M_flush_47 : decode b_M_flush 47 = .ok (.ifCond .ne 19, 3) := by decide +kernel
theorem d_M_flush_50 : decode b_M_flush 50 = .ok (.aload_n 0, 1) := by decide +kernel
theorem d_M_flush_51 : decode b_M_flush 51 = .ok (.aload_n 0, 1) := by decide +kernel
theorem d_M_flush_52 : decode b_M_flush 52 = .ok (.getfield 13, 3) := by decide +kernel
theorem d_M_flush_55 : decode b_M_flush 55 = .ok (.iload_n 2, 1) := by decide +kernel
theorem d_M_flush_56 : decode b_M_flush 56 = .ok (.iaload, 1) := by decide +kernel
theorem d_M_flush_57 : decode b_M_flush 57 = .ok (.aload_n 0, 1) := by decide +kernel
theorem d_M_flush_58 : decode b_M_flush 58 = .ok (.getfield 20, 3) := by decide +kernel
theorem d_M_flush_61 : decode b_M_flush 61 = .ok (.iload_n 2, 1) := by decide +kernel
theorem d_M_flush_62 : decode b_M_flush 62 = .ok (.iaload, 1) := by decide +kernel
theorem d_M_flush_63 : decode b_M_flush 63 = .ok (.invokevirtual 101, 3) := by decide +kernel
theorem d_M_flush_66 : decode b_M_flush 66 = .ok (.iinc 2 1, 3) := by decide +kernel
theorem d_M_flush_69 : decode b_M_flush 69 = .ok (.goto (-55), 3) := by decide +kernel
theorem d_M_flush_72 : decode b_M_flush 72 = .ok (.iconst 0, 1) := by decide +kernel
theorem d_M_flush_73 : decode b_M_flush 73 = .ok (.istore_n 2, 1) := by decide +kernel
theorem d_M_flush_74 : decode b_M_flush 74 = .ok (.iload_n 2, 1) := by decide +kernel
theorem d_M_flush_75 : decode b_M_flush 75 = .ok (.aload_n 0, 1) := by decide +kernel
theorem d_M_flush_76 : decode b_M_flush 76 = .ok (.getfield 45, 3) := by decide +kernel
theorem d_M_flush_79 : decode b_M_flush 79 = .ok (.if_icmp .ge 60, 3) := by decide +kernel
theorem d_M_flush_82 : decode b_M_flush 82 = .ok (.bipush 64, 2) := by decide +kernel
theorem d_M_flush_84 : decode b_M_flush 84 = .ok (.iload_n 2, 1) := by decide +kernel
theorem d_M_flush_85 : decode b_M_flush 85 = .ok (.imul, 1) := by decide +kernel
theorem d_M_flush_86 : decode b_M_flush 86 = .ok (.istore_n 3, 1) := by decide +kernel
theorem d_M_flush_87 : decode b_M_flush 87 = .ok (.iload_n 3, 1) := by decide +kernel
theorem d_M_flush_88 : decode b_M_flush 88 = .ok (.bipush 64, 2) := by decide +kernel
theorem d_M_flush_90 : decode b_M_flush 90 = .ok (.iload_n 2, 1) := by decide +kernel
theorem d_M_flush_91 : decode b_M_flush 91 = .ok (.imul, 1) := by decide +kernel
theorem d_M_flush_92 : decode b_M_flush 92 = .ok (.aload_n 0, 1) := by decide +kernel
theorem d_M_flush_93 : decode b_M_flush 93 = .ok (.getfield 7, 3) := by decide +kernel
theorem d_M_flush_96 : decode b_M_flush 96 = .ok (.iload_n 2, 1) := by decide +kernel
theorem d_M_flush_97 : decode b_M_flush 97 = .ok (.iaload, 1) := by decide +kernel
theorem d_M_flush_98 : decode b_M_flush 98 = .ok (.iadd, 1) := by decide +kernel
theorem d_M_flush_99 : decode b_M_flush 99 = .ok (.if_icmp .ge 34, 3) := by decide +kernel
theorem d_M_flush_102 : decode b_M_flush 102 = .ok (.aload_n 0, 1) := by decide +kernel
theorem d_M_flush_103 : decode b_M_flush 103 = .ok (.getfield 16, 3) := by decide +kernel
theorem d_M_flush_106 : decode b_M_flush 106 = .ok (.iload_n 3, 1) := by decide +kernel
theorem d_M_flush_107 : decode b_M_flush 107 = .ok (.baload, 1) := by decide +kernel
theorem d_M_flush_108 : decode b_M_flush 108 = .ok (.ifCond .eq 19, 3) := by decide +kernel
theorem d_M_flush_111 : decode b_M_flush 111 = .ok (.aload_n 0, 1) := by decide +kernel
theorem d_M_flush_112 : decode b_M_flush 112 = .ok (.aload_n 0, 1) := by decide +kernel
theorem d_M_flush_113 : decode b_M_flush 113 = .ok (.getfield 13, 3) := by decide +kernel
theorem d_M_flush_116 : decode b_M_flush 116 = .ok (.iload_n 3, 1) := by decide +kernel
theorem d_M_flush_117 : decode b_M_flush 117 = .ok (.iaload, 1) := by decide +kernel
theorem d_M_flush_118 : decode b_M_flush 118 = .ok (.aload_n 0, 1) := by decide +kernel
theorem d_M_flush_119 : decode b_M_flush 119 = .ok (.getfield 20, 3) := by decide +kernel
theorem d_M_flush_122 : decode b_M_flush 122 = .ok (.iload_n 3, 1) := by decide +kernel
theorem d_M_flush_123 : decode b_M_flush 123 = .ok (.iaload, 1) := by decide +kernel
theorem d_M_flush_124 : decode b_M_flush 124 = .ok (.invokevirtual 101, 3) := by decide +kernel
theorem d_M_flush_127 : decode b_M_flush 127 = .ok (.iinc 3 1, 3) := by decide +kernel
theorem d_M_flush_130 : decode b_M_flush 130 = .ok (.goto (-43), 3) := by decide +kernel
theorem d_M_flush_133 : decode b_M_flush 133 = .ok (.iinc 2 1, 3) := by decide +kernel
theorem d_M_flush_136 : decode b_M_flush 136 = .ok (.goto (-62), 3) := by decide +kernel
theorem d_M_flush_139 : decode b_M_flush 139 = .ok (.iconst 0, 1) := by decide +kernel
theorem d_M_flush_140 : decode b_M_flush 140 = .ok (.istore_n 2, 1) := by decide +kernel
theorem d_M_flush_141 : decode b_M_flush 141 = .ok (.iload_n 2, 1) := by decide +kernel
theorem d_M_flush_142 : decode b_M_flush 142 = .ok (.iconst 5, 1) := by decide +kernel
theorem d_M_flush_143 : decode b_M_flush 143 = .ok (.if_icmp .ge 16, 3) := by decide +kernel
theorem d_M_flush_146 : decode b_M_flush 146 = .ok (.aload_n 0, 1) := by decide +kernel
theorem d_M_flush_147 : decode b_M_flush 147 = .ok (.getfield 7, 3) := by decide +kernel
theorem d_M_flush_150 : decode b_M_flush 150 = .ok (.iload_n 2, 1) := by decide +kernel
theorem d_M_flush_151 : decode b_M_flush 151 = .ok (.iconst 0, 1) := by decide +kernel
theorem d_M_flush_152 : decode b_M_flush 152 = .ok (.iastore, 1) := by decide +kernel
theorem d_M_flush_153 : decode b_M_flush 153 = .ok (.iinc 2 1, 3) := by decide +kernel
theorem d_M_flush_156 : decode b_M_flush 156 = .ok (.goto (-15), 3) := by decide +kernel
theorem d_M_flush_159 : decode b_M_flush 159 = .ok (.aload_n 0, 1) := by decide +kernel
theorem d_M_flush_160 : decode b_M_flush 160 = .ok (.getfield 95, 3) := by decide +kernel
theorem d_M_flush_163 : decode b_M_flush 163 = .ok (.iload_n 1, 1) := by decide +kernel
theorem d_M_flush_164 : decode b_M_flush 164 = .ok (.isub, 1) := by decide +kernel
theorem d_M_flush_165 : decode b_M_flush 165 = .ok (.ireturn, 1) := by decide +kernel
theorem d_M_cacheOf_0 : decode b_M_cacheOf 0 = .ok (.iload_n 1, 1) := by decide +kernel
theorem d_M_cacheOf_1 : decode b_M_cacheOf 1 = .ok (.iconst (-1), 1) := by decide +kernel
theorem d_M_cacheOf_2 : decode b_M_cacheOf 2 = .ok (.if_icmp .ne 7, 3) := by decide +kernel
theorem d_M_cacheOf_5 : decode b_M_cacheOf 5 = .ok (.iconst 4, 1) := by decide +kernel
theorem d_M_cacheOf_6 : decode b_M_cacheOf 6 = .ok (.goto 23, 3) := by decide +kernel
theorem d_M_cacheOf_9 : decode b_M_cacheOf 9 = .ok (.iload_n 1, 1) := by decide +kernel
theorem d_M_cacheOf_10 : decode b_M_cacheOf 10 = .ok (.iconst 0, 1) := by decide +kernel
theorem d_M_cacheOf_11 : decode b_M_cacheOf 11 = .ok (.aload_n 0, 1) := by decide +kernel
theorem d_M_cacheOf_12 : decode b_M_cacheOf 12 = .ok (.getfield 45, 3) := by decide +kernel
theorem d_M_cacheOf_15 : decode b_M_cacheOf 15 = .ok (.iconst 1, 1) := by decide +kernel
theorem d_M_cacheOf_16 : decode b_M_cacheOf 16 = .ok (.isub, 1) := by decide +kernel
theorem d_M_cacheOf_17 : decode b_M_cacheOf 17 = .ok (.invokestatic 64, 3) := by decide +kernel
theorem d_M_cacheOf_20 : decode b_M_cacheOf 20 = .ok (.ifCond .eq 7, 3) := by decide +kernel
theorem d_M_cacheOf_23 : decode b_M_cacheOf 23 = .ok (.iload_n 1, 1) := by decide +kernel
theorem d_M_cacheOf_24 : decode b_M_cacheOf 24 = .ok (.goto 5, 3) := by decide +kernel
theorem d_M_cacheOf_27 : decode b_M_cacheOf 27 = .ok (.bipush (-2), 2) := by decide +kernel
theorem d_M_cacheOf_29 : decode b_M_cacheOf 29 = .ok (.istore_n 2, 1) := by decide +kernel
theorem d_M_cacheOf_30 : decode b_M_cacheOf 30 = .ok (.aload_n 0, 1) := by decide +kernel
theorem d_M_cacheOf_31 : decode b_M_cacheOf 31 = .ok (.iload_n 2, 1) := by decide +kernel
theorem d_M_cacheOf_32 : decode b_M_cacheOf 32 = .ok (.bipush (-2), 2) := by decide +kernel
theorem d_M_cacheOf_34 : decode b_M_cacheOf 34 = .ok (.if_icmp .ne 7, 3) := by decide +kernel
theorem d_M_cacheOf_37 : decode b_M_cacheOf 37 = .ok (.iconst 1, 1) := by decide +kernel
theorem d_M_cacheOf_38 : decode b_M_cacheOf 38 = .ok (.goto 4, 3) := by decide +kernel
theorem d_M_cacheOf_41 : decode b_M_cacheOf 41 = .ok (.iconst 0, 1) := by decide +kernel
theorem d_M_cacheOf_42 : decode b_M_cacheOf 42 = .ok (.putfield 61, 3) := by decide +kernel
theorem d_M_cacheOf_45 : decode b_M_cacheOf 45 = .ok (.iload_n 2, 1) := by decide +kernel
theorem d_M_cacheOf_46 : decode b_M_cacheOf 46 = .ok (.ireturn, 1) := by decide +kernel
theorem d_M_holds_0 : decode b_M_holds 0 = .ok (.aload_n 0, 1) := by decide +kernel
theorem d_M_holds_1 : decode b_M_holds 1 = .ok (.iload_n 1, 1) := by decide +kernel
theorem d_M_holds_2 : decode b_M_holds 2 = .ok (.invokevirtual 160, 3) := by decide +kernel
theorem d_M_holds_5 : decode b_M_holds 5 = .ok (.istore_n 3, 1) := by decide +kernel
theorem d_M_holds_6 : decode b_M_holds 6 = .ok (.iload_n 3, 1) := by decide +kernel
theorem d_M_holds_7 : decode b_M_holds 7 = .ok (.ifCond .ge 7, 3) := by decide +kernel
theorem d_M_holds_10 : decode b_M_holds 10 = .ok (.iconst (-1), 1) := by decide +kernel
theorem d_M_holds_11 : decode b_M_holds 11 = .ok (.goto 9, 3) := by decide +kernel
theorem d_M_holds_14 : decode b_M_holds 14 = .ok (.aload_n 0, 1) := by decide +kernel
theorem d_M_holds_15 : decode b_M_holds 15 = .ok (.iload_n 3, 1) := by decide +kernel
theorem d_M_holds_16 : decode b_M_holds 16 = .ok (.iload_n 2, 1) := by decide +kernel
theorem d_M_holds_17 : decode b_M_holds 17 = .ok (.invokevirtual 98, 3) := by decide +kernel
theorem d_M_holds_20 : decode b_M_holds 20 = .ok (.istore 4, 2) := by decide +kernel
theorem d_M_holds_22 : decode b_M_holds 22 = .ok (.iload 4, 2) := by decide +kernel
theorem d_M_holds_24 : decode b_M_holds 24 = .ok (.ifCond .ge 7, 3) := by decide +kernel
theorem d_M_holds_27 : decode b_M_holds 27 = .ok (.iconst 0, 1) := by decide +kernel
theorem d_M_holds_28 : decode b_M_holds 28 = .ok (.goto 18, 3) := by decide +kernel
theorem d_M_holds_31 : decode b_M_holds 31 = .ok (.aload_n 0, 1) := by decide +kernel
theorem d_M_holds_32 : decode b_M_holds 32 = .ok (.getfield 16, 3) := by decide +kernel
theorem d_M_holds_35 : decode b_M_holds 35 = .ok (.iload 4, 2) := by decide +kernel
theorem d_M_holds_37 : decode b_M_holds 37 = .ok (.baload, 1) := by decide +kernel
theorem d_M_holds_38 : decode b_M_holds 38 = .ok (.ifCond .eq 7, 3) := by decide +kernel
theorem d_M_holds_41 : decode b_M_holds 41 = .ok (.iconst 2, 1) := by decide +kernel
theorem d_M_holds_42 : decode b_M_holds 42 = .ok (.goto 4, 3) := by decide +kernel
theorem d_M_holds_45 : decode b_M_holds 45 = .ok (.iconst 1, 1) := by decide +kernel
theorem d_M_holds_46 : decode b_M_holds 46 = .ok (.ireturn, 1) := by decide +kernel
theorem d_M_version_0 : decode b_M_version 0 = .ok (.aload_n 0, 1) := by decide +kernel
theorem d_M_version_1 : decode b_M_version 1 = .ok (.iload_n 1, 1) := by decide +kernel
theorem d_M_version_2 : decode b_M_version 2 = .ok (.invokevirtual 145, 3) := by decide +kernel
theorem d_M_version_5 : decode b_M_version 5 = .ok (.ifCond .ne 5, 3) := by decide +kernel
theorem d_M_version_8 : decode b_M_version 8 = .ok (.iconst 0, 1) := by decide +kernel
theorem d_M_version_9 : decode b_M_version 9 = .ok (.ireturn, 1) := by decide +kernel
theorem d_M_version_10 : decode b_M_version 10 = .ok (.aload_n 0, 1) := by decide +kernel
theorem d_M_version_11 : decode b_M_version 11 = .ok (.iload_n 1, 1) := by decide +kernel
theorem d_M_version_12 : decode b_M_version 12 = .ok (.iload_n 2, 1) := by decide +kernel
theorem d_M_version_13 : decode b_M_version 13 = .ok (.invokevirtual 98, 3) := by decide +kernel
theorem d_M_version_16 : decode b_M_version 16 = .ok (.istore_n 3, 1) := by decide +kernel
theorem d_M_version_17 : decode b_M_version 17 = .ok (.iconst 0, 1) := by decide +kernel
theorem d_M_version_18 : decode b_M_version 18 = .ok (.istore 4, 2) := by decide +kernel
theorem d_M_version_20 : decode b_M_version 20 = .ok (.iload 4, 2) := by decide +kernel
theorem d_M_version_22 : decode b_M_version 22 = .ok (.aload_n 0, 1) := by decide +kernel
theorem d_M_version_23 : decode b_M_version 23 = .ok (.getfield 45, 3) := by decide +kernel
theorem d_M_version_26 : decode b_M_version 26 = .ok (.if_icmp .ge 50, 3) := by decide +kernel
theorem d_M_version_29 : decode b_M_version 29 = .ok (.iload_n 3, 1) := by decide +kernel
theorem d_M_version_30 : decode b_M_version 30 = .ok (.ifCond .ge 46, 3) := by decide +kernel
theorem d_M_version_33 : decode b_M_version 33 = .ok (.aload_n 0, 1) := by decide +kernel
theorem d_M_version_34 : decode b_M_version 34 = .ok (.iload 4, 2) := by decide +kernel
theorem d_M_version_36 : decode b_M_version 36 = .ok (.iload_n 2, 1) := by decide +kernel
theorem d_M_version_37 : decode b_M_version 37 = .ok (.invokevirtual 98, 3) := by decide +kernel
theorem d_M_version_40 : decode b_M_version 40 = .ok (.ifCond .lt 28, 3) := by decide +kernel
theorem d_M_version_43 : decode b_M_version 43 = .ok (.aload_n 0, 1) := by decide +kernel
theorem d_M_version_44 : decode b_M_version 44 = .ok (.getfield 16, 3) := by decide +kernel
theorem d_M_version_47 : decode b_M_version 47 = .ok (.aload_n 0, 1) := by decide +kernel
theorem d_M_version_48 : decode b_M_version 48 = .ok (.iload 4, 2) := by decide +kernel
theorem d_M_version_50 : decode b_M_version 50 = .ok (.iload_n 2, 1) := by decide +kernel
theorem d_M_version_51 : decode b_M_version 51 = .ok (.invokevirtual 98, 3) := by decide +kernel
theorem d_M_version_54 : decode b_M_version 54 = .ok (.baload, 1) := by decide +kernel
theorem d_M_version_55 : decode b_M_version 55 = .ok (.ifCond .eq 13, 3) := by decide +kernel
theorem d_M_version_58 : decode b_M_version 58 = .ok (.aload_n 0, 1) := by decide +kernel
theorem d_M_version_59 : decode b_M_version 59 = .ok (.iload 4, 2) := by decide +kernel
theorem d_M_version_61 : decode b_M_version 61 = .ok (.iload_n 2, 1) := by decide +kernel
theorem d_M_version_62 : decode b_M_version 62 = .ok (.invokevirtual 98, 3) := by decide +kernel
theorem d_M_version_65 : decode b_M_version 65 = .ok (.goto 4, 3) := by decide +kernel
theorem d_M_version_68 : decode b_M_version 68 = .ok (.iconst (-1), 1) := by decide +kernel
theorem d_M_version_69 : decode b_M_version 69 = .ok (.istore_n 3, 1) := by decide +kernel
theorem d_M_version_70 : decode b_M_version 70 = .ok (.iinc 4 1, 3) := by decide +kernel
theorem d_M_version_73 : decode b_M_version 73 = .ok (.goto (-53), 3) := by decide +kernel
theorem d_M_version_76 : decode b_M_version 76 = .ok (.iload_n 3, 1) := by decide +kernel
theorem d_M_version_77 : decode b_M_version 77 = .ok (.ifCond .ge 10, 3) := by decide +kernel
theorem d_M_version_80 : decode b_M_version 80 = .ok (.aload_n 0, 1) := by decide +kernel
theorem d_M_version_81 : decode b_M_version 81 = .ok (.iconst 4, 1) := by decide +kernel
theorem d_M_version_82 : decode b_M_version 82 = .ok (.iload_n 2, 1) := by decide +kernel
theorem d_M_version_83 : decode b_M_version 83 = .ok (.invokevirtual 98, 3) := by decide +kernel
theorem d_M_version_86 : decode b_M_version 86 = .ok (.istore_n 3, 1) := by decide +kernel
theorem d_M_version_87 : decode b_M_version 87 = .ok (.iload_n 3, 1) := by decide +kernel
theorem d_M_version_88 : decode b_M_version 88 = .ok (.ifCond .ge 11, 3) := by decide +kernel
theorem d_M_version_91 : decode b_M_version 91 = .ok (.aload_n 0, 1) := by decide +kernel
theorem d_M_version_92 : decode b_M_version 92 = .ok (.iload_n 2, 1) := by decide +kernel
theorem d_M_version_93 : decode b_M_version 93 = .ok (.invokevirtual 142, 3) := by decide +kernel
theorem d_M_version_96 : decode b_M_version 96 = .ok (.goto 9, 3) := by decide +kernel
theorem d_M_version_99 : decode b_M_version 99 = .ok (.aload_n 0, 1) := by decide +kernel
theorem d_M_version_100 : decode b_M_version 100 = .ok (.getfield 20, 3) := by decide +kernel
theorem d_M_version_103 : decode b_M_version 103 = .ok (.iload_n 3, 1) := by decide +kernel
theorem d_M_version_104 : decode b_M_version 104 = .ok (.iaload, 1) := by decide +kernel
theorem d_M_version_105 : decode b_M_version 105 = .ok (.ireturn, 1) := by decide +kernel
theorem d_M_memory_0 : decode b_M_memory 0 = .ok (.aload_n 0, 1) := by decide +kernel
theorem d_M_memory_1 : decode b_M_memory 1 = .ok (.iconst 0, 1) := by decide +kernel
theorem d_M_memory_2 : decode b_M_memory 2 = .ok (.putfield 61, 3) := by decide +kernel
theorem d_M_memory_5 : decode b_M_memory 5 = .ok (.aload_n 0, 1) := by decide +kernel
theorem d_M_memory_6 : decode b_M_memory 6 = .ok (.iload_n 1, 1) := by decide +kernel
theorem d_M_memory_7 : decode b_M_memory 7 = .ok (.invokevirtual 142, 3) := by decide +kernel
theorem d_M_memory_10 : decode b_M_memory 10 = .ok (.ireturn, 1) := by decide +kernel
theorem d_M_line_0 : decode b_M_line 0 = .ok (.aload_n 0, 1) := by decide +kernel
theorem d_M_line_1 : decode b_M_line 1 = .ok (.iload_n 1, 1) := by decide +kernel
theorem d_M_line_2 : decode b_M_line 2 = .ok (.invokevirtual 160, 3) := by decide +kernel
theorem d_M_line_5 : decode b_M_line 5 = .ok (.istore 4, 2) := by decide +kernel
theorem d_M_line_7 : decode b_M_line 7 = .ok (.iload 4, 2) := by decide +kernel
theorem d_M_line_9 : decode b_M_line 9 = .ok (.ifCond .ge 5, 3) := by decide +kernel
theorem d_M_line_12 : decode b_M_line 12 = .ok (.iconst 0, 1) := by decide +kernel
theorem d_M_line_13 : decode b_M_line 13 = .ok (.ireturn, 1) := by decide +kernel
theorem d_M_line_14 : decode b_M_line 14 = .ok (.iload_n 2, 1) := by decide +kernel
theorem d_M_line_15 : decode b_M_line 15 = .ok (.iconst 0, 1) := by decide +kernel
theorem d_M_line_16 : decode b_M_line 16 = .ok (.aload_n 0, 1) := by decide +kernel
theorem d_M_line_17 : decode b_M_line 17 = .ok (.iload 4, 2) := by decide +kernel
theorem d_M_line_19 : decode b_M_line 19 = .ok (.invokevirtual 75, 3) := by decide +kernel
theorem d_M_line_22 : decode b_M_line 22 = .ok (.iconst 1, 1) := by decide +kernel
theorem d_M_line_23 : decode b_M_line 23 = .ok (.isub, 1) := by decide +kernel
theorem d_M_line_24 : decode b_M_line 24 = .ok (.invokestatic 64, 3) := by decide +kernel
theorem d_M_line_27 : decode b_M_line 27 = .ok (.ifCond .ne 9, 3) := by decide +kernel
theorem d_M_line_30 : decode b_M_line 30 = .ok (.aload_n 0, 1) := by decide +kernel
theorem d_M_line_31 : decode b_M_line 31 = .ok (.iconst 1, 1) := by decide +kernel
theorem d_M_line_32 : decode b_M_line 32 = .ok (.invokevirtual 148, 3) := by decide +kernel
theorem d_M_line_35 : decode b_M_line 35 = .ok (.ireturn, 1) := by decide +kernel
theorem d_M_line_36 : decode b_M_line 36 = .ok (.iconst 0, 1) := by decide +kernel
theorem d_M_line_37 : decode b_M_line 37 = .ok (.istore 5, 2) := by decide +kernel
theorem d_M_line_39 : decode b_M_line 39 = .ok (.bipush 64, 2) := by decide +kernel
theorem d_M_line_41 : decode b_M_line 41 = .ok (.iload 4, 2) := by decide +kernel
theorem d_M_line_43 : decode b_M_line 43 = .ok (.imul, 1) := by decide +kernel
theorem d_M_line_44 : decode b_M_line 44 = .ok (.istore 6, 2) := by decide +kernel
theorem d_M_line_46 : decode b_M_line 46 = .ok (.iload 6, 2) := by decide +kernel
theorem d_M_line_48 : decode b_M_line 48 = .ok (.bipush 64, 2) := by decide +kernel
theorem d_M_line_50 : decode b_M_line 50 = .ok (.iload 4, 2) := by decide +kernel
theorem d_M_line_52 : decode b_M_line 52 = .ok (.imul, 1) := by decide +kernel
theorem d_M_line_53 : decode b_M_line 53 = .ok (.aload_n 0, 1) := by decide +kernel
theorem d_M_line_54 : decode b_M_line 54 = .ok (.getfield 7, 3) := by decide +kernel
theorem d_M_line_57 : decode b_M_line 57 = .ok (.iload 4, 2) := by decide +kernel
theorem d_M_line_59 : decode b_M_line 59 = .ok (.iaload, 1) := by decide +kernel
theorem d_M_line_60 : decode b_M_line 60 = .ok (.iadd, 1) := by decide +kernel
theorem d_M_line_61 : decode b_M_line 61 = .ok (.if_icmp .ge 43, 3) := by decide +kernel
theorem d_M_line_64 : decode b_M_line 64 = .ok (.aload_n 0, 1) := by decide +kernel
theorem d_M_line_65 : decode b_M_line 65 = .ok (.iload 4, 2) := by decide +kernel
theorem d_M_line_67 : decode b_M_line 67 = .ok (.aload_n 0, 1) := by decide +kernel
theorem d_M_line_68 : decode b_M_line 68 = .ok (.getfield 13, 3) := by decide +kernel
theorem d_M_line_71 : decode b_M_line 71 = .ok (.iload 6, 2) := by decide +kernel
theorem d_M_line_73 : decode b_M_line 73 = .ok (.iaload, 1) := by decide +kernel
theorem d_M_line_74 : decode b_M_line 74 = .ok (.invokevirtual 89, 3) := by decide +kernel
theorem d_M_line_77 : decode b_M_line 77 = .ok (.iload_n 2, 1) := by decide +kernel
theorem d_M_line_78 : decode b_M_line 78 = .ok (.if_icmp .ne 20, 3) := by decide +kernel
theorem d_M_line_81 : decode b_M_line 81 = .ok (.iload 5, 2) := by decide +kernel
theorem d_M_line_83 : decode b_M_line 83 = .ok (.iload_n 3, 1) := by decide +kernel
theorem d_M_line_84 : decode b_M_line 84 = .ok (.if_icmp .ne 11, 3) := by decide +kernel
theorem d_M_line_87 : decode b_M_line 87 = .ok (.aload_n 0, 1) := by decide +kernel
theorem d_M_line_88 : decode b_M_line 88 = .ok (.getfield 13, 3) := by decide +kernel
theorem d_M_line_91 : decode b_M_line 91 = .ok (.iload 6, 2) := by decide +kernel
theorem d_M_line_93 : decode b_M_line 93 = .ok (.iaload, 1) := by decide +kernel
theorem d_M_line_94 : decode b_M_line 94 = .ok (.ireturn, 1) := by decide +kernel
theorem d_M_line_95 : decode b_M_line 95 = .ok (.iinc 5 1, 3) := by decide +kernel
theorem d_M_line_98 : decode b_M_line 98 = .ok (.iinc 6 1, 3) := by decide +kernel
theorem d_M_line_101 : decode b_M_line 101 = .ok (.goto (-55), 3) := by decide +kernel
theorem d_M_line_104 : decode b_M_line 104 = .ok (.aload_n 0, 1) := by decide +kernel
theorem d_M_line_105 : decode b_M_line 105 = .ok (.iconst 1, 1) := by decide +kernel
theorem d_M_line_106 : decode b_M_line 106 = .ok (.invokevirtual 148, 3) := by decide +kernel
theorem d_M_line_109 : decode b_M_line 109 = .ok (.ireturn, 1) := by decide +kernel
theorem d_M_owner_0 : decode b_M_owner 0 = .ok (.aload_n 0, 1) := by decide +kernel
theorem d_M_owner_1 : decode b_M_owner 1 = .ok (.iconst 0, 1) := by decide +kernel
theorem d_M_owner_2 : decode b_M_owner 2 = .ok (.putfield 61, 3) := by decide +kernel
theorem d_M_owner_5 : decode b_M_owner 5 = .ok (.aload_n 0, 1) := by decide +kernel
theorem d_M_owner_6 : decode b_M_owner 6 = .ok (.iconst 4, 1) := by decide +kernel
theorem d_M_owner_7 : decode b_M_owner 7 = .ok (.iload_n 1, 1) := by decide +kernel
theorem d_M_owner_8 : decode b_M_owner 8 = .ok (.invokevirtual 98, 3) := by decide +kernel
theorem d_M_owner_11 : decode b_M_owner 11 = .ok (.istore_n 2, 1) := by decide +kernel
theorem d_M_owner_12 : decode b_M_owner 12 = .ok (.iload_n 2, 1) := by decide +kernel
theorem d_M_owner_13 : decode b_M_owner 13 = .ok (.ifCond .ge 7, 3) := by decide +kernel
theorem d_M_owner_16 : decode b_M_owner 16 = .ok (.iconst (-1), 1) := by decide +kernel
theorem d_M_owner_17 : decode b_M_owner 17 = .ok (.goto 9, 3) := by decide +kernel
theorem d_M_owner_20 : decode b_M_owner 20 = .ok (.aload_n 0, 1) := by decide +kernel
theorem d_M_owner_21 : decode b_M_owner 21 = .ok (.getfield 23, 3) := by decide +kernel
theorem d_M_owner_24 : decode b_M_owner 24 = .ok (.iload_n 2, 1) := by decide +kernel
theorem d_M_owner_25 : decode b_M_owner 25 = .ok (.iaload, 1) := by decide +kernel
theorem d_M_owner_26 : decode b_M_owner 26 = .ok (.ireturn, 1) := by decide +kernel
theorem d_M_directory_0 : decode b_M_directory 0 = .ok (.aload_n 0, 1) := by decide +kernel
theorem d_M_directory_1 : decode b_M_directory 1 = .ok (.iconst 0, 1) := by decide +kernel
theorem d_M_directory_2 : decode b_M_directory 2 = .ok (.putfield 61, 3) := by decide +kernel
theorem d_M_directory_5 : decode b_M_directory 5 = .ok (.iconst 0, 1) := by decide +kernel
theorem d_M_directory_6 : decode b_M_directory 6 = .ok (.istore_n 2, 1) := by decide +kernel
theorem d_M_directory_7 : decode b_M_directory 7 = .ok (.iconst 0, 1) := by decide +kernel
theorem d_M_directory_8 : decode b_M_directory 8 = .ok (.istore_n 3, 1) := by decide +kernel
theorem d_M_directory_9 : decode b_M_directory 9 = .ok (.iload_n 3, 1) := by decide +kernel
theorem d_M_directory_10 : decode b_M_directory 10 = .ok (.aload_n 0, 1) := by decide +kernel
theorem d_M_directory_11 : decode b_M_directory 11 = .ok (.getfield 45, 3) := by decide +kernel
theorem d_M_directory_14 : decode b_M_directory 14 = .ok (.if_icmp .ge 28, 3) := by decide +kernel
theorem d_M_directory_17 : decode b_M_directory 17 = .ok (.aload_n 0, 1) := by decide +kernel
theorem d_M_directory_18 : decode b_M_directory 18 = .ok (.iload_n 3, 1) := by decide +kernel
theorem d_M_directory_19 : decode b_M_directory 19 = .ok (.iload_n 1, 1) := by decide +kernel
theorem d_M_directory_20 : decode b_M_directory 20 = .ok (.invokevirtual 98, 3) := by decide +kernel
theorem d_M_directory_23 : decode b_M_directory 23 = .ok (.ifCond .lt 11, 3) := by decide +kernel
theorem d_M_directory_26 : decode b_M_directory 26 = .ok (.iload_n 2, 1) := by decide +kernel
theorem d_M_directory_27 : decode b_M_directory 27 = .ok (.iconst 1, 1) := by decide +kernel
theorem d_M_directory_28 : decode b_M_directory 28 = .ok (.iload_n 3, 1) := by decide +kernel
theorem d_M_directory_29 : decode b_M_directory 29 = .ok (.ishl, 1) := by decide +kernel
theorem d_M_directory_30 : decode b_M_directory 30 = .ok (.ior, 1) := by decide +kernel
theorem d_M_directory_31 : decode b_M_directory 31 = .ok (.goto 4, 3) := by decide +kernel
theorem d_M_directory_34 : decode b_M_directory 34 = .ok (.iload_n 2, 1) := by decide +kernel
theorem d_M_directory_35 : decode b_M_directory 35 = .ok (.istore_n 2, 1) := by decide +kernel
theorem d_M_directory_36 : decode b_M_directory 36 = .ok (.iinc 3 1, 3) := by decide +kernel
theorem d_M_directory_39 : decode b_M_directory 39 = .ok (.goto (-30), 3) := by decide +kernel
theorem d_M_directory_42 : decode b_M_directory 42 = .ok (.iload_n 2, 1) := by decide +kernel
theorem d_M_directory_43 : decode b_M_directory 43 = .ok (.ireturn, 1) := by decide +kernel
theorem d_M_core_0 : decode b_M_core 0 = .ok (.aload_n 0, 1) := by decide +kernel
theorem d_M_core_1 : decode b_M_core 1 = .ok (.iload_n 1, 1) := by decide +kernel
theorem d_M_core_2 : decode b_M_core 2 = .ok (.invokevirtual 145, 3) := by decide +kernel
theorem d_M_core_5 : decode b_M_core 5 = .ok (.ifCond .ne 5, 3) := by decide +kernel
theorem d_M_core_8 : decode b_M_core 8 = .ok (.iconst 0, 1) := by decide +kernel
theorem d_M_core_9 : decode b_M_core 9 = .ok (.ireturn, 1) := by decide +kernel
theorem d_M_core_10 : decode b_M_core 10 = .ok (.iload_n 2, 1) := by decide +kernel
theorem d_M_core_11 : decode b_M_core 11 = .ok (.iconst 0, 1) := by decide +kernel
theorem d_M_core_12 : decode b_M_core 12 = .ok (.bipush 7, 2) := by decide +kernel
theorem d_M_core_14 : decode b_M_core 14 = .ok (.invokestatic 64, 3) := by decide +kernel
theorem d_M_core_17 : decode b_M_core 17 = .ok (.ifCond .ne 9, 3) := by decide +kernel
theorem d_M_core_20 : decode b_M_core 20 = .ok (.aload_n 0, 1) := by decide +kernel
theorem d_M_core_21 : decode b_M_core 21 = .ok (.iconst 1, 1) := by decide +kernel
theorem d_M_core_22 : decode b_M_core 22 = .ok (.invokevirtual 148, 3) := by decide +kernel
theorem d_M_core_25 : decode b_M_core 25 = .ok (.ireturn, 1) := by decide +kernel
theorem d_M_core_26 : decode b_M_core 26 = .ok (.iload_n 2, 1) := by decide +kernel
theorem d_M_core_27 : decode b_M_core 27 = .ok (.bipush 7, 2) := by decide +kernel
theorem d_M_core_29 : decode b_M_core 29 = .ok (.if_icmp .ge 15, 3) := by decide +kernel
theorem d_M_core_32 : decode b_M_core 32 = .ok (.aload_n 0, 1) := by decide +kernel
theorem d_M_core_33 : decode b_M_core 33 = .ok (.getfield 42, 3) := by decide +kernel
theorem d_M_core_36 : decode b_M_core 36 = .ok (.bipush 7, 2) := by decide +kernel
theorem d_M_core_38 : decode b_M_core 38 = .ok (.iload_n 1, 1) := by decide +kernel
theorem d_M_core_39 : decode b_M_core 39 = .ok (.imul, 1) := by decide +kernel
theorem d_M_core_40 : decode b_M_core 40 = .ok (.iload_n 2, 1) := by decide +kernel
theorem d_M_core_41 : decode b_M_core 41 = .ok (.iadd, 1) := by decide +kernel
theorem d_M_core_42 : decode b_M_core 42 = .ok (.iaload, 1) := by decide +kernel
theorem d_M_core_43 : decode b_M_core 43 = .ok (.ireturn, 1) := by decide +kernel
theorem d_M_core_44 : decode b_M_core 44 = .ok (.iconst 0, 1) := by decide +kernel
theorem d_M_core_45 : decode b_M_core 45 = .ok (.istore_n 3, 1) := by decide +kernel
theorem d_M_core_46 : decode b_M_core 46 = .ok (.sipush 256, 3) := by decide +kernel
theorem d_M_core_49 : decode b_M_core 49 = .ok (.istore 4, 2) := by decide +kernel
theorem d_M_core_51 : decode b_M_core 51 = .ok (.iload 4, 2) := by decide +kernel
theorem d_M_core_53 : decode b_M_core 53 = .ok (.sipush 256, 3) := by decide +kernel
theorem d_M_core_56 : decode b_M_core 56 = .ok (.aload_n 0, 1) := by decide +kernel
theorem d_M_core_57 : decode b_M_core 57 = .ok (.getfield 7, 3) := by decide +kernel
theorem d_M_core_60 : decode b_M_core 60 = .ok (.iconst 4, 1) := by decide +kernel
theorem d_M_core_61 : decode b_M_core 61 = .ok (.iaload, 1) := by decide +kernel
theorem d_M_core_62 : decode b_M_core 62 = .ok (.iadd, 1) := by decide +kernel
theorem d_M_core_63 : decode b_M_core 63 = .ok (.if_icmp .ge 28, 3) := by decide +kernel
theorem d_M_core_66 : decode b_M_core 66 = .ok (.iload_n 3, 1) := by decide +kernel
theorem d_M_core_67 : decode b_M_core 67 = .ok (.aload_n 0, 1) := by decide +kernel
theorem d_M_core_68 : decode b_M_core 68 = .ok (.getfield 23, 3) := by decide +kernel
theorem d_M_core_71 : decode b_M_core 71 = .ok (.iload 4, 2) := by decide +kernel
theorem d_M_core_73 : decode b_M_core 73 = .ok (.iaload, 1) := by decide +kernel
theorem d_M_core_74 : decode b_M_core 74 = .ok (.iload_n 1, 1) := by decide +kernel
theorem d_M_core_75 : decode b_M_core 75 = .ok (.if_icmp .ne 7, 3) := by decide +kernel
theorem d_M_core_78 : decode b_M_core 78 = .ok (.iconst 1, 1) := by decide +kernel
theorem d_M_core_79 : decode b_M_core 79 = .ok (.goto 4, 3) := by decide +kernel
theorem d_M_core_82 : decode b_M_core 82 = .ok (.iconst 0, 1) := by decide +kernel
theorem d_M_core_83 : decode b_M_core 83 = .ok (.iadd, 1) := by decide +kernel
theorem d_M_core_84 : decode b_M_core 84 = .ok (.istore_n 3, 1) := by decide +kernel
theorem d_M_core_85 : decode b_M_core 85 = .ok (.iinc 4 1, 3) := by decide +kernel
theorem d_M_core_88 : decode b_M_core 88 = .ok (.goto (-37), 3) := by decide +kernel
theorem d_M_core_91 : decode b_M_core 91 = .ok (.iload_n 3, 1) := by decide +kernel
theorem d_M_core_92 : decode b_M_core 92 = .ok (.ireturn, 1) := by decide +kernel
theorem d_M_count_0 : decode b_M_count 0 = .ok (.aload_n 0, 1) := by decide +kernel
theorem d_M_count_1 : decode b_M_count 1 = .ok (.iconst 0, 1) := by decide +kernel
theorem d_M_count_2 : decode b_M_count 2 = .ok (.putfield 61, 3) := by decide +kernel
theorem d_M_count_5 : decode b_M_count 5 = .ok (.iload_n 1, 1) := by decide +kernel
theorem d_M_count_6 : decode b_M_count 6 = .ok (.tableswitch 111 0 7 #[46, 51, 56, 84, 91, 96, 101, 106], 46) := by decide +kernel
theorem d_M_count_52 : decode b_M_count 52 = .ok (.aload_n 0, 1) := by decide +kernel
theorem d_M_count_53 : decode b_M_count 53 = .ok (.getfield 95, 3) := by decide +kernel
theorem d_M_count_56 : decode b_M_count 56 = .ok (.ireturn, 1) := by decide +kernel
theorem d_M_count_57 : decode b_M_count 57 = .ok (.aload_n 0, 1) := by decide +kernel
theorem d_M_count_58 : decode b_M_count 58 = .ok (.getfield 130, 3) := by decide +kernel
theorem d_M_count_61 : decode b_M_count 61 = .ok (.ireturn, 1) := by decide +kernel
theorem d_M_count_62 : decode b_M_count 62 = .ok (.aload_n 0, 1) := by decide +kernel
theorem d_M_count_63 : decode b_M_count 63 = .ok (.getfield 7, 3) := by decide +kernel
theorem d_M_count_66 : decode b_M_count 66 = .ok (.iconst 0, 1) := by decide +kernel
theorem d_M_count_67 : decode b_M_count 67 = .ok (.iaload, 1) := by decide +kernel
theorem d_M_count_68 : decode b_M_count 68 = .ok (.aload_n 0, 1) := by decide +kernel
theorem d_M_count_69 : decode b_M_count 69 = .ok (.getfield 7, 3) := by decide +kernel
theorem d_M_count_72 : decode b_M_count 72 = .ok (.iconst 1, 1) := by decide +kernel
theorem d_M_count_73 : decode b_M_count 73 = .ok (.iaload, 1) := by decide +kernel
theorem d_M_count_74 : decode b_M_count 74 = .ok (.iadd, 1) := by decide +kernel
theorem d_M_count_75 : decode b_M_count 75 = .ok (.aload_n 0, 1) := by decide +kernel
theorem d_M_count_76 : decode b_M_count 76 = .ok (.getfield 7, 3) := by decide +kernel
theorem d_M_count_79 : decode b_M_count 79 = .ok (.iconst 2, 1) := by decide +kernel
theorem d_M_count_80 : decode b_M_count 80 = .ok (.iaload, 1) := by decide +kernel
theorem d_M_count_81 : decode b_M_count 81 = .ok (.iadd, 1) := by decide +kernel
theorem d_M_count_82 : decode b_M_count 82 = .ok (.aload_n 0, 1) := by decide +kernel
theorem d_M_count_83 : decode b_M_count 83 = .ok (.getfield 7, 3) := by decide +kernel
theorem d_M_count_86 : decode b_M_count 86 = .ok (.iconst 3, 1) := by decide +kernel
theorem d_M_count_87 : decode b_M_count 87 = .ok (.iaload, 1) := by decide +kernel
theorem d_M_count_88 : decode b_M_count 88 = .ok (.iadd, 1) := by decide +kernel
theorem d_M_count_89 : decode b_M_count 89 = .ok (.ireturn, 1) := by decide +kernel
theorem d_M_count_90 : decode b_M_count 90 = .ok (.aload_n 0, 1) := by decide +kernel
theorem d_M_count_91 : decode b_M_count 91 = .ok (.getfield 7, 3) := by decide +kernel
theorem d_M_count_94 : decode b_M_count 94 = .ok (.iconst 4, 1) := by decide +kernel
theorem d_M_count_95 : decode b_M_count 95 = .ok (.iaload, 1) := by decide +kernel
theorem d_M_count_96 : decode b_M_count 96 = .ok (.ireturn, 1) := by decide +kernel
theorem d_M_count_97 : decode b_M_count 97 = .ok (.aload_n 0, 1) := by decide +kernel
theorem d_M_count_98 : decode b_M_count 98 = .ok (.getfield 45, 3) := by decide +kernel
theorem d_M_count_101 : decode b_M_count 101 = .ok (.ireturn, 1) := by decide +kernel
theorem d_M_count_102 : decode b_M_count 102 = .ok (.aload_n 0, 1) := by decide +kernel
theorem d_M_count_103 : decode b_M_count 103 = .ok (.getfield 52, 3) := by decide +kernel
theorem d_M_count_106 : decode b_M_count 106 = .ok (.ireturn, 1) := by decide +kernel
theorem d_M_count_107 : decode b_M_count 107 = .ok (.aload_n 0, 1) := by decide +kernel
theorem d_M_count_108 : decode b_M_count 108 = .ok (.getfield 55, 3) := by decide +kernel
theorem d_M_count_111 : decode b_M_count 111 = .ok (.ireturn, 1) := by decide +kernel
theorem d_M_count_112 : decode b_M_count 112 = .ok (.aload_n 0, 1) := by decide +kernel
theorem d_M_count_113 : decode b_M_count 113 = .ok (.getfield 58, 3) := by decide +kernel
theorem d_M_count_116 : decode b_M_count 116 = .ok (.ireturn, 1) := by decide +kernel
theorem d_M_count_117 : decode b_M_count 117 = .ok (.iconst (-1), 1) := by decide +kernel
theorem d_M_count_118 : decode b_M_count 118 = .ok (.ireturn, 1) := by decide +kernel
