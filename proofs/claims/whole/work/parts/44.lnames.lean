theorem k_L_39 : Cond.methodLink "CacheLevelsLaw" 39 y_C_init ∈ tbW := tw 13 (by decide +kernel) (by decide +kernel)
theorem k_L_57 : Cond.methodLink "CacheLevelsLaw" 57 y_C_bypass ∈ tbW := tw 111 (by decide +kernel) (by decide +kernel)
theorem k_L_62 : Cond.methodLink "CacheLevelsLaw" 62 y_C_flush ∈ tbW := tw 115 (by decide +kernel) (by decide +kernel)
theorem k_L_72 : Cond.methodLink "CacheLevelsLaw" 72 y_C_memory ∈ tbW := tw 169 (by decide +kernel) (by decide +kernel)
theorem k_L_80 : Cond.methodLink "CacheLevelsLaw" 80 y_C_owner ∈ tbW := tw 177 (by decide +kernel) (by decide +kernel)
theorem k_L_84 : Cond.methodLink "CacheLevelsLaw" 84 y_C_directory ∈ tbW := tw 185 (by decide +kernel) (by decide +kernel)
theorem k_L_91 : Cond.methodLink "CacheLevelsLaw" 91 y_C_count ∈ tbW := tw 189 (by decide +kernel) (by decide +kernel)
theorem k_L_33 : Cond.methodLink "CacheLevelsLaw" 33 y_L_cell ∈ tbW := tw 197 (by decide +kernel) (by decide +kernel)
theorem k_L_45 : Cond.methodLink "CacheLevelsLaw" 45 y_L_access ∈ tbW := tw 200 (by decide +kernel) (by decide +kernel)
theorem k_L_7 : Cond.methodLink "CacheLevelsLaw" 7 y_C_access ∈ tbW := tw 205 (by decide +kernel) (by decide +kernel)
theorem k_L_53 : Cond.methodLink "CacheLevelsLaw" 53 y_L_quota ∈ tbW := tw 383 (by decide +kernel) (by decide +kernel)
theorem k_L_17 : Cond.methodLink "CacheLevelsLaw" 17 y_C_quota ∈ tbW := tw 386 (by decide +kernel) (by decide +kernel)
theorem k_L_66 : Cond.methodLink "CacheLevelsLaw" 66 y_L_holds ∈ tbW := tw 391 (by decide +kernel) (by decide +kernel)
theorem k_L_21 : Cond.methodLink "CacheLevelsLaw" 21 y_C_holds ∈ tbW := tw 394 (by decide +kernel) (by decide +kernel)
theorem k_L_69 : Cond.methodLink "CacheLevelsLaw" 69 y_L_version ∈ tbW := tw 409 (by decide +kernel) (by decide +kernel)
theorem k_L_24 : Cond.methodLink "CacheLevelsLaw" 24 y_C_version ∈ tbW := tw 412 (by decide +kernel) (by decide +kernel)
theorem k_L_77 : Cond.methodLink "CacheLevelsLaw" 77 y_L_line ∈ tbW := tw 416 (by decide +kernel) (by decide +kernel)
theorem k_L_27 : Cond.methodLink "CacheLevelsLaw" 27 y_C_line ∈ tbW := tw 419 (by decide +kernel) (by decide +kernel)
theorem k_L_88 : Cond.methodLink "CacheLevelsLaw" 88 y_L_core ∈ tbW := tw 426 (by decide +kernel) (by decide +kernel)
theorem k_L_30 : Cond.methodLink "CacheLevelsLaw" 30 y_C_core ∈ tbW := tw 429 (by decide +kernel) (by decide +kernel)
theorem k_L_44 : Cond.methodLink "CacheLevelsLaw" 44 y_M_init ∈ tbW := tw 441 (by decide +kernel) (by decide +kernel)
theorem k_L_49 : Cond.methodLink "CacheLevelsLaw" 49 y_M_thrown ∈ tbW := tw 509 (by decide +kernel) (by decide +kernel)
theorem k_L_48 : Cond.methodLink "CacheLevelsLaw" 48 y_M_access ∈ tbW := tw 513 (by decide +kernel) (by decide +kernel)
theorem k_L_56 : Cond.methodLink "CacheLevelsLaw" 56 y_M_quota ∈ tbW := tw 612 (by decide +kernel) (by decide +kernel)
theorem k_L_61 : Cond.methodLink "CacheLevelsLaw" 61 y_M_bypass ∈ tbW := tw 616 (by decide +kernel) (by decide +kernel)
theorem k_L_65 : Cond.methodLink "CacheLevelsLaw" 65 y_M_flush ∈ tbW := tw 620 (by decide +kernel) (by decide +kernel)
theorem k_L_68 : Cond.methodLink "CacheLevelsLaw" 68 y_M_holds ∈ tbW := tw 628 (by decide +kernel) (by decide +kernel)
theorem k_L_71 : Cond.methodLink "CacheLevelsLaw" 71 y_M_version ∈ tbW := tw 636 (by decide +kernel) (by decide +kernel)
theorem k_L_76 : Cond.methodLink "CacheLevelsLaw" 76 y_M_memory ∈ tbW := tw 640 (by decide +kernel) (by decide +kernel)
theorem k_L_79 : Cond.methodLink "CacheLevelsLaw" 79 y_M_line ∈ tbW := tw 644 (by decide +kernel) (by decide +kernel)
theorem k_L_83 : Cond.methodLink "CacheLevelsLaw" 83 y_M_owner ∈ tbW := tw 648 (by decide +kernel) (by decide +kernel)
theorem k_L_87 : Cond.methodLink "CacheLevelsLaw" 87 y_M_directory ∈ tbW := tw 652 (by decide +kernel) (by decide +kernel)
theorem k_L_90 : Cond.methodLink "CacheLevelsLaw" 90 y_M_core ∈ tbW := tw 656 (by decide +kernel) (by decide +kernel)
theorem k_L_94 : Cond.methodLink "CacheLevelsLaw" 94 y_M_count ∈ tbW := tw 660 (by decide +kernel) (by decide +kernel)
theorem k_L_8 : Cond.classLink "CacheLevelsLaw" 8 "CacheLevels" ∈ tbW := tw 11 (by decide +kernel) (by decide +kernel)
theorem k_L_13 : Cond.classLink "CacheLevelsLaw" 13 "java/lang/IndexOutOfBoundsException" ∈ tbW := tw 203 (by decide +kernel) (by decide +kernel)
theorem k_L_15 : Cond.classLink "CacheLevelsLaw" 15 "java/lang/IllegalArgumentException" ∈ tbW := tw 204 (by decide +kernel) (by decide +kernel)
theorem k_L_42 : Cond.classLink "CacheLevelsLaw" 42 "CacheLevelsModel" ∈ tbW := tw 439 (by decide +kernel) (by decide +kernel)
theorem ini_L : Cond.initialized "CacheLevelsLaw" ∈ tbW := tw 0 (by decide +kernel) (by decide +kernel)
abbrev hh_L_access : List (Nat × Nat × Nat × Nat) := [(0, 12, 15, 13), (0, 12, 19, 15)]
theorem cd_L_access : Cond.codeWith y_L_access b_L_access 6 (some .int) hh_L_access ∈ tbW := tw 202 (by decide +kernel) (by decide +kernel)
abbrev hh_L_quota : List (Nat × Nat × Nat × Nat) := [(0, 10, 13, 13), (0, 10, 17, 15)]
theorem cd_L_quota : Cond.codeWith y_L_quota b_L_quota 5 (some .int) hh_L_quota ∈ tbW := tw 385 (by decide +kernel) (by decide +kernel)
abbrev hh_L_holds : List (Nat × Nat × Nat × Nat) := [(0, 10, 13, 13)]
theorem cd_L_holds : Cond.codeWith y_L_holds b_L_holds 5 (some .int) hh_L_holds ∈ tbW := tw 393 (by decide +kernel) (by decide +kernel)
abbrev hh_L_version : List (Nat × Nat × Nat × Nat) := [(0, 10, 13, 13)]
theorem cd_L_version : Cond.codeWith y_L_version b_L_version 5 (some .int) hh_L_version ∈ tbW := tw 411 (by decide +kernel) (by decide +kernel)
abbrev hh_L_line : List (Nat × Nat × Nat × Nat) := [(0, 12, 15, 13)]
theorem cd_L_line : Cond.codeWith y_L_line b_L_line 6 (some .int) hh_L_line ∈ tbW := tw 418 (by decide +kernel) (by decide +kernel)
abbrev hh_L_core : List (Nat × Nat × Nat × Nat) := [(0, 10, 13, 13)]
theorem cd_L_core : Cond.codeWith y_L_core b_L_core 5 (some .int) hh_L_core ∈ tbW := tw 428 (by decide +kernel) (by decide +kernel)
theorem d_L_cell_0 : decode b_L_cell 0 = .ok (.iload_n 1, 1) := by decide +kernel
theorem d_L_cell_1 : decode b_L_cell 1 = .ok (.aload_n 0, 1) := by decide +kernel
theorem d_L_cell_2 : decode b_L_cell 2 = .ok (.arraylength, 1) := by decide +kernel
theorem d_L_cell_3 : decode b_L_cell 3 = .ok (.if_icmp .ge 9, 3) := by decide +kernel
theorem d_L_cell_6 : decode b_L_cell 6 = .ok (.aload_n 0, 1) := by decide +kernel
theorem d_L_cell_7 : decode b_L_cell 7 = .ok (.iload_n 1, 1) := by decide +kernel
theorem d_L_cell_8 : decode b_L_cell 8 = .ok (.iaload, 1) := by decide +kernel
theorem d_L_cell_9 : decode b_L_cell 9 = .ok (.goto 4, 3) := by decide +kernel
theorem d_L_cell_12 : decode b_L_cell 12 = .ok (.iconst 0, 1) := by decide +kernel
theorem d_L_cell_13 : decode b_L_cell 13 = .ok (.ireturn, 1) := by decide +kernel
theorem d_L_access_0 : decode b_L_access 0 = .ok (.aload 4, 2) := by decide +kernel
theorem d_L_access_2 : decode b_L_access 2 = .ok (.iconst 0, 1) := by decide +kernel
theorem d_L_access_3 : decode b_L_access 3 = .ok (.aload_n 0, 1) := by decide +kernel
theorem d_L_access_4 : decode b_L_access 4 = .ok (.iload_n 1, 1) := by decide +kernel
theorem d_L_access_5 : decode b_L_access 5 = .ok (.iload_n 2, 1) := by decide +kernel
theorem d_L_access_6 : decode b_L_access 6 = .ok (.iload_n 3, 1) := by decide +kernel
theorem d_L_access_7 : decode b_L_access 7 = .ok (.invokevirtual 7, 3) := by decide +kernel
theorem d_L_access_10 : decode b_L_access 10 = .ok (.i2l, 1) := by decide +kernel
theorem d_L_access_11 : decode b_L_access 11 = .ok (.lastore, 1) := by decide +kernel
theorem d_L_access_12 : decode b_L_access 12 = .ok (.goto 11, 3) := by decide +kernel
theorem d_L_access_15 : decode b_L_access 15 = .ok (.astore 5, 2) := by decide +kernel
theorem d_L_access_17 : decode b_L_access 17 = .ok (.iconst 1, 1) := by decide +kernel
theorem d_L_access_18 : decode b_L_access 18 = .ok (.ireturn, 1) := by decide +kernel
theorem d_L_access_19 : decode b_L_access 19 = .ok (.astore 5, 2) := by decide +kernel
theorem d_L_access_21 : decode b_L_access 21 = .ok (.iconst 2, 1) := by decide +kernel
theorem d_L_access_22 : decode b_L_access 22 = .ok (.ireturn, 1) := by decide +kernel
theorem d_L_access_23 : decode b_L_access 23 = .ok (.iconst 0, 1) := by decide +kernel
theorem d_L_access_24 : decode b_L_access 24 = .ok (.ireturn, 1) := by decide +kernel
theorem d_L_quota_0 : decode b_L_quota 0 = .ok (.aload_n 3, 1) := by decide +kernel
theorem d_L_quota_1 : decode b_L_quota 1 = .ok (.iconst 0, 1) := by decide +kernel
theorem d_L_quota_2 : decode b_L_quota 2 = .ok (.aload_n 0, 1) := by decide +kernel
theorem d_L_quota_3 : decode b_L_quota 3 = .ok (.iload_n 1, 1) := by decide +kernel
theorem d_L_quota_4 : decode b_L_quota 4 = .ok (.iload_n 2, 1) := by decide +kernel
theorem d_L_quota_5 : decode b_L_quota 5 = .ok (.invokevirtual 17, 3) := by decide +kernel
theorem d_L_quota_8 : decode b_L_quota 8 = .ok (.i2l, 1) := by decide +kernel
theorem d_L_quota_9 : decode b_L_quota 9 = .ok (.lastore, 1) := by decide +kernel
theorem d_L_quota_10 : decode b_L_quota 10 = .ok (.goto 11, 3) := by decide +kernel
theorem d_L_quota_13 : decode b_L_quota 13 = .ok (.astore 4, 2) := by decide +kernel
theorem d_L_quota_15 : decode b_L_quota 15 = .ok (.iconst 1, 1) := by decide +kernel
theorem d_L_quota_16 : decode b_L_quota 16 = .ok (.ireturn, 1) := by decide +kernel
theorem d_L_quota_17 : decode b_L_quota 17 = .ok (.astore 4, 2) := by decide +kernel
theorem d_L_quota_19 : decode b_L_quota 19 = .ok (.iconst 2, 1) := by decide +kernel
theorem d_L_quota_20 : decode b_L_quota 20 = .ok (.ireturn, 1) := by decide +kernel
theorem d_L_quota_21 : decode b_L_quota 21 = .ok (.iconst 0, 1) := by decide +kernel
theorem d_L_quota_22 : decode b_L_quota 22 = .ok (.ireturn, 1) := by decide +kernel
theorem d_L_holds_0 : decode b_L_holds 0 = .ok (.aload_n 3, 1) := by decide +kernel
theorem d_L_holds_1 : decode b_L_holds 1 = .ok (.iconst 0, 1) := by decide +kernel
theorem d_L_holds_2 : decode b_L_holds 2 = .ok (.aload_n 0, 1) := by decide +kernel
theorem d_L_holds_3 : decode b_L_holds 3 = .ok (.iload_n 1, 1) := by decide +kernel
theorem d_L_holds_4 : decode b_L_holds 4 = .ok (.iload_n 2, 1) := by decide +kernel
theorem d_L_holds_5 : decode b_L_holds 5 = .ok (.invokevirtual 21, 3) := by decide +kernel
theorem d_L_holds_8 : decode b_L_holds 8 = .ok (.i2l, 1) := by decide +kernel
theorem d_L_holds_9 : decode b_L_holds 9 = .ok (.lastore, 1) := by decide +kernel
theorem d_L_holds_10 : decode b_L_holds 10 = .ok (.goto 7, 3) := by decide +kernel
theorem d_L_holds_13 : decode b_L_holds 13 = .ok (.astore 4, 2) := by decide +kernel
theorem d_L_holds_15 : decode b_L_holds 15 = .ok (.iconst 1, 1) := by decide +kernel
theorem d_L_holds_16 : decode b_L_holds 16 = .ok (.ireturn, 1) := by decide +kernel
theorem d_L_holds_17 : decode b_L_holds 17 = .ok (.iconst 0, 1) := by decide +kernel
theorem d_L_holds_18 : decode b_L_holds 18 = .ok (.ireturn, 1) := by decide +kernel
theorem d_L_version_0 : decode b_L_version 0 = .ok (.aload_n 3, 1) := by decide +kernel
theorem d_L_version_1 : decode b_L_version 1 = .ok (.iconst 0, 1) := by decide +kernel
theorem d_L_version_2 : decode b_L_version 2 = .ok (.aload_n 0, 1) := by decide +kernel
theorem d_L_version_3 : decode b_L_version 3 = .ok (.iload_n 1, 1) := by decide +kernel
theorem d_L_version_4 : decode b_L_version 4 = .ok (.iload_n 2, 1) := by decide +kernel
theorem d_L_version_5 : decode b_L_version 5 = .ok (.invokevirtual 24, 3) := by decide +kernel
theorem d_L_version_8 : decode b_L_version 8 = .ok (.i2l, 1) := by decide +kernel
theorem d_L_version_9 : decode b_L_version 9 = .ok (.lastore, 1) := by decide +kernel
theorem d_L_version_10 : decode b_L_version 10 = .ok (.goto 7, 3) := by decide +kernel
theorem d_L_version_13 : decode b_L_version 13 = .ok (.astore 4, 2) := by decide +kernel
theorem d_L_version_15 : decode b_L_version 15 = .ok (.iconst 1, 1) := by decide +kernel
theorem d_L_version_16 : decode b_L_version 16 = .ok (.ireturn, 1) := by decide +kernel
theorem d_L_version_17 : decode b_L_version 17 = .ok (.iconst 0, 1) := by decide +kernel
theorem d_L_version_18 : decode b_L_version 18 = .ok (.ireturn, 1) := by decide +kernel
theorem d_L_line_0 : decode b_L_line 0 = .ok (.aload 4, 2) := by decide +kernel
theorem d_L_line_2 : decode b_L_line 2 = .ok (.iconst 0, 1) := by decide +kernel
theorem d_L_line_3 : decode b_L_line 3 = .ok (.aload_n 0, 1) := by decide +kernel
theorem d_L_line_4 : decode b_L_line 4 = .ok (.iload_n 1, 1) := by decide +kernel
theorem d_L_line_5 : decode b_L_line 5 = .ok (.iload_n 2, 1) := by decide +kernel
theorem d_L_line_6 : decode b_L_line 6 = .ok (.iload_n 3, 1) := by decide +kernel
theorem d_L_line_7 : decode b_L_line 7 = .ok (.invokevirtual 27, 3) := by decide +kernel
theorem d_L_line_10 : decode b_L_line 10 = .ok (.i2l, 1) := by decide +kernel
theorem d_L_line_11 : decode b_L_line 11 = .ok (.lastore, 1) := by decide +kernel
theorem d_L_line_12 : decode b_L_line 12 = .ok (.goto 7, 3) := by decide +kernel
theorem d_L_line_15 : decode b_L_line 15 = .ok (.astore 5, 2) := by decide +kernel
theorem d_L_line_17 : decode b_L_line 17 = .ok (.iconst 1, 1) := by decide +kernel
theorem d_L_line_18 : decode b_L_line 18 = .ok (.ireturn, 1) := by decide +kernel
theorem d_L_line_19 : decode b_L_line 19 = .ok (.iconst 0, 1) := by decide +kernel
theorem d_L_line_20 : decode b_L_line 20 = .ok (.ireturn, 1) := by decide +kernel
theorem d_L_core_0 : decode b_L_core 0 = .ok (.aload_n 3, 1) := by decide +kernel
theorem d_L_core_1 : decode b_L_core 1 = .ok (.iconst 0, 1) := by decide +kernel
theorem d_L_core_2 : decode b_L_core 2 = .ok (.aload_n 0, 1) := by decide +kernel
theorem d_L_core_3 : decode b_L_core 3 = .ok (.iload_n 1, 1) := by decide +kernel
theorem d_L_core_4 : decode b_L_core 4 = .ok (.iload_n 2, 1) := by decide +kernel
theorem d_L_core_5 : decode b_L_core 5 = .ok (.invokevirtual 30, 3) := by decide +kernel
theorem d_L_core_8 : decode b_L_core 8 = .ok (.i2l, 1) := by decide +kernel
theorem d_L_core_9 : decode b_L_core 9 = .ok (.lastore, 1) := by decide +kernel
theorem d_L_core_10 : decode b_L_core 10 = .ok (.goto 7, 3) := by decide +kernel
theorem d_L_core_13 : decode b_L_core 13 = .ok (.astore 4, 2) := by decide +kernel
theorem d_L_core_15 : decode b_L_core 15 = .ok (.iconst 1, 1) := by decide +kernel
theorem d_L_core_16 : decode b_L_core 16 = .ok (.ireturn, 1) := by decide +kernel
theorem d_L_core_17 : decode b_L_core 17 = .ok (.iconst 0, 1) := by decide +kernel
theorem d_L_core_18 : decode b_L_core 18 = .ok (.ireturn, 1) := by decide +kernel
