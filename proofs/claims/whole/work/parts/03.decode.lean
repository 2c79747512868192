theorem d_C_init_0 : decode b_C_init 0 = .ok (.aload_n 0, 1) := by decide +kernel
theorem d_C_init_1 : decode b_C_init 1 = .ok (.invokespecial 3, 3) := by decide +kernel
theorem d_C_init_4 : decode b_C_init 4 = .ok (.aload_n 0, 1) := by decide +kernel
theorem d_C_init_5 : decode b_C_init 5 = .ok (.iconst 1, 1) := by decide +kernel
theorem d_C_init_6 : decode b_C_init 6 = .ok (.iload_n 1, 1) := by decide +kernel
theorem d_C_init_7 : decode b_C_init 7 = .ok (.iconst 1, 1) := by decide +kernel
theorem d_C_init_8 : decode b_C_init 8 = .ok (.isub, 1) := by decide +kernel
theorem d_C_init_9 : decode b_C_init 9 = .ok (.iconst 4, 1) := by decide +kernel
theorem d_C_init_10 : decode b_C_init 10 = .ok (.invokestatic 9, 3) := by decide +kernel
theorem d_C_init_13 : decode b_C_init 13 = .ok (.iadd, 1) := by decide +kernel
theorem d_C_init_14 : decode b_C_init 14 = .ok (.putfield 15, 3) := by decide +kernel
theorem d_C_init_17 : decode b_C_init 17 = .ok (.aload_n 0, 1) := by decide +kernel
theorem d_C_init_18 : decode b_C_init 18 = .ok (.iload_n 2, 1) := by decide +kernel
theorem d_C_init_19 : decode b_C_init 19 = .ok (.iconst 3, 1) := by decide +kernel
theorem d_C_init_20 : decode b_C_init 20 = .ok (.invokestatic 9, 3) := by decide +kernel
theorem d_C_init_23 : decode b_C_init 23 = .ok (.putfield 19, 3) := by decide +kernel
theorem d_C_init_26 : decode b_C_init 26 = .ok (.aload_n 0, 1) := by decide +kernel
theorem d_C_init_27 : decode b_C_init 27 = .ok (.new 22, 3) := by decide +kernel
theorem d_C_init_30 : decode b_C_init 30 = .ok (.dup, 1) := by decide +kernel
theorem d_C_init_31 : decode b_C_init 31 = .ok (.aload_n 0, 1) := by decide +kernel
theorem d_C_init_32 : decode b_C_init 32 = .ok (.getfield 15, 3) := by decide +kernel
theorem d_C_init_35 : decode b_C_init 35 = .ok (.iconst 1, 1) := by decide +kernel
theorem d_C_init_36 : decode b_C_init 36 = .ok (.iload_n 3, 1) := by decide +kernel
theorem d_C_init_37 : decode b_C_init 37 = .ok (.iconst 1, 1) := by decide +kernel
theorem d_C_init_38 : decode b_C_init 38 = .ok (.isub, 1) := by decide +kernel
theorem d_C_init_39 : decode b_C_init 39 = .ok (.bipush 8, 2) := by decide +kernel
theorem d_C_init_41 : decode b_C_init 41 = .ok (.invokestatic 9, 3) := by decide +kernel
theorem d_C_init_44 : decode b_C_init 44 = .ok (.iadd, 1) := by decide +kernel
theorem d_C_init_45 : decode b_C_init 45 = .ok (.iconst 2, 1) := by decide +kernel
theorem d_C_init_46 : decode b_C_init 46 = .ok (.invokespecial 24, 3) := by decide +kernel
theorem d_C_init_49 : decode b_C_init 49 = .ok (.putfield 27, 3) := by decide +kernel
theorem d_C_init_52 : decode b_C_init 52 = .ok (.aload_n 0, 1) := by decide +kernel
theorem d_C_init_53 : decode b_C_init 53 = .ok (.new 22, 3) := by decide +kernel
theorem d_C_init_56 : decode b_C_init 56 = .ok (.dup, 1) := by decide +kernel
theorem d_C_init_57 : decode b_C_init 57 = .ok (.iconst 1, 1) := by decide +kernel
theorem d_C_init_58 : decode b_C_init 58 = .ok (.iconst 1, 1) := by decide +kernel
theorem d_C_init_59 : decode b_C_init 59 = .ok (.iload 4, 2) := by decide +kernel
theorem d_C_init_61 : decode b_C_init 61 = .ok (.iconst 1, 1) := by decide +kernel
theorem d_C_init_62 : decode b_C_init 62 = .ok (.isub, 1) := by decide +kernel
theorem d_C_init_63 : decode b_C_init 63 = .ok (.bipush 16, 2) := by decide +kernel
theorem d_C_init_65 : decode b_C_init 65 = .ok (.invokestatic 9, 3) := by decide +kernel
theorem d_C_init_68 : decode b_C_init 68 = .ok (.iadd, 1) := by decide +kernel
theorem d_C_init_69 : decode b_C_init 69 = .ok (.iconst 4, 1) := by decide +kernel
theorem d_C_init_70 : decode b_C_init 70 = .ok (.invokespecial 24, 3) := by decide +kernel
theorem d_C_init_73 : decode b_C_init 73 = .ok (.putfield 31, 3) := by decide +kernel
theorem d_C_init_76 : decode b_C_init 76 = .ok (.aload_n 0, 1) := by decide +kernel
theorem d_C_init_77 : decode b_C_init 77 = .ok (.new 34, 3) := by decide +kernel
theorem d_C_init_80 : decode b_C_init 80 = .ok (.dup, 1) := by decide +kernel
theorem d_C_init_81 : decode b_C_init 81 = .ok (.invokespecial 36, 3) := by decide +kernel
theorem d_C_init_84 : decode b_C_init 84 = .ok (.putfield 37, 3) := by decide +kernel
theorem d_C_init_87 : decode b_C_init 87 = .ok (.aload_n 0, 1) := by decide +kernel
theorem d_C_init_88 : decode b_C_init 88 = .ok (.aload_n 0, 1) := by decide +kernel
theorem d_C_init_89 : decode b_C_init 89 = .ok (.getfield 15, 3) := by decide +kernel
theorem d_C_init_92 : decode b_C_init 92 = .ok (.newarray .int, 2) := by decide +kernel
theorem d_C_init_94 : decode b_C_init 94 = .ok (.putfield 41, 3) := by decide +kernel
theorem d_C_init_97 : decode b_C_init 97 = .ok (.iconst 0, 1) := by decide +kernel
theorem d_C_init_98 : decode b_C_init 98 = .ok (.istore 5, 2) := by decide +kernel
theorem d_C_init_100 : decode b_C_init 100 = .ok (.iload 5, 2) := by decide +kernel
theorem d_C_init_102 : decode b_C_init 102 = .ok (.aload_n 0, 1) := by decide +kernel
theorem d_C_init_103 : decode b_C_init 103 = .ok (.getfield 41, 3) := by decide +kernel
theorem d_C_init_106 : decode b_C_init 106 = .ok (.arraylength, 1) := by decide +kernel
theorem d_C_init_107 : decode b_C_init 107 = .ok (.if_icmp .ge 17, 3) := by decide +kernel
theorem d_C_init_110 : decode b_C_init 110 = .ok (.aload_n 0, 1) := by decide +kernel
theorem d_C_init_111 : decode b_C_init 111 = .ok (.getfield 41, 3) := by decide +kernel
theorem d_C_init_114 : decode b_C_init 114 = .ok (.iload 5, 2) := by decide +kernel
theorem d_C_init_116 : decode b_C_init 116 = .ok (.iconst 4, 1) := by decide +kernel
theorem d_C_init_117 : decode b_C_init 117 = .ok (.iastore, 1) := by decide +kernel
theorem d_C_init_118 : decode b_C_init 118 = .ok (.iinc 5 1, 3) := by decide +kernel
theorem d_C_init_121 : decode b_C_init 121 = .ok (.goto (-21), 3) := by decide +kernel
theorem d_C_init_124 : decode b_C_init 124 = .ok (.aload_n 0, 1) := by decide +kernel
theorem d_C_init_125 : decode b_C_init 125 = .ok (.aload_n 0, 1) := by decide +kernel
theorem d_C_init_126 : decode b_C_init 126 = .ok (.getfield 15, 3) := by decide +kernel
theorem d_C_init_129 : decode b_C_init 129 = .ok (.bipush 7, 2) := by decide +kernel
theorem d_C_init_131 : decode b_C_init 131 = .ok (.imul, 1) := by decide +kernel
theorem d_C_init_132 : decode b_C_init 132 = .ok (.newarray .int, 2) := by decide +kernel
theorem d_C_init_134 : decode b_C_init 134 = .ok (.putfield 45, 3) := by decide +kernel
theorem d_C_init_137 : decode b_C_init 137 = .ok (.aload_n 0, 1) := by decide +kernel
theorem d_C_init_138 : decode b_C_init 138 = .ok (.iconst 0, 1) := by decide +kernel
theorem d_C_init_139 : decode b_C_init 139 = .ok (.putfield 48, 3) := by decide +kernel
theorem d_C_init_142 : decode b_C_init 142 = .ok (.aload_n 0, 1) := by decide +kernel
theorem d_C_init_143 : decode b_C_init 143 = .ok (.iconst (-1), 1) := by decide +kernel
theorem d_C_init_144 : decode b_C_init 144 = .ok (.putfield 51, 3) := by decide +kernel
theorem d_C_init_147 : decode b_C_init 147 = .ok (.aload_n 0, 1) := by decide +kernel
theorem d_C_init_148 : decode b_C_init 148 = .ok (.iconst 0, 1) := by decide +kernel
theorem d_C_init_149 : decode b_C_init 149 = .ok (.putfield 54, 3) := by decide +kernel
theorem d_C_init_152 : decode b_C_init 152 = .ok (.return_, 1) := by decide +kernel
theorem d_C_access_0 : decode b_C_access 0 = .ok (.aload_n 0, 1) := by decide +kernel
theorem d_C_access_1 : decode b_C_access 1 = .ok (.iload_n 1, 1) := by decide +kernel
theorem d_C_access_2 : decode b_C_access 2 = .ok (.invokevirtual 57, 3) := by decide +kernel
theorem d_C_access_5 : decode b_C_access 5 = .ok (.iload_n 3, 1) := by decide +kernel
theorem d_C_access_6 : decode b_C_access 6 = .ok (.ifCond .eq 18, 3) := by decide +kernel
theorem d_C_access_9 : decode b_C_access 9 = .ok (.iload_n 3, 1) := by decide +kernel
theorem d_C_access_10 : decode b_C_access 10 = .ok (.iconst 1, 1) := by decide +kernel
theorem d_C_access_11 : decode b_C_access 11 = .ok (.if_icmp .eq 13, 3) := by decide +kernel
theorem d_C_access_14 : decode b_C_access 14 = .ok (.new 61, 3) := by decide +kernel
theorem d_C_access_17 : decode b_C_access 17 = .ok (.dup, 1) := by decide +kernel
theorem d_C_access_18 : decode b_C_access 18 = .ok (.ldc 63, 2) := by decide +kernel
theorem d_C_access_20 : decode b_C_access 20 = .ok (.invokespecial 65, 3) := by decide +kernel
theorem d_C_access_23 : decode b_C_access 23 = .ok (.athrow, 1) := by decide +kernel
theorem d_C_access_24 : decode b_C_access 24 = .ok (.aload_n 0, 1) := by decide +kernel
theorem d_C_access_25 : decode b_C_access 25 = .ok (.iload_n 1, 1) := by decide +kernel
theorem d_C_access_26 : decode b_C_access 26 = .ok (.iconst 0, 1) := by decide +kernel
theorem d_C_access_27 : decode b_C_access 27 = .ok (.invokevirtual 68, 3) := by decide +kernel
theorem d_C_access_30 : decode b_C_access 30 = .ok (.iconst 1, 1) := by decide +kernel
theorem d_C_access_31 : decode b_C_access 31 = .ok (.istore 4, 2) := by decide +kernel
theorem d_C_access_33 : decode b_C_access 33 = .ok (.aload_n 0, 1) := by decide +kernel
theorem d_C_access_34 : decode b_C_access 34 = .ok (.getfield 27, 3) := by decide +kernel
theorem d_C_access_37 : decode b_C_access 37 = .ok (.iload_n 1, 1) := by decide +kernel
theorem d_C_access_38 : decode b_C_access 38 = .ok (.iload_n 2, 1) := by decide +kernel
theorem d_C_access_39 : decode b_C_access 39 = .ok (.invokevirtual 72, 3) := by decide +kernel
theorem d_C_access_42 : decode b_C_access 42 = .ok (.istore 5, 2) := by decide +kernel
theorem d_C_access_44 : decode b_C_access 44 = .ok (.iload 5, 2) := by decide +kernel
theorem d_C_access_46 : decode b_C_access 46 = .ok (.iconst (-1), 1) := by decide +kernel
theorem d_C_access_47 : decode b_C_access 47 = .ok (.if_icmp .eq 21, 3) := by decide +kernel
theorem d_C_access_50 : decode b_C_access 50 = .ok (.aload_n 0, 1) := by decide +kernel
theorem d_C_access_51 : decode b_C_access 51 = .ok (.getfield 27, 3) := by decide +kernel
theorem d_C_access_54 : decode b_C_access 54 = .ok (.iload 5, 2) := by decide +kernel
theorem d_C_access_56 : decode b_C_access 56 = .ok (.invokevirtual 75, 3) := by decide +kernel
theorem d_C_access_59 : decode b_C_access 59 = .ok (.aload_n 0, 1) := by decide +kernel
theorem d_C_access_60 : decode b_C_access 60 = .ok (.iload_n 1, 1) := by decide +kernel
theorem d_C_access_61 : decode b_C_access 61 = .ok (.iconst 1, 1) := by decide +kernel
theorem d_C_access_62 : decode b_C_access 62 = .ok (.invokevirtual 68, 3) := by decide +kernel
theorem d_C_access_65 : decode b_C_access 65 = .ok (.goto 16, 3) := by decide +kernel
theorem d_C_access_68 : decode b_C_access 68 = .ok (.aload_n 0, 1) := by decide +kernel
theorem d_C_access_69 : decode b_C_access 69 = .ok (.iload_n 2, 1) := by decide +kernel
theorem d_C_access_70 : decode b_C_access 70 = .ok (.invokevirtual 78, 3) := by decide +kernel
theorem d_C_access_73 : decode b_C_access 73 = .ok (.aload_n 0, 1) := by decide +kernel
theorem d_C_access_74 : decode b_C_access 74 = .ok (.iload_n 1, 1) := by decide +kernel
theorem d_C_access_75 : decode b_C_access 75 = .ok (.iload_n 2, 1) := by decide +kernel
theorem d_C_access_76 : decode b_C_access 76 = .ok (.invokevirtual 81, 3) := by decide +kernel
theorem d_C_access_79 : decode b_C_access 79 = .ok (.istore 4, 2) := by decide +kernel
theorem d_C_access_81 : decode b_C_access 81 = .ok (.iload_n 3, 1) := by decide +kernel
theorem d_C_access_82 : decode b_C_access 82 = .ok (.iconst 1, 1) := by decide +kernel
theorem d_C_access_83 : decode b_C_access 83 = .ok (.if_icmp .ne 15, 3) := by decide +kernel
theorem d_C_access_86 : decode b_C_access 86 = .ok (.aload_n 0, 1) := by decide +kernel
theorem d_C_access_87 : decode b_C_access 87 = .ok (.iload_n 1, 1) := by decide +kernel
theorem d_C_access_88 : decode b_C_access 88 = .ok (.iconst 4, 1) := by decide +kernel
theorem d_C_access_89 : decode b_C_access 89 = .ok (.invokevirtual 68, 3) := by decide +kernel
theorem d_C_access_92 : decode b_C_access 92 = .ok (.aload_n 0, 1) := by decide +kernel
theorem d_C_access_93 : decode b_C_access 93 = .ok (.iload_n 1, 1) := by decide +kernel
theorem d_C_access_94 : decode b_C_access 94 = .ok (.iload_n 2, 1) := by decide +kernel
theorem d_C_access_95 : decode b_C_access 95 = .ok (.invokevirtual 84, 3) := by decide +kernel
theorem d_C_access_98 : decode b_C_access 98 = .ok (.iload 4, 2) := by decide +kernel
theorem d_C_access_100 : decode b_C_access 100 = .ok (.ireturn, 1) := by decide +kernel
theorem d_C_quota_0 : decode b_C_quota 0 = .ok (.aload_n 0, 1) := by decide +kernel
theorem d_C_quota_1 : decode b_C_quota 1 = .ok (.iload_n 1, 1) := by decide +kernel
theorem d_C_quota_2 : decode b_C_quota 2 = .ok (.invokevirtual 57, 3) := by decide +kernel
theorem d_C_quota_5 : decode b_C_quota 5 = .ok (.iload_n 2, 1) := by decide +kernel
theorem d_C_quota_6 : decode b_C_quota 6 = .ok (.ifCond .lt 8, 3) := by decide +kernel
theorem d_C_quota_9 : decode b_C_quota 9 = .ok (.iload_n 2, 1) := by decide +kernel
theorem d_C_quota_10 : decode b_C_quota 10 = .ok (.iconst 4, 1) := by decide +kernel
theorem d_C_quota_11 : decode b_C_quota 11 = .ok (.if_icmp .le 13, 3) := by decide +kernel
theorem d_C_quota_14 : decode b_C_quota 14 = .ok (.new 61, 3) := by decide +kernel
theorem d_C_quota_17 : decode b_C_quota 17 = .ok (.dup, 1) := by decide +kernel
theorem d_C_quota_18 : decode b_C_quota 18 = .ok (.ldc 87, 2) := by decide +kernel
theorem d_C_quota_20 : decode b_C_quota 20 = .ok (.invokespecial 65, 3) := by decide +kernel
theorem d_C_quota_23 : decode b_C_quota 23 = .ok (.athrow, 1) := by decide +kernel
theorem d_C_quota_24 : decode b_C_quota 24 = .ok (.aload_n 0, 1) := by decide +kernel
theorem d_C_quota_25 : decode b_C_quota 25 = .ok (.getfield 41, 3) := by decide +kernel
theorem d_C_quota_28 : decode b_C_quota 28 = .ok (.iload_n 1, 1) := by decide +kernel
theorem d_C_quota_29 : decode b_C_quota 29 = .ok (.iaload, 1) := by decide +kernel
theorem d_C_quota_30 : decode b_C_quota 30 = .ok (.istore_n 3, 1) := by decide +kernel
theorem d_C_quota_31 : decode b_C_quota 31 = .ok (.aload_n 0, 1) := by decide +kernel
theorem d_C_quota_32 : decode b_C_quota 32 = .ok (.getfield 41, 3) := by decide +kernel
theorem d_C_quota_35 : decode b_C_quota 35 = .ok (.iload_n 1, 1) := by decide +kernel
theorem d_C_quota_36 : decode b_C_quota 36 = .ok (.iload_n 2, 1) := by decide +kernel
theorem d_C_quota_37 : decode b_C_quota 37 = .ok (.iastore, 1) := by decide +kernel
theorem d_C_quota_38 : decode b_C_quota 38 = .ok (.iload_n 3, 1) := by decide +kernel
theorem d_C_quota_39 : decode b_C_quota 39 = .ok (.ireturn, 1) := by decide +kernel
theorem d_C_bypass_0 : decode b_C_bypass 0 = .ok (.aload_n 0, 1) := by decide +kernel
theorem d_C_bypass_1 : decode b_C_bypass 1 = .ok (.getfield 48, 3) := by decide +kernel
theorem d_C_bypass_4 : decode b_C_bypass 4 = .ok (.aload_n 0, 1) := by decide +kernel
theorem d_C_bypass_5 : decode b_C_bypass 5 = .ok (.getfield 51, 3) := by decide +kernel
theorem d_C_bypass_8 : decode b_C_bypass 8 = .ok (.if_icmp .gt 7, 3) := by decide +kernel
theorem d_C_bypass_11 : decode b_C_bypass 11 = .ok (.iconst 1, 1) := by decide +kernel
theorem d_C_bypass_12 : decode b_C_bypass 12 = .ok (.goto 4, 3) := by decide +kernel
theorem d_C_bypass_15 : decode b_C_bypass 15 = .ok (.iconst 0, 1) := by decide +kernel
theorem d_C_bypass_16 : decode b_C_bypass 16 = .ok (.istore_n 3, 1) := by decide +kernel
theorem d_C_bypass_17 : decode b_C_bypass 17 = .ok (.aload_n 0, 1) := by decide +kernel
theorem d_C_bypass_18 : decode b_C_bypass 18 = .ok (.iload_n 1, 1) := by decide +kernel
theorem d_C_bypass_19 : decode b_C_bypass 19 = .ok (.putfield 48, 3) := by decide +kernel
theorem d_C_bypass_22 : decode b_C_bypass 22 = .ok (.aload_n 0, 1) := by decide +kernel
theorem d_C_bypass_23 : decode b_C_bypass 23 = .ok (.iload_n 2, 1) := by decide +kernel
theorem d_C_bypass_24 : decode b_C_bypass 24 = .ok (.putfield 51, 3) := by decide +kernel
theorem d_C_bypass_27 : decode b_C_bypass 27 = .ok (.iload_n 3, 1) := by decide +kernel
theorem d_C_bypass_28 : decode b_C_bypass 28 = .ok (.ireturn, 1) := by decide +kernel
theorem d_C_flush_0 : decode b_C_flush 0 = .ok (.aload_n 0, 1) := by decide +kernel
theorem d_C_flush_1 : decode b_C_flush 1 = .ok (.getfield 37, 3) := by decide +kernel
theorem d_C_flush_4 : decode b_C_flush 4 = .ok (.getfield 89, 3) := by decide +kernel
theorem d_C_flush_7 : decode b_C_flush 7 = .ok (.istore_n 1, 1) := by decide +kernel
theorem d_C_flush_8 : decode b_C_flush 8 = .ok (.iconst 0, 1) := by decide +kernel
theorem d_C_flush_9 : decode b_C_flush 9 = .ok (.istore_n 2, 1) := by decide +kernel
theorem d_C_flush_10 : decode b_C_flush 10 = .ok (.iload_n 2, 1) := by decide +kernel
theorem d_C_flush_11 : decode b_C_flush 11 = .ok (.aload_n 0, 1) := by decide +kernel
theorem d_C_flush_12 : decode b_C_flush 12 = .ok (.getfield 31, 3) := by decide +kernel
theorem d_C_flush_15 : decode b_C_flush 15 = .ok (.invokevirtual 92, 3) := by decide +kernel
theorem d_C_flush_18 : decode b_C_flush 18 = .ok (.if_icmp .ge 59, 3) := by decide +kernel
theorem d_C_flush_21 : decode b_C_flush 21 = .ok (.aload_n 0, 1) := by decide +kernel
theorem d_C_flush_22 : decode b_C_flush 22 = .ok (.getfield 31, 3) := by decide +kernel
theorem d_C_flush_25 : decode b_C_flush 25 = .ok (.iload_n 2, 1) := by decide +kernel
theorem d_C_flush_26 : decode b_C_flush 26 = .ok (.invokevirtual 96, 3) := by decide +kernel
theorem d_C_flush_29 : decode b_C_flush 29 = .ok (.ifCond .eq 42, 3) := by decide +kernel
theorem d_C_flush_32 : decode b_C_flush 32 = .ok (.aload_n 0, 1) := by decide +kernel
theorem d_C_flush_33 : decode b_C_flush 33 = .ok (.aload_n 0, 1) := by decide +kernel
theorem d_C_flush_34 : decode b_C_flush 34 = .ok (.getfield 31, 3) := by decide +kernel
theorem d_C_flush_37 : decode b_C_flush 37 = .ok (.iload_n 2, 1) := by decide +kernel
theorem d_C_flush_38 : decode b_C_flush 38 = .ok (.invokevirtual 100, 3) := by decide +kernel
theorem d_C_flush_41 : decode b_C_flush 41 = .ok (.invokevirtual 104, 3) := by decide +kernel
theorem d_C_flush_44 : decode b_C_flush 44 = .ok (.iconst (-1), 1) := by decide +kernel
theorem d_C_flush_45 : decode b_C_flush 45 = .ok (.if_icmp .ne 26, 3) := by decide +kernel
theorem d_C_flush_48 : decode b_C_flush 48 = .ok (.aload_n 0, 1) := by decide +kernel
theorem d_C_flush_49 : decode b_C_flush 49 = .ok (.getfield 37, 3) := by decide +kernel
theorem d_C_flush_52 : decode b_C_flush 52 = .ok (.aload_n 0, 1) := by decide +kernel
theorem d_C_flush_53 : decode b_C_flush 53 = .ok (.getfield 31, 3) := by decide +kernel
theorem d_C_flush_56 : decode b_C_flush 56 = .ok (.iload_n 2, 1) := by decide +kernel
theorem d_C_flush_57 : decode b_C_flush 57 = .ok (.invokevirtual 100, 3) := by decide +kernel
theorem d_C_flush_60 : decode b_C_flush 60 = .ok (.aload_n 0, 1) := by decide +kernel
theorem d_C_flush_61 : decode b_C_flush 61 = .ok (.getfield 31, 3) := by decide +kernel
theorem d_C_flush_64 : decode b_C_flush 64 = .ok (.iload_n 2, 1) := by decide +kernel
theorem d_C_flush_65 : decode b_C_flush 65 = .ok (.invokevirtual 107, 3) := by decide +kernel
theorem d_C_flush_68 : decode b_C_flush 68 = .ok (.invokevirtual 110, 3) := by decide +kernel
theorem d_C_flush_71 : decode b_C_flush 71 = .ok (.iinc 2 1, 3) := by decide +kernel
theorem d_C_flush_74 : decode b_C_flush 74 = .ok (.goto (-64), 3) := by decide +kernel
theorem d_C_flush_77 : decode b_C_flush 77 = .ok (.iconst 0, 1) := by decide +kernel
theorem d_C_flush_78 : decode b_C_flush 78 = .ok (.istore_n 2, 1) := by decide +kernel
theorem d_C_flush_79 : decode b_C_flush 79 = .ok (.iload_n 2, 1) := by decide +kernel
theorem d_C_flush_80 : decode b_C_flush 80 = .ok (.aload_n 0, 1) := by decide +kernel
theorem d_C_flush_81 : decode b_C_flush 81 = .ok (.getfield 27, 3) := by decide +kernel
theorem d_C_flush_84 : decode b_C_flush 84 = .ok (.invokevirtual 92, 3) := by decide +kernel
theorem d_C_flush_87 : decode b_C_flush 87 = .ok (.if_icmp .ge 43, 3) := by decide +kernel
theorem d_C_flush_90 : decode b_C_flush 90 = .ok (.aload_n 0, 1) := by decide +kernel
theorem d_C_flush_91 : decode b_C_flush 91 = .ok (.getfield 27, 3) := by decide +kernel
theorem d_C_flush_94 : decode b_C_flush 94 = .ok (.iload_n 2, 1) := by decide +kernel
theorem d_C_flush_95 : decode b_C_flush 95 = .ok (.invokevirtual 96, 3) := by decide +kernel
theorem d_C_flush_98 : decode b_C_flush 98 = .ok (.ifCond .eq 26, 3) := by decide +kernel
theorem d_C_flush_101 : decode b_C_flush 101 = .ok (.aload_n 0, 1) := by decide +kernel
theorem d_C_flush_102 : decode b_C_flush 102 = .ok (.getfield 37, 3) := by decide +kernel
theorem d_C_flush_105 : decode b_C_flush 105 = .ok (.aload_n 0, 1) := by decide +kernel
theorem d_C_flush_106 : decode b_C_flush 106 = .ok (.getfield 27, 3) := by decide +kernel
theorem d_C_flush_109 : decode b_C_flush 109 = .ok (.iload_n 2, 1) := by decide +kernel
theorem d_C_flush_110 : decode b_C_flush 110 = .ok (.invokevirtual 100, 3) := by decide +kernel
theorem d_C_flush_113 : decode b_C_flush 113 = .ok (.aload_n 0, 1) := by decide +kernel
theorem d_C_flush_114 : decode b_C_flush 114 = .ok (.getfield 27, 3) := by decide +kernel
theorem d_C_flush_117 : decode b_C_flush 117 = .ok (.iload_n 2, 1) := by decide +kernel
theorem d_C_flush_118 : decode b_C_flush 118 = .ok (.invokevirtual 107, 3) := by decide +kernel
theorem d_C_flush_121 : decode b_C_flush 121 = .ok (.invokevirtual 110, 3) := by decide +kernel
theorem d_C_flush_124 : decode b_C_flush 124 = .ok (.iinc 2 1, 3) := by decide +kernel
theorem d_C_flush_127 : decode b_C_flush 127 = .ok (.goto (-48), 3) := by decide +kernel
theorem d_C_flush_130 : decode b_C_flush 130 = .ok (.aload_n 0, 1) := by decide +kernel
theorem d_C_flush_131 : decode b_C_flush 131 = .ok (.getfield 27, 3) := by decide +kernel
theorem d_C_flush_134 : decode b_C_flush 134 = .ok (.invokevirtual 113, 3) := by decide +kernel
theorem d_C_flush_137 : decode b_C_flush 137 = .ok (.aload_n 0, 1) := by decide +kernel
theorem d_C_flush_138 : decode b_C_flush 138 = .ok (.getfield 31, 3) := by decide +kernel
theorem d_C_flush_141 : decode b_C_flush 141 = .ok (.invokevirtual 113, 3) := by decide +kernel
theorem d_C_flush_144 : decode b_C_flush 144 = .ok (.aload_n 0, 1) := by decide +kernel
theorem d_C_flush_145 : decode b_C_flush 145 = .ok (.getfield 37, 3) := by decide +kernel
theorem d_C_flush_148 : decode b_C_flush 148 = .ok (.getfield 89, 3) := by decide +kernel
theorem d_C_flush_151 : decode b_C_flush 151 = .ok (.iload_n 1, 1) := by decide +kernel
theorem d_C_flush_152 : decode b_C_flush 152 = .ok (.isub, 1) := by decide +kernel
theorem d_C_flush_153 : decode b_C_flush 153 = .ok (.ireturn, 1) := by decide +kernel
theorem d_C_holds_0 : decode b_C_holds 0 = .ok (.aload_n 0, 1) := by decide +kernel
theorem d_C_holds_1 : decode b_C_holds 1 = .ok (.iload_n 1, 1) := by decide +kernel
theorem d_C_holds_2 : decode b_C_holds 2 = .ok (.invokevirtual 116, 3) := by decide +kernel
theorem d_C_holds_5 : decode b_C_holds 5 = .ok (.aload_n 0, 1) := by decide +kernel
theorem d_C_holds_6 : decode b_C_holds 6 = .ok (.iload_n 1, 1) := by decide +kernel
theorem d_C_holds_7 : decode b_C_holds 7 = .ok (.invokevirtual 119, 3) := by decide +kernel
theorem d_C_holds_10 : decode b_C_holds 10 = .ok (.astore_n 3, 1) := by decide +kernel
theorem d_C_holds_11 : decode b_C_holds 11 = .ok (.aload_n 3, 1) := by decide +kernel
theorem d_C_holds_12 : decode b_C_holds 12 = .ok (.iload_n 1, 1) := by decide +kernel
theorem d_C_holds_13 : decode b_C_holds 13 = .ok (.invokestatic 123, 3) := by decide +kernel
theorem d_C_holds_16 : decode b_C_holds 16 = .ok (.iload_n 2, 1) := by decide +kernel
theorem d_C_holds_17 : decode b_C_holds 17 = .ok (.invokevirtual 72, 3) := by decide +kernel
theorem d_C_holds_20 : decode b_C_holds 20 = .ok (.istore 4, 2) := by decide +kernel
theorem d_C_holds_22 : decode b_C_holds 22 = .ok (.iload 4, 2) := by decide +kernel
theorem d_C_holds_24 : decode b_C_holds 24 = .ok (.iconst (-1), 1) := by decide +kernel
theorem d_C_holds_25 : decode b_C_holds 25 = .ok (.if_icmp .ne 5, 3) := by decide +kernel
theorem d_C_holds_28 : decode b_C_holds 28 = .ok (.iconst 0, 1) := by decide +kernel
theorem d_C_holds_29 : decode b_C_holds 29 = .ok (.ireturn, 1) := by decide +kernel
theorem d_C_holds_30 : decode b_C_holds 30 = .ok (.aload_n 3, 1) := by decide +kernel
theorem d_C_holds_31 : decode b_C_holds 31 = .ok (.iload 4, 2) := by decide +kernel
theorem d_C_holds_33 : decode b_C_holds 33 = .ok (.invokevirtual 96, 3) := by decide +kernel
theorem d_C_holds_36 : decode b_C_holds 36 = .ok (.ifCond .eq 7, 3) := by decide +kernel
theorem d_C_holds_39 : decode b_C_holds 39 = .ok (.iconst 2, 1) := by decide +kernel
theorem d_C_holds_40 : decode b_C_holds 40 = .ok (.goto 4, 3) := by decide +kernel
theorem d_C_holds_43 : decode b_C_holds 43 = .ok (.iconst 1, 1) := by decide +kernel
theorem d_C_holds_44 : decode b_C_holds 44 = .ok (.ireturn, 1) := by decide +kernel
theorem d_C_version_0 : decode b_C_version 0 = .ok (.aload_n 0, 1) := by decide +kernel
theorem d_C_version_1 : decode b_C_version 1 = .ok (.iload_n 1, 1) := by decide +kernel
theorem d_C_version_2 : decode b_C_version 2 = .ok (.invokevirtual 57, 3) := by decide +kernel
theorem d_C_version_5 : decode b_C_version 5 = .ok (.aload_n 0, 1) := by decide +kernel
theorem d_C_version_6 : decode b_C_version 6 = .ok (.getfield 27, 3) := by decide +kernel
theorem d_C_version_9 : decode b_C_version 9 = .ok (.iload_n 1, 1) := by decide +kernel
theorem d_C_version_10 : decode b_C_version 10 = .ok (.iload_n 2, 1) := by decide +kernel
theorem d_C_version_11 : decode b_C_version 11 = .ok (.invokevirtual 72, 3) := by decide +kernel
theorem d_C_version_14 : decode b_C_version 14 = .ok (.istore_n 3, 1) := by decide +kernel
theorem d_C_version_15 : decode b_C_version 15 = .ok (.iload_n 3, 1) := by decide +kernel
theorem d_C_version_16 : decode b_C_version 16 = .ok (.iconst (-1), 1) := by decide +kernel
theorem d_C_version_17 : decode b_C_version 17 = .ok (.if_icmp .eq 12, 3) := by decide +kernel
theorem d_C_version_20 : decode b_C_version 20 = .ok (.aload_n 0, 1) := by decide +kernel
theorem d_C_version_21 : decode b_C_version 21 = .ok (.getfield 27, 3) := by decide +kernel
theorem d_C_version_24 : decode b_C_version 24 = .ok (.iload_n 3, 1) := by decide +kernel
theorem d_C_version_25 : decode b_C_version 25 = .ok (.invokevirtual 107, 3) := by decide +kernel
theorem d_C_version_28 : decode b_C_version 28 = .ok (.ireturn, 1) := by decide +kernel
theorem d_C_version_29 : decode b_C_version 29 = .ok (.aload_n 0, 1) := by decide +kernel
theorem d_C_version_30 : decode b_C_version 30 = .ok (.iload_n 2, 1) := by decide +kernel
theorem d_C_version_31 : decode b_C_version 31 = .ok (.invokevirtual 104, 3) := by decide +kernel
theorem d_C_version_34 : decode b_C_version 34 = .ok (.istore 4, 2) := by decide +kernel
theorem d_C_version_36 : decode b_C_version 36 = .ok (.iload 4, 2) := by decide +kernel
theorem d_C_version_38 : decode b_C_version 38 = .ok (.iconst (-1), 1) := by decide +kernel
theorem d_C_version_39 : decode b_C_version 39 = .ok (.if_icmp .eq 13, 3) := by decide +kernel
theorem d_C_version_42 : decode b_C_version 42 = .ok (.aload_n 0, 1) := by decide +kernel
theorem d_C_version_43 : decode b_C_version 43 = .ok (.getfield 27, 3) := by decide +kernel
theorem d_C_version_46 : decode b_C_version 46 = .ok (.iload 4, 2) := by decide +kernel
theorem d_C_version_48 : decode b_C_version 48 = .ok (.invokevirtual 107, 3) := by decide +kernel
theorem d_C_version_51 : decode b_C_version 51 = .ok (.ireturn, 1) := by decide +kernel
theorem d_C_version_52 : decode b_C_version 52 = .ok (.aload_n 0, 1) := by decide +kernel
theorem d_C_version_53 : decode b_C_version 53 = .ok (.getfield 31, 3) := by decide +kernel
theorem d_C_version_56 : decode b_C_version 56 = .ok (.iconst 0, 1) := by decide +kernel
theorem d_C_version_57 : decode b_C_version 57 = .ok (.iload_n 2, 1) := by decide +kernel
theorem d_C_version_58 : decode b_C_version 58 = .ok (.invokevirtual 72, 3) := by decide +kernel
theorem d_C_version_61 : decode b_C_version 61 = .ok (.istore 5, 2) := by decide +kernel
theorem d_C_version_63 : decode b_C_version 63 = .ok (.iload 5, 2) := by decide +kernel
theorem d_C_version_65 : decode b_C_version 65 = .ok (.iconst (-1), 1) := by decide +kernel
theorem d_C_version_66 : decode b_C_version 66 = .ok (.if_icmp .eq 15, 3) := by decide +kernel
theorem d_C_version_69 : decode b_C_version 69 = .ok (.aload_n 0, 1) := by decide +kernel
theorem d_C_version_70 : decode b_C_version 70 = .ok (.getfield 31, 3) := by decide +kernel
theorem d_C_version_73 : decode b_C_version 73 = .ok (.iload 5, 2) := by decide +kernel
theorem d_C_version_75 : decode b_C_version 75 = .ok (.invokevirtual 107, 3) := by decide +kernel
theorem d_C_version_78 : decode b_C_version 78 = .ok (.goto 11, 3) := by decide +kernel
theorem d_C_version_81 : decode b_C_version 81 = .ok (.aload_n 0, 1) := by decide +kernel
theorem d_C_version_82 : decode b_C_version 82 = .ok (.getfield 37, 3) := by decide +kernel
theorem d_C_version_85 : decode b_C_version 85 = .ok (.iload_n 2, 1) := by decide +kernel
theorem d_C_version_86 : decode b_C_version 86 = .ok (.invokevirtual 126, 3) := by decide +kernel
theorem d_C_version_89 : decode b_C_version 89 = .ok (.ireturn, 1) := by decide +kernel
theorem d_C_memory_0 : decode b_C_memory 0 = .ok (.aload_n 0, 1) := by decide +kernel
theorem d_C_memory_1 : decode b_C_memory 1 = .ok (.getfield 37, 3) := by decide +kernel
theorem d_C_memory_4 : decode b_C_memory 4 = .ok (.iload_n 1, 1) := by decide +kernel
theorem d_C_memory_5 : decode b_C_memory 5 = .ok (.invokevirtual 126, 3) := by decide +kernel
theorem d_C_memory_8 : decode b_C_memory 8 = .ok (.ireturn, 1) := by decide +kernel
theorem d_C_line_0 : decode b_C_line 0 = .ok (.aload_n 0, 1) := by decide +kernel
theorem d_C_line_1 : decode b_C_line 1 = .ok (.iload_n 1, 1) := by decide +kernel
theorem d_C_line_2 : decode b_C_line 2 = .ok (.invokevirtual 116, 3) := by decide +kernel
theorem d_C_line_5 : decode b_C_line 5 = .ok (.aload_n 0, 1) := by decide +kernel
theorem d_C_line_6 : decode b_C_line 6 = .ok (.iload_n 1, 1) := by decide +kernel
theorem d_C_line_7 : decode b_C_line 7 = .ok (.invokevirtual 119, 3) := by decide +kernel
theorem d_C_line_10 : decode b_C_line 10 = .ok (.astore 4, 2) := by decide +kernel
theorem d_C_line_12 : decode b_C_line 12 = .ok (.iload_n 2, 1) := by decide +kernel
theorem d_C_line_13 : decode b_C_line 13 = .ok (.ifCond .lt 12, 3) := by decide +kernel
theorem d_C_line_16 : decode b_C_line 16 = .ok (.iload_n 2, 1) := by decide +kernel
theorem d_C_line_17 : decode b_C_line 17 = .ok (.aload 4, 2) := by decide +kernel
theorem d_C_line_19 : decode b_C_line 19 = .ok (.getfield 129, 3) := by decide +kernel
theorem d_C_line_22 : decode b_C_line 22 = .ok (.if_icmp .lt 13, 3) := by decide +kernel
theorem d_C_line_25 : decode b_C_line 25 = .ok (.new 132, 3) := by decide +kernel
theorem d_C_line_28 : decode b_C_line 28 = .ok (.dup, 1) := by decide +kernel
theorem d_C_line_29 : decode b_C_line 29 = .ok (.ldc 134, 2) := by decide +kernel
theorem d_C_line_31 : decode b_C_line 31 = .ok (.invokespecial 136, 3) := by decide +kernel
theorem d_C_line_34 : decode b_C_line 34 = .ok (.athrow, 1) := by decide +kernel
theorem d_C_line_35 : decode b_C_line 35 = .ok (.iload_n 1, 1) := by decide +kernel
theorem d_C_line_36 : decode b_C_line 36 = .ok (.invokestatic 123, 3) := by decide +kernel
theorem d_C_line_39 : decode b_C_line 39 = .ok (.aload 4, 2) := by decide +kernel
theorem d_C_line_41 : decode b_C_line 41 = .ok (.getfield 129, 3) := by decide +kernel
theorem d_C_line_44 : decode b_C_line 44 = .ok (.imul, 1) := by decide +kernel
theorem d_C_line_45 : decode b_C_line 45 = .ok (.iload_n 2, 1) := by decide +kernel
theorem d_C_line_46 : decode b_C_line 46 = .ok (.iadd, 1) := by decide +kernel
theorem d_C_line_47 : decode b_C_line 47 = .ok (.istore 5, 2) := by decide +kernel
theorem d_C_line_49 : decode b_C_line 49 = .ok (.iload_n 3, 1) := by decide +kernel
theorem d_C_line_50 : decode b_C_line 50 = .ok (.ifCond .lt 14, 3) := by decide +kernel
theorem d_C_line_53 : decode b_C_line 53 = .ok (.iload_n 3, 1) := by decide +kernel
theorem d_C_line_54 : decode b_C_line 54 = .ok (.aload 4, 2) := by decide +kernel
theorem d_C_line_56 : decode b_C_line 56 = .ok (.iload 5, 2) := by decide +kernel
theorem d_C_line_58 : decode b_C_line 58 = .ok (.invokevirtual 137, 3) := by decide +kernel
theorem d_C_line_61 : decode b_C_line 61 = .ok (.if_icmp .lt 13, 3) := by decide +kernel
theorem d_C_line_64 : decode b_C_line 64 = .ok (.new 132, 3) := by decide +kernel
theorem d_C_line_67 : decode b_C_line 67 = .ok (.dup, 1) := by decide +kernel
theorem d_C_line_68 : decode b_C_line 68 = .ok (.ldc 140, 2) := by decide +kernel
theorem d_C_line_70 : decode b_C_line 70 = .ok (.invokespecial 136, 3) := by decide +kernel
theorem d_C_line_73 : decode b_C_line 73 = .ok (.athrow, 1) := by decide +kernel
theorem d_C_line_74 : decode b_C_line 74 = .ok (.aload 4, 2) := by decide +kernel
theorem d_C_line_76 : decode b_C_line 76 = .ok (.iload 5, 2) := by decide +kernel
theorem d_C_line_78 : decode b_C_line 78 = .ok (.aload 4, 2) := by decide +kernel
theorem d_C_line_80 : decode b_C_line 80 = .ok (.getfield 142, 3) := by decide +kernel
theorem d_C_line_83 : decode b_C_line 83 = .ok (.imul, 1) := by decide +kernel
theorem d_C_line_84 : decode b_C_line 84 = .ok (.iload_n 3, 1) := by decide +kernel
theorem d_C_line_85 : decode b_C_line 85 = .ok (.iadd, 1) := by decide +kernel
theorem d_C_line_86 : decode b_C_line 86 = .ok (.invokevirtual 100, 3) := by decide +kernel
theorem d_C_line_89 : decode b_C_line 89 = .ok (.ireturn, 1) := by decide +kernel
theorem d_C_owner_0 : decode b_C_owner 0 = .ok (.aload_n 0, 1) := by decide +kernel
theorem d_C_owner_1 : decode b_C_owner 1 = .ok (.getfield 31, 3) := by decide +kernel
theorem d_C_owner_4 : decode b_C_owner 4 = .ok (.iconst 0, 1) := by decide +kernel
theorem d_C_owner_5 : decode b_C_owner 5 = .ok (.iload_n 1, 1) := by decide +kernel
theorem d_C_owner_6 : decode b_C_owner 6 = .ok (.invokevirtual 72, 3) := by decide +kernel
theorem d_C_owner_9 : decode b_C_owner 9 = .ok (.istore_n 2, 1) := by decide +kernel
theorem d_C_owner_10 : decode b_C_owner 10 = .ok (.iload_n 2, 1) := by decide +kernel
theorem d_C_owner_11 : decode b_C_owner 11 = .ok (.iconst (-1), 1) := by decide +kernel
theorem d_C_owner_12 : decode b_C_owner 12 = .ok (.if_icmp .ne 7, 3) := by decide +kernel
theorem d_C_owner_15 : decode b_C_owner 15 = .ok (.iconst (-1), 1) := by decide +kernel
theorem d_C_owner_16 : decode b_C_owner 16 = .ok (.goto 11, 3) := by decide +kernel
theorem d_C_owner_19 : decode b_C_owner 19 = .ok (.aload_n 0, 1) := by decide +kernel
theorem d_C_owner_20 : decode b_C_owner 20 = .ok (.getfield 31, 3) := by decide +kernel
theorem d_C_owner_23 : decode b_C_owner 23 = .ok (.iload_n 2, 1) := by decide +kernel
theorem d_C_owner_24 : decode b_C_owner 24 = .ok (.invokevirtual 145, 3) := by decide +kernel
theorem d_C_owner_27 : decode b_C_owner 27 = .ok (.ireturn, 1) := by decide +kernel
theorem d_C_directory_0 : decode b_C_directory 0 = .ok (.iconst 0, 1) := by decide +kernel
theorem d_C_directory_1 : decode b_C_directory 1 = .ok (.istore_n 2, 1) := by decide +kernel
theorem d_C_directory_2 : decode b_C_directory 2 = .ok (.iconst 0, 1) := by decide +kernel
theorem d_C_directory_3 : decode b_C_directory 3 = .ok (.istore_n 3, 1) := by decide +kernel
theorem d_C_directory_4 : decode b_C_directory 4 = .ok (.iload_n 3, 1) := by decide +kernel
theorem d_C_directory_5 : decode b_C_directory 5 = .ok (.aload_n 0, 1) := by decide +kernel
theorem d_C_directory_6 : decode b_C_directory 6 = .ok (.getfield 15, 3) := by decide +kernel
theorem d_C_directory_9 : decode b_C_directory 9 = .ok (.if_icmp .ge 28, 3) := by decide +kernel
theorem d_C_directory_12 : decode b_C_directory 12 = .ok (.aload_n 0, 1) := by decide +kernel
theorem d_C_directory_13 : decode b_C_directory 13 = .ok (.getfield 27, 3) := by decide +kernel
theorem d_C_directory_16 : decode b_C_directory 16 = .ok (.iload_n 3, 1) := by decide +kernel
theorem d_C_directory_17 : decode b_C_directory 17 = .ok (.iload_n 1, 1) := by decide +kernel
theorem d_C_directory_18 : decode b_C_directory 18 = .ok (.invokevirtual 72, 3) := by decide +kernel
theorem d_C_directory_21 : decode b_C_directory 21 = .ok (.iconst (-1), 1) := by decide +kernel
theorem d_C_directory_22 : decode b_C_directory 22 = .ok (.if_icmp .eq 9, 3) := by decide +kernel
theorem d_C_directory_25 : decode b_C_directory 25 = .ok (.iload_n 2, 1) := by decide +kernel
theorem d_C_directory_26 : decode b_C_directory 26 = .ok (.iconst 1, 1) := by decide +kernel
theorem d_C_directory_27 : decode b_C_directory 27 = .ok (.iload_n 3, 1) := by decide +kernel
theorem d_C_directory_28 : decode b_C_directory 28 = .ok (.ishl, 1) := by decide +kernel
theorem d_C_directory_29 : decode b_C_directory 29 = .ok (.ior, 1) := by decide +kernel
theorem d_C_directory_30 : decode b_C_directory 30 = .ok (.istore_n 2, 1) := by decide +kernel
theorem d_C_directory_31 : decode b_C_directory 31 = .ok (.iinc 3 1, 3) := by decide +kernel
theorem d_C_directory_34 : decode b_C_directory 34 = .ok (.goto (-30), 3) := by decide +kernel
theorem d_C_directory_37 : decode b_C_directory 37 = .ok (.iload_n 2, 1) := by decide +kernel
theorem d_C_directory_38 : decode b_C_directory 38 = .ok (.ireturn, 1) := by decide +kernel
theorem d_C_core_0 : decode b_C_core 0 = .ok (.aload_n 0, 1) := by decide +kernel
theorem d_C_core_1 : decode b_C_core 1 = .ok (.iload_n 1, 1) := by decide +kernel
theorem d_C_core_2 : decode b_C_core 2 = .ok (.invokevirtual 57, 3) := by decide +kernel
theorem d_C_core_5 : decode b_C_core 5 = .ok (.iload_n 2, 1) := by decide +kernel
theorem d_C_core_6 : decode b_C_core 6 = .ok (.ifCond .lt 9, 3) := by decide +kernel
theorem d_C_core_9 : decode b_C_core 9 = .ok (.iload_n 2, 1) := by decide +kernel
theorem d_C_core_10 : decode b_C_core 10 = .ok (.bipush 7, 2) := by decide +kernel
theorem d_C_core_12 : decode b_C_core 12 = .ok (.if_icmp .le 13, 3) := by decide +kernel
theorem d_C_core_15 : decode b_C_core 15 = .ok (.new 132, 3) := by decide +kernel
theorem d_C_core_18 : decode b_C_core 18 = .ok (.dup, 1) := by decide +kernel
theorem d_C_core_19 : decode b_C_core 19 = .ok (.ldc 148, 2) := by decide +kernel
theorem d_C_core_21 : decode b_C_core 21 = .ok (.invokespecial 136, 3) := by decide +kernel
theorem d_C_core_24 : decode b_C_core 24 = .ok (.athrow, 1) := by decide +kernel
theorem d_C_core_25 : decode b_C_core 25 = .ok (.iload_n 2, 1) := by decide +kernel
theorem d_C_core_26 : decode b_C_core 26 = .ok (.bipush 7, 2) := by decide +kernel
theorem d_C_core_28 : decode b_C_core 28 = .ok (.if_icmp .ne 14, 3) := by decide +kernel
theorem d_C_core_31 : decode b_C_core 31 = .ok (.aload_n 0, 1) := by decide +kernel
theorem d_C_core_32 : decode b_C_core 32 = .ok (.getfield 31, 3) := by decide +kernel
theorem d_C_core_35 : decode b_C_core 35 = .ok (.iload_n 1, 1) := by decide +kernel
theorem d_C_core_36 : decode b_C_core 36 = .ok (.invokevirtual 150, 3) := by decide +kernel
theorem d_C_core_39 : decode b_C_core 39 = .ok (.goto 14, 3) := by decide +kernel
theorem d_C_core_42 : decode b_C_core 42 = .ok (.aload_n 0, 1) := by decide +kernel
theorem d_C_core_43 : decode b_C_core 43 = .ok (.getfield 45, 3) := by decide +kernel
theorem d_C_core_46 : decode b_C_core 46 = .ok (.iload_n 1, 1) := by decide +kernel
theorem d_C_core_47 : decode b_C_core 47 = .ok (.bipush 7, 2) := by decide +kernel
theorem d_C_core_49 : decode b_C_core 49 = .ok (.imul, 1) := by decide +kernel
theorem d_C_core_50 : decode b_C_core 50 = .ok (.iload_n 2, 1) := by decide +kernel
theorem d_C_core_51 : decode b_C_core 51 = .ok (.iadd, 1) := by decide +kernel
theorem d_C_core_52 : decode b_C_core 52 = .ok (.iaload, 1) := by decide +kernel
theorem d_C_core_53 : decode b_C_core 53 = .ok (.ireturn, 1) := by decide +kernel
theorem d_C_count_0 : decode b_C_count 0 = .ok (.iload_n 1, 1) := by decide +kernel
theorem d_C_count_1 : decode b_C_count 1 = .ok (.tableswitch 102 0 7 #[47, 55, 60, 68, 76, 81, 86, 94], 47) := by decide +kernel
theorem d_C_count_48 : decode b_C_count 48 = .ok (.aload_n 0, 1) := by decide +kernel
theorem d_C_count_49 : decode b_C_count 49 = .ok (.getfield 37, 3) := by decide +kernel
theorem d_C_count_52 : decode b_C_count 52 = .ok (.getfield 89, 3) := by decide +kernel
theorem d_C_count_55 : decode b_C_count 55 = .ok (.ireturn, 1) := by decide +kernel
theorem d_C_count_56 : decode b_C_count 56 = .ok (.aload_n 0, 1) := by decide +kernel
theorem d_C_count_57 : decode b_C_count 57 = .ok (.getfield 54, 3) := by decide +kernel
theorem d_C_count_60 : decode b_C_count 60 = .ok (.ireturn, 1) := by decide +kernel
theorem d_C_count_61 : decode b_C_count 61 = .ok (.aload_n 0, 1) := by decide +kernel
theorem d_C_count_62 : decode b_C_count 62 = .ok (.getfield 27, 3) := by decide +kernel
theorem d_C_count_65 : decode b_C_count 65 = .ok (.invokevirtual 153, 3) := by decide +kernel
theorem d_C_count_68 : decode b_C_count 68 = .ok (.ireturn, 1) := by decide +kernel
theorem d_C_count_69 : decode b_C_count 69 = .ok (.aload_n 0, 1) := by decide +kernel
theorem d_C_count_70 : decode b_C_count 70 = .ok (.getfield 31, 3) := by decide +kernel
theorem d_C_count_73 : decode b_C_count 73 = .ok (.invokevirtual 153, 3) := by decide +kernel
theorem d_C_count_76 : decode b_C_count 76 = .ok (.ireturn, 1) := by decide +kernel
theorem d_C_count_77 : decode b_C_count 77 = .ok (.aload_n 0, 1) := by decide +kernel
theorem d_C_count_78 : decode b_C_count 78 = .ok (.getfield 15, 3) := by decide +kernel
theorem d_C_count_81 : decode b_C_count 81 = .ok (.ireturn, 1) := by decide +kernel
theorem d_C_count_82 : decode b_C_count 82 = .ok (.aload_n 0, 1) := by decide +kernel
theorem d_C_count_83 : decode b_C_count 83 = .ok (.getfield 19, 3) := by decide +kernel
theorem d_C_count_86 : decode b_C_count 86 = .ok (.ireturn, 1) := by decide +kernel
theorem d_C_count_87 : decode b_C_count 87 = .ok (.aload_n 0, 1) := by decide +kernel
theorem d_C_count_88 : decode b_C_count 88 = .ok (.getfield 27, 3) := by decide +kernel
theorem d_C_count_91 : decode b_C_count 91 = .ok (.getfield 129, 3) := by decide +kernel
theorem d_C_count_94 : decode b_C_count 94 = .ok (.ireturn, 1) := by decide +kernel
theorem d_C_count_95 : decode b_C_count 95 = .ok (.aload_n 0, 1) := by decide +kernel
theorem d_C_count_96 : decode b_C_count 96 = .ok (.getfield 31, 3) := by decide +kernel
theorem d_C_count_99 : decode b_C_count 99 = .ok (.getfield 129, 3) := by decide +kernel
theorem d_C_count_102 : decode b_C_count 102 = .ok (.ireturn, 1) := by decide +kernel
theorem d_C_count_103 : decode b_C_count 103 = .ok (.iconst (-1), 1) := by decide +kernel
theorem d_C_count_104 : decode b_C_count 104 = .ok (.ireturn, 1) := by decide +kernel
theorem d_C_requireCore_0 : decode b_C_requireCore 0 = .ok (.iload_n 1, 1) := by decide +kernel
theorem d_C_requireCore_1 : decode b_C_requireCore 1 = .ok (.ifCond .lt 11, 3) := by decide +kernel
theorem d_C_requireCore_4 : decode b_C_requireCore 4 = .ok (.iload_n 1, 1) := by decide +kernel
theorem d_C_requireCore_5 : decode b_C_requireCore 5 = .ok (.aload_n 0, 1) := by decide +kernel
theorem d_C_requireCore_6 : decode b_C_requireCore 6 = .ok (.getfield 15, 3) := by decide +kernel
theorem d_C_requireCore_9 : decode b_C_requireCore 9 = .ok (.if_icmp .lt 13, 3) := by decide +kernel
theorem d_C_requireCore_12 : decode b_C_requireCore 12 = .ok (.new 132, 3) := by decide +kernel
theorem d_C_requireCore_15 : decode b_C_requireCore 15 = .ok (.dup, 1) := by decide +kernel
theorem d_C_requireCore_16 : decode b_C_requireCore 16 = .ok (.ldc 156, 2) := by decide +kernel
theorem d_C_requireCore_18 : decode b_C_requireCore 18 = .ok (.invokespecial 136, 3) := by decide +kernel
theorem d_C_requireCore_21 : decode b_C_requireCore 21 = .ok (.athrow, 1) := by decide +kernel
theorem d_C_requireCore_22 : decode b_C_requireCore 22 = .ok (.return_, 1) := by decide +kernel
theorem d_C_requireCoreOrNone_0 : decode b_C_requireCoreOrNone 0 = .ok (.iload_n 1, 1) := by decide +kernel
theorem d_C_requireCoreOrNone_1 : decode b_C_requireCoreOrNone 1 = .ok (.iconst (-1), 1) := by decide +kernel
theorem d_C_requireCoreOrNone_2 : decode b_C_requireCoreOrNone 2 = .ok (.if_icmp .eq 8, 3) := by decide +kernel
theorem d_C_requireCoreOrNone_5 : decode b_C_requireCoreOrNone 5 = .ok (.aload_n 0, 1) := by decide +kernel
theorem d_C_requireCoreOrNone_6 : decode b_C_requireCoreOrNone 6 = .ok (.iload_n 1, 1) := by decide +kernel
theorem d_C_requireCoreOrNone_7 : decode b_C_requireCoreOrNone 7 = .ok (.invokevirtual 57, 3) := by decide +kernel
theorem d_C_requireCoreOrNone_10 : decode b_C_requireCoreOrNone 10 = .ok (.return_, 1) := by decide +kernel
theorem d_C_bankOf_0 : decode b_C_bankOf 0 = .ok (.iload_n 1, 1) := by decide +kernel
theorem d_C_bankOf_1 : decode b_C_bankOf 1 = .ok (.iconst (-1), 1) := by decide +kernel
theorem d_C_bankOf_2 : decode b_C_bankOf 2 = .ok (.if_icmp .ne 10, 3) := by decide +kernel
theorem d_C_bankOf_5 : decode b_C_bankOf 5 = .ok (.aload_n 0, 1) := by decide +kernel
theorem d_C_bankOf_6 : decode b_C_bankOf 6 = .ok (.getfield 31, 3) := by decide +kernel
theorem d_C_bankOf_9 : decode b_C_bankOf 9 = .ok (.goto 7, 3) := by decide +kernel
theorem d_C_bankOf_12 : decode b_C_bankOf 12 = .ok (.aload_n 0, 1) := by decide +kernel
theorem d_C_bankOf_13 : decode b_C_bankOf 13 = .ok (.getfield 27, 3) := by decide +kernel
theorem d_C_bankOf_16 : decode b_C_bankOf 16 = .ok (.areturn, 1) := by decide +kernel
theorem d_C_groupOf_0 : decode b_C_groupOf 0 = .ok (.iload_n 0, 1) := by decide +kernel
theorem d_C_groupOf_1 : decode b_C_groupOf 1 = .ok (.iconst (-1), 1) := by decide +kernel
theorem d_C_groupOf_2 : decode b_C_groupOf 2 = .ok (.if_icmp .ne 7, 3) := by decide +kernel
theorem d_C_groupOf_5 : decode b_C_groupOf 5 = .ok (.iconst 0, 1) := by decide +kernel
theorem d_C_groupOf_6 : decode b_C_groupOf 6 = .ok (.goto 4, 3) := by decide +kernel
theorem d_C_groupOf_9 : decode b_C_groupOf 9 = .ok (.iload_n 0, 1) := by decide +kernel
theorem d_C_groupOf_10 : decode b_C_groupOf 10 = .ok (.ireturn, 1) := by decide +kernel
theorem d_C_tally_0 : decode b_C_tally 0 = .ok (.iload_n 1, 1) := by decide +kernel
theorem d_C_tally_1 : decode b_C_tally 1 = .ok (.bipush 7, 2) := by decide +kernel
theorem d_C_tally_3 : decode b_C_tally 3 = .ok (.imul, 1) := by decide +kernel
theorem d_C_tally_4 : decode b_C_tally 4 = .ok (.iload_n 2, 1) := by decide +kernel
theorem d_C_tally_5 : decode b_C_tally 5 = .ok (.iadd, 1) := by decide +kernel
theorem d_C_tally_6 : decode b_C_tally 6 = .ok (.istore_n 3, 1) := by decide +kernel
theorem d_C_tally_7 : decode b_C_tally 7 = .ok (.iload_n 3, 1) := by decide +kernel
theorem d_C_tally_8 : decode b_C_tally 8 = .ok (.ifCond .lt 22, 3) := by decide +kernel
theorem d_C_tally_11 : decode b_C_tally 11 = .ok (.iload_n 3, 1) := by decide +kernel
theorem d_C_tally_12 : decode b_C_tally 12 = .ok (.aload_n 0, 1) := by decide +kernel
theorem d_C_tally_13 : decode b_C_tally 13 = .ok (.getfield 45, 3) := by decide +kernel
theorem d_C_tally_16 : decode b_C_tally 16 = .ok (.arraylength, 1) := by decide +kernel
theorem d_C_tally_17 : decode b_C_tally 17 = .ok (.if_icmp .ge 13, 3) := by decide +kernel
theorem d_C_tally_20 : decode b_C_tally 20 = .ok (.aload_n 0, 1) := by decide +kernel
theorem d_C_tally_21 : decode b_C_tally 21 = .ok (.getfield 45, 3) := by decide +kernel
theorem d_C_tally_24 : decode b_C_tally 24 = .ok (.iload_n 3, 1) := by decide +kernel
theorem d_C_tally_25 : decode b_C_tally 25 = .ok (.dup2, 1) := by decide +kernel
theorem d_C_tally_26 : decode b_C_tally 26 = .ok (.iaload, 1) := by decide +kernel
theorem d_C_tally_27 : decode b_C_tally 27 = .ok (.iconst 1, 1) := by decide +kernel
theorem d_C_tally_28 : decode b_C_tally 28 = .ok (.iadd, 1) := by decide +kernel
theorem d_C_tally_29 : decode b_C_tally 29 = .ok (.iastore, 1) := by decide +kernel
theorem d_C_tally_30 : decode b_C_tally 30 = .ok (.return_, 1) := by decide +kernel
theorem d_C_passesBy_0 : decode b_C_passesBy 0 = .ok (.iload_n 1, 1) := by decide +kernel
theorem d_C_passesBy_1 : decode b_C_passesBy 1 = .ok (.aload_n 0, 1) := by decide +kernel
theorem d_C_passesBy_2 : decode b_C_passesBy 2 = .ok (.getfield 48, 3) := by decide +kernel
theorem d_C_passesBy_5 : decode b_C_passesBy 5 = .ok (.if_icmp .lt 15, 3) := by decide +kernel
theorem d_C_passesBy_8 : decode b_C_passesBy 8 = .ok (.iload_n 1, 1) := by decide +kernel
theorem d_C_passesBy_9 : decode b_C_passesBy 9 = .ok (.aload_n 0, 1) := by decide +kernel
theorem d_C_passesBy_10 : decode b_C_passesBy 10 = .ok (.getfield 51, 3) := by decide +kernel
theorem d_C_passesBy_13 : decode b_C_passesBy 13 = .ok (.if_icmp .gt 7, 3) := by decide +kernel
theorem d_C_passesBy_16 : decode b_C_passesBy 16 = .ok (.iconst 1, 1) := by decide +kernel
theorem d_C_passesBy_17 : decode b_C_passesBy 17 = .ok (.goto 4, 3) := by decide +kernel
theorem d_C_passesBy_20 : decode b_C_passesBy 20 = .ok (.iconst 0, 1) := by decide +kernel
theorem d_C_passesBy_21 : decode b_C_passesBy 21 = .ok (.ireturn, 1) := by decide +kernel
theorem d_C_writtenInFirst_0 : decode b_C_writtenInFirst 0 = .ok (.iconst 0, 1) := by decide +kernel
theorem d_C_writtenInFirst_1 : decode b_C_writtenInFirst 1 = .ok (.istore_n 2, 1) := by decide +kernel
theorem d_C_writtenInFirst_2 : decode b_C_writtenInFirst 2 = .ok (.iload_n 2, 1) := by decide +kernel
theorem d_C_writtenInFirst_3 : decode b_C_writtenInFirst 3 = .ok (.aload_n 0, 1) := by decide +kernel
theorem d_C_writtenInFirst_4 : decode b_C_writtenInFirst 4 = .ok (.getfield 15, 3) := by decide +kernel
theorem d_C_writtenInFirst_7 : decode b_C_writtenInFirst 7 = .ok (.if_icmp .ge 32, 3) := by decide +kernel
theorem d_C_writtenInFirst_10 : decode b_C_writtenInFirst 10 = .ok (.aload_n 0, 1) := by decide +kernel
theorem d_C_writtenInFirst_11 : decode b_C_writtenInFirst 11 = .ok (.getfield 27, 3) := by decide +kernel
theorem d_C_writtenInFirst_14 : decode b_C_writtenInFirst 14 = .ok (.iload_n 2, 1) := by decide +kernel
theorem d_C_writtenInFirst_15 : decode b_C_writtenInFirst 15 = .ok (.iload_n 1, 1) := by decide +kernel
theorem d_C_writtenInFirst_16 : decode b_C_writtenInFirst 16 = .ok (.invokevirtual 72, 3) := by decide +kernel
theorem d_C_writtenInFirst_19 : decode b_C_writtenInFirst 19 = .ok (.istore_n 3, 1) := by decide +kernel
theorem d_C_writtenInFirst_20 : decode b_C_writtenInFirst 20 = .ok (.aload_n 0, 1) := by decide +kernel
theorem d_C_writtenInFirst_21 : decode b_C_writtenInFirst 21 = .ok (.getfield 27, 3) := by decide +kernel
theorem d_C_writtenInFirst_24 : decode b_C_writtenInFirst 24 = .ok (.iload_n 3, 1) := by decide +kernel
theorem d_C_writtenInFirst_25 : decode b_C_writtenInFirst 25 = .ok (.invokevirtual 96, 3) := by decide +kernel
theorem d_C_writtenInFirst_28 : decode b_C_writtenInFirst 28 = .ok (.ifCond .eq 5, 3) := by decide +kernel
theorem d_C_writtenInFirst_31 : decode b_C_writtenInFirst 31 = .ok (.iload_n 3, 1) := by decide +kernel
theorem d_C_writtenInFirst_32 : decode b_C_writtenInFirst 32 = .ok (.ireturn, 1) := by decide +kernel
theorem d_C_writtenInFirst_33 : decode b_C_writtenInFirst 33 = .ok (.iinc 2 1, 3) := by decide +kernel
theorem d_C_writtenInFirst_36 : decode b_C_writtenInFirst 36 = .ok (.goto (-34), 3) := by decide +kernel
theorem d_C_writtenInFirst_39 : decode b_C_writtenInFirst 39 = .ok (.iconst (-1), 1) := by decide +kernel
theorem d_C_writtenInFirst_40 : decode b_C_writtenInFirst 40 = .ok (.ireturn, 1) := by decide +kernel
theorem d_C_handOver_0 : decode b_C_handOver 0 = .ok (.aload_n 0, 1) := by decide +kernel
theorem d_C_handOver_1 : decode b_C_handOver 1 = .ok (.iload_n 1, 1) := by decide +kernel
theorem d_C_handOver_2 : decode b_C_handOver 2 = .ok (.invokevirtual 104, 3) := by decide +kernel
theorem d_C_handOver_5 : decode b_C_handOver 5 = .ok (.istore_n 2, 1) := by decide +kernel
theorem d_C_handOver_6 : decode b_C_handOver 6 = .ok (.iload_n 2, 1) := by decide +kernel
theorem d_C_handOver_7 : decode b_C_handOver 7 = .ok (.iconst (-1), 1) := by decide +kernel
theorem d_C_handOver_8 : decode b_C_handOver 8 = .ok (.if_icmp .eq 34, 3) := by decide +kernel
theorem d_C_handOver_11 : decode b_C_handOver 11 = .ok (.aload_n 0, 1) := by decide +kernel
theorem d_C_handOver_12 : decode b_C_handOver 12 = .ok (.dup, 1) := by decide +kernel
theorem d_C_handOver_13 : decode b_C_handOver 13 = .ok (.getfield 54, 3) := by decide +kernel
theorem d_C_handOver_16 : decode b_C_handOver 16 = .ok (.iconst 1, 1) := by decide +kernel
theorem d_C_handOver_17 : decode b_C_handOver 17 = .ok (.iadd, 1) := by decide +kernel
theorem d_C_handOver_18 : decode b_C_handOver 18 = .ok (.putfield 54, 3) := by decide +kernel
theorem d_C_handOver_21 : decode b_C_handOver 21 = .ok (.aload_n 0, 1) := by decide +kernel
theorem d_C_handOver_22 : decode b_C_handOver 22 = .ok (.getfield 27, 3) := by decide +kernel
theorem d_C_handOver_25 : decode b_C_handOver 25 = .ok (.iload_n 2, 1) := by decide +kernel
theorem d_C_handOver_26 : decode b_C_handOver 26 = .ok (.invokevirtual 158, 3) := by decide +kernel
theorem d_C_handOver_29 : decode b_C_handOver 29 = .ok (.aload_n 0, 1) := by decide +kernel
theorem d_C_handOver_30 : decode b_C_handOver 30 = .ok (.iload_n 1, 1) := by decide +kernel
theorem d_C_handOver_31 : decode b_C_handOver 31 = .ok (.aload_n 0, 1) := by decide +kernel
theorem d_C_handOver_32 : decode b_C_handOver 32 = .ok (.getfield 27, 3) := by decide +kernel
theorem d_C_handOver_35 : decode b_C_handOver 35 = .ok (.iload_n 2, 1) := by decide +kernel
theorem d_C_handOver_36 : decode b_C_handOver 36 = .ok (.invokevirtual 107, 3) := by decide +kernel
theorem d_C_handOver_39 : decode b_C_handOver 39 = .ok (.invokevirtual 161, 3) := by decide +kernel
theorem d_C_handOver_42 : decode b_C_handOver 42 = .ok (.return_, 1) := by decide +kernel
theorem d_C_writeDown_0 : decode b_C_writeDown 0 = .ok (.aload_n 0, 1) := by decide +kernel
theorem d_C_writeDown_1 : decode b_C_writeDown 1 = .ok (.getfield 31, 3) := by decide +kernel
theorem d_C_writeDown_4 : decode b_C_writeDown 4 = .ok (.iconst 0, 1) := by decide +kernel
theorem d_C_writeDown_5 : decode b_C_writeDown 5 = .ok (.iload_n 1, 1) := by decide +kernel
theorem d_C_writeDown_6 : decode b_C_writeDown 6 = .ok (.invokevirtual 72, 3) := by decide +kernel
theorem d_C_writeDown_9 : decode b_C_writeDown 9 = .ok (.istore_n 3, 1) := by decide +kernel
theorem d_C_writeDown_10 : decode b_C_writeDown 10 = .ok (.iload_n 3, 1) := by decide +kernel
theorem d_C_writeDown_11 : decode b_C_writeDown 11 = .ok (.iconst (-1), 1) := by decide +kernel
theorem d_C_writeDown_12 : decode b_C_writeDown 12 = .ok (.if_icmp .ne 15, 3) := by decide +kernel
theorem d_C_writeDown_15 : decode b_C_writeDown 15 = .ok (.aload_n 0, 1) := by decide +kernel
theorem d_C_writeDown_16 : decode b_C_writeDown 16 = .ok (.getfield 37, 3) := by decide +kernel
theorem d_C_writeDown_19 : decode b_C_writeDown 19 = .ok (.iload_n 1, 1) := by decide +kernel
theorem d_C_writeDown_20 : decode b_C_writeDown 20 = .ok (.iload_n 2, 1) := by decide +kernel
theorem d_C_writeDown_21 : decode b_C_writeDown 21 = .ok (.invokevirtual 110, 3) := by decide +kernel
theorem d_C_writeDown_24 : decode b_C_writeDown 24 = .ok (.goto 12, 3) := by decide +kernel
theorem d_C_writeDown_27 : decode b_C_writeDown 27 = .ok (.aload_n 0, 1) := by decide +kernel
theorem d_C_writeDown_28 : decode b_C_writeDown 28 = .ok (.getfield 31, 3) := by decide +kernel
theorem d_C_writeDown_31 : decode b_C_writeDown 31 = .ok (.iload_n 3, 1) := by decide +kernel
theorem d_C_writeDown_32 : decode b_C_writeDown 32 = .ok (.iload_n 2, 1) := by decide +kernel
theorem d_C_writeDown_33 : decode b_C_writeDown 33 = .ok (.invokevirtual 164, 3) := by decide +kernel
theorem d_C_writeDown_36 : decode b_C_writeDown 36 = .ok (.return_, 1) := by decide +kernel
theorem d_C_bring_0 : decode b_C_bring 0 = .ok (.aload_n 0, 1) := by decide +kernel
theorem d_C_bring_1 : decode b_C_bring 1 = .ok (.getfield 31, 3) := by decide +kernel
theorem d_C_bring_4 : decode b_C_bring 4 = .ok (.iconst 0, 1) := by decide +kernel
theorem d_C_bring_5 : decode b_C_bring 5 = .ok (.iload_n 2, 1) := by decide +kernel
theorem d_C_bring_6 : decode b_C_bring 6 = .ok (.invokevirtual 72, 3) := by decide +kernel
theorem d_C_bring_9 : decode b_C_bring 9 = .ok (.istore_n 3, 1) := by decide +kernel
theorem d_C_bring_10 : decode b_C_bring 10 = .ok (.iload_n 3, 1) := by decide +kernel
theorem d_C_bring_11 : decode b_C_bring 11 = .ok (.iconst (-1), 1) := by decide +kernel
theorem d_C_bring_12 : decode b_C_bring 12 = .ok (.if_icmp .eq 14, 3) := by decide +kernel
theorem d_C_bring_15 : decode b_C_bring 15 = .ok (.aload_n 0, 1) := by decide +kernel
theorem d_C_bring_16 : decode b_C_bring 16 = .ok (.getfield 31, 3) := by decide +kernel
theorem d_C_bring_19 : decode b_C_bring 19 = .ok (.iload_n 3, 1) := by decide +kernel
theorem d_C_bring_20 : decode b_C_bring 20 = .ok (.invokevirtual 107, 3) := by decide +kernel
theorem d_C_bring_23 : decode b_C_bring 23 = .ok (.goto 11, 3) := by decide +kernel
theorem d_C_bring_26 : decode b_C_bring 26 = .ok (.aload_n 0, 1) := by decide +kernel
theorem d_C_bring_27 : decode b_C_bring 27 = .ok (.getfield 37, 3) := by decide +kernel
theorem d_C_bring_30 : decode b_C_bring 30 = .ok (.iload_n 2, 1) := by decide +kernel
theorem d_C_bring_31 : decode b_C_bring 31 = .ok (.invokevirtual 126, 3) := by decide +kernel
theorem d_C_bring_34 : decode b_C_bring 34 = .ok (.istore 4, 2) := by decide +kernel
theorem d_C_bring_36 : decode b_C_bring 36 = .ok (.iconst 0, 1) := by decide +kernel
theorem d_C_bring_37 : decode b_C_bring 37 = .ok (.istore 5, 2) := by decide +kernel
theorem d_C_bring_39 : decode b_C_bring 39 = .ok (.iload_n 3, 1) := by decide +kernel
theorem d_C_bring_40 : decode b_C_bring 40 = .ok (.iconst (-1), 1) := by decide +kernel
theorem d_C_bring_41 : decode b_C_bring 41 = .ok (.if_icmp .ne 31, 3) := by decide +kernel
theorem d_C_bring_44 : decode b_C_bring 44 = .ok (.aload_n 0, 1) := by decide +kernel
theorem d_C_bring_45 : decode b_C_bring 45 = .ok (.getfield 19, 3) := by decide +kernel
theorem d_C_bring_48 : decode b_C_bring 48 = .ok (.iconst 2, 1) := by decide +kernel
theorem d_C_bring_49 : decode b_C_bring 49 = .ok (.if_icmp .eq 60, 3) := by decide +kernel
theorem d_C_bring_52 : decode b_C_bring 52 = .ok (.aload_n 0, 1) := by decide +kernel
theorem d_C_bring_53 : decode b_C_bring 53 = .ok (.iload_n 2, 1) := by decide +kernel
theorem d_C_bring_54 : decode b_C_bring 54 = .ok (.invokevirtual 167, 3) := by decide +kernel
theorem d_C_bring_57 : decode b_C_bring 57 = .ok (.ifCond .ne 52, 3) := by decide +kernel
theorem d_C_bring_60 : decode b_C_bring 60 = .ok (.aload_n 0, 1) := by decide +kernel
theorem d_C_bring_61 : decode b_C_bring 61 = .ok (.iload_n 1, 1) := by decide +kernel
theorem d_C_bring_62 : decode b_C_bring 62 = .ok (.iload_n 2, 1) := by decide +kernel
theorem d_C_bring_63 : decode b_C_bring 63 = .ok (.iload 4, 2) := by decide +kernel
theorem d_C_bring_65 : decode b_C_bring 65 = .ok (.iconst 0, 1) := by decide +kernel
theorem d_C_bring_66 : decode b_C_bring 66 = .ok (.invokevirtual 170, 3) := by decide +kernel
theorem d_C_bring_69 : decode b_C_bring 69 = .ok (.goto 40, 3) := by decide +kernel
theorem d_C_bring_72 : decode b_C_bring 72 = .ok (.aload_n 0, 1) := by decide +kernel
theorem d_C_bring_73 : decode b_C_bring 73 = .ok (.getfield 19, 3) := by decide +kernel
theorem d_C_bring_76 : decode b_C_bring 76 = .ok (.iconst 2, 1) := by decide +kernel
theorem d_C_bring_77 : decode b_C_bring 77 = .ok (.if_icmp .ne 24, 3) := by decide +kernel
theorem d_C_bring_80 : decode b_C_bring 80 = .ok (.aload_n 0, 1) := by decide +kernel
theorem d_C_bring_81 : decode b_C_bring 81 = .ok (.getfield 31, 3) := by decide +kernel
theorem d_C_bring_84 : decode b_C_bring 84 = .ok (.iload_n 3, 1) := by decide +kernel
theorem d_C_bring_85 : decode b_C_bring 85 = .ok (.invokevirtual 96, 3) := by decide +kernel
theorem d_C_bring_88 : decode b_C_bring 88 = .ok (.istore 5, 2) := by decide +kernel
theorem d_C_bring_90 : decode b_C_bring 90 = .ok (.aload_n 0, 1) := by decide +kernel
theorem d_C_bring_91 : decode b_C_bring 91 = .ok (.getfield 31, 3) := by decide +kernel
theorem d_C_bring_94 : decode b_C_bring 94 = .ok (.iload_n 3, 1) := by decide +kernel
theorem d_C_bring_95 : decode b_C_bring 95 = .ok (.invokevirtual 174, 3) := by decide +kernel
theorem d_C_bring_98 : decode b_C_bring 98 = .ok (.goto 11, 3) := by decide +kernel
theorem d_C_bring_101 : decode b_C_bring 101 = .ok (.aload_n 0, 1) := by decide +kernel
theorem d_C_bring_102 : decode b_C_bring 102 = .ok (.getfield 31, 3) := by decide +kernel
theorem d_C_bring_105 : decode b_C_bring 105 = .ok (.iload_n 3, 1) := by decide +kernel
theorem d_C_bring_106 : decode b_C_bring 106 = .ok (.invokevirtual 75, 3) := by decide +kernel
theorem d_C_bring_109 : decode b_C_bring 109 = .ok (.aload_n 0, 1) := by decide +kernel
theorem d_C_bring_110 : decode b_C_bring 110 = .ok (.getfield 19, 3) := by decide +kernel
theorem d_C_bring_113 : decode b_C_bring 113 = .ok (.iconst 1, 1) := by decide +kernel
theorem d_C_bring_114 : decode b_C_bring 114 = .ok (.if_icmp .ne 16, 3) := by decide +kernel
theorem d_C_bring_117 : decode b_C_bring 117 = .ok (.aload_n 0, 1) := by decide +kernel
theorem d_C_bring_118 : decode b_C_bring 118 = .ok (.getfield 31, 3) := by decide +kernel
theorem d_C_bring_121 : decode b_C_bring 121 = .ok (.iconst 0, 1) := by decide +kernel
theorem d_C_bring_122 : decode b_C_bring 122 = .ok (.iload_n 2, 1) := by decide +kernel
theorem d_C_bring_123 : decode b_C_bring 123 = .ok (.invokevirtual 72, 3) := by decide +kernel
theorem d_C_bring_126 : decode b_C_bring 126 = .ok (.iconst (-1), 1) := by decide +kernel
theorem d_C_bring_127 : decode b_C_bring 127 = .ok (.if_icmp .eq 31, 3) := by decide +kernel
theorem d_C_bring_130 : decode b_C_bring 130 = .ok (.aload_n 0, 1) := by decide +kernel
theorem d_C_bring_131 : decode b_C_bring 131 = .ok (.iload_n 1, 1) := by decide +kernel
theorem d_C_bring_132 : decode b_C_bring 132 = .ok (.iload_n 2, 1) := by decide +kernel
theorem d_C_bring_133 : decode b_C_bring 133 = .ok (.invokevirtual 177, 3) := by decide +kernel
theorem d_C_bring_136 : decode b_C_bring 136 = .ok (.aload_n 0, 1) := by decide +kernel
theorem d_C_bring_137 : decode b_C_bring 137 = .ok (.getfield 27, 3) := by decide +kernel
theorem d_C_bring_140 : decode b_C_bring 140 = .ok (.aload_n 0, 1) := by decide +kernel
theorem d_C_bring_141 : decode b_C_bring 141 = .ok (.getfield 27, 3) := by decide +kernel
theorem d_C_bring_144 : decode b_C_bring 144 = .ok (.iload_n 1, 1) := by decide +kernel
theorem d_C_bring_145 : decode b_C_bring 145 = .ok (.iload_n 2, 1) := by decide +kernel
theorem d_C_bring_146 : decode b_C_bring 146 = .ok (.invokevirtual 180, 3) := by decide +kernel
theorem d_C_bring_149 : decode b_C_bring 149 = .ok (.iload_n 2, 1) := by decide +kernel
theorem d_C_bring_150 : decode b_C_bring 150 = .ok (.iload 4, 2) := by decide +kernel
theorem d_C_bring_152 : decode b_C_bring 152 = .ok (.iload 5, 2) := by decide +kernel
theorem d_C_bring_154 : decode b_C_bring 154 = .ok (.iload_n 1, 1) := by decide +kernel
theorem d_C_bring_155 : decode b_C_bring 155 = .ok (.invokevirtual 183, 3) := by decide +kernel
theorem d_C_bring_158 : decode b_C_bring 158 = .ok (.aload_n 0, 1) := by decide +kernel
theorem d_C_bring_159 : decode b_C_bring 159 = .ok (.iload_n 1, 1) := by decide +kernel
theorem d_C_bring_160 : decode b_C_bring 160 = .ok (.iload_n 3, 1) := by decide +kernel
theorem d_C_bring_161 : decode b_C_bring 161 = .ok (.iconst (-1), 1) := by decide +kernel
theorem d_C_bring_162 : decode b_C_bring 162 = .ok (.if_icmp .eq 7, 3) := by decide +kernel
theorem d_C_bring_165 : decode b_C_bring 165 = .ok (.iconst 2, 1) := by decide +kernel
theorem d_C_bring_166 : decode b_C_bring 166 = .ok (.goto 4, 3) := by decide +kernel
theorem d_C_bring_169 : decode b_C_bring 169 = .ok (.iconst 3, 1) := by decide +kernel
theorem d_C_bring_170 : decode b_C_bring 170 = .ok (.invokevirtual 68, 3) := by decide +kernel
theorem d_C_bring_173 : decode b_C_bring 173 = .ok (.iload_n 3, 1) := by decide +kernel
theorem d_C_bring_174 : decode b_C_bring 174 = .ok (.iconst (-1), 1) := by decide +kernel
theorem d_C_bring_175 : decode b_C_bring 175 = .ok (.if_icmp .eq 7, 3) := by decide +kernel
theorem d_C_bring_178 : decode b_C_bring 178 = .ok (.iconst 2, 1) := by decide +kernel
theorem d_C_bring_179 : decode b_C_bring 179 = .ok (.goto 4, 3) := by decide +kernel
theorem d_C_bring_182 : decode b_C_bring 182 = .ok (.iconst 3, 1) := by decide +kernel
theorem d_C_bring_183 : decode b_C_bring 183 = .ok (.ireturn, 1) := by decide +kernel
theorem d_C_write_0 : decode b_C_write 0 = .ok (.iconst 0, 1) := by decide +kernel
theorem d_C_write_1 : decode b_C_write 1 = .ok (.istore_n 3, 1) := by decide +kernel
theorem d_C_write_2 : decode b_C_write 2 = .ok (.iload_n 3, 1) := by decide +kernel
theorem d_C_write_3 : decode b_C_write 3 = .ok (.aload_n 0, 1) := by decide +kernel
theorem d_C_write_4 : decode b_C_write 4 = .ok (.getfield 15, 3) := by decide +kernel
theorem d_C_write_7 : decode b_C_write 7 = .ok (.if_icmp .ge 50, 3) := by decide +kernel
theorem d_C_write_10 : decode b_C_write 10 = .ok (.iload_n 3, 1) := by decide +kernel
theorem d_C_write_11 : decode b_C_write 11 = .ok (.iload_n 1, 1) := by decide +kernel
theorem d_C_write_12 : decode b_C_write 12 = .ok (.if_icmp .ne 7, 3) := by decide +kernel
theorem d_C_write_15 : decode b_C_write 15 = .ok (.iconst (-1), 1) := by decide +kernel
theorem d_C_write_16 : decode b_C_write 16 = .ok (.goto 12, 3) := by decide +kernel
theorem d_C_write_19 : decode b_C_write 19 = .ok (.aload_n 0, 1) := by decide +kernel
theorem d_C_write_20 : decode b_C_write 20 = .ok (.getfield 27, 3) := by decide +kernel
theorem d_C_write_23 : decode b_C_write 23 = .ok (.iload_n 3, 1) := by decide +kernel
theorem d_C_write_24 : decode b_C_write 24 = .ok (.iload_n 2, 1) := by decide +kernel
theorem d_C_write_25 : decode b_C_write 25 = .ok (.invokevirtual 72, 3) := by decide +kernel
theorem d_C_write_28 : decode b_C_write 28 = .ok (.istore 4, 2) := by decide +kernel
theorem d_C_write_30 : decode b_C_write 30 = .ok (.iload 4, 2) := by decide +kernel
theorem d_C_write_32 : decode b_C_write 32 = .ok (.iconst (-1), 1) := by decide +kernel
theorem d_C_write_33 : decode b_C_write 33 = .ok (.if_icmp .eq 18, 3) := by decide +kernel
theorem d_C_write_36 : decode b_C_write 36 = .ok (.aload_n 0, 1) := by decide +kernel
theorem d_C_write_37 : decode b_C_write 37 = .ok (.getfield 27, 3) := by decide +kernel
theorem d_C_write_40 : decode b_C_write 40 = .ok (.iload 4, 2) := by decide +kernel
theorem d_C_write_42 : decode b_C_write 42 = .ok (.invokevirtual 174, 3) := by decide +kernel
theorem d_C_write_45 : decode b_C_write 45 = .ok (.aload_n 0, 1) := by decide +kernel
theorem d_C_write_46 : decode b_C_write 46 = .ok (.iload_n 3, 1) := by decide +kernel
theorem d_C_write_47 : decode b_C_write 47 = .ok (.iconst 5, 1) := by decide +kernel
theorem d_C_write_48 : decode b_C_write 48 = .ok (.invokevirtual 68, 3) := by decide +kernel
theorem d_C_write_51 : decode b_C_write 51 = .ok (.iinc 3 1, 3) := by decide +kernel
theorem d_C_write_54 : decode b_C_write 54 = .ok (.goto (-52), 3) := by decide +kernel
theorem d_C_write_57 : decode b_C_write 57 = .ok (.aload_n 0, 1) := by decide +kernel
theorem d_C_write_58 : decode b_C_write 58 = .ok (.getfield 19, 3) := by decide +kernel
theorem d_C_write_61 : decode b_C_write 61 = .ok (.iconst 2, 1) := by decide +kernel
theorem d_C_write_62 : decode b_C_write 62 = .ok (.if_icmp .ne 19, 3) := by decide +kernel
theorem d_C_write_65 : decode b_C_write 65 = .ok (.aload_n 0, 1) := by decide +kernel
theorem d_C_write_66 : decode b_C_write 66 = .ok (.getfield 31, 3) := by decide +kernel
theorem d_C_write_69 : decode b_C_write 69 = .ok (.aload_n 0, 1) := by decide +kernel
theorem d_C_write_70 : decode b_C_write 70 = .ok (.getfield 31, 3) := by decide +kernel
theorem d_C_write_73 : decode b_C_write 73 = .ok (.iconst 0, 1) := by decide +kernel
theorem d_C_write_74 : decode b_C_write 74 = .ok (.iload_n 2, 1) := by decide +kernel
theorem d_C_write_75 : decode b_C_write 75 = .ok (.invokevirtual 72, 3) := by decide +kernel
theorem d_C_write_78 : decode b_C_write 78 = .ok (.invokevirtual 174, 3) := by decide +kernel
theorem d_C_write_81 : decode b_C_write 81 = .ok (.aload_n 0, 1) := by decide +kernel
theorem d_C_write_82 : decode b_C_write 82 = .ok (.getfield 37, 3) := by decide +kernel
theorem d_C_write_85 : decode b_C_write 85 = .ok (.iload_n 2, 1) := by decide +kernel
theorem d_C_write_86 : decode b_C_write 86 = .ok (.invokevirtual 187, 3) := by decide +kernel
theorem d_C_write_89 : decode b_C_write 89 = .ok (.istore_n 3, 1) := by decide +kernel
theorem d_C_write_90 : decode b_C_write 90 = .ok (.aload_n 0, 1) := by decide +kernel
theorem d_C_write_91 : decode b_C_write 91 = .ok (.getfield 27, 3) := by decide +kernel
theorem d_C_write_94 : decode b_C_write 94 = .ok (.iload_n 1, 1) := by decide +kernel
theorem d_C_write_95 : decode b_C_write 95 = .ok (.iload_n 2, 1) := by decide +kernel
theorem d_C_write_96 : decode b_C_write 96 = .ok (.invokevirtual 72, 3) := by decide +kernel
theorem d_C_write_99 : decode b_C_write 99 = .ok (.istore 4, 2) := by decide +kernel
theorem d_C_write_101 : decode b_C_write 101 = .ok (.iload 4, 2) := by decide +kernel
theorem d_C_write_103 : decode b_C_write 103 = .ok (.iconst (-1), 1) := by decide +kernel
theorem d_C_write_104 : decode b_C_write 104 = .ok (.if_icmp .ne 15, 3) := by decide +kernel
theorem d_C_write_107 : decode b_C_write 107 = .ok (.aload_n 0, 1) := by decide +kernel
theorem d_C_write_108 : decode b_C_write 108 = .ok (.getfield 37, 3) := by decide +kernel
theorem d_C_write_111 : decode b_C_write 111 = .ok (.iload_n 2, 1) := by decide +kernel
theorem d_C_write_112 : decode b_C_write 112 = .ok (.iload_n 3, 1) := by decide +kernel
theorem d_C_write_113 : decode b_C_write 113 = .ok (.invokevirtual 110, 3) := by decide +kernel
theorem d_C_write_116 : decode b_C_write 116 = .ok (.goto 13, 3) := by decide +kernel
theorem d_C_write_119 : decode b_C_write 119 = .ok (.aload_n 0, 1) := by decide +kernel
theorem d_C_write_120 : decode b_C_write 120 = .ok (.getfield 27, 3) := by decide +kernel
theorem d_C_write_123 : decode b_C_write 123 = .ok (.iload 4, 2) := by decide +kernel
theorem d_C_write_125 : decode b_C_write 125 = .ok (.iload_n 3, 1) := by decide +kernel
theorem d_C_write_126 : decode b_C_write 126 = .ok (.invokevirtual 164, 3) := by decide +kernel
theorem d_C_write_129 : decode b_C_write 129 = .ok (.return_, 1) := by decide +kernel
theorem d_C_makeRoomInFirst_0 : decode b_C_makeRoomInFirst 0 = .ok (.aload_n 0, 1) := by decide +kernel
theorem d_C_makeRoomInFirst_1 : decode b_C_makeRoomInFirst 1 = .ok (.getfield 27, 3) := by decide +kernel
theorem d_C_makeRoomInFirst_4 : decode b_C_makeRoomInFirst 4 = .ok (.iload_n 1, 1) := by decide +kernel
theorem d_C_makeRoomInFirst_5 : decode b_C_makeRoomInFirst 5 = .ok (.iload_n 2, 1) := by decide +kernel
theorem d_C_makeRoomInFirst_6 : decode b_C_makeRoomInFirst 6 = .ok (.invokevirtual 180, 3) := by decide +kernel
theorem d_C_makeRoomInFirst_9 : decode b_C_makeRoomInFirst 9 = .ok (.istore_n 3, 1) := by decide +kernel
theorem d_C_makeRoomInFirst_10 : decode b_C_makeRoomInFirst 10 = .ok (.aload_n 0, 1) := by decide +kernel
theorem d_C_makeRoomInFirst_11 : decode b_C_makeRoomInFirst 11 = .ok (.getfield 27, 3) := by decide +kernel
theorem d_C_makeRoomInFirst_14 : decode b_C_makeRoomInFirst 14 = .ok (.iload_n 3, 1) := by decide +kernel
theorem d_C_makeRoomInFirst_15 : decode b_C_makeRoomInFirst 15 = .ok (.invokevirtual 190, 3) := by decide +kernel
theorem d_C_makeRoomInFirst_18 : decode b_C_makeRoomInFirst 18 = .ok (.ifCond .ne 4, 3) := by decide +kernel
theorem d_C_makeRoomInFirst_21 : decode b_C_makeRoomInFirst 21 = .ok (.return_, 1) := by decide +kernel
theorem d_C_makeRoomInFirst_22 : decode b_C_makeRoomInFirst 22 = .ok (.aload_n 0, 1) := by decide +kernel
theorem d_C_makeRoomInFirst_23 : decode b_C_makeRoomInFirst 23 = .ok (.getfield 27, 3) := by decide +kernel
theorem d_C_makeRoomInFirst_26 : decode b_C_makeRoomInFirst 26 = .ok (.iload_n 3, 1) := by decide +kernel
theorem d_C_makeRoomInFirst_27 : decode b_C_makeRoomInFirst 27 = .ok (.invokevirtual 193, 3) := by decide +kernel
theorem d_C_makeRoomInFirst_30 : decode b_C_makeRoomInFirst 30 = .ok (.istore 4, 2) := by decide +kernel
theorem d_C_makeRoomInFirst_32 : decode b_C_makeRoomInFirst 32 = .ok (.aload_n 0, 1) := by decide +kernel
theorem d_C_makeRoomInFirst_33 : decode b_C_makeRoomInFirst 33 = .ok (.getfield 27, 3) := by decide +kernel
theorem d_C_makeRoomInFirst_36 : decode b_C_makeRoomInFirst 36 = .ok (.iload 4, 2) := by decide +kernel
theorem d_C_makeRoomInFirst_38 : decode b_C_makeRoomInFirst 38 = .ok (.invokevirtual 100, 3) := by decide +kernel
theorem d_C_makeRoomInFirst_41 : decode b_C_makeRoomInFirst 41 = .ok (.istore 5, 2) := by decide +kernel
theorem d_C_makeRoomInFirst_43 : decode b_C_makeRoomInFirst 43 = .ok (.aload_n 0, 1) := by decide +kernel
theorem d_C_makeRoomInFirst_44 : decode b_C_makeRoomInFirst 44 = .ok (.getfield 27, 3) := by decide +kernel
theorem d_C_makeRoomInFirst_47 : decode b_C_makeRoomInFirst 47 = .ok (.iload 4, 2) := by decide +kernel
theorem d_C_makeRoomInFirst_49 : decode b_C_makeRoomInFirst 49 = .ok (.invokevirtual 107, 3) := by decide +kernel
theorem d_C_makeRoomInFirst_52 : decode b_C_makeRoomInFirst 52 = .ok (.istore 6, 2) := by decide +kernel
theorem d_C_makeRoomInFirst_54 : decode b_C_makeRoomInFirst 54 = .ok (.aload_n 0, 1) := by decide +kernel
theorem d_C_makeRoomInFirst_55 : decode b_C_makeRoomInFirst 55 = .ok (.getfield 27, 3) := by decide +kernel
theorem d_C_makeRoomInFirst_58 : decode b_C_makeRoomInFirst 58 = .ok (.iload 4, 2) := by decide +kernel
theorem d_C_makeRoomInFirst_60 : decode b_C_makeRoomInFirst 60 = .ok (.invokevirtual 96, 3) := by decide +kernel
theorem d_C_makeRoomInFirst_63 : decode b_C_makeRoomInFirst 63 = .ok (.istore 7, 2) := by decide +kernel
theorem d_C_makeRoomInFirst_65 : decode b_C_makeRoomInFirst 65 = .ok (.aload_n 0, 1) := by decide +kernel
theorem d_C_makeRoomInFirst_66 : decode b_C_makeRoomInFirst 66 = .ok (.getfield 27, 3) := by decide +kernel
theorem d_C_makeRoomInFirst_69 : decode b_C_makeRoomInFirst 69 = .ok (.iload 4, 2) := by decide +kernel
theorem d_C_makeRoomInFirst_71 : decode b_C_makeRoomInFirst 71 = .ok (.invokevirtual 174, 3) := by decide +kernel
theorem d_C_makeRoomInFirst_74 : decode b_C_makeRoomInFirst 74 = .ok (.aload_n 0, 1) := by decide +kernel
theorem d_C_makeRoomInFirst_75 : decode b_C_makeRoomInFirst 75 = .ok (.getfield 19, 3) := by decide +kernel
theorem d_C_makeRoomInFirst_78 : decode b_C_makeRoomInFirst 78 = .ok (.iconst 2, 1) := by decide +kernel
theorem d_C_makeRoomInFirst_79 : decode b_C_makeRoomInFirst 79 = .ok (.if_icmp .ne 35, 3) := by decide +kernel
theorem d_C_makeRoomInFirst_82 : decode b_C_makeRoomInFirst 82 = .ok (.aload_n 0, 1) := by decide +kernel
theorem d_C_makeRoomInFirst_83 : decode b_C_makeRoomInFirst 83 = .ok (.iload 5, 2) := by decide +kernel
theorem d_C_makeRoomInFirst_85 : decode b_C_makeRoomInFirst 85 = .ok (.invokevirtual 167, 3) := by decide +kernel
theorem d_C_makeRoomInFirst_88 : decode b_C_makeRoomInFirst 88 = .ok (.ifCond .ne 26, 3) := by decide +kernel
theorem d_C_makeRoomInFirst_91 : decode b_C_makeRoomInFirst 91 = .ok (.aload_n 0, 1) := by decide +kernel
theorem d_C_makeRoomInFirst_92 : decode b_C_makeRoomInFirst 92 = .ok (.iload 5, 2) := by decide +kernel
theorem d_C_makeRoomInFirst_94 : decode b_C_makeRoomInFirst 94 = .ok (.invokevirtual 196, 3) := by decide +kernel
theorem d_C_makeRoomInFirst_97 : decode b_C_makeRoomInFirst 97 = .ok (.ifCond .ne 17, 3) := by decide +kernel
theorem d_C_makeRoomInFirst_100 : decode b_C_makeRoomInFirst 100 = .ok (.aload_n 0, 1) := by decide +kernel
theorem d_C_makeRoomInFirst_101 : decode b_C_makeRoomInFirst 101 = .ok (.iload_n 1, 1) := by decide +kernel
theorem d_C_makeRoomInFirst_102 : decode b_C_makeRoomInFirst 102 = .ok (.iload 5, 2) := by decide +kernel
theorem d_C_makeRoomInFirst_104 : decode b_C_makeRoomInFirst 104 = .ok (.iload 6, 2) := by decide +kernel
theorem d_C_makeRoomInFirst_106 : decode b_C_makeRoomInFirst 106 = .ok (.iload 7, 2) := by decide +kernel
theorem d_C_makeRoomInFirst_108 : decode b_C_makeRoomInFirst 108 = .ok (.invokevirtual 170, 3) := by decide +kernel
theorem d_C_makeRoomInFirst_111 : decode b_C_makeRoomInFirst 111 = .ok (.goto 16, 3) := by decide +kernel
theorem d_C_makeRoomInFirst_114 : decode b_C_makeRoomInFirst 114 = .ok (.iload 7, 2) := by decide +kernel
theorem d_C_makeRoomInFirst_116 : decode b_C_makeRoomInFirst 116 = .ok (.ifCond .eq 11, 3) := by decide +kernel
theorem d_C_makeRoomInFirst_119 : decode b_C_makeRoomInFirst 119 = .ok (.aload_n 0, 1) := by decide +kernel
theorem d_C_makeRoomInFirst_120 : decode b_C_makeRoomInFirst 120 = .ok (.iload 5, 2) := by decide +kernel
theorem d_C_makeRoomInFirst_122 : decode b_C_makeRoomInFirst 122 = .ok (.iload 6, 2) := by decide +kernel
theorem d_C_makeRoomInFirst_124 : decode b_C_makeRoomInFirst 124 = .ok (.invokevirtual 161, 3) := by decide +kernel
theorem d_C_makeRoomInFirst_127 : decode b_C_makeRoomInFirst 127 = .ok (.return_, 1) := by decide +kernel
theorem d_C_comeIntoSecond_0 : decode b_C_comeIntoSecond 0 = .ok (.iload_n 1, 1) := by decide +kernel
theorem d_C_comeIntoSecond_1 : decode b_C_comeIntoSecond 1 = .ok (.ifCond .lt 21, 3) := by decide +kernel
theorem d_C_comeIntoSecond_4 : decode b_C_comeIntoSecond 4 = .ok (.iload_n 1, 1) := by decide +kernel
theorem d_C_comeIntoSecond_5 : decode b_C_comeIntoSecond 5 = .ok (.aload_n 0, 1) := by decide +kernel
theorem d_C_comeIntoSecond_6 : decode b_C_comeIntoSecond 6 = .ok (.getfield 41, 3) := by decide +kernel
theorem d_C_comeIntoSecond_9 : decode b_C_comeIntoSecond 9 = .ok (.arraylength, 1) := by decide +kernel
theorem d_C_comeIntoSecond_10 : decode b_C_comeIntoSecond 10 = .ok (.if_icmp .ge 12, 3) := by decide +kernel
theorem d_C_comeIntoSecond_13 : decode b_C_comeIntoSecond 13 = .ok (.aload_n 0, 1) := by decide +kernel
theorem d_C_comeIntoSecond_14 : decode b_C_comeIntoSecond 14 = .ok (.getfield 41, 3) := by decide +kernel
theorem d_C_comeIntoSecond_17 : decode b_C_comeIntoSecond 17 = .ok (.iload_n 1, 1) := by decide +kernel
theorem d_C_comeIntoSecond_18 : decode b_C_comeIntoSecond 18 = .ok (.iaload, 1) := by decide +kernel
theorem d_C_comeIntoSecond_19 : decode b_C_comeIntoSecond 19 = .ok (.goto 4, 3) := by decide +kernel
theorem d_C_comeIntoSecond_22 : decode b_C_comeIntoSecond 22 = .ok (.iconst 0, 1) := by decide +kernel
theorem d_C_comeIntoSecond_23 : decode b_C_comeIntoSecond 23 = .ok (.istore 5, 2) := by decide +kernel
theorem d_C_comeIntoSecond_25 : decode b_C_comeIntoSecond 25 = .ok (.iload 5, 2) := by decide +kernel
theorem d_C_comeIntoSecond_27 : decode b_C_comeIntoSecond 27 = .ok (.ifCond .ne 18, 3) := by decide +kernel
theorem d_C_comeIntoSecond_30 : decode b_C_comeIntoSecond 30 = .ok (.iload 4, 2) := by decide +kernel
theorem d_C_comeIntoSecond_32 : decode b_C_comeIntoSecond 32 = .ok (.ifCond .eq 12, 3) := by decide +kernel
theorem d_C_comeIntoSecond_35 : decode b_C_comeIntoSecond 35 = .ok (.aload_n 0, 1) := by decide +kernel
theorem d_C_comeIntoSecond_36 : decode b_C_comeIntoSecond 36 = .ok (.getfield 37, 3) := by decide +kernel
theorem d_C_comeIntoSecond_39 : decode b_C_comeIntoSecond 39 = .ok (.iload_n 2, 1) := by decide +kernel
theorem d_C_comeIntoSecond_40 : decode b_C_comeIntoSecond 40 = .ok (.iload_n 3, 1) := by decide +kernel
theorem d_C_comeIntoSecond_41 : decode b_C_comeIntoSecond 41 = .ok (.invokevirtual 110, 3) := by decide +kernel
theorem d_C_comeIntoSecond_44 : decode b_C_comeIntoSecond 44 = .ok (.return_, 1) := by decide +kernel
theorem d_C_comeIntoSecond_45 : decode b_C_comeIntoSecond 45 = .ok (.aload_n 0, 1) := by decide +kernel
theorem d_C_comeIntoSecond_46 : decode b_C_comeIntoSecond 46 = .ok (.getfield 31, 3) := by decide +kernel
theorem d_C_comeIntoSecond_49 : decode b_C_comeIntoSecond 49 = .ok (.iconst 0, 1) := by decide +kernel
theorem d_C_comeIntoSecond_50 : decode b_C_comeIntoSecond 50 = .ok (.iload_n 2, 1) := by decide +kernel
theorem d_C_comeIntoSecond_51 : decode b_C_comeIntoSecond 51 = .ok (.invokevirtual 180, 3) := by decide +kernel
theorem d_C_comeIntoSecond_54 : decode b_C_comeIntoSecond 54 = .ok (.istore 6, 2) := by decide +kernel
theorem d_C_comeIntoSecond_56 : decode b_C_comeIntoSecond 56 = .ok (.aload_n 0, 1) := by decide +kernel
theorem d_C_comeIntoSecond_57 : decode b_C_comeIntoSecond 57 = .ok (.getfield 31, 3) := by decide +kernel
theorem d_C_comeIntoSecond_60 : decode b_C_comeIntoSecond 60 = .ok (.iload 6, 2) := by decide +kernel
theorem d_C_comeIntoSecond_62 : decode b_C_comeIntoSecond 62 = .ok (.iload_n 1, 1) := by decide +kernel
theorem d_C_comeIntoSecond_63 : decode b_C_comeIntoSecond 63 = .ok (.invokevirtual 199, 3) := by decide +kernel
theorem d_C_comeIntoSecond_66 : decode b_C_comeIntoSecond 66 = .ok (.iload 5, 2) := by decide +kernel
theorem d_C_comeIntoSecond_68 : decode b_C_comeIntoSecond 68 = .ok (.if_icmp .lt 20, 3) := by decide +kernel
theorem d_C_comeIntoSecond_71 : decode b_C_comeIntoSecond 71 = .ok (.aload_n 0, 1) := by decide +kernel
theorem d_C_comeIntoSecond_72 : decode b_C_comeIntoSecond 72 = .ok (.aload_n 0, 1) := by decide +kernel
theorem d_C_comeIntoSecond_73 : decode b_C_comeIntoSecond 73 = .ok (.getfield 31, 3) := by decide +kernel
theorem d_C_comeIntoSecond_76 : decode b_C_comeIntoSecond 76 = .ok (.iload 6, 2) := by decide +kernel
theorem d_C_comeIntoSecond_78 : decode b_C_comeIntoSecond 78 = .ok (.iload_n 1, 1) := by decide +kernel
theorem d_C_comeIntoSecond_79 : decode b_C_comeIntoSecond 79 = .ok (.invokevirtual 202, 3) := by decide +kernel
theorem d_C_comeIntoSecond_82 : decode b_C_comeIntoSecond 82 = .ok (.invokevirtual 205, 3) := by decide +kernel
theorem d_C_comeIntoSecond_85 : decode b_C_comeIntoSecond 85 = .ok (.goto 28, 3) := by decide +kernel
theorem d_C_comeIntoSecond_88 : decode b_C_comeIntoSecond 88 = .ok (.aload_n 0, 1) := by decide +kernel
theorem d_C_comeIntoSecond_89 : decode b_C_comeIntoSecond 89 = .ok (.getfield 31, 3) := by decide +kernel
theorem d_C_comeIntoSecond_92 : decode b_C_comeIntoSecond 92 = .ok (.iload 6, 2) := by decide +kernel
theorem d_C_comeIntoSecond_94 : decode b_C_comeIntoSecond 94 = .ok (.invokevirtual 190, 3) := by decide +kernel
theorem d_C_comeIntoSecond_97 : decode b_C_comeIntoSecond 97 = .ok (.ifCond .eq 16, 3) := by decide +kernel
theorem d_C_comeIntoSecond_100 : decode b_C_comeIntoSecond 100 = .ok (.aload_n 0, 1) := by decide +kernel
theorem d_C_comeIntoSecond_101 : decode b_C_comeIntoSecond 101 = .ok (.aload_n 0, 1) := by decide +kernel
theorem d_C_comeIntoSecond_102 : decode b_C_comeIntoSecond 102 = .ok (.getfield 31, 3) := by decide +kernel
theorem d_C_comeIntoSecond_105 : decode b_C_comeIntoSecond 105 = .ok (.iload 6, 2) := by decide +kernel
theorem d_C_comeIntoSecond_107 : decode b_C_comeIntoSecond 107 = .ok (.invokevirtual 193, 3) := by decide +kernel
theorem d_C_comeIntoSecond_110 : decode b_C_comeIntoSecond 110 = .ok (.invokevirtual 205, 3) := by decide +kernel
theorem d_C_comeIntoSecond_113 : decode b_C_comeIntoSecond 113 = .ok (.aload_n 0, 1) := by decide +kernel
theorem d_C_comeIntoSecond_114 : decode b_C_comeIntoSecond 114 = .ok (.getfield 31, 3) := by decide +kernel
theorem d_C_comeIntoSecond_117 : decode b_C_comeIntoSecond 117 = .ok (.iload 6, 2) := by decide +kernel
theorem d_C_comeIntoSecond_119 : decode b_C_comeIntoSecond 119 = .ok (.iload_n 2, 1) := by decide +kernel
theorem d_C_comeIntoSecond_120 : decode b_C_comeIntoSecond 120 = .ok (.iload_n 3, 1) := by decide +kernel
theorem d_C_comeIntoSecond_121 : decode b_C_comeIntoSecond 121 = .ok (.iload 4, 2) := by decide +kernel
theorem d_C_comeIntoSecond_123 : decode b_C_comeIntoSecond 123 = .ok (.iload_n 1, 1) := by decide +kernel
theorem d_C_comeIntoSecond_124 : decode b_C_comeIntoSecond 124 = .ok (.invokevirtual 183, 3) := by decide +kernel
theorem d_C_comeIntoSecond_127 : decode b_C_comeIntoSecond 127 = .ok (.return_, 1) := by decide +kernel
theorem d_C_leaveSecond_0 : decode b_C_leaveSecond 0 = .ok (.aload_n 0, 1) := by decide +kernel
theorem d_C_leaveSecond_1 : decode b_C_leaveSecond 1 = .ok (.getfield 31, 3) := by decide +kernel
theorem d_C_leaveSecond_4 : decode b_C_leaveSecond 4 = .ok (.iload_n 1, 1) := by decide +kernel
theorem d_C_leaveSecond_5 : decode b_C_leaveSecond 5 = .ok (.invokevirtual 100, 3) := by decide +kernel
theorem d_C_leaveSecond_8 : decode b_C_leaveSecond 8 = .ok (.istore_n 2, 1) := by decide +kernel
theorem d_C_leaveSecond_9 : decode b_C_leaveSecond 9 = .ok (.aload_n 0, 1) := by decide +kernel
theorem d_C_leaveSecond_10 : decode b_C_leaveSecond 10 = .ok (.getfield 31, 3) := by decide +kernel
theorem d_C_leaveSecond_13 : decode b_C_leaveSecond 13 = .ok (.iload_n 1, 1) := by decide +kernel
theorem d_C_leaveSecond_14 : decode b_C_leaveSecond 14 = .ok (.invokevirtual 107, 3) := by decide +kernel
theorem d_C_leaveSecond_17 : decode b_C_leaveSecond 17 = .ok (.istore_n 3, 1) := by decide +kernel
theorem d_C_leaveSecond_18 : decode b_C_leaveSecond 18 = .ok (.aload_n 0, 1) := by decide +kernel
theorem d_C_leaveSecond_19 : decode b_C_leaveSecond 19 = .ok (.getfield 31, 3) := by decide +kernel
theorem d_C_leaveSecond_22 : decode b_C_leaveSecond 22 = .ok (.iload_n 1, 1) := by decide +kernel
theorem d_C_leaveSecond_23 : decode b_C_leaveSecond 23 = .ok (.invokevirtual 96, 3) := by decide +kernel
theorem d_C_leaveSecond_26 : decode b_C_leaveSecond 26 = .ok (.istore 4, 2) := by decide +kernel
theorem d_C_leaveSecond_28 : decode b_C_leaveSecond 28 = .ok (.aload_n 0, 1) := by decide +kernel
theorem d_C_leaveSecond_29 : decode b_C_leaveSecond 29 = .ok (.getfield 31, 3) := by decide +kernel
theorem d_C_leaveSecond_32 : decode b_C_leaveSecond 32 = .ok (.iload_n 1, 1) := by decide +kernel
theorem d_C_leaveSecond_33 : decode b_C_leaveSecond 33 = .ok (.invokevirtual 174, 3) := by decide +kernel
theorem d_C_leaveSecond_36 : decode b_C_leaveSecond 36 = .ok (.iconst 0, 1) := by decide +kernel
theorem d_C_leaveSecond_37 : decode b_C_leaveSecond 37 = .ok (.istore 5, 2) := by decide +kernel
theorem d_C_leaveSecond_39 : decode b_C_leaveSecond 39 = .ok (.aload_n 0, 1) := by decide +kernel
theorem d_C_leaveSecond_40 : decode b_C_leaveSecond 40 = .ok (.getfield 19, 3) := by decide +kernel
theorem d_C_leaveSecond_43 : decode b_C_leaveSecond 43 = .ok (.iconst 1, 1) := by decide +kernel
theorem d_C_leaveSecond_44 : decode b_C_leaveSecond 44 = .ok (.if_icmp .ne 78, 3) := by decide +kernel
theorem d_C_leaveSecond_47 : decode b_C_leaveSecond 47 = .ok (.iload 5, 2) := by decide +kernel
theorem d_C_leaveSecond_49 : decode b_C_leaveSecond 49 = .ok (.aload_n 0, 1) := by decide +kernel
theorem d_C_leaveSecond_50 : decode b_C_leaveSecond 50 = .ok (.getfield 15, 3) := by decide +kernel
theorem d_C_leaveSecond_53 : decode b_C_leaveSecond 53 = .ok (.if_icmp .ge 69, 3) := by decide +kernel
theorem d_C_leaveSecond_56 : decode b_C_leaveSecond 56 = .ok (.aload_n 0, 1) := by decide +kernel
theorem d_C_leaveSecond_57 : decode b_C_leaveSecond 57 = .ok (.getfield 27, 3) := by decide +kernel
theorem d_C_leaveSecond_60 : decode b_C_leaveSecond 60 = .ok (.iload 5, 2) := by decide +kernel
theorem d_C_leaveSecond_62 : decode b_C_leaveSecond 62 = .ok (.iload_n 2, 1) := by decide +kernel
theorem d_C_leaveSecond_63 : decode b_C_leaveSecond 63 = .ok (.invokevirtual 72, 3) := by decide +kernel
theorem d_C_leaveSecond_66 : decode b_C_leaveSecond 66 = .ok (.istore 6, 2) := by decide +kernel
theorem d_C_leaveSecond_68 : decode b_C_leaveSecond 68 = .ok (.aload_n 0, 1) := by decide +kernel
theorem d_C_leaveSecond_69 : decode b_C_leaveSecond 69 = .ok (.getfield 27, 3) := by decide +kernel
theorem d_C_leaveSecond_72 : decode b_C_leaveSecond 72 = .ok (.iload 6, 2) := by decide +kernel
theorem d_C_leaveSecond_74 : decode b_C_leaveSecond 74 = .ok (.invokevirtual 96, 3) := by decide +kernel
theorem d_C_leaveSecond_77 : decode b_C_leaveSecond 77 = .ok (.ifCond .eq 16, 3) := by decide +kernel
theorem d_C_leaveSecond_80 : decode b_C_leaveSecond 80 = .ok (.aload_n 0, 1) := by decide +kernel
theorem d_C_leaveSecond_81 : decode b_C_leaveSecond 81 = .ok (.getfield 27, 3) := by decide +kernel
theorem d_C_leaveSecond_84 : decode b_C_leaveSecond 84 = .ok (.iload 6, 2) := by decide +kernel
theorem d_C_leaveSecond_86 : decode b_C_leaveSecond 86 = .ok (.invokevirtual 107, 3) := by decide +kernel
theorem d_C_leaveSecond_89 : decode b_C_leaveSecond 89 = .ok (.istore_n 3, 1) := by decide +kernel
theorem d_C_leaveSecond_90 : decode b_C_leaveSecond 90 = .ok (.iconst 1, 1) := by decide +kernel
theorem d_C_leaveSecond_91 : decode b_C_leaveSecond 91 = .ok (.istore 4, 2) := by decide +kernel
theorem d_C_leaveSecond_93 : decode b_C_leaveSecond 93 = .ok (.iload 6, 2) := by decide +kernel
theorem d_C_leaveSecond_95 : decode b_C_leaveSecond 95 = .ok (.iconst (-1), 1) := by decide +kernel
theorem d_C_leaveSecond_96 : decode b_C_leaveSecond 96 = .ok (.if_icmp .eq 20, 3) := by decide +kernel
theorem d_C_leaveSecond_99 : decode b_C_leaveSecond 99 = .ok (.aload_n 0, 1) := by decide +kernel
theorem d_C_leaveSecond_100 : decode b_C_leaveSecond 100 = .ok (.getfield 27, 3) := by decide +kernel
theorem d_C_leaveSecond_103 : decode b_C_leaveSecond 103 = .ok (.iload 6, 2) := by decide +kernel
theorem d_C_leaveSecond_105 : decode b_C_leaveSecond 105 = .ok (.invokevirtual 174, 3) := by decide +kernel
theorem d_C_leaveSecond_108 : decode b_C_leaveSecond 108 = .ok (.aload_n 0, 1) := by decide +kernel
theorem d_C_leaveSecond_109 : decode b_C_leaveSecond 109 = .ok (.iload 5, 2) := by decide +kernel
theorem d_C_leaveSecond_111 : decode b_C_leaveSecond 111 = .ok (.bipush 6, 2) := by decide +kernel
theorem d_C_leaveSecond_113 : decode b_C_leaveSecond 113 = .ok (.invokevirtual 68, 3) := by decide +kernel
theorem d_C_leaveSecond_116 : decode b_C_leaveSecond 116 = .ok (.iinc 5 1, 3) := by decide +kernel
theorem d_C_leaveSecond_119 : decode b_C_leaveSecond 119 = .ok (.goto (-80), 3) := by decide +kernel
theorem d_C_leaveSecond_122 : decode b_C_leaveSecond 122 = .ok (.iload 4, 2) := by decide +kernel
theorem d_C_leaveSecond_124 : decode b_C_leaveSecond 124 = .ok (.ifCond .eq 12, 3) := by decide +kernel
theorem d_C_leaveSecond_127 : decode b_C_leaveSecond 127 = .ok (.aload_n 0, 1) := by decide +kernel
theorem d_C_leaveSecond_128 : decode b_C_leaveSecond 128 = .ok (.getfield 37, 3) := by decide +kernel
theorem d_C_leaveSecond_131 : decode b_C_leaveSecond 131 = .ok (.iload_n 2, 1) := by decide +kernel
theorem d_C_leaveSecond_132 : decode b_C_leaveSecond 132 = .ok (.iload_n 3, 1) := by decide +kernel
theorem d_C_leaveSecond_133 : decode b_C_leaveSecond 133 = .ok (.invokevirtual 110, 3) := by decide +kernel
theorem d_C_leaveSecond_136 : decode b_C_leaveSecond 136 = .ok (.return_, 1) := by decide +kernel
theorem d_B_init_0 : decode b_B_init 0 = .ok (.aload_n 0, 1) := by decide +kernel
theorem d_B_init_1 : decode b_B_init 1 = .ok (.invokespecial 3, 3) := by decide +kernel
theorem d_B_init_4 : decode b_B_init 4 = .ok (.aload_n 0, 1) := by decide +kernel
theorem d_B_init_5 : decode b_B_init 5 = .ok (.iconst 1, 1) := by decide +kernel
theorem d_B_init_6 : decode b_B_init 6 = .ok (.iload_n 2, 1) := by decide +kernel
theorem d_B_init_7 : decode b_B_init 7 = .ok (.invokestatic 9, 3) := by decide +kernel
theorem d_B_init_10 : decode b_B_init 10 = .ok (.putfield 15, 3) := by decide +kernel
theorem d_B_init_13 : decode b_B_init 13 = .ok (.aload_n 0, 1) := by decide +kernel
theorem d_B_init_14 : decode b_B_init 14 = .ok (.iconst 1, 1) := by decide +kernel
theorem d_B_init_15 : decode b_B_init 15 = .ok (.iload_n 3, 1) := by decide +kernel
theorem d_B_init_16 : decode b_B_init 16 = .ok (.invokestatic 9, 3) := by decide +kernel
theorem d_B_init_19 : decode b_B_init 19 = .ok (.putfield 21, 3) := by decide +kernel
theorem d_B_init_22 : decode b_B_init 22 = .ok (.iconst 1, 1) := by decide +kernel
theorem d_B_init_23 : decode b_B_init 23 = .ok (.iload_n 1, 1) := by decide +kernel
theorem d_B_init_24 : decode b_B_init 24 = .ok (.invokestatic 9, 3) := by decide +kernel
theorem d_B_init_27 : decode b_B_init 27 = .ok (.aload_n 0, 1) := by decide +kernel
theorem d_B_init_28 : decode b_B_init 28 = .ok (.getfield 15, 3) := by decide +kernel
theorem d_B_init_31 : decode b_B_init 31 = .ok (.imul, 1) := by decide +kernel
theorem d_B_init_32 : decode b_B_init 32 = .ok (.istore 4, 2) := by decide +kernel
theorem d_B_init_34 : decode b_B_init 34 = .ok (.aload_n 0, 1) := by decide +kernel
theorem d_B_init_35 : decode b_B_init 35 = .ok (.iload 4, 2) := by decide +kernel
theorem d_B_init_37 : decode b_B_init 37 = .ok (.newarray .int, 2) := by decide +kernel
theorem d_B_init_39 : decode b_B_init 39 = .ok (.putfield 24, 3) := by decide +kernel
theorem d_B_init_42 : decode b_B_init 42 = .ok (.aload_n 0, 1) := by decide +kernel
theorem d_B_init_43 : decode b_B_init 43 = .ok (.iload 4, 2) := by decide +kernel
theorem d_B_init_45 : decode b_B_init 45 = .ok (.aload_n 0, 1) := by decide +kernel
theorem d_B_init_46 : decode b_B_init 46 = .ok (.getfield 21, 3) := by decide +kernel
theorem d_B_init_49 : decode b_B_init 49 = .ok (.imul, 1) := by decide +kernel
theorem d_B_init_50 : decode b_B_init 50 = .ok (.newarray .int, 2) := by decide +kernel
theorem d_B_init_52 : decode b_B_init 52 = .ok (.putfield 28, 3) := by decide +kernel
theorem d_B_init_55 : decode b_B_init 55 = .ok (.aload_n 0, 1) := by decide +kernel
theorem d_B_init_56 : decode b_B_init 56 = .ok (.iload 4, 2) := by decide +kernel
theorem d_B_init_58 : decode b_B_init 58 = .ok (.aload_n 0, 1) := by decide +kernel
theorem d_B_init_59 : decode b_B_init 59 = .ok (.getfield 21, 3) := by decide +kernel
theorem d_B_init_62 : decode b_B_init 62 = .ok (.imul, 1) := by decide +kernel
theorem d_B_init_63 : decode b_B_init 63 = .ok (.newarray .int, 2) := by decide +kernel
theorem d_B_init_65 : decode b_B_init 65 = .ok (.putfield 31, 3) := by decide +kernel
theorem d_B_init_68 : decode b_B_init 68 = .ok (.aload_n 0, 1) := by decide +kernel
theorem d_B_init_69 : decode b_B_init 69 = .ok (.iload 4, 2) := by decide +kernel
theorem d_B_init_71 : decode b_B_init 71 = .ok (.aload_n 0, 1) := by decide +kernel
theorem d_B_init_72 : decode b_B_init 72 = .ok (.getfield 21, 3) := by decide +kernel
theorem d_B_init_75 : decode b_B_init 75 = .ok (.imul, 1) := by decide +kernel
theorem d_B_init_76 : decode b_B_init 76 = .ok (.newarray .int, 2) := by decide +kernel
theorem d_B_init_78 : decode b_B_init 78 = .ok (.putfield 34, 3) := by decide +kernel
theorem d_B_init_81 : decode b_B_init 81 = .ok (.aload_n 0, 1) := by decide +kernel
theorem d_B_init_82 : decode b_B_init 82 = .ok (.iload 4, 2) := by decide +kernel
theorem d_B_init_84 : decode b_B_init 84 = .ok (.aload_n 0, 1) := by decide +kernel
theorem d_B_init_85 : decode b_B_init 85 = .ok (.getfield 21, 3) := by decide +kernel
theorem d_B_init_88 : decode b_B_init 88 = .ok (.imul, 1) := by decide +kernel
theorem d_B_init_89 : decode b_B_init 89 = .ok (.newarray .boolean, 2) := by decide +kernel
theorem d_B_init_91 : decode b_B_init 91 = .ok (.putfield 37, 3) := by decide +kernel
theorem d_B_init_94 : decode b_B_init 94 = .ok (.return_, 1) := by decide +kernel
theorem d_B_slots_0 : decode b_B_slots 0 = .ok (.aload_n 0, 1) := by decide +kernel
theorem d_B_slots_1 : decode b_B_slots 1 = .ok (.getfield 28, 3) := by decide +kernel
theorem d_B_slots_4 : decode b_B_slots 4 = .ok (.arraylength, 1) := by decide +kernel
theorem d_B_slots_5 : decode b_B_slots 5 = .ok (.ireturn, 1) := by decide +kernel
theorem d_B_placeOf_0 : decode b_B_placeOf 0 = .ok (.iload_n 1, 1) := by decide +kernel
theorem d_B_placeOf_1 : decode b_B_placeOf 1 = .ok (.aload_n 0, 1) := by decide +kernel
theorem d_B_placeOf_2 : decode b_B_placeOf 2 = .ok (.getfield 15, 3) := by decide +kernel
theorem d_B_placeOf_5 : decode b_B_placeOf 5 = .ok (.imul, 1) := by decide +kernel
theorem d_B_placeOf_6 : decode b_B_placeOf 6 = .ok (.iload_n 2, 1) := by decide +kernel
theorem d_B_placeOf_7 : decode b_B_placeOf 7 = .ok (.aload_n 0, 1) := by decide +kernel
theorem d_B_placeOf_8 : decode b_B_placeOf 8 = .ok (.getfield 15, 3) := by decide +kernel
theorem d_B_placeOf_11 : decode b_B_placeOf 11 = .ok (.invokestatic 41, 3) := by decide +kernel
theorem d_B_placeOf_14 : decode b_B_placeOf 14 = .ok (.iadd, 1) := by decide +kernel
theorem d_B_placeOf_15 : decode b_B_placeOf 15 = .ok (.ireturn, 1) := by decide +kernel
theorem d_B_size_0 : decode b_B_size 0 = .ok (.iload_n 1, 1) := by decide +kernel
theorem d_B_size_1 : decode b_B_size 1 = .ok (.ifCond .lt 21, 3) := by decide +kernel
theorem d_B_size_4 : decode b_B_size 4 = .ok (.iload_n 1, 1) := by decide +kernel
theorem d_B_size_5 : decode b_B_size 5 = .ok (.aload_n 0, 1) := by decide +kernel
theorem d_B_size_6 : decode b_B_size 6 = .ok (.getfield 24, 3) := by decide +kernel
theorem d_B_size_9 : decode b_B_size 9 = .ok (.arraylength, 1) := by decide +kernel
theorem d_B_size_10 : decode b_B_size 10 = .ok (.if_icmp .ge 12, 3) := by decide +kernel
theorem d_B_size_13 : decode b_B_size 13 = .ok (.aload_n 0, 1) := by decide +kernel
theorem d_B_size_14 : decode b_B_size 14 = .ok (.getfield 24, 3) := by decide +kernel
theorem d_B_size_17 : decode b_B_size 17 = .ok (.iload_n 1, 1) := by decide +kernel
theorem d_B_size_18 : decode b_B_size 18 = .ok (.iaload, 1) := by decide +kernel
theorem d_B_size_19 : decode b_B_size 19 = .ok (.goto 4, 3) := by decide +kernel
theorem d_B_size_22 : decode b_B_size 22 = .ok (.iconst 0, 1) := by decide +kernel
theorem d_B_size_23 : decode b_B_size 23 = .ok (.ireturn, 1) := by decide +kernel
theorem d_B_isFull_0 : decode b_B_isFull 0 = .ok (.aload_n 0, 1) := by decide +kernel
theorem d_B_isFull_1 : decode b_B_isFull 1 = .ok (.iload_n 1, 1) := by decide +kernel
theorem d_B_isFull_2 : decode b_B_isFull 2 = .ok (.invokevirtual 44, 3) := by decide +kernel
theorem d_B_isFull_5 : decode b_B_isFull 5 = .ok (.aload_n 0, 1) := by decide +kernel
theorem d_B_isFull_6 : decode b_B_isFull 6 = .ok (.getfield 21, 3) := by decide +kernel
theorem d_B_isFull_9 : decode b_B_isFull 9 = .ok (.if_icmp .lt 7, 3) := by decide +kernel
theorem d_B_isFull_12 : decode b_B_isFull 12 = .ok (.iconst 1, 1) := by decide +kernel
theorem d_B_isFull_13 : decode b_B_isFull 13 = .ok (.goto 4, 3) := by decide +kernel
theorem d_B_isFull_16 : decode b_B_isFull 16 = .ok (.iconst 0, 1) := by decide +kernel
theorem d_B_isFull_17 : decode b_B_isFull 17 = .ok (.ireturn, 1) := by decide +kernel
theorem d_B_total_0 : decode b_B_total 0 = .ok (.iconst 0, 1) := by decide +kernel
theorem d_B_total_1 : decode b_B_total 1 = .ok (.istore_n 1, 1) := by decide +kernel
theorem d_B_total_2 : decode b_B_total 2 = .ok (.iconst 0, 1) := by decide +kernel
theorem d_B_total_3 : decode b_B_total 3 = .ok (.istore_n 2, 1) := by decide +kernel
theorem d_B_total_4 : decode b_B_total 4 = .ok (.iload_n 2, 1) := by decide +kernel
theorem d_B_total_5 : decode b_B_total 5 = .ok (.aload_n 0, 1) := by decide +kernel
theorem d_B_total_6 : decode b_B_total 6 = .ok (.getfield 24, 3) := by decide +kernel
theorem d_B_total_9 : decode b_B_total 9 = .ok (.arraylength, 1) := by decide +kernel
theorem d_B_total_10 : decode b_B_total 10 = .ok (.if_icmp .ge 18, 3) := by decide +kernel
theorem d_B_total_13 : decode b_B_total 13 = .ok (.iload_n 1, 1) := by decide +kernel
theorem d_B_total_14 : decode b_B_total 14 = .ok (.aload_n 0, 1) := by decide +kernel
theorem d_B_total_15 : decode b_B_total 15 = .ok (.getfield 24, 3) := by decide +kernel
theorem d_B_total_18 : decode b_B_total 18 = .ok (.iload_n 2, 1) := by decide +kernel
theorem d_B_total_19 : decode b_B_total 19 = .ok (.iaload, 1) := by decide +kernel
theorem d_B_total_20 : decode b_B_total 20 = .ok (.iadd, 1) := by decide +kernel
theorem d_B_total_21 : decode b_B_total 21 = .ok (.istore_n 1, 1) := by decide +kernel
theorem d_B_total_22 : decode b_B_total 22 = .ok (.iinc 2 1, 3) := by decide +kernel
theorem d_B_total_25 : decode b_B_total 25 = .ok (.goto (-21), 3) := by decide +kernel
theorem d_B_total_28 : decode b_B_total 28 = .ok (.iload_n 1, 1) := by decide +kernel
theorem d_B_total_29 : decode b_B_total 29 = .ok (.ireturn, 1) := by decide +kernel
theorem d_B_isSlot_0 : decode b_B_isSlot 0 = .ok (.iload_n 1, 1) := by decide +kernel
theorem d_B_isSlot_1 : decode b_B_isSlot 1 = .ok (.ifCond .lt 16, 3) := by decide +kernel
theorem d_B_isSlot_4 : decode b_B_isSlot 4 = .ok (.iload_n 1, 1) := by decide +kernel
theorem d_B_isSlot_5 : decode b_B_isSlot 5 = .ok (.aload_n 0, 1) := by decide +kernel
theorem d_B_isSlot_6 : decode b_B_isSlot 6 = .ok (.getfield 28, 3) := by decide +kernel
theorem d_B_isSlot_9 : decode b_B_isSlot 9 = .ok (.arraylength, 1) := by decide +kernel
theorem d_B_isSlot_10 : decode b_B_isSlot 10 = .ok (.if_icmp .ge 7, 3) := by decide +kernel
theorem d_B_isSlot_13 : decode b_B_isSlot 13 = .ok (.iconst 1, 1) := by decide +kernel
theorem d_B_isSlot_14 : decode b_B_isSlot 14 = .ok (.goto 4, 3) := by decide +kernel
theorem d_B_isSlot_17 : decode b_B_isSlot 17 = .ok (.iconst 0, 1) := by decide +kernel
theorem d_B_isSlot_18 : decode b_B_isSlot 18 = .ok (.ireturn, 1) := by decide +kernel
theorem d_B_lineAt_0 : decode b_B_lineAt 0 = .ok (.aload_n 0, 1) := by decide +kernel
theorem d_B_lineAt_1 : decode b_B_lineAt 1 = .ok (.iload_n 1, 1) := by decide +kernel
theorem d_B_lineAt_2 : decode b_B_lineAt 2 = .ok (.invokevirtual 48, 3) := by decide +kernel
theorem d_B_lineAt_5 : decode b_B_lineAt 5 = .ok (.ifCond .eq 12, 3) := by decide +kernel
theorem d_B_lineAt_8 : decode b_B_lineAt 8 = .ok (.aload_n 0, 1) := by decide +kernel
theorem d_B_lineAt_9 : decode b_B_lineAt 9 = .ok (.getfield 28, 3) := by decide +kernel
theorem d_B_lineAt_12 : decode b_B_lineAt 12 = .ok (.iload_n 1, 1) := by decide +kernel
theorem d_B_lineAt_13 : decode b_B_lineAt 13 = .ok (.iaload, 1) := by decide +kernel
theorem d_B_lineAt_14 : decode b_B_lineAt 14 = .ok (.goto 4, 3) := by decide +kernel
theorem d_B_lineAt_17 : decode b_B_lineAt 17 = .ok (.iconst 0, 1) := by decide +kernel
theorem d_B_lineAt_18 : decode b_B_lineAt 18 = .ok (.ireturn, 1) := by decide +kernel
theorem d_B_versionAt_0 : decode b_B_versionAt 0 = .ok (.aload_n 0, 1) := by decide +kernel
theorem d_B_versionAt_1 : decode b_B_versionAt 1 = .ok (.iload_n 1, 1) := by decide +kernel
theorem d_B_versionAt_2 : decode b_B_versionAt 2 = .ok (.invokevirtual 48, 3) := by decide +kernel
theorem d_B_versionAt_5 : decode b_B_versionAt 5 = .ok (.ifCond .eq 12, 3) := by decide +kernel
theorem d_B_versionAt_8 : decode b_B_versionAt 8 = .ok (.aload_n 0, 1) := by decide +kernel
theorem d_B_versionAt_9 : decode b_B_versionAt 9 = .ok (.getfield 31, 3) := by decide +kernel
theorem d_B_versionAt_12 : decode b_B_versionAt 12 = .ok (.iload_n 1, 1) := by decide +kernel
theorem d_B_versionAt_13 : decode b_B_versionAt 13 = .ok (.iaload, 1) := by decide +kernel
theorem d_B_versionAt_14 : decode b_B_versionAt 14 = .ok (.goto 4, 3) := by decide +kernel
theorem d_B_versionAt_17 : decode b_B_versionAt 17 = .ok (.iconst 0, 1) := by decide +kernel
theorem d_B_versionAt_18 : decode b_B_versionAt 18 = .ok (.ireturn, 1) := by decide +kernel
theorem d_B_ownerAt_0 : decode b_B_ownerAt 0 = .ok (.aload_n 0, 1) := by decide +kernel
theorem d_B_ownerAt_1 : decode b_B_ownerAt 1 = .ok (.iload_n 1, 1) := by decide +kernel
theorem d_B_ownerAt_2 : decode b_B_ownerAt 2 = .ok (.invokevirtual 48, 3) := by decide +kernel
theorem d_B_ownerAt_5 : decode b_B_ownerAt 5 = .ok (.ifCond .eq 12, 3) := by decide +kernel
theorem d_B_ownerAt_8 : decode b_B_ownerAt 8 = .ok (.aload_n 0, 1) := by decide +kernel
theorem d_B_ownerAt_9 : decode b_B_ownerAt 9 = .ok (.getfield 34, 3) := by decide +kernel
theorem d_B_ownerAt_12 : decode b_B_ownerAt 12 = .ok (.iload_n 1, 1) := by decide +kernel
theorem d_B_ownerAt_13 : decode b_B_ownerAt 13 = .ok (.iaload, 1) := by decide +kernel
theorem d_B_ownerAt_14 : decode b_B_ownerAt 14 = .ok (.goto 4, 3) := by decide +kernel
theorem d_B_ownerAt_17 : decode b_B_ownerAt 17 = .ok (.iconst (-1), 1) := by decide +kernel
theorem d_B_ownerAt_18 : decode b_B_ownerAt 18 = .ok (.ireturn, 1) := by decide +kernel
theorem d_B_isWritten_0 : decode b_B_isWritten 0 = .ok (.aload_n 0, 1) := by decide +kernel
theorem d_B_isWritten_1 : decode b_B_isWritten 1 = .ok (.iload_n 1, 1) := by decide +kernel
theorem d_B_isWritten_2 : decode b_B_isWritten 2 = .ok (.invokevirtual 48, 3) := by decide +kernel
theorem d_B_isWritten_5 : decode b_B_isWritten 5 = .ok (.ifCond .eq 16, 3) := by decide +kernel
theorem d_B_isWritten_8 : decode b_B_isWritten 8 = .ok (.aload_n 0, 1) := by decide +kernel
theorem d_B_isWritten_9 : decode b_B_isWritten 9 = .ok (.getfield 37, 3) := by decide +kernel
theorem d_B_isWritten_12 : decode b_B_isWritten 12 = .ok (.iload_n 1, 1) := by decide +kernel
theorem d_B_isWritten_13 : decode b_B_isWritten 13 = .ok (.baload, 1) := by decide +kernel
theorem d_B_isWritten_14 : decode b_B_isWritten 14 = .ok (.ifCond .eq 7, 3) := by decide +kernel
theorem d_B_isWritten_17 : decode b_B_isWritten 17 = .ok (.iconst 1, 1) := by decide +kernel
theorem d_B_isWritten_18 : decode b_B_isWritten 18 = .ok (.goto 4, 3) := by decide +kernel
theorem d_B_isWritten_21 : decode b_B_isWritten 21 = .ok (.iconst 0, 1) := by decide +kernel
theorem d_B_isWritten_22 : decode b_B_isWritten 22 = .ok (.ireturn, 1) := by decide +kernel
theorem d_B_clean_0 : decode b_B_clean 0 = .ok (.aload_n 0, 1) := by decide +kernel
theorem d_B_clean_1 : decode b_B_clean 1 = .ok (.iload_n 1, 1) := by decide +kernel
theorem d_B_clean_2 : decode b_B_clean 2 = .ok (.invokevirtual 48, 3) := by decide +kernel
theorem d_B_clean_5 : decode b_B_clean 5 = .ok (.ifCond .eq 10, 3) := by decide +kernel
theorem d_B_clean_8 : decode b_B_clean 8 = .ok (.aload_n 0, 1) := by decide +kernel
theorem d_B_clean_9 : decode b_B_clean 9 = .ok (.getfield 37, 3) := by decide +kernel
theorem d_B_clean_12 : decode b_B_clean 12 = .ok (.iload_n 1, 1) := by decide +kernel
theorem d_B_clean_13 : decode b_B_clean 13 = .ok (.iconst 0, 1) := by decide +kernel
theorem d_B_clean_14 : decode b_B_clean 14 = .ok (.bastore, 1) := by decide +kernel
theorem d_B_clean_15 : decode b_B_clean 15 = .ok (.return_, 1) := by decide +kernel
theorem d_B_rewrite_0 : decode b_B_rewrite 0 = .ok (.aload_n 0, 1) := by decide +kernel
theorem d_B_rewrite_1 : decode b_B_rewrite 1 = .ok (.iload_n 1, 1) := by decide +kernel
theorem d_B_rewrite_2 : decode b_B_rewrite 2 = .ok (.invokevirtual 48, 3) := by decide +kernel
theorem d_B_rewrite_5 : decode b_B_rewrite 5 = .ok (.ifCond .eq 17, 3) := by decide +kernel
theorem d_B_rewrite_8 : decode b_B_rewrite 8 = .ok (.aload_n 0, 1) := by decide +kernel
theorem d_B_rewrite_9 : decode b_B_rewrite 9 = .ok (.getfield 31, 3) := by decide +kernel
theorem d_B_rewrite_12 : decode b_B_rewrite 12 = .ok (.iload_n 1, 1) := by decide +kernel
theorem d_B_rewrite_13 : decode b_B_rewrite 13 = .ok (.iload_n 2, 1) := by decide +kernel
theorem d_B_rewrite_14 : decode b_B_rewrite 14 = .ok (.iastore, 1) := by decide +kernel
theorem d_B_rewrite_15 : decode b_B_rewrite 15 = .ok (.aload_n 0, 1) := by decide +kernel
theorem d_B_rewrite_16 : decode b_B_rewrite 16 = .ok (.getfield 37, 3) := by decide +kernel
theorem d_B_rewrite_19 : decode b_B_rewrite 19 = .ok (.iload_n 1, 1) := by decide +kernel
theorem d_B_rewrite_20 : decode b_B_rewrite 20 = .ok (.iconst 1, 1) := by decide +kernel
theorem d_B_rewrite_21 : decode b_B_rewrite 21 = .ok (.bastore, 1) := by decide +kernel
theorem d_B_rewrite_22 : decode b_B_rewrite 22 = .ok (.return_, 1) := by decide +kernel
theorem d_B_find_0 : decode b_B_find 0 = .ok (.aload_n 0, 1) := by decide +kernel
theorem d_B_find_1 : decode b_B_find 1 = .ok (.iload_n 1, 1) := by decide +kernel
theorem d_B_find_2 : decode b_B_find 2 = .ok (.iload_n 2, 1) := by decide +kernel
theorem d_B_find_3 : decode b_B_find 3 = .ok (.invokevirtual 52, 3) := by decide +kernel
theorem d_B_find_6 : decode b_B_find 6 = .ok (.istore_n 3, 1) := by decide +kernel
theorem d_B_find_7 : decode b_B_find 7 = .ok (.iconst 0, 1) := by decide +kernel
theorem d_B_find_8 : decode b_B_find 8 = .ok (.istore 4, 2) := by decide +kernel
theorem d_B_find_10 : decode b_B_find 10 = .ok (.iload 4, 2) := by decide +kernel
theorem d_B_find_12 : decode b_B_find 12 = .ok (.aload_n 0, 1) := by decide +kernel
theorem d_B_find_13 : decode b_B_find 13 = .ok (.iload_n 3, 1) := by decide +kernel
theorem d_B_find_14 : decode b_B_find 14 = .ok (.invokevirtual 44, 3) := by decide +kernel
theorem d_B_find_17 : decode b_B_find 17 = .ok (.if_icmp .ge 36, 3) := by decide +kernel
theorem d_B_find_20 : decode b_B_find 20 = .ok (.aload_n 0, 1) := by decide +kernel
theorem d_B_find_21 : decode b_B_find 21 = .ok (.iload_n 3, 1) := by decide +kernel
theorem d_B_find_22 : decode b_B_find 22 = .ok (.aload_n 0, 1) := by decide +kernel
theorem d_B_find_23 : decode b_B_find 23 = .ok (.getfield 21, 3) := by decide +kernel
theorem d_B_find_26 : decode b_B_find 26 = .ok (.imul, 1) := by decide +kernel
theorem d_B_find_27 : decode b_B_find 27 = .ok (.iload 4, 2) := by decide +kernel
theorem d_B_find_29 : decode b_B_find 29 = .ok (.iadd, 1) := by decide +kernel
theorem d_B_find_30 : decode b_B_find 30 = .ok (.invokevirtual 55, 3) := by decide +kernel
theorem d_B_find_33 : decode b_B_find 33 = .ok (.iload_n 2, 1) := by decide +kernel
theorem d_B_find_34 : decode b_B_find 34 = .ok (.if_icmp .ne 13, 3) := by decide +kernel
theorem d_B_find_37 : decode b_B_find 37 = .ok (.iload_n 3, 1) := by decide +kernel
theorem d_B_find_38 : decode b_B_find 38 = .ok (.aload_n 0, 1) := by decide +kernel
theorem d_B_find_39 : decode b_B_find 39 = .ok (.getfield 21, 3) := by decide +kernel
theorem d_B_find_42 : decode b_B_find 42 = .ok (.imul, 1) := by decide +kernel
theorem d_B_find_43 : decode b_B_find 43 = .ok (.iload 4, 2) := by decide +kernel
theorem d_B_find_45 : decode b_B_find 45 = .ok (.iadd, 1) := by decide +kernel
theorem d_B_find_46 : decode b_B_find 46 = .ok (.ireturn, 1) := by decide +kernel
theorem d_B_find_47 : decode b_B_find 47 = .ok (.iinc 4 1, 3) := by decide +kernel
theorem d_B_find_50 : decode b_B_find 50 = .ok (.goto (-40), 3) := by decide +kernel
theorem d_B_find_53 : decode b_B_find 53 = .ok (.iconst (-1), 1) := by decide +kernel
theorem d_B_find_54 : decode b_B_find 54 = .ok (.ireturn, 1) := by decide +kernel
theorem d_B_oldest_0 : decode b_B_oldest 0 = .ok (.aload_n 0, 1) := by decide +kernel
theorem d_B_oldest_1 : decode b_B_oldest 1 = .ok (.iload_n 1, 1) := by decide +kernel
theorem d_B_oldest_2 : decode b_B_oldest 2 = .ok (.invokevirtual 44, 3) := by decide +kernel
theorem d_B_oldest_5 : decode b_B_oldest 5 = .ok (.istore_n 2, 1) := by decide +kernel
theorem d_B_oldest_6 : decode b_B_oldest 6 = .ok (.iload_n 2, 1) := by decide +kernel
theorem d_B_oldest_7 : decode b_B_oldest 7 = .ok (.ifCond .le 16, 3) := by decide +kernel
theorem d_B_oldest_10 : decode b_B_oldest 10 = .ok (.iload_n 1, 1) := by decide +kernel
theorem d_B_oldest_11 : decode b_B_oldest 11 = .ok (.aload_n 0, 1) := by decide +kernel
theorem d_B_oldest_12 : decode b_B_oldest 12 = .ok (.getfield 21, 3) := by decide +kernel
theorem d_B_oldest_15 : decode b_B_oldest 15 = .ok (.imul, 1) := by decide +kernel
theorem d_B_oldest_16 : decode b_B_oldest 16 = .ok (.iload_n 2, 1) := by decide +kernel
theorem d_B_oldest_17 : decode b_B_oldest 17 = .ok (.iadd, 1) := by decide +kernel
theorem d_B_oldest_18 : decode b_B_oldest 18 = .ok (.iconst 1, 1) := by decide +kernel
theorem d_B_oldest_19 : decode b_B_oldest 19 = .ok (.isub, 1) := by decide +kernel
theorem d_B_oldest_20 : decode b_B_oldest 20 = .ok (.goto 4, 3) := by decide +kernel
theorem d_B_oldest_23 : decode b_B_oldest 23 = .ok (.iconst (-1), 1) := by decide +kernel
theorem d_B_oldest_24 : decode b_B_oldest 24 = .ok (.ireturn, 1) := by decide +kernel
theorem d_B_oldestOwned_0 : decode b_B_oldestOwned 0 = .ok (.aload_n 0, 1) := by decide +kernel
theorem d_B_oldestOwned_1 : decode b_B_oldestOwned 1 = .ok (.iload_n 1, 1) := by decide +kernel
theorem d_B_oldestOwned_2 : decode b_B_oldestOwned 2 = .ok (.invokevirtual 44, 3) := by decide +kernel
theorem d_B_oldestOwned_5 : decode b_B_oldestOwned 5 = .ok (.iconst 1, 1) := by decide +kernel
theorem d_B_oldestOwned_6 : decode b_B_oldestOwned 6 = .ok (.isub, 1) := by decide +kernel
theorem d_B_oldestOwned_7 : decode b_B_oldestOwned 7 = .ok (.istore_n 3, 1) := by decide +kernel
theorem d_B_oldestOwned_8 : decode b_B_oldestOwned 8 = .ok (.iload_n 3, 1) := by decide +kernel
theorem d_B_oldestOwned_9 : decode b_B_oldestOwned 9 = .ok (.ifCond .lt 34, 3) := by decide +kernel
theorem d_B_oldestOwned_12 : decode b_B_oldestOwned 12 = .ok (.aload_n 0, 1) := by decide +kernel
theorem d_B_oldestOwned_13 : decode b_B_oldestOwned 13 = .ok (.iload_n 1, 1) := by decide +kernel
theorem d_B_oldestOwned_14 : decode b_B_oldestOwned 14 = .ok (.aload_n 0, 1) := by decide +kernel
theorem d_B_oldestOwned_15 : decode b_B_oldestOwned 15 = .ok (.getfield 21, 3) := by decide +kernel
theorem d_B_oldestOwned_18 : decode b_B_oldestOwned 18 = .ok (.imul, 1) := by decide +kernel
theorem d_B_oldestOwned_19 : decode b_B_oldestOwned 19 = .ok (.iload_n 3, 1) := by decide +kernel
theorem d_B_oldestOwned_20 : decode b_B_oldestOwned 20 = .ok (.iadd, 1) := by decide +kernel
theorem d_B_oldestOwned_21 : decode b_B_oldestOwned 21 = .ok (.invokevirtual 58, 3) := by decide +kernel
theorem d_B_oldestOwned_24 : decode b_B_oldestOwned 24 = .ok (.iload_n 2, 1) := by decide +kernel
theorem d_B_oldestOwned_25 : decode b_B_oldestOwned 25 = .ok (.if_icmp .ne 12, 3) := by decide +kernel
theorem d_B_oldestOwned_28 : decode b_B_oldestOwned 28 = .ok (.iload_n 1, 1) := by decide +kernel
theorem d_B_oldestOwned_29 : decode b_B_oldestOwned 29 = .ok (.aload_n 0, 1) := by decide +kernel
theorem d_B_oldestOwned_30 : decode b_B_oldestOwned 30 = .ok (.getfield 21, 3) := by decide +kernel
theorem d_B_oldestOwned_33 : decode b_B_oldestOwned 33 = .ok (.imul, 1) := by decide +kernel
theorem d_B_oldestOwned_34 : decode b_B_oldestOwned 34 = .ok (.iload_n 3, 1) := by decide +kernel
theorem d_B_oldestOwned_35 : decode b_B_oldestOwned 35 = .ok (.iadd, 1) := by decide +kernel
theorem d_B_oldestOwned_36 : decode b_B_oldestOwned 36 = .ok (.ireturn, 1) := by decide +kernel
theorem d_B_oldestOwned_37 : decode b_B_oldestOwned 37 = .ok (.iinc 3 (-1), 3) := by decide +kernel
theorem d_B_oldestOwned_40 : decode b_B_oldestOwned 40 = .ok (.goto (-32), 3) := by decide +kernel
theorem d_B_oldestOwned_43 : decode b_B_oldestOwned 43 = .ok (.iconst (-1), 1) := by decide +kernel
theorem d_B_oldestOwned_44 : decode b_B_oldestOwned 44 = .ok (.ireturn, 1) := by decide +kernel
theorem d_B_ownedAt_0 : decode b_B_ownedAt 0 = .ok (.iconst 0, 1) := by decide +kernel
theorem d_B_ownedAt_1 : decode b_B_ownedAt 1 = .ok (.istore_n 3, 1) := by decide +kernel
theorem d_B_ownedAt_2 : decode b_B_ownedAt 2 = .ok (.iconst 0, 1) := by decide +kernel
theorem d_B_ownedAt_3 : decode b_B_ownedAt 3 = .ok (.istore 4, 2) := by decide +kernel
theorem d_B_ownedAt_5 : decode b_B_ownedAt 5 = .ok (.iload 4, 2) := by decide +kernel
theorem d_B_ownedAt_7 : decode b_B_ownedAt 7 = .ok (.aload_n 0, 1) := by decide +kernel
theorem d_B_ownedAt_8 : decode b_B_ownedAt 8 = .ok (.iload_n 1, 1) := by decide +kernel
theorem d_B_ownedAt_9 : decode b_B_ownedAt 9 = .ok (.invokevirtual 44, 3) := by decide +kernel
theorem d_B_ownedAt_12 : decode b_B_ownedAt 12 = .ok (.if_icmp .ge 29, 3) := by decide +kernel
theorem d_B_ownedAt_15 : decode b_B_ownedAt 15 = .ok (.aload_n 0, 1) := by decide +kernel
theorem d_B_ownedAt_16 : decode b_B_ownedAt 16 = .ok (.iload_n 1, 1) := by decide +kernel
theorem d_B_ownedAt_17 : decode b_B_ownedAt 17 = .ok (.aload_n 0, 1) := by decide +kernel
theorem d_B_ownedAt_18 : decode b_B_ownedAt 18 = .ok (.getfield 21, 3) := by decide +kernel
theorem d_B_ownedAt_21 : decode b_B_ownedAt 21 = .ok (.imul, 1) := by decide +kernel
theorem d_B_ownedAt_22 : decode b_B_ownedAt 22 = .ok (.iload 4, 2) := by decide +kernel
theorem d_B_ownedAt_24 : decode b_B_ownedAt 24 = .ok (.iadd, 1) := by decide +kernel
theorem d_B_ownedAt_25 : decode b_B_ownedAt 25 = .ok (.invokevirtual 58, 3) := by decide +kernel
theorem d_B_ownedAt_28 : decode b_B_ownedAt 28 = .ok (.iload_n 2, 1) := by decide +kernel
theorem d_B_ownedAt_29 : decode b_B_ownedAt 29 = .ok (.if_icmp .ne 6, 3) := by decide +kernel
theorem d_B_ownedAt_32 : decode b_B_ownedAt 32 = .ok (.iinc 3 1, 3) := by decide +kernel
theorem d_B_ownedAt_35 : decode b_B_ownedAt 35 = .ok (.iinc 4 1, 3) := by decide +kernel
theorem d_B_ownedAt_38 : decode b_B_ownedAt 38 = .ok (.goto (-33), 3) := by decide +kernel
theorem d_B_ownedAt_41 : decode b_B_ownedAt 41 = .ok (.iload_n 3, 1) := by decide +kernel
theorem d_B_ownedAt_42 : decode b_B_ownedAt 42 = .ok (.ireturn, 1) := by decide +kernel
theorem d_B_ownedBy_0 : decode b_B_ownedBy 0 = .ok (.iconst 0, 1) := by decide +kernel
theorem d_B_ownedBy_1 : decode b_B_ownedBy 1 = .ok (.istore_n 2, 1) := by decide +kernel
theorem d_B_ownedBy_2 : decode b_B_ownedBy 2 = .ok (.iconst 0, 1) := by decide +kernel
theorem d_B_ownedBy_3 : decode b_B_ownedBy 3 = .ok (.istore_n 3, 1) := by decide +kernel
theorem d_B_ownedBy_4 : decode b_B_ownedBy 4 = .ok (.iload_n 3, 1) := by decide +kernel
theorem d_B_ownedBy_5 : decode b_B_ownedBy 5 = .ok (.aload_n 0, 1) := by decide +kernel
theorem d_B_ownedBy_6 : decode b_B_ownedBy 6 = .ok (.getfield 24, 3) := by decide +kernel
theorem d_B_ownedBy_9 : decode b_B_ownedBy 9 = .ok (.arraylength, 1) := by decide +kernel
theorem d_B_ownedBy_10 : decode b_B_ownedBy 10 = .ok (.if_icmp .ge 18, 3) := by decide +kernel
theorem d_B_ownedBy_13 : decode b_B_ownedBy 13 = .ok (.iload_n 2, 1) := by decide +kernel
theorem d_B_ownedBy_14 : decode b_B_ownedBy 14 = .ok (.aload_n 0, 1) := by decide +kernel
theorem d_B_ownedBy_15 : decode b_B_ownedBy 15 = .ok (.iload_n 3, 1) := by decide +kernel
theorem d_B_ownedBy_16 : decode b_B_ownedBy 16 = .ok (.iload_n 1, 1) := by decide +kernel
theorem d_B_ownedBy_17 : decode b_B_ownedBy 17 = .ok (.invokevirtual 61, 3) := by decide +kernel
theorem d_B_ownedBy_20 : decode b_B_ownedBy 20 = .ok (.iadd, 1) := by decide +kernel
theorem d_B_ownedBy_21 : decode b_B_ownedBy 21 = .ok (.istore_n 2, 1) := by decide +kernel
theorem d_B_ownedBy_22 : decode b_B_ownedBy 22 = .ok (.iinc 3 1, 3) := by decide +kernel
theorem d_B_ownedBy_25 : decode b_B_ownedBy 25 = .ok (.goto (-21), 3) := by decide +kernel
theorem d_B_ownedBy_28 : decode b_B_ownedBy 28 = .ok (.iload_n 2, 1) := by decide +kernel
theorem d_B_ownedBy_29 : decode b_B_ownedBy 29 = .ok (.ireturn, 1) := by decide +kernel
theorem d_B_put_0 : decode b_B_put 0 = .ok (.iload_n 1, 1) := by decide +kernel
theorem d_B_put_1 : decode b_B_put 1 = .ok (.ifCond .lt 20, 3) := by decide +kernel
theorem d_B_put_4 : decode b_B_put 4 = .ok (.iload_n 1, 1) := by decide +kernel
theorem d_B_put_5 : decode b_B_put 5 = .ok (.aload_n 0, 1) := by decide +kernel
theorem d_B_put_6 : decode b_B_put 6 = .ok (.getfield 24, 3) := by decide +kernel
theorem d_B_put_9 : decode b_B_put 9 = .ok (.arraylength, 1) := by decide +kernel
theorem d_B_put_10 : decode b_B_put 10 = .ok (.if_icmp .ge 11, 3) := by decide +kernel
theorem d_B_put_13 : decode b_B_put 13 = .ok (.aload_n 0, 1) := by decide +kernel
theorem d_B_put_14 : decode b_B_put 14 = .ok (.iload_n 1, 1) := by decide +kernel
theorem d_B_put_15 : decode b_B_put 15 = .ok (.invokevirtual 64, 3) := by decide +kernel
theorem d_B_put_18 : decode b_B_put 18 = .ok (.ifCond .eq 4, 3) := by decide +kernel
theorem d_B_put_21 : decode b_B_put 21 = .ok (.return_, 1) := by decide +kernel
theorem d_B_put_22 : decode b_B_put 22 = .ok (.iload_n 1, 1) := by decide +kernel
theorem d_B_put_23 : decode b_B_put 23 = .ok (.aload_n 0, 1) := by decide +kernel
theorem d_B_put_24 : decode b_B_put 24 = .ok (.getfield 21, 3) := by decide +kernel
theorem d_B_put_27 : decode b_B_put 27 = .ok (.imul, 1) := by decide +kernel
theorem d_B_put_28 : decode b_B_put 28 = .ok (.aload_n 0, 1) := by decide +kernel
theorem d_B_put_29 : decode b_B_put 29 = .ok (.getfield 24, 3) := by decide +kernel
theorem d_B_put_32 : decode b_B_put 32 = .ok (.iload_n 1, 1) := by decide +kernel
theorem d_B_put_33 : decode b_B_put 33 = .ok (.iaload, 1) := by decide +kernel
theorem d_B_put_34 : decode b_B_put 34 = .ok (.iadd, 1) := by decide +kernel
theorem d_B_put_35 : decode b_B_put 35 = .ok (.istore 6, 2) := by decide +kernel
theorem d_B_put_37 : decode b_B_put 37 = .ok (.aload_n 0, 1) := by decide +kernel
theorem d_B_put_38 : decode b_B_put 38 = .ok (.iload 6, 2) := by decide +kernel
theorem d_B_put_40 : decode b_B_put 40 = .ok (.invokevirtual 48, 3) := by decide +kernel
theorem d_B_put_43 : decode b_B_put 43 = .ok (.ifCond .eq 53, 3) := by decide +kernel
theorem d_B_put_46 : decode b_B_put 46 = .ok (.aload_n 0, 1) := by decide +kernel
theorem d_B_put_47 : decode b_B_put 47 = .ok (.getfield 28, 3) := by decide +kernel
theorem d_B_put_50 : decode b_B_put 50 = .ok (.iload 6, 2) := by decide +kernel
theorem d_B_put_52 : decode b_B_put 52 = .ok (.iload_n 2, 1) := by decide +kernel
theorem d_B_put_53 : decode b_B_put 53 = .ok (.iastore, 1) := by decide +kernel
theorem d_B_put_54 : decode b_B_put 54 = .ok (.aload_n 0, 1) := by decide +kernel
theorem d_B_put_55 : decode b_B_put 55 = .ok (.getfield 31, 3) := by decide +kernel
theorem d_B_put_58 : decode b_B_put 58 = .ok (.iload 6, 2) := by decide +kernel
theorem d_B_put_60 : decode b_B_put 60 = .ok (.iload_n 3, 1) := by decide +kernel
theorem d_B_put_61 : decode b_B_put 61 = .ok (.iastore, 1) := by decide +kernel
theorem d_B_put_62 : decode b_B_put 62 = .ok (.aload_n 0, 1) := by decide +kernel
theorem d_B_put_63 : decode b_B_put 63 = .ok (.getfield 37, 3) := by decide +kernel
theorem d_B_put_66 : decode b_B_put 66 = .ok (.iload 6, 2) := by decide +kernel
theorem d_B_put_68 : decode b_B_put 68 = .ok (.iload 4, 2) := by decide +kernel
theorem d_B_put_70 : decode b_B_put 70 = .ok (.bastore, 1) := by decide +kernel
theorem d_B_put_71 : decode b_B_put 71 = .ok (.aload_n 0, 1) := by decide +kernel
theorem d_B_put_72 : decode b_B_put 72 = .ok (.getfield 34, 3) := by decide +kernel
theorem d_B_put_75 : decode b_B_put 75 = .ok (.iload 6, 2) := by decide +kernel
theorem d_B_put_77 : decode b_B_put 77 = .ok (.iload 5, 2) := by decide +kernel
theorem d_B_put_79 : decode b_B_put 79 = .ok (.iastore, 1) := by decide +kernel
theorem d_B_put_80 : decode b_B_put 80 = .ok (.aload_n 0, 1) := by decide +kernel
theorem d_B_put_81 : decode b_B_put 81 = .ok (.getfield 24, 3) := by decide +kernel
theorem d_B_put_84 : decode b_B_put 84 = .ok (.iload_n 1, 1) := by decide +kernel
theorem d_B_put_85 : decode b_B_put 85 = .ok (.dup2, 1) := by decide +kernel
theorem d_B_put_86 : decode b_B_put 86 = .ok (.iaload, 1) := by decide +kernel
theorem d_B_put_87 : decode b_B_put 87 = .ok (.iconst 1, 1) := by decide +kernel
theorem d_B_put_88 : decode b_B_put 88 = .ok (.iadd, 1) := by decide +kernel
theorem d_B_put_89 : decode b_B_put 89 = .ok (.iastore, 1) := by decide +kernel
theorem d_B_put_90 : decode b_B_put 90 = .ok (.aload_n 0, 1) := by decide +kernel
theorem d_B_put_91 : decode b_B_put 91 = .ok (.iload 6, 2) := by decide +kernel
theorem d_B_put_93 : decode b_B_put 93 = .ok (.invokevirtual 67, 3) := by decide +kernel
theorem d_B_put_96 : decode b_B_put 96 = .ok (.return_, 1) := by decide +kernel
theorem d_B_useLast_0 : decode b_B_useLast 0 = .ok (.iload_n 1, 1) := by decide +kernel
theorem d_B_useLast_1 : decode b_B_useLast 1 = .ok (.aload_n 0, 1) := by decide +kernel
theorem d_B_useLast_2 : decode b_B_useLast 2 = .ok (.getfield 21, 3) := by decide +kernel
theorem d_B_useLast_5 : decode b_B_useLast 5 = .ok (.irem, 1) := by decide +kernel
theorem d_B_useLast_6 : decode b_B_useLast 6 = .ok (.istore_n 2, 1) := by decide +kernel
theorem d_B_useLast_7 : decode b_B_useLast 7 = .ok (.iconst 0, 1) := by decide +kernel
theorem d_B_useLast_8 : decode b_B_useLast 8 = .ok (.istore_n 3, 1) := by decide +kernel
theorem d_B_useLast_9 : decode b_B_useLast 9 = .ok (.iload_n 3, 1) := by decide +kernel
theorem d_B_useLast_10 : decode b_B_useLast 10 = .ok (.iload_n 2, 1) := by decide +kernel
theorem d_B_useLast_11 : decode b_B_useLast 11 = .ok (.if_icmp .ge 21, 3) := by decide +kernel
theorem d_B_useLast_14 : decode b_B_useLast 14 = .ok (.aload_n 0, 1) := by decide +kernel
theorem d_B_useLast_15 : decode b_B_useLast 15 = .ok (.iload_n 1, 1) := by decide +kernel
theorem d_B_useLast_16 : decode b_B_useLast 16 = .ok (.iload_n 3, 1) := by decide +kernel
theorem d_B_useLast_17 : decode b_B_useLast 17 = .ok (.isub, 1) := by decide +kernel
theorem d_B_useLast_18 : decode b_B_useLast 18 = .ok (.iload_n 1, 1) := by decide +kernel
theorem d_B_useLast_19 : decode b_B_useLast 19 = .ok (.iload_n 3, 1) := by decide +kernel
theorem d_B_useLast_20 : decode b_B_useLast 20 = .ok (.isub, 1) := by decide +kernel
theorem d_B_useLast_21 : decode b_B_useLast 21 = .ok (.iconst 1, 1) := by decide +kernel
theorem d_B_useLast_22 : decode b_B_useLast 22 = .ok (.isub, 1) := by decide +kernel
theorem d_B_useLast_23 : decode b_B_useLast 23 = .ok (.invokevirtual 71, 3) := by decide +kernel
theorem d_B_useLast_26 : decode b_B_useLast 26 = .ok (.iinc 3 1, 3) := by decide +kernel
theorem d_B_useLast_29 : decode b_B_useLast 29 = .ok (.goto (-20), 3) := by decide +kernel
theorem d_B_useLast_32 : decode b_B_useLast 32 = .ok (.return_, 1) := by decide +kernel
theorem d_B_drop_0 : decode b_B_drop 0 = .ok (.aload_n 0, 1) := by decide +kernel
theorem d_B_drop_1 : decode b_B_drop 1 = .ok (.iload_n 1, 1) := by decide +kernel
theorem d_B_drop_2 : decode b_B_drop 2 = .ok (.invokevirtual 48, 3) := by decide +kernel
theorem d_B_drop_5 : decode b_B_drop 5 = .ok (.ifCond .eq 12, 3) := by decide +kernel
theorem d_B_drop_8 : decode b_B_drop 8 = .ok (.iload_n 1, 1) := by decide +kernel
theorem d_B_drop_9 : decode b_B_drop 9 = .ok (.aload_n 0, 1) := by decide +kernel
theorem d_B_drop_10 : decode b_B_drop 10 = .ok (.getfield 21, 3) := by decide +kernel
theorem d_B_drop_13 : decode b_B_drop 13 = .ok (.idiv, 1) := by decide +kernel
theorem d_B_drop_14 : decode b_B_drop 14 = .ok (.goto 4, 3) := by decide +kernel
theorem d_B_drop_17 : decode b_B_drop 17 = .ok (.iconst (-1), 1) := by decide +kernel
theorem d_B_drop_18 : decode b_B_drop 18 = .ok (.istore_n 2, 1) := by decide +kernel
theorem d_B_drop_19 : decode b_B_drop 19 = .ok (.aload_n 0, 1) := by decide +kernel
theorem d_B_drop_20 : decode b_B_drop 20 = .ok (.iload_n 2, 1) := by decide +kernel
theorem d_B_drop_21 : decode b_B_drop 21 = .ok (.invokevirtual 75, 3) := by decide +kernel
theorem d_B_drop_24 : decode b_B_drop 24 = .ok (.istore_n 3, 1) := by decide +kernel
theorem d_B_drop_25 : decode b_B_drop 25 = .ok (.iload_n 2, 1) := by decide +kernel
theorem d_B_drop_26 : decode b_B_drop 26 = .ok (.ifCond .lt 17, 3) := by decide +kernel
theorem d_B_drop_29 : decode b_B_drop 29 = .ok (.iload_n 2, 1) := by decide +kernel
theorem d_B_drop_30 : decode b_B_drop 30 = .ok (.aload_n 0, 1) := by decide +kernel
theorem d_B_drop_31 : decode b_B_drop 31 = .ok (.getfield 24, 3) := by decide +kernel
theorem d_B_drop_34 : decode b_B_drop 34 = .ok (.arraylength, 1) := by decide +kernel
theorem d_B_drop_35 : decode b_B_drop 35 = .ok (.if_icmp .ge 8, 3) := by decide +kernel
theorem d_B_drop_38 : decode b_B_drop 38 = .ok (.iload_n 1, 1) := by decide +kernel
theorem d_B_drop_39 : decode b_B_drop 39 = .ok (.iload_n 3, 1) := by decide +kernel
theorem d_B_drop_40 : decode b_B_drop 40 = .ok (.if_icmp .le 4, 3) := by decide +kernel
theorem d_B_drop_43 : decode b_B_drop 43 = .ok (.return_, 1) := by decide +kernel
theorem d_B_drop_44 : decode b_B_drop 44 = .ok (.iload_n 1, 1) := by decide +kernel
theorem d_B_drop_45 : decode b_B_drop 45 = .ok (.istore 4, 2) := by decide +kernel
theorem d_B_drop_47 : decode b_B_drop 47 = .ok (.iload 4, 2) := by decide +kernel
theorem d_B_drop_49 : decode b_B_drop 49 = .ok (.iload_n 3, 1) := by decide +kernel
theorem d_B_drop_50 : decode b_B_drop 50 = .ok (.if_icmp .ge 19, 3) := by decide +kernel
theorem d_B_drop_53 : decode b_B_drop 53 = .ok (.aload_n 0, 1) := by decide +kernel
theorem d_B_drop_54 : decode b_B_drop 54 = .ok (.iload 4, 2) := by decide +kernel
theorem d_B_drop_56 : decode b_B_drop 56 = .ok (.iload 4, 2) := by decide +kernel
theorem d_B_drop_58 : decode b_B_drop 58 = .ok (.iconst 1, 1) := by decide +kernel
theorem d_B_drop_59 : decode b_B_drop 59 = .ok (.iadd, 1) := by decide +kernel
theorem d_B_drop_60 : decode b_B_drop 60 = .ok (.invokevirtual 71, 3) := by decide +kernel
theorem d_B_drop_63 : decode b_B_drop 63 = .ok (.iinc 4 1, 3) := by decide +kernel
theorem d_B_drop_66 : decode b_B_drop 66 = .ok (.goto (-19), 3) := by decide +kernel
theorem d_B_drop_69 : decode b_B_drop 69 = .ok (.aload_n 0, 1) := by decide +kernel
theorem d_B_drop_70 : decode b_B_drop 70 = .ok (.iload_n 3, 1) := by decide +kernel
theorem d_B_drop_71 : decode b_B_drop 71 = .ok (.invokevirtual 78, 3) := by decide +kernel
theorem d_B_drop_74 : decode b_B_drop 74 = .ok (.aload_n 0, 1) := by decide +kernel
theorem d_B_drop_75 : decode b_B_drop 75 = .ok (.getfield 24, 3) := by decide +kernel
theorem d_B_drop_78 : decode b_B_drop 78 = .ok (.iload_n 2, 1) := by decide +kernel
theorem d_B_drop_79 : decode b_B_drop 79 = .ok (.dup2, 1) := by decide +kernel
theorem d_B_drop_80 : decode b_B_drop 80 = .ok (.iaload, 1) := by decide +kernel
theorem d_B_drop_81 : decode b_B_drop 81 = .ok (.iconst 1, 1) := by decide +kernel
theorem d_B_drop_82 : decode b_B_drop 82 = .ok (.isub, 1) := by decide +kernel
theorem d_B_drop_83 : decode b_B_drop 83 = .ok (.iastore, 1) := by decide +kernel
theorem d_B_drop_84 : decode b_B_drop 84 = .ok (.return_, 1) := by decide +kernel
theorem d_B_swap_0 : decode b_B_swap 0 = .ok (.aload_n 0, 1) := by decide +kernel
theorem d_B_swap_1 : decode b_B_swap 1 = .ok (.iload_n 1, 1) := by decide +kernel
theorem d_B_swap_2 : decode b_B_swap 2 = .ok (.invokevirtual 48, 3) := by decide +kernel
theorem d_B_swap_5 : decode b_B_swap 5 = .ok (.ifCond .eq 11, 3) := by decide +kernel
theorem d_B_swap_8 : decode b_B_swap 8 = .ok (.aload_n 0, 1) := by decide +kernel
theorem d_B_swap_9 : decode b_B_swap 9 = .ok (.iload_n 2, 1) := by decide +kernel
theorem d_B_swap_10 : decode b_B_swap 10 = .ok (.invokevirtual 48, 3) := by decide +kernel
theorem d_B_swap_13 : decode b_B_swap 13 = .ok (.ifCond .ne 4, 3) := by decide +kernel
theorem d_B_swap_16 : decode b_B_swap 16 = .ok (.return_, 1) := by decide +kernel
theorem d_B_swap_17 : decode b_B_swap 17 = .ok (.aload_n 0, 1) := by decide +kernel
theorem d_B_swap_18 : decode b_B_swap 18 = .ok (.getfield 28, 3) := by decide +kernel
theorem d_B_swap_21 : decode b_B_swap 21 = .ok (.iload_n 1, 1) := by decide +kernel
theorem d_B_swap_22 : decode b_B_swap 22 = .ok (.iaload, 1) := by decide +kernel
theorem d_B_swap_23 : decode b_B_swap 23 = .ok (.istore_n 3, 1) := by decide +kernel
theorem d_B_swap_24 : decode b_B_swap 24 = .ok (.aload_n 0, 1) := by decide +kernel
theorem d_B_swap_25 : decode b_B_swap 25 = .ok (.getfield 28, 3) := by decide +kernel
theorem d_B_swap_28 : decode b_B_swap 28 = .ok (.iload_n 1, 1) := by decide +kernel
theorem d_B_swap_29 : decode b_B_swap 29 = .ok (.aload_n 0, 1) := by decide +kernel
theorem d_B_swap_30 : decode b_B_swap 30 = .ok (.getfield 28, 3) := by decide +kernel
theorem d_B_swap_33 : decode b_B_swap 33 = .ok (.iload_n 2, 1) := by decide +kernel
theorem d_B_swap_34 : decode b_B_swap 34 = .ok (.iaload, 1) := by decide +kernel
theorem d_B_swap_35 : decode b_B_swap 35 = .ok (.iastore, 1) := by decide +kernel
theorem d_B_swap_36 : decode b_B_swap 36 = .ok (.aload_n 0, 1) := by decide +kernel
theorem d_B_swap_37 : decode b_B_swap 37 = .ok (.getfield 28, 3) := by decide +kernel
theorem d_B_swap_40 : decode b_B_swap 40 = .ok (.iload_n 2, 1) := by decide +kernel
theorem d_B_swap_41 : decode b_B_swap 41 = .ok (.iload_n 3, 1) := by decide +kernel
theorem d_B_swap_42 : decode b_B_swap 42 = .ok (.iastore, 1) := by decide +kernel
theorem d_B_swap_43 : decode b_B_swap 43 = .ok (.aload_n 0, 1) := by decide +kernel
theorem d_B_swap_44 : decode b_B_swap 44 = .ok (.getfield 31, 3) := by decide +kernel
theorem d_B_swap_47 : decode b_B_swap 47 = .ok (.iload_n 1, 1) := by decide +kernel
theorem d_B_swap_48 : decode b_B_swap 48 = .ok (.iaload, 1) := by decide +kernel
theorem d_B_swap_49 : decode b_B_swap 49 = .ok (.istore 4, 2) := by decide +kernel
theorem d_B_swap_51 : decode b_B_swap 51 = .ok (.aload_n 0, 1) := by decide +kernel
theorem d_B_swap_52 : decode b_B_swap 52 = .ok (.getfield 31, 3) := by decide +kernel
theorem d_B_swap_55 : decode b_B_swap 55 = .ok (.iload_n 1, 1) := by decide +kernel
theorem d_B_swap_56 : decode b_B_swap 56 = .ok (.aload_n 0, 1) := by decide +kernel
theorem d_B_swap_57 : decode b_B_swap 57 = .ok (.getfield 31, 3) := by decide +kernel
theorem d_B_swap_60 : decode b_B_swap 60 = .ok (.iload_n 2, 1) := by decide +kernel
theorem d_B_swap_61 : decode b_B_swap 61 = .ok (.iaload, 1) := by decide +kernel
theorem d_B_swap_62 : decode b_B_swap 62 = .ok (.iastore, 1) := by decide +kernel
theorem d_B_swap_63 : decode b_B_swap 63 = .ok (.aload_n 0, 1) := by decide +kernel
theorem d_B_swap_64 : decode b_B_swap 64 = .ok (.getfield 31, 3) := by decide +kernel
theorem d_B_swap_67 : decode b_B_swap 67 = .ok (.iload_n 2, 1) := by decide +kernel
theorem d_B_swap_68 : decode b_B_swap 68 = .ok (.iload 4, 2) := by decide +kernel
theorem d_B_swap_70 : decode b_B_swap 70 = .ok (.iastore, 1) := by decide +kernel
theorem d_B_swap_71 : decode b_B_swap 71 = .ok (.aload_n 0, 1) := by decide +kernel
theorem d_B_swap_72 : decode b_B_swap 72 = .ok (.getfield 34, 3) := by decide +kernel
theorem d_B_swap_75 : decode b_B_swap 75 = .ok (.iload_n 1, 1) := by decide +kernel
theorem d_B_swap_76 : decode b_B_swap 76 = .ok (.iaload, 1) := by decide +kernel
theorem d_B_swap_77 : decode b_B_swap 77 = .ok (.istore 5, 2) := by decide +kernel
theorem d_B_swap_79 : decode b_B_swap 79 = .ok (.aload_n 0, 1) := by decide +kernel
theorem d_B_swap_80 : decode b_B_swap 80 = .ok (.getfield 34, 3) := by decide +kernel
theorem d_B_swap_83 : decode b_B_swap 83 = .ok (.iload_n 1, 1) := by decide +kernel
theorem d_B_swap_84 : decode b_B_swap 84 = .ok (.aload_n 0, 1) := by decide +kernel
theorem d_B_swap_85 : decode b_B_swap 85 = .ok (.getfield 34, 3) := by decide +kernel
theorem d_B_swap_88 : decode b_B_swap 88 = .ok (.iload_n 2, 1) := by decide +kernel
theorem d_B_swap_89 : decode b_B_swap 89 = .ok (.iaload, 1) := by decide +kernel
theorem d_B_swap_90 : decode b_B_swap 90 = .ok (.iastore, 1) := by decide +kernel
theorem d_B_swap_91 : decode b_B_swap 91 = .ok (.aload_n 0, 1) := by decide +kernel
theorem d_B_swap_92 : decode b_B_swap 92 = .ok (.getfield 34, 3) := by decide +kernel
theorem d_B_swap_95 : decode b_B_swap 95 = .ok (.iload_n 2, 1) := by decide +kernel
theorem d_B_swap_96 : decode b_B_swap 96 = .ok (.iload 5, 2) := by decide +kernel
theorem d_B_swap_98 : decode b_B_swap 98 = .ok (.iastore, 1) := by decide +kernel
theorem d_B_swap_99 : decode b_B_swap 99 = .ok (.aload_n 0, 1) := by decide +kernel
theorem d_B_swap_100 : decode b_B_swap 100 = .ok (.getfield 37, 3) := by decide +kernel
theorem d_B_swap_103 : decode b_B_swap 103 = .ok (.iload_n 1, 1) := by decide +kernel
theorem d_B_swap_104 : decode b_B_swap 104 = .ok (.baload, 1) := by decide +kernel
theorem d_B_swap_105 : decode b_B_swap 105 = .ok (.istore 6, 2) := by decide +kernel
theorem d_B_swap_107 : decode b_B_swap 107 = .ok (.aload_n 0, 1) := by decide +kernel
theorem d_B_swap_108 : decode b_B_swap 108 = .ok (.getfield 37, 3) := by decide +kernel
theorem d_B_swap_111 : decode b_B_swap 111 = .ok (.iload_n 1, 1) := by decide +kernel
theorem d_B_swap_112 : decode b_B_swap 112 = .ok (.aload_n 0, 1) := by decide +kernel
theorem d_B_swap_113 : decode b_B_swap 113 = .ok (.getfield 37, 3) := by decide +kernel
theorem d_B_swap_116 : decode b_B_swap 116 = .ok (.iload_n 2, 1) := by decide +kernel
theorem d_B_swap_117 : decode b_B_swap 117 = .ok (.baload, 1) := by decide +kernel
theorem d_B_swap_118 : decode b_B_swap 118 = .ok (.bastore, 1) := by decide +kernel
theorem d_B_swap_119 : decode b_B_swap 119 = .ok (.aload_n 0, 1) := by decide +kernel
theorem d_B_swap_120 : decode b_B_swap 120 = .ok (.getfield 37, 3) := by decide +kernel
theorem d_B_swap_123 : decode b_B_swap 123 = .ok (.iload_n 2, 1) := by decide +kernel
theorem d_B_swap_124 : decode b_B_swap 124 = .ok (.iload 6, 2) := by decide +kernel
theorem d_B_swap_126 : decode b_B_swap 126 = .ok (.bastore, 1) := by decide +kernel
theorem d_B_swap_127 : decode b_B_swap 127 = .ok (.return_, 1) := by decide +kernel
theorem d_B_clear_0 : decode b_B_clear 0 = .ok (.iconst 0, 1) := by decide +kernel
theorem d_B_clear_1 : decode b_B_clear 1 = .ok (.istore_n 1, 1) := by decide +kernel
theorem d_B_clear_2 : decode b_B_clear 2 = .ok (.iload_n 1, 1) := by decide +kernel
theorem d_B_clear_3 : decode b_B_clear 3 = .ok (.aload_n 0, 1) := by decide +kernel
theorem d_B_clear_4 : decode b_B_clear 4 = .ok (.getfield 24, 3) := by decide +kernel
theorem d_B_clear_7 : decode b_B_clear 7 = .ok (.arraylength, 1) := by decide +kernel
theorem d_B_clear_8 : decode b_B_clear 8 = .ok (.if_icmp .ge 16, 3) := by decide +kernel
theorem d_B_clear_11 : decode b_B_clear 11 = .ok (.aload_n 0, 1) := by decide +kernel
theorem d_B_clear_12 : decode b_B_clear 12 = .ok (.getfield 24, 3) := by decide +kernel
theorem d_B_clear_15 : decode b_B_clear 15 = .ok (.iload_n 1, 1) := by decide +kernel
theorem d_B_clear_16 : decode b_B_clear 16 = .ok (.iconst 0, 1) := by decide +kernel
theorem d_B_clear_17 : decode b_B_clear 17 = .ok (.iastore, 1) := by decide +kernel
theorem d_B_clear_18 : decode b_B_clear 18 = .ok (.iinc 1 1, 3) := by decide +kernel
theorem d_B_clear_21 : decode b_B_clear 21 = .ok (.goto (-19), 3) := by decide +kernel
theorem d_B_clear_24 : decode b_B_clear 24 = .ok (.iconst 0, 1) := by decide +kernel
theorem d_B_clear_25 : decode b_B_clear 25 = .ok (.istore_n 1, 1) := by decide +kernel
theorem d_B_clear_26 : decode b_B_clear 26 = .ok (.iload_n 1, 1) := by decide +kernel
theorem d_B_clear_27 : decode b_B_clear 27 = .ok (.aload_n 0, 1) := by decide +kernel
theorem d_B_clear_28 : decode b_B_clear 28 = .ok (.getfield 37, 3) := by decide +kernel
theorem d_B_clear_31 : decode b_B_clear 31 = .ok (.arraylength, 1) := by decide +kernel
theorem d_B_clear_32 : decode b_B_clear 32 = .ok (.if_icmp .ge 16, 3) := by decide +kernel
theorem d_B_clear_35 : decode b_B_clear 35 = .ok (.aload_n 0, 1) := by decide +kernel
theorem d_B_clear_36 : decode b_B_clear 36 = .ok (.getfield 37, 3) := by decide +kernel
theorem d_B_clear_39 : decode b_B_clear 39 = .ok (.iload_n 1, 1) := by decide +kernel
theorem d_B_clear_40 : decode b_B_clear 40 = .ok (.iconst 0, 1) := by decide +kernel
theorem d_B_clear_41 : decode b_B_clear 41 = .ok (.bastore, 1) := by decide +kernel
theorem d_B_clear_42 : decode b_B_clear 42 = .ok (.iinc 1 1, 3) := by decide +kernel
theorem d_B_clear_45 : decode b_B_clear 45 = .ok (.goto (-19), 3) := by decide +kernel
theorem d_B_clear_48 : decode b_B_clear 48 = .ok (.return_, 1) := by decide +kernel
theorem d_V_init_0 : decode b_V_init 0 = .ok (.aload_n 0, 1) := by decide +kernel
theorem d_V_init_1 : decode b_V_init 1 = .ok (.invokespecial 3, 3) := by decide +kernel
theorem d_V_init_4 : decode b_V_init 4 = .ok (.aload_n 0, 1) := by decide +kernel
theorem d_V_init_5 : decode b_V_init 5 = .ok (.sipush 512, 3) := by decide +kernel
theorem d_V_init_8 : decode b_V_init 8 = .ok (.newarray .int, 2) := by decide +kernel
theorem d_V_init_10 : decode b_V_init 10 = .ok (.putfield 11, 3) := by decide +kernel
theorem d_V_init_13 : decode b_V_init 13 = .ok (.aload_n 0, 1) := by decide +kernel
theorem d_V_init_14 : decode b_V_init 14 = .ok (.sipush 512, 3) := by decide +kernel
theorem d_V_init_17 : decode b_V_init 17 = .ok (.newarray .int, 2) := by decide +kernel
theorem d_V_init_19 : decode b_V_init 19 = .ok (.putfield 15, 3) := by decide +kernel
theorem d_V_init_22 : decode b_V_init 22 = .ok (.aload_n 0, 1) := by decide +kernel
theorem d_V_init_23 : decode b_V_init 23 = .ok (.sipush 512, 3) := by decide +kernel
theorem d_V_init_26 : decode b_V_init 26 = .ok (.newarray .int, 2) := by decide +kernel
theorem d_V_init_28 : decode b_V_init 28 = .ok (.putfield 18, 3) := by decide +kernel
theorem d_V_init_31 : decode b_V_init 31 = .ok (.return_, 1) := by decide +kernel
theorem d_V_inMemory_0 : decode b_V_inMemory 0 = .ok (.aload_n 0, 1) := by decide +kernel
theorem d_V_inMemory_1 : decode b_V_inMemory 1 = .ok (.iload_n 1, 1) := by decide +kernel
theorem d_V_inMemory_2 : decode b_V_inMemory 2 = .ok (.invokevirtual 21, 3) := by decide +kernel
theorem d_V_inMemory_5 : decode b_V_inMemory 5 = .ok (.istore_n 2, 1) := by decide +kernel
theorem d_V_inMemory_6 : decode b_V_inMemory 6 = .ok (.iload_n 2, 1) := by decide +kernel
theorem d_V_inMemory_7 : decode b_V_inMemory 7 = .ok (.ifCond .lt 21, 3) := by decide +kernel
theorem d_V_inMemory_10 : decode b_V_inMemory 10 = .ok (.iload_n 2, 1) := by decide +kernel
theorem d_V_inMemory_11 : decode b_V_inMemory 11 = .ok (.aload_n 0, 1) := by decide +kernel
theorem d_V_inMemory_12 : decode b_V_inMemory 12 = .ok (.getfield 18, 3) := by decide +kernel
theorem d_V_inMemory_15 : decode b_V_inMemory 15 = .ok (.arraylength, 1) := by decide +kernel
theorem d_V_inMemory_16 : decode b_V_inMemory 16 = .ok (.if_icmp .ge 12, 3) := by decide +kernel
theorem d_V_inMemory_19 : decode b_V_inMemory 19 = .ok (.aload_n 0, 1) := by decide +kernel
theorem d_V_inMemory_20 : decode b_V_inMemory 20 = .ok (.getfield 18, 3) := by decide +kernel
theorem d_V_inMemory_23 : decode b_V_inMemory 23 = .ok (.iload_n 2, 1) := by decide +kernel
theorem d_V_inMemory_24 : decode b_V_inMemory 24 = .ok (.iaload, 1) := by decide +kernel
theorem d_V_inMemory_25 : decode b_V_inMemory 25 = .ok (.goto 4, 3) := by decide +kernel
theorem d_V_inMemory_28 : decode b_V_inMemory 28 = .ok (.iconst 0, 1) := by decide +kernel
theorem d_V_inMemory_29 : decode b_V_inMemory 29 = .ok (.ireturn, 1) := by decide +kernel
theorem d_V_writeBack_0 : decode b_V_writeBack 0 = .ok (.aload_n 0, 1) := by decide +kernel
theorem d_V_writeBack_1 : decode b_V_writeBack 1 = .ok (.dup, 1) := by decide +kernel
theorem d_V_writeBack_2 : decode b_V_writeBack 2 = .ok (.getfield 25, 3) := by decide +kernel
theorem d_V_writeBack_5 : decode b_V_writeBack 5 = .ok (.iconst 1, 1) := by decide +kernel
theorem d_V_writeBack_6 : decode b_V_writeBack 6 = .ok (.iadd, 1) := by decide +kernel
theorem d_V_writeBack_7 : decode b_V_writeBack 7 = .ok (.putfield 25, 3) := by decide +kernel
theorem d_V_writeBack_10 : decode b_V_writeBack 10 = .ok (.aload_n 0, 1) := by decide +kernel
theorem d_V_writeBack_11 : decode b_V_writeBack 11 = .ok (.iload_n 1, 1) := by decide +kernel
theorem d_V_writeBack_12 : decode b_V_writeBack 12 = .ok (.invokevirtual 21, 3) := by decide +kernel
theorem d_V_writeBack_15 : decode b_V_writeBack 15 = .ok (.istore_n 3, 1) := by decide +kernel
theorem d_V_writeBack_16 : decode b_V_writeBack 16 = .ok (.iload_n 3, 1) := by decide +kernel
theorem d_V_writeBack_17 : decode b_V_writeBack 17 = .ok (.ifCond .lt 19, 3) := by decide +kernel
theorem d_V_writeBack_20 : decode b_V_writeBack 20 = .ok (.iload_n 3, 1) := by decide +kernel
theorem d_V_writeBack_21 : decode b_V_writeBack 21 = .ok (.aload_n 0, 1) := by decide +kernel
theorem d_V_writeBack_22 : decode b_V_writeBack 22 = .ok (.getfield 18, 3) := by decide +kernel
theorem d_V_writeBack_25 : decode b_V_writeBack 25 = .ok (.arraylength, 1) := by decide +kernel
theorem d_V_writeBack_26 : decode b_V_writeBack 26 = .ok (.if_icmp .ge 10, 3) := by decide +kernel
theorem d_V_writeBack_29 : decode b_V_writeBack 29 = .ok (.aload_n 0, 1) := by decide +kernel
theorem d_V_writeBack_30 : decode b_V_writeBack 30 = .ok (.getfield 18, 3) := by decide +kernel
theorem d_V_writeBack_33 : decode b_V_writeBack 33 = .ok (.iload_n 3, 1) := by decide +kernel
theorem d_V_writeBack_34 : decode b_V_writeBack 34 = .ok (.iload_n 2, 1) := by decide +kernel
theorem d_V_writeBack_35 : decode b_V_writeBack 35 = .ok (.iastore, 1) := by decide +kernel
theorem d_V_writeBack_36 : decode b_V_writeBack 36 = .ok (.return_, 1) := by decide +kernel
theorem d_V_makeNext_0 : decode b_V_makeNext 0 = .ok (.aload_n 0, 1) := by decide +kernel
theorem d_V_makeNext_1 : decode b_V_makeNext 1 = .ok (.iload_n 1, 1) := by decide +kernel
theorem d_V_makeNext_2 : decode b_V_makeNext 2 = .ok (.invokevirtual 21, 3) := by decide +kernel
theorem d_V_makeNext_5 : decode b_V_makeNext 5 = .ok (.istore_n 2, 1) := by decide +kernel
theorem d_V_makeNext_6 : decode b_V_makeNext 6 = .ok (.iload_n 2, 1) := by decide +kernel
theorem d_V_makeNext_7 : decode b_V_makeNext 7 = .ok (.iconst (-1), 1) := by decide +kernel
theorem d_V_makeNext_8 : decode b_V_makeNext 8 = .ok (.if_icmp .ne 37, 3) := by decide +kernel
theorem d_V_makeNext_11 : decode b_V_makeNext 11 = .ok (.aload_n 0, 1) := by decide +kernel
theorem d_V_makeNext_12 : decode b_V_makeNext 12 = .ok (.getfield 29, 3) := by decide +kernel
theorem d_V_makeNext_15 : decode b_V_makeNext 15 = .ok (.aload_n 0, 1) := by decide +kernel
theorem d_V_makeNext_16 : decode b_V_makeNext 16 = .ok (.getfield 11, 3) := by decide +kernel
theorem d_V_makeNext_19 : decode b_V_makeNext 19 = .ok (.arraylength, 1) := by decide +kernel
theorem d_V_makeNext_20 : decode b_V_makeNext 20 = .ok (.if_icmp .ge 25, 3) := by decide +kernel
theorem d_V_makeNext_23 : decode b_V_makeNext 23 = .ok (.aload_n 0, 1) := by decide +kernel
theorem d_V_makeNext_24 : decode b_V_makeNext 24 = .ok (.getfield 29, 3) := by decide +kernel
theorem d_V_makeNext_27 : decode b_V_makeNext 27 = .ok (.istore_n 2, 1) := by decide +kernel
theorem d_V_makeNext_28 : decode b_V_makeNext 28 = .ok (.aload_n 0, 1) := by decide +kernel
theorem d_V_makeNext_29 : decode b_V_makeNext 29 = .ok (.getfield 11, 3) := by decide +kernel
theorem d_V_makeNext_32 : decode b_V_makeNext 32 = .ok (.iload_n 2, 1) := by decide +kernel
theorem d_V_makeNext_33 : decode b_V_makeNext 33 = .ok (.iload_n 1, 1) := by decide +kernel
theorem d_V_makeNext_34 : decode b_V_makeNext 34 = .ok (.iastore, 1) := by decide +kernel
theorem d_V_makeNext_35 : decode b_V_makeNext 35 = .ok (.aload_n 0, 1) := by decide +kernel
theorem d_V_makeNext_36 : decode b_V_makeNext 36 = .ok (.dup, 1) := by decide +kernel
theorem d_V_makeNext_37 : decode b_V_makeNext 37 = .ok (.getfield 29, 3) := by decide +kernel
theorem d_V_makeNext_40 : decode b_V_makeNext 40 = .ok (.iconst 1, 1) := by decide +kernel
theorem d_V_makeNext_41 : decode b_V_makeNext 41 = .ok (.iadd, 1) := by decide +kernel
theorem d_V_makeNext_42 : decode b_V_makeNext 42 = .ok (.putfield 29, 3) := by decide +kernel
theorem d_V_makeNext_45 : decode b_V_makeNext 45 = .ok (.iload_n 2, 1) := by decide +kernel
theorem d_V_makeNext_46 : decode b_V_makeNext 46 = .ok (.ifCond .lt 12, 3) := by decide +kernel
theorem d_V_makeNext_49 : decode b_V_makeNext 49 = .ok (.iload_n 2, 1) := by decide +kernel
theorem d_V_makeNext_50 : decode b_V_makeNext 50 = .ok (.aload_n 0, 1) := by decide +kernel
theorem d_V_makeNext_51 : decode b_V_makeNext 51 = .ok (.getfield 15, 3) := by decide +kernel
theorem d_V_makeNext_54 : decode b_V_makeNext 54 = .ok (.arraylength, 1) := by decide +kernel
theorem d_V_makeNext_55 : decode b_V_makeNext 55 = .ok (.if_icmp .lt 5, 3) := by decide +kernel
theorem d_V_makeNext_58 : decode b_V_makeNext 58 = .ok (.iconst 0, 1) := by decide +kernel
theorem d_V_makeNext_59 : decode b_V_makeNext 59 = .ok (.ireturn, 1) := by decide +kernel
theorem d_V_makeNext_60 : decode b_V_makeNext 60 = .ok (.aload_n 0, 1) := by decide +kernel
theorem d_V_makeNext_61 : decode b_V_makeNext 61 = .ok (.getfield 15, 3) := by decide +kernel
theorem d_V_makeNext_64 : decode b_V_makeNext 64 = .ok (.iload_n 2, 1) := by decide +kernel
theorem d_V_makeNext_65 : decode b_V_makeNext 65 = .ok (.dup2, 1) := by decide +kernel
theorem d_V_makeNext_66 : decode b_V_makeNext 66 = .ok (.iaload, 1) := by decide +kernel
theorem d_V_makeNext_67 : decode b_V_makeNext 67 = .ok (.iconst 1, 1) := by decide +kernel
theorem d_V_makeNext_68 : decode b_V_makeNext 68 = .ok (.iadd, 1) := by decide +kernel
theorem d_V_makeNext_69 : decode b_V_makeNext 69 = .ok (.iastore, 1) := by decide +kernel
theorem d_V_makeNext_70 : decode b_V_makeNext 70 = .ok (.aload_n 0, 1) := by decide +kernel
theorem d_V_makeNext_71 : decode b_V_makeNext 71 = .ok (.getfield 15, 3) := by decide +kernel
theorem d_V_makeNext_74 : decode b_V_makeNext 74 = .ok (.iload_n 2, 1) := by decide +kernel
theorem d_V_makeNext_75 : decode b_V_makeNext 75 = .ok (.iaload, 1) := by decide +kernel
theorem d_V_makeNext_76 : decode b_V_makeNext 76 = .ok (.ireturn, 1) := by decide +kernel
theorem d_V_indexOf_0 : decode b_V_indexOf 0 = .ok (.iconst 0, 1) := by decide +kernel
theorem d_V_indexOf_1 : decode b_V_indexOf 1 = .ok (.istore_n 2, 1) := by decide +kernel
theorem d_V_indexOf_2 : decode b_V_indexOf 2 = .ok (.iload_n 2, 1) := by decide +kernel
theorem d_V_indexOf_3 : decode b_V_indexOf 3 = .ok (.aload_n 0, 1) := by decide +kernel
theorem d_V_indexOf_4 : decode b_V_indexOf 4 = .ok (.getfield 29, 3) := by decide +kernel
theorem d_V_indexOf_7 : decode b_V_indexOf 7 = .ok (.if_icmp .ge 30, 3) := by decide +kernel
theorem d_V_indexOf_10 : decode b_V_indexOf 10 = .ok (.iload_n 2, 1) := by decide +kernel
theorem d_V_indexOf_11 : decode b_V_indexOf 11 = .ok (.aload_n 0, 1) := by decide +kernel
theorem d_V_indexOf_12 : decode b_V_indexOf 12 = .ok (.getfield 11, 3) := by decide +kernel
theorem d_V_indexOf_15 : decode b_V_indexOf 15 = .ok (.arraylength, 1) := by decide +kernel
theorem d_V_indexOf_16 : decode b_V_indexOf 16 = .ok (.if_icmp .ge 21, 3) := by decide +kernel
theorem d_V_indexOf_19 : decode b_V_indexOf 19 = .ok (.aload_n 0, 1) := by decide +kernel
theorem d_V_indexOf_20 : decode b_V_indexOf 20 = .ok (.getfield 11, 3) := by decide +kernel
theorem d_V_indexOf_23 : decode b_V_indexOf 23 = .ok (.iload_n 2, 1) := by decide +kernel
theorem d_V_indexOf_24 : decode b_V_indexOf 24 = .ok (.iaload, 1) := by decide +kernel
theorem d_V_indexOf_25 : decode b_V_indexOf 25 = .ok (.iload_n 1, 1) := by decide +kernel
theorem d_V_indexOf_26 : decode b_V_indexOf 26 = .ok (.if_icmp .ne 5, 3) := by decide +kernel
theorem d_V_indexOf_29 : decode b_V_indexOf 29 = .ok (.iload_n 2, 1) := by decide +kernel
theorem d_V_indexOf_30 : decode b_V_indexOf 30 = .ok (.ireturn, 1) := by decide +kernel
theorem d_V_indexOf_31 : decode b_V_indexOf 31 = .ok (.iinc 2 1, 3) := by decide +kernel
theorem d_V_indexOf_34 : decode b_V_indexOf 34 = .ok (.goto (-32), 3) := by decide +kernel
theorem d_V_indexOf_37 : decode b_V_indexOf 37 = .ok (.iconst (-1), 1) := by decide +kernel
theorem d_V_indexOf_38 : decode b_V_indexOf 38 = .ok (.ireturn, 1) := by decide +kernel
theorem d_Math_floorMod_0 : decode b_Math_floorMod 0 = .ok (.iload_n 0, 1) := by decide +kernel
theorem d_Math_floorMod_1 : decode b_Math_floorMod 1 = .ok (.iload_n 1, 1) := by decide +kernel
theorem d_Math_floorMod_2 : decode b_Math_floorMod 2 = .ok (.irem, 1) := by decide +kernel
theorem d_Math_floorMod_3 : decode b_Math_floorMod 3 = .ok (.istore_n 2, 1) := by decide +kernel
theorem d_Math_floorMod_4 : decode b_Math_floorMod 4 = .ok (.iload_n 0, 1) := by decide +kernel
theorem d_Math_floorMod_5 : decode b_Math_floorMod 5 = .ok (.iload_n 1, 1) := by decide +kernel
theorem d_Math_floorMod_6 : decode b_Math_floorMod 6 = .ok (.ixor, 1) := by decide +kernel
theorem d_Math_floorMod_7 : decode b_Math_floorMod 7 = .ok (.ifCond .ge 11, 3) := by decide +kernel
theorem d_Math_floorMod_10 : decode b_Math_floorMod 10 = .ok (.iload_n 2, 1) := by decide +kernel
theorem d_Math_floorMod_11 : decode b_Math_floorMod 11 = .ok (.ifCond .eq 7, 3) := by decide +kernel
theorem d_Math_floorMod_14 : decode b_Math_floorMod 14 = .ok (.iload_n 2, 1) := by decide +kernel
theorem d_Math_floorMod_15 : decode b_Math_floorMod 15 = .ok (.iload_n 1, 1) := by decide +kernel
theorem d_Math_floorMod_16 : decode b_Math_floorMod 16 = .ok (.iadd, 1) := by decide +kernel
theorem d_Math_floorMod_17 : decode b_Math_floorMod 17 = .ok (.ireturn, 1) := by decide +kernel
theorem d_Math_floorMod_18 : decode b_Math_floorMod 18 = .ok (.iload_n 2, 1) := by decide +kernel
theorem d_Math_floorMod_19 : decode b_Math_floorMod 19 = .ok (.ireturn, 1) := by decide +kernel
theorem d_Math_max_0 : decode b_Math_max 0 = .ok (.iload_n 0, 1) := by decide +kernel
theorem d_Math_max_1 : decode b_Math_max 1 = .ok (.iload_n 1, 1) := by decide +kernel
theorem d_Math_max_2 : decode b_Math_max 2 = .ok (.if_icmp .lt 7, 3) := by decide +kernel
theorem d_Math_max_5 : decode b_Math_max 5 = .ok (.iload_n 0, 1) := by decide +kernel
theorem d_Math_max_6 : decode b_Math_max 6 = .ok (.goto 4, 3) := by decide +kernel
theorem d_Math_max_9 : decode b_Math_max 9 = .ok (.iload_n 1, 1) := by decide +kernel
theorem d_Math_max_10 : decode b_Math_max 10 = .ok (.ireturn, 1) := by decide +kernel
