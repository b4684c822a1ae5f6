theorem dX8_ask_34 : decode cX8_ask 34 = .ok (.aload_n 0, 1) := by decide +kernel
theorem dX8_ask_35 : decode cX8_ask 35 = .ok (.getfield 29, 3) := by decide +kernel
theorem dX8_ask_38 : decode cX8_ask 38 = .ok (.iload_n 1, 1) := by decide +kernel
theorem dX8_ask_39 : decode cX8_ask 39 = .ok (.iaload, 1) := by decide +kernel
theorem dX8_ask_40 : decode cX8_ask 40 = .ok (.invokevirtual 284, 3) := by decide +kernel
theorem dX8_ask_43 : decode cX8_ask 43 = .ok (.istore_n 3, 1) := by decide +kernel
theorem dX8_ask_44 : decode cX8_ask 44 = .ok (.aload_n 0, 1) := by decide +kernel
theorem dX8_ask_45 : decode cX8_ask 45 = .ok (.iload_n 1, 1) := by decide +kernel
theorem dX8_ask_46 : decode cX8_ask 46 = .ok (.iload_n 2, 1) := by decide +kernel
theorem dX8_ask_47 : decode cX8_ask 47 = .ok (.iload_n 3, 1) := by decide +kernel
theorem dX8_ask_48 : decode cX8_ask 48 = .ok (.invokevirtual 290, 3) := by decide +kernel
theorem dX8_ask_51 : decode cX8_ask 51 = .ok (.iload_n 3, 1) := by decide +kernel
theorem dX8_ask_52 : decode cX8_ask 52 = .ok (.ifCond .eq 7, 3) := by decide +kernel
theorem dX8_ask_55 : decode cX8_ask 55 = .ok (.iconst 0, 1) := by decide +kernel
theorem dX8_ask_56 : decode cX8_ask 56 = .ok (.goto 4, 3) := by decide +kernel
theorem dX8_ask_59 : decode cX8_ask 59 = .ok (.iconst 1, 1) := by decide +kernel
theorem dX8_ask_60 : decode cX8_ask 60 = .ok (.ireturn, 1) := by decide +kernel
theorem dX8_part__0 : decode cX8_part_ 0 = .ok (.aload_n 0, 1) := by decide +kernel
theorem dX8_part__1 : decode cX8_part_ 1 = .ok (.iload_n 1, 1) := by decide +kernel
theorem dX8_part__2 : decode cX8_part_ 2 = .ok (.invokevirtual 120, 3) := by decide +kernel
theorem dX8_part__5 : decode cX8_part_ 5 = .ok (.ifCond .ne 6, 3) := by decide +kernel
theorem dX8_part__8 : decode cX8_part_ 8 = .ok (.bipush (-2), 2) := by decide +kernel
theorem dX8_part__10 : decode cX8_part_ 10 = .ok (.ireturn, 1) := by decide +kernel
theorem dX8_part__11 : decode cX8_part_ 11 = .ok (.aload_n 0, 1) := by decide +kernel
theorem dX8_part__12 : decode cX8_part_ 12 = .ok (.getfield 32, 3) := by decide +kernel
theorem dX8_part__15 : decode cX8_part_ 15 = .ok (.iload_n 1, 1) := by decide +kernel
theorem dX8_part__16 : decode cX8_part_ 16 = .ok (.iaload, 1) := by decide +kernel
theorem dX8_part__17 : decode cX8_part_ 17 = .ok (.iconst (-1), 1) := by decide +kernel
theorem dX8_part__18 : decode cX8_part_ 18 = .ok (.if_icmp .ne 6, 3) := by decide +kernel
theorem dX8_part__21 : decode cX8_part_ 21 = .ok (.bipush (-3), 2) := by decide +kernel
theorem dX8_part__23 : decode cX8_part_ 23 = .ok (.ireturn, 1) := by decide +kernel
theorem dX8_part__24 : decode cX8_part_ 24 = .ok (.aload_n 0, 1) := by decide +kernel
theorem dX8_part__25 : decode cX8_part_ 25 = .ok (.getfield 32, 3) := by decide +kernel
theorem dX8_part__28 : decode cX8_part_ 28 = .ok (.iload_n 1, 1) := by decide +kernel
theorem dX8_part__29 : decode cX8_part_ 29 = .ok (.iaload, 1) := by decide +kernel
theorem dX8_part__30 : decode cX8_part_ 30 = .ok (.istore_n 2, 1) := by decide +kernel
theorem dX8_part__31 : decode cX8_part_ 31 = .ok (.aload_n 0, 1) := by decide +kernel
theorem dX8_part__32 : decode cX8_part_ 32 = .ok (.getfield 32, 3) := by decide +kernel
theorem dX8_part__35 : decode cX8_part_ 35 = .ok (.iload_n 1, 1) := by decide +kernel
theorem dX8_part__36 : decode cX8_part_ 36 = .ok (.iconst (-1), 1) := by decide +kernel
theorem dX8_part__37 : decode cX8_part_ 37 = .ok (.iastore, 1) := by decide +kernel
theorem dX8_part__38 : decode cX8_part_ 38 = .ok (.aload_n 0, 1) := by decide +kernel
theorem dX8_part__39 : decode cX8_part_ 39 = .ok (.getfield 35, 3) := by decide +kernel
theorem dX8_part__42 : decode cX8_part_ 42 = .ok (.iload_n 2, 1) := by decide +kernel
theorem dX8_part__43 : decode cX8_part_ 43 = .ok (.iconst (-1), 1) := by decide +kernel
theorem dX8_part__44 : decode cX8_part_ 44 = .ok (.iastore, 1) := by decide +kernel
theorem dX8_part__45 : decode cX8_part_ 45 = .ok (.iload_n 2, 1) := by decide +kernel
theorem dX8_part__46 : decode cX8_part_ 46 = .ok (.ireturn, 1) := by decide +kernel
theorem dX8_laysAside_0 : decode cX8_laysAside 0 = .ok (.iconst 0, 1) := by decide +kernel
theorem dX8_laysAside_1 : decode cX8_laysAside 1 = .ok (.istore_n 1, 1) := by decide +kernel
theorem dX8_laysAside_2 : decode cX8_laysAside 2 = .ok (.iload_n 1, 1) := by decide +kernel
theorem dX8_laysAside_3 : decode cX8_laysAside 3 = .ok (.iconst 4, 1) := by decide +kernel
theorem dX8_laysAside_4 : decode cX8_laysAside 4 = .ok (.if_icmp .ge 45, 3) := by decide +kernel
theorem dX8_laysAside_7 : decode cX8_laysAside 7 = .ok (.aload_n 0, 1) := by decide +kernel
theorem dX8_laysAside_8 : decode cX8_laysAside 8 = .ok (.getfield 44, 3) := by decide +kernel
theorem dX8_laysAside_11 : decode cX8_laysAside 11 = .ok (.iload_n 1, 1) := by decide +kernel
theorem dX8_laysAside_12 : decode cX8_laysAside 12 = .ok (.aload_n 0, 1) := by decide +kernel
theorem dX8_laysAside_13 : decode cX8_laysAside 13 = .ok (.getfield 29, 3) := by decide +kernel
theorem dX8_laysAside_16 : decode cX8_laysAside 16 = .ok (.iload_n 1, 1) := by decide +kernel
theorem dX8_laysAside_17 : decode cX8_laysAside 17 = .ok (.iaload, 1) := by decide +kernel
theorem dX8_laysAside_18 : decode cX8_laysAside 18 = .ok (.iastore, 1) := by decide +kernel
theorem dX8_laysAside_19 : decode cX8_laysAside 19 = .ok (.aload_n 0, 1) := by decide +kernel
theorem dX8_laysAside_20 : decode cX8_laysAside 20 = .ok (.getfield 47, 3) := by decide +kernel
theorem dX8_laysAside_23 : decode cX8_laysAside 23 = .ok (.iload_n 1, 1) := by decide +kernel
theorem dX8_laysAside_24 : decode cX8_laysAside 24 = .ok (.aload_n 0, 1) := by decide +kernel
theorem dX8_laysAside_25 : decode cX8_laysAside 25 = .ok (.getfield 32, 3) := by decide +kernel
theorem dX8_laysAside_28 : decode cX8_laysAside 28 = .ok (.iload_n 1, 1) := by decide +kernel
theorem dX8_laysAside_29 : decode cX8_laysAside 29 = .ok (.iaload, 1) := by decide +kernel
theorem dX8_laysAside_30 : decode cX8_laysAside 30 = .ok (.iastore, 1) := by decide +kernel
theorem dX8_laysAside_31 : decode cX8_laysAside 31 = .ok (.aload_n 0, 1) := by decide +kernel
theorem dX8_laysAside_32 : decode cX8_laysAside 32 = .ok (.getfield 50, 3) := by decide +kernel
theorem dX8_laysAside_35 : decode cX8_laysAside 35 = .ok (.iload_n 1, 1) := by decide +kernel
theorem dX8_laysAside_36 : decode cX8_laysAside 36 = .ok (.aload_n 0, 1) := by decide +kernel
theorem dX8_laysAside_37 : decode cX8_laysAside 37 = .ok (.getfield 35, 3) := by decide +kernel
theorem dX8_laysAside_40 : decode cX8_laysAside 40 = .ok (.iload_n 1, 1) := by decide +kernel
theorem dX8_laysAside_41 : decode cX8_laysAside 41 = .ok (.iaload, 1) := by decide +kernel
theorem dX8_laysAside_42 : decode cX8_laysAside 42 = .ok (.iastore, 1) := by decide +kernel
theorem dX8_laysAside_43 : decode cX8_laysAside 43 = .ok (.iinc 1 1, 3) := by decide +kernel
theorem dX8_laysAside_46 : decode cX8_laysAside 46 = .ok (.goto (-44), 3) := by decide +kernel
theorem dX8_laysAside_49 : decode cX8_laysAside 49 = .ok (.aload_n 0, 1) := by decide +kernel
theorem dX8_laysAside_50 : decode cX8_laysAside 50 = .ok (.aload_n 0, 1) := by decide +kernel
theorem dX8_laysAside_51 : decode cX8_laysAside 51 = .ok (.getfield 131, 3) := by decide +kernel
theorem dX8_laysAside_54 : decode cX8_laysAside 54 = .ok (.putfield 294, 3) := by decide +kernel
theorem dX8_laysAside_57 : decode cX8_laysAside 57 = .ok (.return_, 1) := by decide +kernel
theorem dX8_laysBack_0 : decode cX8_laysBack 0 = .ok (.iconst 0, 1) := by decide +kernel
theorem dX8_laysBack_1 : decode cX8_laysBack 1 = .ok (.istore_n 1, 1) := by decide +kernel
theorem dX8_laysBack_2 : decode cX8_laysBack 2 = .ok (.iload_n 1, 1) := by decide +kernel
theorem dX8_laysBack_3 : decode cX8_laysBack 3 = .ok (.iconst 4, 1) := by decide +kernel
theorem dX8_laysBack_4 : decode cX8_laysBack 4 = .ok (.if_icmp .ge 45, 3) := by decide +kernel
theorem dX8_laysBack_7 : decode cX8_laysBack 7 = .ok (.aload_n 0, 1) := by decide +kernel
theorem dX8_laysBack_8 : decode cX8_laysBack 8 = .ok (.getfield 29, 3) := by decide +kernel
theorem dX8_laysBack_11 : decode cX8_laysBack 11 = .ok (.iload_n 1, 1) := by decide +kernel
theorem dX8_laysBack_12 : decode cX8_laysBack 12 = .ok (.aload_n 0, 1) := by decide +kernel
theorem dX8_laysBack_13 : decode cX8_laysBack 13 = .ok (.getfield 44, 3) := by decide +kernel
theorem dX8_laysBack_16 : decode cX8_laysBack 16 = .ok (.iload_n 1, 1) := by decide +kernel
theorem dX8_laysBack_17 : decode cX8_laysBack 17 = .ok (.iaload, 1) := by decide +kernel
theorem dX8_laysBack_18 : decode cX8_laysBack 18 = .ok (.iastore, 1) := by decide +kernel
theorem dX8_laysBack_19 : decode cX8_laysBack 19 = .ok (.aload_n 0, 1) := by decide +kernel
theorem dX8_laysBack_20 : decode cX8_laysBack 20 = .ok (.getfield 32, 3) := by decide +kernel
theorem dX8_laysBack_23 : decode cX8_laysBack 23 = .ok (.iload_n 1, 1) := by decide +kernel
theorem dX8_laysBack_24 : decode cX8_laysBack 24 = .ok (.aload_n 0, 1) := by decide +kernel
theorem dX8_laysBack_25 : decode cX8_laysBack 25 = .ok (.getfield 47, 3) := by decide +kernel
theorem dX8_laysBack_28 : decode cX8_laysBack 28 = .ok (.iload_n 1, 1) := by decide +kernel
theorem dX8_laysBack_29 : decode cX8_laysBack 29 = .ok (.iaload, 1) := by decide +kernel
theorem dX8_laysBack_30 : decode cX8_laysBack 30 = .ok (.iastore, 1) := by decide +kernel
theorem dX8_laysBack_31 : decode cX8_laysBack 31 = .ok (.aload_n 0, 1) := by decide +kernel
theorem dX8_laysBack_32 : decode cX8_laysBack 32 = .ok (.getfield 35, 3) := by decide +kernel
theorem dX8_laysBack_35 : decode cX8_laysBack 35 = .ok (.iload_n 1, 1) := by decide +kernel
theorem dX8_laysBack_36 : decode cX8_laysBack 36 = .ok (.aload_n 0, 1) := by decide +kernel
theorem dX8_laysBack_37 : decode cX8_laysBack 37 = .ok (.getfield 50, 3) := by decide +kernel
theorem dX8_laysBack_40 : decode cX8_laysBack 40 = .ok (.iload_n 1, 1) := by decide +kernel
theorem dX8_laysBack_41 : decode cX8_laysBack 41 = .ok (.iaload, 1) := by decide +kernel
theorem dX8_laysBack_42 : decode cX8_laysBack 42 = .ok (.iastore, 1) := by decide +kernel
theorem dX8_laysBack_43 : decode cX8_laysBack 43 = .ok (.iinc 1 1, 3) := by decide +kernel
theorem dX8_laysBack_46 : decode cX8_laysBack 46 = .ok (.goto (-44), 3) := by decide +kernel
theorem dX8_laysBack_49 : decode cX8_laysBack 49 = .ok (.aload_n 0, 1) := by decide +kernel
theorem dX8_laysBack_50 : decode cX8_laysBack 50 = .ok (.aload_n 0, 1) := by decide +kernel
theorem dX8_laysBack_51 : decode cX8_laysBack 51 = .ok (.getfield 294, 3) := by decide +kernel
theorem dX8_laysBack_54 : decode cX8_laysBack 54 = .ok (.putfield 131, 3) := by decide +kernel
theorem dX8_laysBack_57 : decode cX8_laysBack 57 = .ok (.return_, 1) := by decide +kernel
theorem dX8_lets_0 : decode cX8_lets 0 = .ok (.aload_n 0, 1) := by decide +kernel
theorem dX8_lets_1 : decode cX8_lets 1 = .ok (.iload_n 1, 1) := by decide +kernel
theorem dX8_lets_2 : decode cX8_lets 2 = .ok (.iload_n 2, 1) := by decide +kernel
theorem dX8_lets_3 : decode cX8_lets 3 = .ok (.invokevirtual 281, 3) := by decide +kernel
theorem dX8_lets_6 : decode cX8_lets 6 = .ok (.ifCond .eq 78, 3) := by decide +kernel
theorem dX8_lets_9 : decode cX8_lets 9 = .ok (.aload_n 0, 1) := by decide +kernel
theorem dX8_lets_10 : decode cX8_lets 10 = .ok (.getfield 297, 3) := by decide +kernel
theorem dX8_lets_13 : decode cX8_lets 13 = .ok (.iconst (-1), 1) := by decide +kernel
theorem dX8_lets_14 : decode cX8_lets 14 = .ok (.if_icmp .eq 28, 3) := by decide +kernel
theorem dX8_lets_17 : decode cX8_lets 17 = .ok (.iload_n 3, 1) := by decide +kernel
theorem dX8_lets_18 : decode cX8_lets 18 = .ok (.ifCond .ne 15, 3) := by decide +kernel
theorem dX8_lets_21 : decode cX8_lets 21 = .ok (.iload 4, 2) := by decide +kernel
theorem dX8_lets_23 : decode cX8_lets 23 = .ok (.aload_n 0, 1) := by decide +kernel
theorem dX8_lets_24 : decode cX8_lets 24 = .ok (.getfield 297, 3) := by decide +kernel
theorem dX8_lets_27 : decode cX8_lets 27 = .ok (.if_icmp .ge 57, 3) := by decide +kernel
theorem dX8_lets_30 : decode cX8_lets 30 = .ok (.goto 12, 3) := by decide +kernel
theorem dX8_lets_33 : decode cX8_lets 33 = .ok (.iload 5, 2) := by decide +kernel
theorem dX8_lets_35 : decode cX8_lets 35 = .ok (.aload_n 0, 1) := by decide +kernel
theorem dX8_lets_36 : decode cX8_lets 36 = .ok (.getfield 300, 3) := by decide +kernel
theorem dX8_lets_39 : decode cX8_lets 39 = .ok (.if_icmp .ge 45, 3) := by decide +kernel
theorem dX8_lets_42 : decode cX8_lets 42 = .ok (.aload_n 0, 1) := by decide +kernel
theorem dX8_lets_43 : decode cX8_lets 43 = .ok (.iload 4, 2) := by decide +kernel
theorem dX8_lets_45 : decode cX8_lets 45 = .ok (.putfield 297, 3) := by decide +kernel
theorem dX8_lets_48 : decode cX8_lets 48 = .ok (.aload_n 0, 1) := by decide +kernel
theorem dX8_lets_49 : decode cX8_lets 49 = .ok (.iload 5, 2) := by decide +kernel
theorem dX8_lets_51 : decode cX8_lets 51 = .ok (.putfield 300, 3) := by decide +kernel
theorem dX8_lets_54 : decode cX8_lets 54 = .ok (.iconst 0, 1) := by decide +kernel
theorem dX8_lets_55 : decode cX8_lets 55 = .ok (.istore 7, 2) := by decide +kernel
theorem dX8_lets_57 : decode cX8_lets 57 = .ok (.iload 7, 2) := by decide +kernel
theorem dX8_lets_59 : decode cX8_lets 59 = .ok (.iload 4, 2) := by decide +kernel
theorem dX8_lets_61 : decode cX8_lets 61 = .ok (.if_icmp .ge 23, 3) := by decide +kernel
theorem dX8_lets_64 : decode cX8_lets 64 = .ok (.aload_n 0, 1) := by decide +kernel
theorem dX8_lets_65 : decode cX8_lets 65 = .ok (.getfield 56, 3) := by decide +kernel
theorem dX8_lets_68 : decode cX8_lets 68 = .ok (.iload 7, 2) := by decide +kernel
theorem dX8_lets_70 : decode cX8_lets 70 = .ok (.aload_n 0, 1) := by decide +kernel
theorem dX8_lets_71 : decode cX8_lets 71 = .ok (.getfield 53, 3) := by decide +kernel
theorem dX8_lets_74 : decode cX8_lets 74 = .ok (.iload 7, 2) := by decide +kernel
theorem dX8_lets_76 : decode cX8_lets 76 = .ok (.iaload, 1) := by decide +kernel
theorem dX8_lets_77 : decode cX8_lets 77 = .ok (.iastore, 1) := by decide +kernel
theorem dX8_lets_78 : decode cX8_lets 78 = .ok (.iinc 7 1, 3) := by decide +kernel
theorem dX8_lets_81 : decode cX8_lets 81 = .ok (.goto (-24), 3) := by decide +kernel
theorem dX8_lets_84 : decode cX8_lets 84 = .ok (.iconst 0, 1) := by decide +kernel
theorem dX8_lets_85 : decode cX8_lets 85 = .ok (.istore 7, 2) := by decide +kernel
theorem dX8_lets_87 : decode cX8_lets 87 = .ok (.iload 7, 2) := by decide +kernel
theorem dX8_lets_89 : decode cX8_lets 89 = .ok (.aload_n 0, 1) := by decide +kernel
theorem dX8_lets_90 : decode cX8_lets 90 = .ok (.getfield 113, 3) := by decide +kernel
theorem dX8_lets_93 : decode cX8_lets 93 = .ok (.if_icmp .ge 123, 3) := by decide +kernel
theorem dX8_lets_96 : decode cX8_lets 96 = .ok (.iload 7, 2) := by decide +kernel
theorem dX8_lets_98 : decode cX8_lets 98 = .ok (.iload_n 2, 1) := by decide +kernel
theorem dX8_lets_99 : decode cX8_lets 99 = .ok (.if_icmp .eq 111, 3) := by decide +kernel
theorem dX8_lets_102 : decode cX8_lets 102 = .ok (.iload 6, 2) := by decide +kernel
theorem dX8_lets_104 : decode cX8_lets 104 = .ok (.iload 7, 2) := by decide +kernel
theorem dX8_lets_106 : decode cX8_lets 106 = .ok (.ishr, 1) := by decide +kernel
theorem dX8_lets_107 : decode cX8_lets 107 = .ok (.iconst 1, 1) := by decide +kernel
theorem dX8_lets_108 : decode cX8_lets 108 = .ok (.iand, 1) := by decide +kernel
theorem dX8_lets_109 : decode cX8_lets 109 = .ok (.ifCond .ne 101, 3) := by decide +kernel
theorem dX8_lets_112 : decode cX8_lets 112 = .ok (.aload_n 0, 1) := by decide +kernel
theorem dX8_lets_113 : decode cX8_lets 113 = .ok (.iload_n 1, 1) := by decide +kernel
theorem dX8_lets_114 : decode cX8_lets 114 = .ok (.iload 7, 2) := by decide +kernel
theorem dX8_lets_116 : decode cX8_lets 116 = .ok (.invokevirtual 281, 3) := by decide +kernel
theorem dX8_lets_119 : decode cX8_lets 119 = .ok (.ifCond .eq 91, 3) := by decide +kernel
theorem dX8_lets_122 : decode cX8_lets 122 = .ok (.aload_n 0, 1) := by decide +kernel
theorem dX8_lets_123 : decode cX8_lets 123 = .ok (.iload_n 1, 1) := by decide +kernel
theorem dX8_lets_124 : decode cX8_lets 124 = .ok (.iload 7, 2) := by decide +kernel
theorem dX8_lets_126 : decode cX8_lets 126 = .ok (.aload_n 0, 1) := by decide +kernel
theorem dX8_lets_127 : decode cX8_lets 127 = .ok (.getfield 29, 3) := by decide +kernel
theorem dX8_lets_130 : decode cX8_lets 130 = .ok (.iload_n 1, 1) := by decide +kernel
theorem dX8_lets_131 : decode cX8_lets 131 = .ok (.iaload, 1) := by decide +kernel
theorem dX8_lets_132 : decode cX8_lets 132 = .ok (.invokevirtual 284, 3) := by decide +kernel
theorem dX8_lets_135 : decode cX8_lets 135 = .ok (.ifCond .eq 75, 3) := by decide +kernel
theorem dX8_lets_138 : decode cX8_lets 138 = .ok (.aload_n 0, 1) := by decide +kernel
theorem dX8_lets_139 : decode cX8_lets 139 = .ok (.getfield 29, 3) := by decide +kernel
theorem dX8_lets_142 : decode cX8_lets 142 = .ok (.iload_n 1, 1) := by decide +kernel
theorem dX8_lets_143 : decode cX8_lets 143 = .ok (.iaload, 1) := by decide +kernel
theorem dX8_lets_144 : decode cX8_lets 144 = .ok (.istore 8, 2) := by decide +kernel
theorem dX8_lets_146 : decode cX8_lets 146 = .ok (.aload_n 0, 1) := by decide +kernel
theorem dX8_lets_147 : decode cX8_lets 147 = .ok (.getfield 131, 3) := by decide +kernel
theorem dX8_lets_150 : decode cX8_lets 150 = .ok (.istore 9, 2) := by decide +kernel
theorem dX8_lets_152 : decode cX8_lets 152 = .ok (.aload_n 0, 1) := by decide +kernel
theorem dX8_lets_153 : decode cX8_lets 153 = .ok (.iload_n 1, 1) := by decide +kernel
theorem dX8_lets_154 : decode cX8_lets 154 = .ok (.iload 7, 2) := by decide +kernel
theorem dX8_lets_156 : decode cX8_lets 156 = .ok (.iconst 1, 1) := by decide +kernel
theorem dX8_lets_157 : decode cX8_lets 157 = .ok (.invokevirtual 290, 3) := by decide +kernel
theorem dX8_lets_160 : decode cX8_lets 160 = .ok (.aload_n 0, 1) := by decide +kernel
theorem dX8_lets_161 : decode cX8_lets 161 = .ok (.getfield 53, 3) := by decide +kernel
theorem dX8_lets_164 : decode cX8_lets 164 = .ok (.iload 4, 2) := by decide +kernel
theorem dX8_lets_166 : decode cX8_lets 166 = .ok (.iload 7, 2) := by decide +kernel
theorem dX8_lets_168 : decode cX8_lets 168 = .ok (.iastore, 1) := by decide +kernel
theorem dX8_lets_169 : decode cX8_lets 169 = .ok (.aload_n 0, 1) := by decide +kernel
theorem dX8_lets_170 : decode cX8_lets 170 = .ok (.iload_n 1, 1) := by decide +kernel
theorem dX8_lets_171 : decode cX8_lets 171 = .ok (.iload_n 2, 1) := by decide +kernel
theorem dX8_lets_172 : decode cX8_lets 172 = .ok (.iload_n 3, 1) := by decide +kernel
theorem dX8_lets_173 : decode cX8_lets 173 = .ok (.iload 4, 2) := by decide +kernel
theorem dX8_lets_175 : decode cX8_lets 175 = .ok (.iconst 1, 1) := by decide +kernel
theorem dX8_lets_176 : decode cX8_lets 176 = .ok (.iadd, 1) := by decide +kernel
theorem dX8_lets_177 : decode cX8_lets 177 = .ok (.iload 5, 2) := by decide +kernel
theorem dX8_lets_179 : decode cX8_lets 179 = .ok (.aload_n 0, 1) := by decide +kernel
theorem dX8_lets_180 : decode cX8_lets 180 = .ok (.iload 7, 2) := by decide +kernel
theorem dX8_lets_182 : decode cX8_lets 182 = .ok (.invokevirtual 140, 3) := by decide +kernel
theorem dX8_lets_185 : decode cX8_lets 185 = .ok (.iadd, 1) := by decide +kernel
theorem dX8_lets_186 : decode cX8_lets 186 = .ok (.iload 6, 2) := by decide +kernel
theorem dX8_lets_188 : decode cX8_lets 188 = .ok (.iconst 1, 1) := by decide +kernel
theorem dX8_lets_189 : decode cX8_lets 189 = .ok (.iload 7, 2) := by decide +kernel
theorem dX8_lets_191 : decode cX8_lets 191 = .ok (.ishl, 1) := by decide +kernel
theorem dX8_lets_192 : decode cX8_lets 192 = .ok (.ior, 1) := by decide +kernel
theorem dX8_lets_193 : decode cX8_lets 193 = .ok (.invokevirtual 303, 3) := by decide +kernel
theorem dX8_lets_196 : decode cX8_lets 196 = .ok (.aload_n 0, 1) := by decide +kernel
theorem dX8_lets_197 : decode cX8_lets 197 = .ok (.getfield 29, 3) := by decide +kernel
theorem dX8_lets_200 : decode cX8_lets 200 = .ok (.iload_n 1, 1) := by decide +kernel
theorem dX8_lets_201 : decode cX8_lets 201 = .ok (.iload 8, 2) := by decide +kernel
theorem dX8_lets_203 : decode cX8_lets 203 = .ok (.iastore, 1) := by decide +kernel
theorem dX8_lets_204 : decode cX8_lets 204 = .ok (.aload_n 0, 1) := by decide +kernel
theorem dX8_lets_205 : decode cX8_lets 205 = .ok (.iload 9, 2) := by decide +kernel
theorem dX8_lets_207 : decode cX8_lets 207 = .ok (.putfield 131, 3) := by decide +kernel
theorem dX8_lets_210 : decode cX8_lets 210 = .ok (.iinc 7 1, 3) := by decide +kernel
theorem dX8_lets_213 : decode cX8_lets 213 = .ok (.goto (-126), 3) := by decide +kernel
theorem dX8_lets_216 : decode cX8_lets 216 = .ok (.return_, 1) := by decide +kernel
theorem dX8_way_0 : decode cX8_way 0 = .ok (.aload_n 0, 1) := by decide +kernel
theorem dX8_way_1 : decode cX8_way 1 = .ok (.iload_n 1, 1) := by decide +kernel
theorem dX8_way_2 : decode cX8_way 2 = .ok (.invokevirtual 120, 3) := by decide +kernel
theorem dX8_way_5 : decode cX8_way 5 = .ok (.ifCond .eq 34, 3) := by decide +kernel
theorem dX8_way_8 : decode cX8_way 8 = .ok (.aload_n 0, 1) := by decide +kernel
theorem dX8_way_9 : decode cX8_way 9 = .ok (.iload_n 2, 1) := by decide +kernel
theorem dX8_way_10 : decode cX8_way 10 = .ok (.invokevirtual 124, 3) := by decide +kernel
theorem dX8_way_13 : decode cX8_way 13 = .ok (.ifCond .eq 26, 3) := by decide +kernel
theorem dX8_way_16 : decode cX8_way 16 = .ok (.iload_n 3, 1) := by decide +kernel
theorem dX8_way_17 : decode cX8_way 17 = .ok (.i2l, 1) := by decide +kernel
theorem dX8_way_18 : decode cX8_way 18 = .ok (.lconst 0, 1) := by decide +kernel
theorem dX8_way_19 : decode cX8_way 19 = .ok (.lconst 1, 1) := by decide +kernel
theorem dX8_way_20 : decode cX8_way 20 = .ok (.invokestatic 109, 3) := by decide +kernel
theorem dX8_way_23 : decode cX8_way 23 = .ok (.ifCond .eq 16, 3) := by decide +kernel
theorem dX8_way_26 : decode cX8_way 26 = .ok (.iload 4, 2) := by decide +kernel
theorem dX8_way_28 : decode cX8_way 28 = .ok (.i2l, 1) := by decide +kernel
theorem dX8_way_29 : decode cX8_way 29 = .ok (.lconst 0, 1) := by decide +kernel
theorem dX8_way_30 : decode cX8_way 30 = .ok (.ldc2_w 118, 3) := by decide +kernel
theorem dX8_way_33 : decode cX8_way 33 = .ok (.invokestatic 109, 3) := by decide +kernel
theorem dX8_way_36 : decode cX8_way 36 = .ok (.ifCond .ne 6, 3) := by decide +kernel
theorem dX8_way_39 : decode cX8_way 39 = .ok (.bipush (-2), 2) := by decide +kernel
theorem dX8_way_41 : decode cX8_way 41 = .ok (.ireturn, 1) := by decide +kernel
theorem dX8_way_42 : decode cX8_way 42 = .ok (.aload_n 0, 1) := by decide +kernel
theorem dX8_way_43 : decode cX8_way 43 = .ok (.iconst (-1), 1) := by decide +kernel
theorem dX8_way_44 : decode cX8_way 44 = .ok (.putfield 297, 3) := by decide +kernel
theorem dX8_way_47 : decode cX8_way 47 = .ok (.aload_n 0, 1) := by decide +kernel
theorem dX8_way_48 : decode cX8_way 48 = .ok (.getfield 32, 3) := by decide +kernel
theorem dX8_way_51 : decode cX8_way 51 = .ok (.iload_n 1, 1) := by decide +kernel
theorem dX8_way_52 : decode cX8_way 52 = .ok (.iaload, 1) := by decide +kernel
theorem dX8_way_53 : decode cX8_way 53 = .ok (.iconst (-1), 1) := by decide +kernel
theorem dX8_way_54 : decode cX8_way 54 = .ok (.if_icmp .ne 23, 3) := by decide +kernel
theorem dX8_way_57 : decode cX8_way 57 = .ok (.aload_n 0, 1) := by decide +kernel
theorem dX8_way_58 : decode cX8_way 58 = .ok (.getfield 35, 3) := by decide +kernel
theorem dX8_way_61 : decode cX8_way 61 = .ok (.iload_n 2, 1) := by decide +kernel
theorem dX8_way_62 : decode cX8_way 62 = .ok (.iaload, 1) := by decide +kernel
theorem dX8_way_63 : decode cX8_way 63 = .ok (.iconst (-1), 1) := by decide +kernel
theorem dX8_way_64 : decode cX8_way 64 = .ok (.if_icmp .ne 13, 3) := by decide +kernel
theorem dX8_way_67 : decode cX8_way 67 = .ok (.aload_n 0, 1) := by decide +kernel
theorem dX8_way_68 : decode cX8_way 68 = .ok (.iload_n 1, 1) := by decide +kernel
theorem dX8_way_69 : decode cX8_way 69 = .ok (.iload_n 2, 1) := by decide +kernel
theorem dX8_way_70 : decode cX8_way 70 = .ok (.iload_n 3, 1) := by decide +kernel
theorem dX8_way_71 : decode cX8_way 71 = .ok (.iconst 0, 1) := by decide +kernel
theorem dX8_way_72 : decode cX8_way 72 = .ok (.iconst 0, 1) := by decide +kernel
theorem dX8_way_73 : decode cX8_way 73 = .ok (.iconst 0, 1) := by decide +kernel
theorem dX8_way_74 : decode cX8_way 74 = .ok (.invokevirtual 303, 3) := by decide +kernel
theorem dX8_way_77 : decode cX8_way 77 = .ok (.aload_n 0, 1) := by decide +kernel
theorem dX8_way_78 : decode cX8_way 78 = .ok (.getfield 297, 3) := by decide +kernel
theorem dX8_way_81 : decode cX8_way 81 = .ok (.iconst (-1), 1) := by decide +kernel
theorem dX8_way_82 : decode cX8_way 82 = .ok (.if_icmp .eq 8, 3) := by decide +kernel
theorem dX8_way_85 : decode cX8_way 85 = .ok (.iload 4, 2) := by decide +kernel
theorem dX8_way_87 : decode cX8_way 87 = .ok (.ifCond .ne 8, 3) := by decide +kernel
theorem dX8_way_90 : decode cX8_way 90 = .ok (.aload_n 0, 1) := by decide +kernel
theorem dX8_way_91 : decode cX8_way 91 = .ok (.getfield 297, 3) := by decide +kernel
theorem dX8_way_94 : decode cX8_way 94 = .ok (.ireturn, 1) := by decide +kernel
theorem dX8_way_95 : decode cX8_way 95 = .ok (.iload 4, 2) := by decide +kernel
theorem dX8_way_97 : decode cX8_way 97 = .ok (.iconst 1, 1) := by decide +kernel
theorem dX8_way_98 : decode cX8_way 98 = .ok (.if_icmp .ne 8, 3) := by decide +kernel
theorem dX8_way_101 : decode cX8_way 101 = .ok (.aload_n 0, 1) := by decide +kernel
theorem dX8_way_102 : decode cX8_way 102 = .ok (.getfield 300, 3) := by decide +kernel
theorem dX8_way_105 : decode cX8_way 105 = .ok (.ireturn, 1) := by decide +kernel
theorem dX8_way_106 : decode cX8_way 106 = .ok (.iload 4, 2) := by decide +kernel
theorem dX8_way_108 : decode cX8_way 108 = .ok (.iconst 2, 1) := by decide +kernel
theorem dX8_way_109 : decode cX8_way 109 = .ok (.isub, 1) := by decide +kernel
theorem dX8_way_110 : decode cX8_way 110 = .ok (.aload_n 0, 1) := by decide +kernel
theorem dX8_way_111 : decode cX8_way 111 = .ok (.getfield 297, 3) := by decide +kernel
theorem dX8_way_114 : decode cX8_way 114 = .ok (.if_icmp .ge 15, 3) := by decide +kernel
theorem dX8_way_117 : decode cX8_way 117 = .ok (.aload_n 0, 1) := by decide +kernel
theorem dX8_way_118 : decode cX8_way 118 = .ok (.getfield 56, 3) := by decide +kernel
theorem dX8_way_121 : decode cX8_way 121 = .ok (.iload 4, 2) := by decide +kernel
theorem dX8_way_123 : decode cX8_way 123 = .ok (.iconst 2, 1) := by decide +kernel
theorem dX8_way_124 : decode cX8_way 124 = .ok (.isub, 1) := by decide +kernel
theorem dX8_way_125 : decode cX8_way 125 = .ok (.iaload, 1) := by decide +kernel
theorem dX8_way_126 : decode cX8_way 126 = .ok (.goto 4, 3) := by decide +kernel
theorem dX8_way_129 : decode cX8_way 129 = .ok (.iconst (-1), 1) := by decide +kernel
theorem dX8_way_130 : decode cX8_way 130 = .ok (.ireturn, 1) := by decide +kernel
theorem dX8_mistake_0 : decode cX8_mistake 0 = .ok (.aload_n 0, 1) := by decide +kernel
theorem dX8_mistake_1 : decode cX8_mistake 1 = .ok (.iload_n 1, 1) := by decide +kernel
theorem dX8_mistake_2 : decode cX8_mistake 2 = .ok (.invokevirtual 120, 3) := by decide +kernel
theorem dX8_mistake_5 : decode cX8_mistake 5 = .ok (.ifCond .ne 6, 3) := by decide +kernel
theorem dX8_mistake_8 : decode cX8_mistake 8 = .ok (.bipush (-2), 2) := by decide +kernel
theorem dX8_mistake_10 : decode cX8_mistake 10 = .ok (.ireturn, 1) := by decide +kernel
theorem dX8_mistake_11 : decode cX8_mistake 11 = .ok (.iconst (-1), 1) := by decide +kernel
theorem dX8_mistake_12 : decode cX8_mistake 12 = .ok (.istore_n 2, 1) := by decide +kernel
theorem dX8_mistake_13 : decode cX8_mistake 13 = .ok (.iconst 0, 1) := by decide +kernel
theorem dX8_mistake_14 : decode cX8_mistake 14 = .ok (.istore_n 3, 1) := by decide +kernel
theorem dX8_mistake_15 : decode cX8_mistake 15 = .ok (.iload_n 3, 1) := by decide +kernel
theorem dX8_mistake_16 : decode cX8_mistake 16 = .ok (.aload_n 0, 1) := by decide +kernel
theorem dX8_mistake_17 : decode cX8_mistake 17 = .ok (.getfield 113, 3) := by decide +kernel
theorem dX8_mistake_20 : decode cX8_mistake 20 = .ok (.if_icmp .ge 75, 3) := by decide +kernel
theorem dX8_mistake_23 : decode cX8_mistake 23 = .ok (.aload_n 0, 1) := by decide +kernel
theorem dX8_mistake_24 : decode cX8_mistake 24 = .ok (.iload_n 1, 1) := by decide +kernel
theorem dX8_mistake_25 : decode cX8_mistake 25 = .ok (.iload_n 3, 1) := by decide +kernel
theorem dX8_mistake_26 : decode cX8_mistake 26 = .ok (.invokevirtual 281, 3) := by decide +kernel
theorem dX8_mistake_29 : decode cX8_mistake 29 = .ok (.ifCond .eq 22, 3) := by decide +kernel
theorem dX8_mistake_32 : decode cX8_mistake 32 = .ok (.aload_n 0, 1) := by decide +kernel
theorem dX8_mistake_33 : decode cX8_mistake 33 = .ok (.iload_n 1, 1) := by decide +kernel
theorem dX8_mistake_34 : decode cX8_mistake 34 = .ok (.iload_n 3, 1) := by decide +kernel
theorem dX8_mistake_35 : decode cX8_mistake 35 = .ok (.aload_n 0, 1) := by decide +kernel
theorem dX8_mistake_36 : decode cX8_mistake 36 = .ok (.getfield 29, 3) := by decide +kernel
theorem dX8_mistake_39 : decode cX8_mistake 39 = .ok (.iload_n 1, 1) := by decide +kernel
theorem dX8_mistake_40 : decode cX8_mistake 40 = .ok (.iaload, 1) := by decide +kernel
theorem dX8_mistake_41 : decode cX8_mistake 41 = .ok (.invokevirtual 284, 3) := by decide +kernel
theorem dX8_mistake_44 : decode cX8_mistake 44 = .ok (.ifCond .ne 7, 3) := by decide +kernel
theorem dX8_mistake_47 : decode cX8_mistake 47 = .ok (.iconst 1, 1) := by decide +kernel
theorem dX8_mistake_48 : decode cX8_mistake 48 = .ok (.goto 4, 3) := by decide +kernel
theorem dX8_mistake_51 : decode cX8_mistake 51 = .ok (.iconst 0, 1) := by decide +kernel
theorem dX8_mistake_52 : decode cX8_mistake 52 = .ok (.istore 4, 2) := by decide +kernel
theorem dX8_mistake_54 : decode cX8_mistake 54 = .ok (.iload 4, 2) := by decide +kernel
theorem dX8_mistake_56 : decode cX8_mistake 56 = .ok (.ifCond .eq 33, 3) := by decide +kernel
theorem dX8_mistake_59 : decode cX8_mistake 59 = .ok (.iload_n 2, 1) := by decide +kernel
theorem dX8_mistake_60 : decode cX8_mistake 60 = .ok (.iconst (-1), 1) := by decide +kernel
theorem dX8_mistake_61 : decode cX8_mistake 61 = .ok (.if_icmp .eq 26, 3) := by decide +kernel
theorem dX8_mistake_64 : decode cX8_mistake 64 = .ok (.aload_n 0, 1) := by decide +kernel
theorem dX8_mistake_65 : decode cX8_mistake 65 = .ok (.getfield 23, 3) := by decide +kernel
theorem dX8_mistake_68 : decode cX8_mistake 68 = .ok (.iconst 4, 1) := by decide +kernel
theorem dX8_mistake_69 : decode cX8_mistake 69 = .ok (.iload_n 1, 1) := by decide +kernel
theorem dX8_mistake_70 : decode cX8_mistake 70 = .ok (.imul, 1) := by decide +kernel
theorem dX8_mistake_71 : decode cX8_mistake 71 = .ok (.iload_n 3, 1) := by decide +kernel
theorem dX8_mistake_72 : decode cX8_mistake 72 = .ok (.iadd, 1) := by decide +kernel
theorem dX8_mistake_73 : decode cX8_mistake 73 = .ok (.iaload, 1) := by decide +kernel
theorem dX8_mistake_74 : decode cX8_mistake 74 = .ok (.aload_n 0, 1) := by decide +kernel
theorem dX8_mistake_75 : decode cX8_mistake 75 = .ok (.getfield 23, 3) := by decide +kernel
theorem dX8_mistake_78 : decode cX8_mistake 78 = .ok (.iconst 4, 1) := by decide +kernel
theorem dX8_mistake_79 : decode cX8_mistake 79 = .ok (.iload_n 1, 1) := by decide +kernel
theorem dX8_mistake_80 : decode cX8_mistake 80 = .ok (.imul, 1) := by decide +kernel
theorem dX8_mistake_81 : decode cX8_mistake 81 = .ok (.iload_n 2, 1) := by decide +kernel
theorem dX8_mistake_82 : decode cX8_mistake 82 = .ok (.iadd, 1) := by decide +kernel
theorem dX8_mistake_83 : decode cX8_mistake 83 = .ok (.iaload, 1) := by decide +kernel
theorem dX8_mistake_84 : decode cX8_mistake 84 = .ok (.if_icmp .ge 5, 3) := by decide +kernel
theorem dX8_mistake_87 : decode cX8_mistake 87 = .ok (.iload_n 3, 1) := by decide +kernel
theorem dX8_mistake_88 : decode cX8_mistake 88 = .ok (.istore_n 2, 1) := by decide +kernel
theorem dX8_mistake_89 : decode cX8_mistake 89 = .ok (.iinc 3 1, 3) := by decide +kernel
theorem dX8_mistake_92 : decode cX8_mistake 92 = .ok (.goto (-77), 3) := by decide +kernel
theorem dX8_mistake_95 : decode cX8_mistake 95 = .ok (.iload_n 2, 1) := by decide +kernel
theorem dX8_mistake_96 : decode cX8_mistake 96 = .ok (.ireturn, 1) := by decide +kernel
theorem dX8_sure_0 : decode cX8_sure 0 = .ok (.aload_n 0, 1) := by decide +kernel
theorem dX8_sure_1 : decode cX8_sure 1 = .ok (.iload_n 1, 1) := by decide +kernel
theorem dX8_sure_2 : decode cX8_sure 2 = .ok (.invokevirtual 120, 3) := by decide +kernel
theorem dX8_sure_5 : decode cX8_sure 5 = .ok (.ifCond .ne 6, 3) := by decide +kernel
theorem dX8_sure_8 : decode cX8_sure 8 = .ok (.bipush (-2), 2) := by decide +kernel
theorem dX8_sure_10 : decode cX8_sure 10 = .ok (.ireturn, 1) := by decide +kernel
theorem dX8_sure_11 : decode cX8_sure 11 = .ok (.iconst 0, 1) := by decide +kernel
theorem dX8_sure_12 : decode cX8_sure 12 = .ok (.istore_n 2, 1) := by decide +kernel
theorem dX8_sure_13 : decode cX8_sure 13 = .ok (.iconst 0, 1) := by decide +kernel
theorem dX8_sure_14 : decode cX8_sure 14 = .ok (.istore_n 3, 1) := by decide +kernel
theorem dX8_sure_15 : decode cX8_sure 15 = .ok (.iload_n 3, 1) := by decide +kernel
theorem dX8_sure_16 : decode cX8_sure 16 = .ok (.aload_n 0, 1) := by decide +kernel
theorem dX8_sure_17 : decode cX8_sure 17 = .ok (.getfield 113, 3) := by decide +kernel
theorem dX8_sure_20 : decode cX8_sure 20 = .ok (.if_icmp .ge 68, 3) := by decide +kernel
theorem dX8_sure_23 : decode cX8_sure 23 = .ok (.aload_n 0, 1) := by decide +kernel
theorem dX8_sure_24 : decode cX8_sure 24 = .ok (.iload_n 1, 1) := by decide +kernel
theorem dX8_sure_25 : decode cX8_sure 25 = .ok (.iload_n 3, 1) := by decide +kernel
theorem dX8_sure_26 : decode cX8_sure 26 = .ok (.invokevirtual 281, 3) := by decide +kernel
theorem dX8_sure_29 : decode cX8_sure 29 = .ok (.istore 4, 2) := by decide +kernel
theorem dX8_sure_31 : decode cX8_sure 31 = .ok (.aload_n 0, 1) := by decide +kernel
theorem dX8_sure_32 : decode cX8_sure 32 = .ok (.getfield 29, 3) := by decide +kernel
theorem dX8_sure_35 : decode cX8_sure 35 = .ok (.iload_n 1, 1) := by decide +kernel
theorem dX8_sure_36 : decode cX8_sure 36 = .ok (.iaload, 1) := by decide +kernel
theorem dX8_sure_37 : decode cX8_sure 37 = .ok (.istore 5, 2) := by decide +kernel
theorem dX8_sure_39 : decode cX8_sure 39 = .ok (.iload 5, 2) := by decide +kernel
theorem dX8_sure_41 : decode cX8_sure 41 = .ok (.bipush 9, 2) := by decide +kernel
theorem dX8_sure_43 : decode cX8_sure 43 = .ok (.if_icmp .gt 24, 3) := by decide +kernel
theorem dX8_sure_46 : decode cX8_sure 46 = .ok (.iload 4, 2) := by decide +kernel
theorem dX8_sure_48 : decode cX8_sure 48 = .ok (.ifCond .eq 19, 3) := by decide +kernel
theorem dX8_sure_51 : decode cX8_sure 51 = .ok (.aload_n 0, 1) := by decide +kernel
theorem dX8_sure_52 : decode cX8_sure 52 = .ok (.iload_n 1, 1) := by decide +kernel
theorem dX8_sure_53 : decode cX8_sure 53 = .ok (.iload_n 3, 1) := by decide +kernel
theorem dX8_sure_54 : decode cX8_sure 54 = .ok (.iload 5, 2) := by decide +kernel
theorem dX8_sure_56 : decode cX8_sure 56 = .ok (.invokevirtual 284, 3) := by decide +kernel
theorem dX8_sure_59 : decode cX8_sure 59 = .ok (.istore 4, 2) := by decide +kernel
theorem dX8_sure_61 : decode cX8_sure 61 = .ok (.iinc 5 1, 3) := by decide +kernel
theorem dX8_sure_64 : decode cX8_sure 64 = .ok (.goto (-25), 3) := by decide +kernel
theorem dX8_sure_67 : decode cX8_sure 67 = .ok (.iload_n 2, 1) := by decide +kernel
theorem dX8_sure_68 : decode cX8_sure 68 = .ok (.iload 4, 2) := by decide +kernel
theorem dX8_sure_70 : decode cX8_sure 70 = .ok (.ifCond .eq 7, 3) := by decide +kernel
theorem dX8_sure_73 : decode cX8_sure 73 = .ok (.iconst 1, 1) := by decide +kernel
theorem dX8_sure_74 : decode cX8_sure 74 = .ok (.goto 4, 3) := by decide +kernel
theorem dX8_sure_77 : decode cX8_sure 77 = .ok (.iconst 0, 1) := by decide +kernel
theorem dX8_sure_78 : decode cX8_sure 78 = .ok (.iload_n 3, 1) := by decide +kernel
theorem dX8_sure_79 : decode cX8_sure 79 = .ok (.ishl, 1) := by decide +kernel
theorem dX8_sure_80 : decode cX8_sure 80 = .ok (.ior, 1) := by decide +kernel
theorem dX8_sure_81 : decode cX8_sure 81 = .ok (.istore_n 2, 1) := by decide +kernel
theorem dX8_sure_82 : decode cX8_sure 82 = .ok (.iinc 3 1, 3) := by decide +kernel
theorem dX8_sure_85 : decode cX8_sure 85 = .ok (.goto (-70), 3) := by decide +kernel
theorem dX8_sure_88 : decode cX8_sure 88 = .ok (.iload_n 2, 1) := by decide +kernel
theorem dX8_sure_89 : decode cX8_sure 89 = .ok (.ireturn, 1) := by decide +kernel
theorem dX8_gathers_0 : decode cX8_gathers 0 = .ok (.iconst 0, 1) := by decide +kernel
theorem dX8_gathers_1 : decode cX8_gathers 1 = .ok (.istore_n 1, 1) := by decide +kernel
theorem dX8_gathers_2 : decode cX8_gathers 2 = .ok (.iload_n 1, 1) := by decide +kernel
theorem dX8_gathers_3 : decode cX8_gathers 3 = .ok (.aload_n 0, 1) := by decide +kernel
theorem dX8_gathers_4 : decode cX8_gathers 4 = .ok (.getfield 106, 3) := by decide +kernel
theorem dX8_gathers_7 : decode cX8_gathers 7 = .ok (.if_icmp .ge 63, 3) := by decide +kernel
theorem dX8_gathers_10 : decode cX8_gathers 10 = .ok (.iconst 0, 1) := by decide +kernel
theorem dX8_gathers_11 : decode cX8_gathers 11 = .ok (.istore_n 2, 1) := by decide +kernel
theorem dX8_gathers_12 : decode cX8_gathers 12 = .ok (.iload_n 2, 1) := by decide +kernel
theorem dX8_gathers_13 : decode cX8_gathers 13 = .ok (.aload_n 0, 1) := by decide +kernel
theorem dX8_gathers_14 : decode cX8_gathers 14 = .ok (.getfield 113, 3) := by decide +kernel
theorem dX8_gathers_17 : decode cX8_gathers 17 = .ok (.if_icmp .ge 47, 3) := by decide +kernel
theorem dX8_gathers_20 : decode cX8_gathers 20 = .ok (.aload_n 0, 1) := by decide +kernel
theorem dX8_gathers_21 : decode cX8_gathers 21 = .ok (.getfield 65, 3) := by decide +kernel
theorem dX8_gathers_24 : decode cX8_gathers 24 = .ok (.iconst 4, 1) := by decide +kernel
theorem dX8_gathers_25 : decode cX8_gathers 25 = .ok (.iload_n 1, 1) := by decide +kernel
theorem dX8_gathers_26 : decode cX8_gathers 26 = .ok (.imul, 1) := by decide +kernel
theorem dX8_gathers_27 : decode cX8_gathers 27 = .ok (.iload_n 2, 1) := by decide +kernel
theorem dX8_gathers_28 : decode cX8_gathers 28 = .ok (.iadd, 1) := by decide +kernel
theorem dX8_gathers_29 : decode cX8_gathers 29 = .ok (.aload_n 0, 1) := by decide +kernel
theorem dX8_gathers_30 : decode cX8_gathers 30 = .ok (.iload_n 1, 1) := by decide +kernel
theorem dX8_gathers_31 : decode cX8_gathers 31 = .ok (.iload_n 2, 1) := by decide +kernel
theorem dX8_gathers_32 : decode cX8_gathers 32 = .ok (.aload_n 0, 1) := by decide +kernel
theorem dX8_gathers_33 : decode cX8_gathers 33 = .ok (.getfield 29, 3) := by decide +kernel
theorem dX8_gathers_36 : decode cX8_gathers 36 = .ok (.iload_n 1, 1) := by decide +kernel
theorem dX8_gathers_37 : decode cX8_gathers 37 = .ok (.iaload, 1) := by decide +kernel
theorem dX8_gathers_38 : decode cX8_gathers 38 = .ok (.invokevirtual 284, 3) := by decide +kernel
theorem dX8_gathers_41 : decode cX8_gathers 41 = .ok (.bastore, 1) := by decide +kernel
theorem dX8_gathers_42 : decode cX8_gathers 42 = .ok (.aload_n 0, 1) := by decide +kernel
theorem dX8_gathers_43 : decode cX8_gathers 43 = .ok (.getfield 69, 3) := by decide +kernel
theorem dX8_gathers_46 : decode cX8_gathers 46 = .ok (.iconst 4, 1) := by decide +kernel
theorem dX8_gathers_47 : decode cX8_gathers 47 = .ok (.iload_n 1, 1) := by decide +kernel
theorem dX8_gathers_48 : decode cX8_gathers 48 = .ok (.imul, 1) := by decide +kernel
theorem dX8_gathers_49 : decode cX8_gathers 49 = .ok (.iload_n 2, 1) := by decide +kernel
theorem dX8_gathers_50 : decode cX8_gathers 50 = .ok (.iadd, 1) := by decide +kernel
theorem dX8_gathers_51 : decode cX8_gathers 51 = .ok (.aload_n 0, 1) := by decide +kernel
theorem dX8_gathers_52 : decode cX8_gathers 52 = .ok (.iload_n 1, 1) := by decide +kernel
theorem dX8_gathers_53 : decode cX8_gathers 53 = .ok (.iload_n 2, 1) := by decide +kernel
theorem dX8_gathers_54 : decode cX8_gathers 54 = .ok (.invokevirtual 278, 3) := by decide +kernel
theorem dX8_gathers_57 : decode cX8_gathers 57 = .ok (.iastore, 1) := by decide +kernel
theorem dX8_gathers_58 : decode cX8_gathers 58 = .ok (.iinc 2 1, 3) := by decide +kernel
theorem dX8_gathers_61 : decode cX8_gathers 61 = .ok (.goto (-49), 3) := by decide +kernel
theorem dX8_gathers_64 : decode cX8_gathers 64 = .ok (.iinc 1 1, 3) := by decide +kernel
theorem dX8_gathers_67 : decode cX8_gathers 67 = .ok (.goto (-65), 3) := by decide +kernel
theorem dX8_gathers_70 : decode cX8_gathers 70 = .ok (.return_, 1) := by decide +kernel
theorem dX8_isLawful_0 : decode cX8_isLawful 0 = .ok (.iconst 0, 1) := by decide +kernel
theorem dX8_isLawful_1 : decode cX8_isLawful 1 = .ok (.istore_n 1, 1) := by decide +kernel
theorem dX8_isLawful_2 : decode cX8_isLawful 2 = .ok (.iload_n 1, 1) := by decide +kernel
theorem dX8_isLawful_3 : decode cX8_isLawful 3 = .ok (.aload_n 0, 1) := by decide +kernel
theorem dX8_isLawful_4 : decode cX8_isLawful 4 = .ok (.getfield 106, 3) := by decide +kernel
theorem dX8_isLawful_7 : decode cX8_isLawful 7 = .ok (.if_icmp .ge 39, 3) := by decide +kernel
theorem dX8_isLawful_10 : decode cX8_isLawful 10 = .ok (.aload_n 0, 1) := by decide +kernel
theorem dX8_isLawful_11 : decode cX8_isLawful 11 = .ok (.getfield 59, 3) := by decide +kernel
theorem dX8_isLawful_14 : decode cX8_isLawful 14 = .ok (.iload_n 1, 1) := by decide +kernel
theorem dX8_isLawful_15 : decode cX8_isLawful 15 = .ok (.iaload, 1) := by decide +kernel
theorem dX8_isLawful_16 : decode cX8_isLawful 16 = .ok (.iconst (-1), 1) := by decide +kernel
theorem dX8_isLawful_17 : decode cX8_isLawful 17 = .ok (.if_icmp .eq 23, 3) := by decide +kernel
theorem dX8_isLawful_20 : decode cX8_isLawful 20 = .ok (.aload_n 0, 1) := by decide +kernel
theorem dX8_isLawful_21 : decode cX8_isLawful 21 = .ok (.getfield 65, 3) := by decide +kernel
theorem dX8_isLawful_24 : decode cX8_isLawful 24 = .ok (.iconst 4, 1) := by decide +kernel
theorem dX8_isLawful_25 : decode cX8_isLawful 25 = .ok (.iload_n 1, 1) := by decide +kernel
theorem dX8_isLawful_26 : decode cX8_isLawful 26 = .ok (.imul, 1) := by decide +kernel
theorem dX8_isLawful_27 : decode cX8_isLawful 27 = .ok (.aload_n 0, 1) := by decide +kernel
theorem dX8_isLawful_28 : decode cX8_isLawful 28 = .ok (.getfield 59, 3) := by decide +kernel
theorem dX8_isLawful_31 : decode cX8_isLawful 31 = .ok (.iload_n 1, 1) := by decide +kernel
theorem dX8_isLawful_32 : decode cX8_isLawful 32 = .ok (.iaload, 1) := by decide +kernel
theorem dX8_isLawful_33 : decode cX8_isLawful 33 = .ok (.iadd, 1) := by decide +kernel
theorem dX8_isLawful_34 : decode cX8_isLawful 34 = .ok (.baload, 1) := by decide +kernel
theorem dX8_isLawful_35 : decode cX8_isLawful 35 = .ok (.ifCond .eq 5, 3) := by decide +kernel
theorem dX8_isLawful_38 : decode cX8_isLawful 38 = .ok (.iconst 0, 1) := by decide +kernel
theorem dX8_isLawful_39 : decode cX8_isLawful 39 = .ok (.ireturn, 1) := by decide +kernel
theorem dX8_isLawful_40 : decode cX8_isLawful 40 = .ok (.iinc 1 1, 3) := by decide +kernel
theorem dX8_isLawful_43 : decode cX8_isLawful 43 = .ok (.goto (-41), 3) := by decide +kernel
theorem dX8_isLawful_46 : decode cX8_isLawful 46 = .ok (.iconst 1, 1) := by decide +kernel
theorem dX8_isLawful_47 : decode cX8_isLawful 47 = .ok (.ireturn, 1) := by decide +kernel
theorem dX8_manOf_0 : decode cX8_manOf 0 = .ok (.iconst 0, 1) := by decide +kernel
theorem dX8_manOf_1 : decode cX8_manOf 1 = .ok (.istore_n 2, 1) := by decide +kernel
theorem dX8_manOf_2 : decode cX8_manOf 2 = .ok (.iload_n 2, 1) := by decide +kernel
theorem dX8_manOf_3 : decode cX8_manOf 3 = .ok (.aload_n 0, 1) := by decide +kernel
theorem dX8_manOf_4 : decode cX8_manOf 4 = .ok (.getfield 106, 3) := by decide +kernel
theorem dX8_manOf_7 : decode cX8_manOf 7 = .ok (.if_icmp .ge 21, 3) := by decide +kernel
theorem dX8_manOf_10 : decode cX8_manOf 10 = .ok (.aload_n 0, 1) := by decide +kernel
theorem dX8_manOf_11 : decode cX8_manOf 11 = .ok (.getfield 59, 3) := by decide +kernel
theorem dX8_manOf_14 : decode cX8_manOf 14 = .ok (.iload_n 2, 1) := by decide +kernel
theorem dX8_manOf_15 : decode cX8_manOf 15 = .ok (.iaload, 1) := by decide +kernel
theorem dX8_manOf_16 : decode cX8_manOf 16 = .ok (.iload_n 1, 1) := by decide +kernel
theorem dX8_manOf_17 : decode cX8_manOf 17 = .ok (.if_icmp .ne 5, 3) := by decide +kernel
theorem dX8_manOf_20 : decode cX8_manOf 20 = .ok (.iload_n 2, 1) := by decide +kernel
theorem dX8_manOf_21 : decode cX8_manOf 21 = .ok (.ireturn, 1) := by decide +kernel
theorem dX8_manOf_22 : decode cX8_manOf 22 = .ok (.iinc 2 1, 3) := by decide +kernel
theorem dX8_manOf_25 : decode cX8_manOf 25 = .ok (.goto (-23), 3) := by decide +kernel
theorem dX8_manOf_28 : decode cX8_manOf 28 = .ok (.iconst (-1), 1) := by decide +kernel
theorem dX8_manOf_29 : decode cX8_manOf 29 = .ok (.ireturn, 1) := by decide +kernel
theorem dX8_isSteady_0 : decode cX8_isSteady 0 = .ok (.aload_n 0, 1) := by decide +kernel
theorem dX8_isSteady_1 : decode cX8_isSteady 1 = .ok (.invokevirtual 307, 3) := by decide +kernel
theorem dX8_isSteady_4 : decode cX8_isSteady 4 = .ok (.ifCond .ne 5, 3) := by decide +kernel
theorem dX8_isSteady_7 : decode cX8_isSteady 7 = .ok (.iconst 0, 1) := by decide +kernel
theorem dX8_isSteady_8 : decode cX8_isSteady 8 = .ok (.ireturn, 1) := by decide +kernel
theorem dX8_isSteady_9 : decode cX8_isSteady 9 = .ok (.iconst 0, 1) := by decide +kernel
theorem dX8_isSteady_10 : decode cX8_isSteady 10 = .ok (.istore_n 1, 1) := by decide +kernel
theorem dX8_isSteady_11 : decode cX8_isSteady 11 = .ok (.iload_n 1, 1) := by decide +kernel
theorem dX8_isSteady_12 : decode cX8_isSteady 12 = .ok (.aload_n 0, 1) := by decide +kernel
theorem dX8_isSteady_13 : decode cX8_isSteady 13 = .ok (.getfield 106, 3) := by decide +kernel
theorem dX8_isSteady_16 : decode cX8_isSteady 16 = .ok (.if_icmp .ge 139, 3) := by decide +kernel
theorem dX8_isSteady_19 : decode cX8_isSteady 19 = .ok (.iconst 0, 1) := by decide +kernel
theorem dX8_isSteady_20 : decode cX8_isSteady 20 = .ok (.istore_n 2, 1) := by decide +kernel
theorem dX8_isSteady_21 : decode cX8_isSteady 21 = .ok (.iload_n 2, 1) := by decide +kernel
theorem dX8_isSteady_22 : decode cX8_isSteady 22 = .ok (.aload_n 0, 1) := by decide +kernel
theorem dX8_isSteady_23 : decode cX8_isSteady 23 = .ok (.getfield 113, 3) := by decide +kernel
theorem dX8_isSteady_26 : decode cX8_isSteady 26 = .ok (.if_icmp .ge 123, 3) := by decide +kernel
theorem dX8_isSteady_29 : decode cX8_isSteady 29 = .ok (.aload_n 0, 1) := by decide +kernel
theorem dX8_isSteady_30 : decode cX8_isSteady 30 = .ok (.getfield 59, 3) := by decide +kernel
theorem dX8_isSteady_33 : decode cX8_isSteady 33 = .ok (.iload_n 1, 1) := by decide +kernel
theorem dX8_isSteady_34 : decode cX8_isSteady 34 = .ok (.iaload, 1) := by decide +kernel
theorem dX8_isSteady_35 : decode cX8_isSteady 35 = .ok (.iconst (-1), 1) := by decide +kernel
theorem dX8_isSteady_36 : decode cX8_isSteady 36 = .ok (.if_icmp .ne 7, 3) := by decide +kernel
theorem dX8_isSteady_39 : decode cX8_isSteady 39 = .ok (.iconst (-1), 1) := by decide +kernel
theorem dX8_isSteady_40 : decode cX8_isSteady 40 = .ok (.goto 18, 3) := by decide +kernel
theorem dX8_isSteady_43 : decode cX8_isSteady 43 = .ok (.aload_n 0, 1) := by decide +kernel
theorem dX8_isSteady_44 : decode cX8_isSteady 44 = .ok (.getfield 23, 3) := by decide +kernel
theorem dX8_isSteady_47 : decode cX8_isSteady 47 = .ok (.iconst 4, 1) := by decide +kernel
theorem dX8_isSteady_48 : decode cX8_isSteady 48 = .ok (.iload_n 1, 1) := by decide +kernel
theorem dX8_isSteady_49 : decode cX8_isSteady 49 = .ok (.imul, 1) := by decide +kernel
theorem dX8_isSteady_50 : decode cX8_isSteady 50 = .ok (.aload_n 0, 1) := by decide +kernel
theorem dX8_isSteady_51 : decode cX8_isSteady 51 = .ok (.getfield 59, 3) := by decide +kernel
theorem dX8_isSteady_54 : decode cX8_isSteady 54 = .ok (.iload_n 1, 1) := by decide +kernel
theorem dX8_isSteady_55 : decode cX8_isSteady 55 = .ok (.iaload, 1) := by decide +kernel
theorem dX8_isSteady_56 : decode cX8_isSteady 56 = .ok (.iadd, 1) := by decide +kernel
theorem dX8_isSteady_57 : decode cX8_isSteady 57 = .ok (.iaload, 1) := by decide +kernel
theorem dX8_isSteady_58 : decode cX8_isSteady 58 = .ok (.istore_n 3, 1) := by decide +kernel
theorem dX8_isSteady_59 : decode cX8_isSteady 59 = .ok (.aload_n 0, 1) := by decide +kernel
theorem dX8_isSteady_60 : decode cX8_isSteady 60 = .ok (.iload_n 2, 1) := by decide +kernel
theorem dX8_isSteady_61 : decode cX8_isSteady 61 = .ok (.invokevirtual 310, 3) := by decide +kernel
theorem dX8_isSteady_64 : decode cX8_isSteady 64 = .ok (.istore 4, 2) := by decide +kernel
theorem dX8_isSteady_66 : decode cX8_isSteady 66 = .ok (.iload 4, 2) := by decide +kernel
theorem dX8_isSteady_68 : decode cX8_isSteady 68 = .ok (.iconst (-1), 1) := by decide +kernel
theorem dX8_isSteady_69 : decode cX8_isSteady 69 = .ok (.if_icmp .ne 7, 3) := by decide +kernel
theorem dX8_isSteady_72 : decode cX8_isSteady 72 = .ok (.iconst (-1), 1) := by decide +kernel
theorem dX8_isSteady_73 : decode cX8_isSteady 73 = .ok (.goto 14, 3) := by decide +kernel
theorem dX8_isSteady_76 : decode cX8_isSteady 76 = .ok (.aload_n 0, 1) := by decide +kernel
theorem dX8_isSteady_77 : decode cX8_isSteady 77 = .ok (.getfield 26, 3) := by decide +kernel
theorem dX8_isSteady_80 : decode cX8_isSteady 80 = .ok (.iconst 4, 1) := by decide +kernel
theorem dX8_isSteady_81 : decode cX8_isSteady 81 = .ok (.iload 4, 2) := by decide +kernel
theorem dX8_isSteady_83 : decode cX8_isSteady 83 = .ok (.imul, 1) := by decide +kernel
theorem dX8_isSteady_84 : decode cX8_isSteady 84 = .ok (.iload_n 2, 1) := by decide +kernel
theorem dX8_isSteady_85 : decode cX8_isSteady 85 = .ok (.iadd, 1) := by decide +kernel
theorem dX8_isSteady_86 : decode cX8_isSteady 86 = .ok (.iaload, 1) := by decide +kernel
theorem dX8_isSteady_87 : decode cX8_isSteady 87 = .ok (.istore 5, 2) := by decide +kernel
theorem dX8_isSteady_89 : decode cX8_isSteady 89 = .ok (.aload_n 0, 1) := by decide +kernel
theorem dX8_isSteady_90 : decode cX8_isSteady 90 = .ok (.getfield 59, 3) := by decide +kernel
theorem dX8_isSteady_93 : decode cX8_isSteady 93 = .ok (.iload_n 1, 1) := by decide +kernel
theorem dX8_isSteady_94 : decode cX8_isSteady 94 = .ok (.iaload, 1) := by decide +kernel
theorem dX8_isSteady_95 : decode cX8_isSteady 95 = .ok (.iload_n 2, 1) := by decide +kernel
theorem dX8_isSteady_96 : decode cX8_isSteady 96 = .ok (.if_icmp .eq 47, 3) := by decide +kernel
theorem dX8_isSteady_99 : decode cX8_isSteady 99 = .ok (.aload_n 0, 1) := by decide +kernel
theorem dX8_isSteady_100 : decode cX8_isSteady 100 = .ok (.getfield 65, 3) := by decide +kernel
theorem dX8_isSteady_103 : decode cX8_isSteady 103 = .ok (.iconst 4, 1) := by decide +kernel
theorem dX8_isSteady_104 : decode cX8_isSteady 104 = .ok (.iload_n 1, 1) := by decide +kernel
theorem dX8_isSteady_105 : decode cX8_isSteady 105 = .ok (.imul, 1) := by decide +kernel
theorem dX8_isSteady_106 : decode cX8_isSteady 106 = .ok (.iload_n 2, 1) := by decide +kernel
theorem dX8_isSteady_107 : decode cX8_isSteady 107 = .ok (.iadd, 1) := by decide +kernel
theorem dX8_isSteady_108 : decode cX8_isSteady 108 = .ok (.baload, 1) := by decide +kernel
theorem dX8_isSteady_109 : decode cX8_isSteady 109 = .ok (.ifCond .ne 34, 3) := by decide +kernel
theorem dX8_isSteady_112 : decode cX8_isSteady 112 = .ok (.aload_n 0, 1) := by decide +kernel
theorem dX8_isSteady_113 : decode cX8_isSteady 113 = .ok (.getfield 23, 3) := by decide +kernel
theorem dX8_isSteady_116 : decode cX8_isSteady 116 = .ok (.iconst 4, 1) := by decide +kernel
theorem dX8_isSteady_117 : decode cX8_isSteady 117 = .ok (.iload_n 1, 1) := by decide +kernel
theorem dX8_isSteady_118 : decode cX8_isSteady 118 = .ok (.imul, 1) := by decide +kernel
theorem dX8_isSteady_119 : decode cX8_isSteady 119 = .ok (.iload_n 2, 1) := by decide +kernel
theorem dX8_isSteady_120 : decode cX8_isSteady 120 = .ok (.iadd, 1) := by decide +kernel
theorem dX8_isSteady_121 : decode cX8_isSteady 121 = .ok (.iaload, 1) := by decide +kernel
theorem dX8_isSteady_122 : decode cX8_isSteady 122 = .ok (.iload_n 3, 1) := by decide +kernel
theorem dX8_isSteady_123 : decode cX8_isSteady 123 = .ok (.if_icmp .le 20, 3) := by decide +kernel
theorem dX8_isSteady_126 : decode cX8_isSteady 126 = .ok (.aload_n 0, 1) := by decide +kernel
theorem dX8_isSteady_127 : decode cX8_isSteady 127 = .ok (.getfield 26, 3) := by decide +kernel
theorem dX8_isSteady_130 : decode cX8_isSteady 130 = .ok (.iconst 4, 1) := by decide +kernel
theorem dX8_isSteady_131 : decode cX8_isSteady 131 = .ok (.iload_n 1, 1) := by decide +kernel
theorem dX8_isSteady_132 : decode cX8_isSteady 132 = .ok (.imul, 1) := by decide +kernel
theorem dX8_isSteady_133 : decode cX8_isSteady 133 = .ok (.iload_n 2, 1) := by decide +kernel
theorem dX8_isSteady_134 : decode cX8_isSteady 134 = .ok (.iadd, 1) := by decide +kernel
theorem dX8_isSteady_135 : decode cX8_isSteady 135 = .ok (.iaload, 1) := by decide +kernel
theorem dX8_isSteady_136 : decode cX8_isSteady 136 = .ok (.iload 5, 2) := by decide +kernel
theorem dX8_isSteady_138 : decode cX8_isSteady 138 = .ok (.if_icmp .le 5, 3) := by decide +kernel
theorem dX8_isSteady_141 : decode cX8_isSteady 141 = .ok (.iconst 0, 1) := by decide +kernel
theorem dX8_isSteady_142 : decode cX8_isSteady 142 = .ok (.ireturn, 1) := by decide +kernel
theorem dX8_isSteady_143 : decode cX8_isSteady 143 = .ok (.iinc 2 1, 3) := by decide +kernel
theorem dX8_isSteady_146 : decode cX8_isSteady 146 = .ok (.goto (-125), 3) := by decide +kernel
theorem dX8_isSteady_149 : decode cX8_isSteady 149 = .ok (.iinc 1 1, 3) := by decide +kernel
theorem dX8_isSteady_152 : decode cX8_isSteady 152 = .ok (.goto (-141), 3) := by decide +kernel
theorem dX8_isSteady_155 : decode cX8_isSteady 155 = .ok (.iconst 1, 1) := by decide +kernel
theorem dX8_isSteady_156 : decode cX8_isSteady 156 = .ok (.ireturn, 1) := by decide +kernel
theorem dX8_pairs_0 : decode cX8_pairs 0 = .ok (.iload_n 1, 1) := by decide +kernel
theorem dX8_pairs_1 : decode cX8_pairs 1 = .ok (.aload_n 0, 1) := by decide +kernel
theorem dX8_pairs_2 : decode cX8_pairs 2 = .ok (.getfield 106, 3) := by decide +kernel
theorem dX8_pairs_5 : decode cX8_pairs 5 = .ok (.if_icmp .ne 149, 3) := by decide +kernel
theorem dX8_pairs_8 : decode cX8_pairs 8 = .ok (.iload_n 2, 1) := by decide +kernel
theorem dX8_pairs_9 : decode cX8_pairs 9 = .ok (.ifCond .ne 13, 3) := by decide +kernel
theorem dX8_pairs_12 : decode cX8_pairs 12 = .ok (.aload_n 0, 1) := by decide +kernel
theorem dX8_pairs_13 : decode cX8_pairs 13 = .ok (.invokevirtual 307, 3) := by decide +kernel
theorem dX8_pairs_16 : decode cX8_pairs 16 = .ok (.ifCond .ne 14, 3) := by decide +kernel
theorem dX8_pairs_19 : decode cX8_pairs 19 = .ok (.goto 10, 3) := by decide +kernel
theorem dX8_pairs_22 : decode cX8_pairs 22 = .ok (.aload_n 0, 1) := by decide +kernel
theorem dX8_pairs_23 : decode cX8_pairs 23 = .ok (.invokevirtual 313, 3) := by decide +kernel
theorem dX8_pairs_26 : decode cX8_pairs 26 = .ok (.ifCond .ne 4, 3) := by decide +kernel
theorem dX8_pairs_29 : decode cX8_pairs 29 = .ok (.return_, 1) := by decide +kernel
theorem dX8_pairs_30 : decode cX8_pairs 30 = .ok (.iconst 0, 1) := by decide +kernel
theorem dX8_pairs_31 : decode cX8_pairs 31 = .ok (.istore 4, 2) := by decide +kernel
theorem dX8_pairs_33 : decode cX8_pairs 33 = .ok (.iconst 0, 1) := by decide +kernel
theorem dX8_pairs_34 : decode cX8_pairs 34 = .ok (.istore 5, 2) := by decide +kernel
theorem dX8_pairs_36 : decode cX8_pairs 36 = .ok (.iload 5, 2) := by decide +kernel
theorem dX8_pairs_38 : decode cX8_pairs 38 = .ok (.aload_n 0, 1) := by decide +kernel
theorem dX8_pairs_39 : decode cX8_pairs 39 = .ok (.getfield 106, 3) := by decide +kernel
theorem dX8_pairs_42 : decode cX8_pairs 42 = .ok (.if_icmp .ge 46, 3) := by decide +kernel
theorem dX8_pairs_45 : decode cX8_pairs 45 = .ok (.iload 4, 2) := by decide +kernel
theorem dX8_pairs_47 : decode cX8_pairs 47 = .ok (.aload_n 0, 1) := by decide +kernel
theorem dX8_pairs_48 : decode cX8_pairs 48 = .ok (.getfield 59, 3) := by decide +kernel
theorem dX8_pairs_51 : decode cX8_pairs 51 = .ok (.iload 5, 2) := by decide +kernel
theorem dX8_pairs_53 : decode cX8_pairs 53 = .ok (.iaload, 1) := by decide +kernel
theorem dX8_pairs_54 : decode cX8_pairs 54 = .ok (.iconst (-1), 1) := by decide +kernel
theorem dX8_pairs_55 : decode cX8_pairs 55 = .ok (.if_icmp .ne 7, 3) := by decide +kernel
theorem dX8_pairs_58 : decode cX8_pairs 58 = .ok (.iconst 0, 1) := by decide +kernel
theorem dX8_pairs_59 : decode cX8_pairs 59 = .ok (.goto 20, 3) := by decide +kernel
theorem dX8_pairs_62 : decode cX8_pairs 62 = .ok (.aload_n 0, 1) := by decide +kernel
theorem dX8_pairs_63 : decode cX8_pairs 63 = .ok (.getfield 69, 3) := by decide +kernel
theorem dX8_pairs_66 : decode cX8_pairs 66 = .ok (.iconst 4, 1) := by decide +kernel
theorem dX8_pairs_67 : decode cX8_pairs 67 = .ok (.iload 5, 2) := by decide +kernel
theorem dX8_pairs_69 : decode cX8_pairs 69 = .ok (.imul, 1) := by decide +kernel
theorem dX8_pairs_70 : decode cX8_pairs 70 = .ok (.aload_n 0, 1) := by decide +kernel
theorem dX8_pairs_71 : decode cX8_pairs 71 = .ok (.getfield 59, 3) := by decide +kernel
theorem dX8_pairs_74 : decode cX8_pairs 74 = .ok (.iload 5, 2) := by decide +kernel
theorem dX8_pairs_76 : decode cX8_pairs 76 = .ok (.iaload, 1) := by decide +kernel
theorem dX8_pairs_77 : decode cX8_pairs 77 = .ok (.iadd, 1) := by decide +kernel
theorem dX8_pairs_78 : decode cX8_pairs 78 = .ok (.iaload, 1) := by decide +kernel
theorem dX8_pairs_79 : decode cX8_pairs 79 = .ok (.iadd, 1) := by decide +kernel
theorem dX8_pairs_80 : decode cX8_pairs 80 = .ok (.istore 4, 2) := by decide +kernel
theorem dX8_pairs_82 : decode cX8_pairs 82 = .ok (.iinc 5 1, 3) := by decide +kernel
theorem dX8_pairs_85 : decode cX8_pairs 85 = .ok (.goto (-49), 3) := by decide +kernel
theorem dX8_pairs_88 : decode cX8_pairs 88 = .ok (.aload_n 0, 1) := by decide +kernel
theorem dX8_pairs_89 : decode cX8_pairs 89 = .ok (.dup, 1) := by decide +kernel
theorem dX8_pairs_90 : decode cX8_pairs 90 = .ok (.getfield 316, 3) := by decide +kernel
theorem dX8_pairs_93 : decode cX8_pairs 93 = .ok (.iconst 1, 1) := by decide +kernel
theorem dX8_pairs_94 : decode cX8_pairs 94 = .ok (.iadd, 1) := by decide +kernel
theorem dX8_pairs_95 : decode cX8_pairs 95 = .ok (.putfield 316, 3) := by decide +kernel
theorem dX8_pairs_98 : decode cX8_pairs 98 = .ok (.aload_n 0, 1) := by decide +kernel
theorem dX8_pairs_99 : decode cX8_pairs 99 = .ok (.getfield 316, 3) := by decide +kernel
theorem dX8_pairs_102 : decode cX8_pairs 102 = .ok (.iconst 1, 1) := by decide +kernel
theorem dX8_pairs_103 : decode cX8_pairs 103 = .ok (.if_icmp .eq 12, 3) := by decide +kernel
theorem dX8_pairs_106 : decode cX8_pairs 106 = .ok (.iload 4, 2) := by decide +kernel
theorem dX8_pairs_108 : decode cX8_pairs 108 = .ok (.aload_n 0, 1) := by decide +kernel
theorem dX8_pairs_109 : decode cX8_pairs 109 = .ok (.getfield 319, 3) := by decide +kernel
theorem dX8_pairs_112 : decode cX8_pairs 112 = .ok (.if_icmp .le 41, 3) := by decide +kernel
theorem dX8_pairs_115 : decode cX8_pairs 115 = .ok (.aload_n 0, 1) := by decide +kernel
theorem dX8_pairs_116 : decode cX8_pairs 116 = .ok (.iload 4, 2) := by decide +kernel
theorem dX8_pairs_118 : decode cX8_pairs 118 = .ok (.putfield 319, 3) := by decide +kernel
theorem dX8_pairs_121 : decode cX8_pairs 121 = .ok (.iconst 0, 1) := by decide +kernel
theorem dX8_pairs_122 : decode cX8_pairs 122 = .ok (.istore 5, 2) := by decide +kernel
theorem dX8_pairs_124 : decode cX8_pairs 124 = .ok (.iload 5, 2) := by decide +kernel
theorem dX8_pairs_126 : decode cX8_pairs 126 = .ok (.aload_n 0, 1) := by decide +kernel
theorem dX8_pairs_127 : decode cX8_pairs 127 = .ok (.getfield 106, 3) := by decide +kernel
theorem dX8_pairs_130 : decode cX8_pairs 130 = .ok (.if_icmp .ge 23, 3) := by decide +kernel
theorem dX8_pairs_133 : decode cX8_pairs 133 = .ok (.aload_n 0, 1) := by decide +kernel
theorem dX8_pairs_134 : decode cX8_pairs 134 = .ok (.getfield 62, 3) := by decide +kernel
theorem dX8_pairs_137 : decode cX8_pairs 137 = .ok (.iload 5, 2) := by decide +kernel
theorem dX8_pairs_139 : decode cX8_pairs 139 = .ok (.aload_n 0, 1) := by decide +kernel
theorem dX8_pairs_140 : decode cX8_pairs 140 = .ok (.getfield 59, 3) := by decide +kernel
theorem dX8_pairs_143 : decode cX8_pairs 143 = .ok (.iload 5, 2) := by decide +kernel
theorem dX8_pairs_145 : decode cX8_pairs 145 = .ok (.iaload, 1) := by decide +kernel
theorem dX8_pairs_146 : decode cX8_pairs 146 = .ok (.iastore, 1) := by decide +kernel
theorem dX8_pairs_147 : decode cX8_pairs 147 = .ok (.iinc 5 1, 3) := by decide +kernel
theorem dX8_pairs_150 : decode cX8_pairs 150 = .ok (.goto (-26), 3) := by decide +kernel
theorem dX8_pairs_153 : decode cX8_pairs 153 = .ok (.return_, 1) := by decide +kernel
theorem dX8_pairs_154 : decode cX8_pairs 154 = .ok (.iconst (-1), 1) := by decide +kernel
theorem dX8_pairs_155 : decode cX8_pairs 155 = .ok (.istore 4, 2) := by decide +kernel
theorem dX8_pairs_157 : decode cX8_pairs 157 = .ok (.iload 4, 2) := by decide +kernel
theorem dX8_pairs_159 : decode cX8_pairs 159 = .ok (.aload_n 0, 1) := by decide +kernel
theorem dX8_pairs_160 : decode cX8_pairs 160 = .ok (.getfield 113, 3) := by decide +kernel
theorem dX8_pairs_163 : decode cX8_pairs 163 = .ok (.if_icmp .ge 56, 3) := by decide +kernel
theorem dX8_pairs_166 : decode cX8_pairs 166 = .ok (.iload 4, 2) := by decide +kernel
theorem dX8_pairs_168 : decode cX8_pairs 168 = .ok (.iconst (-1), 1) := by decide +kernel
theorem dX8_pairs_169 : decode cX8_pairs 169 = .ok (.if_icmp .eq 12, 3) := by decide +kernel
theorem dX8_pairs_172 : decode cX8_pairs 172 = .ok (.iload_n 3, 1) := by decide +kernel
theorem dX8_pairs_173 : decode cX8_pairs 173 = .ok (.iload 4, 2) := by decide +kernel
theorem dX8_pairs_175 : decode cX8_pairs 175 = .ok (.ishr, 1) := by decide +kernel
theorem dX8_pairs_176 : decode cX8_pairs 176 = .ok (.iconst 1, 1) := by decide +kernel
theorem dX8_pairs_177 : decode cX8_pairs 177 = .ok (.iand, 1) := by decide +kernel
theorem dX8_pairs_178 : decode cX8_pairs 178 = .ok (.ifCond .ne 35, 3) := by decide +kernel
theorem dX8_pairs_181 : decode cX8_pairs 181 = .ok (.aload_n 0, 1) := by decide +kernel
theorem dX8_pairs_182 : decode cX8_pairs 182 = .ok (.getfield 59, 3) := by decide +kernel
theorem dX8_pairs_185 : decode cX8_pairs 185 = .ok (.iload_n 1, 1) := by decide +kernel
theorem dX8_pairs_186 : decode cX8_pairs 186 = .ok (.iload 4, 2) := by decide +kernel
theorem dX8_pairs_188 : decode cX8_pairs 188 = .ok (.iastore, 1) := by decide +kernel
theorem dX8_pairs_189 : decode cX8_pairs 189 = .ok (.aload_n 0, 1) := by decide +kernel
theorem dX8_pairs_190 : decode cX8_pairs 190 = .ok (.iload_n 1, 1) := by decide +kernel
theorem dX8_pairs_191 : decode cX8_pairs 191 = .ok (.iconst 1, 1) := by decide +kernel
theorem dX8_pairs_192 : decode cX8_pairs 192 = .ok (.iadd, 1) := by decide +kernel
theorem dX8_pairs_193 : decode cX8_pairs 193 = .ok (.iload_n 2, 1) := by decide +kernel
theorem dX8_pairs_194 : decode cX8_pairs 194 = .ok (.iload 4, 2) := by decide +kernel
theorem dX8_pairs_196 : decode cX8_pairs 196 = .ok (.iconst (-1), 1) := by decide +kernel
theorem dX8_pairs_197 : decode cX8_pairs 197 = .ok (.if_icmp .ne 7, 3) := by decide +kernel
theorem dX8_pairs_200 : decode cX8_pairs 200 = .ok (.iload_n 3, 1) := by decide +kernel
theorem dX8_pairs_201 : decode cX8_pairs 201 = .ok (.goto 9, 3) := by decide +kernel
theorem dX8_pairs_204 : decode cX8_pairs 204 = .ok (.iload_n 3, 1) := by decide +kernel
theorem dX8_pairs_205 : decode cX8_pairs 205 = .ok (.iconst 1, 1) := by decide +kernel
theorem dX8_pairs_206 : decode cX8_pairs 206 = .ok (.iload 4, 2) := by decide +kernel
theorem dX8_pairs_208 : decode cX8_pairs 208 = .ok (.ishl, 1) := by decide +kernel
theorem dX8_pairs_209 : decode cX8_pairs 209 = .ok (.ior, 1) := by decide +kernel
theorem dX8_pairs_210 : decode cX8_pairs 210 = .ok (.invokevirtual 322, 3) := by decide +kernel
theorem dX8_pairs_213 : decode cX8_pairs 213 = .ok (.iinc 4 1, 3) := by decide +kernel
theorem dX8_pairs_216 : decode cX8_pairs 216 = .ok (.goto (-59), 3) := by decide +kernel
theorem dX8_pairs_219 : decode cX8_pairs 219 = .ok (.return_, 1) := by decide +kernel
theorem dX8_goes_0 : decode cX8_goes 0 = .ok (.aload_n 0, 1) := by decide +kernel
theorem dX8_goes_1 : decode cX8_goes 1 = .ok (.invokevirtual 326, 3) := by decide +kernel
theorem dX8_goes_4 : decode cX8_goes 4 = .ok (.aload_n 0, 1) := by decide +kernel
theorem dX8_goes_5 : decode cX8_goes 5 = .ok (.iconst 0, 1) := by decide +kernel
theorem dX8_goes_6 : decode cX8_goes 6 = .ok (.putfield 316, 3) := by decide +kernel
theorem dX8_goes_9 : decode cX8_goes 9 = .ok (.aload_n 0, 1) := by decide +kernel
theorem dX8_goes_10 : decode cX8_goes 10 = .ok (.iconst 0, 1) := by decide +kernel
theorem dX8_goes_11 : decode cX8_goes 11 = .ok (.putfield 319, 3) := by decide +kernel
theorem dX8_goes_14 : decode cX8_goes 14 = .ok (.aload_n 0, 1) := by decide +kernel
theorem dX8_goes_15 : decode cX8_goes 15 = .ok (.iconst 0, 1) := by decide +kernel
theorem dX8_goes_16 : decode cX8_goes 16 = .ok (.iload_n 1, 1) := by decide +kernel
theorem dX8_goes_17 : decode cX8_goes 17 = .ok (.iconst 0, 1) := by decide +kernel
theorem dX8_goes_18 : decode cX8_goes 18 = .ok (.invokevirtual 322, 3) := by decide +kernel
theorem dX8_goes_21 : decode cX8_goes 21 = .ok (.aload_n 0, 1) := by decide +kernel
theorem dX8_goes_22 : decode cX8_goes 22 = .ok (.getfield 316, 3) := by decide +kernel
theorem dX8_goes_25 : decode cX8_goes 25 = .ok (.ireturn, 1) := by decide +kernel
theorem dX8_pairings_0 : decode cX8_pairings 0 = .ok (.iload_n 1, 1) := by decide +kernel
theorem dX8_pairings_1 : decode cX8_pairings 1 = .ok (.i2l, 1) := by decide +kernel
theorem dX8_pairings_2 : decode cX8_pairings 2 = .ok (.lconst 0, 1) := by decide +kernel
theorem dX8_pairings_3 : decode cX8_pairings 3 = .ok (.lconst 1, 1) := by decide +kernel
theorem dX8_pairings_4 : decode cX8_pairings 4 = .ok (.invokestatic 109, 3) := by decide +kernel
theorem dX8_pairings_7 : decode cX8_pairings 7 = .ok (.ifCond .eq 11, 3) := by decide +kernel
theorem dX8_pairings_10 : decode cX8_pairings 10 = .ok (.aload_n 0, 1) := by decide +kernel
theorem dX8_pairings_11 : decode cX8_pairings 11 = .ok (.iload_n 1, 1) := by decide +kernel
theorem dX8_pairings_12 : decode cX8_pairings 12 = .ok (.invokevirtual 329, 3) := by decide +kernel
theorem dX8_pairings_15 : decode cX8_pairings 15 = .ok (.goto 5, 3) := by decide +kernel
theorem dX8_pairings_18 : decode cX8_pairings 18 = .ok (.bipush (-2), 2) := by decide +kernel
theorem dX8_pairings_20 : decode cX8_pairings 20 = .ok (.ireturn, 1) := by decide +kernel
theorem dX8_best_0 : decode cX8_best 0 = .ok (.iload_n 1, 1) := by decide +kernel
theorem dX8_best_1 : decode cX8_best 1 = .ok (.i2l, 1) := by decide +kernel
theorem dX8_best_2 : decode cX8_best 2 = .ok (.lconst 0, 1) := by decide +kernel
theorem dX8_best_3 : decode cX8_best 3 = .ok (.lconst 1, 1) := by decide +kernel
theorem dX8_best_4 : decode cX8_best 4 = .ok (.invokestatic 109, 3) := by decide +kernel
theorem dX8_best_7 : decode cX8_best 7 = .ok (.ifCond .eq 16, 3) := by decide +kernel
theorem dX8_best_10 : decode cX8_best 10 = .ok (.iload_n 2, 1) := by decide +kernel
theorem dX8_best_11 : decode cX8_best 11 = .ok (.iconst (-1), 1) := by decide +kernel
theorem dX8_best_12 : decode cX8_best 12 = .ok (.if_icmp .eq 14, 3) := by decide +kernel
theorem dX8_best_15 : decode cX8_best 15 = .ok (.aload_n 0, 1) := by decide +kernel
theorem dX8_best_16 : decode cX8_best 16 = .ok (.iload_n 2, 1) := by decide +kernel
theorem dX8_best_17 : decode cX8_best 17 = .ok (.invokevirtual 120, 3) := by decide +kernel
theorem dX8_best_20 : decode cX8_best 20 = .ok (.ifCond .ne 6, 3) := by decide +kernel
theorem dX8_best_23 : decode cX8_best 23 = .ok (.bipush (-2), 2) := by decide +kernel
theorem dX8_best_25 : decode cX8_best 25 = .ok (.ireturn, 1) := by decide +kernel
theorem dX8_best_26 : decode cX8_best 26 = .ok (.aload_n 0, 1) := by decide +kernel
theorem dX8_best_27 : decode cX8_best 27 = .ok (.iload_n 1, 1) := by decide +kernel
theorem dX8_best_28 : decode cX8_best 28 = .ok (.invokevirtual 329, 3) := by decide +kernel
theorem dX8_best_31 : decode cX8_best 31 = .ok (.ifCond .ne 6, 3) := by decide +kernel
theorem dX8_best_34 : decode cX8_best 34 = .ok (.bipush (-3), 2) := by decide +kernel
theorem dX8_best_36 : decode cX8_best 36 = .ok (.ireturn, 1) := by decide +kernel
theorem dX8_best_37 : decode cX8_best 37 = .ok (.iload_n 2, 1) := by decide +kernel
theorem dX8_best_38 : decode cX8_best 38 = .ok (.iconst (-1), 1) := by decide +kernel
theorem dX8_best_39 : decode cX8_best 39 = .ok (.if_icmp .ne 10, 3) := by decide +kernel
theorem dX8_best_42 : decode cX8_best 42 = .ok (.aload_n 0, 1) := by decide +kernel
theorem dX8_best_43 : decode cX8_best 43 = .ok (.getfield 319, 3) := by decide +kernel
theorem dX8_best_46 : decode cX8_best 46 = .ok (.goto 9, 3) := by decide +kernel
theorem dX8_best_49 : decode cX8_best 49 = .ok (.aload_n 0, 1) := by decide +kernel
theorem dX8_best_50 : decode cX8_best 50 = .ok (.getfield 62, 3) := by decide +kernel
theorem dX8_best_53 : decode cX8_best 53 = .ok (.iload_n 2, 1) := by decide +kernel
theorem dX8_best_54 : decode cX8_best 54 = .ok (.iaload, 1) := by decide +kernel
theorem dX8_best_55 : decode cX8_best 55 = .ok (.ireturn, 1) := by decide +kernel
theorem dX8_row_0 : decode cX8_row 0 = .ok (.iload_n 1, 1) := by decide +kernel
theorem dX8_row_1 : decode cX8_row 1 = .ok (.invokestatic 332, 3) := by decide +kernel
theorem dX8_row_4 : decode cX8_row 4 = .ok (.ifCond .ne 6, 3) := by decide +kernel
theorem dX8_row_7 : decode cX8_row 7 = .ok (.bipush (-2), 2) := by decide +kernel
theorem dX8_row_9 : decode cX8_row 9 = .ok (.ireturn, 1) := by decide +kernel
theorem dX8_row_10 : decode cX8_row 10 = .ok (.aload_n 0, 1) := by decide +kernel
theorem dX8_row_11 : decode cX8_row 11 = .ok (.getfield 87, 3) := by decide +kernel
theorem dX8_row_14 : decode cX8_row 14 = .ok (.iload_n 1, 1) := by decide +kernel
theorem dX8_row_15 : decode cX8_row 15 = .ok (.baload, 1) := by decide +kernel
theorem dX8_row_16 : decode cX8_row 16 = .ok (.ifCond .ne 6, 3) := by decide +kernel
theorem dX8_row_19 : decode cX8_row 19 = .ok (.bipush (-11), 2) := by decide +kernel
theorem dX8_row_21 : decode cX8_row 21 = .ok (.ireturn, 1) := by decide +kernel
theorem dX8_row_22 : decode cX8_row 22 = .ok (.aload_n 0, 1) := by decide +kernel
theorem dX8_row_23 : decode cX8_row 23 = .ok (.getfield 93, 3) := by decide +kernel
theorem dX8_row_26 : decode cX8_row 26 = .ok (.iload_n 1, 1) := by decide +kernel
theorem dX8_row_27 : decode cX8_row 27 = .ok (.iaload, 1) := by decide +kernel
theorem dX8_row_28 : decode cX8_row 28 = .ok (.aload_n 0, 1) := by decide +kernel
theorem dX8_row_29 : decode cX8_row 29 = .ok (.getfield 106, 3) := by decide +kernel
theorem dX8_row_32 : decode cX8_row 32 = .ok (.if_icmp .eq 6, 3) := by decide +kernel
theorem dX8_row_35 : decode cX8_row 35 = .ok (.bipush (-2), 2) := by decide +kernel
theorem dX8_row_37 : decode cX8_row 37 = .ok (.ireturn, 1) := by decide +kernel
theorem dX8_row_38 : decode cX8_row 38 = .ok (.iconst 0, 1) := by decide +kernel
theorem dX8_row_39 : decode cX8_row 39 = .ok (.istore_n 2, 1) := by decide +kernel
theorem dX8_row_40 : decode cX8_row 40 = .ok (.iconst 0, 1) := by decide +kernel
theorem dX8_row_41 : decode cX8_row 41 = .ok (.istore_n 3, 1) := by decide +kernel
theorem dX8_row_42 : decode cX8_row 42 = .ok (.iload_n 3, 1) := by decide +kernel
theorem dX8_row_43 : decode cX8_row 43 = .ok (.aload_n 0, 1) := by decide +kernel
theorem dX8_row_44 : decode cX8_row 44 = .ok (.getfield 106, 3) := by decide +kernel
theorem dX8_row_47 : decode cX8_row 47 = .ok (.if_icmp .ge 70, 3) := by decide +kernel
theorem dX8_row_50 : decode cX8_row 50 = .ok (.aload_n 0, 1) := by decide +kernel
theorem dX8_row_51 : decode cX8_row 51 = .ok (.getfield 96, 3) := by decide +kernel
theorem dX8_row_54 : decode cX8_row 54 = .ok (.bipush 40, 2) := by decide +kernel
theorem dX8_row_56 : decode cX8_row 56 = .ok (.iload_n 1, 1) := by decide +kernel
theorem dX8_row_57 : decode cX8_row 57 = .ok (.imul, 1) := by decide +kernel
theorem dX8_row_58 : decode cX8_row 58 = .ok (.iload_n 3, 1) := by decide +kernel
theorem dX8_row_59 : decode cX8_row 59 = .ok (.iadd, 1) := by decide +kernel
theorem dX8_row_60 : decode cX8_row 60 = .ok (.iaload, 1) := by decide +kernel
theorem dX8_row_61 : decode cX8_row 61 = .ok (.istore 4, 2) := by decide +kernel
theorem dX8_row_63 : decode cX8_row 63 = .ok (.iload 4, 2) := by decide +kernel
theorem dX8_row_65 : decode cX8_row 65 = .ok (.iconst (-1), 1) := by decide +kernel
theorem dX8_row_66 : decode cX8_row 66 = .ok (.if_icmp .eq 24, 3) := by decide +kernel
theorem dX8_row_69 : decode cX8_row 69 = .ok (.aload_n 0, 1) := by decide +kernel
theorem dX8_row_70 : decode cX8_row 70 = .ok (.iload 4, 2) := by decide +kernel
theorem dX8_row_72 : decode cX8_row 72 = .ok (.invokevirtual 124, 3) := by decide +kernel
theorem dX8_row_75 : decode cX8_row 75 = .ok (.ifCond .eq 13, 3) := by decide +kernel
theorem dX8_row_78 : decode cX8_row 78 = .ok (.iload_n 2, 1) := by decide +kernel
theorem dX8_row_79 : decode cX8_row 79 = .ok (.iload 4, 2) := by decide +kernel
theorem dX8_row_81 : decode cX8_row 81 = .ok (.ishr, 1) := by decide +kernel
theorem dX8_row_82 : decode cX8_row 82 = .ok (.iconst 1, 1) := by decide +kernel
theorem dX8_row_83 : decode cX8_row 83 = .ok (.iand, 1) := by decide +kernel
theorem dX8_row_84 : decode cX8_row 84 = .ok (.iconst 1, 1) := by decide +kernel
theorem dX8_row_85 : decode cX8_row 85 = .ok (.if_icmp .ne 5, 3) := by decide +kernel
theorem dX8_row_88 : decode cX8_row 88 = .ok (.iconst 0, 1) := by decide +kernel
theorem dX8_row_89 : decode cX8_row 89 = .ok (.ireturn, 1) := by decide +kernel
theorem dX8_row_90 : decode cX8_row 90 = .ok (.iload 4, 2) := by decide +kernel
theorem dX8_row_92 : decode cX8_row 92 = .ok (.iconst (-1), 1) := by decide +kernel
theorem dX8_row_93 : decode cX8_row 93 = .ok (.if_icmp .eq 10, 3) := by decide +kernel
theorem dX8_row_96 : decode cX8_row 96 = .ok (.iload_n 2, 1) := by decide +kernel
theorem dX8_row_97 : decode cX8_row 97 = .ok (.iconst 1, 1) := by decide +kernel
theorem dX8_row_98 : decode cX8_row 98 = .ok (.iload 4, 2) := by decide +kernel
theorem dX8_row_100 : decode cX8_row 100 = .ok (.ishl, 1) := by decide +kernel
theorem dX8_row_101 : decode cX8_row 101 = .ok (.ior, 1) := by decide +kernel
theorem dX8_row_102 : decode cX8_row 102 = .ok (.istore_n 2, 1) := by decide +kernel
theorem dX8_row_103 : decode cX8_row 103 = .ok (.aload_n 0, 1) := by decide +kernel
theorem dX8_row_104 : decode cX8_row 104 = .ok (.getfield 59, 3) := by decide +kernel
theorem dX8_row_107 : decode cX8_row 107 = .ok (.iload_n 3, 1) := by decide +kernel
theorem dX8_row_108 : decode cX8_row 108 = .ok (.iload 4, 2) := by decide +kernel
theorem dX8_row_110 : decode cX8_row 110 = .ok (.iastore, 1) := by decide +kernel
theorem dX8_row_111 : decode cX8_row 111 = .ok (.iinc 3 1, 3) := by decide +kernel
theorem dX8_row_114 : decode cX8_row 114 = .ok (.goto (-72), 3) := by decide +kernel
theorem dX8_row_117 : decode cX8_row 117 = .ok (.aload_n 0, 1) := by decide +kernel
theorem dX8_row_118 : decode cX8_row 118 = .ok (.invokevirtual 326, 3) := by decide +kernel
theorem dX8_row_121 : decode cX8_row 121 = .ok (.aload_n 0, 1) := by decide +kernel
theorem dX8_row_122 : decode cX8_row 122 = .ok (.invokevirtual 313, 3) := by decide +kernel
theorem dX8_row_125 : decode cX8_row 125 = .ok (.ifCond .eq 7, 3) := by decide +kernel
theorem dX8_row_128 : decode cX8_row 128 = .ok (.iconst 3, 1) := by decide +kernel
theorem dX8_row_129 : decode cX8_row 129 = .ok (.goto 15, 3) := by decide +kernel
theorem dX8_row_132 : decode cX8_row 132 = .ok (.aload_n 0, 1) := by decide +kernel
theorem dX8_row_133 : decode cX8_row 133 = .ok (.invokevirtual 307, 3) := by decide +kernel
theorem dX8_row_136 : decode cX8_row 136 = .ok (.ifCond .eq 7, 3) := by decide +kernel
theorem dX8_row_139 : decode cX8_row 139 = .ok (.iconst 2, 1) := by decide +kernel
theorem dX8_row_140 : decode cX8_row 140 = .ok (.goto 4, 3) := by decide +kernel
theorem dX8_row_143 : decode cX8_row 143 = .ok (.iconst 1, 1) := by decide +kernel
theorem dX8_row_144 : decode cX8_row 144 = .ok (.ireturn, 1) := by decide +kernel
theorem dX8_year_0 : decode cX8_year 0 = .ok (.iload_n 1, 1) := by decide +kernel
theorem dX8_year_1 : decode cX8_year 1 = .ok (.i2l, 1) := by decide +kernel
theorem dX8_year_2 : decode cX8_year 2 = .ok (.lconst 0, 1) := by decide +kernel
theorem dX8_year_3 : decode cX8_year 3 = .ok (.ldc2_w 335, 3) := by decide +kernel
theorem dX8_year_6 : decode cX8_year 6 = .ok (.invokestatic 109, 3) := by decide +kernel
theorem dX8_year_9 : decode cX8_year 9 = .ok (.ifCond .eq 15, 3) := by decide +kernel
theorem dX8_year_12 : decode cX8_year 12 = .ok (.iload_n 2, 1) := by decide +kernel
theorem dX8_year_13 : decode cX8_year 13 = .ok (.i2l, 1) := by decide +kernel
theorem dX8_year_14 : decode cX8_year 14 = .ok (.lconst 0, 1) := by decide +kernel
theorem dX8_year_15 : decode cX8_year 15 = .ok (.ldc2_w 134, 3) := by decide +kernel
theorem dX8_year_18 : decode cX8_year 18 = .ok (.invokestatic 109, 3) := by decide +kernel
theorem dX8_year_21 : decode cX8_year 21 = .ok (.ifCond .ne 6, 3) := by decide +kernel
theorem dX8_year_24 : decode cX8_year 24 = .ok (.bipush (-2), 2) := by decide +kernel
theorem dX8_year_26 : decode cX8_year 26 = .ok (.ireturn, 1) := by decide +kernel
theorem dX8_year_27 : decode cX8_year 27 = .ok (.aload_n 0, 1) := by decide +kernel
theorem dX8_year_28 : decode cX8_year 28 = .ok (.invokevirtual 337, 3) := by decide +kernel
theorem dX8_year_31 : decode cX8_year 31 = .ok (.iconst 0, 1) := by decide +kernel
theorem dX8_year_32 : decode cX8_year 32 = .ok (.istore_n 3, 1) := by decide +kernel
theorem dX8_year_33 : decode cX8_year 33 = .ok (.iconst 0, 1) := by decide +kernel
theorem dX8_year_34 : decode cX8_year 34 = .ok (.istore 4, 2) := by decide +kernel
theorem dX8_year_36 : decode cX8_year 36 = .ok (.iconst 0, 1) := by decide +kernel
theorem dX8_year_37 : decode cX8_year 37 = .ok (.istore 5, 2) := by decide +kernel
theorem dX8_year_39 : decode cX8_year 39 = .ok (.iload 5, 2) := by decide +kernel
theorem dX8_year_41 : decode cX8_year 41 = .ok (.iload_n 1, 1) := by decide +kernel
theorem dX8_year_42 : decode cX8_year 42 = .ok (.if_icmp .ge 175, 3) := by decide +kernel
theorem dX8_year_45 : decode cX8_year 45 = .ok (.iconst 0, 1) := by decide +kernel
theorem dX8_year_46 : decode cX8_year 46 = .ok (.istore 6, 2) := by decide +kernel
theorem dX8_year_48 : decode cX8_year 48 = .ok (.iload 6, 2) := by decide +kernel
theorem dX8_year_50 : decode cX8_year 50 = .ok (.aload_n 0, 1) := by decide +kernel
theorem dX8_year_51 : decode cX8_year 51 = .ok (.getfield 106, 3) := by decide +kernel
theorem dX8_year_54 : decode cX8_year 54 = .ok (.if_icmp .ge 157, 3) := by decide +kernel
theorem dX8_year_57 : decode cX8_year 57 = .ok (.iconst (-1), 1) := by decide +kernel
theorem dX8_year_58 : decode cX8_year 58 = .ok (.istore 7, 2) := by decide +kernel
theorem dX8_year_60 : decode cX8_year 60 = .ok (.iconst 0, 1) := by decide +kernel
theorem dX8_year_61 : decode cX8_year 61 = .ok (.istore 8, 2) := by decide +kernel
theorem dX8_year_63 : decode cX8_year 63 = .ok (.iload 8, 2) := by decide +kernel
theorem dX8_year_65 : decode cX8_year 65 = .ok (.aload_n 0, 1) := by decide +kernel
theorem dX8_year_66 : decode cX8_year 66 = .ok (.getfield 113, 3) := by decide +kernel
theorem dX8_year_69 : decode cX8_year 69 = .ok (.if_icmp .ge 80, 3) := by decide +kernel
theorem dX8_year_72 : decode cX8_year 72 = .ok (.aload_n 0, 1) := by decide +kernel
theorem dX8_year_73 : decode cX8_year 73 = .ok (.iload 6, 2) := by decide +kernel
theorem dX8_year_75 : decode cX8_year 75 = .ok (.iload 8, 2) := by decide +kernel
theorem dX8_year_77 : decode cX8_year 77 = .ok (.invokevirtual 281, 3) := by decide +kernel
theorem dX8_year_80 : decode cX8_year 80 = .ok (.ifCond .eq 18, 3) := by decide +kernel
theorem dX8_year_83 : decode cX8_year 83 = .ok (.aload_n 0, 1) := by decide +kernel
theorem dX8_year_84 : decode cX8_year 84 = .ok (.iload 6, 2) := by decide +kernel
theorem dX8_year_86 : decode cX8_year 86 = .ok (.iload 8, 2) := by decide +kernel
theorem dX8_year_88 : decode cX8_year 88 = .ok (.invokevirtual 287, 3) := by decide +kernel
theorem dX8_year_91 : decode cX8_year 91 = .ok (.ifCond .eq 7, 3) := by decide +kernel
theorem dX8_year_94 : decode cX8_year 94 = .ok (.iconst 1, 1) := by decide +kernel
theorem dX8_year_95 : decode cX8_year 95 = .ok (.goto 4, 3) := by decide +kernel
theorem dX8_year_98 : decode cX8_year 98 = .ok (.iconst 0, 1) := by decide +kernel
theorem dX8_year_99 : decode cX8_year 99 = .ok (.istore 9, 2) := by decide +kernel
theorem dX8_year_101 : decode cX8_year 101 = .ok (.iload 9, 2) := by decide +kernel
theorem dX8_year_103 : decode cX8_year 103 = .ok (.ifCond .eq 40, 3) := by decide +kernel
theorem dX8_year_106 : decode cX8_year 106 = .ok (.iload 7, 2) := by decide +kernel
theorem dX8_year_108 : decode cX8_year 108 = .ok (.iconst (-1), 1) := by decide +kernel
theorem dX8_year_109 : decode cX8_year 109 = .ok (.if_icmp .eq 30, 3) := by decide +kernel
theorem dX8_year_112 : decode cX8_year 112 = .ok (.aload_n 0, 1) := by decide +kernel
theorem dX8_year_113 : decode cX8_year 113 = .ok (.getfield 23, 3) := by decide +kernel
theorem dX8_year_116 : decode cX8_year 116 = .ok (.iconst 4, 1) := by decide +kernel
theorem dX8_year_117 : decode cX8_year 117 = .ok (.iload 6, 2) := by decide +kernel
theorem dX8_year_119 : decode cX8_year 119 = .ok (.imul, 1) := by decide +kernel
theorem dX8_year_120 : decode cX8_year 120 = .ok (.iload 8, 2) := by decide +kernel
theorem dX8_year_122 : decode cX8_year 122 = .ok (.iadd, 1) := by decide +kernel
theorem dX8_year_123 : decode cX8_year 123 = .ok (.iaload, 1) := by decide +kernel
theorem dX8_year_124 : decode cX8_year 124 = .ok (.aload_n 0, 1) := by decide +kernel
theorem dX8_year_125 : decode cX8_year 125 = .ok (.getfield 23, 3) := by decide +kernel
theorem dX8_year_128 : decode cX8_year 128 = .ok (.iconst 4, 1) := by decide +kernel
theorem dX8_year_129 : decode cX8_year 129 = .ok (.iload 6, 2) := by decide +kernel
theorem dX8_year_131 : decode cX8_year 131 = .ok (.imul, 1) := by decide +kernel
theorem dX8_year_132 : decode cX8_year 132 = .ok (.iload 7, 2) := by decide +kernel
theorem dX8_year_134 : decode cX8_year 134 = .ok (.iadd, 1) := by decide +kernel
theorem dX8_year_135 : decode cX8_year 135 = .ok (.iaload, 1) := by decide +kernel
theorem dX8_year_136 : decode cX8_year 136 = .ok (.if_icmp .le 7, 3) := by decide +kernel
theorem dX8_year_139 : decode cX8_year 139 = .ok (.iload 8, 2) := by decide +kernel
theorem dX8_year_141 : decode cX8_year 141 = .ok (.istore 7, 2) := by decide +kernel
theorem dX8_year_143 : decode cX8_year 143 = .ok (.iinc 8 1, 3) := by decide +kernel
theorem dX8_year_146 : decode cX8_year 146 = .ok (.goto (-83), 3) := by decide +kernel
theorem dX8_year_149 : decode cX8_year 149 = .ok (.iload 7, 2) := by decide +kernel
theorem dX8_year_151 : decode cX8_year 151 = .ok (.iconst (-1), 1) := by decide +kernel
theorem dX8_year_152 : decode cX8_year 152 = .ok (.if_icmp .eq 53, 3) := by decide +kernel
theorem dX8_year_155 : decode cX8_year 155 = .ok (.aload_n 0, 1) := by decide +kernel
theorem dX8_year_156 : decode cX8_year 156 = .ok (.iload 6, 2) := by decide +kernel
theorem dX8_year_158 : decode cX8_year 158 = .ok (.iload 7, 2) := by decide +kernel
theorem dX8_year_160 : decode cX8_year 160 = .ok (.aload_n 0, 1) := by decide +kernel
theorem dX8_year_161 : decode cX8_year 161 = .ok (.getfield 29, 3) := by decide +kernel
theorem dX8_year_164 : decode cX8_year 164 = .ok (.iload 6, 2) := by decide +kernel
theorem dX8_year_166 : decode cX8_year 166 = .ok (.iaload, 1) := by decide +kernel
theorem dX8_year_167 : decode cX8_year 167 = .ok (.invokevirtual 284, 3) := by decide +kernel
theorem dX8_year_170 : decode cX8_year 170 = .ok (.istore 8, 2) := by decide +kernel
theorem dX8_year_172 : decode cX8_year 172 = .ok (.iinc 3 1, 3) := by decide +kernel
theorem dX8_year_175 : decode cX8_year 175 = .ok (.iload 4, 2) := by decide +kernel
theorem dX8_year_177 : decode cX8_year 177 = .ok (.iload 8, 2) := by decide +kernel
theorem dX8_year_179 : decode cX8_year 179 = .ok (.ifCond .eq 12, 3) := by decide +kernel
theorem dX8_year_182 : decode cX8_year 182 = .ok (.aload_n 0, 1) := by decide +kernel
theorem dX8_year_183 : decode cX8_year 183 = .ok (.iload 7, 2) := by decide +kernel
theorem dX8_year_185 : decode cX8_year 185 = .ok (.invokevirtual 140, 3) := by decide +kernel
theorem dX8_year_188 : decode cX8_year 188 = .ok (.goto 4, 3) := by decide +kernel
theorem dX8_year_191 : decode cX8_year 191 = .ok (.iconst 0, 1) := by decide +kernel
theorem dX8_year_192 : decode cX8_year 192 = .ok (.iadd, 1) := by decide +kernel
theorem dX8_year_193 : decode cX8_year 193 = .ok (.istore 4, 2) := by decide +kernel
theorem dX8_year_195 : decode cX8_year 195 = .ok (.aload_n 0, 1) := by decide +kernel
theorem dX8_year_196 : decode cX8_year 196 = .ok (.iload 6, 2) := by decide +kernel
theorem dX8_year_198 : decode cX8_year 198 = .ok (.iload 7, 2) := by decide +kernel
theorem dX8_year_200 : decode cX8_year 200 = .ok (.iload 8, 2) := by decide +kernel
theorem dX8_year_202 : decode cX8_year 202 = .ok (.invokevirtual 290, 3) := by decide +kernel
theorem dX8_year_205 : decode cX8_year 205 = .ok (.iinc 6 1, 3) := by decide +kernel
theorem dX8_year_208 : decode cX8_year 208 = .ok (.goto (-160), 3) := by decide +kernel
theorem dX8_year_211 : decode cX8_year 211 = .ok (.iinc 5 1, 3) := by decide +kernel
theorem dX8_year_214 : decode cX8_year 214 = .ok (.goto (-175), 3) := by decide +kernel
theorem dX8_year_217 : decode cX8_year 217 = .ok (.iconst 0, 1) := by decide +kernel
theorem dX8_year_218 : decode cX8_year 218 = .ok (.istore 5, 2) := by decide +kernel
theorem dX8_year_220 : decode cX8_year 220 = .ok (.iconst 0, 1) := by decide +kernel
theorem dX8_year_221 : decode cX8_year 221 = .ok (.istore 6, 2) := by decide +kernel
theorem dX8_year_223 : decode cX8_year 223 = .ok (.iload 6, 2) := by decide +kernel
theorem dX8_year_225 : decode cX8_year 225 = .ok (.aload_n 0, 1) := by decide +kernel
theorem dX8_year_226 : decode cX8_year 226 = .ok (.getfield 106, 3) := by decide +kernel
theorem dX8_year_229 : decode cX8_year 229 = .ok (.if_icmp .ge 30, 3) := by decide +kernel
theorem dX8_year_232 : decode cX8_year 232 = .ok (.iload 5, 2) := by decide +kernel
theorem dX8_year_234 : decode cX8_year 234 = .ok (.aload_n 0, 1) := by decide +kernel
theorem dX8_year_235 : decode cX8_year 235 = .ok (.getfield 32, 3) := by decide +kernel
theorem dX8_year_238 : decode cX8_year 238 = .ok (.iload 6, 2) := by decide +kernel
theorem dX8_year_240 : decode cX8_year 240 = .ok (.iaload, 1) := by decide +kernel
theorem dX8_year_241 : decode cX8_year 241 = .ok (.iconst (-1), 1) := by decide +kernel
theorem dX8_year_242 : decode cX8_year 242 = .ok (.if_icmp .ne 7, 3) := by decide +kernel
theorem dX8_year_245 : decode cX8_year 245 = .ok (.iconst 0, 1) := by decide +kernel
theorem dX8_year_246 : decode cX8_year 246 = .ok (.goto 4, 3) := by decide +kernel
theorem dX8_year_249 : decode cX8_year 249 = .ok (.iconst 1, 1) := by decide +kernel
theorem dX8_year_250 : decode cX8_year 250 = .ok (.iadd, 1) := by decide +kernel
theorem dX8_year_251 : decode cX8_year 251 = .ok (.istore 5, 2) := by decide +kernel
theorem dX8_year_253 : decode cX8_year 253 = .ok (.iinc 6 1, 3) := by decide +kernel
theorem dX8_year_256 : decode cX8_year 256 = .ok (.goto (-33), 3) := by decide +kernel
theorem dX8_year_259 : decode cX8_year 259 = .ok (.iload_n 2, 1) := by decide +kernel
theorem dX8_year_260 : decode cX8_year 260 = .ok (.ifCond .ne 8, 3) := by decide +kernel
theorem dX8_year_263 : decode cX8_year 263 = .ok (.iload 5, 2) := by decide +kernel
theorem dX8_year_265 : decode cX8_year 265 = .ok (.goto 44, 3) := by decide +kernel
theorem dX8_year_268 : decode cX8_year 268 = .ok (.iload_n 2, 1) := by decide +kernel
theorem dX8_year_269 : decode cX8_year 269 = .ok (.iconst 1, 1) := by decide +kernel
theorem dX8_year_270 : decode cX8_year 270 = .ok (.if_icmp .ne 7, 3) := by decide +kernel
theorem dX8_year_273 : decode cX8_year 273 = .ok (.iload_n 3, 1) := by decide +kernel
theorem dX8_year_274 : decode cX8_year 274 = .ok (.goto 35, 3) := by decide +kernel
theorem dX8_year_277 : decode cX8_year 277 = .ok (.iload_n 2, 1) := by decide +kernel
theorem dX8_year_278 : decode cX8_year 278 = .ok (.iconst 2, 1) := by decide +kernel
theorem dX8_year_279 : decode cX8_year 279 = .ok (.if_icmp .ne 8, 3) := by decide +kernel
theorem dX8_year_282 : decode cX8_year 282 = .ok (.iload 4, 2) := by decide +kernel
theorem dX8_year_284 : decode cX8_year 284 = .ok (.goto 25, 3) := by decide +kernel
theorem dX8_year_287 : decode cX8_year 287 = .ok (.aload_n 0, 1) := by decide +kernel
theorem dX8_year_288 : decode cX8_year 288 = .ok (.iload_n 2, 1) := by decide +kernel
theorem dX8_year_289 : decode cX8_year 289 = .ok (.iconst 3, 1) := by decide +kernel
theorem dX8_year_290 : decode cX8_year 290 = .ok (.isub, 1) := by decide +kernel
theorem dX8_year_291 : decode cX8_year 291 = .ok (.invokevirtual 120, 3) := by decide +kernel
theorem dX8_year_294 : decode cX8_year 294 = .ok (.ifCond .eq 14, 3) := by decide +kernel
theorem dX8_year_297 : decode cX8_year 297 = .ok (.aload_n 0, 1) := by decide +kernel
theorem dX8_year_298 : decode cX8_year 298 = .ok (.getfield 32, 3) := by decide +kernel
theorem dX8_year_301 : decode cX8_year 301 = .ok (.iload_n 2, 1) := by decide +kernel
theorem dX8_year_302 : decode cX8_year 302 = .ok (.iconst 3, 1) := by decide +kernel
theorem dX8_year_303 : decode cX8_year 303 = .ok (.isub, 1) := by decide +kernel
theorem dX8_year_304 : decode cX8_year 304 = .ok (.iaload, 1) := by decide +kernel
theorem dX8_year_305 : decode cX8_year 305 = .ok (.goto 4, 3) := by decide +kernel
theorem dX8_year_308 : decode cX8_year 308 = .ok (.iconst (-1), 1) := by decide +kernel
theorem dX8_year_309 : decode cX8_year 309 = .ok (.istore 6, 2) := by decide +kernel
theorem dX8_year_311 : decode cX8_year 311 = .ok (.aload_n 0, 1) := by decide +kernel
theorem dX8_year_312 : decode cX8_year 312 = .ok (.invokevirtual 340, 3) := by decide +kernel
theorem dX8_year_315 : decode cX8_year 315 = .ok (.iload 6, 2) := by decide +kernel
theorem dX8_year_317 : decode cX8_year 317 = .ok (.ireturn, 1) := by decide +kernel
theorem dX8_judge_0 : decode cX8_judge 0 = .ok (.iload_n 1, 1) := by decide +kernel
theorem dX8_judge_1 : decode cX8_judge 1 = .ok (.invokestatic 332, 3) := by decide +kernel
theorem dX8_judge_4 : decode cX8_judge 4 = .ok (.ifCond .eq 13, 3) := by decide +kernel
theorem dX8_judge_7 : decode cX8_judge 7 = .ok (.iload_n 2, 1) := by decide +kernel
theorem dX8_judge_8 : decode cX8_judge 8 = .ok (.i2l, 1) := by decide +kernel
theorem dX8_judge_9 : decode cX8_judge 9 = .ok (.lconst 0, 1) := by decide +kernel
theorem dX8_judge_10 : decode cX8_judge 10 = .ok (.lconst 1, 1) := by decide +kernel
theorem dX8_judge_11 : decode cX8_judge 11 = .ok (.invokestatic 109, 3) := by decide +kernel
theorem dX8_judge_14 : decode cX8_judge 14 = .ok (.ifCond .ne 6, 3) := by decide +kernel
theorem dX8_judge_17 : decode cX8_judge 17 = .ok (.bipush (-2), 2) := by decide +kernel
theorem dX8_judge_19 : decode cX8_judge 19 = .ok (.ireturn, 1) := by decide +kernel
theorem dX8_judge_20 : decode cX8_judge 20 = .ok (.aload_n 0, 1) := by decide +kernel
theorem dX8_judge_21 : decode cX8_judge 21 = .ok (.getfield 87, 3) := by decide +kernel
theorem dX8_judge_24 : decode cX8_judge 24 = .ok (.iload_n 1, 1) := by decide +kernel
theorem dX8_judge_25 : decode cX8_judge 25 = .ok (.baload, 1) := by decide +kernel
theorem dX8_judge_26 : decode cX8_judge 26 = .ok (.ifCond .ne 6, 3) := by decide +kernel
theorem dX8_judge_29 : decode cX8_judge 29 = .ok (.bipush (-11), 2) := by decide +kernel
theorem dX8_judge_31 : decode cX8_judge 31 = .ok (.ireturn, 1) := by decide +kernel
theorem dX8_judge_32 : decode cX8_judge 32 = .ok (.aload_n 0, 1) := by decide +kernel
theorem dX8_judge_33 : decode cX8_judge 33 = .ok (.getfield 93, 3) := by decide +kernel
theorem dX8_judge_36 : decode cX8_judge 36 = .ok (.iload_n 1, 1) := by decide +kernel
theorem dX8_judge_37 : decode cX8_judge 37 = .ok (.iaload, 1) := by decide +kernel
theorem dX8_judge_38 : decode cX8_judge 38 = .ok (.iconst 3, 1) := by decide +kernel
theorem dX8_judge_39 : decode cX8_judge 39 = .ok (.irem, 1) := by decide +kernel
theorem dX8_judge_40 : decode cX8_judge 40 = .ok (.ifCond .eq 6, 3) := by decide +kernel
theorem dX8_judge_43 : decode cX8_judge 43 = .ok (.bipush (-2), 2) := by decide +kernel
theorem dX8_judge_45 : decode cX8_judge 45 = .ok (.ireturn, 1) := by decide +kernel
theorem dX8_judge_46 : decode cX8_judge 46 = .ok (.aload_n 0, 1) := by decide +kernel
theorem dX8_judge_47 : decode cX8_judge 47 = .ok (.invokevirtual 337, 3) := by decide +kernel
theorem dX8_judge_50 : decode cX8_judge 50 = .ok (.iconst (-1), 1) := by decide +kernel
theorem dX8_judge_51 : decode cX8_judge 51 = .ok (.istore_n 3, 1) := by decide +kernel
theorem dX8_judge_52 : decode cX8_judge 52 = .ok (.iconst 0, 1) := by decide +kernel
theorem dX8_judge_53 : decode cX8_judge 53 = .ok (.istore 4, 2) := by decide +kernel
theorem dX8_judge_55 : decode cX8_judge 55 = .ok (.iconst 0, 1) := by decide +kernel
theorem dX8_judge_56 : decode cX8_judge 56 = .ok (.istore 5, 2) := by decide +kernel
theorem dX8_judge_58 : decode cX8_judge 58 = .ok (.iload 5, 2) := by decide +kernel
theorem dX8_judge_60 : decode cX8_judge 60 = .ok (.aload_n 0, 1) := by decide +kernel
theorem dX8_judge_61 : decode cX8_judge 61 = .ok (.getfield 93, 3) := by decide +kernel
theorem dX8_judge_64 : decode cX8_judge 64 = .ok (.iload_n 1, 1) := by decide +kernel
theorem dX8_judge_65 : decode cX8_judge 65 = .ok (.iaload, 1) := by decide +kernel
theorem dX8_judge_66 : decode cX8_judge 66 = .ok (.iconst 3, 1) := by decide +kernel
theorem dX8_judge_67 : decode cX8_judge 67 = .ok (.idiv, 1) := by decide +kernel
theorem dX8_judge_68 : decode cX8_judge 68 = .ok (.if_icmp .ge 169, 3) := by decide +kernel
theorem dX8_judge_71 : decode cX8_judge 71 = .ok (.iload_n 3, 1) := by decide +kernel
theorem dX8_judge_72 : decode cX8_judge 72 = .ok (.iconst (-1), 1) := by decide +kernel
theorem dX8_judge_73 : decode cX8_judge 73 = .ok (.if_icmp .ne 164, 3) := by decide +kernel
theorem dX8_judge_76 : decode cX8_judge 76 = .ok (.aload_n 0, 1) := by decide +kernel
theorem dX8_judge_77 : decode cX8_judge 77 = .ok (.getfield 96, 3) := by decide +kernel
theorem dX8_judge_80 : decode cX8_judge 80 = .ok (.bipush 40, 2) := by decide +kernel
theorem dX8_judge_82 : decode cX8_judge 82 = .ok (.iload_n 1, 1) := by decide +kernel
theorem dX8_judge_83 : decode cX8_judge 83 = .ok (.imul, 1) := by decide +kernel
theorem dX8_judge_84 : decode cX8_judge 84 = .ok (.iconst 3, 1) := by decide +kernel
theorem dX8_judge_85 : decode cX8_judge 85 = .ok (.iload 5, 2) := by decide +kernel
theorem dX8_judge_87 : decode cX8_judge 87 = .ok (.imul, 1) := by decide +kernel
theorem dX8_judge_88 : decode cX8_judge 88 = .ok (.iadd, 1) := by decide +kernel
theorem dX8_judge_89 : decode cX8_judge 89 = .ok (.iaload, 1) := by decide +kernel
theorem dX8_judge_90 : decode cX8_judge 90 = .ok (.istore 6, 2) := by decide +kernel
theorem dX8_judge_92 : decode cX8_judge 92 = .ok (.aload_n 0, 1) := by decide +kernel
theorem dX8_judge_93 : decode cX8_judge 93 = .ok (.getfield 96, 3) := by decide +kernel
theorem dX8_judge_96 : decode cX8_judge 96 = .ok (.bipush 40, 2) := by decide +kernel
theorem dX8_judge_98 : decode cX8_judge 98 = .ok (.iload_n 1, 1) := by decide +kernel
theorem dX8_judge_99 : decode cX8_judge 99 = .ok (.imul, 1) := by decide +kernel
theorem dX8_judge_100 : decode cX8_judge 100 = .ok (.iconst 3, 1) := by decide +kernel
theorem dX8_judge_101 : decode cX8_judge 101 = .ok (.iload 5, 2) := by decide +kernel
theorem dX8_judge_103 : decode cX8_judge 103 = .ok (.imul, 1) := by decide +kernel
theorem dX8_judge_104 : decode cX8_judge 104 = .ok (.iadd, 1) := by decide +kernel
theorem dX8_judge_105 : decode cX8_judge 105 = .ok (.iconst 1, 1) := by decide +kernel
theorem dX8_judge_106 : decode cX8_judge 106 = .ok (.iadd, 1) := by decide +kernel
theorem dX8_judge_107 : decode cX8_judge 107 = .ok (.iaload, 1) := by decide +kernel
theorem dX8_judge_108 : decode cX8_judge 108 = .ok (.istore 7, 2) := by decide +kernel
theorem dX8_judge_110 : decode cX8_judge 110 = .ok (.aload_n 0, 1) := by decide +kernel
theorem dX8_judge_111 : decode cX8_judge 111 = .ok (.getfield 96, 3) := by decide +kernel
theorem dX8_judge_114 : decode cX8_judge 114 = .ok (.bipush 40, 2) := by decide +kernel
theorem dX8_judge_116 : decode cX8_judge 116 = .ok (.iload_n 1, 1) := by decide +kernel
theorem dX8_judge_117 : decode cX8_judge 117 = .ok (.imul, 1) := by decide +kernel
theorem dX8_judge_118 : decode cX8_judge 118 = .ok (.iconst 3, 1) := by decide +kernel
theorem dX8_judge_119 : decode cX8_judge 119 = .ok (.iload 5, 2) := by decide +kernel
theorem dX8_judge_121 : decode cX8_judge 121 = .ok (.imul, 1) := by decide +kernel
theorem dX8_judge_122 : decode cX8_judge 122 = .ok (.iadd, 1) := by decide +kernel
theorem dX8_judge_123 : decode cX8_judge 123 = .ok (.iconst 2, 1) := by decide +kernel
theorem dX8_judge_124 : decode cX8_judge 124 = .ok (.iadd, 1) := by decide +kernel
theorem dX8_judge_125 : decode cX8_judge 125 = .ok (.iaload, 1) := by decide +kernel
theorem dX8_judge_126 : decode cX8_judge 126 = .ok (.istore 8, 2) := by decide +kernel
theorem dX8_judge_128 : decode cX8_judge 128 = .ok (.aload_n 0, 1) := by decide +kernel
theorem dX8_judge_129 : decode cX8_judge 129 = .ok (.iload 6, 2) := by decide +kernel
theorem dX8_judge_131 : decode cX8_judge 131 = .ok (.invokevirtual 120, 3) := by decide +kernel
theorem dX8_judge_134 : decode cX8_judge 134 = .ok (.ifCond .eq 94, 3) := by decide +kernel
theorem dX8_judge_137 : decode cX8_judge 137 = .ok (.aload_n 0, 1) := by decide +kernel
theorem dX8_judge_138 : decode cX8_judge 138 = .ok (.iload 7, 2) := by decide +kernel
theorem dX8_judge_140 : decode cX8_judge 140 = .ok (.invokevirtual 124, 3) := by decide +kernel
theorem dX8_judge_143 : decode cX8_judge 143 = .ok (.ifCond .eq 85, 3) := by decide +kernel
theorem dX8_judge_146 : decode cX8_judge 146 = .ok (.iload 8, 2) := by decide +kernel
theorem dX8_judge_148 : decode cX8_judge 148 = .ok (.i2l, 1) := by decide +kernel
theorem dX8_judge_149 : decode cX8_judge 149 = .ok (.lconst 0, 1) := by decide +kernel
theorem dX8_judge_150 : decode cX8_judge 150 = .ok (.lconst 1, 1) := by decide +kernel
theorem dX8_judge_151 : decode cX8_judge 151 = .ok (.invokestatic 109, 3) := by decide +kernel
theorem dX8_judge_154 : decode cX8_judge 154 = .ok (.ifCond .eq 74, 3) := by decide +kernel
theorem dX8_judge_157 : decode cX8_judge 157 = .ok (.aload_n 0, 1) := by decide +kernel
theorem dX8_judge_158 : decode cX8_judge 158 = .ok (.iload 6, 2) := by decide +kernel
theorem dX8_judge_160 : decode cX8_judge 160 = .ok (.iload 7, 2) := by decide +kernel
theorem dX8_judge_162 : decode cX8_judge 162 = .ok (.invokevirtual 281, 3) := by decide +kernel
theorem dX8_judge_165 : decode cX8_judge 165 = .ok (.ifCond .eq 63, 3) := by decide +kernel
theorem dX8_judge_168 : decode cX8_judge 168 = .ok (.iload 4, 2) := by decide +kernel
theorem dX8_judge_170 : decode cX8_judge 170 = .ok (.aload_n 0, 1) := by decide +kernel
theorem dX8_judge_171 : decode cX8_judge 171 = .ok (.iload 6, 2) := by decide +kernel
theorem dX8_judge_173 : decode cX8_judge 173 = .ok (.iload 7, 2) := by decide +kernel
theorem dX8_judge_175 : decode cX8_judge 175 = .ok (.aload_n 0, 1) := by decide +kernel
theorem dX8_judge_176 : decode cX8_judge 176 = .ok (.getfield 29, 3) := by decide +kernel
theorem dX8_judge_179 : decode cX8_judge 179 = .ok (.iload 6, 2) := by decide +kernel
theorem dX8_judge_181 : decode cX8_judge 181 = .ok (.iaload, 1) := by decide +kernel
theorem dX8_judge_182 : decode cX8_judge 182 = .ok (.invokevirtual 284, 3) := by decide +kernel
theorem dX8_judge_185 : decode cX8_judge 185 = .ok (.iload 8, 2) := by decide +kernel
theorem dX8_judge_187 : decode cX8_judge 187 = .ok (.iconst 1, 1) := by decide +kernel
theorem dX8_judge_188 : decode cX8_judge 188 = .ok (.if_icmp .ne 7, 3) := by decide +kernel
theorem dX8_judge_191 : decode cX8_judge 191 = .ok (.iconst 1, 1) := by decide +kernel
theorem dX8_judge_192 : decode cX8_judge 192 = .ok (.goto 4, 3) := by decide +kernel
theorem dX8_judge_195 : decode cX8_judge 195 = .ok (.iconst 0, 1) := by decide +kernel
theorem dX8_judge_196 : decode cX8_judge 196 = .ok (.if_icmp .ne 7, 3) := by decide +kernel
theorem dX8_judge_199 : decode cX8_judge 199 = .ok (.iconst 1, 1) := by decide +kernel
theorem dX8_judge_200 : decode cX8_judge 200 = .ok (.goto 4, 3) := by decide +kernel
theorem dX8_judge_203 : decode cX8_judge 203 = .ok (.iconst 0, 1) := by decide +kernel
theorem dX8_judge_204 : decode cX8_judge 204 = .ok (.iadd, 1) := by decide +kernel
theorem dX8_judge_205 : decode cX8_judge 205 = .ok (.istore 4, 2) := by decide +kernel
theorem dX8_judge_207 : decode cX8_judge 207 = .ok (.aload_n 0, 1) := by decide +kernel
theorem dX8_judge_208 : decode cX8_judge 208 = .ok (.iload 6, 2) := by decide +kernel
theorem dX8_judge_210 : decode cX8_judge 210 = .ok (.iload 7, 2) := by decide +kernel
theorem dX8_judge_212 : decode cX8_judge 212 = .ok (.iload 8, 2) := by decide +kernel
theorem dX8_judge_214 : decode cX8_judge 214 = .ok (.ifCond .ne 7, 3) := by decide +kernel
theorem dX8_judge_217 : decode cX8_judge 217 = .ok (.iconst 1, 1) := by decide +kernel
theorem dX8_judge_218 : decode cX8_judge 218 = .ok (.goto 4, 3) := by decide +kernel
theorem dX8_judge_221 : decode cX8_judge 221 = .ok (.iconst 0, 1) := by decide +kernel
theorem dX8_judge_222 : decode cX8_judge 222 = .ok (.invokevirtual 290, 3) := by decide +kernel
theorem dX8_judge_225 : decode cX8_judge 225 = .ok (.goto 6, 3) := by decide +kernel
theorem dX8_judge_228 : decode cX8_judge 228 = .ok (.iload 5, 2) := by decide +kernel
theorem dX8_judge_230 : decode cX8_judge 230 = .ok (.istore_n 3, 1) := by decide +kernel
theorem dX8_judge_231 : decode cX8_judge 231 = .ok (.iinc 5 1, 3) := by decide +kernel
theorem dX8_judge_234 : decode cX8_judge 234 = .ok (.goto (-176), 3) := by decide +kernel
theorem dX8_judge_237 : decode cX8_judge 237 = .ok (.aload_n 0, 1) := by decide +kernel
theorem dX8_judge_238 : decode cX8_judge 238 = .ok (.invokevirtual 340, 3) := by decide +kernel
theorem dX8_judge_241 : decode cX8_judge 241 = .ok (.iload_n 2, 1) := by decide +kernel
theorem dX8_judge_242 : decode cX8_judge 242 = .ok (.ifCond .ne 7, 3) := by decide +kernel
theorem dX8_judge_245 : decode cX8_judge 245 = .ok (.iload_n 3, 1) := by decide +kernel
theorem dX8_judge_246 : decode cX8_judge 246 = .ok (.goto 5, 3) := by decide +kernel
theorem dX8_judge_249 : decode cX8_judge 249 = .ok (.iload 4, 2) := by decide +kernel
theorem dX8_judge_251 : decode cX8_judge 251 = .ok (.ireturn, 1) := by decide +kernel
theorem dX8_drawn_0 : decode cX8_drawn 0 = .ok (.iconst 0, 1) := by decide +kernel
theorem dX8_drawn_1 : decode cX8_drawn 1 = .ok (.istore_n 2, 1) := by decide +kernel
theorem dX8_drawn_2 : decode cX8_drawn 2 = .ok (.iload_n 2, 1) := by decide +kernel
theorem dX8_drawn_3 : decode cX8_drawn 3 = .ok (.bipush 16, 2) := by decide +kernel
theorem dX8_drawn_5 : decode cX8_drawn 5 = .ok (.if_icmp .ge 21, 3) := by decide +kernel
theorem dX8_drawn_8 : decode cX8_drawn 8 = .ok (.aload_n 0, 1) := by decide +kernel
theorem dX8_drawn_9 : decode cX8_drawn 9 = .ok (.getfield 72, 3) := by decide +kernel
theorem dX8_drawn_12 : decode cX8_drawn 12 = .ok (.iload_n 2, 1) := by decide +kernel
theorem dX8_drawn_13 : decode cX8_drawn 13 = .ok (.aload_n 0, 1) := by decide +kernel
theorem dX8_drawn_14 : decode cX8_drawn 14 = .ok (.getfield 26, 3) := by decide +kernel
theorem dX8_drawn_17 : decode cX8_drawn 17 = .ok (.iload_n 2, 1) := by decide +kernel
theorem dX8_drawn_18 : decode cX8_drawn 18 = .ok (.iaload, 1) := by decide +kernel
theorem dX8_drawn_19 : decode cX8_drawn 19 = .ok (.iastore, 1) := by decide +kernel
theorem dX8_drawn_20 : decode cX8_drawn 20 = .ok (.iinc 2 1, 3) := by decide +kernel
theorem dX8_drawn_23 : decode cX8_drawn 23 = .ok (.goto (-21), 3) := by decide +kernel
theorem dX8_drawn_26 : decode cX8_drawn 26 = .ok (.iload_n 1, 1) := by decide +kernel
theorem dX8_drawn_27 : decode cX8_drawn 27 = .ok (.istore_n 2, 1) := by decide +kernel
theorem dX8_drawn_28 : decode cX8_drawn 28 = .ok (.iconst 0, 1) := by decide +kernel
theorem dX8_drawn_29 : decode cX8_drawn 29 = .ok (.istore_n 3, 1) := by decide +kernel
theorem dX8_drawn_30 : decode cX8_drawn 30 = .ok (.iload_n 3, 1) := by decide +kernel
theorem dX8_drawn_31 : decode cX8_drawn 31 = .ok (.aload_n 0, 1) := by decide +kernel
theorem dX8_drawn_32 : decode cX8_drawn 32 = .ok (.getfield 106, 3) := by decide +kernel
theorem dX8_drawn_35 : decode cX8_drawn 35 = .ok (.if_icmp .ge 55, 3) := by decide +kernel
theorem dX8_drawn_38 : decode cX8_drawn 38 = .ok (.iconst 0, 1) := by decide +kernel
theorem dX8_drawn_39 : decode cX8_drawn 39 = .ok (.istore 4, 2) := by decide +kernel
theorem dX8_drawn_41 : decode cX8_drawn 41 = .ok (.iload 4, 2) := by decide +kernel
theorem dX8_drawn_43 : decode cX8_drawn 43 = .ok (.aload_n 0, 1) := by decide +kernel
theorem dX8_drawn_44 : decode cX8_drawn 44 = .ok (.getfield 113, 3) := by decide +kernel
theorem dX8_drawn_47 : decode cX8_drawn 47 = .ok (.if_icmp .ge 37, 3) := by decide +kernel
theorem dX8_drawn_50 : decode cX8_drawn 50 = .ok (.iload_n 2, 1) := by decide +kernel
theorem dX8_drawn_51 : decode cX8_drawn 51 = .ok (.ldc_w 343, 3) := by decide +kernel
theorem dX8_drawn_54 : decode cX8_drawn 54 = .ok (.imul, 1) := by decide +kernel
theorem dX8_drawn_55 : decode cX8_drawn 55 = .ok (.sipush 12345, 3) := by decide +kernel
theorem dX8_drawn_58 : decode cX8_drawn 58 = .ok (.iadd, 1) := by decide +kernel
theorem dX8_drawn_59 : decode cX8_drawn 59 = .ok (.istore_n 2, 1) := by decide +kernel
theorem dX8_drawn_60 : decode cX8_drawn 60 = .ok (.aload_n 0, 1) := by decide +kernel
theorem dX8_drawn_61 : decode cX8_drawn 61 = .ok (.getfield 26, 3) := by decide +kernel
theorem dX8_drawn_64 : decode cX8_drawn 64 = .ok (.iconst 4, 1) := by decide +kernel
theorem dX8_drawn_65 : decode cX8_drawn 65 = .ok (.iload_n 3, 1) := by decide +kernel
theorem dX8_drawn_66 : decode cX8_drawn 66 = .ok (.imul, 1) := by decide +kernel
theorem dX8_drawn_67 : decode cX8_drawn 67 = .ok (.iload 4, 2) := by decide +kernel
theorem dX8_drawn_69 : decode cX8_drawn 69 = .ok (.iadd, 1) := by decide +kernel
theorem dX8_drawn_70 : decode cX8_drawn 70 = .ok (.iload_n 2, 1) := by decide +kernel
theorem dX8_drawn_71 : decode cX8_drawn 71 = .ok (.bipush 9, 2) := by decide +kernel
theorem dX8_drawn_73 : decode cX8_drawn 73 = .ok (.iushr, 1) := by decide +kernel
theorem dX8_drawn_74 : decode cX8_drawn 74 = .ok (.bipush 100, 2) := by decide +kernel
theorem dX8_drawn_76 : decode cX8_drawn 76 = .ok (.irem, 1) := by decide +kernel
theorem dX8_drawn_77 : decode cX8_drawn 77 = .ok (.iastore, 1) := by decide +kernel
theorem dX8_drawn_78 : decode cX8_drawn 78 = .ok (.iinc 4 1, 3) := by decide +kernel
theorem dX8_drawn_81 : decode cX8_drawn 81 = .ok (.goto (-40), 3) := by decide +kernel
theorem dX8_drawn_84 : decode cX8_drawn 84 = .ok (.iinc 3 1, 3) := by decide +kernel
theorem dX8_drawn_87 : decode cX8_drawn 87 = .ok (.goto (-57), 3) := by decide +kernel
theorem dX8_drawn_90 : decode cX8_drawn 90 = .ok (.aload_n 0, 1) := by decide +kernel
theorem dX8_drawn_91 : decode cX8_drawn 91 = .ok (.iconst 1, 1) := by decide +kernel
theorem dX8_drawn_92 : decode cX8_drawn 92 = .ok (.invokevirtual 329, 3) := by decide +kernel
theorem dX8_drawn_95 : decode cX8_drawn 95 = .ok (.istore_n 3, 1) := by decide +kernel
theorem dX8_drawn_96 : decode cX8_drawn 96 = .ok (.iconst 0, 1) := by decide +kernel
theorem dX8_drawn_97 : decode cX8_drawn 97 = .ok (.istore 4, 2) := by decide +kernel
theorem dX8_drawn_99 : decode cX8_drawn 99 = .ok (.iload 4, 2) := by decide +kernel
theorem dX8_drawn_101 : decode cX8_drawn 101 = .ok (.bipush 16, 2) := by decide +kernel
theorem dX8_drawn_103 : decode cX8_drawn 103 = .ok (.if_icmp .ge 23, 3) := by decide +kernel
theorem dX8_drawn_106 : decode cX8_drawn 106 = .ok (.aload_n 0, 1) := by decide +kernel
theorem dX8_drawn_107 : decode cX8_drawn 107 = .ok (.getfield 26, 3) := by decide +kernel
theorem dX8_drawn_110 : decode cX8_drawn 110 = .ok (.iload 4, 2) := by decide +kernel
theorem dX8_drawn_112 : decode cX8_drawn 112 = .ok (.aload_n 0, 1) := by decide +kernel
theorem dX8_drawn_113 : decode cX8_drawn 113 = .ok (.getfield 72, 3) := by decide +kernel
theorem dX8_drawn_116 : decode cX8_drawn 116 = .ok (.iload 4, 2) := by decide +kernel
theorem dX8_drawn_118 : decode cX8_drawn 118 = .ok (.iaload, 1) := by decide +kernel
theorem dX8_drawn_119 : decode cX8_drawn 119 = .ok (.iastore, 1) := by decide +kernel
theorem dX8_drawn_120 : decode cX8_drawn 120 = .ok (.iinc 4 1, 3) := by decide +kernel
theorem dX8_drawn_123 : decode cX8_drawn 123 = .ok (.goto (-24), 3) := by decide +kernel
theorem dX8_drawn_126 : decode cX8_drawn 126 = .ok (.iload_n 3, 1) := by decide +kernel
theorem dX8_drawn_127 : decode cX8_drawn 127 = .ok (.ireturn, 1) := by decide +kernel
theorem dX8_chance_0 : decode cX8_chance 0 = .ok (.iload_n 2, 1) := by decide +kernel
theorem dX8_chance_1 : decode cX8_chance 1 = .ok (.i2l, 1) := by decide +kernel
theorem dX8_chance_2 : decode cX8_chance 2 = .ok (.lconst 1, 1) := by decide +kernel
theorem dX8_chance_3 : decode cX8_chance 3 = .ok (.ldc2_w 344, 3) := by decide +kernel
theorem dX8_chance_6 : decode cX8_chance 6 = .ok (.invokestatic 109, 3) := by decide +kernel
theorem dX8_chance_9 : decode cX8_chance 9 = .ok (.ifCond .eq 13, 3) := by decide +kernel
theorem dX8_chance_12 : decode cX8_chance 12 = .ok (.iload_n 3, 1) := by decide +kernel
theorem dX8_chance_13 : decode cX8_chance 13 = .ok (.i2l, 1) := by decide +kernel
theorem dX8_chance_14 : decode cX8_chance 14 = .ok (.lconst 0, 1) := by decide +kernel
theorem dX8_chance_15 : decode cX8_chance 15 = .ok (.lconst 1, 1) := by decide +kernel
theorem dX8_chance_16 : decode cX8_chance 16 = .ok (.invokestatic 109, 3) := by decide +kernel
theorem dX8_chance_19 : decode cX8_chance 19 = .ok (.ifCond .ne 7, 3) := by decide +kernel
theorem dX8_chance_22 : decode cX8_chance 22 = .ok (.ldc2_w 346, 3) := by decide +kernel
theorem dX8_chance_25 : decode cX8_chance 25 = .ok (.lreturn, 1) := by decide +kernel
theorem dX8_chance_26 : decode cX8_chance 26 = .ok (.lconst 0, 1) := by decide +kernel
theorem dX8_chance_27 : decode cX8_chance 27 = .ok (.lstore 4, 2) := by decide +kernel
theorem dX8_chance_29 : decode cX8_chance 29 = .ok (.iconst 0, 1) := by decide +kernel
theorem dX8_chance_30 : decode cX8_chance 30 = .ok (.istore 6, 2) := by decide +kernel
theorem dX8_chance_32 : decode cX8_chance 32 = .ok (.iload 6, 2) := by decide +kernel
theorem dX8_chance_34 : decode cX8_chance 34 = .ok (.iload_n 2, 1) := by decide +kernel
theorem dX8_chance_35 : decode cX8_chance 35 = .ok (.if_icmp .ge 30, 3) := by decide +kernel
theorem dX8_chance_38 : decode cX8_chance 38 = .ok (.lload 4, 2) := by decide +kernel
theorem dX8_chance_40 : decode cX8_chance 40 = .ok (.aload_n 0, 1) := by decide +kernel
theorem dX8_chance_41 : decode cX8_chance 41 = .ok (.iload_n 1, 1) := by decide +kernel
theorem dX8_chance_42 : decode cX8_chance 42 = .ok (.iload 6, 2) := by decide +kernel
theorem dX8_chance_44 : decode cX8_chance 44 = .ok (.iadd, 1) := by decide +kernel
theorem dX8_chance_45 : decode cX8_chance 45 = .ok (.invokevirtual 348, 3) := by decide +kernel
theorem dX8_chance_48 : decode cX8_chance 48 = .ok (.ifCond .le 7, 3) := by decide +kernel
theorem dX8_chance_51 : decode cX8_chance 51 = .ok (.lconst 1, 1) := by decide +kernel
theorem dX8_chance_52 : decode cX8_chance 52 = .ok (.goto 4, 3) := by decide +kernel
theorem dX8_chance_55 : decode cX8_chance 55 = .ok (.lconst 0, 1) := by decide +kernel
theorem dX8_chance_56 : decode cX8_chance 56 = .ok (.ladd, 1) := by decide +kernel
theorem dX8_chance_57 : decode cX8_chance 57 = .ok (.lstore 4, 2) := by decide +kernel
theorem dX8_chance_59 : decode cX8_chance 59 = .ok (.iinc 6 1, 3) := by decide +kernel
theorem dX8_chance_62 : decode cX8_chance 62 = .ok (.goto (-30), 3) := by decide +kernel
theorem dX8_chance_65 : decode cX8_chance 65 = .ok (.lload 4, 2) := by decide +kernel
theorem dX8_chance_67 : decode cX8_chance 67 = .ok (.lstore 6, 2) := by decide +kernel
theorem dX8_chance_69 : decode cX8_chance 69 = .ok (.iload_n 2, 1) := by decide +kernel
theorem dX8_chance_70 : decode cX8_chance 70 = .ok (.i2l, 1) := by decide +kernel
theorem dX8_chance_71 : decode cX8_chance 71 = .ok (.lstore 8, 2) := by decide +kernel
theorem dX8_chance_73 : decode cX8_chance 73 = .ok (.lload 8, 2) := by decide +kernel
theorem dX8_chance_75 : decode cX8_chance 75 = .ok (.lconst 0, 1) := by decide +kernel
theorem dX8_chance_76 : decode cX8_chance 76 = .ok (.lcmp, 1) := by decide +kernel
theorem dX8_chance_77 : decode cX8_chance 77 = .ok (.ifCond .eq 21, 3) := by decide +kernel
theorem dX8_chance_80 : decode cX8_chance 80 = .ok (.lload 6, 2) := by decide +kernel
theorem dX8_chance_82 : decode cX8_chance 82 = .ok (.lload 8, 2) := by decide +kernel
theorem dX8_chance_84 : decode cX8_chance 84 = .ok (.lrem, 1) := by decide +kernel
theorem dX8_chance_85 : decode cX8_chance 85 = .ok (.lstore 10, 2) := by decide +kernel
theorem dX8_chance_87 : decode cX8_chance 87 = .ok (.lload 8, 2) := by decide +kernel
theorem dX8_chance_89 : decode cX8_chance 89 = .ok (.lstore 6, 2) := by decide +kernel
theorem dX8_chance_91 : decode cX8_chance 91 = .ok (.lload 10, 2) := by decide +kernel
theorem dX8_chance_93 : decode cX8_chance 93 = .ok (.lstore 8, 2) := by decide +kernel
theorem dX8_chance_95 : decode cX8_chance 95 = .ok (.goto (-22), 3) := by decide +kernel
theorem dX8_chance_98 : decode cX8_chance 98 = .ok (.iload_n 3, 1) := by decide +kernel
theorem dX8_chance_99 : decode cX8_chance 99 = .ok (.ifCond .ne 11, 3) := by decide +kernel
theorem dX8_chance_102 : decode cX8_chance 102 = .ok (.lload 4, 2) := by decide +kernel
theorem dX8_chance_104 : decode cX8_chance 104 = .ok (.lload 6, 2) := by decide +kernel
theorem dX8_chance_106 : decode cX8_chance 106 = .ok (.ldiv, 1) := by decide +kernel
theorem dX8_chance_107 : decode cX8_chance 107 = .ok (.goto 8, 3) := by decide +kernel
theorem dX8_chance_110 : decode cX8_chance 110 = .ok (.iload_n 2, 1) := by decide +kernel
theorem dX8_chance_111 : decode cX8_chance 111 = .ok (.i2l, 1) := by decide +kernel
theorem dX8_chance_112 : decode cX8_chance 112 = .ok (.lload 6, 2) := by decide +kernel
theorem dX8_chance_114 : decode cX8_chance 114 = .ok (.ldiv, 1) := by decide +kernel
theorem dX8_chance_115 : decode cX8_chance 115 = .ok (.lreturn, 1) := by decide +kernel
theorem dX8_image_0 : decode cX8_image 0 = .ok (.iconst 0, 1) := by decide +kernel
theorem dX8_image_1 : decode cX8_image 1 = .ok (.istore_n 1, 1) := by decide +kernel
theorem dX8_image_2 : decode cX8_image 2 = .ok (.iload_n 1, 1) := by decide +kernel
theorem dX8_image_3 : decode cX8_image 3 = .ok (.bipush 16, 2) := by decide +kernel
theorem dX8_image_5 : decode cX8_image 5 = .ok (.if_icmp .ge 33, 3) := by decide +kernel
theorem dX8_image_8 : decode cX8_image 8 = .ok (.aload_n 0, 1) := by decide +kernel
theorem dX8_image_9 : decode cX8_image 9 = .ok (.getfield 75, 3) := by decide +kernel
theorem dX8_image_12 : decode cX8_image 12 = .ok (.iload_n 1, 1) := by decide +kernel
theorem dX8_image_13 : decode cX8_image 13 = .ok (.aload_n 0, 1) := by decide +kernel
theorem dX8_image_14 : decode cX8_image 14 = .ok (.getfield 23, 3) := by decide +kernel
theorem dX8_image_17 : decode cX8_image 17 = .ok (.iload_n 1, 1) := by decide +kernel
theorem dX8_image_18 : decode cX8_image 18 = .ok (.iaload, 1) := by decide +kernel
theorem dX8_image_19 : decode cX8_image 19 = .ok (.iastore, 1) := by decide +kernel
theorem dX8_image_20 : decode cX8_image 20 = .ok (.aload_n 0, 1) := by decide +kernel
theorem dX8_image_21 : decode cX8_image 21 = .ok (.getfield 78, 3) := by decide +kernel
theorem dX8_image_24 : decode cX8_image 24 = .ok (.iload_n 1, 1) := by decide +kernel
theorem dX8_image_25 : decode cX8_image 25 = .ok (.aload_n 0, 1) := by decide +kernel
theorem dX8_image_26 : decode cX8_image 26 = .ok (.getfield 26, 3) := by decide +kernel
theorem dX8_image_29 : decode cX8_image 29 = .ok (.iload_n 1, 1) := by decide +kernel
theorem dX8_image_30 : decode cX8_image 30 = .ok (.iaload, 1) := by decide +kernel
theorem dX8_image_31 : decode cX8_image 31 = .ok (.iastore, 1) := by decide +kernel
theorem dX8_image_32 : decode cX8_image 32 = .ok (.iinc 1 1, 3) := by decide +kernel
theorem dX8_image_35 : decode cX8_image 35 = .ok (.goto (-33), 3) := by decide +kernel
theorem dX8_image_38 : decode cX8_image 38 = .ok (.iconst 0, 1) := by decide +kernel
theorem dX8_image_39 : decode cX8_image 39 = .ok (.istore_n 1, 1) := by decide +kernel
theorem dX8_image_40 : decode cX8_image 40 = .ok (.iload_n 1, 1) := by decide +kernel
theorem dX8_image_41 : decode cX8_image 41 = .ok (.iconst 4, 1) := by decide +kernel
theorem dX8_image_42 : decode cX8_image 42 = .ok (.if_icmp .ge 65, 3) := by decide +kernel
theorem dX8_image_45 : decode cX8_image 45 = .ok (.aload_n 0, 1) := by decide +kernel
theorem dX8_image_46 : decode cX8_image 46 = .ok (.getfield 81, 3) := by decide +kernel
theorem dX8_image_49 : decode cX8_image 49 = .ok (.iload_n 1, 1) := by decide +kernel
theorem dX8_image_50 : decode cX8_image 50 = .ok (.aload_n 0, 1) := by decide +kernel
theorem dX8_image_51 : decode cX8_image 51 = .ok (.getfield 29, 3) := by decide +kernel
theorem dX8_image_54 : decode cX8_image 54 = .ok (.iload_n 1, 1) := by decide +kernel
theorem dX8_image_55 : decode cX8_image 55 = .ok (.iaload, 1) := by decide +kernel
theorem dX8_image_56 : decode cX8_image 56 = .ok (.iastore, 1) := by decide +kernel
theorem dX8_image_57 : decode cX8_image 57 = .ok (.aload_n 0, 1) := by decide +kernel
theorem dX8_image_58 : decode cX8_image 58 = .ok (.getfield 81, 3) := by decide +kernel
theorem dX8_image_61 : decode cX8_image 61 = .ok (.iconst 4, 1) := by decide +kernel
theorem dX8_image_62 : decode cX8_image 62 = .ok (.iload_n 1, 1) := by decide +kernel
theorem dX8_image_63 : decode cX8_image 63 = .ok (.iadd, 1) := by decide +kernel
theorem dX8_image_64 : decode cX8_image 64 = .ok (.aload_n 0, 1) := by decide +kernel
theorem dX8_image_65 : decode cX8_image 65 = .ok (.getfield 32, 3) := by decide +kernel
theorem dX8_image_68 : decode cX8_image 68 = .ok (.iload_n 1, 1) := by decide +kernel
theorem dX8_image_69 : decode cX8_image 69 = .ok (.iaload, 1) := by decide +kernel
theorem dX8_image_70 : decode cX8_image 70 = .ok (.iastore, 1) := by decide +kernel
theorem dX8_image_71 : decode cX8_image 71 = .ok (.aload_n 0, 1) := by decide +kernel
theorem dX8_image_72 : decode cX8_image 72 = .ok (.getfield 81, 3) := by decide +kernel
theorem dX8_image_75 : decode cX8_image 75 = .ok (.bipush 8, 2) := by decide +kernel
theorem dX8_image_77 : decode cX8_image 77 = .ok (.iload_n 1, 1) := by decide +kernel
theorem dX8_image_78 : decode cX8_image 78 = .ok (.iadd, 1) := by decide +kernel
theorem dX8_image_79 : decode cX8_image 79 = .ok (.aload_n 0, 1) := by decide +kernel
theorem dX8_image_80 : decode cX8_image 80 = .ok (.getfield 35, 3) := by decide +kernel
theorem dX8_image_83 : decode cX8_image 83 = .ok (.iload_n 1, 1) := by decide +kernel
theorem dX8_image_84 : decode cX8_image 84 = .ok (.iaload, 1) := by decide +kernel
theorem dX8_image_85 : decode cX8_image 85 = .ok (.iastore, 1) := by decide +kernel
theorem dX8_image_86 : decode cX8_image 86 = .ok (.aload_n 0, 1) := by decide +kernel
theorem dX8_image_87 : decode cX8_image 87 = .ok (.getfield 81, 3) := by decide +kernel
theorem dX8_image_90 : decode cX8_image 90 = .ok (.bipush 12, 2) := by decide +kernel
theorem dX8_image_92 : decode cX8_image 92 = .ok (.iload_n 1, 1) := by decide +kernel
theorem dX8_image_93 : decode cX8_image 93 = .ok (.iadd, 1) := by decide +kernel
theorem dX8_image_94 : decode cX8_image 94 = .ok (.aload_n 0, 1) := by decide +kernel
theorem dX8_image_95 : decode cX8_image 95 = .ok (.getfield 41, 3) := by decide +kernel
theorem dX8_image_98 : decode cX8_image 98 = .ok (.iload_n 1, 1) := by decide +kernel
theorem dX8_image_99 : decode cX8_image 99 = .ok (.iaload, 1) := by decide +kernel
theorem dX8_image_100 : decode cX8_image 100 = .ok (.iastore, 1) := by decide +kernel
theorem dX8_image_101 : decode cX8_image 101 = .ok (.iinc 1 1, 3) := by decide +kernel
theorem dX8_image_104 : decode cX8_image 104 = .ok (.goto (-64), 3) := by decide +kernel
theorem dX8_image_107 : decode cX8_image 107 = .ok (.aload_n 0, 1) := by decide +kernel
theorem dX8_image_108 : decode cX8_image 108 = .ok (.aload_n 0, 1) := by decide +kernel
theorem dX8_image_109 : decode cX8_image 109 = .ok (.getfield 106, 3) := by decide +kernel
theorem dX8_image_112 : decode cX8_image 112 = .ok (.putfield 84, 3) := by decide +kernel
theorem dX8_image_115 : decode cX8_image 115 = .ok (.aload_n 0, 1) := by decide +kernel
theorem dX8_image_116 : decode cX8_image 116 = .ok (.aload_n 0, 1) := by decide +kernel
theorem dX8_image_117 : decode cX8_image 117 = .ok (.getfield 113, 3) := by decide +kernel
theorem dX8_image_120 : decode cX8_image 120 = .ok (.putfield 351, 3) := by decide +kernel
theorem dX8_image_123 : decode cX8_image 123 = .ok (.aload_n 0, 1) := by decide +kernel
theorem dX8_image_124 : decode cX8_image 124 = .ok (.aload_n 0, 1) := by decide +kernel
theorem dX8_image_125 : decode cX8_image 125 = .ok (.getfield 131, 3) := by decide +kernel
theorem dX8_image_128 : decode cX8_image 128 = .ok (.putfield 354, 3) := by decide +kernel
theorem dX8_image_131 : decode cX8_image 131 = .ok (.aload_n 0, 1) := by decide +kernel
theorem dX8_image_132 : decode cX8_image 132 = .ok (.aload_n 0, 1) := by decide +kernel
theorem dX8_image_133 : decode cX8_image 133 = .ok (.getfield 263, 3) := by decide +kernel
theorem dX8_image_136 : decode cX8_image 136 = .ok (.putfield 357, 3) := by decide +kernel
theorem dX8_image_139 : decode cX8_image 139 = .ok (.aload_n 0, 1) := by decide +kernel
theorem dX8_image_140 : decode cX8_image 140 = .ok (.getfield 106, 3) := by decide +kernel
theorem dX8_image_143 : decode cX8_image 143 = .ok (.ireturn, 1) := by decide +kernel
theorem dX8_back_0 : decode cX8_back 0 = .ok (.aload_n 0, 1) := by decide +kernel
theorem dX8_back_1 : decode cX8_back 1 = .ok (.getfield 84, 3) := by decide +kernel
theorem dX8_back_4 : decode cX8_back 4 = .ok (.iconst (-1), 1) := by decide +kernel
theorem dX8_back_5 : decode cX8_back 5 = .ok (.if_icmp .ne 6, 3) := by decide +kernel
theorem dX8_back_8 : decode cX8_back 8 = .ok (.bipush (-3), 2) := by decide +kernel
theorem dX8_back_10 : decode cX8_back 10 = .ok (.ireturn, 1) := by decide +kernel
theorem dX8_back_11 : decode cX8_back 11 = .ok (.iconst 0, 1) := by decide +kernel
theorem dX8_back_12 : decode cX8_back 12 = .ok (.istore_n 1, 1) := by decide +kernel
theorem dX8_back_13 : decode cX8_back 13 = .ok (.iload_n 1, 1) := by decide +kernel
theorem dX8_back_14 : decode cX8_back 14 = .ok (.bipush 16, 2) := by decide +kernel
theorem dX8_back_16 : decode cX8_back 16 = .ok (.if_icmp .ge 33, 3) := by decide +kernel
theorem dX8_back_19 : decode cX8_back 19 = .ok (.aload_n 0, 1) := by decide +kernel
theorem dX8_back_20 : decode cX8_back 20 = .ok (.getfield 23, 3) := by decide +kernel
theorem dX8_back_23 : decode cX8_back 23 = .ok (.iload_n 1, 1) := by decide +kernel
theorem dX8_back_24 : decode cX8_back 24 = .ok (.aload_n 0, 1) := by decide +kernel
theorem dX8_back_25 : decode cX8_back 25 = .ok (.getfield 75, 3) := by decide +kernel
theorem dX8_back_28 : decode cX8_back 28 = .ok (.iload_n 1, 1) := by decide +kernel
theorem dX8_back_29 : decode cX8_back 29 = .ok (.iaload, 1) := by decide +kernel
theorem dX8_back_30 : decode cX8_back 30 = .ok (.iastore, 1) := by decide +kernel
theorem dX8_back_31 : decode cX8_back 31 = .ok (.aload_n 0, 1) := by decide +kernel
theorem dX8_back_32 : decode cX8_back 32 = .ok (.getfield 26, 3) := by decide +kernel
theorem dX8_back_35 : decode cX8_back 35 = .ok (.iload_n 1, 1) := by decide +kernel
theorem dX8_back_36 : decode cX8_back 36 = .ok (.aload_n 0, 1) := by decide +kernel
theorem dX8_back_37 : decode cX8_back 37 = .ok (.getfield 78, 3) := by decide +kernel
theorem dX8_back_40 : decode cX8_back 40 = .ok (.iload_n 1, 1) := by decide +kernel
theorem dX8_back_41 : decode cX8_back 41 = .ok (.iaload, 1) := by decide +kernel
theorem dX8_back_42 : decode cX8_back 42 = .ok (.iastore, 1) := by decide +kernel
theorem dX8_back_43 : decode cX8_back 43 = .ok (.iinc 1 1, 3) := by decide +kernel
theorem dX8_back_46 : decode cX8_back 46 = .ok (.goto (-33), 3) := by decide +kernel
theorem dX8_back_49 : decode cX8_back 49 = .ok (.iconst 0, 1) := by decide +kernel
theorem dX8_back_50 : decode cX8_back 50 = .ok (.istore_n 1, 1) := by decide +kernel
theorem dX8_back_51 : decode cX8_back 51 = .ok (.iload_n 1, 1) := by decide +kernel
theorem dX8_back_52 : decode cX8_back 52 = .ok (.iconst 4, 1) := by decide +kernel
theorem dX8_back_53 : decode cX8_back 53 = .ok (.if_icmp .ge 65, 3) := by decide +kernel
theorem dX8_back_56 : decode cX8_back 56 = .ok (.aload_n 0, 1) := by decide +kernel
theorem dX8_back_57 : decode cX8_back 57 = .ok (.getfield 29, 3) := by decide +kernel
theorem dX8_back_60 : decode cX8_back 60 = .ok (.iload_n 1, 1) := by decide +kernel
theorem dX8_back_61 : decode cX8_back 61 = .ok (.aload_n 0, 1) := by decide +kernel
theorem dX8_back_62 : decode cX8_back 62 = .ok (.getfield 81, 3) := by decide +kernel
theorem dX8_back_65 : decode cX8_back 65 = .ok (.iload_n 1, 1) := by decide +kernel
theorem dX8_back_66 : decode cX8_back 66 = .ok (.iaload, 1) := by decide +kernel
theorem dX8_back_67 : decode cX8_back 67 = .ok (.iastore, 1) := by decide +kernel
theorem dX8_back_68 : decode cX8_back 68 = .ok (.aload_n 0, 1) := by decide +kernel
theorem dX8_back_69 : decode cX8_back 69 = .ok (.getfield 32, 3) := by decide +kernel
theorem dX8_back_72 : decode cX8_back 72 = .ok (.iload_n 1, 1) := by decide +kernel
theorem dX8_back_73 : decode cX8_back 73 = .ok (.aload_n 0, 1) := by decide +kernel
theorem dX8_back_74 : decode cX8_back 74 = .ok (.getfield 81, 3) := by decide +kernel
theorem dX8_back_77 : decode cX8_back 77 = .ok (.iconst 4, 1) := by decide +kernel
theorem dX8_back_78 : decode cX8_back 78 = .ok (.iload_n 1, 1) := by decide +kernel
theorem dX8_back_79 : decode cX8_back 79 = .ok (.iadd, 1) := by decide +kernel
theorem dX8_back_80 : decode cX8_back 80 = .ok (.iaload, 1) := by decide +kernel
theorem dX8_back_81 : decode cX8_back 81 = .ok (.iastore, 1) := by decide +kernel
theorem dX8_back_82 : decode cX8_back 82 = .ok (.aload_n 0, 1) := by decide +kernel
theorem dX8_back_83 : decode cX8_back 83 = .ok (.getfield 35, 3) := by decide +kernel
theorem dX8_back_86 : decode cX8_back 86 = .ok (.iload_n 1, 1) := by decide +kernel
theorem dX8_back_87 : decode cX8_back 87 = .ok (.aload_n 0, 1) := by decide +kernel
theorem dX8_back_88 : decode cX8_back 88 = .ok (.getfield 81, 3) := by decide +kernel
theorem dX8_back_91 : decode cX8_back 91 = .ok (.bipush 8, 2) := by decide +kernel
theorem dX8_back_93 : decode cX8_back 93 = .ok (.iload_n 1, 1) := by decide +kernel
theorem dX8_back_94 : decode cX8_back 94 = .ok (.iadd, 1) := by decide +kernel
theorem dX8_back_95 : decode cX8_back 95 = .ok (.iaload, 1) := by decide +kernel
theorem dX8_back_96 : decode cX8_back 96 = .ok (.iastore, 1) := by decide +kernel
theorem dX8_back_97 : decode cX8_back 97 = .ok (.aload_n 0, 1) := by decide +kernel
theorem dX8_back_98 : decode cX8_back 98 = .ok (.getfield 41, 3) := by decide +kernel
theorem dX8_back_101 : decode cX8_back 101 = .ok (.iload_n 1, 1) := by decide +kernel
theorem dX8_back_102 : decode cX8_back 102 = .ok (.aload_n 0, 1) := by decide +kernel
theorem dX8_back_103 : decode cX8_back 103 = .ok (.getfield 81, 3) := by decide +kernel
theorem dX8_back_106 : decode cX8_back 106 = .ok (.bipush 12, 2) := by decide +kernel
theorem dX8_back_108 : decode cX8_back 108 = .ok (.iload_n 1, 1) := by decide +kernel
theorem dX8_back_109 : decode cX8_back 109 = .ok (.iadd, 1) := by decide +kernel
theorem dX8_back_110 : decode cX8_back 110 = .ok (.iaload, 1) := by decide +kernel
theorem dX8_back_111 : decode cX8_back 111 = .ok (.iastore, 1) := by decide +kernel
theorem dX8_back_112 : decode cX8_back 112 = .ok (.iinc 1 1, 3) := by decide +kernel
theorem dX8_back_115 : decode cX8_back 115 = .ok (.goto (-64), 3) := by decide +kernel
theorem dX8_back_118 : decode cX8_back 118 = .ok (.aload_n 0, 1) := by decide +kernel
theorem dX8_back_119 : decode cX8_back 119 = .ok (.aload_n 0, 1) := by decide +kernel
theorem dX8_back_120 : decode cX8_back 120 = .ok (.getfield 84, 3) := by decide +kernel
theorem dX8_back_123 : decode cX8_back 123 = .ok (.putfield 106, 3) := by decide +kernel
theorem dX8_back_126 : decode cX8_back 126 = .ok (.aload_n 0, 1) := by decide +kernel
theorem dX8_back_127 : decode cX8_back 127 = .ok (.aload_n 0, 1) := by decide +kernel
theorem dX8_back_128 : decode cX8_back 128 = .ok (.getfield 351, 3) := by decide +kernel
theorem dX8_back_131 : decode cX8_back 131 = .ok (.putfield 113, 3) := by decide +kernel
theorem dX8_back_134 : decode cX8_back 134 = .ok (.aload_n 0, 1) := by decide +kernel
theorem dX8_back_135 : decode cX8_back 135 = .ok (.aload_n 0, 1) := by decide +kernel
theorem dX8_back_136 : decode cX8_back 136 = .ok (.getfield 354, 3) := by decide +kernel
theorem dX8_back_139 : decode cX8_back 139 = .ok (.putfield 131, 3) := by decide +kernel
theorem dX8_back_142 : decode cX8_back 142 = .ok (.aload_n 0, 1) := by decide +kernel
theorem dX8_back_143 : decode cX8_back 143 = .ok (.aload_n 0, 1) := by decide +kernel
theorem dX8_back_144 : decode cX8_back 144 = .ok (.getfield 357, 3) := by decide +kernel
theorem dX8_back_147 : decode cX8_back 147 = .ok (.putfield 263, 3) := by decide +kernel
theorem dX8_back_150 : decode cX8_back 150 = .ok (.aload_n 0, 1) := by decide +kernel
theorem dX8_back_151 : decode cX8_back 151 = .ok (.getfield 106, 3) := by decide +kernel
theorem dX8_back_154 : decode cX8_back 154 = .ok (.ireturn, 1) := by decide +kernel
theorem dX8_count_0 : decode cX8_count 0 = .ok (.iload_n 1, 1) := by decide +kernel
theorem dX8_count_1 : decode cX8_count 1 = .ok (.i2l, 1) := by decide +kernel
theorem dX8_count_2 : decode cX8_count 2 = .ok (.lconst 0, 1) := by decide +kernel
theorem dX8_count_3 : decode cX8_count 3 = .ok (.ldc2_w 134, 3) := by decide +kernel
theorem dX8_count_6 : decode cX8_count 6 = .ok (.invokestatic 109, 3) := by decide +kernel
theorem dX8_count_9 : decode cX8_count 9 = .ok (.ifCond .ne 6, 3) := by decide +kernel
theorem dX8_count_12 : decode cX8_count 12 = .ok (.bipush (-2), 2) := by decide +kernel
theorem dX8_count_14 : decode cX8_count 14 = .ok (.ireturn, 1) := by decide +kernel
theorem dX8_count_15 : decode cX8_count 15 = .ok (.iload_n 1, 1) := by decide +kernel
theorem dX8_count_16 : decode cX8_count 16 = .ok (.iconst 2, 1) := by decide +kernel
theorem dX8_count_17 : decode cX8_count 17 = .ok (.if_icmp .ne 41, 3) := by decide +kernel
theorem dX8_count_20 : decode cX8_count 20 = .ok (.iconst 0, 1) := by decide +kernel
theorem dX8_count_21 : decode cX8_count 21 = .ok (.istore_n 2, 1) := by decide +kernel
theorem dX8_count_22 : decode cX8_count 22 = .ok (.iconst 0, 1) := by decide +kernel
theorem dX8_count_23 : decode cX8_count 23 = .ok (.istore_n 3, 1) := by decide +kernel
theorem dX8_count_24 : decode cX8_count 24 = .ok (.iload_n 3, 1) := by decide +kernel
theorem dX8_count_25 : decode cX8_count 25 = .ok (.aload_n 0, 1) := by decide +kernel
theorem dX8_count_26 : decode cX8_count 26 = .ok (.getfield 106, 3) := by decide +kernel
theorem dX8_count_29 : decode cX8_count 29 = .ok (.if_icmp .ge 27, 3) := by decide +kernel
theorem dX8_count_32 : decode cX8_count 32 = .ok (.iload_n 2, 1) := by decide +kernel
theorem dX8_count_33 : decode cX8_count 33 = .ok (.aload_n 0, 1) := by decide +kernel
theorem dX8_count_34 : decode cX8_count 34 = .ok (.getfield 32, 3) := by decide +kernel
theorem dX8_count_37 : decode cX8_count 37 = .ok (.iload_n 3, 1) := by decide +kernel
theorem dX8_count_38 : decode cX8_count 38 = .ok (.iaload, 1) := by decide +kernel
theorem dX8_count_39 : decode cX8_count 39 = .ok (.iconst (-1), 1) := by decide +kernel
theorem dX8_count_40 : decode cX8_count 40 = .ok (.if_icmp .ne 7, 3) := by decide +kernel
theorem dX8_count_43 : decode cX8_count 43 = .ok (.iconst 0, 1) := by decide +kernel
theorem dX8_count_44 : decode cX8_count 44 = .ok (.goto 4, 3) := by decide +kernel
theorem dX8_count_47 : decode cX8_count 47 = .ok (.iconst 1, 1) := by decide +kernel
theorem dX8_count_48 : decode cX8_count 48 = .ok (.iadd, 1) := by decide +kernel
theorem dX8_count_49 : decode cX8_count 49 = .ok (.istore_n 2, 1) := by decide +kernel
theorem dX8_count_50 : decode cX8_count 50 = .ok (.iinc 3 1, 3) := by decide +kernel
theorem dX8_count_53 : decode cX8_count 53 = .ok (.goto (-29), 3) := by decide +kernel
theorem dX8_count_56 : decode cX8_count 56 = .ok (.iload_n 2, 1) := by decide +kernel
theorem dX8_count_57 : decode cX8_count 57 = .ok (.ireturn, 1) := by decide +kernel
theorem dX8_count_58 : decode cX8_count 58 = .ok (.iload_n 1, 1) := by decide +kernel
theorem dX8_count_59 : decode cX8_count 59 = .ok (.ifCond .ne 10, 3) := by decide +kernel
theorem dX8_count_62 : decode cX8_count 62 = .ok (.aload_n 0, 1) := by decide +kernel
theorem dX8_count_63 : decode cX8_count 63 = .ok (.getfield 106, 3) := by decide +kernel
theorem dX8_count_66 : decode cX8_count 66 = .ok (.goto 55, 3) := by decide +kernel
theorem dX8_count_69 : decode cX8_count 69 = .ok (.iload_n 1, 1) := by decide +kernel
theorem dX8_count_70 : decode cX8_count 70 = .ok (.iconst 1, 1) := by decide +kernel
theorem dX8_count_71 : decode cX8_count 71 = .ok (.if_icmp .ne 10, 3) := by decide +kernel
theorem dX8_count_74 : decode cX8_count 74 = .ok (.aload_n 0, 1) := by decide +kernel
theorem dX8_count_75 : decode cX8_count 75 = .ok (.getfield 113, 3) := by decide +kernel
theorem dX8_count_78 : decode cX8_count 78 = .ok (.goto 43, 3) := by decide +kernel
theorem dX8_count_81 : decode cX8_count 81 = .ok (.iload_n 1, 1) := by decide +kernel
theorem dX8_count_82 : decode cX8_count 82 = .ok (.iconst 3, 1) := by decide +kernel
theorem dX8_count_83 : decode cX8_count 83 = .ok (.if_icmp .ne 10, 3) := by decide +kernel
theorem dX8_count_86 : decode cX8_count 86 = .ok (.aload_n 0, 1) := by decide +kernel
theorem dX8_count_87 : decode cX8_count 87 = .ok (.getfield 131, 3) := by decide +kernel
theorem dX8_count_90 : decode cX8_count 90 = .ok (.goto 31, 3) := by decide +kernel
theorem dX8_count_93 : decode cX8_count 93 = .ok (.iload_n 1, 1) := by decide +kernel
theorem dX8_count_94 : decode cX8_count 94 = .ok (.iconst 4, 1) := by decide +kernel
theorem dX8_count_95 : decode cX8_count 95 = .ok (.if_icmp .ne 10, 3) := by decide +kernel
theorem dX8_count_98 : decode cX8_count 98 = .ok (.aload_n 0, 1) := by decide +kernel
theorem dX8_count_99 : decode cX8_count 99 = .ok (.getfield 103, 3) := by decide +kernel
theorem dX8_count_102 : decode cX8_count 102 = .ok (.goto 19, 3) := by decide +kernel
theorem dX8_count_105 : decode cX8_count 105 = .ok (.iload_n 1, 1) := by decide +kernel
theorem dX8_count_106 : decode cX8_count 106 = .ok (.iconst 5, 1) := by decide +kernel
theorem dX8_count_107 : decode cX8_count 107 = .ok (.if_icmp .ne 10, 3) := by decide +kernel
theorem dX8_count_110 : decode cX8_count 110 = .ok (.aload_n 0, 1) := by decide +kernel
theorem dX8_count_111 : decode cX8_count 111 = .ok (.getfield 145, 3) := by decide +kernel
theorem dX8_count_114 : decode cX8_count 114 = .ok (.goto 7, 3) := by decide +kernel
theorem dX8_count_117 : decode cX8_count 117 = .ok (.aload_n 0, 1) := by decide +kernel
theorem dX8_count_118 : decode cX8_count 118 = .ok (.getfield 263, 3) := by decide +kernel
theorem dX8_count_121 : decode cX8_count 121 = .ok (.ireturn, 1) := by decide +kernel
theorem dX8_isSheet_0 : decode cX8_isSheet 0 = .ok (.iload_n 0, 1) := by decide +kernel
theorem dX8_isSheet_1 : decode cX8_isSheet 1 = .ok (.i2l, 1) := by decide +kernel
theorem dX8_isSheet_2 : decode cX8_isSheet 2 = .ok (.lconst 0, 1) := by decide +kernel
theorem dX8_isSheet_3 : decode cX8_isSheet 3 = .ok (.ldc2_w 360, 3) := by decide +kernel
theorem dX8_isSheet_6 : decode cX8_isSheet 6 = .ok (.invokestatic 109, 3) := by decide +kernel
theorem dX8_isSheet_9 : decode cX8_isSheet 9 = .ok (.ireturn, 1) := by decide +kernel
theorem dX8_sheet_0 : decode cX8_sheet 0 = .ok (.iload_n 1, 1) := by decide +kernel
theorem dX8_sheet_1 : decode cX8_sheet 1 = .ok (.invokestatic 332, 3) := by decide +kernel
theorem dX8_sheet_4 : decode cX8_sheet 4 = .ok (.ifCond .eq 27, 3) := by decide +kernel
theorem dX8_sheet_7 : decode cX8_sheet 7 = .ok (.iload_n 2, 1) := by decide +kernel
theorem dX8_sheet_8 : decode cX8_sheet 8 = .ok (.i2l, 1) := by decide +kernel
theorem dX8_sheet_9 : decode cX8_sheet 9 = .ok (.ldc2_w 362, 3) := by decide +kernel
theorem dX8_sheet_12 : decode cX8_sheet 12 = .ok (.ldc2_w 129, 3) := by decide +kernel
theorem dX8_sheet_15 : decode cX8_sheet 15 = .ok (.invokestatic 109, 3) := by decide +kernel
theorem dX8_sheet_18 : decode cX8_sheet 18 = .ok (.ifCond .eq 13, 3) := by decide +kernel
theorem dX8_sheet_21 : decode cX8_sheet 21 = .ok (.iload_n 2, 1) := by decide +kernel
theorem dX8_sheet_22 : decode cX8_sheet 22 = .ok (.ifCond .lt 12, 3) := by decide +kernel
theorem dX8_sheet_25 : decode cX8_sheet 25 = .ok (.iload_n 3, 1) := by decide +kernel
theorem dX8_sheet_26 : decode cX8_sheet 26 = .ok (.bipush 40, 2) := by decide +kernel
theorem dX8_sheet_28 : decode cX8_sheet 28 = .ok (.if_icmp .le 6, 3) := by decide +kernel
theorem dX8_sheet_31 : decode cX8_sheet 31 = .ok (.bipush (-2), 2) := by decide +kernel
theorem dX8_sheet_33 : decode cX8_sheet 33 = .ok (.ireturn, 1) := by decide +kernel
theorem dX8_sheet_34 : decode cX8_sheet 34 = .ok (.iload_n 2, 1) := by decide +kernel
theorem dX8_sheet_35 : decode cX8_sheet 35 = .ok (.ifCond .lt 10, 3) := by decide +kernel
theorem dX8_sheet_38 : decode cX8_sheet 38 = .ok (.iload_n 3, 1) := by decide +kernel
theorem dX8_sheet_39 : decode cX8_sheet 39 = .ok (.ifCond .ge 6, 3) := by decide +kernel
theorem dX8_sheet_42 : decode cX8_sheet 42 = .ok (.bipush (-14), 2) := by decide +kernel
theorem dX8_sheet_44 : decode cX8_sheet 44 = .ok (.ireturn, 1) := by decide +kernel
theorem dX8_sheet_45 : decode cX8_sheet 45 = .ok (.aload_n 0, 1) := by decide +kernel
theorem dX8_sheet_46 : decode cX8_sheet 46 = .ok (.getfield 87, 3) := by decide +kernel
theorem dX8_sheet_49 : decode cX8_sheet 49 = .ok (.iload_n 1, 1) := by decide +kernel
theorem dX8_sheet_50 : decode cX8_sheet 50 = .ok (.iload_n 2, 1) := by decide +kernel
theorem dX8_sheet_51 : decode cX8_sheet 51 = .ok (.ifCond .lt 7, 3) := by decide +kernel
theorem dX8_sheet_54 : decode cX8_sheet 54 = .ok (.iconst 1, 1) := by decide +kernel
theorem dX8_sheet_55 : decode cX8_sheet 55 = .ok (.goto 4, 3) := by decide +kernel
theorem dX8_sheet_58 : decode cX8_sheet 58 = .ok (.iconst 0, 1) := by decide +kernel
theorem dX8_sheet_59 : decode cX8_sheet 59 = .ok (.bastore, 1) := by decide +kernel
theorem dX8_sheet_60 : decode cX8_sheet 60 = .ok (.aload_n 0, 1) := by decide +kernel
theorem dX8_sheet_61 : decode cX8_sheet 61 = .ok (.getfield 90, 3) := by decide +kernel
theorem dX8_sheet_64 : decode cX8_sheet 64 = .ok (.iload_n 1, 1) := by decide +kernel
theorem dX8_sheet_65 : decode cX8_sheet 65 = .ok (.iload_n 2, 1) := by decide +kernel
theorem dX8_sheet_66 : decode cX8_sheet 66 = .ok (.iastore, 1) := by decide +kernel
theorem dX8_sheet_67 : decode cX8_sheet 67 = .ok (.aload_n 0, 1) := by decide +kernel
theorem dX8_sheet_68 : decode cX8_sheet 68 = .ok (.getfield 93, 3) := by decide +kernel
theorem dX8_sheet_71 : decode cX8_sheet 71 = .ok (.iload_n 1, 1) := by decide +kernel
theorem dX8_sheet_72 : decode cX8_sheet 72 = .ok (.iload_n 3, 1) := by decide +kernel
theorem dX8_sheet_73 : decode cX8_sheet 73 = .ok (.iastore, 1) := by decide +kernel
theorem dX8_sheet_74 : decode cX8_sheet 74 = .ok (.iconst 0, 1) := by decide +kernel
theorem dX8_sheet_75 : decode cX8_sheet 75 = .ok (.istore 4, 2) := by decide +kernel
theorem dX8_sheet_77 : decode cX8_sheet 77 = .ok (.iload 4, 2) := by decide +kernel
theorem dX8_sheet_79 : decode cX8_sheet 79 = .ok (.iload_n 3, 1) := by decide +kernel
theorem dX8_sheet_80 : decode cX8_sheet 80 = .ok (.if_icmp .ge 26, 3) := by decide +kernel
theorem dX8_sheet_83 : decode cX8_sheet 83 = .ok (.iload_n 2, 1) := by decide +kernel
theorem dX8_sheet_84 : decode cX8_sheet 84 = .ok (.ifCond .lt 22, 3) := by decide +kernel
theorem dX8_sheet_87 : decode cX8_sheet 87 = .ok (.aload_n 0, 1) := by decide +kernel
theorem dX8_sheet_88 : decode cX8_sheet 88 = .ok (.getfield 96, 3) := by decide +kernel
theorem dX8_sheet_91 : decode cX8_sheet 91 = .ok (.bipush 40, 2) := by decide +kernel
theorem dX8_sheet_93 : decode cX8_sheet 93 = .ok (.iload_n 1, 1) := by decide +kernel
theorem dX8_sheet_94 : decode cX8_sheet 94 = .ok (.imul, 1) := by decide +kernel
theorem dX8_sheet_95 : decode cX8_sheet 95 = .ok (.iload 4, 2) := by decide +kernel
theorem dX8_sheet_97 : decode cX8_sheet 97 = .ok (.iadd, 1) := by decide +kernel
theorem dX8_sheet_98 : decode cX8_sheet 98 = .ok (.iconst 0, 1) := by decide +kernel
theorem dX8_sheet_99 : decode cX8_sheet 99 = .ok (.iastore, 1) := by decide +kernel
theorem dX8_sheet_100 : decode cX8_sheet 100 = .ok (.iinc 4 1, 3) := by decide +kernel
theorem dX8_sheet_103 : decode cX8_sheet 103 = .ok (.goto (-26), 3) := by decide +kernel
theorem dX8_sheet_106 : decode cX8_sheet 106 = .ok (.iconst 1, 1) := by decide +kernel
theorem dX8_sheet_107 : decode cX8_sheet 107 = .ok (.ireturn, 1) := by decide +kernel
theorem dX8_cell_0 : decode cX8_cell 0 = .ok (.iload_n 1, 1) := by decide +kernel
theorem dX8_cell_1 : decode cX8_cell 1 = .ok (.invokestatic 332, 3) := by decide +kernel
theorem dX8_cell_4 : decode cX8_cell 4 = .ok (.ifCond .ne 6, 3) := by decide +kernel
theorem dX8_cell_7 : decode cX8_cell 7 = .ok (.bipush (-2), 2) := by decide +kernel
theorem dX8_cell_9 : decode cX8_cell 9 = .ok (.ireturn, 1) := by decide +kernel
theorem dX8_cell_10 : decode cX8_cell 10 = .ok (.aload_n 0, 1) := by decide +kernel
theorem dX8_cell_11 : decode cX8_cell 11 = .ok (.getfield 87, 3) := by decide +kernel
theorem dX8_cell_14 : decode cX8_cell 14 = .ok (.iload_n 1, 1) := by decide +kernel
theorem dX8_cell_15 : decode cX8_cell 15 = .ok (.baload, 1) := by decide +kernel
theorem dX8_cell_16 : decode cX8_cell 16 = .ok (.ifCond .ne 6, 3) := by decide +kernel
theorem dX8_cell_19 : decode cX8_cell 19 = .ok (.bipush (-11), 2) := by decide +kernel
theorem dX8_cell_21 : decode cX8_cell 21 = .ok (.ireturn, 1) := by decide +kernel
theorem dX8_cell_22 : decode cX8_cell 22 = .ok (.iload_n 2, 1) := by decide +kernel
theorem dX8_cell_23 : decode cX8_cell 23 = .ok (.i2l, 1) := by decide +kernel
theorem dX8_cell_24 : decode cX8_cell 24 = .ok (.lconst 0, 1) := by decide +kernel
theorem dX8_cell_25 : decode cX8_cell 25 = .ok (.aload_n 0, 1) := by decide +kernel
theorem dX8_cell_26 : decode cX8_cell 26 = .ok (.getfield 93, 3) := by decide +kernel
theorem dX8_cell_29 : decode cX8_cell 29 = .ok (.iload_n 1, 1) := by decide +kernel
theorem dX8_cell_30 : decode cX8_cell 30 = .ok (.iaload, 1) := by decide +kernel
theorem dX8_cell_31 : decode cX8_cell 31 = .ok (.iconst 1, 1) := by decide +kernel
theorem dX8_cell_32 : decode cX8_cell 32 = .ok (.isub, 1) := by decide +kernel
theorem dX8_cell_33 : decode cX8_cell 33 = .ok (.i2l, 1) := by decide +kernel
theorem dX8_cell_34 : decode cX8_cell 34 = .ok (.invokestatic 109, 3) := by decide +kernel
theorem dX8_cell_37 : decode cX8_cell 37 = .ok (.ifCond .ne 6, 3) := by decide +kernel
theorem dX8_cell_40 : decode cX8_cell 40 = .ok (.bipush (-12), 2) := by decide +kernel
theorem dX8_cell_42 : decode cX8_cell 42 = .ok (.ireturn, 1) := by decide +kernel
theorem dX8_cell_43 : decode cX8_cell 43 = .ok (.aload_n 0, 1) := by decide +kernel
theorem dX8_cell_44 : decode cX8_cell 44 = .ok (.getfield 96, 3) := by decide +kernel
theorem dX8_cell_47 : decode cX8_cell 47 = .ok (.bipush 40, 2) := by decide +kernel
theorem dX8_cell_49 : decode cX8_cell 49 = .ok (.iload_n 1, 1) := by decide +kernel
theorem dX8_cell_50 : decode cX8_cell 50 = .ok (.imul, 1) := by decide +kernel
theorem dX8_cell_51 : decode cX8_cell 51 = .ok (.iload_n 2, 1) := by decide +kernel
theorem dX8_cell_52 : decode cX8_cell 52 = .ok (.iadd, 1) := by decide +kernel
theorem dX8_cell_53 : decode cX8_cell 53 = .ok (.aload_n 0, 1) := by decide +kernel
theorem dX8_cell_54 : decode cX8_cell 54 = .ok (.getfield 90, 3) := by decide +kernel
theorem dX8_cell_57 : decode cX8_cell 57 = .ok (.iload_n 1, 1) := by decide +kernel
theorem dX8_cell_58 : decode cX8_cell 58 = .ok (.iaload, 1) := by decide +kernel
theorem dX8_cell_59 : decode cX8_cell 59 = .ok (.ifCond .ne 8, 3) := by decide +kernel
theorem dX8_cell_62 : decode cX8_cell 62 = .ok (.iload_n 3, 1) := by decide +kernel
theorem dX8_cell_63 : decode cX8_cell 63 = .ok (.i2b, 1) := by decide +kernel
theorem dX8_cell_64 : decode cX8_cell 64 = .ok (.goto 19, 3) := by decide +kernel
theorem dX8_cell_67 : decode cX8_cell 67 = .ok (.aload_n 0, 1) := by decide +kernel
theorem dX8_cell_68 : decode cX8_cell 68 = .ok (.getfield 90, 3) := by decide +kernel
theorem dX8_cell_71 : decode cX8_cell 71 = .ok (.iload_n 1, 1) := by decide +kernel
theorem dX8_cell_72 : decode cX8_cell 72 = .ok (.iaload, 1) := by decide +kernel
theorem dX8_cell_73 : decode cX8_cell 73 = .ok (.iconst 1, 1) := by decide +kernel
theorem dX8_cell_74 : decode cX8_cell 74 = .ok (.if_icmp .ne 8, 3) := by decide +kernel
theorem dX8_cell_77 : decode cX8_cell 77 = .ok (.iload_n 3, 1) := by decide +kernel
theorem dX8_cell_78 : decode cX8_cell 78 = .ok (.i2s, 1) := by decide +kernel
theorem dX8_cell_79 : decode cX8_cell 79 = .ok (.goto 4, 3) := by decide +kernel
theorem dX8_cell_82 : decode cX8_cell 82 = .ok (.iload_n 3, 1) := by decide +kernel
theorem dX8_cell_83 : decode cX8_cell 83 = .ok (.iastore, 1) := by decide +kernel
theorem dX8_cell_84 : decode cX8_cell 84 = .ok (.iconst 1, 1) := by decide +kernel
theorem dX8_cell_85 : decode cX8_cell 85 = .ok (.ireturn, 1) := by decide +kernel
theorem dX8_copy_0 : decode cX8_copy 0 = .ok (.iload_n 1, 1) := by decide +kernel
theorem dX8_copy_1 : decode cX8_copy 1 = .ok (.invokestatic 332, 3) := by decide +kernel
theorem dX8_copy_4 : decode cX8_copy 4 = .ok (.ifCond .eq 10, 3) := by decide +kernel
theorem dX8_copy_7 : decode cX8_copy 7 = .ok (.iload_n 3, 1) := by decide +kernel
theorem dX8_copy_8 : decode cX8_copy 8 = .ok (.invokestatic 332, 3) := by decide +kernel
theorem dX8_copy_11 : decode cX8_copy 11 = .ok (.ifCond .ne 6, 3) := by decide +kernel
theorem dX8_copy_14 : decode cX8_copy 14 = .ok (.bipush (-2), 2) := by decide +kernel
theorem dX8_copy_16 : decode cX8_copy 16 = .ok (.ireturn, 1) := by decide +kernel
theorem dX8_copy_17 : decode cX8_copy 17 = .ok (.aload_n 0, 1) := by decide +kernel
theorem dX8_copy_18 : decode cX8_copy 18 = .ok (.getfield 87, 3) := by decide +kernel
theorem dX8_copy_21 : decode cX8_copy 21 = .ok (.iload_n 1, 1) := by decide +kernel
theorem dX8_copy_22 : decode cX8_copy 22 = .ok (.baload, 1) := by decide +kernel
theorem dX8_copy_23 : decode cX8_copy 23 = .ok (.ifCond .eq 12, 3) := by decide +kernel
theorem dX8_copy_26 : decode cX8_copy 26 = .ok (.aload_n 0, 1) := by decide +kernel
theorem dX8_copy_27 : decode cX8_copy 27 = .ok (.getfield 87, 3) := by decide +kernel
theorem dX8_copy_30 : decode cX8_copy 30 = .ok (.iload_n 3, 1) := by decide +kernel
theorem dX8_copy_31 : decode cX8_copy 31 = .ok (.baload, 1) := by decide +kernel
theorem dX8_copy_32 : decode cX8_copy 32 = .ok (.ifCond .ne 6, 3) := by decide +kernel
theorem dX8_copy_35 : decode cX8_copy 35 = .ok (.bipush (-11), 2) := by decide +kernel
theorem dX8_copy_37 : decode cX8_copy 37 = .ok (.ireturn, 1) := by decide +kernel
theorem dX8_copy_38 : decode cX8_copy 38 = .ok (.aload_n 0, 1) := by decide +kernel
theorem dX8_copy_39 : decode cX8_copy 39 = .ok (.getfield 90, 3) := by decide +kernel
theorem dX8_copy_42 : decode cX8_copy 42 = .ok (.iload_n 1, 1) := by decide +kernel
theorem dX8_copy_43 : decode cX8_copy 43 = .ok (.iaload, 1) := by decide +kernel
theorem dX8_copy_44 : decode cX8_copy 44 = .ok (.aload_n 0, 1) := by decide +kernel
theorem dX8_copy_45 : decode cX8_copy 45 = .ok (.getfield 90, 3) := by decide +kernel
theorem dX8_copy_48 : decode cX8_copy 48 = .ok (.iload_n 3, 1) := by decide +kernel
theorem dX8_copy_49 : decode cX8_copy 49 = .ok (.iaload, 1) := by decide +kernel
theorem dX8_copy_50 : decode cX8_copy 50 = .ok (.if_icmp .eq 6, 3) := by decide +kernel
theorem dX8_copy_53 : decode cX8_copy 53 = .ok (.bipush (-13), 2) := by decide +kernel
theorem dX8_copy_55 : decode cX8_copy 55 = .ok (.ireturn, 1) := by decide +kernel
theorem dX8_copy_56 : decode cX8_copy 56 = .ok (.iload 5, 2) := by decide +kernel
theorem dX8_copy_58 : decode cX8_copy 58 = .ok (.ifCond .lt 39, 3) := by decide +kernel
theorem dX8_copy_61 : decode cX8_copy 61 = .ok (.iload_n 2, 1) := by decide +kernel
theorem dX8_copy_62 : decode cX8_copy 62 = .ok (.ifCond .lt 35, 3) := by decide +kernel
theorem dX8_copy_65 : decode cX8_copy 65 = .ok (.iload 4, 2) := by decide +kernel
theorem dX8_copy_67 : decode cX8_copy 67 = .ok (.ifCond .lt 30, 3) := by decide +kernel
theorem dX8_copy_70 : decode cX8_copy 70 = .ok (.iload_n 2, 1) := by decide +kernel
theorem dX8_copy_71 : decode cX8_copy 71 = .ok (.aload_n 0, 1) := by decide +kernel
theorem dX8_copy_72 : decode cX8_copy 72 = .ok (.getfield 93, 3) := by decide +kernel
theorem dX8_copy_75 : decode cX8_copy 75 = .ok (.iload_n 1, 1) := by decide +kernel
theorem dX8_copy_76 : decode cX8_copy 76 = .ok (.iaload, 1) := by decide +kernel
theorem dX8_copy_77 : decode cX8_copy 77 = .ok (.iload 5, 2) := by decide +kernel
theorem dX8_copy_79 : decode cX8_copy 79 = .ok (.isub, 1) := by decide +kernel
theorem dX8_copy_80 : decode cX8_copy 80 = .ok (.if_icmp .gt 17, 3) := by decide +kernel
theorem dX8_copy_83 : decode cX8_copy 83 = .ok (.iload 4, 2) := by decide +kernel
theorem dX8_copy_85 : decode cX8_copy 85 = .ok (.aload_n 0, 1) := by decide +kernel
theorem dX8_copy_86 : decode cX8_copy 86 = .ok (.getfield 93, 3) := by decide +kernel
theorem dX8_copy_89 : decode cX8_copy 89 = .ok (.iload_n 3, 1) := by decide +kernel
theorem dX8_copy_90 : decode cX8_copy 90 = .ok (.iaload, 1) := by decide +kernel
theorem dX8_copy_91 : decode cX8_copy 91 = .ok (.iload 5, 2) := by decide +kernel
theorem dX8_copy_93 : decode cX8_copy 93 = .ok (.isub, 1) := by decide +kernel
theorem dX8_copy_94 : decode cX8_copy 94 = .ok (.if_icmp .le 6, 3) := by decide +kernel
theorem dX8_copy_97 : decode cX8_copy 97 = .ok (.bipush (-12), 2) := by decide +kernel
theorem dX8_copy_99 : decode cX8_copy 99 = .ok (.ireturn, 1) := by decide +kernel
theorem dX8_copy_100 : decode cX8_copy 100 = .ok (.iload_n 1, 1) := by decide +kernel
theorem dX8_copy_101 : decode cX8_copy 101 = .ok (.iload_n 3, 1) := by decide +kernel
theorem dX8_copy_102 : decode cX8_copy 102 = .ok (.if_icmp .ne 13, 3) := by decide +kernel
theorem dX8_copy_105 : decode cX8_copy 105 = .ok (.iload_n 2, 1) := by decide +kernel
theorem dX8_copy_106 : decode cX8_copy 106 = .ok (.iload 4, 2) := by decide +kernel
theorem dX8_copy_108 : decode cX8_copy 108 = .ok (.if_icmp .ge 7, 3) := by decide +kernel
theorem dX8_copy_111 : decode cX8_copy 111 = .ok (.iconst 1, 1) := by decide +kernel
theorem dX8_copy_112 : decode cX8_copy 112 = .ok (.goto 4, 3) := by decide +kernel
theorem dX8_copy_115 : decode cX8_copy 115 = .ok (.iconst 0, 1) := by decide +kernel
theorem dX8_copy_116 : decode cX8_copy 116 = .ok (.istore 6, 2) := by decide +kernel
theorem dX8_copy_118 : decode cX8_copy 118 = .ok (.iconst 0, 1) := by decide +kernel
theorem dX8_copy_119 : decode cX8_copy 119 = .ok (.istore 7, 2) := by decide +kernel
theorem dX8_copy_121 : decode cX8_copy 121 = .ok (.iload 7, 2) := by decide +kernel
theorem dX8_copy_123 : decode cX8_copy 123 = .ok (.iload 5, 2) := by decide +kernel
theorem dX8_copy_125 : decode cX8_copy 125 = .ok (.if_icmp .ge 57, 3) := by decide +kernel
theorem dX8_copy_128 : decode cX8_copy 128 = .ok (.iload 6, 2) := by decide +kernel
theorem dX8_copy_130 : decode cX8_copy 130 = .ok (.ifCond .eq 13, 3) := by decide +kernel
theorem dX8_copy_133 : decode cX8_copy 133 = .ok (.iload 5, 2) := by decide +kernel
theorem dX8_copy_135 : decode cX8_copy 135 = .ok (.iconst 1, 1) := by decide +kernel
theorem dX8_copy_136 : decode cX8_copy 136 = .ok (.isub, 1) := by decide +kernel
theorem dX8_copy_137 : decode cX8_copy 137 = .ok (.iload 7, 2) := by decide +kernel
theorem dX8_copy_139 : decode cX8_copy 139 = .ok (.isub, 1) := by decide +kernel
theorem dX8_copy_140 : decode cX8_copy 140 = .ok (.goto 5, 3) := by decide +kernel
theorem dX8_copy_143 : decode cX8_copy 143 = .ok (.iload 7, 2) := by decide +kernel
theorem dX8_copy_145 : decode cX8_copy 145 = .ok (.istore 8, 2) := by decide +kernel
theorem dX8_copy_147 : decode cX8_copy 147 = .ok (.aload_n 0, 1) := by decide +kernel
theorem dX8_copy_148 : decode cX8_copy 148 = .ok (.getfield 96, 3) := by decide +kernel
theorem dX8_copy_151 : decode cX8_copy 151 = .ok (.bipush 40, 2) := by decide +kernel
theorem dX8_copy_153 : decode cX8_copy 153 = .ok (.iload_n 3, 1) := by decide +kernel
theorem dX8_copy_154 : decode cX8_copy 154 = .ok (.imul, 1) := by decide +kernel
theorem dX8_copy_155 : decode cX8_copy 155 = .ok (.iload 4, 2) := by decide +kernel
theorem dX8_copy_157 : decode cX8_copy 157 = .ok (.iadd, 1) := by decide +kernel
theorem dX8_copy_158 : decode cX8_copy 158 = .ok (.iload 8, 2) := by decide +kernel
theorem dX8_copy_160 : decode cX8_copy 160 = .ok (.iadd, 1) := by decide +kernel
theorem dX8_copy_161 : decode cX8_copy 161 = .ok (.aload_n 0, 1) := by decide +kernel
theorem dX8_copy_162 : decode cX8_copy 162 = .ok (.getfield 96, 3) := by decide +kernel
theorem dX8_copy_165 : decode cX8_copy 165 = .ok (.bipush 40, 2) := by decide +kernel
theorem dX8_copy_167 : decode cX8_copy 167 = .ok (.iload_n 1, 1) := by decide +kernel
theorem dX8_copy_168 : decode cX8_copy 168 = .ok (.imul, 1) := by decide +kernel
theorem dX8_copy_169 : decode cX8_copy 169 = .ok (.iload_n 2, 1) := by decide +kernel
theorem dX8_copy_170 : decode cX8_copy 170 = .ok (.iadd, 1) := by decide +kernel
theorem dX8_copy_171 : decode cX8_copy 171 = .ok (.iload 8, 2) := by decide +kernel
theorem dX8_copy_173 : decode cX8_copy 173 = .ok (.iadd, 1) := by decide +kernel
theorem dX8_copy_174 : decode cX8_copy 174 = .ok (.iaload, 1) := by decide +kernel
theorem dX8_copy_175 : decode cX8_copy 175 = .ok (.iastore, 1) := by decide +kernel
theorem dX8_copy_176 : decode cX8_copy 176 = .ok (.iinc 7 1, 3) := by decide +kernel
theorem dX8_copy_179 : decode cX8_copy 179 = .ok (.goto (-58), 3) := by decide +kernel
theorem dX8_copy_182 : decode cX8_copy 182 = .ok (.iload 5, 2) := by decide +kernel
theorem dX8_copy_184 : decode cX8_copy 184 = .ok (.ireturn, 1) := by decide +kernel
theorem dX8_likings_0 : decode cX8_likings 0 = .ok (.iload_n 1, 1) := by decide +kernel
theorem dX8_likings_1 : decode cX8_likings 1 = .ok (.invokestatic 332, 3) := by decide +kernel
theorem dX8_likings_4 : decode cX8_likings 4 = .ok (.ifCond .eq 28, 3) := by decide +kernel
theorem dX8_likings_7 : decode cX8_likings 7 = .ok (.iload_n 2, 1) := by decide +kernel
theorem dX8_likings_8 : decode cX8_likings 8 = .ok (.i2l, 1) := by decide +kernel
theorem dX8_likings_9 : decode cX8_likings 9 = .ok (.lconst 0, 1) := by decide +kernel
theorem dX8_likings_10 : decode cX8_likings 10 = .ok (.ldc2_w 129, 3) := by decide +kernel
theorem dX8_likings_13 : decode cX8_likings 13 = .ok (.invokestatic 109, 3) := by decide +kernel
theorem dX8_likings_16 : decode cX8_likings 16 = .ok (.ifCond .eq 16, 3) := by decide +kernel
theorem dX8_likings_19 : decode cX8_likings 19 = .ok (.iload 4, 2) := by decide +kernel
theorem dX8_likings_21 : decode cX8_likings 21 = .ok (.i2l, 1) := by decide +kernel
theorem dX8_likings_22 : decode cX8_likings 22 = .ok (.lconst 0, 1) := by decide +kernel
theorem dX8_likings_23 : decode cX8_likings 23 = .ok (.ldc2_w 178, 3) := by decide +kernel
theorem dX8_likings_26 : decode cX8_likings 26 = .ok (.invokestatic 109, 3) := by decide +kernel
theorem dX8_likings_29 : decode cX8_likings 29 = .ok (.ifCond .ne 6, 3) := by decide +kernel
theorem dX8_likings_32 : decode cX8_likings 32 = .ok (.bipush (-2), 2) := by decide +kernel
theorem dX8_likings_34 : decode cX8_likings 34 = .ok (.ireturn, 1) := by decide +kernel
theorem dX8_likings_35 : decode cX8_likings 35 = .ok (.aload_n 0, 1) := by decide +kernel
theorem dX8_likings_36 : decode cX8_likings 36 = .ok (.getfield 87, 3) := by decide +kernel
theorem dX8_likings_39 : decode cX8_likings 39 = .ok (.iload_n 1, 1) := by decide +kernel
theorem dX8_likings_40 : decode cX8_likings 40 = .ok (.baload, 1) := by decide +kernel
theorem dX8_likings_41 : decode cX8_likings 41 = .ok (.ifCond .eq 16, 3) := by decide +kernel
theorem dX8_likings_44 : decode cX8_likings 44 = .ok (.aload_n 0, 1) := by decide +kernel
theorem dX8_likings_45 : decode cX8_likings 45 = .ok (.getfield 90, 3) := by decide +kernel
theorem dX8_likings_48 : decode cX8_likings 48 = .ok (.iload_n 1, 1) := by decide +kernel
theorem dX8_likings_49 : decode cX8_likings 49 = .ok (.iaload, 1) := by decide +kernel
theorem dX8_likings_50 : decode cX8_likings 50 = .ok (.iload_n 2, 1) := by decide +kernel
theorem dX8_likings_51 : decode cX8_likings 51 = .ok (.if_icmp .eq 6, 3) := by decide +kernel
theorem dX8_likings_54 : decode cX8_likings 54 = .ok (.bipush (-13), 2) := by decide +kernel
theorem dX8_likings_56 : decode cX8_likings 56 = .ok (.ireturn, 1) := by decide +kernel
theorem dX8_likings_57 : decode cX8_likings 57 = .ok (.aload_n 0, 1) := by decide +kernel
theorem dX8_likings_58 : decode cX8_likings 58 = .ok (.getfield 87, 3) := by decide +kernel
theorem dX8_likings_61 : decode cX8_likings 61 = .ok (.iload_n 1, 1) := by decide +kernel
theorem dX8_likings_62 : decode cX8_likings 62 = .ok (.baload, 1) := by decide +kernel
theorem dX8_likings_63 : decode cX8_likings 63 = .ok (.ifCond .ne 6, 3) := by decide +kernel
theorem dX8_likings_66 : decode cX8_likings 66 = .ok (.bipush (-11), 2) := by decide +kernel
theorem dX8_likings_68 : decode cX8_likings 68 = .ok (.ireturn, 1) := by decide +kernel
theorem dX8_likings_69 : decode cX8_likings 69 = .ok (.iconst 0, 1) := by decide +kernel
theorem dX8_likings_70 : decode cX8_likings 70 = .ok (.istore 5, 2) := by decide +kernel
theorem dX8_likings_72 : decode cX8_likings 72 = .ok (.iconst 0, 1) := by decide +kernel
theorem dX8_likings_73 : decode cX8_likings 73 = .ok (.istore 6, 2) := by decide +kernel
theorem dX8_likings_75 : decode cX8_likings 75 = .ok (.iload 6, 2) := by decide +kernel
theorem dX8_likings_77 : decode cX8_likings 77 = .ok (.iload 4, 2) := by decide +kernel
theorem dX8_likings_79 : decode cX8_likings 79 = .ok (.if_icmp .ge 97, 3) := by decide +kernel
theorem dX8_likings_82 : decode cX8_likings 82 = .ok (.iload_n 3, 1) := by decide +kernel
theorem dX8_likings_83 : decode cX8_likings 83 = .ok (.ifCond .lt 20, 3) := by decide +kernel
theorem dX8_likings_86 : decode cX8_likings 86 = .ok (.iload_n 3, 1) := by decide +kernel
theorem dX8_likings_87 : decode cX8_likings 87 = .ok (.aload_n 0, 1) := by decide +kernel
theorem dX8_likings_88 : decode cX8_likings 88 = .ok (.getfield 93, 3) := by decide +kernel
theorem dX8_likings_91 : decode cX8_likings 91 = .ok (.iload_n 1, 1) := by decide +kernel
theorem dX8_likings_92 : decode cX8_likings 92 = .ok (.iaload, 1) := by decide +kernel
theorem dX8_likings_93 : decode cX8_likings 93 = .ok (.iconst 4, 1) := by decide +kernel
theorem dX8_likings_94 : decode cX8_likings 94 = .ok (.iload 6, 2) := by decide +kernel
theorem dX8_likings_96 : decode cX8_likings 96 = .ok (.imul, 1) := by decide +kernel
theorem dX8_likings_97 : decode cX8_likings 97 = .ok (.isub, 1) := by decide +kernel
theorem dX8_likings_98 : decode cX8_likings 98 = .ok (.iconst 4, 1) := by decide +kernel
theorem dX8_likings_99 : decode cX8_likings 99 = .ok (.isub, 1) := by decide +kernel
theorem dX8_likings_100 : decode cX8_likings 100 = .ok (.if_icmp .le 6, 3) := by decide +kernel
theorem dX8_likings_103 : decode cX8_likings 103 = .ok (.bipush (-12), 2) := by decide +kernel
theorem dX8_likings_105 : decode cX8_likings 105 = .ok (.ireturn, 1) := by decide +kernel
theorem dX8_likings_106 : decode cX8_likings 106 = .ok (.bipush 40, 2) := by decide +kernel
theorem dX8_likings_108 : decode cX8_likings 108 = .ok (.iload_n 1, 1) := by decide +kernel
theorem dX8_likings_109 : decode cX8_likings 109 = .ok (.imul, 1) := by decide +kernel
theorem dX8_likings_110 : decode cX8_likings 110 = .ok (.iload_n 3, 1) := by decide +kernel
theorem dX8_likings_111 : decode cX8_likings 111 = .ok (.iadd, 1) := by decide +kernel
theorem dX8_likings_112 : decode cX8_likings 112 = .ok (.iconst 4, 1) := by decide +kernel
theorem dX8_likings_113 : decode cX8_likings 113 = .ok (.iload 6, 2) := by decide +kernel
theorem dX8_likings_115 : decode cX8_likings 115 = .ok (.imul, 1) := by decide +kernel
theorem dX8_likings_116 : decode cX8_likings 116 = .ok (.iadd, 1) := by decide +kernel
theorem dX8_likings_117 : decode cX8_likings 117 = .ok (.istore 7, 2) := by decide +kernel
theorem dX8_likings_119 : decode cX8_likings 119 = .ok (.iload 5, 2) := by decide +kernel
theorem dX8_likings_121 : decode cX8_likings 121 = .ok (.aload_n 0, 1) := by decide +kernel
theorem dX8_likings_122 : decode cX8_likings 122 = .ok (.aload_n 0, 1) := by decide +kernel
theorem dX8_likings_123 : decode cX8_likings 123 = .ok (.getfield 96, 3) := by decide +kernel
theorem dX8_likings_126 : decode cX8_likings 126 = .ok (.iload 7, 2) := by decide +kernel
theorem dX8_likings_128 : decode cX8_likings 128 = .ok (.iaload, 1) := by decide +kernel
theorem dX8_likings_129 : decode cX8_likings 129 = .ok (.aload_n 0, 1) := by decide +kernel
theorem dX8_likings_130 : decode cX8_likings 130 = .ok (.getfield 96, 3) := by decide +kernel
theorem dX8_likings_133 : decode cX8_likings 133 = .ok (.iload 7, 2) := by decide +kernel
theorem dX8_likings_135 : decode cX8_likings 135 = .ok (.iconst 1, 1) := by decide +kernel
theorem dX8_likings_136 : decode cX8_likings 136 = .ok (.iadd, 1) := by decide +kernel
theorem dX8_likings_137 : decode cX8_likings 137 = .ok (.iaload, 1) := by decide +kernel
theorem dX8_likings_138 : decode cX8_likings 138 = .ok (.aload_n 0, 1) := by decide +kernel
theorem dX8_likings_139 : decode cX8_likings 139 = .ok (.getfield 96, 3) := by decide +kernel
theorem dX8_likings_142 : decode cX8_likings 142 = .ok (.iload 7, 2) := by decide +kernel
theorem dX8_likings_144 : decode cX8_likings 144 = .ok (.iconst 2, 1) := by decide +kernel
theorem dX8_likings_145 : decode cX8_likings 145 = .ok (.iadd, 1) := by decide +kernel
theorem dX8_likings_146 : decode cX8_likings 146 = .ok (.iaload, 1) := by decide +kernel
theorem dX8_likings_147 : decode cX8_likings 147 = .ok (.aload_n 0, 1) := by decide +kernel
theorem dX8_likings_148 : decode cX8_likings 148 = .ok (.getfield 96, 3) := by decide +kernel
theorem dX8_likings_151 : decode cX8_likings 151 = .ok (.iload 7, 2) := by decide +kernel
theorem dX8_likings_153 : decode cX8_likings 153 = .ok (.iconst 3, 1) := by decide +kernel
theorem dX8_likings_154 : decode cX8_likings 154 = .ok (.iadd, 1) := by decide +kernel
theorem dX8_likings_155 : decode cX8_likings 155 = .ok (.iaload, 1) := by decide +kernel
theorem dX8_likings_156 : decode cX8_likings 156 = .ok (.invokevirtual 364, 3) := by decide +kernel
theorem dX8_likings_159 : decode cX8_likings 159 = .ok (.ifCond .lt 7, 3) := by decide +kernel
theorem dX8_likings_162 : decode cX8_likings 162 = .ok (.iconst 1, 1) := by decide +kernel
theorem dX8_likings_163 : decode cX8_likings 163 = .ok (.goto 4, 3) := by decide +kernel
theorem dX8_likings_166 : decode cX8_likings 166 = .ok (.iconst 0, 1) := by decide +kernel
theorem dX8_likings_167 : decode cX8_likings 167 = .ok (.iadd, 1) := by decide +kernel
theorem dX8_likings_168 : decode cX8_likings 168 = .ok (.istore 5, 2) := by decide +kernel
theorem dX8_likings_170 : decode cX8_likings 170 = .ok (.iinc 6 1, 3) := by decide +kernel
theorem dX8_likings_173 : decode cX8_likings 173 = .ok (.goto (-98), 3) := by decide +kernel
theorem dX8_likings_176 : decode cX8_likings 176 = .ok (.iload 5, 2) := by decide +kernel
theorem dX8_likings_178 : decode cX8_likings 178 = .ok (.ireturn, 1) := by decide +kernel
theorem dX8_over_0 : decode cX8_over 0 = .ok (.iload_n 0, 1) := by decide +kernel
theorem dX8_over_1 : decode cX8_over 1 = .ok (.ifCond .ne 7, 3) := by decide +kernel
theorem dX8_over_4 : decode cX8_over 4 = .ok (.iconst (-1), 1) := by decide +kernel
theorem dX8_over_5 : decode cX8_over 5 = .ok (.goto 22, 3) := by decide +kernel
theorem dX8_over_8 : decode cX8_over 8 = .ok (.iload_n 0, 1) := by decide +kernel
theorem dX8_over_9 : decode cX8_over 9 = .ok (.iconst 3, 1) := by decide +kernel
theorem dX8_over_10 : decode cX8_over 10 = .ok (.if_icmp .ne 7, 3) := by decide +kernel
theorem dX8_over_13 : decode cX8_over 13 = .ok (.iconst 2, 1) := by decide +kernel
theorem dX8_over_14 : decode cX8_over 14 = .ok (.goto 13, 3) := by decide +kernel
theorem dX8_over_17 : decode cX8_over 17 = .ok (.iload_n 0, 1) := by decide +kernel
theorem dX8_over_18 : decode cX8_over 18 = .ok (.iconst 4, 1) := by decide +kernel
theorem dX8_over_19 : decode cX8_over 19 = .ok (.if_icmp .ne 7, 3) := by decide +kernel
theorem dX8_over_22 : decode cX8_over 22 = .ok (.iconst 1, 1) := by decide +kernel
theorem dX8_over_23 : decode cX8_over 23 = .ok (.goto 4, 3) := by decide +kernel
theorem dX8_over_26 : decode cX8_over 26 = .ok (.iconst 0, 1) := by decide +kernel
theorem dX8_over_27 : decode cX8_over 27 = .ok (.ireturn, 1) := by decide +kernel
theorem dX8_taken_0 : decode cX8_taken 0 = .ok (.iload_n 2, 1) := by decide +kernel
theorem dX8_taken_1 : decode cX8_taken 1 = .ok (.i2l, 1) := by decide +kernel
theorem dX8_taken_2 : decode cX8_taken 2 = .ok (.lconst 0, 1) := by decide +kernel
theorem dX8_taken_3 : decode cX8_taken 3 = .ok (.ldc2_w 118, 3) := by decide +kernel
theorem dX8_taken_6 : decode cX8_taken 6 = .ok (.invokestatic 109, 3) := by decide +kernel
theorem dX8_taken_9 : decode cX8_taken 9 = .ok (.ifCond .ne 6, 3) := by decide +kernel
theorem dX8_taken_12 : decode cX8_taken 12 = .ok (.bipush (-2), 2) := by decide +kernel
theorem dX8_taken_14 : decode cX8_taken 14 = .ok (.ireturn, 1) := by decide +kernel
theorem dX8_taken_15 : decode cX8_taken 15 = .ok (.aload_n 0, 1) := by decide +kernel
theorem dX8_taken_16 : decode cX8_taken 16 = .ok (.iload_n 1, 1) := by decide +kernel
theorem dX8_taken_17 : decode cX8_taken 17 = .ok (.invokevirtual 124, 3) := by decide +kernel
theorem dX8_taken_20 : decode cX8_taken 20 = .ok (.ifCond .ne 6, 3) := by decide +kernel
theorem dX8_taken_23 : decode cX8_taken 23 = .ok (.bipush (-11), 2) := by decide +kernel
theorem dX8_taken_25 : decode cX8_taken 25 = .ok (.ireturn, 1) := by decide +kernel
theorem dX8_taken_26 : decode cX8_taken 26 = .ok (.aload_n 0, 1) := by decide +kernel
theorem dX8_taken_27 : decode cX8_taken 27 = .ok (.getfield 38, 3) := by decide +kernel
theorem dX8_taken_30 : decode cX8_taken 30 = .ok (.iload_n 1, 1) := by decide +kernel
theorem dX8_taken_31 : decode cX8_taken 31 = .ok (.iaload, 1) := by decide +kernel
theorem dX8_taken_32 : decode cX8_taken 32 = .ok (.istore_n 3, 1) := by decide +kernel
theorem dX8_taken_33 : decode cX8_taken 33 = .ok (.iload_n 3, 1) := by decide +kernel
theorem dX8_taken_34 : decode cX8_taken 34 = .ok (.iconst (-1), 1) := by decide +kernel
theorem dX8_taken_35 : decode cX8_taken 35 = .ok (.if_icmp .eq 16, 3) := by decide +kernel
theorem dX8_taken_38 : decode cX8_taken 38 = .ok (.iload_n 3, 1) := by decide +kernel
theorem dX8_taken_39 : decode cX8_taken 39 = .ok (.iload_n 2, 1) := by decide +kernel
theorem dX8_taken_40 : decode cX8_taken 40 = .ok (.if_icmp .eq 11, 3) := by decide +kernel
theorem dX8_taken_43 : decode cX8_taken 43 = .ok (.iload_n 3, 1) := by decide +kernel
theorem dX8_taken_44 : decode cX8_taken 44 = .ok (.invokestatic 367, 3) := by decide +kernel
theorem dX8_taken_47 : decode cX8_taken 47 = .ok (.istore_n 3, 1) := by decide +kernel
theorem dX8_taken_48 : decode cX8_taken 48 = .ok (.goto (-15), 3) := by decide +kernel
theorem dX8_taken_51 : decode cX8_taken 51 = .ok (.iload_n 3, 1) := by decide +kernel
theorem dX8_taken_52 : decode cX8_taken 52 = .ok (.iload_n 2, 1) := by decide +kernel
theorem dX8_taken_53 : decode cX8_taken 53 = .ok (.if_icmp .ne 12, 3) := by decide +kernel
theorem dX8_taken_56 : decode cX8_taken 56 = .ok (.aload_n 0, 1) := by decide +kernel
theorem dX8_taken_57 : decode cX8_taken 57 = .ok (.getfield 41, 3) := by decide +kernel
theorem dX8_taken_60 : decode cX8_taken 60 = .ok (.iload_n 1, 1) := by decide +kernel
theorem dX8_taken_61 : decode cX8_taken 61 = .ok (.iaload, 1) := by decide +kernel
theorem dX8_taken_62 : decode cX8_taken 62 = .ok (.goto 5, 3) := by decide +kernel
theorem dX8_taken_65 : decode cX8_taken 65 = .ok (.bipush (-13), 2) := by decide +kernel
theorem dX8_taken_67 : decode cX8_taken 67 = .ok (.ireturn, 1) := by decide +kernel
