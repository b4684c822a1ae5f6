theorem dX0_needs_0 : decode cX0_needs 0 = .ok (.iload_n 0, 1) := by decide +kernel
theorem dX0_needs_1 : decode cX0_needs 1 = .ok (.tableswitch 61 1 5 #[35, 37, 43, 35, 49], 35) := by decide +kernel
theorem dX0_needs_36 : decode cX0_needs 36 = .ok (.iconst 0, 1) := by decide +kernel
theorem dX0_needs_37 : decode cX0_needs 37 = .ok (.ireturn, 1) := by decide +kernel
theorem dX0_needs_38 : decode cX0_needs 38 = .ok (.iconst 1, 1) := by decide +kernel
theorem dX0_needs_39 : decode cX0_needs 39 = .ok (.iload_n 1, 1) := by decide +kernel
theorem dX0_needs_40 : decode cX0_needs 40 = .ok (.iconst 3, 1) := by decide +kernel
theorem dX0_needs_41 : decode cX0_needs 41 = .ok (.irem, 1) := by decide +kernel
theorem dX0_needs_42 : decode cX0_needs 42 = .ok (.iadd, 1) := by decide +kernel
theorem dX0_needs_43 : decode cX0_needs 43 = .ok (.ireturn, 1) := by decide +kernel
theorem dX0_needs_44 : decode cX0_needs 44 = .ok (.iconst 2, 1) := by decide +kernel
theorem dX0_needs_45 : decode cX0_needs 45 = .ok (.iload_n 1, 1) := by decide +kernel
theorem dX0_needs_46 : decode cX0_needs 46 = .ok (.iconst 3, 1) := by decide +kernel
theorem dX0_needs_47 : decode cX0_needs 47 = .ok (.irem, 1) := by decide +kernel
theorem dX0_needs_48 : decode cX0_needs 48 = .ok (.iadd, 1) := by decide +kernel
theorem dX0_needs_49 : decode cX0_needs 49 = .ok (.ireturn, 1) := by decide +kernel
theorem dX0_needs_50 : decode cX0_needs 50 = .ok (.iload_n 1, 1) := by decide +kernel
theorem dX0_needs_51 : decode cX0_needs 51 = .ok (.iconst 2, 1) := by decide +kernel
theorem dX0_needs_52 : decode cX0_needs 52 = .ok (.irem, 1) := by decide +kernel
theorem dX0_needs_53 : decode cX0_needs 53 = .ok (.ifCond .ne 7, 3) := by decide +kernel
theorem dX0_needs_56 : decode cX0_needs 56 = .ok (.iconst 0, 1) := by decide +kernel
theorem dX0_needs_57 : decode cX0_needs 57 = .ok (.goto 4, 3) := by decide +kernel
theorem dX0_needs_60 : decode cX0_needs 60 = .ok (.iconst 1, 1) := by decide +kernel
theorem dX0_needs_61 : decode cX0_needs 61 = .ok (.ireturn, 1) := by decide +kernel
theorem dX0_needs_62 : decode cX0_needs 62 = .ok (.iconst 1, 1) := by decide +kernel
theorem dX0_needs_63 : decode cX0_needs 63 = .ok (.ireturn, 1) := by decide +kernel
theorem dX0_refuses_0 : decode cX0_refuses 0 = .ok (.iload_n 2, 1) := by decide +kernel
theorem dX0_refuses_1 : decode cX0_refuses 1 = .ok (.bipush 50, 2) := by decide +kernel
theorem dX0_refuses_3 : decode cX0_refuses 3 = .ok (.if_icmp .ge 7, 3) := by decide +kernel
theorem dX0_refuses_6 : decode cX0_refuses 6 = .ok (.iconst 1, 1) := by decide +kernel
theorem dX0_refuses_7 : decode cX0_refuses 7 = .ok (.goto 4, 3) := by decide +kernel
theorem dX0_refuses_10 : decode cX0_refuses 10 = .ok (.iconst 0, 1) := by decide +kernel
theorem dX0_refuses_11 : decode cX0_refuses 11 = .ok (.istore 4, 2) := by decide +kernel
theorem dX0_refuses_13 : decode cX0_refuses 13 = .ok (.iload_n 0, 1) := by decide +kernel
theorem dX0_refuses_14 : decode cX0_refuses 14 = .ok (.tableswitch 107 1 5 #[34, 53, 69, 91, 93], 34) := by decide +kernel
theorem dX0_refuses_48 : decode cX0_refuses 48 = .ok (.iload 4, 2) := by decide +kernel
theorem dX0_refuses_50 : decode cX0_refuses 50 = .ok (.ifCond .eq 15, 3) := by decide +kernel
theorem dX0_refuses_53 : decode cX0_refuses 53 = .ok (.iload_n 2, 1) := by decide +kernel
theorem dX0_refuses_54 : decode cX0_refuses 54 = .ok (.bipush 10, 2) := by decide +kernel
theorem dX0_refuses_56 : decode cX0_refuses 56 = .ok (.iload_n 1, 1) := by decide +kernel
theorem dX0_refuses_57 : decode cX0_refuses 57 = .ok (.imul, 1) := by decide +kernel
theorem dX0_refuses_58 : decode cX0_refuses 58 = .ok (.if_icmp .ge 7, 3) := by decide +kernel
theorem dX0_refuses_61 : decode cX0_refuses 61 = .ok (.iconst 1, 1) := by decide +kernel
theorem dX0_refuses_62 : decode cX0_refuses 62 = .ok (.goto 4, 3) := by decide +kernel
theorem dX0_refuses_65 : decode cX0_refuses 65 = .ok (.iconst 0, 1) := by decide +kernel
theorem dX0_refuses_66 : decode cX0_refuses 66 = .ok (.ireturn, 1) := by decide +kernel
theorem dX0_refuses_67 : decode cX0_refuses 67 = .ok (.iload 4, 2) := by decide +kernel
theorem dX0_refuses_69 : decode cX0_refuses 69 = .ok (.ifCond .ne 8, 3) := by decide +kernel
theorem dX0_refuses_72 : decode cX0_refuses 72 = .ok (.iload_n 3, 1) := by decide +kernel
theorem dX0_refuses_73 : decode cX0_refuses 73 = .ok (.iconst 2, 1) := by decide +kernel
theorem dX0_refuses_74 : decode cX0_refuses 74 = .ok (.if_icmp .le 7, 3) := by decide +kernel
theorem dX0_refuses_77 : decode cX0_refuses 77 = .ok (.iconst 1, 1) := by decide +kernel
theorem dX0_refuses_78 : decode cX0_refuses 78 = .ok (.goto 4, 3) := by decide +kernel
theorem dX0_refuses_81 : decode cX0_refuses 81 = .ok (.iconst 0, 1) := by decide +kernel
theorem dX0_refuses_82 : decode cX0_refuses 82 = .ok (.ireturn, 1) := by decide +kernel
theorem dX0_refuses_83 : decode cX0_refuses 83 = .ok (.iload 4, 2) := by decide +kernel
theorem dX0_refuses_85 : decode cX0_refuses 85 = .ok (.ifCond .ne 14, 3) := by decide +kernel
theorem dX0_refuses_88 : decode cX0_refuses 88 = .ok (.iload_n 3, 1) := by decide +kernel
theorem dX0_refuses_89 : decode cX0_refuses 89 = .ok (.iconst 2, 1) := by decide +kernel
theorem dX0_refuses_90 : decode cX0_refuses 90 = .ok (.if_icmp .gt 9, 3) := by decide +kernel
theorem dX0_refuses_93 : decode cX0_refuses 93 = .ok (.iload_n 2, 1) := by decide +kernel
theorem dX0_refuses_94 : decode cX0_refuses 94 = .ok (.bipush 70, 2) := by decide +kernel
theorem dX0_refuses_96 : decode cX0_refuses 96 = .ok (.if_icmp .ge 7, 3) := by decide +kernel
theorem dX0_refuses_99 : decode cX0_refuses 99 = .ok (.iconst 1, 1) := by decide +kernel
theorem dX0_refuses_100 : decode cX0_refuses 100 = .ok (.goto 4, 3) := by decide +kernel
theorem dX0_refuses_103 : decode cX0_refuses 103 = .ok (.iconst 0, 1) := by decide +kernel
theorem dX0_refuses_104 : decode cX0_refuses 104 = .ok (.ireturn, 1) := by decide +kernel
theorem dX0_refuses_105 : decode cX0_refuses 105 = .ok (.iconst 1, 1) := by decide +kernel
theorem dX0_refuses_106 : decode cX0_refuses 106 = .ok (.ireturn, 1) := by decide +kernel
theorem dX0_refuses_107 : decode cX0_refuses 107 = .ok (.iload_n 3, 1) := by decide +kernel
theorem dX0_refuses_108 : decode cX0_refuses 108 = .ok (.iload_n 1, 1) := by decide +kernel
theorem dX0_refuses_109 : decode cX0_refuses 109 = .ok (.iadd, 1) := by decide +kernel
theorem dX0_refuses_110 : decode cX0_refuses 110 = .ok (.iconst 2, 1) := by decide +kernel
theorem dX0_refuses_111 : decode cX0_refuses 111 = .ok (.irem, 1) := by decide +kernel
theorem dX0_refuses_112 : decode cX0_refuses 112 = .ok (.ifCond .eq 7, 3) := by decide +kernel
theorem dX0_refuses_115 : decode cX0_refuses 115 = .ok (.iconst 1, 1) := by decide +kernel
theorem dX0_refuses_116 : decode cX0_refuses 116 = .ok (.goto 4, 3) := by decide +kernel
theorem dX0_refuses_119 : decode cX0_refuses 119 = .ok (.iconst 0, 1) := by decide +kernel
theorem dX0_refuses_120 : decode cX0_refuses 120 = .ok (.ireturn, 1) := by decide +kernel
theorem dX0_refuses_121 : decode cX0_refuses 121 = .ok (.iload 4, 2) := by decide +kernel
theorem dX0_refuses_123 : decode cX0_refuses 123 = .ok (.ireturn, 1) := by decide +kernel
theorem dX0_price_0 : decode cX0_price 0 = .ok (.iload_n 0, 1) := by decide +kernel
theorem dX0_price_1 : decode cX0_price 1 = .ok (.tableswitch 59 1 5 #[35, 39, 43, 53, 55], 35) := by decide +kernel
theorem dX0_price_36 : decode cX0_price 36 = .ok (.iload_n 1, 1) := by decide +kernel
theorem dX0_price_37 : decode cX0_price 37 = .ok (.iconst 5, 1) := by decide +kernel
theorem dX0_price_38 : decode cX0_price 38 = .ok (.iadd, 1) := by decide +kernel
theorem dX0_price_39 : decode cX0_price 39 = .ok (.ireturn, 1) := by decide +kernel
theorem dX0_price_40 : decode cX0_price 40 = .ok (.iconst 2, 1) := by decide +kernel
theorem dX0_price_41 : decode cX0_price 41 = .ok (.iload_n 1, 1) := by decide +kernel
theorem dX0_price_42 : decode cX0_price 42 = .ok (.imul, 1) := by decide +kernel
theorem dX0_price_43 : decode cX0_price 43 = .ok (.ireturn, 1) := by decide +kernel
theorem dX0_price_44 : decode cX0_price 44 = .ok (.iconst 2, 1) := by decide +kernel
theorem dX0_price_45 : decode cX0_price 45 = .ok (.iload_n 1, 1) := by decide +kernel
theorem dX0_price_46 : decode cX0_price 46 = .ok (.imul, 1) := by decide +kernel
theorem dX0_price_47 : decode cX0_price 47 = .ok (.iconst 3, 1) := by decide +kernel
theorem dX0_price_48 : decode cX0_price 48 = .ok (.isub, 1) := by decide +kernel
theorem dX0_price_49 : decode cX0_price 49 = .ok (.iconst 0, 1) := by decide +kernel
theorem dX0_price_50 : decode cX0_price 50 = .ok (.invokestatic 11, 3) := by decide +kernel
theorem dX0_price_53 : decode cX0_price 53 = .ok (.ireturn, 1) := by decide +kernel
theorem dX0_price_54 : decode cX0_price 54 = .ok (.iconst 0, 1) := by decide +kernel
theorem dX0_price_55 : decode cX0_price 55 = .ok (.ireturn, 1) := by decide +kernel
theorem dX0_price_56 : decode cX0_price 56 = .ok (.iload_n 1, 1) := by decide +kernel
theorem dX0_price_57 : decode cX0_price 57 = .ok (.iconst 1, 1) := by decide +kernel
theorem dX0_price_58 : decode cX0_price 58 = .ok (.iadd, 1) := by decide +kernel
theorem dX0_price_59 : decode cX0_price 59 = .ok (.ireturn, 1) := by decide +kernel
theorem dX0_price_60 : decode cX0_price 60 = .ok (.iload_n 1, 1) := by decide +kernel
theorem dX0_price_61 : decode cX0_price 61 = .ok (.ireturn, 1) := by decide +kernel
theorem dX0_isUnder_0 : decode cX0_isUnder 0 = .ok (.iload_n 0, 1) := by decide +kernel
theorem dX0_isUnder_1 : decode cX0_isUnder 1 = .ok (.istore_n 2, 1) := by decide +kernel
theorem dX0_isUnder_2 : decode cX0_isUnder 2 = .ok (.iconst 0, 1) := by decide +kernel
theorem dX0_isUnder_3 : decode cX0_isUnder 3 = .ok (.istore_n 3, 1) := by decide +kernel
theorem dX0_isUnder_4 : decode cX0_isUnder 4 = .ok (.iload_n 3, 1) := by decide +kernel
theorem dX0_isUnder_5 : decode cX0_isUnder 5 = .ok (.iconst 5, 1) := by decide +kernel
theorem dX0_isUnder_6 : decode cX0_isUnder 6 = .ok (.if_icmp .gt 27, 3) := by decide +kernel
theorem dX0_isUnder_9 : decode cX0_isUnder 9 = .ok (.iload_n 2, 1) := by decide +kernel
theorem dX0_isUnder_10 : decode cX0_isUnder 10 = .ok (.iconst (-1), 1) := by decide +kernel
theorem dX0_isUnder_11 : decode cX0_isUnder 11 = .ok (.if_icmp .eq 22, 3) := by decide +kernel
theorem dX0_isUnder_14 : decode cX0_isUnder 14 = .ok (.iload_n 2, 1) := by decide +kernel
theorem dX0_isUnder_15 : decode cX0_isUnder 15 = .ok (.iload_n 1, 1) := by decide +kernel
theorem dX0_isUnder_16 : decode cX0_isUnder 16 = .ok (.if_icmp .ne 5, 3) := by decide +kernel
theorem dX0_isUnder_19 : decode cX0_isUnder 19 = .ok (.iconst 1, 1) := by decide +kernel
theorem dX0_isUnder_20 : decode cX0_isUnder 20 = .ok (.ireturn, 1) := by decide +kernel
theorem dX0_isUnder_21 : decode cX0_isUnder 21 = .ok (.getstatic 17, 3) := by decide +kernel
theorem dX0_isUnder_24 : decode cX0_isUnder 24 = .ok (.iload_n 2, 1) := by decide +kernel
theorem dX0_isUnder_25 : decode cX0_isUnder 25 = .ok (.iaload, 1) := by decide +kernel
theorem dX0_isUnder_26 : decode cX0_isUnder 26 = .ok (.istore_n 2, 1) := by decide +kernel
theorem dX0_isUnder_27 : decode cX0_isUnder 27 = .ok (.iinc 3 1, 3) := by decide +kernel
theorem dX0_isUnder_30 : decode cX0_isUnder 30 = .ok (.goto (-26), 3) := by decide +kernel
theorem dX0_isUnder_33 : decode cX0_isUnder 33 = .ok (.iconst 0, 1) := by decide +kernel
theorem dX0_isUnder_34 : decode cX0_isUnder 34 = .ok (.ireturn, 1) := by decide +kernel
theorem dX1_init_0 : decode cX1_init 0 = .ok (.aload_n 0, 1) := by decide +kernel
theorem dX1_init_1 : decode cX1_init 1 = .ok (.invokespecial 3, 3) := by decide +kernel
theorem dX1_init_4 : decode cX1_init 4 = .ok (.aload_n 0, 1) := by decide +kernel
theorem dX1_init_5 : decode cX1_init 5 = .ok (.iconst 2, 1) := by decide +kernel
theorem dX1_init_6 : decode cX1_init 6 = .ok (.newarray .int, 2) := by decide +kernel
theorem dX1_init_8 : decode cX1_init 8 = .ok (.putfield 11, 3) := by decide +kernel
theorem dX1_init_11 : decode cX1_init 11 = .ok (.aload_n 0, 1) := by decide +kernel
theorem dX1_init_12 : decode cX1_init 12 = .ok (.iconst 2, 1) := by decide +kernel
theorem dX1_init_13 : decode cX1_init 13 = .ok (.newarray .int, 2) := by decide +kernel
theorem dX1_init_15 : decode cX1_init 15 = .ok (.putfield 15, 3) := by decide +kernel
theorem dX1_init_18 : decode cX1_init 18 = .ok (.aload_n 0, 1) := by decide +kernel
theorem dX1_init_19 : decode cX1_init 19 = .ok (.bipush 8, 2) := by decide +kernel
theorem dX1_init_21 : decode cX1_init 21 = .ok (.newarray .int, 2) := by decide +kernel
theorem dX1_init_23 : decode cX1_init 23 = .ok (.putfield 18, 3) := by decide +kernel
theorem dX1_init_26 : decode cX1_init 26 = .ok (.aload_n 0, 1) := by decide +kernel
theorem dX1_init_27 : decode cX1_init 27 = .ok (.bipush 16, 2) := by decide +kernel
theorem dX1_init_29 : decode cX1_init 29 = .ok (.newarray .boolean, 2) := by decide +kernel
theorem dX1_init_31 : decode cX1_init 31 = .ok (.putfield 21, 3) := by decide +kernel
theorem dX1_init_34 : decode cX1_init 34 = .ok (.aload_n 0, 1) := by decide +kernel
theorem dX1_init_35 : decode cX1_init 35 = .ok (.bipush 16, 2) := by decide +kernel
theorem dX1_init_37 : decode cX1_init 37 = .ok (.newarray .int, 2) := by decide +kernel
theorem dX1_init_39 : decode cX1_init 39 = .ok (.putfield 25, 3) := by decide +kernel
theorem dX1_init_42 : decode cX1_init 42 = .ok (.aload_n 0, 1) := by decide +kernel
theorem dX1_init_43 : decode cX1_init 43 = .ok (.iconst 4, 1) := by decide +kernel
theorem dX1_init_44 : decode cX1_init 44 = .ok (.newarray .int, 2) := by decide +kernel
theorem dX1_init_46 : decode cX1_init 46 = .ok (.putfield 28, 3) := by decide +kernel
theorem dX1_init_49 : decode cX1_init 49 = .ok (.aload_n 0, 1) := by decide +kernel
theorem dX1_init_50 : decode cX1_init 50 = .ok (.iconst 4, 1) := by decide +kernel
theorem dX1_init_51 : decode cX1_init 51 = .ok (.newarray .int, 2) := by decide +kernel
theorem dX1_init_53 : decode cX1_init 53 = .ok (.putfield 31, 3) := by decide +kernel
theorem dX1_init_56 : decode cX1_init 56 = .ok (.return_, 1) := by decide +kernel
theorem dX1_tryAll_0 : decode cX1_tryAll 0 = .ok (.aload_n 0, 1) := by decide +kernel
theorem dX1_tryAll_1 : decode cX1_tryAll 1 = .ok (.aload_n 1, 1) := by decide +kernel
theorem dX1_tryAll_2 : decode cX1_tryAll 2 = .ok (.invokevirtual 34, 3) := by decide +kernel
theorem dX1_tryAll_5 : decode cX1_tryAll 5 = .ok (.aload_n 0, 1) := by decide +kernel
theorem dX1_tryAll_6 : decode cX1_tryAll 6 = .ok (.getfield 11, 3) := by decide +kernel
theorem dX1_tryAll_9 : decode cX1_tryAll 9 = .ok (.iconst 0, 1) := by decide +kernel
theorem dX1_tryAll_10 : decode cX1_tryAll 10 = .ok (.invokestatic 38, 3) := by decide +kernel
theorem dX1_tryAll_13 : decode cX1_tryAll 13 = .ok (.aload_n 0, 1) := by decide +kernel
theorem dX1_tryAll_14 : decode cX1_tryAll 14 = .ok (.getfield 15, 3) := by decide +kernel
theorem dX1_tryAll_17 : decode cX1_tryAll 17 = .ok (.iconst 0, 1) := by decide +kernel
theorem dX1_tryAll_18 : decode cX1_tryAll 18 = .ok (.invokestatic 38, 3) := by decide +kernel
theorem dX1_tryAll_21 : decode cX1_tryAll 21 = .ok (.aload_n 0, 1) := by decide +kernel
theorem dX1_tryAll_22 : decode cX1_tryAll 22 = .ok (.aload_n 1, 1) := by decide +kernel
theorem dX1_tryAll_23 : decode cX1_tryAll 23 = .ok (.iconst 0, 1) := by decide +kernel
theorem dX1_tryAll_24 : decode cX1_tryAll 24 = .ok (.iconst 0, 1) := by decide +kernel
theorem dX1_tryAll_25 : decode cX1_tryAll 25 = .ok (.iconst 0, 1) := by decide +kernel
theorem dX1_tryAll_26 : decode cX1_tryAll 26 = .ok (.invokevirtual 44, 3) := by decide +kernel
theorem dX1_tryAll_29 : decode cX1_tryAll 29 = .ok (.return_, 1) := by decide +kernel
theorem dX1_bestMaid_0 : decode cX1_bestMaid 0 = .ok (.aload_n 0, 1) := by decide +kernel
theorem dX1_bestMaid_1 : decode cX1_bestMaid 1 = .ok (.getfield 18, 3) := by decide +kernel
theorem dX1_bestMaid_4 : decode cX1_bestMaid 4 = .ok (.iload_n 1, 1) := by decide +kernel
theorem dX1_bestMaid_5 : decode cX1_bestMaid 5 = .ok (.iconst 4, 1) := by decide +kernel
theorem dX1_bestMaid_6 : decode cX1_bestMaid 6 = .ok (.imul, 1) := by decide +kernel
theorem dX1_bestMaid_7 : decode cX1_bestMaid 7 = .ok (.iload_n 2, 1) := by decide +kernel
theorem dX1_bestMaid_8 : decode cX1_bestMaid 8 = .ok (.iadd, 1) := by decide +kernel
theorem dX1_bestMaid_9 : decode cX1_bestMaid 9 = .ok (.iaload, 1) := by decide +kernel
theorem dX1_bestMaid_10 : decode cX1_bestMaid 10 = .ok (.ireturn, 1) := by decide +kernel
theorem dX1_rank_0 : decode cX1_rank 0 = .ok (.aload_n 0, 1) := by decide +kernel
theorem dX1_rank_1 : decode cX1_rank 1 = .ok (.aload_n 1, 1) := by decide +kernel
theorem dX1_rank_2 : decode cX1_rank 2 = .ok (.invokevirtual 34, 3) := by decide +kernel
theorem dX1_rank_5 : decode cX1_rank 5 = .ok (.iconst 0, 1) := by decide +kernel
theorem dX1_rank_6 : decode cX1_rank 6 = .ok (.istore_n 3, 1) := by decide +kernel
theorem dX1_rank_7 : decode cX1_rank 7 = .ok (.iconst 1, 1) := by decide +kernel
theorem dX1_rank_8 : decode cX1_rank 8 = .ok (.istore 4, 2) := by decide +kernel
theorem dX1_rank_10 : decode cX1_rank 10 = .ok (.iconst 0, 1) := by decide +kernel
theorem dX1_rank_11 : decode cX1_rank 11 = .ok (.istore 5, 2) := by decide +kernel
theorem dX1_rank_13 : decode cX1_rank 13 = .ok (.iload 5, 2) := by decide +kernel
theorem dX1_rank_15 : decode cX1_rank 15 = .ok (.aload_n 1, 1) := by decide +kernel
theorem dX1_rank_16 : decode cX1_rank 16 = .ok (.getfield 48, 3) := by decide +kernel
theorem dX1_rank_19 : decode cX1_rank 19 = .ok (.if_icmp .ge 97, 3) := by decide +kernel
theorem dX1_rank_22 : decode cX1_rank 22 = .ok (.aload_n 2, 1) := by decide +kernel
theorem dX1_rank_23 : decode cX1_rank 23 = .ok (.iload 5, 2) := by decide +kernel
theorem dX1_rank_25 : decode cX1_rank 25 = .ok (.iaload, 1) := by decide +kernel
theorem dX1_rank_26 : decode cX1_rank 26 = .ok (.istore 6, 2) := by decide +kernel
theorem dX1_rank_28 : decode cX1_rank 28 = .ok (.iload 6, 2) := by decide +kernel
theorem dX1_rank_30 : decode cX1_rank 30 = .ok (.iconst (-1), 1) := by decide +kernel
theorem dX1_rank_31 : decode cX1_rank 31 = .ok (.if_icmp .lt 28, 3) := by decide +kernel
theorem dX1_rank_34 : decode cX1_rank 34 = .ok (.iload 6, 2) := by decide +kernel
theorem dX1_rank_36 : decode cX1_rank 36 = .ok (.aload_n 1, 1) := by decide +kernel
theorem dX1_rank_37 : decode cX1_rank 37 = .ok (.getfield 54, 3) := by decide +kernel
theorem dX1_rank_40 : decode cX1_rank 40 = .ok (.if_icmp .ge 19, 3) := by decide +kernel
theorem dX1_rank_43 : decode cX1_rank 43 = .ok (.iload 6, 2) := by decide +kernel
theorem dX1_rank_45 : decode cX1_rank 45 = .ok (.iconst (-1), 1) := by decide +kernel
theorem dX1_rank_46 : decode cX1_rank 46 = .ok (.if_icmp .eq 15, 3) := by decide +kernel
theorem dX1_rank_49 : decode cX1_rank 49 = .ok (.iload_n 3, 1) := by decide +kernel
theorem dX1_rank_50 : decode cX1_rank 50 = .ok (.iload 6, 2) := by decide +kernel
theorem dX1_rank_52 : decode cX1_rank 52 = .ok (.ishr, 1) := by decide +kernel
theorem dX1_rank_53 : decode cX1_rank 53 = .ok (.iconst 1, 1) := by decide +kernel
theorem dX1_rank_54 : decode cX1_rank 54 = .ok (.iand, 1) := by decide +kernel
theorem dX1_rank_55 : decode cX1_rank 55 = .ok (.iconst 1, 1) := by decide +kernel
theorem dX1_rank_56 : decode cX1_rank 56 = .ok (.if_icmp .ne 5, 3) := by decide +kernel
theorem dX1_rank_59 : decode cX1_rank 59 = .ok (.iconst 0, 1) := by decide +kernel
theorem dX1_rank_60 : decode cX1_rank 60 = .ok (.ireturn, 1) := by decide +kernel
theorem dX1_rank_61 : decode cX1_rank 61 = .ok (.iload 6, 2) := by decide +kernel
theorem dX1_rank_63 : decode cX1_rank 63 = .ok (.iconst (-1), 1) := by decide +kernel
theorem dX1_rank_64 : decode cX1_rank 64 = .ok (.if_icmp .eq 37, 3) := by decide +kernel
theorem dX1_rank_67 : decode cX1_rank 67 = .ok (.iload_n 3, 1) := by decide +kernel
theorem dX1_rank_68 : decode cX1_rank 68 = .ok (.iconst 1, 1) := by decide +kernel
theorem dX1_rank_69 : decode cX1_rank 69 = .ok (.iload 6, 2) := by decide +kernel
theorem dX1_rank_71 : decode cX1_rank 71 = .ok (.ishl, 1) := by decide +kernel
theorem dX1_rank_72 : decode cX1_rank 72 = .ok (.ior, 1) := by decide +kernel
theorem dX1_rank_73 : decode cX1_rank 73 = .ok (.istore_n 3, 1) := by decide +kernel
theorem dX1_rank_74 : decode cX1_rank 74 = .ok (.iload 4, 2) := by decide +kernel
theorem dX1_rank_76 : decode cX1_rank 76 = .ok (.ifCond .eq 22, 3) := by decide +kernel
theorem dX1_rank_79 : decode cX1_rank 79 = .ok (.aload_n 0, 1) := by decide +kernel
theorem dX1_rank_80 : decode cX1_rank 80 = .ok (.getfield 21, 3) := by decide +kernel
theorem dX1_rank_83 : decode cX1_rank 83 = .ok (.iload 5, 2) := by decide +kernel
theorem dX1_rank_85 : decode cX1_rank 85 = .ok (.iload 6, 2) := by decide +kernel
theorem dX1_rank_87 : decode cX1_rank 87 = .ok (.invokestatic 57, 3) := by decide +kernel
theorem dX1_rank_90 : decode cX1_rank 90 = .ok (.baload, 1) := by decide +kernel
theorem dX1_rank_91 : decode cX1_rank 91 = .ok (.ifCond .eq 7, 3) := by decide +kernel
theorem dX1_rank_94 : decode cX1_rank 94 = .ok (.iconst 1, 1) := by decide +kernel
theorem dX1_rank_95 : decode cX1_rank 95 = .ok (.goto 4, 3) := by decide +kernel
theorem dX1_rank_98 : decode cX1_rank 98 = .ok (.iconst 0, 1) := by decide +kernel
theorem dX1_rank_99 : decode cX1_rank 99 = .ok (.istore 4, 2) := by decide +kernel
theorem dX1_rank_101 : decode cX1_rank 101 = .ok (.aload_n 0, 1) := by decide +kernel
theorem dX1_rank_102 : decode cX1_rank 102 = .ok (.getfield 28, 3) := by decide +kernel
theorem dX1_rank_105 : decode cX1_rank 105 = .ok (.iload 5, 2) := by decide +kernel
theorem dX1_rank_107 : decode cX1_rank 107 = .ok (.iload 6, 2) := by decide +kernel
theorem dX1_rank_109 : decode cX1_rank 109 = .ok (.iastore, 1) := by decide +kernel
theorem dX1_rank_110 : decode cX1_rank 110 = .ok (.iinc 5 1, 3) := by decide +kernel
theorem dX1_rank_113 : decode cX1_rank 113 = .ok (.goto (-100), 3) := by decide +kernel
theorem dX1_rank_116 : decode cX1_rank 116 = .ok (.iload 4, 2) := by decide +kernel
theorem dX1_rank_118 : decode cX1_rank 118 = .ok (.ifCond .ne 5, 3) := by decide +kernel
theorem dX1_rank_121 : decode cX1_rank 121 = .ok (.iconst 1, 1) := by decide +kernel
theorem dX1_rank_122 : decode cX1_rank 122 = .ok (.ireturn, 1) := by decide +kernel
theorem dX1_rank_123 : decode cX1_rank 123 = .ok (.aload_n 0, 1) := by decide +kernel
theorem dX1_rank_124 : decode cX1_rank 124 = .ok (.aload_n 1, 1) := by decide +kernel
theorem dX1_rank_125 : decode cX1_rank 125 = .ok (.invokevirtual 61, 3) := by decide +kernel
theorem dX1_rank_128 : decode cX1_rank 128 = .ok (.ifCond .eq 7, 3) := by decide +kernel
theorem dX1_rank_131 : decode cX1_rank 131 = .ok (.iconst 3, 1) := by decide +kernel
theorem dX1_rank_132 : decode cX1_rank 132 = .ok (.goto 4, 3) := by decide +kernel
theorem dX1_rank_135 : decode cX1_rank 135 = .ok (.iconst 2, 1) := by decide +kernel
theorem dX1_rank_136 : decode cX1_rank 136 = .ok (.ireturn, 1) := by decide +kernel
theorem dX1_weigh_0 : decode cX1_weigh 0 = .ok (.iconst 0, 1) := by decide +kernel
theorem dX1_weigh_1 : decode cX1_weigh 1 = .ok (.istore_n 2, 1) := by decide +kernel
theorem dX1_weigh_2 : decode cX1_weigh 2 = .ok (.iload_n 2, 1) := by decide +kernel
theorem dX1_weigh_3 : decode cX1_weigh 3 = .ok (.aload_n 1, 1) := by decide +kernel
theorem dX1_weigh_4 : decode cX1_weigh 4 = .ok (.getfield 48, 3) := by decide +kernel
theorem dX1_weigh_7 : decode cX1_weigh 7 = .ok (.if_icmp .ge 65, 3) := by decide +kernel
theorem dX1_weigh_10 : decode cX1_weigh 10 = .ok (.iconst 0, 1) := by decide +kernel
theorem dX1_weigh_11 : decode cX1_weigh 11 = .ok (.istore_n 3, 1) := by decide +kernel
theorem dX1_weigh_12 : decode cX1_weigh 12 = .ok (.iload_n 3, 1) := by decide +kernel
theorem dX1_weigh_13 : decode cX1_weigh 13 = .ok (.aload_n 1, 1) := by decide +kernel
theorem dX1_weigh_14 : decode cX1_weigh 14 = .ok (.getfield 54, 3) := by decide +kernel
theorem dX1_weigh_17 : decode cX1_weigh 17 = .ok (.if_icmp .ge 49, 3) := by decide +kernel
theorem dX1_weigh_20 : decode cX1_weigh 20 = .ok (.aload_n 0, 1) := by decide +kernel
theorem dX1_weigh_21 : decode cX1_weigh 21 = .ok (.getfield 21, 3) := by decide +kernel
theorem dX1_weigh_24 : decode cX1_weigh 24 = .ok (.iload_n 2, 1) := by decide +kernel
theorem dX1_weigh_25 : decode cX1_weigh 25 = .ok (.iload_n 3, 1) := by decide +kernel
theorem dX1_weigh_26 : decode cX1_weigh 26 = .ok (.invokestatic 57, 3) := by decide +kernel
theorem dX1_weigh_29 : decode cX1_weigh 29 = .ok (.aload_n 1, 1) := by decide +kernel
theorem dX1_weigh_30 : decode cX1_weigh 30 = .ok (.iload_n 2, 1) := by decide +kernel
theorem dX1_weigh_31 : decode cX1_weigh 31 = .ok (.iload_n 3, 1) := by decide +kernel
theorem dX1_weigh_32 : decode cX1_weigh 32 = .ok (.invokevirtual 65, 3) := by decide +kernel
theorem dX1_weigh_35 : decode cX1_weigh 35 = .ok (.ifCond .ne 7, 3) := by decide +kernel
theorem dX1_weigh_38 : decode cX1_weigh 38 = .ok (.iconst 1, 1) := by decide +kernel
theorem dX1_weigh_39 : decode cX1_weigh 39 = .ok (.goto 4, 3) := by decide +kernel
theorem dX1_weigh_42 : decode cX1_weigh 42 = .ok (.iconst 0, 1) := by decide +kernel
theorem dX1_weigh_43 : decode cX1_weigh 43 = .ok (.bastore, 1) := by decide +kernel
theorem dX1_weigh_44 : decode cX1_weigh 44 = .ok (.aload_n 0, 1) := by decide +kernel
theorem dX1_weigh_45 : decode cX1_weigh 45 = .ok (.getfield 25, 3) := by decide +kernel
theorem dX1_weigh_48 : decode cX1_weigh 48 = .ok (.iload_n 2, 1) := by decide +kernel
theorem dX1_weigh_49 : decode cX1_weigh 49 = .ok (.iload_n 3, 1) := by decide +kernel
theorem dX1_weigh_50 : decode cX1_weigh 50 = .ok (.invokestatic 57, 3) := by decide +kernel
theorem dX1_weigh_53 : decode cX1_weigh 53 = .ok (.aload_n 1, 1) := by decide +kernel
theorem dX1_weigh_54 : decode cX1_weigh 54 = .ok (.iload_n 2, 1) := by decide +kernel
theorem dX1_weigh_55 : decode cX1_weigh 55 = .ok (.iload_n 3, 1) := by decide +kernel
theorem dX1_weigh_56 : decode cX1_weigh 56 = .ok (.invokevirtual 69, 3) := by decide +kernel
theorem dX1_weigh_59 : decode cX1_weigh 59 = .ok (.iastore, 1) := by decide +kernel
theorem dX1_weigh_60 : decode cX1_weigh 60 = .ok (.iinc 3 1, 3) := by decide +kernel
theorem dX1_weigh_63 : decode cX1_weigh 63 = .ok (.goto (-51), 3) := by decide +kernel
theorem dX1_weigh_66 : decode cX1_weigh 66 = .ok (.iinc 2 1, 3) := by decide +kernel
theorem dX1_weigh_69 : decode cX1_weigh 69 = .ok (.goto (-67), 3) := by decide +kernel
theorem dX1_weigh_72 : decode cX1_weigh 72 = .ok (.return_, 1) := by decide +kernel
theorem dX1_pairFrom_0 : decode cX1_pairFrom 0 = .ok (.iload_n 2, 1) := by decide +kernel
theorem dX1_pairFrom_1 : decode cX1_pairFrom 1 = .ok (.aload_n 1, 1) := by decide +kernel
theorem dX1_pairFrom_2 : decode cX1_pairFrom 2 = .ok (.getfield 48, 3) := by decide +kernel
theorem dX1_pairFrom_5 : decode cX1_pairFrom 5 = .ok (.if_icmp .lt 26, 3) := by decide +kernel
theorem dX1_pairFrom_8 : decode cX1_pairFrom 8 = .ok (.aload_n 0, 1) := by decide +kernel
theorem dX1_pairFrom_9 : decode cX1_pairFrom 9 = .ok (.iconst 0, 1) := by decide +kernel
theorem dX1_pairFrom_10 : decode cX1_pairFrom 10 = .ok (.iload 4, 2) := by decide +kernel
theorem dX1_pairFrom_12 : decode cX1_pairFrom 12 = .ok (.invokevirtual 71, 3) := by decide +kernel
theorem dX1_pairFrom_15 : decode cX1_pairFrom 15 = .ok (.aload_n 0, 1) := by decide +kernel
theorem dX1_pairFrom_16 : decode cX1_pairFrom 16 = .ok (.aload_n 1, 1) := by decide +kernel
theorem dX1_pairFrom_17 : decode cX1_pairFrom 17 = .ok (.invokevirtual 61, 3) := by decide +kernel
theorem dX1_pairFrom_20 : decode cX1_pairFrom 20 = .ok (.ifCond .eq 10, 3) := by decide +kernel
theorem dX1_pairFrom_23 : decode cX1_pairFrom 23 = .ok (.aload_n 0, 1) := by decide +kernel
theorem dX1_pairFrom_24 : decode cX1_pairFrom 24 = .ok (.iconst 1, 1) := by decide +kernel
theorem dX1_pairFrom_25 : decode cX1_pairFrom 25 = .ok (.iload 4, 2) := by decide +kernel
theorem dX1_pairFrom_27 : decode cX1_pairFrom 27 = .ok (.invokevirtual 71, 3) := by decide +kernel
theorem dX1_pairFrom_30 : decode cX1_pairFrom 30 = .ok (.return_, 1) := by decide +kernel
theorem dX1_pairFrom_31 : decode cX1_pairFrom 31 = .ok (.aload_n 0, 1) := by decide +kernel
theorem dX1_pairFrom_32 : decode cX1_pairFrom 32 = .ok (.getfield 28, 3) := by decide +kernel
theorem dX1_pairFrom_35 : decode cX1_pairFrom 35 = .ok (.iload_n 2, 1) := by decide +kernel
theorem dX1_pairFrom_36 : decode cX1_pairFrom 36 = .ok (.iconst (-1), 1) := by decide +kernel
theorem dX1_pairFrom_37 : decode cX1_pairFrom 37 = .ok (.iastore, 1) := by decide +kernel
theorem dX1_pairFrom_38 : decode cX1_pairFrom 38 = .ok (.aload_n 0, 1) := by decide +kernel
theorem dX1_pairFrom_39 : decode cX1_pairFrom 39 = .ok (.aload_n 1, 1) := by decide +kernel
theorem dX1_pairFrom_40 : decode cX1_pairFrom 40 = .ok (.iload_n 2, 1) := by decide +kernel
theorem dX1_pairFrom_41 : decode cX1_pairFrom 41 = .ok (.iconst 1, 1) := by decide +kernel
theorem dX1_pairFrom_42 : decode cX1_pairFrom 42 = .ok (.iadd, 1) := by decide +kernel
theorem dX1_pairFrom_43 : decode cX1_pairFrom 43 = .ok (.iload_n 3, 1) := by decide +kernel
theorem dX1_pairFrom_44 : decode cX1_pairFrom 44 = .ok (.iload 4, 2) := by decide +kernel
theorem dX1_pairFrom_46 : decode cX1_pairFrom 46 = .ok (.invokevirtual 44, 3) := by decide +kernel
theorem dX1_pairFrom_49 : decode cX1_pairFrom 49 = .ok (.iconst 0, 1) := by decide +kernel
theorem dX1_pairFrom_50 : decode cX1_pairFrom 50 = .ok (.istore 5, 2) := by decide +kernel
theorem dX1_pairFrom_52 : decode cX1_pairFrom 52 = .ok (.iload 5, 2) := by decide +kernel
theorem dX1_pairFrom_54 : decode cX1_pairFrom 54 = .ok (.aload_n 1, 1) := by decide +kernel
theorem dX1_pairFrom_55 : decode cX1_pairFrom 55 = .ok (.getfield 54, 3) := by decide +kernel
theorem dX1_pairFrom_58 : decode cX1_pairFrom 58 = .ok (.if_icmp .ge 68, 3) := by decide +kernel
theorem dX1_pairFrom_61 : decode cX1_pairFrom 61 = .ok (.iload_n 3, 1) := by decide +kernel
theorem dX1_pairFrom_62 : decode cX1_pairFrom 62 = .ok (.iload 5, 2) := by decide +kernel
theorem dX1_pairFrom_64 : decode cX1_pairFrom 64 = .ok (.ishr, 1) := by decide +kernel
theorem dX1_pairFrom_65 : decode cX1_pairFrom 65 = .ok (.iconst 1, 1) := by decide +kernel
theorem dX1_pairFrom_66 : decode cX1_pairFrom 66 = .ok (.iand, 1) := by decide +kernel
theorem dX1_pairFrom_67 : decode cX1_pairFrom 67 = .ok (.ifCond .ne 53, 3) := by decide +kernel
theorem dX1_pairFrom_70 : decode cX1_pairFrom 70 = .ok (.aload_n 0, 1) := by decide +kernel
theorem dX1_pairFrom_71 : decode cX1_pairFrom 71 = .ok (.getfield 21, 3) := by decide +kernel
theorem dX1_pairFrom_74 : decode cX1_pairFrom 74 = .ok (.iload_n 2, 1) := by decide +kernel
theorem dX1_pairFrom_75 : decode cX1_pairFrom 75 = .ok (.iload 5, 2) := by decide +kernel
theorem dX1_pairFrom_77 : decode cX1_pairFrom 77 = .ok (.invokestatic 57, 3) := by decide +kernel
theorem dX1_pairFrom_80 : decode cX1_pairFrom 80 = .ok (.baload, 1) := by decide +kernel
theorem dX1_pairFrom_81 : decode cX1_pairFrom 81 = .ok (.ifCond .eq 39, 3) := by decide +kernel
theorem dX1_pairFrom_84 : decode cX1_pairFrom 84 = .ok (.aload_n 0, 1) := by decide +kernel
theorem dX1_pairFrom_85 : decode cX1_pairFrom 85 = .ok (.getfield 28, 3) := by decide +kernel
theorem dX1_pairFrom_88 : decode cX1_pairFrom 88 = .ok (.iload_n 2, 1) := by decide +kernel
theorem dX1_pairFrom_89 : decode cX1_pairFrom 89 = .ok (.iload 5, 2) := by decide +kernel
theorem dX1_pairFrom_91 : decode cX1_pairFrom 91 = .ok (.iastore, 1) := by decide +kernel
theorem dX1_pairFrom_92 : decode cX1_pairFrom 92 = .ok (.aload_n 0, 1) := by decide +kernel
theorem dX1_pairFrom_93 : decode cX1_pairFrom 93 = .ok (.aload_n 1, 1) := by decide +kernel
theorem dX1_pairFrom_94 : decode cX1_pairFrom 94 = .ok (.iload_n 2, 1) := by decide +kernel
theorem dX1_pairFrom_95 : decode cX1_pairFrom 95 = .ok (.iconst 1, 1) := by decide +kernel
theorem dX1_pairFrom_96 : decode cX1_pairFrom 96 = .ok (.iadd, 1) := by decide +kernel
theorem dX1_pairFrom_97 : decode cX1_pairFrom 97 = .ok (.iload_n 3, 1) := by decide +kernel
theorem dX1_pairFrom_98 : decode cX1_pairFrom 98 = .ok (.iconst 1, 1) := by decide +kernel
theorem dX1_pairFrom_99 : decode cX1_pairFrom 99 = .ok (.iload 5, 2) := by decide +kernel
theorem dX1_pairFrom_101 : decode cX1_pairFrom 101 = .ok (.ishl, 1) := by decide +kernel
theorem dX1_pairFrom_102 : decode cX1_pairFrom 102 = .ok (.ior, 1) := by decide +kernel
theorem dX1_pairFrom_103 : decode cX1_pairFrom 103 = .ok (.iload 4, 2) := by decide +kernel
theorem dX1_pairFrom_105 : decode cX1_pairFrom 105 = .ok (.aload_n 0, 1) := by decide +kernel
theorem dX1_pairFrom_106 : decode cX1_pairFrom 106 = .ok (.getfield 25, 3) := by decide +kernel
theorem dX1_pairFrom_109 : decode cX1_pairFrom 109 = .ok (.iload_n 2, 1) := by decide +kernel
theorem dX1_pairFrom_110 : decode cX1_pairFrom 110 = .ok (.iload 5, 2) := by decide +kernel
theorem dX1_pairFrom_112 : decode cX1_pairFrom 112 = .ok (.invokestatic 57, 3) := by decide +kernel
theorem dX1_pairFrom_115 : decode cX1_pairFrom 115 = .ok (.iaload, 1) := by decide +kernel
theorem dX1_pairFrom_116 : decode cX1_pairFrom 116 = .ok (.iadd, 1) := by decide +kernel
theorem dX1_pairFrom_117 : decode cX1_pairFrom 117 = .ok (.invokevirtual 44, 3) := by decide +kernel
theorem dX1_pairFrom_120 : decode cX1_pairFrom 120 = .ok (.iinc 5 1, 3) := by decide +kernel
theorem dX1_pairFrom_123 : decode cX1_pairFrom 123 = .ok (.goto (-71), 3) := by decide +kernel
theorem dX1_pairFrom_126 : decode cX1_pairFrom 126 = .ok (.return_, 1) := by decide +kernel
theorem dX1_enter_0 : decode cX1_enter 0 = .ok (.aload_n 0, 1) := by decide +kernel
theorem dX1_enter_1 : decode cX1_enter 1 = .ok (.getfield 11, 3) := by decide +kernel
theorem dX1_enter_4 : decode cX1_enter 4 = .ok (.iload_n 1, 1) := by decide +kernel
theorem dX1_enter_5 : decode cX1_enter 5 = .ok (.iaload, 1) := by decide +kernel
theorem dX1_enter_6 : decode cX1_enter 6 = .ok (.ifCond .eq 13, 3) := by decide +kernel
theorem dX1_enter_9 : decode cX1_enter 9 = .ok (.iload_n 2, 1) := by decide +kernel
theorem dX1_enter_10 : decode cX1_enter 10 = .ok (.aload_n 0, 1) := by decide +kernel
theorem dX1_enter_11 : decode cX1_enter 11 = .ok (.getfield 15, 3) := by decide +kernel
theorem dX1_enter_14 : decode cX1_enter 14 = .ok (.iload_n 1, 1) := by decide +kernel
theorem dX1_enter_15 : decode cX1_enter 15 = .ok (.iaload, 1) := by decide +kernel
theorem dX1_enter_16 : decode cX1_enter 16 = .ok (.if_icmp .le 26, 3) := by decide +kernel
theorem dX1_enter_19 : decode cX1_enter 19 = .ok (.aload_n 0, 1) := by decide +kernel
theorem dX1_enter_20 : decode cX1_enter 20 = .ok (.getfield 15, 3) := by decide +kernel
theorem dX1_enter_23 : decode cX1_enter 23 = .ok (.iload_n 1, 1) := by decide +kernel
theorem dX1_enter_24 : decode cX1_enter 24 = .ok (.iload_n 2, 1) := by decide +kernel
theorem dX1_enter_25 : decode cX1_enter 25 = .ok (.iastore, 1) := by decide +kernel
theorem dX1_enter_26 : decode cX1_enter 26 = .ok (.aload_n 0, 1) := by decide +kernel
theorem dX1_enter_27 : decode cX1_enter 27 = .ok (.getfield 28, 3) := by decide +kernel
theorem dX1_enter_30 : decode cX1_enter 30 = .ok (.iconst 0, 1) := by decide +kernel
theorem dX1_enter_31 : decode cX1_enter 31 = .ok (.aload_n 0, 1) := by decide +kernel
theorem dX1_enter_32 : decode cX1_enter 32 = .ok (.getfield 18, 3) := by decide +kernel
theorem dX1_enter_35 : decode cX1_enter 35 = .ok (.iload_n 1, 1) := by decide +kernel
theorem dX1_enter_36 : decode cX1_enter 36 = .ok (.iconst 4, 1) := by decide +kernel
theorem dX1_enter_37 : decode cX1_enter 37 = .ok (.imul, 1) := by decide +kernel
theorem dX1_enter_38 : decode cX1_enter 38 = .ok (.iconst 4, 1) := by decide +kernel
theorem dX1_enter_39 : decode cX1_enter 39 = .ok (.invokestatic 75, 3) := by decide +kernel
theorem dX1_enter_42 : decode cX1_enter 42 = .ok (.aload_n 0, 1) := by decide +kernel
theorem dX1_enter_43 : decode cX1_enter 43 = .ok (.getfield 11, 3) := by decide +kernel
theorem dX1_enter_46 : decode cX1_enter 46 = .ok (.iload_n 1, 1) := by decide +kernel
theorem dX1_enter_47 : decode cX1_enter 47 = .ok (.dup2, 1) := by decide +kernel
theorem dX1_enter_48 : decode cX1_enter 48 = .ok (.iaload, 1) := by decide +kernel
theorem dX1_enter_49 : decode cX1_enter 49 = .ok (.iconst 1, 1) := by decide +kernel
theorem dX1_enter_50 : decode cX1_enter 50 = .ok (.iadd, 1) := by decide +kernel
theorem dX1_enter_51 : decode cX1_enter 51 = .ok (.iastore, 1) := by decide +kernel
theorem dX1_enter_52 : decode cX1_enter 52 = .ok (.return_, 1) := by decide +kernel
theorem dX1_isSteady_0 : decode cX1_isSteady 0 = .ok (.aload_n 0, 1) := by decide +kernel
theorem dX1_isSteady_1 : decode cX1_isSteady 1 = .ok (.getfield 31, 3) := by decide +kernel
theorem dX1_isSteady_4 : decode cX1_isSteady 4 = .ok (.iconst (-1), 1) := by decide +kernel
theorem dX1_isSteady_5 : decode cX1_isSteady 5 = .ok (.invokestatic 38, 3) := by decide +kernel
theorem dX1_isSteady_8 : decode cX1_isSteady 8 = .ok (.iconst 0, 1) := by decide +kernel
theorem dX1_isSteady_9 : decode cX1_isSteady 9 = .ok (.istore_n 2, 1) := by decide +kernel
theorem dX1_isSteady_10 : decode cX1_isSteady 10 = .ok (.iload_n 2, 1) := by decide +kernel
theorem dX1_isSteady_11 : decode cX1_isSteady 11 = .ok (.aload_n 1, 1) := by decide +kernel
theorem dX1_isSteady_12 : decode cX1_isSteady 12 = .ok (.getfield 48, 3) := by decide +kernel
theorem dX1_isSteady_15 : decode cX1_isSteady 15 = .ok (.if_icmp .ge 45, 3) := by decide +kernel
theorem dX1_isSteady_18 : decode cX1_isSteady 18 = .ok (.aload_n 0, 1) := by decide +kernel
theorem dX1_isSteady_19 : decode cX1_isSteady 19 = .ok (.getfield 28, 3) := by decide +kernel
theorem dX1_isSteady_22 : decode cX1_isSteady 22 = .ok (.iload_n 2, 1) := by decide +kernel
theorem dX1_isSteady_23 : decode cX1_isSteady 23 = .ok (.iaload, 1) := by decide +kernel
theorem dX1_isSteady_24 : decode cX1_isSteady 24 = .ok (.iconst (-1), 1) := by decide +kernel
theorem dX1_isSteady_25 : decode cX1_isSteady 25 = .ok (.if_icmp .eq 29, 3) := by decide +kernel
theorem dX1_isSteady_28 : decode cX1_isSteady 28 = .ok (.aload_n 0, 1) := by decide +kernel
theorem dX1_isSteady_29 : decode cX1_isSteady 29 = .ok (.getfield 31, 3) := by decide +kernel
theorem dX1_isSteady_32 : decode cX1_isSteady 32 = .ok (.aload_n 0, 1) := by decide +kernel
theorem dX1_isSteady_33 : decode cX1_isSteady 33 = .ok (.getfield 28, 3) := by decide +kernel
theorem dX1_isSteady_36 : decode cX1_isSteady 36 = .ok (.iload_n 2, 1) := by decide +kernel
theorem dX1_isSteady_37 : decode cX1_isSteady 37 = .ok (.iaload, 1) := by decide +kernel
theorem dX1_isSteady_38 : decode cX1_isSteady 38 = .ok (.aload_n 1, 1) := by decide +kernel
theorem dX1_isSteady_39 : decode cX1_isSteady 39 = .ok (.getfield 81, 3) := by decide +kernel
theorem dX1_isSteady_42 : decode cX1_isSteady 42 = .ok (.iload_n 2, 1) := by decide +kernel
theorem dX1_isSteady_43 : decode cX1_isSteady 43 = .ok (.aload_n 0, 1) := by decide +kernel
theorem dX1_isSteady_44 : decode cX1_isSteady 44 = .ok (.getfield 28, 3) := by decide +kernel
theorem dX1_isSteady_47 : decode cX1_isSteady 47 = .ok (.iload_n 2, 1) := by decide +kernel
theorem dX1_isSteady_48 : decode cX1_isSteady 48 = .ok (.iaload, 1) := by decide +kernel
theorem dX1_isSteady_49 : decode cX1_isSteady 49 = .ok (.invokestatic 57, 3) := by decide +kernel
theorem dX1_isSteady_52 : decode cX1_isSteady 52 = .ok (.iaload, 1) := by decide +kernel
theorem dX1_isSteady_53 : decode cX1_isSteady 53 = .ok (.iastore, 1) := by decide +kernel
theorem dX1_isSteady_54 : decode cX1_isSteady 54 = .ok (.iinc 2 1, 3) := by decide +kernel
theorem dX1_isSteady_57 : decode cX1_isSteady 57 = .ok (.goto (-47), 3) := by decide +kernel
theorem dX1_isSteady_60 : decode cX1_isSteady 60 = .ok (.iconst 0, 1) := by decide +kernel
theorem dX1_isSteady_61 : decode cX1_isSteady 61 = .ok (.istore_n 2, 1) := by decide +kernel
theorem dX1_isSteady_62 : decode cX1_isSteady 62 = .ok (.iload_n 2, 1) := by decide +kernel
theorem dX1_isSteady_63 : decode cX1_isSteady 63 = .ok (.aload_n 1, 1) := by decide +kernel
theorem dX1_isSteady_64 : decode cX1_isSteady 64 = .ok (.getfield 48, 3) := by decide +kernel
theorem dX1_isSteady_67 : decode cX1_isSteady 67 = .ok (.if_icmp .ge 105, 3) := by decide +kernel
theorem dX1_isSteady_70 : decode cX1_isSteady 70 = .ok (.aload_n 0, 1) := by decide +kernel
theorem dX1_isSteady_71 : decode cX1_isSteady 71 = .ok (.getfield 28, 3) := by decide +kernel
theorem dX1_isSteady_74 : decode cX1_isSteady 74 = .ok (.iload_n 2, 1) := by decide +kernel
theorem dX1_isSteady_75 : decode cX1_isSteady 75 = .ok (.iaload, 1) := by decide +kernel
theorem dX1_isSteady_76 : decode cX1_isSteady 76 = .ok (.iconst (-1), 1) := by decide +kernel
theorem dX1_isSteady_77 : decode cX1_isSteady 77 = .ok (.if_icmp .ne 7, 3) := by decide +kernel
theorem dX1_isSteady_80 : decode cX1_isSteady 80 = .ok (.iconst (-1), 1) := by decide +kernel
theorem dX1_isSteady_81 : decode cX1_isSteady 81 = .ok (.goto 18, 3) := by decide +kernel
theorem dX1_isSteady_84 : decode cX1_isSteady 84 = .ok (.aload_n 1, 1) := by decide +kernel
theorem dX1_isSteady_85 : decode cX1_isSteady 85 = .ok (.getfield 84, 3) := by decide +kernel
theorem dX1_isSteady_88 : decode cX1_isSteady 88 = .ok (.iload_n 2, 1) := by decide +kernel
theorem dX1_isSteady_89 : decode cX1_isSteady 89 = .ok (.aload_n 0, 1) := by decide +kernel
theorem dX1_isSteady_90 : decode cX1_isSteady 90 = .ok (.getfield 28, 3) := by decide +kernel
theorem dX1_isSteady_93 : decode cX1_isSteady 93 = .ok (.iload_n 2, 1) := by decide +kernel
theorem dX1_isSteady_94 : decode cX1_isSteady 94 = .ok (.iaload, 1) := by decide +kernel
theorem dX1_isSteady_95 : decode cX1_isSteady 95 = .ok (.invokestatic 57, 3) := by decide +kernel
theorem dX1_isSteady_98 : decode cX1_isSteady 98 = .ok (.iaload, 1) := by decide +kernel
theorem dX1_isSteady_99 : decode cX1_isSteady 99 = .ok (.istore_n 3, 1) := by decide +kernel
theorem dX1_isSteady_100 : decode cX1_isSteady 100 = .ok (.iconst 0, 1) := by decide +kernel
theorem dX1_isSteady_101 : decode cX1_isSteady 101 = .ok (.istore 4, 2) := by decide +kernel
theorem dX1_isSteady_103 : decode cX1_isSteady 103 = .ok (.iload 4, 2) := by decide +kernel
theorem dX1_isSteady_105 : decode cX1_isSteady 105 = .ok (.aload_n 1, 1) := by decide +kernel
theorem dX1_isSteady_106 : decode cX1_isSteady 106 = .ok (.getfield 54, 3) := by decide +kernel
theorem dX1_isSteady_109 : decode cX1_isSteady 109 = .ok (.if_icmp .ge 57, 3) := by decide +kernel
theorem dX1_isSteady_112 : decode cX1_isSteady 112 = .ok (.iload_n 2, 1) := by decide +kernel
theorem dX1_isSteady_113 : decode cX1_isSteady 113 = .ok (.iload 4, 2) := by decide +kernel
theorem dX1_isSteady_115 : decode cX1_isSteady 115 = .ok (.invokestatic 57, 3) := by decide +kernel
theorem dX1_isSteady_118 : decode cX1_isSteady 118 = .ok (.istore 5, 2) := by decide +kernel
theorem dX1_isSteady_120 : decode cX1_isSteady 120 = .ok (.aload_n 0, 1) := by decide +kernel
theorem dX1_isSteady_121 : decode cX1_isSteady 121 = .ok (.getfield 21, 3) := by decide +kernel
theorem dX1_isSteady_124 : decode cX1_isSteady 124 = .ok (.iload 5, 2) := by decide +kernel
theorem dX1_isSteady_126 : decode cX1_isSteady 126 = .ok (.baload, 1) := by decide +kernel
theorem dX1_isSteady_127 : decode cX1_isSteady 127 = .ok (.ifCond .eq 33, 3) := by decide +kernel
theorem dX1_isSteady_130 : decode cX1_isSteady 130 = .ok (.aload_n 1, 1) := by decide +kernel
theorem dX1_isSteady_131 : decode cX1_isSteady 131 = .ok (.getfield 84, 3) := by decide +kernel
theorem dX1_isSteady_134 : decode cX1_isSteady 134 = .ok (.iload 5, 2) := by decide +kernel
theorem dX1_isSteady_136 : decode cX1_isSteady 136 = .ok (.iaload, 1) := by decide +kernel
theorem dX1_isSteady_137 : decode cX1_isSteady 137 = .ok (.iload_n 3, 1) := by decide +kernel
theorem dX1_isSteady_138 : decode cX1_isSteady 138 = .ok (.if_icmp .le 22, 3) := by decide +kernel
theorem dX1_isSteady_141 : decode cX1_isSteady 141 = .ok (.aload_n 1, 1) := by decide +kernel
theorem dX1_isSteady_142 : decode cX1_isSteady 142 = .ok (.getfield 81, 3) := by decide +kernel
theorem dX1_isSteady_145 : decode cX1_isSteady 145 = .ok (.iload 5, 2) := by decide +kernel
theorem dX1_isSteady_147 : decode cX1_isSteady 147 = .ok (.iaload, 1) := by decide +kernel
theorem dX1_isSteady_148 : decode cX1_isSteady 148 = .ok (.aload_n 0, 1) := by decide +kernel
theorem dX1_isSteady_149 : decode cX1_isSteady 149 = .ok (.getfield 31, 3) := by decide +kernel
theorem dX1_isSteady_152 : decode cX1_isSteady 152 = .ok (.iload 4, 2) := by decide +kernel
theorem dX1_isSteady_154 : decode cX1_isSteady 154 = .ok (.iaload, 1) := by decide +kernel
theorem dX1_isSteady_155 : decode cX1_isSteady 155 = .ok (.if_icmp .le 5, 3) := by decide +kernel
theorem dX1_isSteady_158 : decode cX1_isSteady 158 = .ok (.iconst 0, 1) := by decide +kernel
theorem dX1_isSteady_159 : decode cX1_isSteady 159 = .ok (.ireturn, 1) := by decide +kernel
theorem dX1_isSteady_160 : decode cX1_isSteady 160 = .ok (.iinc 4 1, 3) := by decide +kernel
theorem dX1_isSteady_163 : decode cX1_isSteady 163 = .ok (.goto (-60), 3) := by decide +kernel
theorem dX1_isSteady_166 : decode cX1_isSteady 166 = .ok (.iinc 2 1, 3) := by decide +kernel
theorem dX1_isSteady_169 : decode cX1_isSteady 169 = .ok (.goto (-107), 3) := by decide +kernel
theorem dX1_isSteady_172 : decode cX1_isSteady 172 = .ok (.iconst 1, 1) := by decide +kernel
theorem dX1_isSteady_173 : decode cX1_isSteady 173 = .ok (.ireturn, 1) := by decide +kernel
theorem dX2_init_0 : decode cX2_init 0 = .ok (.aload_n 0, 1) := by decide +kernel
theorem dX2_init_1 : decode cX2_init 1 = .ok (.invokespecial 3, 3) := by decide +kernel
theorem dX2_init_4 : decode cX2_init 4 = .ok (.aload_n 0, 1) := by decide +kernel
theorem dX2_init_5 : decode cX2_init 5 = .ok (.sipush 160, 3) := by decide +kernel
theorem dX2_init_8 : decode cX2_init 8 = .ok (.newarray .int, 2) := by decide +kernel
theorem dX2_init_10 : decode cX2_init 10 = .ok (.putfield 11, 3) := by decide +kernel
theorem dX2_init_13 : decode cX2_init 13 = .ok (.aload_n 0, 1) := by decide +kernel
theorem dX2_init_14 : decode cX2_init 14 = .ok (.iconst 3, 1) := by decide +kernel
theorem dX2_init_15 : decode cX2_init 15 = .ok (.newarray .int, 2) := by decide +kernel
theorem dX2_init_17 : decode cX2_init 17 = .ok (.putfield 17, 3) := by decide +kernel
theorem dX2_init_20 : decode cX2_init 20 = .ok (.aload_n 0, 1) := by decide +kernel
theorem dX2_init_21 : decode cX2_init 21 = .ok (.iconst 0, 1) := by decide +kernel
theorem dX2_init_22 : decode cX2_init 22 = .ok (.putfield 20, 3) := by decide +kernel
theorem dX2_init_25 : decode cX2_init 25 = .ok (.aload_n 0, 1) := by decide +kernel
theorem dX2_init_26 : decode cX2_init 26 = .ok (.sipush 160, 3) := by decide +kernel
theorem dX2_init_29 : decode cX2_init 29 = .ok (.newarray .int, 2) := by decide +kernel
theorem dX2_init_31 : decode cX2_init 31 = .ok (.putfield 24, 3) := by decide +kernel
theorem dX2_init_34 : decode cX2_init 34 = .ok (.aload_n 0, 1) := by decide +kernel
theorem dX2_init_35 : decode cX2_init 35 = .ok (.iconst 0, 1) := by decide +kernel
theorem dX2_init_36 : decode cX2_init 36 = .ok (.putfield 27, 3) := by decide +kernel
theorem dX2_init_39 : decode cX2_init 39 = .ok (.aload_n 0, 1) := by decide +kernel
theorem dX2_init_40 : decode cX2_init 40 = .ok (.iconst 0, 1) := by decide +kernel
theorem dX2_init_41 : decode cX2_init 41 = .ok (.putfield 30, 3) := by decide +kernel
theorem dX2_init_44 : decode cX2_init 44 = .ok (.aload_n 0, 1) := by decide +kernel
theorem dX2_init_45 : decode cX2_init 45 = .ok (.iconst 0, 1) := by decide +kernel
theorem dX2_init_46 : decode cX2_init 46 = .ok (.putfield 33, 3) := by decide +kernel
theorem dX2_init_49 : decode cX2_init 49 = .ok (.aload_n 0, 1) := by decide +kernel
theorem dX2_init_50 : decode cX2_init 50 = .ok (.iconst (-1), 1) := by decide +kernel
theorem dX2_init_51 : decode cX2_init 51 = .ok (.putfield 36, 3) := by decide +kernel
theorem dX2_init_54 : decode cX2_init 54 = .ok (.aload_n 0, 1) := by decide +kernel
theorem dX2_init_55 : decode cX2_init 55 = .ok (.iconst 0, 1) := by decide +kernel
theorem dX2_init_56 : decode cX2_init 56 = .ok (.putfield 39, 3) := by decide +kernel
theorem dX2_init_59 : decode cX2_init 59 = .ok (.aload_n 0, 1) := by decide +kernel
theorem dX2_init_60 : decode cX2_init 60 = .ok (.iconst (-1), 1) := by decide +kernel
theorem dX2_init_61 : decode cX2_init 61 = .ok (.putfield 42, 3) := by decide +kernel
theorem dX2_init_64 : decode cX2_init 64 = .ok (.return_, 1) := by decide +kernel
theorem dX2_append_0 : decode cX2_append 0 = .ok (.aload_n 0, 1) := by decide +kernel
theorem dX2_append_1 : decode cX2_append 1 = .ok (.getfield 20, 3) := by decide +kernel
theorem dX2_append_4 : decode cX2_append 4 = .ok (.sipush 160, 3) := by decide +kernel
theorem dX2_append_7 : decode cX2_append 7 = .ok (.if_icmp .lt 5, 3) := by decide +kernel
theorem dX2_append_10 : decode cX2_append 10 = .ok (.iconst 0, 1) := by decide +kernel
theorem dX2_append_11 : decode cX2_append 11 = .ok (.ireturn, 1) := by decide +kernel
theorem dX2_append_12 : decode cX2_append 12 = .ok (.aload_n 0, 1) := by decide +kernel
theorem dX2_append_13 : decode cX2_append 13 = .ok (.getfield 24, 3) := by decide +kernel
theorem dX2_append_16 : decode cX2_append 16 = .ok (.aload_n 0, 1) := by decide +kernel
theorem dX2_append_17 : decode cX2_append 17 = .ok (.getfield 20, 3) := by decide +kernel
theorem dX2_append_20 : decode cX2_append 20 = .ok (.iload_n 1, 1) := by decide +kernel
theorem dX2_append_21 : decode cX2_append 21 = .ok (.iastore, 1) := by decide +kernel
theorem dX2_append_22 : decode cX2_append 22 = .ok (.aload_n 0, 1) := by decide +kernel
theorem dX2_append_23 : decode cX2_append 23 = .ok (.dup, 1) := by decide +kernel
theorem dX2_append_24 : decode cX2_append 24 = .ok (.getfield 20, 3) := by decide +kernel
theorem dX2_append_27 : decode cX2_append 27 = .ok (.iconst 1, 1) := by decide +kernel
theorem dX2_append_28 : decode cX2_append 28 = .ok (.iadd, 1) := by decide +kernel
theorem dX2_append_29 : decode cX2_append 29 = .ok (.putfield 20, 3) := by decide +kernel
theorem dX2_append_32 : decode cX2_append 32 = .ok (.iconst 1, 1) := by decide +kernel
theorem dX2_append_33 : decode cX2_append 33 = .ok (.ireturn, 1) := by decide +kernel
theorem dX2_read_0 : decode cX2_read 0 = .ok (.aload_n 0, 1) := by decide +kernel
theorem dX2_read_1 : decode cX2_read 1 = .ok (.iconst 0, 1) := by decide +kernel
theorem dX2_read_2 : decode cX2_read 2 = .ok (.putfield 27, 3) := by decide +kernel
theorem dX2_read_5 : decode cX2_read 5 = .ok (.aload_n 0, 1) := by decide +kernel
theorem dX2_read_6 : decode cX2_read 6 = .ok (.iconst 0, 1) := by decide +kernel
theorem dX2_read_7 : decode cX2_read 7 = .ok (.putfield 30, 3) := by decide +kernel
theorem dX2_read_10 : decode cX2_read 10 = .ok (.aload_n 0, 1) := by decide +kernel
theorem dX2_read_11 : decode cX2_read 11 = .ok (.iconst (-1), 1) := by decide +kernel
theorem dX2_read_12 : decode cX2_read 12 = .ok (.putfield 42, 3) := by decide +kernel
theorem dX2_read_15 : decode cX2_read 15 = .ok (.aload_n 0, 1) := by decide +kernel
theorem dX2_read_16 : decode cX2_read 16 = .ok (.invokevirtual 45, 3) := by decide +kernel
theorem dX2_read_19 : decode cX2_read 19 = .ok (.iconst 0, 1) := by decide +kernel
theorem dX2_read_20 : decode cX2_read 20 = .ok (.istore_n 1, 1) := by decide +kernel
theorem dX2_read_21 : decode cX2_read 21 = .ok (.iload_n 1, 1) := by decide +kernel
theorem dX2_read_22 : decode cX2_read 22 = .ok (.iconst 3, 1) := by decide +kernel
theorem dX2_read_23 : decode cX2_read 23 = .ok (.if_icmp .ge 39, 3) := by decide +kernel
theorem dX2_read_26 : decode cX2_read 26 = .ok (.aload_n 0, 1) := by decide +kernel
theorem dX2_read_27 : decode cX2_read 27 = .ok (.bipush 7, 2) := by decide +kernel
theorem dX2_read_29 : decode cX2_read 29 = .ok (.iload_n 1, 1) := by decide +kernel
theorem dX2_read_30 : decode cX2_read 30 = .ok (.iadd, 1) := by decide +kernel
theorem dX2_read_31 : decode cX2_read 31 = .ok (.invokevirtual 48, 3) := by decide +kernel
theorem dX2_read_34 : decode cX2_read 34 = .ok (.aload_n 0, 1) := by decide +kernel
theorem dX2_read_35 : decode cX2_read 35 = .ok (.iconst 0, 1) := by decide +kernel
theorem dX2_read_36 : decode cX2_read 36 = .ok (.iconst 0, 1) := by decide +kernel
theorem dX2_read_37 : decode cX2_read 37 = .ok (.invokevirtual 52, 3) := by decide +kernel
theorem dX2_read_40 : decode cX2_read 40 = .ok (.aload_n 0, 1) := by decide +kernel
theorem dX2_read_41 : decode cX2_read 41 = .ok (.bipush 59, 2) := by decide +kernel
theorem dX2_read_43 : decode cX2_read 43 = .ok (.invokevirtual 48, 3) := by decide +kernel
theorem dX2_read_46 : decode cX2_read 46 = .ok (.aload_n 0, 1) := by decide +kernel
theorem dX2_read_47 : decode cX2_read 47 = .ok (.getfield 17, 3) := by decide +kernel
theorem dX2_read_50 : decode cX2_read 50 = .ok (.iload_n 1, 1) := by decide +kernel
theorem dX2_read_51 : decode cX2_read 51 = .ok (.aload_n 0, 1) := by decide +kernel
theorem dX2_read_52 : decode cX2_read 52 = .ok (.getfield 27, 3) := by decide +kernel
theorem dX2_read_55 : decode cX2_read 55 = .ok (.iastore, 1) := by decide +kernel
theorem dX2_read_56 : decode cX2_read 56 = .ok (.iinc 1 1, 3) := by decide +kernel
theorem dX2_read_59 : decode cX2_read 59 = .ok (.goto (-38), 3) := by decide +kernel
theorem dX2_read_62 : decode cX2_read 62 = .ok (.aload_n 0, 1) := by decide +kernel
theorem dX2_read_63 : decode cX2_read 63 = .ok (.iconst (-1), 1) := by decide +kernel
theorem dX2_read_64 : decode cX2_read 64 = .ok (.invokevirtual 48, 3) := by decide +kernel
theorem dX2_read_67 : decode cX2_read 67 = .ok (.aload_n 0, 1) := by decide +kernel
theorem dX2_read_68 : decode cX2_read 68 = .ok (.getfield 42, 3) := by decide +kernel
theorem dX2_read_71 : decode cX2_read 71 = .ok (.ireturn, 1) := by decide +kernel
theorem dX2_readLevel_0 : decode cX2_readLevel 0 = .ok (.iload_n 1, 1) := by decide +kernel
theorem dX2_readLevel_1 : decode cX2_readLevel 1 = .ok (.iconst 4, 1) := by decide +kernel
theorem dX2_readLevel_2 : decode cX2_readLevel 2 = .ok (.if_icmp .le 9, 3) := by decide +kernel
theorem dX2_readLevel_5 : decode cX2_readLevel 5 = .ok (.aload_n 0, 1) := by decide +kernel
theorem dX2_readLevel_6 : decode cX2_readLevel 6 = .ok (.iload_n 2, 1) := by decide +kernel
theorem dX2_readLevel_7 : decode cX2_readLevel 7 = .ok (.invokevirtual 56, 3) := by decide +kernel
theorem dX2_readLevel_10 : decode cX2_readLevel 10 = .ok (.return_, 1) := by decide +kernel
theorem dX2_readLevel_11 : decode cX2_readLevel 11 = .ok (.iload_n 1, 1) := by decide +kernel
theorem dX2_readLevel_12 : decode cX2_readLevel 12 = .ok (.iconst 2, 1) := by decide +kernel
theorem dX2_readLevel_13 : decode cX2_readLevel 13 = .ok (.if_icmp .ne 35, 3) := by decide +kernel
theorem dX2_readLevel_16 : decode cX2_readLevel 16 = .ok (.aload_n 0, 1) := by decide +kernel
theorem dX2_readLevel_17 : decode cX2_readLevel 17 = .ok (.getfield 36, 3) := by decide +kernel
theorem dX2_readLevel_20 : decode cX2_readLevel 20 = .ok (.bipush 12, 2) := by decide +kernel
theorem dX2_readLevel_22 : decode cX2_readLevel 22 = .ok (.if_icmp .ne 26, 3) := by decide +kernel
theorem dX2_readLevel_25 : decode cX2_readLevel 25 = .ok (.aload_n 0, 1) := by decide +kernel
theorem dX2_readLevel_26 : decode cX2_readLevel 26 = .ok (.iload_n 2, 1) := by decide +kernel
theorem dX2_readLevel_27 : decode cX2_readLevel 27 = .ok (.invokevirtual 59, 3) := by decide +kernel
theorem dX2_readLevel_30 : decode cX2_readLevel 30 = .ok (.ifCond .eq 17, 3) := by decide +kernel
theorem dX2_readLevel_33 : decode cX2_readLevel 33 = .ok (.aload_n 0, 1) := by decide +kernel
theorem dX2_readLevel_34 : decode cX2_readLevel 34 = .ok (.iconst 2, 1) := by decide +kernel
theorem dX2_readLevel_35 : decode cX2_readLevel 35 = .ok (.iload_n 2, 1) := by decide +kernel
theorem dX2_readLevel_36 : decode cX2_readLevel 36 = .ok (.iconst 1, 1) := by decide +kernel
theorem dX2_readLevel_37 : decode cX2_readLevel 37 = .ok (.iadd, 1) := by decide +kernel
theorem dX2_readLevel_38 : decode cX2_readLevel 38 = .ok (.invokevirtual 52, 3) := by decide +kernel
theorem dX2_readLevel_41 : decode cX2_readLevel 41 = .ok (.aload_n 0, 1) := by decide +kernel
theorem dX2_readLevel_42 : decode cX2_readLevel 42 = .ok (.bipush (-12), 2) := by decide +kernel
theorem dX2_readLevel_44 : decode cX2_readLevel 44 = .ok (.invokevirtual 63, 3) := by decide +kernel
theorem dX2_readLevel_47 : decode cX2_readLevel 47 = .ok (.return_, 1) := by decide +kernel
theorem dX2_readLevel_48 : decode cX2_readLevel 48 = .ok (.aload_n 0, 1) := by decide +kernel
theorem dX2_readLevel_49 : decode cX2_readLevel 49 = .ok (.iload_n 1, 1) := by decide +kernel
theorem dX2_readLevel_50 : decode cX2_readLevel 50 = .ok (.iconst 1, 1) := by decide +kernel
theorem dX2_readLevel_51 : decode cX2_readLevel 51 = .ok (.iadd, 1) := by decide +kernel
theorem dX2_readLevel_52 : decode cX2_readLevel 52 = .ok (.iload_n 2, 1) := by decide +kernel
theorem dX2_readLevel_53 : decode cX2_readLevel 53 = .ok (.invokevirtual 52, 3) := by decide +kernel
theorem dX2_readLevel_56 : decode cX2_readLevel 56 = .ok (.iload_n 1, 1) := by decide +kernel
theorem dX2_readLevel_57 : decode cX2_readLevel 57 = .ok (.iconst 2, 1) := by decide +kernel
theorem dX2_readLevel_58 : decode cX2_readLevel 58 = .ok (.if_icmp .ne 7, 3) := by decide +kernel
theorem dX2_readLevel_61 : decode cX2_readLevel 61 = .ok (.iconst 1, 1) := by decide +kernel
theorem dX2_readLevel_62 : decode cX2_readLevel 62 = .ok (.goto 6, 3) := by decide +kernel
theorem dX2_readLevel_65 : decode cX2_readLevel 65 = .ok (.sipush 160, 3) := by decide +kernel
theorem dX2_readLevel_68 : decode cX2_readLevel 68 = .ok (.istore_n 3, 1) := by decide +kernel
theorem dX2_readLevel_69 : decode cX2_readLevel 69 = .ok (.iconst 0, 1) := by decide +kernel
theorem dX2_readLevel_70 : decode cX2_readLevel 70 = .ok (.istore 4, 2) := by decide +kernel
theorem dX2_readLevel_72 : decode cX2_readLevel 72 = .ok (.iload 4, 2) := by decide +kernel
theorem dX2_readLevel_74 : decode cX2_readLevel 74 = .ok (.iload_n 3, 1) := by decide +kernel
theorem dX2_readLevel_75 : decode cX2_readLevel 75 = .ok (.if_icmp .ge 45, 3) := by decide +kernel
theorem dX2_readLevel_78 : decode cX2_readLevel 78 = .ok (.aload_n 0, 1) := by decide +kernel
theorem dX2_readLevel_79 : decode cX2_readLevel 79 = .ok (.getfield 36, 3) := by decide +kernel
theorem dX2_readLevel_82 : decode cX2_readLevel 82 = .ok (.invokestatic 66, 3) := by decide +kernel
theorem dX2_readLevel_85 : decode cX2_readLevel 85 = .ok (.iload_n 1, 1) := by decide +kernel
theorem dX2_readLevel_86 : decode cX2_readLevel 86 = .ok (.if_icmp .ne 34, 3) := by decide +kernel
theorem dX2_readLevel_89 : decode cX2_readLevel 89 = .ok (.aload_n 0, 1) := by decide +kernel
theorem dX2_readLevel_90 : decode cX2_readLevel 90 = .ok (.getfield 36, 3) := by decide +kernel
theorem dX2_readLevel_93 : decode cX2_readLevel 93 = .ok (.istore 5, 2) := by decide +kernel
theorem dX2_readLevel_95 : decode cX2_readLevel 95 = .ok (.aload_n 0, 1) := by decide +kernel
theorem dX2_readLevel_96 : decode cX2_readLevel 96 = .ok (.invokevirtual 45, 3) := by decide +kernel
theorem dX2_readLevel_99 : decode cX2_readLevel 99 = .ok (.aload_n 0, 1) := by decide +kernel
theorem dX2_readLevel_100 : decode cX2_readLevel 100 = .ok (.iload_n 1, 1) := by decide +kernel
theorem dX2_readLevel_101 : decode cX2_readLevel 101 = .ok (.iconst 1, 1) := by decide +kernel
theorem dX2_readLevel_102 : decode cX2_readLevel 102 = .ok (.iadd, 1) := by decide +kernel
theorem dX2_readLevel_103 : decode cX2_readLevel 103 = .ok (.iload_n 2, 1) := by decide +kernel
theorem dX2_readLevel_104 : decode cX2_readLevel 104 = .ok (.invokevirtual 52, 3) := by decide +kernel
theorem dX2_readLevel_107 : decode cX2_readLevel 107 = .ok (.aload_n 0, 1) := by decide +kernel
theorem dX2_readLevel_108 : decode cX2_readLevel 108 = .ok (.iload 5, 2) := by decide +kernel
theorem dX2_readLevel_110 : decode cX2_readLevel 110 = .ok (.ineg, 1) := by decide +kernel
theorem dX2_readLevel_111 : decode cX2_readLevel 111 = .ok (.invokevirtual 63, 3) := by decide +kernel
theorem dX2_readLevel_114 : decode cX2_readLevel 114 = .ok (.iinc 4 1, 3) := by decide +kernel
theorem dX2_readLevel_117 : decode cX2_readLevel 117 = .ok (.goto (-45), 3) := by decide +kernel
theorem dX2_readLevel_120 : decode cX2_readLevel 120 = .ok (.return_, 1) := by decide +kernel
theorem dX2_levelOf_0 : decode cX2_levelOf 0 = .ok (.iload_n 0, 1) := by decide +kernel
theorem dX2_levelOf_1 : decode cX2_levelOf 1 = .ok (.lookupswitch 77 #[(10, 67), (11, 69), (42, 75), (43, 73), (45, 73), (60, 71), (61, 71)], 67) := by decide +kernel
theorem dX2_levelOf_68 : decode cX2_levelOf 68 = .ok (.iconst 0, 1) := by decide +kernel
theorem dX2_levelOf_69 : decode cX2_levelOf 69 = .ok (.ireturn, 1) := by decide +kernel
theorem dX2_levelOf_70 : decode cX2_levelOf 70 = .ok (.iconst 1, 1) := by decide +kernel
theorem dX2_levelOf_71 : decode cX2_levelOf 71 = .ok (.ireturn, 1) := by decide +kernel
theorem dX2_levelOf_72 : decode cX2_levelOf 72 = .ok (.iconst 2, 1) := by decide +kernel
theorem dX2_levelOf_73 : decode cX2_levelOf 73 = .ok (.ireturn, 1) := by decide +kernel
theorem dX2_levelOf_74 : decode cX2_levelOf 74 = .ok (.iconst 3, 1) := by decide +kernel
theorem dX2_levelOf_75 : decode cX2_levelOf 75 = .ok (.ireturn, 1) := by decide +kernel
theorem dX2_levelOf_76 : decode cX2_levelOf 76 = .ok (.iconst 4, 1) := by decide +kernel
theorem dX2_levelOf_77 : decode cX2_levelOf 77 = .ok (.ireturn, 1) := by decide +kernel
theorem dX2_levelOf_78 : decode cX2_levelOf 78 = .ok (.iconst (-1), 1) := by decide +kernel
theorem dX2_levelOf_79 : decode cX2_levelOf 79 = .ok (.ireturn, 1) := by decide +kernel
theorem dX2_readOne_0 : decode cX2_readOne 0 = .ok (.aload_n 0, 1) := by decide +kernel
theorem dX2_readOne_1 : decode cX2_readOne 1 = .ok (.getfield 36, 3) := by decide +kernel
theorem dX2_readOne_4 : decode cX2_readOne 4 = .ok (.ifCond .ne 18, 3) := by decide +kernel
theorem dX2_readOne_7 : decode cX2_readOne 7 = .ok (.aload_n 0, 1) := by decide +kernel
theorem dX2_readOne_8 : decode cX2_readOne 8 = .ok (.aload_n 0, 1) := by decide +kernel
theorem dX2_readOne_9 : decode cX2_readOne 9 = .ok (.getfield 39, 3) := by decide +kernel
theorem dX2_readOne_12 : decode cX2_readOne 12 = .ok (.invokevirtual 63, 3) := by decide +kernel
theorem dX2_readOne_15 : decode cX2_readOne 15 = .ok (.aload_n 0, 1) := by decide +kernel
theorem dX2_readOne_16 : decode cX2_readOne 16 = .ok (.invokevirtual 45, 3) := by decide +kernel
theorem dX2_readOne_19 : decode cX2_readOne 19 = .ok (.goto 107, 3) := by decide +kernel
theorem dX2_readOne_22 : decode cX2_readOne 22 = .ok (.aload_n 0, 1) := by decide +kernel
theorem dX2_readOne_23 : decode cX2_readOne 23 = .ok (.getfield 36, 3) := by decide +kernel
theorem dX2_readOne_26 : decode cX2_readOne 26 = .ok (.iconst 1, 1) := by decide +kernel
theorem dX2_readOne_27 : decode cX2_readOne 27 = .ok (.if_icmp .lt 28, 3) := by decide +kernel
theorem dX2_readOne_30 : decode cX2_readOne 30 = .ok (.aload_n 0, 1) := by decide +kernel
theorem dX2_readOne_31 : decode cX2_readOne 31 = .ok (.getfield 36, 3) := by decide +kernel
theorem dX2_readOne_34 : decode cX2_readOne 34 = .ok (.bipush 6, 2) := by decide +kernel
theorem dX2_readOne_36 : decode cX2_readOne 36 = .ok (.if_icmp .gt 19, 3) := by decide +kernel
theorem dX2_readOne_39 : decode cX2_readOne 39 = .ok (.aload_n 0, 1) := by decide +kernel
theorem dX2_readOne_40 : decode cX2_readOne 40 = .ok (.aload_n 0, 1) := by decide +kernel
theorem dX2_readOne_41 : decode cX2_readOne 41 = .ok (.getfield 36, 3) := by decide +kernel
theorem dX2_readOne_44 : decode cX2_readOne 44 = .ok (.ineg, 1) := by decide +kernel
theorem dX2_readOne_45 : decode cX2_readOne 45 = .ok (.invokevirtual 63, 3) := by decide +kernel
theorem dX2_readOne_48 : decode cX2_readOne 48 = .ok (.aload_n 0, 1) := by decide +kernel
theorem dX2_readOne_49 : decode cX2_readOne 49 = .ok (.invokevirtual 45, 3) := by decide +kernel
theorem dX2_readOne_52 : decode cX2_readOne 52 = .ok (.goto 74, 3) := by decide +kernel
theorem dX2_readOne_55 : decode cX2_readOne 55 = .ok (.aload_n 0, 1) := by decide +kernel
theorem dX2_readOne_56 : decode cX2_readOne 56 = .ok (.getfield 36, 3) := by decide +kernel
theorem dX2_readOne_59 : decode cX2_readOne 59 = .ok (.bipush 45, 2) := by decide +kernel
theorem dX2_readOne_61 : decode cX2_readOne 61 = .ok (.if_icmp .ne 27, 3) := by decide +kernel
theorem dX2_readOne_64 : decode cX2_readOne 64 = .ok (.aload_n 0, 1) := by decide +kernel
theorem dX2_readOne_65 : decode cX2_readOne 65 = .ok (.iload_n 1, 1) := by decide +kernel
theorem dX2_readOne_66 : decode cX2_readOne 66 = .ok (.invokevirtual 59, 3) := by decide +kernel
theorem dX2_readOne_69 : decode cX2_readOne 69 = .ok (.ifCond .eq 57, 3) := by decide +kernel
theorem dX2_readOne_72 : decode cX2_readOne 72 = .ok (.aload_n 0, 1) := by decide +kernel
theorem dX2_readOne_73 : decode cX2_readOne 73 = .ok (.iload_n 1, 1) := by decide +kernel
theorem dX2_readOne_74 : decode cX2_readOne 74 = .ok (.iconst 1, 1) := by decide +kernel
theorem dX2_readOne_75 : decode cX2_readOne 75 = .ok (.iadd, 1) := by decide +kernel
theorem dX2_readOne_76 : decode cX2_readOne 76 = .ok (.invokevirtual 56, 3) := by decide +kernel
theorem dX2_readOne_79 : decode cX2_readOne 79 = .ok (.aload_n 0, 1) := by decide +kernel
theorem dX2_readOne_80 : decode cX2_readOne 80 = .ok (.bipush (-13), 2) := by decide +kernel
theorem dX2_readOne_82 : decode cX2_readOne 82 = .ok (.invokevirtual 63, 3) := by decide +kernel
theorem dX2_readOne_85 : decode cX2_readOne 85 = .ok (.goto 41, 3) := by decide +kernel
theorem dX2_readOne_88 : decode cX2_readOne 88 = .ok (.aload_n 0, 1) := by decide +kernel
theorem dX2_readOne_89 : decode cX2_readOne 89 = .ok (.getfield 36, 3) := by decide +kernel
theorem dX2_readOne_92 : decode cX2_readOne 92 = .ok (.bipush 40, 2) := by decide +kernel
theorem dX2_readOne_94 : decode cX2_readOne 94 = .ok (.if_icmp .ne 28, 3) := by decide +kernel
theorem dX2_readOne_97 : decode cX2_readOne 97 = .ok (.aload_n 0, 1) := by decide +kernel
theorem dX2_readOne_98 : decode cX2_readOne 98 = .ok (.iload_n 1, 1) := by decide +kernel
theorem dX2_readOne_99 : decode cX2_readOne 99 = .ok (.invokevirtual 59, 3) := by decide +kernel
theorem dX2_readOne_102 : decode cX2_readOne 102 = .ok (.ifCond .eq 24, 3) := by decide +kernel
theorem dX2_readOne_105 : decode cX2_readOne 105 = .ok (.aload_n 0, 1) := by decide +kernel
theorem dX2_readOne_106 : decode cX2_readOne 106 = .ok (.iconst 0, 1) := by decide +kernel
theorem dX2_readOne_107 : decode cX2_readOne 107 = .ok (.iload_n 1, 1) := by decide +kernel
theorem dX2_readOne_108 : decode cX2_readOne 108 = .ok (.iconst 1, 1) := by decide +kernel
theorem dX2_readOne_109 : decode cX2_readOne 109 = .ok (.iadd, 1) := by decide +kernel
theorem dX2_readOne_110 : decode cX2_readOne 110 = .ok (.invokevirtual 52, 3) := by decide +kernel
theorem dX2_readOne_113 : decode cX2_readOne 113 = .ok (.aload_n 0, 1) := by decide +kernel
theorem dX2_readOne_114 : decode cX2_readOne 114 = .ok (.bipush 41, 2) := by decide +kernel
theorem dX2_readOne_116 : decode cX2_readOne 116 = .ok (.invokevirtual 48, 3) := by decide +kernel
theorem dX2_readOne_119 : decode cX2_readOne 119 = .ok (.goto 7, 3) := by decide +kernel
theorem dX2_readOne_122 : decode cX2_readOne 122 = .ok (.aload_n 0, 1) := by decide +kernel
theorem dX2_readOne_123 : decode cX2_readOne 123 = .ok (.invokevirtual 70, 3) := by decide +kernel
theorem dX2_readOne_126 : decode cX2_readOne 126 = .ok (.return_, 1) := by decide +kernel
theorem dX2_enter_0 : decode cX2_enter 0 = .ok (.iload_n 1, 1) := by decide +kernel
theorem dX2_enter_1 : decode cX2_enter 1 = .ok (.iconst 5, 1) := by decide +kernel
theorem dX2_enter_2 : decode cX2_enter 2 = .ok (.if_icmp .lt 9, 3) := by decide +kernel
theorem dX2_enter_5 : decode cX2_enter 5 = .ok (.aload_n 0, 1) := by decide +kernel
theorem dX2_enter_6 : decode cX2_enter 6 = .ok (.invokevirtual 70, 3) := by decide +kernel
theorem dX2_enter_9 : decode cX2_enter 9 = .ok (.iconst 0, 1) := by decide +kernel
theorem dX2_enter_10 : decode cX2_enter 10 = .ok (.ireturn, 1) := by decide +kernel
theorem dX2_enter_11 : decode cX2_enter 11 = .ok (.aload_n 0, 1) := by decide +kernel
theorem dX2_enter_12 : decode cX2_enter 12 = .ok (.invokevirtual 45, 3) := by decide +kernel
theorem dX2_enter_15 : decode cX2_enter 15 = .ok (.iconst 1, 1) := by decide +kernel
theorem dX2_enter_16 : decode cX2_enter 16 = .ok (.ireturn, 1) := by decide +kernel
theorem dX2_expect_0 : decode cX2_expect 0 = .ok (.aload_n 0, 1) := by decide +kernel
theorem dX2_expect_1 : decode cX2_expect 1 = .ok (.getfield 36, 3) := by decide +kernel
theorem dX2_expect_4 : decode cX2_expect 4 = .ok (.iload_n 1, 1) := by decide +kernel
theorem dX2_expect_5 : decode cX2_expect 5 = .ok (.if_icmp .eq 10, 3) := by decide +kernel
theorem dX2_expect_8 : decode cX2_expect 8 = .ok (.aload_n 0, 1) := by decide +kernel
theorem dX2_expect_9 : decode cX2_expect 9 = .ok (.invokevirtual 70, 3) := by decide +kernel
theorem dX2_expect_12 : decode cX2_expect 12 = .ok (.goto 15, 3) := by decide +kernel
theorem dX2_expect_15 : decode cX2_expect 15 = .ok (.aload_n 0, 1) := by decide +kernel
theorem dX2_expect_16 : decode cX2_expect 16 = .ok (.getfield 36, 3) := by decide +kernel
theorem dX2_expect_19 : decode cX2_expect 19 = .ok (.iconst (-1), 1) := by decide +kernel
theorem dX2_expect_20 : decode cX2_expect 20 = .ok (.if_icmp .eq 7, 3) := by decide +kernel
theorem dX2_expect_23 : decode cX2_expect 23 = .ok (.aload_n 0, 1) := by decide +kernel
theorem dX2_expect_24 : decode cX2_expect 24 = .ok (.invokevirtual 45, 3) := by decide +kernel
theorem dX2_expect_27 : decode cX2_expect 27 = .ok (.return_, 1) := by decide +kernel
theorem dX2_fail_0 : decode cX2_fail 0 = .ok (.aload_n 0, 1) := by decide +kernel
theorem dX2_fail_1 : decode cX2_fail 1 = .ok (.getfield 42, 3) := by decide +kernel
theorem dX2_fail_4 : decode cX2_fail 4 = .ok (.iconst (-1), 1) := by decide +kernel
theorem dX2_fail_5 : decode cX2_fail 5 = .ok (.if_icmp .ne 11, 3) := by decide +kernel
theorem dX2_fail_8 : decode cX2_fail 8 = .ok (.aload_n 0, 1) := by decide +kernel
theorem dX2_fail_9 : decode cX2_fail 9 = .ok (.aload_n 0, 1) := by decide +kernel
theorem dX2_fail_10 : decode cX2_fail 10 = .ok (.getfield 33, 3) := by decide +kernel
theorem dX2_fail_13 : decode cX2_fail 13 = .ok (.putfield 42, 3) := by decide +kernel
theorem dX2_fail_16 : decode cX2_fail 16 = .ok (.aload_n 0, 1) := by decide +kernel
theorem dX2_fail_17 : decode cX2_fail 17 = .ok (.bipush (-2), 2) := by decide +kernel
theorem dX2_fail_19 : decode cX2_fail 19 = .ok (.putfield 36, 3) := by decide +kernel
theorem dX2_fail_22 : decode cX2_fail 22 = .ok (.return_, 1) := by decide +kernel
theorem dX2_emit_0 : decode cX2_emit 0 = .ok (.aload_n 0, 1) := by decide +kernel
theorem dX2_emit_1 : decode cX2_emit 1 = .ok (.getfield 27, 3) := by decide +kernel
theorem dX2_emit_4 : decode cX2_emit 4 = .ok (.aload_n 0, 1) := by decide +kernel
theorem dX2_emit_5 : decode cX2_emit 5 = .ok (.getfield 11, 3) := by decide +kernel
theorem dX2_emit_8 : decode cX2_emit 8 = .ok (.arraylength, 1) := by decide +kernel
theorem dX2_emit_9 : decode cX2_emit 9 = .ok (.if_icmp .ge 23, 3) := by decide +kernel
theorem dX2_emit_12 : decode cX2_emit 12 = .ok (.aload_n 0, 1) := by decide +kernel
theorem dX2_emit_13 : decode cX2_emit 13 = .ok (.getfield 11, 3) := by decide +kernel
theorem dX2_emit_16 : decode cX2_emit 16 = .ok (.aload_n 0, 1) := by decide +kernel
theorem dX2_emit_17 : decode cX2_emit 17 = .ok (.getfield 27, 3) := by decide +kernel
theorem dX2_emit_20 : decode cX2_emit 20 = .ok (.iload_n 1, 1) := by decide +kernel
theorem dX2_emit_21 : decode cX2_emit 21 = .ok (.iastore, 1) := by decide +kernel
theorem dX2_emit_22 : decode cX2_emit 22 = .ok (.aload_n 0, 1) := by decide +kernel
theorem dX2_emit_23 : decode cX2_emit 23 = .ok (.dup, 1) := by decide +kernel
theorem dX2_emit_24 : decode cX2_emit 24 = .ok (.getfield 27, 3) := by decide +kernel
theorem dX2_emit_27 : decode cX2_emit 27 = .ok (.iconst 1, 1) := by decide +kernel
theorem dX2_emit_28 : decode cX2_emit 28 = .ok (.iadd, 1) := by decide +kernel
theorem dX2_emit_29 : decode cX2_emit 29 = .ok (.putfield 27, 3) := by decide +kernel
theorem dX2_emit_32 : decode cX2_emit 32 = .ok (.return_, 1) := by decide +kernel
theorem dX2_advance_0 : decode cX2_advance 0 = .ok (.aload_n 0, 1) := by decide +kernel
theorem dX2_advance_1 : decode cX2_advance 1 = .ok (.getfield 30, 3) := by decide +kernel
theorem dX2_advance_4 : decode cX2_advance 4 = .ok (.aload_n 0, 1) := by decide +kernel
theorem dX2_advance_5 : decode cX2_advance 5 = .ok (.getfield 20, 3) := by decide +kernel
theorem dX2_advance_8 : decode cX2_advance 8 = .ok (.if_icmp .ge 44, 3) := by decide +kernel
theorem dX2_advance_11 : decode cX2_advance 11 = .ok (.aload_n 0, 1) := by decide +kernel
theorem dX2_advance_12 : decode cX2_advance 12 = .ok (.getfield 24, 3) := by decide +kernel
theorem dX2_advance_15 : decode cX2_advance 15 = .ok (.aload_n 0, 1) := by decide +kernel
theorem dX2_advance_16 : decode cX2_advance 16 = .ok (.getfield 30, 3) := by decide +kernel
theorem dX2_advance_19 : decode cX2_advance 19 = .ok (.iaload, 1) := by decide +kernel
theorem dX2_advance_20 : decode cX2_advance 20 = .ok (.bipush 32, 2) := by decide +kernel
theorem dX2_advance_22 : decode cX2_advance 22 = .ok (.if_icmp .eq 17, 3) := by decide +kernel
theorem dX2_advance_25 : decode cX2_advance 25 = .ok (.aload_n 0, 1) := by decide +kernel
theorem dX2_advance_26 : decode cX2_advance 26 = .ok (.getfield 24, 3) := by decide +kernel
theorem dX2_advance_29 : decode cX2_advance 29 = .ok (.aload_n 0, 1) := by decide +kernel
theorem dX2_advance_30 : decode cX2_advance 30 = .ok (.getfield 30, 3) := by decide +kernel
theorem dX2_advance_33 : decode cX2_advance 33 = .ok (.iaload, 1) := by decide +kernel
theorem dX2_advance_34 : decode cX2_advance 34 = .ok (.bipush 10, 2) := by decide +kernel
theorem dX2_advance_36 : decode cX2_advance 36 = .ok (.if_icmp .ne 16, 3) := by decide +kernel
theorem dX2_advance_39 : decode cX2_advance 39 = .ok (.aload_n 0, 1) := by decide +kernel
theorem dX2_advance_40 : decode cX2_advance 40 = .ok (.dup, 1) := by decide +kernel
theorem dX2_advance_41 : decode cX2_advance 41 = .ok (.getfield 30, 3) := by decide +kernel
theorem dX2_advance_44 : decode cX2_advance 44 = .ok (.iconst 1, 1) := by decide +kernel
theorem dX2_advance_45 : decode cX2_advance 45 = .ok (.iadd, 1) := by decide +kernel
theorem dX2_advance_46 : decode cX2_advance 46 = .ok (.putfield 30, 3) := by decide +kernel
theorem dX2_advance_49 : decode cX2_advance 49 = .ok (.goto (-49), 3) := by decide +kernel
theorem dX2_advance_52 : decode cX2_advance 52 = .ok (.aload_n 0, 1) := by decide +kernel
theorem dX2_advance_53 : decode cX2_advance 53 = .ok (.aload_n 0, 1) := by decide +kernel
theorem dX2_advance_54 : decode cX2_advance 54 = .ok (.getfield 30, 3) := by decide +kernel
theorem dX2_advance_57 : decode cX2_advance 57 = .ok (.putfield 33, 3) := by decide +kernel
theorem dX2_advance_60 : decode cX2_advance 60 = .ok (.aload_n 0, 1) := by decide +kernel
theorem dX2_advance_61 : decode cX2_advance 61 = .ok (.getfield 30, 3) := by decide +kernel
theorem dX2_advance_64 : decode cX2_advance 64 = .ok (.aload_n 0, 1) := by decide +kernel
theorem dX2_advance_65 : decode cX2_advance 65 = .ok (.getfield 20, 3) := by decide +kernel
theorem dX2_advance_68 : decode cX2_advance 68 = .ok (.if_icmp .lt 11, 3) := by decide +kernel
theorem dX2_advance_71 : decode cX2_advance 71 = .ok (.aload_n 0, 1) := by decide +kernel
theorem dX2_advance_72 : decode cX2_advance 72 = .ok (.iconst (-1), 1) := by decide +kernel
theorem dX2_advance_73 : decode cX2_advance 73 = .ok (.putfield 36, 3) := by decide +kernel
theorem dX2_advance_76 : decode cX2_advance 76 = .ok (.goto 90, 3) := by decide +kernel
theorem dX2_advance_79 : decode cX2_advance 79 = .ok (.aload_n 0, 1) := by decide +kernel
theorem dX2_advance_80 : decode cX2_advance 80 = .ok (.getfield 24, 3) := by decide +kernel
theorem dX2_advance_83 : decode cX2_advance 83 = .ok (.aload_n 0, 1) := by decide +kernel
theorem dX2_advance_84 : decode cX2_advance 84 = .ok (.getfield 30, 3) := by decide +kernel
theorem dX2_advance_87 : decode cX2_advance 87 = .ok (.iaload, 1) := by decide +kernel
theorem dX2_advance_88 : decode cX2_advance 88 = .ok (.invokestatic 73, 3) := by decide +kernel
theorem dX2_advance_91 : decode cX2_advance 91 = .ok (.ifCond .eq 10, 3) := by decide +kernel
theorem dX2_advance_94 : decode cX2_advance 94 = .ok (.aload_n 0, 1) := by decide +kernel
theorem dX2_advance_95 : decode cX2_advance 95 = .ok (.invokevirtual 76, 3) := by decide +kernel
theorem dX2_advance_98 : decode cX2_advance 98 = .ok (.goto 68, 3) := by decide +kernel
theorem dX2_advance_101 : decode cX2_advance 101 = .ok (.aload_n 0, 1) := by decide +kernel
theorem dX2_advance_102 : decode cX2_advance 102 = .ok (.getfield 24, 3) := by decide +kernel
theorem dX2_advance_105 : decode cX2_advance 105 = .ok (.aload_n 0, 1) := by decide +kernel
theorem dX2_advance_106 : decode cX2_advance 106 = .ok (.getfield 30, 3) := by decide +kernel
theorem dX2_advance_109 : decode cX2_advance 109 = .ok (.iaload, 1) := by decide +kernel
theorem dX2_advance_110 : decode cX2_advance 110 = .ok (.invokestatic 79, 3) := by decide +kernel
theorem dX2_advance_113 : decode cX2_advance 113 = .ok (.ifCond .eq 10, 3) := by decide +kernel
theorem dX2_advance_116 : decode cX2_advance 116 = .ok (.aload_n 0, 1) := by decide +kernel
theorem dX2_advance_117 : decode cX2_advance 117 = .ok (.invokevirtual 82, 3) := by decide +kernel
theorem dX2_advance_120 : decode cX2_advance 120 = .ok (.goto 46, 3) := by decide +kernel
theorem dX2_advance_123 : decode cX2_advance 123 = .ok (.aload_n 0, 1) := by decide +kernel
theorem dX2_advance_124 : decode cX2_advance 124 = .ok (.aload_n 0, 1) := by decide +kernel
theorem dX2_advance_125 : decode cX2_advance 125 = .ok (.getfield 24, 3) := by decide +kernel
theorem dX2_advance_128 : decode cX2_advance 128 = .ok (.aload_n 0, 1) := by decide +kernel
theorem dX2_advance_129 : decode cX2_advance 129 = .ok (.getfield 30, 3) := by decide +kernel
theorem dX2_advance_132 : decode cX2_advance 132 = .ok (.iaload, 1) := by decide +kernel
theorem dX2_advance_133 : decode cX2_advance 133 = .ok (.invokestatic 85, 3) := by decide +kernel
theorem dX2_advance_136 : decode cX2_advance 136 = .ok (.ifCond .eq 15, 3) := by decide +kernel
theorem dX2_advance_139 : decode cX2_advance 139 = .ok (.aload_n 0, 1) := by decide +kernel
theorem dX2_advance_140 : decode cX2_advance 140 = .ok (.getfield 24, 3) := by decide +kernel
theorem dX2_advance_143 : decode cX2_advance 143 = .ok (.aload_n 0, 1) := by decide +kernel
theorem dX2_advance_144 : decode cX2_advance 144 = .ok (.getfield 30, 3) := by decide +kernel
theorem dX2_advance_147 : decode cX2_advance 147 = .ok (.iaload, 1) := by decide +kernel
theorem dX2_advance_148 : decode cX2_advance 148 = .ok (.goto 5, 3) := by decide +kernel
theorem dX2_advance_151 : decode cX2_advance 151 = .ok (.bipush (-2), 2) := by decide +kernel
theorem dX2_advance_153 : decode cX2_advance 153 = .ok (.putfield 36, 3) := by decide +kernel
theorem dX2_advance_156 : decode cX2_advance 156 = .ok (.aload_n 0, 1) := by decide +kernel
theorem dX2_advance_157 : decode cX2_advance 157 = .ok (.dup, 1) := by decide +kernel
theorem dX2_advance_158 : decode cX2_advance 158 = .ok (.getfield 30, 3) := by decide +kernel
theorem dX2_advance_161 : decode cX2_advance 161 = .ok (.iconst 1, 1) := by decide +kernel
theorem dX2_advance_162 : decode cX2_advance 162 = .ok (.iadd, 1) := by decide +kernel
theorem dX2_advance_163 : decode cX2_advance 163 = .ok (.putfield 30, 3) := by decide +kernel
theorem dX2_advance_166 : decode cX2_advance 166 = .ok (.return_, 1) := by decide +kernel
theorem dX2_takeWord_0 : decode cX2_takeWord 0 = .ok (.aload_n 0, 1) := by decide +kernel
theorem dX2_takeWord_1 : decode cX2_takeWord 1 = .ok (.getfield 30, 3) := by decide +kernel
theorem dX2_takeWord_4 : decode cX2_takeWord 4 = .ok (.aload_n 0, 1) := by decide +kernel
theorem dX2_takeWord_5 : decode cX2_takeWord 5 = .ok (.getfield 20, 3) := by decide +kernel
theorem dX2_takeWord_8 : decode cX2_takeWord 8 = .ok (.if_icmp .ge 31, 3) := by decide +kernel
theorem dX2_takeWord_11 : decode cX2_takeWord 11 = .ok (.aload_n 0, 1) := by decide +kernel
theorem dX2_takeWord_12 : decode cX2_takeWord 12 = .ok (.getfield 24, 3) := by decide +kernel
theorem dX2_takeWord_15 : decode cX2_takeWord 15 = .ok (.aload_n 0, 1) := by decide +kernel
theorem dX2_takeWord_16 : decode cX2_takeWord 16 = .ok (.getfield 30, 3) := by decide +kernel
theorem dX2_takeWord_19 : decode cX2_takeWord 19 = .ok (.iaload, 1) := by decide +kernel
theorem dX2_takeWord_20 : decode cX2_takeWord 20 = .ok (.invokestatic 73, 3) := by decide +kernel
theorem dX2_takeWord_23 : decode cX2_takeWord 23 = .ok (.ifCond .eq 16, 3) := by decide +kernel
theorem dX2_takeWord_26 : decode cX2_takeWord 26 = .ok (.aload_n 0, 1) := by decide +kernel
theorem dX2_takeWord_27 : decode cX2_takeWord 27 = .ok (.dup, 1) := by decide +kernel
theorem dX2_takeWord_28 : decode cX2_takeWord 28 = .ok (.getfield 30, 3) := by decide +kernel
theorem dX2_takeWord_31 : decode cX2_takeWord 31 = .ok (.iconst 1, 1) := by decide +kernel
theorem dX2_takeWord_32 : decode cX2_takeWord 32 = .ok (.iadd, 1) := by decide +kernel
theorem dX2_takeWord_33 : decode cX2_takeWord 33 = .ok (.putfield 30, 3) := by decide +kernel
theorem dX2_takeWord_36 : decode cX2_takeWord 36 = .ok (.goto (-36), 3) := by decide +kernel
theorem dX2_takeWord_39 : decode cX2_takeWord 39 = .ok (.aload_n 0, 1) := by decide +kernel
theorem dX2_takeWord_40 : decode cX2_takeWord 40 = .ok (.bipush (-2), 2) := by decide +kernel
theorem dX2_takeWord_42 : decode cX2_takeWord 42 = .ok (.putfield 36, 3) := by decide +kernel
theorem dX2_takeWord_45 : decode cX2_takeWord 45 = .ok (.iconst 1, 1) := by decide +kernel
theorem dX2_takeWord_46 : decode cX2_takeWord 46 = .ok (.istore_n 1, 1) := by decide +kernel
theorem dX2_takeWord_47 : decode cX2_takeWord 47 = .ok (.iload_n 1, 1) := by decide +kernel
theorem dX2_takeWord_48 : decode cX2_takeWord 48 = .ok (.bipush 12, 2) := by decide +kernel
theorem dX2_takeWord_50 : decode cX2_takeWord 50 = .ok (.if_icmp .gt 25, 3) := by decide +kernel
theorem dX2_takeWord_53 : decode cX2_takeWord 53 = .ok (.aload_n 0, 1) := by decide +kernel
theorem dX2_takeWord_54 : decode cX2_takeWord 54 = .ok (.iload_n 1, 1) := by decide +kernel
theorem dX2_takeWord_55 : decode cX2_takeWord 55 = .ok (.invokestatic 88, 3) := by decide +kernel
theorem dX2_takeWord_58 : decode cX2_takeWord 58 = .ok (.invokevirtual 92, 3) := by decide +kernel
theorem dX2_takeWord_61 : decode cX2_takeWord 61 = .ok (.ifCond .eq 8, 3) := by decide +kernel
theorem dX2_takeWord_64 : decode cX2_takeWord 64 = .ok (.aload_n 0, 1) := by decide +kernel
theorem dX2_takeWord_65 : decode cX2_takeWord 65 = .ok (.iload_n 1, 1) := by decide +kernel
theorem dX2_takeWord_66 : decode cX2_takeWord 66 = .ok (.putfield 36, 3) := by decide +kernel
theorem dX2_takeWord_69 : decode cX2_takeWord 69 = .ok (.iinc 1 1, 3) := by decide +kernel
theorem dX2_takeWord_72 : decode cX2_takeWord 72 = .ok (.goto (-25), 3) := by decide +kernel
theorem dX2_takeWord_75 : decode cX2_takeWord 75 = .ok (.return_, 1) := by decide +kernel
theorem dX2_takeNumber_0 : decode cX2_takeNumber 0 = .ok (.aload_n 0, 1) := by decide +kernel
theorem dX2_takeNumber_1 : decode cX2_takeNumber 1 = .ok (.iconst 0, 1) := by decide +kernel
theorem dX2_takeNumber_2 : decode cX2_takeNumber 2 = .ok (.putfield 39, 3) := by decide +kernel
theorem dX2_takeNumber_5 : decode cX2_takeNumber 5 = .ok (.aload_n 0, 1) := by decide +kernel
theorem dX2_takeNumber_6 : decode cX2_takeNumber 6 = .ok (.getfield 30, 3) := by decide +kernel
theorem dX2_takeNumber_9 : decode cX2_takeNumber 9 = .ok (.aload_n 0, 1) := by decide +kernel
theorem dX2_takeNumber_10 : decode cX2_takeNumber 10 = .ok (.getfield 20, 3) := by decide +kernel
theorem dX2_takeNumber_13 : decode cX2_takeNumber 13 = .ok (.if_icmp .ge 55, 3) := by decide +kernel
theorem dX2_takeNumber_16 : decode cX2_takeNumber 16 = .ok (.aload_n 0, 1) := by decide +kernel
theorem dX2_takeNumber_17 : decode cX2_takeNumber 17 = .ok (.getfield 24, 3) := by decide +kernel
theorem dX2_takeNumber_20 : decode cX2_takeNumber 20 = .ok (.aload_n 0, 1) := by decide +kernel
theorem dX2_takeNumber_21 : decode cX2_takeNumber 21 = .ok (.getfield 30, 3) := by decide +kernel
theorem dX2_takeNumber_24 : decode cX2_takeNumber 24 = .ok (.iaload, 1) := by decide +kernel
theorem dX2_takeNumber_25 : decode cX2_takeNumber 25 = .ok (.invokestatic 79, 3) := by decide +kernel
theorem dX2_takeNumber_28 : decode cX2_takeNumber 28 = .ok (.ifCond .eq 40, 3) := by decide +kernel
theorem dX2_takeNumber_31 : decode cX2_takeNumber 31 = .ok (.aload_n 0, 1) := by decide +kernel
theorem dX2_takeNumber_32 : decode cX2_takeNumber 32 = .ok (.aload_n 0, 1) := by decide +kernel
theorem dX2_takeNumber_33 : decode cX2_takeNumber 33 = .ok (.getfield 39, 3) := by decide +kernel
theorem dX2_takeNumber_36 : decode cX2_takeNumber 36 = .ok (.bipush 10, 2) := by decide +kernel
theorem dX2_takeNumber_38 : decode cX2_takeNumber 38 = .ok (.imul, 1) := by decide +kernel
theorem dX2_takeNumber_39 : decode cX2_takeNumber 39 = .ok (.aload_n 0, 1) := by decide +kernel
theorem dX2_takeNumber_40 : decode cX2_takeNumber 40 = .ok (.getfield 24, 3) := by decide +kernel
theorem dX2_takeNumber_43 : decode cX2_takeNumber 43 = .ok (.aload_n 0, 1) := by decide +kernel
theorem dX2_takeNumber_44 : decode cX2_takeNumber 44 = .ok (.getfield 30, 3) := by decide +kernel
theorem dX2_takeNumber_47 : decode cX2_takeNumber 47 = .ok (.iaload, 1) := by decide +kernel
theorem dX2_takeNumber_48 : decode cX2_takeNumber 48 = .ok (.iadd, 1) := by decide +kernel
theorem dX2_takeNumber_49 : decode cX2_takeNumber 49 = .ok (.bipush 48, 2) := by decide +kernel
theorem dX2_takeNumber_51 : decode cX2_takeNumber 51 = .ok (.isub, 1) := by decide +kernel
theorem dX2_takeNumber_52 : decode cX2_takeNumber 52 = .ok (.putfield 39, 3) := by decide +kernel
theorem dX2_takeNumber_55 : decode cX2_takeNumber 55 = .ok (.aload_n 0, 1) := by decide +kernel
theorem dX2_takeNumber_56 : decode cX2_takeNumber 56 = .ok (.dup, 1) := by decide +kernel
theorem dX2_takeNumber_57 : decode cX2_takeNumber 57 = .ok (.getfield 30, 3) := by decide +kernel
theorem dX2_takeNumber_60 : decode cX2_takeNumber 60 = .ok (.iconst 1, 1) := by decide +kernel
theorem dX2_takeNumber_61 : decode cX2_takeNumber 61 = .ok (.iadd, 1) := by decide +kernel
theorem dX2_takeNumber_62 : decode cX2_takeNumber 62 = .ok (.putfield 30, 3) := by decide +kernel
theorem dX2_takeNumber_65 : decode cX2_takeNumber 65 = .ok (.goto (-60), 3) := by decide +kernel
theorem dX2_takeNumber_68 : decode cX2_takeNumber 68 = .ok (.aload_n 0, 1) := by decide +kernel
theorem dX2_takeNumber_69 : decode cX2_takeNumber 69 = .ok (.aload_n 0, 1) := by decide +kernel
theorem dX2_takeNumber_70 : decode cX2_takeNumber 70 = .ok (.getfield 30, 3) := by decide +kernel
theorem dX2_takeNumber_73 : decode cX2_takeNumber 73 = .ok (.aload_n 0, 1) := by decide +kernel
theorem dX2_takeNumber_74 : decode cX2_takeNumber 74 = .ok (.getfield 33, 3) := by decide +kernel
theorem dX2_takeNumber_77 : decode cX2_takeNumber 77 = .ok (.isub, 1) := by decide +kernel
theorem dX2_takeNumber_78 : decode cX2_takeNumber 78 = .ok (.iconst 4, 1) := by decide +kernel
theorem dX2_takeNumber_79 : decode cX2_takeNumber 79 = .ok (.if_icmp .le 8, 3) := by decide +kernel
theorem dX2_takeNumber_82 : decode cX2_takeNumber 82 = .ok (.bipush (-2), 2) := by decide +kernel
theorem dX2_takeNumber_84 : decode cX2_takeNumber 84 = .ok (.goto 4, 3) := by decide +kernel
theorem dX2_takeNumber_87 : decode cX2_takeNumber 87 = .ok (.iconst 0, 1) := by decide +kernel
theorem dX2_takeNumber_88 : decode cX2_takeNumber 88 = .ok (.putfield 36, 3) := by decide +kernel
theorem dX2_takeNumber_91 : decode cX2_takeNumber 91 = .ok (.return_, 1) := by decide +kernel
theorem dX2_spells_0 : decode cX2_spells 0 = .ok (.aload_n 0, 1) := by decide +kernel
theorem dX2_spells_1 : decode cX2_spells 1 = .ok (.getfield 30, 3) := by decide +kernel
theorem dX2_spells_4 : decode cX2_spells 4 = .ok (.aload_n 0, 1) := by decide +kernel
theorem dX2_spells_5 : decode cX2_spells 5 = .ok (.getfield 33, 3) := by decide +kernel
theorem dX2_spells_8 : decode cX2_spells 8 = .ok (.isub, 1) := by decide +kernel
theorem dX2_spells_9 : decode cX2_spells 9 = .ok (.aload_n 1, 1) := by decide +kernel
theorem dX2_spells_10 : decode cX2_spells 10 = .ok (.invokevirtual 96, 3) := by decide +kernel
theorem dX2_spells_13 : decode cX2_spells 13 = .ok (.if_icmp .eq 5, 3) := by decide +kernel
theorem dX2_spells_16 : decode cX2_spells 16 = .ok (.iconst 0, 1) := by decide +kernel
theorem dX2_spells_17 : decode cX2_spells 17 = .ok (.ireturn, 1) := by decide +kernel
theorem dX2_spells_18 : decode cX2_spells 18 = .ok (.iconst 0, 1) := by decide +kernel
theorem dX2_spells_19 : decode cX2_spells 19 = .ok (.istore_n 2, 1) := by decide +kernel
theorem dX2_spells_20 : decode cX2_spells 20 = .ok (.iload_n 2, 1) := by decide +kernel
theorem dX2_spells_21 : decode cX2_spells 21 = .ok (.aload_n 1, 1) := by decide +kernel
theorem dX2_spells_22 : decode cX2_spells 22 = .ok (.invokevirtual 96, 3) := by decide +kernel
theorem dX2_spells_25 : decode cX2_spells 25 = .ok (.if_icmp .ge 30, 3) := by decide +kernel
theorem dX2_spells_28 : decode cX2_spells 28 = .ok (.aload_n 0, 1) := by decide +kernel
theorem dX2_spells_29 : decode cX2_spells 29 = .ok (.getfield 24, 3) := by decide +kernel
theorem dX2_spells_32 : decode cX2_spells 32 = .ok (.aload_n 0, 1) := by decide +kernel
theorem dX2_spells_33 : decode cX2_spells 33 = .ok (.getfield 33, 3) := by decide +kernel
theorem dX2_spells_36 : decode cX2_spells 36 = .ok (.iload_n 2, 1) := by decide +kernel
theorem dX2_spells_37 : decode cX2_spells 37 = .ok (.iadd, 1) := by decide +kernel
theorem dX2_spells_38 : decode cX2_spells 38 = .ok (.iaload, 1) := by decide +kernel
theorem dX2_spells_39 : decode cX2_spells 39 = .ok (.aload_n 1, 1) := by decide +kernel
theorem dX2_spells_40 : decode cX2_spells 40 = .ok (.iload_n 2, 1) := by decide +kernel
theorem dX2_spells_41 : decode cX2_spells 41 = .ok (.invokevirtual 101, 3) := by decide +kernel
theorem dX2_spells_44 : decode cX2_spells 44 = .ok (.if_icmp .eq 5, 3) := by decide +kernel
theorem dX2_spells_47 : decode cX2_spells 47 = .ok (.iconst 0, 1) := by decide +kernel
theorem dX2_spells_48 : decode cX2_spells 48 = .ok (.ireturn, 1) := by decide +kernel
theorem dX2_spells_49 : decode cX2_spells 49 = .ok (.iinc 2 1, 3) := by decide +kernel
theorem dX2_spells_52 : decode cX2_spells 52 = .ok (.goto (-32), 3) := by decide +kernel
theorem dX2_spells_55 : decode cX2_spells 55 = .ok (.iconst 1, 1) := by decide +kernel
theorem dX2_spells_56 : decode cX2_spells 56 = .ok (.ireturn, 1) := by decide +kernel
theorem dX2_spelling_0 : decode cX2_spelling 0 = .ok (.iload_n 0, 1) := by decide +kernel
theorem dX2_spelling_1 : decode cX2_spelling 1 = .ok (.tableswitch 92 1 11 #[59, 62, 65, 68, 71, 74, 77, 80, 83, 86, 89], 59) := by decide +kernel
theorem dX2_spelling_60 : decode cX2_spelling 60 = .ok (.ldc 105, 2) := by decide +kernel
theorem dX2_spelling_62 : decode cX2_spelling 62 = .ok (.areturn, 1) := by decide +kernel
theorem dX2_spelling_63 : decode cX2_spelling 63 = .ok (.ldc 107, 2) := by decide +kernel
theorem dX2_spelling_65 : decode cX2_spelling 65 = .ok (.areturn, 1) := by decide +kernel
theorem dX2_spelling_66 : decode cX2_spelling 66 = .ok (.ldc 109, 2) := by decide +kernel
theorem dX2_spelling_68 : decode cX2_spelling 68 = .ok (.areturn, 1) := by decide +kernel
theorem dX2_spelling_69 : decode cX2_spelling 69 = .ok (.ldc 111, 2) := by decide +kernel
theorem dX2_spelling_71 : decode cX2_spelling 71 = .ok (.areturn, 1) := by decide +kernel
theorem dX2_spelling_72 : decode cX2_spelling 72 = .ok (.ldc 113, 2) := by decide +kernel
theorem dX2_spelling_74 : decode cX2_spelling 74 = .ok (.areturn, 1) := by decide +kernel
theorem dX2_spelling_75 : decode cX2_spelling 75 = .ok (.ldc 115, 2) := by decide +kernel
theorem dX2_spelling_77 : decode cX2_spelling 77 = .ok (.areturn, 1) := by decide +kernel
theorem dX2_spelling_78 : decode cX2_spelling 78 = .ok (.ldc 117, 2) := by decide +kernel
theorem dX2_spelling_80 : decode cX2_spelling 80 = .ok (.areturn, 1) := by decide +kernel
theorem dX2_spelling_81 : decode cX2_spelling 81 = .ok (.ldc 119, 2) := by decide +kernel
theorem dX2_spelling_83 : decode cX2_spelling 83 = .ok (.areturn, 1) := by decide +kernel
theorem dX2_spelling_84 : decode cX2_spelling 84 = .ok (.ldc 121, 2) := by decide +kernel
theorem dX2_spelling_86 : decode cX2_spelling 86 = .ok (.areturn, 1) := by decide +kernel
theorem dX2_spelling_87 : decode cX2_spelling 87 = .ok (.ldc 123, 2) := by decide +kernel
theorem dX2_spelling_89 : decode cX2_spelling 89 = .ok (.areturn, 1) := by decide +kernel
theorem dX2_spelling_90 : decode cX2_spelling 90 = .ok (.ldc 125, 2) := by decide +kernel
theorem dX2_spelling_92 : decode cX2_spelling 92 = .ok (.areturn, 1) := by decide +kernel
theorem dX2_spelling_93 : decode cX2_spelling 93 = .ok (.ldc 127, 2) := by decide +kernel
theorem dX2_spelling_95 : decode cX2_spelling 95 = .ok (.areturn, 1) := by decide +kernel
theorem dX2_isLetter_0 : decode cX2_isLetter 0 = .ok (.bipush 97, 2) := by decide +kernel
theorem dX2_isLetter_2 : decode cX2_isLetter 2 = .ok (.iload_n 0, 1) := by decide +kernel
theorem dX2_isLetter_3 : decode cX2_isLetter 3 = .ok (.if_icmp .gt 13, 3) := by decide +kernel
theorem dX2_isLetter_6 : decode cX2_isLetter 6 = .ok (.iload_n 0, 1) := by decide +kernel
theorem dX2_isLetter_7 : decode cX2_isLetter 7 = .ok (.bipush 122, 2) := by decide +kernel
theorem dX2_isLetter_9 : decode cX2_isLetter 9 = .ok (.if_icmp .gt 7, 3) := by decide +kernel
theorem dX2_isLetter_12 : decode cX2_isLetter 12 = .ok (.iconst 1, 1) := by decide +kernel
theorem dX2_isLetter_13 : decode cX2_isLetter 13 = .ok (.goto 4, 3) := by decide +kernel
theorem dX2_isLetter_16 : decode cX2_isLetter 16 = .ok (.iconst 0, 1) := by decide +kernel
theorem dX2_isLetter_17 : decode cX2_isLetter 17 = .ok (.ireturn, 1) := by decide +kernel
theorem dX2_isDigit_0 : decode cX2_isDigit 0 = .ok (.bipush 48, 2) := by decide +kernel
theorem dX2_isDigit_2 : decode cX2_isDigit 2 = .ok (.iload_n 0, 1) := by decide +kernel
theorem dX2_isDigit_3 : decode cX2_isDigit 3 = .ok (.if_icmp .gt 13, 3) := by decide +kernel
theorem dX2_isDigit_6 : decode cX2_isDigit 6 = .ok (.iload_n 0, 1) := by decide +kernel
theorem dX2_isDigit_7 : decode cX2_isDigit 7 = .ok (.bipush 57, 2) := by decide +kernel
theorem dX2_isDigit_9 : decode cX2_isDigit 9 = .ok (.if_icmp .gt 7, 3) := by decide +kernel
theorem dX2_isDigit_12 : decode cX2_isDigit 12 = .ok (.iconst 1, 1) := by decide +kernel
theorem dX2_isDigit_13 : decode cX2_isDigit 13 = .ok (.goto 4, 3) := by decide +kernel
theorem dX2_isDigit_16 : decode cX2_isDigit 16 = .ok (.iconst 0, 1) := by decide +kernel
theorem dX2_isDigit_17 : decode cX2_isDigit 17 = .ok (.ireturn, 1) := by decide +kernel
theorem dX2_isSign_0 : decode cX2_isSign 0 = .ok (.iload_n 0, 1) := by decide +kernel
theorem dX2_isSign_1 : decode cX2_isSign 1 = .ok (.tableswitch 105 40 61 #[103, 103, 103, 103, 105, 103, 105, 105, 105, 105, 105, 105, 105, 105, 105, 105, 105, 105, 105, 103, 103, 103], 103) := by decide +kernel
theorem dX2_isSign_104 : decode cX2_isSign 104 = .ok (.iconst 1, 1) := by decide +kernel
theorem dX2_isSign_105 : decode cX2_isSign 105 = .ok (.ireturn, 1) := by decide +kernel
theorem dX2_isSign_106 : decode cX2_isSign 106 = .ok (.iconst 0, 1) := by decide +kernel
theorem dX2_isSign_107 : decode cX2_isSign 107 = .ok (.ireturn, 1) := by decide +kernel
theorem dX3_init_0 : decode cX3_init 0 = .ok (.aload_n 0, 1) := by decide +kernel
theorem dX3_init_1 : decode cX3_init 1 = .ok (.invokespecial 1, 3) := by decide +kernel
theorem dX3_init_4 : decode cX3_init 4 = .ok (.aload_n 0, 1) := by decide +kernel
theorem dX3_init_5 : decode cX3_init 5 = .ok (.sipush 160, 3) := by decide +kernel
theorem dX3_init_8 : decode cX3_init 8 = .ok (.newarray .int, 2) := by decide +kernel
theorem dX3_init_10 : decode cX3_init 10 = .ok (.putfield 9, 3) := by decide +kernel
theorem dX3_init_13 : decode cX3_init 13 = .ok (.aload_n 0, 1) := by decide +kernel
theorem dX3_init_14 : decode cX3_init 14 = .ok (.iconst 3, 1) := by decide +kernel
theorem dX3_init_15 : decode cX3_init 15 = .ok (.newarray .int, 2) := by decide +kernel
theorem dX3_init_17 : decode cX3_init 17 = .ok (.putfield 15, 3) := by decide +kernel
theorem dX3_init_20 : decode cX3_init 20 = .ok (.aload_n 0, 1) := by decide +kernel
theorem dX3_init_21 : decode cX3_init 21 = .ok (.sipush 160, 3) := by decide +kernel
theorem dX3_init_24 : decode cX3_init 24 = .ok (.newarray .int, 2) := by decide +kernel
theorem dX3_init_26 : decode cX3_init 26 = .ok (.putfield 18, 3) := by decide +kernel
theorem dX3_init_29 : decode cX3_init 29 = .ok (.aload_n 0, 1) := by decide +kernel
theorem dX3_init_30 : decode cX3_init 30 = .ok (.iload_n 1, 1) := by decide +kernel
theorem dX3_init_31 : decode cX3_init 31 = .ok (.putfield 21, 3) := by decide +kernel
theorem dX3_init_34 : decode cX3_init 34 = .ok (.return_, 1) := by decide +kernel
theorem dX3_adopt_0 : decode cX3_adopt 0 = .ok (.aload_n 1, 1) := by decide +kernel
theorem dX3_adopt_1 : decode cX3_adopt 1 = .ok (.iconst 0, 1) := by decide +kernel
theorem dX3_adopt_2 : decode cX3_adopt 2 = .ok (.aload_n 0, 1) := by decide +kernel
theorem dX3_adopt_3 : decode cX3_adopt 3 = .ok (.getfield 9, 3) := by decide +kernel
theorem dX3_adopt_6 : decode cX3_adopt 6 = .ok (.iconst 0, 1) := by decide +kernel
theorem dX3_adopt_7 : decode cX3_adopt 7 = .ok (.aload_n 1, 1) := by decide +kernel
theorem dX3_adopt_8 : decode cX3_adopt 8 = .ok (.arraylength, 1) := by decide +kernel
theorem dX3_adopt_9 : decode cX3_adopt 9 = .ok (.aload_n 0, 1) := by decide +kernel
theorem dX3_adopt_10 : decode cX3_adopt 10 = .ok (.getfield 9, 3) := by decide +kernel
theorem dX3_adopt_13 : decode cX3_adopt 13 = .ok (.arraylength, 1) := by decide +kernel
theorem dX3_adopt_14 : decode cX3_adopt 14 = .ok (.invokestatic 25, 3) := by decide +kernel
theorem dX3_adopt_17 : decode cX3_adopt 17 = .ok (.invokestatic 31, 3) := by decide +kernel
theorem dX3_adopt_20 : decode cX3_adopt 20 = .ok (.aload_n 2, 1) := by decide +kernel
theorem dX3_adopt_21 : decode cX3_adopt 21 = .ok (.iconst 0, 1) := by decide +kernel
theorem dX3_adopt_22 : decode cX3_adopt 22 = .ok (.aload_n 0, 1) := by decide +kernel
theorem dX3_adopt_23 : decode cX3_adopt 23 = .ok (.getfield 15, 3) := by decide +kernel
theorem dX3_adopt_26 : decode cX3_adopt 26 = .ok (.iconst 0, 1) := by decide +kernel
theorem dX3_adopt_27 : decode cX3_adopt 27 = .ok (.aload_n 2, 1) := by decide +kernel
theorem dX3_adopt_28 : decode cX3_adopt 28 = .ok (.arraylength, 1) := by decide +kernel
theorem dX3_adopt_29 : decode cX3_adopt 29 = .ok (.aload_n 0, 1) := by decide +kernel
theorem dX3_adopt_30 : decode cX3_adopt 30 = .ok (.getfield 15, 3) := by decide +kernel
theorem dX3_adopt_33 : decode cX3_adopt 33 = .ok (.arraylength, 1) := by decide +kernel
theorem dX3_adopt_34 : decode cX3_adopt 34 = .ok (.invokestatic 25, 3) := by decide +kernel
theorem dX3_adopt_37 : decode cX3_adopt 37 = .ok (.invokestatic 31, 3) := by decide +kernel
theorem dX3_adopt_40 : decode cX3_adopt 40 = .ok (.return_, 1) := by decide +kernel
theorem dX3_value_0 : decode cX3_value 0 = .ok (.iconst 0, 1) := by decide +kernel
theorem dX3_value_1 : decode cX3_value 1 = .ok (.istore_n 3, 1) := by decide +kernel
theorem dX3_value_2 : decode cX3_value 2 = .ok (.iload_n 1, 1) := by decide +kernel
theorem dX3_value_3 : decode cX3_value 3 = .ok (.ifCond .ne 7, 3) := by decide +kernel
theorem dX3_value_6 : decode cX3_value 6 = .ok (.iconst 0, 1) := by decide +kernel
theorem dX3_value_7 : decode cX3_value 7 = .ok (.goto 11, 3) := by decide +kernel
theorem dX3_value_10 : decode cX3_value 10 = .ok (.aload_n 0, 1) := by decide +kernel
theorem dX3_value_11 : decode cX3_value 11 = .ok (.getfield 15, 3) := by decide +kernel
theorem dX3_value_14 : decode cX3_value 14 = .ok (.iload_n 1, 1) := by decide +kernel
theorem dX3_value_15 : decode cX3_value 15 = .ok (.iconst 1, 1) := by decide +kernel
theorem dX3_value_16 : decode cX3_value 16 = .ok (.isub, 1) := by decide +kernel
theorem dX3_value_17 : decode cX3_value 17 = .ok (.iaload, 1) := by decide +kernel
theorem dX3_value_18 : decode cX3_value 18 = .ok (.istore 4, 2) := by decide +kernel
theorem dX3_value_20 : decode cX3_value 20 = .ok (.iload 4, 2) := by decide +kernel
theorem dX3_value_22 : decode cX3_value 22 = .ok (.aload_n 0, 1) := by decide +kernel
theorem dX3_value_23 : decode cX3_value 23 = .ok (.getfield 15, 3) := by decide +kernel
theorem dX3_value_26 : decode cX3_value 26 = .ok (.iload_n 1, 1) := by decide +kernel
theorem dX3_value_27 : decode cX3_value 27 = .ok (.iaload, 1) := by decide +kernel
theorem dX3_value_28 : decode cX3_value 28 = .ok (.if_icmp .ge 139, 3) := by decide +kernel
theorem dX3_value_31 : decode cX3_value 31 = .ok (.aload_n 0, 1) := by decide +kernel
theorem dX3_value_32 : decode cX3_value 32 = .ok (.getfield 9, 3) := by decide +kernel
theorem dX3_value_35 : decode cX3_value 35 = .ok (.iload 4, 2) := by decide +kernel
theorem dX3_value_37 : decode cX3_value 37 = .ok (.iaload, 1) := by decide +kernel
theorem dX3_value_38 : decode cX3_value 38 = .ok (.istore 5, 2) := by decide +kernel
theorem dX3_value_40 : decode cX3_value 40 = .ok (.iload 5, 2) := by decide +kernel
theorem dX3_value_42 : decode cX3_value 42 = .ok (.bipush (-7), 2) := by decide +kernel
theorem dX3_value_44 : decode cX3_value 44 = .ok (.if_icmp .le 39, 3) := by decide +kernel
theorem dX3_value_47 : decode cX3_value 47 = .ok (.iload_n 3, 1) := by decide +kernel
theorem dX3_value_48 : decode cX3_value 48 = .ok (.aload_n 0, 1) := by decide +kernel
theorem dX3_value_49 : decode cX3_value 49 = .ok (.getfield 18, 3) := by decide +kernel
theorem dX3_value_52 : decode cX3_value 52 = .ok (.arraylength, 1) := by decide +kernel
theorem dX3_value_53 : decode cX3_value 53 = .ok (.if_icmp .ge 108, 3) := by decide +kernel
theorem dX3_value_56 : decode cX3_value 56 = .ok (.aload_n 0, 1) := by decide +kernel
theorem dX3_value_57 : decode cX3_value 57 = .ok (.getfield 18, 3) := by decide +kernel
theorem dX3_value_60 : decode cX3_value 60 = .ok (.iload_n 3, 1) := by decide +kernel
theorem dX3_value_61 : decode cX3_value 61 = .ok (.iload 5, 2) := by decide +kernel
theorem dX3_value_63 : decode cX3_value 63 = .ok (.ifCond .lt 8, 3) := by decide +kernel
theorem dX3_value_66 : decode cX3_value 66 = .ok (.iload 5, 2) := by decide +kernel
theorem dX3_value_68 : decode cX3_value 68 = .ok (.goto 8, 3) := by decide +kernel
theorem dX3_value_71 : decode cX3_value 71 = .ok (.aload_n 2, 1) := by decide +kernel
theorem dX3_value_72 : decode cX3_value 72 = .ok (.iload 5, 2) := by decide +kernel
theorem dX3_value_74 : decode cX3_value 74 = .ok (.ineg, 1) := by decide +kernel
theorem dX3_value_75 : decode cX3_value 75 = .ok (.iaload, 1) := by decide +kernel
theorem dX3_value_76 : decode cX3_value 76 = .ok (.iastore, 1) := by decide +kernel
theorem dX3_value_77 : decode cX3_value 77 = .ok (.iinc 3 1, 3) := by decide +kernel
theorem dX3_value_80 : decode cX3_value 80 = .ok (.goto 81, 3) := by decide +kernel
theorem dX3_value_83 : decode cX3_value 83 = .ok (.iload 5, 2) := by decide +kernel
theorem dX3_value_85 : decode cX3_value 85 = .ok (.bipush (-12), 2) := by decide +kernel
theorem dX3_value_87 : decode cX3_value 87 = .ok (.if_icmp .eq 10, 3) := by decide +kernel
theorem dX3_value_90 : decode cX3_value 90 = .ok (.iload 5, 2) := by decide +kernel
theorem dX3_value_92 : decode cX3_value 92 = .ok (.bipush (-13), 2) := by decide +kernel
theorem dX3_value_94 : decode cX3_value 94 = .ok (.if_icmp .ne 32, 3) := by decide +kernel
theorem dX3_value_97 : decode cX3_value 97 = .ok (.iload_n 3, 1) := by decide +kernel
theorem dX3_value_98 : decode cX3_value 98 = .ok (.iconst 1, 1) := by decide +kernel
theorem dX3_value_99 : decode cX3_value 99 = .ok (.if_icmp .lt 62, 3) := by decide +kernel
theorem dX3_value_102 : decode cX3_value 102 = .ok (.aload_n 0, 1) := by decide +kernel
theorem dX3_value_103 : decode cX3_value 103 = .ok (.getfield 18, 3) := by decide +kernel
theorem dX3_value_106 : decode cX3_value 106 = .ok (.iload_n 3, 1) := by decide +kernel
theorem dX3_value_107 : decode cX3_value 107 = .ok (.iconst 1, 1) := by decide +kernel
theorem dX3_value_108 : decode cX3_value 108 = .ok (.isub, 1) := by decide +kernel
theorem dX3_value_109 : decode cX3_value 109 = .ok (.iload 5, 2) := by decide +kernel
theorem dX3_value_111 : decode cX3_value 111 = .ok (.aload_n 0, 1) := by decide +kernel
theorem dX3_value_112 : decode cX3_value 112 = .ok (.getfield 18, 3) := by decide +kernel
theorem dX3_value_115 : decode cX3_value 115 = .ok (.iload_n 3, 1) := by decide +kernel
theorem dX3_value_116 : decode cX3_value 116 = .ok (.iconst 1, 1) := by decide +kernel
theorem dX3_value_117 : decode cX3_value 117 = .ok (.isub, 1) := by decide +kernel
theorem dX3_value_118 : decode cX3_value 118 = .ok (.iaload, 1) := by decide +kernel
theorem dX3_value_119 : decode cX3_value 119 = .ok (.invokestatic 37, 3) := by decide +kernel
theorem dX3_value_122 : decode cX3_value 122 = .ok (.iastore, 1) := by decide +kernel
theorem dX3_value_123 : decode cX3_value 123 = .ok (.goto 38, 3) := by decide +kernel
theorem dX3_value_126 : decode cX3_value 126 = .ok (.iload_n 3, 1) := by decide +kernel
theorem dX3_value_127 : decode cX3_value 127 = .ok (.iconst 2, 1) := by decide +kernel
theorem dX3_value_128 : decode cX3_value 128 = .ok (.if_icmp .lt 33, 3) := by decide +kernel
theorem dX3_value_131 : decode cX3_value 131 = .ok (.iinc 3 (-1), 3) := by decide +kernel
theorem dX3_value_134 : decode cX3_value 134 = .ok (.aload_n 0, 1) := by decide +kernel
theorem dX3_value_135 : decode cX3_value 135 = .ok (.getfield 18, 3) := by decide +kernel
theorem dX3_value_138 : decode cX3_value 138 = .ok (.iload_n 3, 1) := by decide +kernel
theorem dX3_value_139 : decode cX3_value 139 = .ok (.iconst 1, 1) := by decide +kernel
theorem dX3_value_140 : decode cX3_value 140 = .ok (.isub, 1) := by decide +kernel
theorem dX3_value_141 : decode cX3_value 141 = .ok (.iload 5, 2) := by decide +kernel
theorem dX3_value_143 : decode cX3_value 143 = .ok (.aload_n 0, 1) := by decide +kernel
theorem dX3_value_144 : decode cX3_value 144 = .ok (.getfield 18, 3) := by decide +kernel
theorem dX3_value_147 : decode cX3_value 147 = .ok (.iload_n 3, 1) := by decide +kernel
theorem dX3_value_148 : decode cX3_value 148 = .ok (.iconst 1, 1) := by decide +kernel
theorem dX3_value_149 : decode cX3_value 149 = .ok (.isub, 1) := by decide +kernel
theorem dX3_value_150 : decode cX3_value 150 = .ok (.iaload, 1) := by decide +kernel
theorem dX3_value_151 : decode cX3_value 151 = .ok (.aload_n 0, 1) := by decide +kernel
theorem dX3_value_152 : decode cX3_value 152 = .ok (.getfield 18, 3) := by decide +kernel
theorem dX3_value_155 : decode cX3_value 155 = .ok (.iload_n 3, 1) := by decide +kernel
theorem dX3_value_156 : decode cX3_value 156 = .ok (.iaload, 1) := by decide +kernel
theorem dX3_value_157 : decode cX3_value 157 = .ok (.invokestatic 40, 3) := by decide +kernel
theorem dX3_value_160 : decode cX3_value 160 = .ok (.iastore, 1) := by decide +kernel
theorem dX3_value_161 : decode cX3_value 161 = .ok (.iinc 4 1, 3) := by decide +kernel
theorem dX3_value_164 : decode cX3_value 164 = .ok (.goto (-144), 3) := by decide +kernel
theorem dX3_value_167 : decode cX3_value 167 = .ok (.aload_n 0, 1) := by decide +kernel
theorem dX3_value_168 : decode cX3_value 168 = .ok (.getfield 18, 3) := by decide +kernel
theorem dX3_value_171 : decode cX3_value 171 = .ok (.iconst 0, 1) := by decide +kernel
theorem dX3_value_172 : decode cX3_value 172 = .ok (.iaload, 1) := by decide +kernel
theorem dX3_value_173 : decode cX3_value 173 = .ok (.ireturn, 1) := by decide +kernel
theorem dX3_turned_0 : decode cX3_turned 0 = .ok (.iload_n 0, 1) := by decide +kernel
theorem dX3_turned_1 : decode cX3_turned 1 = .ok (.bipush (-13), 2) := by decide +kernel
theorem dX3_turned_3 : decode cX3_turned 3 = .ok (.if_icmp .ne 6, 3) := by decide +kernel
theorem dX3_turned_6 : decode cX3_turned 6 = .ok (.iload_n 1, 1) := by decide +kernel
theorem dX3_turned_7 : decode cX3_turned 7 = .ok (.ineg, 1) := by decide +kernel
theorem dX3_turned_8 : decode cX3_turned 8 = .ok (.ireturn, 1) := by decide +kernel
theorem dX3_turned_9 : decode cX3_turned 9 = .ok (.iload_n 1, 1) := by decide +kernel
theorem dX3_turned_10 : decode cX3_turned 10 = .ok (.ifCond .ne 7, 3) := by decide +kernel
theorem dX3_turned_13 : decode cX3_turned 13 = .ok (.iconst 1, 1) := by decide +kernel
theorem dX3_turned_14 : decode cX3_turned 14 = .ok (.goto 4, 3) := by decide +kernel
theorem dX3_turned_17 : decode cX3_turned 17 = .ok (.iconst 0, 1) := by decide +kernel
theorem dX3_turned_18 : decode cX3_turned 18 = .ok (.ireturn, 1) := by decide +kernel
theorem dX3_joined_0 : decode cX3_joined 0 = .ok (.iload_n 0, 1) := by decide +kernel
theorem dX3_joined_1 : decode cX3_joined 1 = .ok (.ineg, 1) := by decide +kernel
theorem dX3_joined_2 : decode cX3_joined 2 = .ok (.lookupswitch 116 #[(10, 58), (11, 72), (43, 108), (45, 112), (60, 86), (61, 97)], 58) := by decide +kernel
theorem dX3_joined_60 : decode cX3_joined 60 = .ok (.iload_n 1, 1) := by decide +kernel
theorem dX3_joined_61 : decode cX3_joined 61 = .ok (.ifCond .ne 7, 3) := by decide +kernel
theorem dX3_joined_64 : decode cX3_joined 64 = .ok (.iload_n 2, 1) := by decide +kernel
theorem dX3_joined_65 : decode cX3_joined 65 = .ok (.ifCond .eq 7, 3) := by decide +kernel
theorem dX3_joined_68 : decode cX3_joined 68 = .ok (.iconst 1, 1) := by decide +kernel
theorem dX3_joined_69 : decode cX3_joined 69 = .ok (.goto 4, 3) := by decide +kernel
theorem dX3_joined_72 : decode cX3_joined 72 = .ok (.iconst 0, 1) := by decide +kernel
theorem dX3_joined_73 : decode cX3_joined 73 = .ok (.ireturn, 1) := by decide +kernel
theorem dX3_joined_74 : decode cX3_joined 74 = .ok (.iload_n 1, 1) := by decide +kernel
theorem dX3_joined_75 : decode cX3_joined 75 = .ok (.ifCond .eq 11, 3) := by decide +kernel
theorem dX3_joined_78 : decode cX3_joined 78 = .ok (.iload_n 2, 1) := by decide +kernel
theorem dX3_joined_79 : decode cX3_joined 79 = .ok (.ifCond .eq 7, 3) := by decide +kernel
theorem dX3_joined_82 : decode cX3_joined 82 = .ok (.iconst 1, 1) := by decide +kernel
theorem dX3_joined_83 : decode cX3_joined 83 = .ok (.goto 4, 3) := by decide +kernel
theorem dX3_joined_86 : decode cX3_joined 86 = .ok (.iconst 0, 1) := by decide +kernel
theorem dX3_joined_87 : decode cX3_joined 87 = .ok (.ireturn, 1) := by decide +kernel
theorem dX3_joined_88 : decode cX3_joined 88 = .ok (.iload_n 1, 1) := by decide +kernel
theorem dX3_joined_89 : decode cX3_joined 89 = .ok (.iload_n 2, 1) := by decide +kernel
theorem dX3_joined_90 : decode cX3_joined 90 = .ok (.if_icmp .ge 7, 3) := by decide +kernel
theorem dX3_joined_93 : decode cX3_joined 93 = .ok (.iconst 1, 1) := by decide +kernel
theorem dX3_joined_94 : decode cX3_joined 94 = .ok (.goto 4, 3) := by decide +kernel
theorem dX3_joined_97 : decode cX3_joined 97 = .ok (.iconst 0, 1) := by decide +kernel
theorem dX3_joined_98 : decode cX3_joined 98 = .ok (.ireturn, 1) := by decide +kernel
theorem dX3_joined_99 : decode cX3_joined 99 = .ok (.iload_n 1, 1) := by decide +kernel
theorem dX3_joined_100 : decode cX3_joined 100 = .ok (.iload_n 2, 1) := by decide +kernel
theorem dX3_joined_101 : decode cX3_joined 101 = .ok (.if_icmp .ne 7, 3) := by decide +kernel
theorem dX3_joined_104 : decode cX3_joined 104 = .ok (.iconst 1, 1) := by decide +kernel
theorem dX3_joined_105 : decode cX3_joined 105 = .ok (.goto 4, 3) := by decide +kernel
theorem dX3_joined_108 : decode cX3_joined 108 = .ok (.iconst 0, 1) := by decide +kernel
theorem dX3_joined_109 : decode cX3_joined 109 = .ok (.ireturn, 1) := by decide +kernel
theorem dX3_joined_110 : decode cX3_joined 110 = .ok (.iload_n 1, 1) := by decide +kernel
theorem dX3_joined_111 : decode cX3_joined 111 = .ok (.iload_n 2, 1) := by decide +kernel
theorem dX3_joined_112 : decode cX3_joined 112 = .ok (.iadd, 1) := by decide +kernel
theorem dX3_joined_113 : decode cX3_joined 113 = .ok (.ireturn, 1) := by decide +kernel
theorem dX3_joined_114 : decode cX3_joined 114 = .ok (.iload_n 1, 1) := by decide +kernel
theorem dX3_joined_115 : decode cX3_joined 115 = .ok (.iload_n 2, 1) := by decide +kernel
theorem dX3_joined_116 : decode cX3_joined 116 = .ok (.isub, 1) := by decide +kernel
theorem dX3_joined_117 : decode cX3_joined 117 = .ok (.ireturn, 1) := by decide +kernel
theorem dX3_joined_118 : decode cX3_joined 118 = .ok (.iload_n 1, 1) := by decide +kernel
theorem dX3_joined_119 : decode cX3_joined 119 = .ok (.iload_n 2, 1) := by decide +kernel
theorem dX3_joined_120 : decode cX3_joined 120 = .ok (.imul, 1) := by decide +kernel
theorem dX3_joined_121 : decode cX3_joined 121 = .ok (.ireturn, 1) := by decide +kernel
theorem dX4_init_0 : decode cX4_init 0 = .ok (.aload_n 0, 1) := by decide +kernel
theorem dX4_init_1 : decode cX4_init 1 = .ok (.invokespecial 3, 3) := by decide +kernel
theorem dX4_init_4 : decode cX4_init 4 = .ok (.aload_n 0, 1) := by decide +kernel
theorem dX4_init_5 : decode cX4_init 5 = .ok (.iconst (-1), 1) := by decide +kernel
theorem dX4_init_6 : decode cX4_init 6 = .ok (.putfield 11, 3) := by decide +kernel
theorem dX4_init_9 : decode cX4_init 9 = .ok (.aload_n 0, 1) := by decide +kernel
theorem dX4_init_10 : decode cX4_init 10 = .ok (.iconst 0, 1) := by decide +kernel
theorem dX4_init_11 : decode cX4_init 11 = .ok (.putfield 15, 3) := by decide +kernel
theorem dX4_init_14 : decode cX4_init 14 = .ok (.aload_n 0, 1) := by decide +kernel
theorem dX4_init_15 : decode cX4_init 15 = .ok (.bipush 40, 2) := by decide +kernel
theorem dX4_init_17 : decode cX4_init 17 = .ok (.newarray .int, 2) := by decide +kernel
theorem dX4_init_19 : decode cX4_init 19 = .ok (.putfield 18, 3) := by decide +kernel
theorem dX4_init_22 : decode cX4_init 22 = .ok (.return_, 1) := by decide +kernel
theorem dX4_isMissing_0 : decode cX4_isMissing 0 = .ok (.aload_n 0, 1) := by decide +kernel
theorem dX4_isMissing_1 : decode cX4_isMissing 1 = .ok (.getfield 11, 3) := by decide +kernel
theorem dX4_isMissing_4 : decode cX4_isMissing 4 = .ok (.iconst (-1), 1) := by decide +kernel
theorem dX4_isMissing_5 : decode cX4_isMissing 5 = .ok (.if_icmp .ne 7, 3) := by decide +kernel
theorem dX4_isMissing_8 : decode cX4_isMissing 8 = .ok (.iconst 1, 1) := by decide +kernel
theorem dX4_isMissing_9 : decode cX4_isMissing 9 = .ok (.goto 4, 3) := by decide +kernel
theorem dX4_isMissing_12 : decode cX4_isMissing 12 = .ok (.iconst 0, 1) := by decide +kernel
theorem dX4_isMissing_13 : decode cX4_isMissing 13 = .ok (.ireturn, 1) := by decide +kernel
theorem dX4_lay_0 : decode cX4_lay 0 = .ok (.aload_n 0, 1) := by decide +kernel
theorem dX4_lay_1 : decode cX4_lay 1 = .ok (.iload_n 1, 1) := by decide +kernel
theorem dX4_lay_2 : decode cX4_lay 2 = .ok (.putfield 11, 3) := by decide +kernel
theorem dX4_lay_5 : decode cX4_lay 5 = .ok (.aload_n 0, 1) := by decide +kernel
theorem dX4_lay_6 : decode cX4_lay 6 = .ok (.iload_n 2, 1) := by decide +kernel
theorem dX4_lay_7 : decode cX4_lay 7 = .ok (.putfield 15, 3) := by decide +kernel
theorem dX4_lay_10 : decode cX4_lay 10 = .ok (.aload_n 0, 1) := by decide +kernel
theorem dX4_lay_11 : decode cX4_lay 11 = .ok (.getfield 18, 3) := by decide +kernel
theorem dX4_lay_14 : decode cX4_lay 14 = .ok (.iconst 0, 1) := by decide +kernel
theorem dX4_lay_15 : decode cX4_lay 15 = .ok (.invokestatic 22, 3) := by decide +kernel
theorem dX4_lay_18 : decode cX4_lay 18 = .ok (.return_, 1) := by decide +kernel
theorem dX4_holds_0 : decode cX4_holds 0 = .ok (.iload_n 1, 1) := by decide +kernel
theorem dX4_holds_1 : decode cX4_holds 1 = .ok (.ifCond .lt 21, 3) := by decide +kernel
theorem dX4_holds_4 : decode cX4_holds 4 = .ok (.iload_n 2, 1) := by decide +kernel
theorem dX4_holds_5 : decode cX4_holds 5 = .ok (.ifCond .lt 17, 3) := by decide +kernel
theorem dX4_holds_8 : decode cX4_holds 8 = .ok (.iload_n 1, 1) := by decide +kernel
theorem dX4_holds_9 : decode cX4_holds 9 = .ok (.aload_n 0, 1) := by decide +kernel
theorem dX4_holds_10 : decode cX4_holds 10 = .ok (.getfield 15, 3) := by decide +kernel
theorem dX4_holds_13 : decode cX4_holds 13 = .ok (.iload_n 2, 1) := by decide +kernel
theorem dX4_holds_14 : decode cX4_holds 14 = .ok (.isub, 1) := by decide +kernel
theorem dX4_holds_15 : decode cX4_holds 15 = .ok (.if_icmp .gt 7, 3) := by decide +kernel
theorem dX4_holds_18 : decode cX4_holds 18 = .ok (.iconst 1, 1) := by decide +kernel
theorem dX4_holds_19 : decode cX4_holds 19 = .ok (.goto 4, 3) := by decide +kernel
theorem dX4_holds_22 : decode cX4_holds 22 = .ok (.iconst 0, 1) := by decide +kernel
theorem dX4_holds_23 : decode cX4_holds 23 = .ok (.ireturn, 1) := by decide +kernel
theorem dX4_put_0 : decode cX4_put 0 = .ok (.aload_n 0, 1) := by decide +kernel
theorem dX4_put_1 : decode cX4_put 1 = .ok (.getfield 11, 3) := by decide +kernel
theorem dX4_put_4 : decode cX4_put 4 = .ok (.lookupswitch 50 #[(0, 28), (1, 39)], 28) := by decide +kernel
theorem dX4_put_32 : decode cX4_put 32 = .ok (.aload_n 0, 1) := by decide +kernel
theorem dX4_put_33 : decode cX4_put 33 = .ok (.getfield 18, 3) := by decide +kernel
theorem dX4_put_36 : decode cX4_put 36 = .ok (.iload_n 1, 1) := by decide +kernel
theorem dX4_put_37 : decode cX4_put 37 = .ok (.iload_n 2, 1) := by decide +kernel
theorem dX4_put_38 : decode cX4_put 38 = .ok (.i2b, 1) := by decide +kernel
theorem dX4_put_39 : decode cX4_put 39 = .ok (.iastore, 1) := by decide +kernel
theorem dX4_put_40 : decode cX4_put 40 = .ok (.goto 21, 3) := by decide +kernel
theorem dX4_put_43 : decode cX4_put 43 = .ok (.aload_n 0, 1) := by decide +kernel
theorem dX4_put_44 : decode cX4_put 44 = .ok (.getfield 18, 3) := by decide +kernel
theorem dX4_put_47 : decode cX4_put 47 = .ok (.iload_n 1, 1) := by decide +kernel
theorem dX4_put_48 : decode cX4_put 48 = .ok (.iload_n 2, 1) := by decide +kernel
theorem dX4_put_49 : decode cX4_put 49 = .ok (.i2s, 1) := by decide +kernel
theorem dX4_put_50 : decode cX4_put 50 = .ok (.iastore, 1) := by decide +kernel
theorem dX4_put_51 : decode cX4_put 51 = .ok (.goto 10, 3) := by decide +kernel
theorem dX4_put_54 : decode cX4_put 54 = .ok (.aload_n 0, 1) := by decide +kernel
theorem dX4_put_55 : decode cX4_put 55 = .ok (.getfield 18, 3) := by decide +kernel
theorem dX4_put_58 : decode cX4_put 58 = .ok (.iload_n 1, 1) := by decide +kernel
theorem dX4_put_59 : decode cX4_put 59 = .ok (.iload_n 2, 1) := by decide +kernel
theorem dX4_put_60 : decode cX4_put 60 = .ok (.iastore, 1) := by decide +kernel
theorem dX4_put_61 : decode cX4_put 61 = .ok (.return_, 1) := by decide +kernel
theorem dX5_init_0 : decode cX5_init 0 = .ok (.aload_n 0, 1) := by decide +kernel
theorem dX5_init_1 : decode cX5_init 1 = .ok (.invokespecial 3, 3) := by decide +kernel
theorem dX5_init_4 : decode cX5_init 4 = .ok (.aload_n 0, 1) := by decide +kernel
theorem dX5_init_5 : decode cX5_init 5 = .ok (.iconst 0, 1) := by decide +kernel
theorem dX5_init_6 : decode cX5_init 6 = .ok (.putfield 9, 3) := by decide +kernel
theorem dX5_init_9 : decode cX5_init 9 = .ok (.aload_n 0, 1) := by decide +kernel
theorem dX5_init_10 : decode cX5_init 10 = .ok (.iconst 0, 1) := by decide +kernel
theorem dX5_init_11 : decode cX5_init 11 = .ok (.putfield 15, 3) := by decide +kernel
theorem dX5_init_14 : decode cX5_init 14 = .ok (.aload_n 0, 1) := by decide +kernel
theorem dX5_init_15 : decode cX5_init 15 = .ok (.iconst 0, 1) := by decide +kernel
theorem dX5_init_16 : decode cX5_init 16 = .ok (.putfield 18, 3) := by decide +kernel
theorem dX5_init_19 : decode cX5_init 19 = .ok (.aload_n 0, 1) := by decide +kernel
theorem dX5_init_20 : decode cX5_init 20 = .ok (.iconst 0, 1) := by decide +kernel
theorem dX5_init_21 : decode cX5_init 21 = .ok (.putfield 21, 3) := by decide +kernel
theorem dX5_init_24 : decode cX5_init 24 = .ok (.aload_n 0, 1) := by decide +kernel
theorem dX5_init_25 : decode cX5_init 25 = .ok (.iconst 0, 1) := by decide +kernel
theorem dX5_init_26 : decode cX5_init 26 = .ok (.putfield 24, 3) := by decide +kernel
theorem dX5_init_29 : decode cX5_init 29 = .ok (.aload_n 0, 1) := by decide +kernel
theorem dX5_init_30 : decode cX5_init 30 = .ok (.iconst 4, 1) := by decide +kernel
theorem dX5_init_31 : decode cX5_init 31 = .ok (.newarray .int, 2) := by decide +kernel
theorem dX5_init_33 : decode cX5_init 33 = .ok (.putfield 27, 3) := by decide +kernel
theorem dX5_init_36 : decode cX5_init 36 = .ok (.aload_n 0, 1) := by decide +kernel
theorem dX5_init_37 : decode cX5_init 37 = .ok (.iconst 4, 1) := by decide +kernel
theorem dX5_init_38 : decode cX5_init 38 = .ok (.newarray .int, 2) := by decide +kernel
theorem dX5_init_40 : decode cX5_init 40 = .ok (.putfield 31, 3) := by decide +kernel
theorem dX5_init_43 : decode cX5_init 43 = .ok (.aload_n 0, 1) := by decide +kernel
theorem dX5_init_44 : decode cX5_init 44 = .ok (.iconst 4, 1) := by decide +kernel
theorem dX5_init_45 : decode cX5_init 45 = .ok (.newarray .int, 2) := by decide +kernel
theorem dX5_init_47 : decode cX5_init 47 = .ok (.putfield 34, 3) := by decide +kernel
theorem dX5_init_50 : decode cX5_init 50 = .ok (.aload_n 0, 1) := by decide +kernel
theorem dX5_init_51 : decode cX5_init 51 = .ok (.iconst 4, 1) := by decide +kernel
theorem dX5_init_52 : decode cX5_init 52 = .ok (.newarray .int, 2) := by decide +kernel
theorem dX5_init_54 : decode cX5_init 54 = .ok (.putfield 37, 3) := by decide +kernel
theorem dX5_init_57 : decode cX5_init 57 = .ok (.aload_n 0, 1) := by decide +kernel
theorem dX5_init_58 : decode cX5_init 58 = .ok (.bipush 16, 2) := by decide +kernel
theorem dX5_init_60 : decode cX5_init 60 = .ok (.newarray .int, 2) := by decide +kernel
theorem dX5_init_62 : decode cX5_init 62 = .ok (.putfield 40, 3) := by decide +kernel
theorem dX5_init_65 : decode cX5_init 65 = .ok (.aload_n 0, 1) := by decide +kernel
theorem dX5_init_66 : decode cX5_init 66 = .ok (.bipush 16, 2) := by decide +kernel
theorem dX5_init_68 : decode cX5_init 68 = .ok (.newarray .int, 2) := by decide +kernel
theorem dX5_init_70 : decode cX5_init 70 = .ok (.putfield 43, 3) := by decide +kernel
theorem dX5_init_73 : decode cX5_init 73 = .ok (.aload_n 0, 1) := by decide +kernel
theorem dX5_init_74 : decode cX5_init 74 = .ok (.bipush 7, 2) := by decide +kernel
theorem dX5_init_76 : decode cX5_init 76 = .ok (.newarray .int, 2) := by decide +kernel
theorem dX5_init_78 : decode cX5_init 78 = .ok (.putfield 48, 3) := by decide +kernel
theorem dX5_init_81 : decode cX5_init 81 = .ok (.aload_n 0, 1) := by decide +kernel
theorem dX5_init_82 : decode cX5_init 82 = .ok (.aload_n 1, 1) := by decide +kernel
theorem dX5_init_83 : decode cX5_init 83 = .ok (.putfield 51, 3) := by decide +kernel
theorem dX5_init_86 : decode cX5_init 86 = .ok (.aload_n 0, 1) := by decide +kernel
theorem dX5_init_87 : decode cX5_init 87 = .ok (.getfield 31, 3) := by decide +kernel
theorem dX5_init_90 : decode cX5_init 90 = .ok (.iconst (-1), 1) := by decide +kernel
theorem dX5_init_91 : decode cX5_init 91 = .ok (.invokestatic 55, 3) := by decide +kernel
theorem dX5_init_94 : decode cX5_init 94 = .ok (.aload_n 0, 1) := by decide +kernel
theorem dX5_init_95 : decode cX5_init 95 = .ok (.getfield 40, 3) := by decide +kernel
theorem dX5_init_98 : decode cX5_init 98 = .ok (.bipush 50, 2) := by decide +kernel
theorem dX5_init_100 : decode cX5_init 100 = .ok (.invokestatic 55, 3) := by decide +kernel
theorem dX5_init_103 : decode cX5_init 103 = .ok (.aload_n 0, 1) := by decide +kernel
theorem dX5_init_104 : decode cX5_init 104 = .ok (.getfield 43, 3) := by decide +kernel
theorem dX5_init_107 : decode cX5_init 107 = .ok (.bipush 50, 2) := by decide +kernel
theorem dX5_init_109 : decode cX5_init 109 = .ok (.invokestatic 55, 3) := by decide +kernel
theorem dX5_init_112 : decode cX5_init 112 = .ok (.return_, 1) := by decide +kernel
theorem dX5_at_0 : decode cX5_at 0 = .ok (.iload_n 0, 1) := by decide +kernel
theorem dX5_at_1 : decode cX5_at 1 = .ok (.iconst 4, 1) := by decide +kernel
theorem dX5_at_2 : decode cX5_at 2 = .ok (.imul, 1) := by decide +kernel
theorem dX5_at_3 : decode cX5_at 3 = .ok (.iload_n 1, 1) := by decide +kernel
theorem dX5_at_4 : decode cX5_at 4 = .ok (.iadd, 1) := by decide +kernel
theorem dX5_at_5 : decode cX5_at 5 = .ok (.ireturn, 1) := by decide +kernel
theorem dX5_resemble_0 : decode cX5_resemble 0 = .ok (.aload_n 0, 1) := by decide +kernel
theorem dX5_resemble_1 : decode cX5_resemble 1 = .ok (.aload_n 1, 1) := by decide +kernel
theorem dX5_resemble_2 : decode cX5_resemble 2 = .ok (.getfield 9, 3) := by decide +kernel
theorem dX5_resemble_5 : decode cX5_resemble 5 = .ok (.putfield 9, 3) := by decide +kernel
theorem dX5_resemble_8 : decode cX5_resemble 8 = .ok (.aload_n 0, 1) := by decide +kernel
theorem dX5_resemble_9 : decode cX5_resemble 9 = .ok (.aload_n 1, 1) := by decide +kernel
theorem dX5_resemble_10 : decode cX5_resemble 10 = .ok (.getfield 15, 3) := by decide +kernel
theorem dX5_resemble_13 : decode cX5_resemble 13 = .ok (.putfield 15, 3) := by decide +kernel
theorem dX5_resemble_16 : decode cX5_resemble 16 = .ok (.aload_n 0, 1) := by decide +kernel
theorem dX5_resemble_17 : decode cX5_resemble 17 = .ok (.aload_n 1, 1) := by decide +kernel
theorem dX5_resemble_18 : decode cX5_resemble 18 = .ok (.getfield 18, 3) := by decide +kernel
theorem dX5_resemble_21 : decode cX5_resemble 21 = .ok (.putfield 18, 3) := by decide +kernel
theorem dX5_resemble_24 : decode cX5_resemble 24 = .ok (.aload_n 0, 1) := by decide +kernel
theorem dX5_resemble_25 : decode cX5_resemble 25 = .ok (.aload_n 1, 1) := by decide +kernel
theorem dX5_resemble_26 : decode cX5_resemble 26 = .ok (.getfield 51, 3) := by decide +kernel
theorem dX5_resemble_29 : decode cX5_resemble 29 = .ok (.putfield 51, 3) := by decide +kernel
theorem dX5_resemble_32 : decode cX5_resemble 32 = .ok (.aload_n 0, 1) := by decide +kernel
theorem dX5_resemble_33 : decode cX5_resemble 33 = .ok (.iconst 0, 1) := by decide +kernel
theorem dX5_resemble_34 : decode cX5_resemble 34 = .ok (.putfield 21, 3) := by decide +kernel
theorem dX5_resemble_37 : decode cX5_resemble 37 = .ok (.aload_n 0, 1) := by decide +kernel
theorem dX5_resemble_38 : decode cX5_resemble 38 = .ok (.iconst 0, 1) := by decide +kernel
theorem dX5_resemble_39 : decode cX5_resemble 39 = .ok (.putfield 24, 3) := by decide +kernel
theorem dX5_resemble_42 : decode cX5_resemble 42 = .ok (.aload_n 1, 1) := by decide +kernel
theorem dX5_resemble_43 : decode cX5_resemble 43 = .ok (.getfield 27, 3) := by decide +kernel
theorem dX5_resemble_46 : decode cX5_resemble 46 = .ok (.iconst 0, 1) := by decide +kernel
theorem dX5_resemble_47 : decode cX5_resemble 47 = .ok (.aload_n 0, 1) := by decide +kernel
theorem dX5_resemble_48 : decode cX5_resemble 48 = .ok (.getfield 27, 3) := by decide +kernel
theorem dX5_resemble_51 : decode cX5_resemble 51 = .ok (.iconst 0, 1) := by decide +kernel
theorem dX5_resemble_52 : decode cX5_resemble 52 = .ok (.aload_n 0, 1) := by decide +kernel
theorem dX5_resemble_53 : decode cX5_resemble 53 = .ok (.getfield 27, 3) := by decide +kernel
theorem dX5_resemble_56 : decode cX5_resemble 56 = .ok (.arraylength, 1) := by decide +kernel
theorem dX5_resemble_57 : decode cX5_resemble 57 = .ok (.invokestatic 61, 3) := by decide +kernel
theorem dX5_resemble_60 : decode cX5_resemble 60 = .ok (.aload_n 1, 1) := by decide +kernel
theorem dX5_resemble_61 : decode cX5_resemble 61 = .ok (.getfield 31, 3) := by decide +kernel
theorem dX5_resemble_64 : decode cX5_resemble 64 = .ok (.iconst 0, 1) := by decide +kernel
theorem dX5_resemble_65 : decode cX5_resemble 65 = .ok (.aload_n 0, 1) := by decide +kernel
theorem dX5_resemble_66 : decode cX5_resemble 66 = .ok (.getfield 31, 3) := by decide +kernel
theorem dX5_resemble_69 : decode cX5_resemble 69 = .ok (.iconst 0, 1) := by decide +kernel
theorem dX5_resemble_70 : decode cX5_resemble 70 = .ok (.aload_n 0, 1) := by decide +kernel
theorem dX5_resemble_71 : decode cX5_resemble 71 = .ok (.getfield 31, 3) := by decide +kernel
theorem dX5_resemble_74 : decode cX5_resemble 74 = .ok (.arraylength, 1) := by decide +kernel
theorem dX5_resemble_75 : decode cX5_resemble 75 = .ok (.invokestatic 61, 3) := by decide +kernel
theorem dX5_resemble_78 : decode cX5_resemble 78 = .ok (.aload_n 1, 1) := by decide +kernel
theorem dX5_resemble_79 : decode cX5_resemble 79 = .ok (.getfield 34, 3) := by decide +kernel
theorem dX5_resemble_82 : decode cX5_resemble 82 = .ok (.iconst 0, 1) := by decide +kernel
theorem dX5_resemble_83 : decode cX5_resemble 83 = .ok (.aload_n 0, 1) := by decide +kernel
theorem dX5_resemble_84 : decode cX5_resemble 84 = .ok (.getfield 34, 3) := by decide +kernel
theorem dX5_resemble_87 : decode cX5_resemble 87 = .ok (.iconst 0, 1) := by decide +kernel
theorem dX5_resemble_88 : decode cX5_resemble 88 = .ok (.aload_n 0, 1) := by decide +kernel
theorem dX5_resemble_89 : decode cX5_resemble 89 = .ok (.getfield 34, 3) := by decide +kernel
theorem dX5_resemble_92 : decode cX5_resemble 92 = .ok (.arraylength, 1) := by decide +kernel
theorem dX5_resemble_93 : decode cX5_resemble 93 = .ok (.invokestatic 61, 3) := by decide +kernel
theorem dX5_resemble_96 : decode cX5_resemble 96 = .ok (.aload_n 1, 1) := by decide +kernel
theorem dX5_resemble_97 : decode cX5_resemble 97 = .ok (.getfield 37, 3) := by decide +kernel
theorem dX5_resemble_100 : decode cX5_resemble 100 = .ok (.iconst 0, 1) := by decide +kernel
theorem dX5_resemble_101 : decode cX5_resemble 101 = .ok (.aload_n 0, 1) := by decide +kernel
theorem dX5_resemble_102 : decode cX5_resemble 102 = .ok (.getfield 37, 3) := by decide +kernel
theorem dX5_resemble_105 : decode cX5_resemble 105 = .ok (.iconst 0, 1) := by decide +kernel
theorem dX5_resemble_106 : decode cX5_resemble 106 = .ok (.aload_n 0, 1) := by decide +kernel
theorem dX5_resemble_107 : decode cX5_resemble 107 = .ok (.getfield 37, 3) := by decide +kernel
theorem dX5_resemble_110 : decode cX5_resemble 110 = .ok (.arraylength, 1) := by decide +kernel
theorem dX5_resemble_111 : decode cX5_resemble 111 = .ok (.invokestatic 61, 3) := by decide +kernel
theorem dX5_resemble_114 : decode cX5_resemble 114 = .ok (.aload_n 1, 1) := by decide +kernel
theorem dX5_resemble_115 : decode cX5_resemble 115 = .ok (.getfield 40, 3) := by decide +kernel
theorem dX5_resemble_118 : decode cX5_resemble 118 = .ok (.iconst 0, 1) := by decide +kernel
theorem dX5_resemble_119 : decode cX5_resemble 119 = .ok (.aload_n 0, 1) := by decide +kernel
theorem dX5_resemble_120 : decode cX5_resemble 120 = .ok (.getfield 40, 3) := by decide +kernel
theorem dX5_resemble_123 : decode cX5_resemble 123 = .ok (.iconst 0, 1) := by decide +kernel
theorem dX5_resemble_124 : decode cX5_resemble 124 = .ok (.aload_n 0, 1) := by decide +kernel
theorem dX5_resemble_125 : decode cX5_resemble 125 = .ok (.getfield 40, 3) := by decide +kernel
theorem dX5_resemble_128 : decode cX5_resemble 128 = .ok (.arraylength, 1) := by decide +kernel
theorem dX5_resemble_129 : decode cX5_resemble 129 = .ok (.invokestatic 61, 3) := by decide +kernel
theorem dX5_resemble_132 : decode cX5_resemble 132 = .ok (.aload_n 1, 1) := by decide +kernel
theorem dX5_resemble_133 : decode cX5_resemble 133 = .ok (.getfield 43, 3) := by decide +kernel
theorem dX5_resemble_136 : decode cX5_resemble 136 = .ok (.iconst 0, 1) := by decide +kernel
theorem dX5_resemble_137 : decode cX5_resemble 137 = .ok (.aload_n 0, 1) := by decide +kernel
theorem dX5_resemble_138 : decode cX5_resemble 138 = .ok (.getfield 43, 3) := by decide +kernel
theorem dX5_resemble_141 : decode cX5_resemble 141 = .ok (.iconst 0, 1) := by decide +kernel
theorem dX5_resemble_142 : decode cX5_resemble 142 = .ok (.aload_n 0, 1) := by decide +kernel
theorem dX5_resemble_143 : decode cX5_resemble 143 = .ok (.getfield 43, 3) := by decide +kernel
theorem dX5_resemble_146 : decode cX5_resemble 146 = .ok (.arraylength, 1) := by decide +kernel
theorem dX5_resemble_147 : decode cX5_resemble 147 = .ok (.invokestatic 61, 3) := by decide +kernel
theorem dX5_resemble_150 : decode cX5_resemble 150 = .ok (.return_, 1) := by decide +kernel
theorem dX5_husband_0 : decode cX5_husband 0 = .ok (.iconst 0, 1) := by decide +kernel
theorem dX5_husband_1 : decode cX5_husband 1 = .ok (.istore_n 2, 1) := by decide +kernel
theorem dX5_husband_2 : decode cX5_husband 2 = .ok (.iload_n 2, 1) := by decide +kernel
theorem dX5_husband_3 : decode cX5_husband 3 = .ok (.aload_n 0, 1) := by decide +kernel
theorem dX5_husband_4 : decode cX5_husband 4 = .ok (.getfield 9, 3) := by decide +kernel
theorem dX5_husband_7 : decode cX5_husband 7 = .ok (.if_icmp .ge 21, 3) := by decide +kernel
theorem dX5_husband_10 : decode cX5_husband 10 = .ok (.aload_n 0, 1) := by decide +kernel
theorem dX5_husband_11 : decode cX5_husband 11 = .ok (.getfield 31, 3) := by decide +kernel
theorem dX5_husband_14 : decode cX5_husband 14 = .ok (.iload_n 2, 1) := by decide +kernel
theorem dX5_husband_15 : decode cX5_husband 15 = .ok (.iaload, 1) := by decide +kernel
theorem dX5_husband_16 : decode cX5_husband 16 = .ok (.iload_n 1, 1) := by decide +kernel
theorem dX5_husband_17 : decode cX5_husband 17 = .ok (.if_icmp .ne 5, 3) := by decide +kernel
theorem dX5_husband_20 : decode cX5_husband 20 = .ok (.iload_n 2, 1) := by decide +kernel
theorem dX5_husband_21 : decode cX5_husband 21 = .ok (.ireturn, 1) := by decide +kernel
theorem dX5_husband_22 : decode cX5_husband 22 = .ok (.iinc 2 1, 3) := by decide +kernel
theorem dX5_husband_25 : decode cX5_husband 25 = .ok (.goto (-23), 3) := by decide +kernel
theorem dX5_husband_28 : decode cX5_husband 28 = .ok (.iconst (-1), 1) := by decide +kernel
theorem dX5_husband_29 : decode cX5_husband 29 = .ok (.ireturn, 1) := by decide +kernel
theorem dX5_marriedMen_0 : decode cX5_marriedMen 0 = .ok (.iconst 0, 1) := by decide +kernel
theorem dX5_marriedMen_1 : decode cX5_marriedMen 1 = .ok (.istore_n 1, 1) := by decide +kernel
theorem dX5_marriedMen_2 : decode cX5_marriedMen 2 = .ok (.iconst 0, 1) := by decide +kernel
theorem dX5_marriedMen_3 : decode cX5_marriedMen 3 = .ok (.istore_n 2, 1) := by decide +kernel
theorem dX5_marriedMen_4 : decode cX5_marriedMen 4 = .ok (.iload_n 2, 1) := by decide +kernel
theorem dX5_marriedMen_5 : decode cX5_marriedMen 5 = .ok (.aload_n 0, 1) := by decide +kernel
theorem dX5_marriedMen_6 : decode cX5_marriedMen 6 = .ok (.getfield 9, 3) := by decide +kernel
theorem dX5_marriedMen_9 : decode cX5_marriedMen 9 = .ok (.if_icmp .ge 22, 3) := by decide +kernel
theorem dX5_marriedMen_12 : decode cX5_marriedMen 12 = .ok (.aload_n 0, 1) := by decide +kernel
theorem dX5_marriedMen_13 : decode cX5_marriedMen 13 = .ok (.getfield 31, 3) := by decide +kernel
theorem dX5_marriedMen_16 : decode cX5_marriedMen 16 = .ok (.iload_n 2, 1) := by decide +kernel
theorem dX5_marriedMen_17 : decode cX5_marriedMen 17 = .ok (.iaload, 1) := by decide +kernel
theorem dX5_marriedMen_18 : decode cX5_marriedMen 18 = .ok (.iconst (-1), 1) := by decide +kernel
theorem dX5_marriedMen_19 : decode cX5_marriedMen 19 = .ok (.if_icmp .eq 6, 3) := by decide +kernel
theorem dX5_marriedMen_22 : decode cX5_marriedMen 22 = .ok (.iinc 1 1, 3) := by decide +kernel
theorem dX5_marriedMen_25 : decode cX5_marriedMen 25 = .ok (.iinc 2 1, 3) := by decide +kernel
theorem dX5_marriedMen_28 : decode cX5_marriedMen 28 = .ok (.goto (-24), 3) := by decide +kernel
theorem dX5_marriedMen_31 : decode cX5_marriedMen 31 = .ok (.iload_n 1, 1) := by decide +kernel
theorem dX5_marriedMen_32 : decode cX5_marriedMen 32 = .ok (.ireturn, 1) := by decide +kernel
theorem dX5_mayAsk_0 : decode cX5_mayAsk 0 = .ok (.aload_n 0, 1) := by decide +kernel
theorem dX5_mayAsk_1 : decode cX5_mayAsk 1 = .ok (.getfield 31, 3) := by decide +kernel
theorem dX5_mayAsk_4 : decode cX5_mayAsk 4 = .ok (.iload_n 1, 1) := by decide +kernel
theorem dX5_mayAsk_5 : decode cX5_mayAsk 5 = .ok (.iaload, 1) := by decide +kernel
theorem dX5_mayAsk_6 : decode cX5_mayAsk 6 = .ok (.iconst (-1), 1) := by decide +kernel
theorem dX5_mayAsk_7 : decode cX5_mayAsk 7 = .ok (.if_icmp .ne 40, 3) := by decide +kernel
theorem dX5_mayAsk_10 : decode cX5_mayAsk 10 = .ok (.aload_n 0, 1) := by decide +kernel
theorem dX5_mayAsk_11 : decode cX5_mayAsk 11 = .ok (.iload_n 2, 1) := by decide +kernel
theorem dX5_mayAsk_12 : decode cX5_mayAsk 12 = .ok (.invokevirtual 67, 3) := by decide +kernel
theorem dX5_mayAsk_15 : decode cX5_mayAsk 15 = .ok (.iconst (-1), 1) := by decide +kernel
theorem dX5_mayAsk_16 : decode cX5_mayAsk 16 = .ok (.if_icmp .ne 31, 3) := by decide +kernel
theorem dX5_mayAsk_19 : decode cX5_mayAsk 19 = .ok (.aload_n 0, 1) := by decide +kernel
theorem dX5_mayAsk_20 : decode cX5_mayAsk 20 = .ok (.getfield 27, 3) := by decide +kernel
theorem dX5_mayAsk_23 : decode cX5_mayAsk 23 = .ok (.iload_n 1, 1) := by decide +kernel
theorem dX5_mayAsk_24 : decode cX5_mayAsk 24 = .ok (.iaload, 1) := by decide +kernel
theorem dX5_mayAsk_25 : decode cX5_mayAsk 25 = .ok (.aload_n 0, 1) := by decide +kernel
theorem dX5_mayAsk_26 : decode cX5_mayAsk 26 = .ok (.getfield 34, 3) := by decide +kernel
theorem dX5_mayAsk_29 : decode cX5_mayAsk 29 = .ok (.iload_n 2, 1) := by decide +kernel
theorem dX5_mayAsk_30 : decode cX5_mayAsk 30 = .ok (.iaload, 1) := by decide +kernel
theorem dX5_mayAsk_31 : decode cX5_mayAsk 31 = .ok (.aload_n 0, 1) := by decide +kernel
theorem dX5_mayAsk_32 : decode cX5_mayAsk 32 = .ok (.getfield 37, 3) := by decide +kernel
theorem dX5_mayAsk_35 : decode cX5_mayAsk 35 = .ok (.iload_n 2, 1) := by decide +kernel
theorem dX5_mayAsk_36 : decode cX5_mayAsk 36 = .ok (.iaload, 1) := by decide +kernel
theorem dX5_mayAsk_37 : decode cX5_mayAsk 37 = .ok (.invokestatic 71, 3) := by decide +kernel
theorem dX5_mayAsk_40 : decode cX5_mayAsk 40 = .ok (.if_icmp .lt 7, 3) := by decide +kernel
theorem dX5_mayAsk_43 : decode cX5_mayAsk 43 = .ok (.iconst 1, 1) := by decide +kernel
theorem dX5_mayAsk_44 : decode cX5_mayAsk 44 = .ok (.goto 4, 3) := by decide +kernel
theorem dX5_mayAsk_47 : decode cX5_mayAsk 47 = .ok (.iconst 0, 1) := by decide +kernel
theorem dX5_mayAsk_48 : decode cX5_mayAsk 48 = .ok (.ireturn, 1) := by decide +kernel
theorem dX5_saysNo_0 : decode cX5_saysNo 0 = .ok (.aload_n 0, 1) := by decide +kernel
theorem dX5_saysNo_1 : decode cX5_saysNo 1 = .ok (.getfield 34, 3) := by decide +kernel
theorem dX5_saysNo_4 : decode cX5_saysNo 4 = .ok (.iload_n 2, 1) := by decide +kernel
theorem dX5_saysNo_5 : decode cX5_saysNo 5 = .ok (.iaload, 1) := by decide +kernel
theorem dX5_saysNo_6 : decode cX5_saysNo 6 = .ok (.aload_n 0, 1) := by decide +kernel
theorem dX5_saysNo_7 : decode cX5_saysNo 7 = .ok (.getfield 37, 3) := by decide +kernel
theorem dX5_saysNo_10 : decode cX5_saysNo 10 = .ok (.iload_n 2, 1) := by decide +kernel
theorem dX5_saysNo_11 : decode cX5_saysNo 11 = .ok (.iaload, 1) := by decide +kernel
theorem dX5_saysNo_12 : decode cX5_saysNo 12 = .ok (.aload_n 0, 1) := by decide +kernel
theorem dX5_saysNo_13 : decode cX5_saysNo 13 = .ok (.getfield 43, 3) := by decide +kernel
theorem dX5_saysNo_16 : decode cX5_saysNo 16 = .ok (.iload_n 1, 1) := by decide +kernel
theorem dX5_saysNo_17 : decode cX5_saysNo 17 = .ok (.iload_n 2, 1) := by decide +kernel
theorem dX5_saysNo_18 : decode cX5_saysNo 18 = .ok (.invokestatic 77, 3) := by decide +kernel
theorem dX5_saysNo_21 : decode cX5_saysNo 21 = .ok (.iaload, 1) := by decide +kernel
theorem dX5_saysNo_22 : decode cX5_saysNo 22 = .ok (.aload_n 0, 1) := by decide +kernel
theorem dX5_saysNo_23 : decode cX5_saysNo 23 = .ok (.getfield 27, 3) := by decide +kernel
theorem dX5_saysNo_26 : decode cX5_saysNo 26 = .ok (.iload_n 1, 1) := by decide +kernel
theorem dX5_saysNo_27 : decode cX5_saysNo 27 = .ok (.iaload, 1) := by decide +kernel
theorem dX5_saysNo_28 : decode cX5_saysNo 28 = .ok (.invokestatic 80, 3) := by decide +kernel
theorem dX5_saysNo_31 : decode cX5_saysNo 31 = .ok (.ifCond .ne 13, 3) := by decide +kernel
theorem dX5_saysNo_34 : decode cX5_saysNo 34 = .ok (.aload_n 0, 1) := by decide +kernel
theorem dX5_saysNo_35 : decode cX5_saysNo 35 = .ok (.iconst 0, 1) := by decide +kernel
theorem dX5_saysNo_36 : decode cX5_saysNo 36 = .ok (.iload_n 1, 1) := by decide +kernel
theorem dX5_saysNo_37 : decode cX5_saysNo 37 = .ok (.iload_n 2, 1) := by decide +kernel
theorem dX5_saysNo_38 : decode cX5_saysNo 38 = .ok (.invokevirtual 84, 3) := by decide +kernel
theorem dX5_saysNo_41 : decode cX5_saysNo 41 = .ok (.ifCond .ne 7, 3) := by decide +kernel
theorem dX5_saysNo_44 : decode cX5_saysNo 44 = .ok (.iconst 1, 1) := by decide +kernel
theorem dX5_saysNo_45 : decode cX5_saysNo 45 = .ok (.goto 4, 3) := by decide +kernel
theorem dX5_saysNo_48 : decode cX5_saysNo 48 = .ok (.iconst 0, 1) := by decide +kernel
theorem dX5_saysNo_49 : decode cX5_saysNo 49 = .ok (.ireturn, 1) := by decide +kernel
theorem dX5_worth_0 : decode cX5_worth 0 = .ok (.iconst 0, 1) := by decide +kernel
theorem dX5_worth_1 : decode cX5_worth 1 = .ok (.aload_n 0, 1) := by decide +kernel
theorem dX5_worth_2 : decode cX5_worth 2 = .ok (.iconst 1, 1) := by decide +kernel
theorem dX5_worth_3 : decode cX5_worth 3 = .ok (.iload_n 1, 1) := by decide +kernel
theorem dX5_worth_4 : decode cX5_worth 4 = .ok (.iload_n 2, 1) := by decide +kernel
theorem dX5_worth_5 : decode cX5_worth 5 = .ok (.invokevirtual 84, 3) := by decide +kernel
theorem dX5_worth_8 : decode cX5_worth 8 = .ok (.bipush 99, 2) := by decide +kernel
theorem dX5_worth_10 : decode cX5_worth 10 = .ok (.invokestatic 88, 3) := by decide +kernel
theorem dX5_worth_13 : decode cX5_worth 13 = .ok (.invokestatic 93, 3) := by decide +kernel
theorem dX5_worth_16 : decode cX5_worth 16 = .ok (.ireturn, 1) := by decide +kernel
theorem dX5_wants_0 : decode cX5_wants 0 = .ok (.aload_n 0, 1) := by decide +kernel
theorem dX5_wants_1 : decode cX5_wants 1 = .ok (.iconst 2, 1) := by decide +kernel
theorem dX5_wants_2 : decode cX5_wants 2 = .ok (.iload_n 1, 1) := by decide +kernel
theorem dX5_wants_3 : decode cX5_wants 3 = .ok (.iload_n 2, 1) := by decide +kernel
theorem dX5_wants_4 : decode cX5_wants 4 = .ok (.invokevirtual 84, 3) := by decide +kernel
theorem dX5_wants_7 : decode cX5_wants 7 = .ok (.ifCond .eq 7, 3) := by decide +kernel
theorem dX5_wants_10 : decode cX5_wants 10 = .ok (.iconst 1, 1) := by decide +kernel
theorem dX5_wants_11 : decode cX5_wants 11 = .ok (.goto 4, 3) := by decide +kernel
theorem dX5_wants_14 : decode cX5_wants 14 = .ok (.iconst 0, 1) := by decide +kernel
theorem dX5_wants_15 : decode cX5_wants 15 = .ok (.ireturn, 1) := by decide +kernel
theorem dX5_ruled_0 : decode cX5_ruled 0 = .ok (.aload_n 0, 1) := by decide +kernel
theorem dX5_ruled_1 : decode cX5_ruled 1 = .ok (.getfield 48, 3) := by decide +kernel
theorem dX5_ruled_4 : decode cX5_ruled 4 = .ok (.iconst 1, 1) := by decide +kernel
theorem dX5_ruled_5 : decode cX5_ruled 5 = .ok (.aload_n 0, 1) := by decide +kernel
theorem dX5_ruled_6 : decode cX5_ruled 6 = .ok (.getfield 40, 3) := by decide +kernel
theorem dX5_ruled_9 : decode cX5_ruled 9 = .ok (.iload_n 2, 1) := by decide +kernel
theorem dX5_ruled_10 : decode cX5_ruled 10 = .ok (.iload_n 3, 1) := by decide +kernel
theorem dX5_ruled_11 : decode cX5_ruled 11 = .ok (.invokestatic 77, 3) := by decide +kernel
theorem dX5_ruled_14 : decode cX5_ruled 14 = .ok (.iaload, 1) := by decide +kernel
theorem dX5_ruled_15 : decode cX5_ruled 15 = .ok (.iastore, 1) := by decide +kernel
theorem dX5_ruled_16 : decode cX5_ruled 16 = .ok (.aload_n 0, 1) := by decide +kernel
theorem dX5_ruled_17 : decode cX5_ruled 17 = .ok (.getfield 48, 3) := by decide +kernel
theorem dX5_ruled_20 : decode cX5_ruled 20 = .ok (.iconst 2, 1) := by decide +kernel
theorem dX5_ruled_21 : decode cX5_ruled 21 = .ok (.aload_n 0, 1) := by decide +kernel
theorem dX5_ruled_22 : decode cX5_ruled 22 = .ok (.getfield 43, 3) := by decide +kernel
theorem dX5_ruled_25 : decode cX5_ruled 25 = .ok (.iload_n 2, 1) := by decide +kernel
theorem dX5_ruled_26 : decode cX5_ruled 26 = .ok (.iload_n 3, 1) := by decide +kernel
theorem dX5_ruled_27 : decode cX5_ruled 27 = .ok (.invokestatic 77, 3) := by decide +kernel
theorem dX5_ruled_30 : decode cX5_ruled 30 = .ok (.iaload, 1) := by decide +kernel
theorem dX5_ruled_31 : decode cX5_ruled 31 = .ok (.iastore, 1) := by decide +kernel
theorem dX5_ruled_32 : decode cX5_ruled 32 = .ok (.aload_n 0, 1) := by decide +kernel
theorem dX5_ruled_33 : decode cX5_ruled 33 = .ok (.getfield 48, 3) := by decide +kernel
theorem dX5_ruled_36 : decode cX5_ruled 36 = .ok (.iconst 3, 1) := by decide +kernel
theorem dX5_ruled_37 : decode cX5_ruled 37 = .ok (.aload_n 0, 1) := by decide +kernel
theorem dX5_ruled_38 : decode cX5_ruled 38 = .ok (.getfield 27, 3) := by decide +kernel
theorem dX5_ruled_41 : decode cX5_ruled 41 = .ok (.iload_n 2, 1) := by decide +kernel
theorem dX5_ruled_42 : decode cX5_ruled 42 = .ok (.iaload, 1) := by decide +kernel
theorem dX5_ruled_43 : decode cX5_ruled 43 = .ok (.iastore, 1) := by decide +kernel
theorem dX5_ruled_44 : decode cX5_ruled 44 = .ok (.aload_n 0, 1) := by decide +kernel
theorem dX5_ruled_45 : decode cX5_ruled 45 = .ok (.getfield 48, 3) := by decide +kernel
theorem dX5_ruled_48 : decode cX5_ruled 48 = .ok (.iconst 4, 1) := by decide +kernel
theorem dX5_ruled_49 : decode cX5_ruled 49 = .ok (.aload_n 0, 1) := by decide +kernel
theorem dX5_ruled_50 : decode cX5_ruled 50 = .ok (.getfield 18, 3) := by decide +kernel
theorem dX5_ruled_53 : decode cX5_ruled 53 = .ok (.iastore, 1) := by decide +kernel
theorem dX5_ruled_54 : decode cX5_ruled 54 = .ok (.aload_n 0, 1) := by decide +kernel
theorem dX5_ruled_55 : decode cX5_ruled 55 = .ok (.getfield 48, 3) := by decide +kernel
theorem dX5_ruled_58 : decode cX5_ruled 58 = .ok (.iconst 5, 1) := by decide +kernel
theorem dX5_ruled_59 : decode cX5_ruled 59 = .ok (.iload_n 2, 1) := by decide +kernel
theorem dX5_ruled_60 : decode cX5_ruled 60 = .ok (.iastore, 1) := by decide +kernel
theorem dX5_ruled_61 : decode cX5_ruled 61 = .ok (.aload_n 0, 1) := by decide +kernel
theorem dX5_ruled_62 : decode cX5_ruled 62 = .ok (.getfield 48, 3) := by decide +kernel
theorem dX5_ruled_65 : decode cX5_ruled 65 = .ok (.bipush 6, 2) := by decide +kernel
theorem dX5_ruled_67 : decode cX5_ruled 67 = .ok (.iload_n 3, 1) := by decide +kernel
theorem dX5_ruled_68 : decode cX5_ruled 68 = .ok (.iastore, 1) := by decide +kernel
theorem dX5_ruled_69 : decode cX5_ruled 69 = .ok (.aload_n 0, 1) := by decide +kernel
theorem dX5_ruled_70 : decode cX5_ruled 70 = .ok (.getfield 51, 3) := by decide +kernel
theorem dX5_ruled_73 : decode cX5_ruled 73 = .ok (.iload_n 1, 1) := by decide +kernel
theorem dX5_ruled_74 : decode cX5_ruled 74 = .ok (.aload_n 0, 1) := by decide +kernel
theorem dX5_ruled_75 : decode cX5_ruled 75 = .ok (.getfield 48, 3) := by decide +kernel
theorem dX5_ruled_78 : decode cX5_ruled 78 = .ok (.invokevirtual 96, 3) := by decide +kernel
theorem dX5_ruled_81 : decode cX5_ruled 81 = .ok (.ireturn, 1) := by decide +kernel
theorem dX5_asking_0 : decode cX5_asking 0 = .ok (.aload_n 0, 1) := by decide +kernel
theorem dX5_asking_1 : decode cX5_asking 1 = .ok (.iload_n 1, 1) := by decide +kernel
theorem dX5_asking_2 : decode cX5_asking 2 = .ok (.iload_n 2, 1) := by decide +kernel
theorem dX5_asking_3 : decode cX5_asking 3 = .ok (.invokevirtual 100, 3) := by decide +kernel
theorem dX5_asking_6 : decode cX5_asking 6 = .ok (.ifCond .ne 7, 3) := by decide +kernel
theorem dX5_asking_9 : decode cX5_asking 9 = .ok (.iconst 1, 1) := by decide +kernel
theorem dX5_asking_10 : decode cX5_asking 10 = .ok (.goto 4, 3) := by decide +kernel
theorem dX5_asking_13 : decode cX5_asking 13 = .ok (.iconst 0, 1) := by decide +kernel
theorem dX5_asking_14 : decode cX5_asking 14 = .ok (.istore_n 3, 1) := by decide +kernel
theorem dX5_asking_15 : decode cX5_asking 15 = .ok (.aload_n 0, 1) := by decide +kernel
theorem dX5_asking_16 : decode cX5_asking 16 = .ok (.iload_n 1, 1) := by decide +kernel
theorem dX5_asking_17 : decode cX5_asking 17 = .ok (.iload_n 2, 1) := by decide +kernel
theorem dX5_asking_18 : decode cX5_asking 18 = .ok (.iload_n 3, 1) := by decide +kernel
theorem dX5_asking_19 : decode cX5_asking 19 = .ok (.invokevirtual 104, 3) := by decide +kernel
theorem dX5_asking_22 : decode cX5_asking 22 = .ok (.iload_n 3, 1) := by decide +kernel
theorem dX5_asking_23 : decode cX5_asking 23 = .ok (.ireturn, 1) := by decide +kernel
theorem dX5_endAsking_0 : decode cX5_endAsking 0 = .ok (.iload_n 3, 1) := by decide +kernel
theorem dX5_endAsking_1 : decode cX5_endAsking 1 = .ok (.ifCond .eq 13, 3) := by decide +kernel
theorem dX5_endAsking_4 : decode cX5_endAsking 4 = .ok (.aload_n 0, 1) := by decide +kernel
theorem dX5_endAsking_5 : decode cX5_endAsking 5 = .ok (.getfield 31, 3) := by decide +kernel
theorem dX5_endAsking_8 : decode cX5_endAsking 8 = .ok (.iload_n 1, 1) := by decide +kernel
theorem dX5_endAsking_9 : decode cX5_endAsking 9 = .ok (.iload_n 2, 1) := by decide +kernel
theorem dX5_endAsking_10 : decode cX5_endAsking 10 = .ok (.iastore, 1) := by decide +kernel
theorem dX5_endAsking_11 : decode cX5_endAsking 11 = .ok (.goto 46, 3) := by decide +kernel
theorem dX5_endAsking_14 : decode cX5_endAsking 14 = .ok (.aload_n 0, 1) := by decide +kernel
theorem dX5_endAsking_15 : decode cX5_endAsking 15 = .ok (.getfield 27, 3) := by decide +kernel
theorem dX5_endAsking_18 : decode cX5_endAsking 18 = .ok (.iload_n 1, 1) := by decide +kernel
theorem dX5_endAsking_19 : decode cX5_endAsking 19 = .ok (.aload_n 0, 1) := by decide +kernel
theorem dX5_endAsking_20 : decode cX5_endAsking 20 = .ok (.getfield 27, 3) := by decide +kernel
theorem dX5_endAsking_23 : decode cX5_endAsking 23 = .ok (.iload_n 1, 1) := by decide +kernel
theorem dX5_endAsking_24 : decode cX5_endAsking 24 = .ok (.iaload, 1) := by decide +kernel
theorem dX5_endAsking_25 : decode cX5_endAsking 25 = .ok (.iconst 1, 1) := by decide +kernel
theorem dX5_endAsking_26 : decode cX5_endAsking 26 = .ok (.iadd, 1) := by decide +kernel
theorem dX5_endAsking_27 : decode cX5_endAsking 27 = .ok (.bipush 9, 2) := by decide +kernel
theorem dX5_endAsking_29 : decode cX5_endAsking 29 = .ok (.invokestatic 88, 3) := by decide +kernel
theorem dX5_endAsking_32 : decode cX5_endAsking 32 = .ok (.iastore, 1) := by decide +kernel
theorem dX5_endAsking_33 : decode cX5_endAsking 33 = .ok (.aload_n 0, 1) := by decide +kernel
theorem dX5_endAsking_34 : decode cX5_endAsking 34 = .ok (.dup, 1) := by decide +kernel
theorem dX5_endAsking_35 : decode cX5_endAsking 35 = .ok (.getfield 24, 3) := by decide +kernel
theorem dX5_endAsking_38 : decode cX5_endAsking 38 = .ok (.aload_n 0, 1) := by decide +kernel
theorem dX5_endAsking_39 : decode cX5_endAsking 39 = .ok (.getfield 34, 3) := by decide +kernel
theorem dX5_endAsking_42 : decode cX5_endAsking 42 = .ok (.iload_n 2, 1) := by decide +kernel
theorem dX5_endAsking_43 : decode cX5_endAsking 43 = .ok (.iaload, 1) := by decide +kernel
theorem dX5_endAsking_44 : decode cX5_endAsking 44 = .ok (.aload_n 0, 1) := by decide +kernel
theorem dX5_endAsking_45 : decode cX5_endAsking 45 = .ok (.getfield 37, 3) := by decide +kernel
theorem dX5_endAsking_48 : decode cX5_endAsking 48 = .ok (.iload_n 2, 1) := by decide +kernel
theorem dX5_endAsking_49 : decode cX5_endAsking 49 = .ok (.iaload, 1) := by decide +kernel
theorem dX5_endAsking_50 : decode cX5_endAsking 50 = .ok (.invokestatic 108, 3) := by decide +kernel
theorem dX5_endAsking_53 : decode cX5_endAsking 53 = .ok (.iadd, 1) := by decide +kernel
theorem dX5_endAsking_54 : decode cX5_endAsking 54 = .ok (.putfield 24, 3) := by decide +kernel
theorem dX5_endAsking_57 : decode cX5_endAsking 57 = .ok (.aload_n 0, 1) := by decide +kernel
theorem dX5_endAsking_58 : decode cX5_endAsking 58 = .ok (.aload_n 0, 1) := by decide +kernel
theorem dX5_endAsking_59 : decode cX5_endAsking 59 = .ok (.getfield 18, 3) := by decide +kernel
theorem dX5_endAsking_62 : decode cX5_endAsking 62 = .ok (.iconst 1, 1) := by decide +kernel
theorem dX5_endAsking_63 : decode cX5_endAsking 63 = .ok (.iadd, 1) := by decide +kernel
theorem dX5_endAsking_64 : decode cX5_endAsking 64 = .ok (.bipush 99, 2) := by decide +kernel
theorem dX5_endAsking_66 : decode cX5_endAsking 66 = .ok (.invokestatic 88, 3) := by decide +kernel
theorem dX5_endAsking_69 : decode cX5_endAsking 69 = .ok (.putfield 18, 3) := by decide +kernel
theorem dX5_endAsking_72 : decode cX5_endAsking 72 = .ok (.aload_n 0, 1) := by decide +kernel
theorem dX5_endAsking_73 : decode cX5_endAsking 73 = .ok (.dup, 1) := by decide +kernel
theorem dX5_endAsking_74 : decode cX5_endAsking 74 = .ok (.getfield 21, 3) := by decide +kernel
theorem dX5_endAsking_77 : decode cX5_endAsking 77 = .ok (.iconst 1, 1) := by decide +kernel
theorem dX5_endAsking_78 : decode cX5_endAsking 78 = .ok (.iadd, 1) := by decide +kernel
theorem dX5_endAsking_79 : decode cX5_endAsking 79 = .ok (.putfield 21, 3) := by decide +kernel
theorem dX5_endAsking_82 : decode cX5_endAsking 82 = .ok (.return_, 1) := by decide +kernel
theorem dX5_choice_0 : decode cX5_choice 0 = .ok (.iconst (-1), 1) := by decide +kernel
theorem dX5_choice_1 : decode cX5_choice 1 = .ok (.istore_n 2, 1) := by decide +kernel
theorem dX5_choice_2 : decode cX5_choice 2 = .ok (.iconst 0, 1) := by decide +kernel
theorem dX5_choice_3 : decode cX5_choice 3 = .ok (.istore_n 3, 1) := by decide +kernel
theorem dX5_choice_4 : decode cX5_choice 4 = .ok (.iload_n 3, 1) := by decide +kernel
theorem dX5_choice_5 : decode cX5_choice 5 = .ok (.aload_n 0, 1) := by decide +kernel
theorem dX5_choice_6 : decode cX5_choice 6 = .ok (.getfield 15, 3) := by decide +kernel
theorem dX5_choice_9 : decode cX5_choice 9 = .ok (.if_icmp .ge 57, 3) := by decide +kernel
theorem dX5_choice_12 : decode cX5_choice 12 = .ok (.aload_n 0, 1) := by decide +kernel
theorem dX5_choice_13 : decode cX5_choice 13 = .ok (.iload_n 1, 1) := by decide +kernel
theorem dX5_choice_14 : decode cX5_choice 14 = .ok (.iload_n 3, 1) := by decide +kernel
theorem dX5_choice_15 : decode cX5_choice 15 = .ok (.invokevirtual 111, 3) := by decide +kernel
theorem dX5_choice_18 : decode cX5_choice 18 = .ok (.ifCond .eq 42, 3) := by decide +kernel
theorem dX5_choice_21 : decode cX5_choice 21 = .ok (.aload_n 0, 1) := by decide +kernel
theorem dX5_choice_22 : decode cX5_choice 22 = .ok (.iload_n 1, 1) := by decide +kernel
theorem dX5_choice_23 : decode cX5_choice 23 = .ok (.iload_n 3, 1) := by decide +kernel
theorem dX5_choice_24 : decode cX5_choice 24 = .ok (.invokevirtual 114, 3) := by decide +kernel
theorem dX5_choice_27 : decode cX5_choice 27 = .ok (.ifCond .eq 33, 3) := by decide +kernel
theorem dX5_choice_30 : decode cX5_choice 30 = .ok (.iload_n 2, 1) := by decide +kernel
theorem dX5_choice_31 : decode cX5_choice 31 = .ok (.iconst (-1), 1) := by decide +kernel
theorem dX5_choice_32 : decode cX5_choice 32 = .ok (.if_icmp .eq 26, 3) := by decide +kernel
theorem dX5_choice_35 : decode cX5_choice 35 = .ok (.aload_n 0, 1) := by decide +kernel
theorem dX5_choice_36 : decode cX5_choice 36 = .ok (.getfield 40, 3) := by decide +kernel
theorem dX5_choice_39 : decode cX5_choice 39 = .ok (.iload_n 1, 1) := by decide +kernel
theorem dX5_choice_40 : decode cX5_choice 40 = .ok (.iload_n 3, 1) := by decide +kernel
theorem dX5_choice_41 : decode cX5_choice 41 = .ok (.invokestatic 77, 3) := by decide +kernel
theorem dX5_choice_44 : decode cX5_choice 44 = .ok (.iaload, 1) := by decide +kernel
theorem dX5_choice_45 : decode cX5_choice 45 = .ok (.aload_n 0, 1) := by decide +kernel
theorem dX5_choice_46 : decode cX5_choice 46 = .ok (.getfield 40, 3) := by decide +kernel
theorem dX5_choice_49 : decode cX5_choice 49 = .ok (.iload_n 1, 1) := by decide +kernel
theorem dX5_choice_50 : decode cX5_choice 50 = .ok (.iload_n 2, 1) := by decide +kernel
theorem dX5_choice_51 : decode cX5_choice 51 = .ok (.invokestatic 77, 3) := by decide +kernel
theorem dX5_choice_54 : decode cX5_choice 54 = .ok (.iaload, 1) := by decide +kernel
theorem dX5_choice_55 : decode cX5_choice 55 = .ok (.if_icmp .le 5, 3) := by decide +kernel
theorem dX5_choice_58 : decode cX5_choice 58 = .ok (.iload_n 3, 1) := by decide +kernel
theorem dX5_choice_59 : decode cX5_choice 59 = .ok (.istore_n 2, 1) := by decide +kernel
theorem dX5_choice_60 : decode cX5_choice 60 = .ok (.iinc 3 1, 3) := by decide +kernel
theorem dX5_choice_63 : decode cX5_choice 63 = .ok (.goto (-59), 3) := by decide +kernel
theorem dX5_choice_66 : decode cX5_choice 66 = .ok (.iload_n 2, 1) := by decide +kernel
theorem dX5_choice_67 : decode cX5_choice 67 = .ok (.ireturn, 1) := by decide +kernel
theorem dX5_drawHers_0 : decode cX5_drawHers 0 = .ok (.iload_n 1, 1) := by decide +kernel
theorem dX5_drawHers_1 : decode cX5_drawHers 1 = .ok (.istore_n 2, 1) := by decide +kernel
theorem dX5_drawHers_2 : decode cX5_drawHers 2 = .ok (.iconst 0, 1) := by decide +kernel
theorem dX5_drawHers_3 : decode cX5_drawHers 3 = .ok (.istore_n 3, 1) := by decide +kernel
theorem dX5_drawHers_4 : decode cX5_drawHers 4 = .ok (.iload_n 3, 1) := by decide +kernel
theorem dX5_drawHers_5 : decode cX5_drawHers 5 = .ok (.aload_n 0, 1) := by decide +kernel
theorem dX5_drawHers_6 : decode cX5_drawHers 6 = .ok (.getfield 9, 3) := by decide +kernel
theorem dX5_drawHers_9 : decode cX5_drawHers 9 = .ok (.if_icmp .ge 54, 3) := by decide +kernel
theorem dX5_drawHers_12 : decode cX5_drawHers 12 = .ok (.iconst 0, 1) := by decide +kernel
theorem dX5_drawHers_13 : decode cX5_drawHers 13 = .ok (.istore 4, 2) := by decide +kernel
theorem dX5_drawHers_15 : decode cX5_drawHers 15 = .ok (.iload 4, 2) := by decide +kernel
theorem dX5_drawHers_17 : decode cX5_drawHers 17 = .ok (.aload_n 0, 1) := by decide +kernel
theorem dX5_drawHers_18 : decode cX5_drawHers 18 = .ok (.getfield 15, 3) := by decide +kernel
theorem dX5_drawHers_21 : decode cX5_drawHers 21 = .ok (.if_icmp .ge 36, 3) := by decide +kernel
theorem dX5_drawHers_24 : decode cX5_drawHers 24 = .ok (.iload_n 2, 1) := by decide +kernel
theorem dX5_drawHers_25 : decode cX5_drawHers 25 = .ok (.ldc 117, 2) := by decide +kernel
theorem dX5_drawHers_27 : decode cX5_drawHers 27 = .ok (.imul, 1) := by decide +kernel
theorem dX5_drawHers_28 : decode cX5_drawHers 28 = .ok (.sipush 12345, 3) := by decide +kernel
theorem dX5_drawHers_31 : decode cX5_drawHers 31 = .ok (.iadd, 1) := by decide +kernel
theorem dX5_drawHers_32 : decode cX5_drawHers 32 = .ok (.istore_n 2, 1) := by decide +kernel
theorem dX5_drawHers_33 : decode cX5_drawHers 33 = .ok (.aload_n 0, 1) := by decide +kernel
theorem dX5_drawHers_34 : decode cX5_drawHers 34 = .ok (.getfield 43, 3) := by decide +kernel
theorem dX5_drawHers_37 : decode cX5_drawHers 37 = .ok (.iload_n 3, 1) := by decide +kernel
theorem dX5_drawHers_38 : decode cX5_drawHers 38 = .ok (.iload 4, 2) := by decide +kernel
theorem dX5_drawHers_40 : decode cX5_drawHers 40 = .ok (.invokestatic 77, 3) := by decide +kernel
theorem dX5_drawHers_43 : decode cX5_drawHers 43 = .ok (.iload_n 2, 1) := by decide +kernel
theorem dX5_drawHers_44 : decode cX5_drawHers 44 = .ok (.bipush 9, 2) := by decide +kernel
theorem dX5_drawHers_46 : decode cX5_drawHers 46 = .ok (.iushr, 1) := by decide +kernel
theorem dX5_drawHers_47 : decode cX5_drawHers 47 = .ok (.bipush 100, 2) := by decide +kernel
theorem dX5_drawHers_49 : decode cX5_drawHers 49 = .ok (.irem, 1) := by decide +kernel
theorem dX5_drawHers_50 : decode cX5_drawHers 50 = .ok (.iastore, 1) := by decide +kernel
theorem dX5_drawHers_51 : decode cX5_drawHers 51 = .ok (.iinc 4 1, 3) := by decide +kernel
theorem dX5_drawHers_54 : decode cX5_drawHers 54 = .ok (.goto (-39), 3) := by decide +kernel
theorem dX5_drawHers_57 : decode cX5_drawHers 57 = .ok (.iinc 3 1, 3) := by decide +kernel
theorem dX5_drawHers_60 : decode cX5_drawHers 60 = .ok (.goto (-56), 3) := by decide +kernel
theorem dX5_drawHers_63 : decode cX5_drawHers 63 = .ok (.return_, 1) := by decide +kernel
theorem dX6_init_0 : decode cX6_init 0 = .ok (.aload_n 0, 1) := by decide +kernel
theorem dX6_init_1 : decode cX6_init 1 = .ok (.invokespecial 3, 3) := by decide +kernel
theorem dX6_init_4 : decode cX6_init 4 = .ok (.aload_n 0, 1) := by decide +kernel
theorem dX6_init_5 : decode cX6_init 5 = .ok (.iconst 4, 1) := by decide +kernel
theorem dX6_init_6 : decode cX6_init 6 = .ok (.newarray .int, 2) := by decide +kernel
theorem dX6_init_8 : decode cX6_init 8 = .ok (.putfield 9, 3) := by decide +kernel
theorem dX6_init_11 : decode cX6_init 11 = .ok (.aload_n 0, 1) := by decide +kernel
theorem dX6_init_12 : decode cX6_init 12 = .ok (.iconst 0, 1) := by decide +kernel
theorem dX6_init_13 : decode cX6_init 13 = .ok (.putfield 15, 3) := by decide +kernel
theorem dX6_init_16 : decode cX6_init 16 = .ok (.aload_n 0, 1) := by decide +kernel
theorem dX6_init_17 : decode cX6_init 17 = .ok (.iconst 0, 1) := by decide +kernel
theorem dX6_init_18 : decode cX6_init 18 = .ok (.putfield 19, 3) := by decide +kernel
theorem dX6_init_21 : decode cX6_init 21 = .ok (.aload_n 0, 1) := by decide +kernel
theorem dX6_init_22 : decode cX6_init 22 = .ok (.iconst 0, 1) := by decide +kernel
theorem dX6_init_23 : decode cX6_init 23 = .ok (.putfield 23, 3) := by decide +kernel
theorem dX6_init_26 : decode cX6_init 26 = .ok (.aload_n 0, 1) := by decide +kernel
theorem dX6_init_27 : decode cX6_init 27 = .ok (.iconst 4, 1) := by decide +kernel
theorem dX6_init_28 : decode cX6_init 28 = .ok (.newarray .int, 2) := by decide +kernel
theorem dX6_init_30 : decode cX6_init 30 = .ok (.putfield 26, 3) := by decide +kernel
theorem dX6_init_33 : decode cX6_init 33 = .ok (.return_, 1) := by decide +kernel
theorem dX6_seek_0 : decode cX6_seek 0 = .ok (.aload_n 0, 1) := by decide +kernel
theorem dX6_seek_1 : decode cX6_seek 1 = .ok (.iconst 0, 1) := by decide +kernel
theorem dX6_seek_2 : decode cX6_seek 2 = .ok (.putfield 15, 3) := by decide +kernel
theorem dX6_seek_5 : decode cX6_seek 5 = .ok (.aload_n 0, 1) := by decide +kernel
theorem dX6_seek_6 : decode cX6_seek 6 = .ok (.aload_n 1, 1) := by decide +kernel
theorem dX6_seek_7 : decode cX6_seek 7 = .ok (.iload_n 2, 1) := by decide +kernel
theorem dX6_seek_8 : decode cX6_seek 8 = .ok (.iload_n 3, 1) := by decide +kernel
theorem dX6_seek_9 : decode cX6_seek 9 = .ok (.iload 4, 2) := by decide +kernel
theorem dX6_seek_11 : decode cX6_seek 11 = .ok (.iconst 0, 1) := by decide +kernel
theorem dX6_seek_12 : decode cX6_seek 12 = .ok (.iconst 1, 1) := by decide +kernel
theorem dX6_seek_13 : decode cX6_seek 13 = .ok (.iload_n 3, 1) := by decide +kernel
theorem dX6_seek_14 : decode cX6_seek 14 = .ok (.ishl, 1) := by decide +kernel
theorem dX6_seek_15 : decode cX6_seek 15 = .ok (.invokevirtual 29, 3) := by decide +kernel
theorem dX6_seek_18 : decode cX6_seek 18 = .ok (.return_, 1) := by decide +kernel
theorem dX6_goOn_0 : decode cX6_goOn 0 = .ok (.aload_n 1, 1) := by decide +kernel
theorem dX6_goOn_1 : decode cX6_goOn 1 = .ok (.iload_n 2, 1) := by decide +kernel
theorem dX6_goOn_2 : decode cX6_goOn 2 = .ok (.iload_n 3, 1) := by decide +kernel
theorem dX6_goOn_3 : decode cX6_goOn 3 = .ok (.invokevirtual 33, 3) := by decide +kernel
theorem dX6_goOn_6 : decode cX6_goOn 6 = .ok (.ifCond .eq 28, 3) := by decide +kernel
theorem dX6_goOn_9 : decode cX6_goOn 9 = .ok (.aload_n 0, 1) := by decide +kernel
theorem dX6_goOn_10 : decode cX6_goOn 10 = .ok (.iload 4, 2) := by decide +kernel
theorem dX6_goOn_12 : decode cX6_goOn 12 = .ok (.iload 5, 2) := by decide +kernel
theorem dX6_goOn_14 : decode cX6_goOn 14 = .ok (.aload_n 1, 1) := by decide +kernel
theorem dX6_goOn_15 : decode cX6_goOn 15 = .ok (.getfield 39, 3) := by decide +kernel
theorem dX6_goOn_18 : decode cX6_goOn 18 = .ok (.invokevirtual 40, 3) := by decide +kernel
theorem dX6_goOn_21 : decode cX6_goOn 21 = .ok (.ifCond .eq 13, 3) := by decide +kernel
theorem dX6_goOn_24 : decode cX6_goOn 24 = .ok (.aload_n 0, 1) := by decide +kernel
theorem dX6_goOn_25 : decode cX6_goOn 25 = .ok (.iload 5, 2) := by decide +kernel
theorem dX6_goOn_27 : decode cX6_goOn 27 = .ok (.aload_n 1, 1) := by decide +kernel
theorem dX6_goOn_28 : decode cX6_goOn 28 = .ok (.getfield 39, 3) := by decide +kernel
theorem dX6_goOn_31 : decode cX6_goOn 31 = .ok (.invokevirtual 44, 3) := by decide +kernel
theorem dX6_goOn_34 : decode cX6_goOn 34 = .ok (.iload 5, 2) := by decide +kernel
theorem dX6_goOn_36 : decode cX6_goOn 36 = .ok (.iconst 4, 1) := by decide +kernel
theorem dX6_goOn_37 : decode cX6_goOn 37 = .ok (.if_icmp .lt 4, 3) := by decide +kernel
theorem dX6_goOn_40 : decode cX6_goOn 40 = .ok (.return_, 1) := by decide +kernel
theorem dX6_goOn_41 : decode cX6_goOn 41 = .ok (.aload_n 1, 1) := by decide +kernel
theorem dX6_goOn_42 : decode cX6_goOn 42 = .ok (.getfield 48, 3) := by decide +kernel
theorem dX6_goOn_45 : decode cX6_goOn 45 = .ok (.iload_n 2, 1) := by decide +kernel
theorem dX6_goOn_46 : decode cX6_goOn 46 = .ok (.iaload, 1) := by decide +kernel
theorem dX6_goOn_47 : decode cX6_goOn 47 = .ok (.istore 7, 2) := by decide +kernel
theorem dX6_goOn_49 : decode cX6_goOn 49 = .ok (.aload_n 1, 1) := by decide +kernel
theorem dX6_goOn_50 : decode cX6_goOn 50 = .ok (.getfield 51, 3) := by decide +kernel
theorem dX6_goOn_53 : decode cX6_goOn 53 = .ok (.istore 8, 2) := by decide +kernel
theorem dX6_goOn_55 : decode cX6_goOn 55 = .ok (.aload_n 1, 1) := by decide +kernel
theorem dX6_goOn_56 : decode cX6_goOn 56 = .ok (.getfield 39, 3) := by decide +kernel
theorem dX6_goOn_59 : decode cX6_goOn 59 = .ok (.istore 9, 2) := by decide +kernel
theorem dX6_goOn_61 : decode cX6_goOn 61 = .ok (.iconst 0, 1) := by decide +kernel
theorem dX6_goOn_62 : decode cX6_goOn 62 = .ok (.istore 10, 2) := by decide +kernel
theorem dX6_goOn_64 : decode cX6_goOn 64 = .ok (.iload 10, 2) := by decide +kernel
theorem dX6_goOn_66 : decode cX6_goOn 66 = .ok (.aload_n 1, 1) := by decide +kernel
theorem dX6_goOn_67 : decode cX6_goOn 67 = .ok (.getfield 54, 3) := by decide +kernel
theorem dX6_goOn_70 : decode cX6_goOn 70 = .ok (.if_icmp .ge 96, 3) := by decide +kernel
theorem dX6_goOn_73 : decode cX6_goOn 73 = .ok (.iload 6, 2) := by decide +kernel
theorem dX6_goOn_75 : decode cX6_goOn 75 = .ok (.iload 10, 2) := by decide +kernel
theorem dX6_goOn_77 : decode cX6_goOn 77 = .ok (.ishr, 1) := by decide +kernel
theorem dX6_goOn_78 : decode cX6_goOn 78 = .ok (.iconst 1, 1) := by decide +kernel
theorem dX6_goOn_79 : decode cX6_goOn 79 = .ok (.iand, 1) := by decide +kernel
theorem dX6_goOn_80 : decode cX6_goOn 80 = .ok (.ifCond .ne 80, 3) := by decide +kernel
theorem dX6_goOn_83 : decode cX6_goOn 83 = .ok (.aload_n 1, 1) := by decide +kernel
theorem dX6_goOn_84 : decode cX6_goOn 84 = .ok (.iload_n 2, 1) := by decide +kernel
theorem dX6_goOn_85 : decode cX6_goOn 85 = .ok (.iload 10, 2) := by decide +kernel
theorem dX6_goOn_87 : decode cX6_goOn 87 = .ok (.invokevirtual 33, 3) := by decide +kernel
theorem dX6_goOn_90 : decode cX6_goOn 90 = .ok (.ifCond .eq 70, 3) := by decide +kernel
theorem dX6_goOn_93 : decode cX6_goOn 93 = .ok (.aload_n 1, 1) := by decide +kernel
theorem dX6_goOn_94 : decode cX6_goOn 94 = .ok (.iload_n 2, 1) := by decide +kernel
theorem dX6_goOn_95 : decode cX6_goOn 95 = .ok (.iload 10, 2) := by decide +kernel
theorem dX6_goOn_97 : decode cX6_goOn 97 = .ok (.invokevirtual 57, 3) := by decide +kernel
theorem dX6_goOn_100 : decode cX6_goOn 100 = .ok (.ifCond .eq 60, 3) := by decide +kernel
theorem dX6_goOn_103 : decode cX6_goOn 103 = .ok (.aload_n 0, 1) := by decide +kernel
theorem dX6_goOn_104 : decode cX6_goOn 104 = .ok (.getfield 26, 3) := by decide +kernel
theorem dX6_goOn_107 : decode cX6_goOn 107 = .ok (.iload 5, 2) := by decide +kernel
theorem dX6_goOn_109 : decode cX6_goOn 109 = .ok (.iload 10, 2) := by decide +kernel
theorem dX6_goOn_111 : decode cX6_goOn 111 = .ok (.iastore, 1) := by decide +kernel
theorem dX6_goOn_112 : decode cX6_goOn 112 = .ok (.aload_n 1, 1) := by decide +kernel
theorem dX6_goOn_113 : decode cX6_goOn 113 = .ok (.iload_n 2, 1) := by decide +kernel
theorem dX6_goOn_114 : decode cX6_goOn 114 = .ok (.iload 10, 2) := by decide +kernel
theorem dX6_goOn_116 : decode cX6_goOn 116 = .ok (.iconst 0, 1) := by decide +kernel
theorem dX6_goOn_117 : decode cX6_goOn 117 = .ok (.invokevirtual 60, 3) := by decide +kernel
theorem dX6_goOn_120 : decode cX6_goOn 120 = .ok (.aload_n 0, 1) := by decide +kernel
theorem dX6_goOn_121 : decode cX6_goOn 121 = .ok (.aload_n 1, 1) := by decide +kernel
theorem dX6_goOn_122 : decode cX6_goOn 122 = .ok (.iload_n 2, 1) := by decide +kernel
theorem dX6_goOn_123 : decode cX6_goOn 123 = .ok (.iload_n 3, 1) := by decide +kernel
theorem dX6_goOn_124 : decode cX6_goOn 124 = .ok (.iload 4, 2) := by decide +kernel
theorem dX6_goOn_126 : decode cX6_goOn 126 = .ok (.iload 5, 2) := by decide +kernel
theorem dX6_goOn_128 : decode cX6_goOn 128 = .ok (.iconst 1, 1) := by decide +kernel
theorem dX6_goOn_129 : decode cX6_goOn 129 = .ok (.iadd, 1) := by decide +kernel
theorem dX6_goOn_130 : decode cX6_goOn 130 = .ok (.iload 6, 2) := by decide +kernel
theorem dX6_goOn_132 : decode cX6_goOn 132 = .ok (.iconst 1, 1) := by decide +kernel
theorem dX6_goOn_133 : decode cX6_goOn 133 = .ok (.iload 10, 2) := by decide +kernel
theorem dX6_goOn_135 : decode cX6_goOn 135 = .ok (.ishl, 1) := by decide +kernel
theorem dX6_goOn_136 : decode cX6_goOn 136 = .ok (.ior, 1) := by decide +kernel
theorem dX6_goOn_137 : decode cX6_goOn 137 = .ok (.invokevirtual 29, 3) := by decide +kernel
theorem dX6_goOn_140 : decode cX6_goOn 140 = .ok (.aload_n 1, 1) := by decide +kernel
theorem dX6_goOn_141 : decode cX6_goOn 141 = .ok (.getfield 48, 3) := by decide +kernel
theorem dX6_goOn_144 : decode cX6_goOn 144 = .ok (.iload_n 2, 1) := by decide +kernel
theorem dX6_goOn_145 : decode cX6_goOn 145 = .ok (.iload 7, 2) := by decide +kernel
theorem dX6_goOn_147 : decode cX6_goOn 147 = .ok (.iastore, 1) := by decide +kernel
theorem dX6_goOn_148 : decode cX6_goOn 148 = .ok (.aload_n 1, 1) := by decide +kernel
theorem dX6_goOn_149 : decode cX6_goOn 149 = .ok (.iload 8, 2) := by decide +kernel
theorem dX6_goOn_151 : decode cX6_goOn 151 = .ok (.putfield 51, 3) := by decide +kernel
theorem dX6_goOn_154 : decode cX6_goOn 154 = .ok (.aload_n 1, 1) := by decide +kernel
theorem dX6_goOn_155 : decode cX6_goOn 155 = .ok (.iload 9, 2) := by decide +kernel
theorem dX6_goOn_157 : decode cX6_goOn 157 = .ok (.putfield 39, 3) := by decide +kernel
theorem dX6_goOn_160 : decode cX6_goOn 160 = .ok (.iinc 10 1, 3) := by decide +kernel
theorem dX6_goOn_163 : decode cX6_goOn 163 = .ok (.goto (-99), 3) := by decide +kernel
theorem dX6_goOn_166 : decode cX6_goOn 166 = .ok (.return_, 1) := by decide +kernel
theorem dX6_isBetter_0 : decode cX6_isBetter 0 = .ok (.aload_n 0, 1) := by decide +kernel
theorem dX6_isBetter_1 : decode cX6_isBetter 1 = .ok (.getfield 15, 3) := by decide +kernel
theorem dX6_isBetter_4 : decode cX6_isBetter 4 = .ok (.ifCond .eq 26, 3) := by decide +kernel
theorem dX6_isBetter_7 : decode cX6_isBetter 7 = .ok (.iload_n 1, 1) := by decide +kernel
theorem dX6_isBetter_8 : decode cX6_isBetter 8 = .ok (.ifCond .ne 14, 3) := by decide +kernel
theorem dX6_isBetter_11 : decode cX6_isBetter 11 = .ok (.iload_n 2, 1) := by decide +kernel
theorem dX6_isBetter_12 : decode cX6_isBetter 12 = .ok (.aload_n 0, 1) := by decide +kernel
theorem dX6_isBetter_13 : decode cX6_isBetter 13 = .ok (.getfield 19, 3) := by decide +kernel
theorem dX6_isBetter_16 : decode cX6_isBetter 16 = .ok (.if_icmp .ge 18, 3) := by decide +kernel
theorem dX6_isBetter_19 : decode cX6_isBetter 19 = .ok (.goto 11, 3) := by decide +kernel
theorem dX6_isBetter_22 : decode cX6_isBetter 22 = .ok (.iload_n 3, 1) := by decide +kernel
theorem dX6_isBetter_23 : decode cX6_isBetter 23 = .ok (.aload_n 0, 1) := by decide +kernel
theorem dX6_isBetter_24 : decode cX6_isBetter 24 = .ok (.getfield 23, 3) := by decide +kernel
theorem dX6_isBetter_27 : decode cX6_isBetter 27 = .ok (.if_icmp .ge 7, 3) := by decide +kernel
theorem dX6_isBetter_30 : decode cX6_isBetter 30 = .ok (.iconst 1, 1) := by decide +kernel
theorem dX6_isBetter_31 : decode cX6_isBetter 31 = .ok (.goto 4, 3) := by decide +kernel
theorem dX6_isBetter_34 : decode cX6_isBetter 34 = .ok (.iconst 0, 1) := by decide +kernel
theorem dX6_isBetter_35 : decode cX6_isBetter 35 = .ok (.ireturn, 1) := by decide +kernel
theorem dX6_keep_0 : decode cX6_keep 0 = .ok (.aload_n 0, 1) := by decide +kernel
theorem dX6_keep_1 : decode cX6_keep 1 = .ok (.iconst 1, 1) := by decide +kernel
theorem dX6_keep_2 : decode cX6_keep 2 = .ok (.putfield 15, 3) := by decide +kernel
theorem dX6_keep_5 : decode cX6_keep 5 = .ok (.aload_n 0, 1) := by decide +kernel
theorem dX6_keep_6 : decode cX6_keep 6 = .ok (.iload_n 1, 1) := by decide +kernel
theorem dX6_keep_7 : decode cX6_keep 7 = .ok (.putfield 19, 3) := by decide +kernel
theorem dX6_keep_10 : decode cX6_keep 10 = .ok (.aload_n 0, 1) := by decide +kernel
theorem dX6_keep_11 : decode cX6_keep 11 = .ok (.iload_n 2, 1) := by decide +kernel
theorem dX6_keep_12 : decode cX6_keep 12 = .ok (.putfield 23, 3) := by decide +kernel
theorem dX6_keep_15 : decode cX6_keep 15 = .ok (.aload_n 0, 1) := by decide +kernel
theorem dX6_keep_16 : decode cX6_keep 16 = .ok (.getfield 26, 3) := by decide +kernel
theorem dX6_keep_19 : decode cX6_keep 19 = .ok (.iconst 0, 1) := by decide +kernel
theorem dX6_keep_20 : decode cX6_keep 20 = .ok (.aload_n 0, 1) := by decide +kernel
theorem dX6_keep_21 : decode cX6_keep 21 = .ok (.getfield 9, 3) := by decide +kernel
theorem dX6_keep_24 : decode cX6_keep 24 = .ok (.iconst 0, 1) := by decide +kernel
theorem dX6_keep_25 : decode cX6_keep 25 = .ok (.aload_n 0, 1) := by decide +kernel
theorem dX6_keep_26 : decode cX6_keep 26 = .ok (.getfield 26, 3) := by decide +kernel
theorem dX6_keep_29 : decode cX6_keep 29 = .ok (.arraylength, 1) := by decide +kernel
theorem dX6_keep_30 : decode cX6_keep 30 = .ok (.invokestatic 64, 3) := by decide +kernel
theorem dX6_keep_33 : decode cX6_keep 33 = .ok (.return_, 1) := by decide +kernel
theorem dX7_init_0 : decode cX7_init 0 = .ok (.aload_n 0, 1) := by decide +kernel
theorem dX7_init_1 : decode cX7_init 1 = .ok (.invokespecial 1, 3) := by decide +kernel
theorem dX7_init_4 : decode cX7_init 4 = .ok (.aload_n 0, 1) := by decide +kernel
theorem dX7_init_5 : decode cX7_init 5 = .ok (.new 7, 3) := by decide +kernel
theorem dX7_init_8 : decode cX7_init 8 = .ok (.dup, 1) := by decide +kernel
theorem dX7_init_9 : decode cX7_init 9 = .ok (.invokespecial 9, 3) := by decide +kernel
theorem dX7_init_12 : decode cX7_init 12 = .ok (.putfield 10, 3) := by decide +kernel
theorem dX7_init_15 : decode cX7_init 15 = .ok (.aload_n 0, 1) := by decide +kernel
theorem dX7_init_16 : decode cX7_init 16 = .ok (.bipush 6, 2) := by decide +kernel
theorem dX7_init_18 : decode cX7_init 18 = .ok (.anewarray 16, 3) := by decide +kernel
theorem dX7_init_21 : decode cX7_init 21 = .ok (.putfield 18, 3) := by decide +kernel
theorem dX7_init_24 : decode cX7_init 24 = .ok (.aload_n 0, 1) := by decide +kernel
theorem dX7_init_25 : decode cX7_init 25 = .ok (.iconst 1, 1) := by decide +kernel
theorem dX7_init_26 : decode cX7_init 26 = .ok (.putfield 22, 3) := by decide +kernel
theorem dX7_init_29 : decode cX7_init 29 = .ok (.aload_n 0, 1) := by decide +kernel
theorem dX7_init_30 : decode cX7_init 30 = .ok (.iconst 0, 1) := by decide +kernel
theorem dX7_init_31 : decode cX7_init 31 = .ok (.putfield 26, 3) := by decide +kernel
theorem dX7_init_34 : decode cX7_init 34 = .ok (.aload_n 0, 1) := by decide +kernel
theorem dX7_init_35 : decode cX7_init 35 = .ok (.new 30, 3) := by decide +kernel
theorem dX7_init_38 : decode cX7_init 38 = .ok (.dup, 1) := by decide +kernel
theorem dX7_init_39 : decode cX7_init 39 = .ok (.invokespecial 32, 3) := by decide +kernel
theorem dX7_init_42 : decode cX7_init 42 = .ok (.putfield 33, 3) := by decide +kernel
theorem dX7_init_45 : decode cX7_init 45 = .ok (.aload_n 0, 1) := by decide +kernel
theorem dX7_init_46 : decode cX7_init 46 = .ok (.new 37, 3) := by decide +kernel
theorem dX7_init_49 : decode cX7_init 49 = .ok (.dup, 1) := by decide +kernel
theorem dX7_init_50 : decode cX7_init 50 = .ok (.invokespecial 39, 3) := by decide +kernel
theorem dX7_init_53 : decode cX7_init 53 = .ok (.putfield 40, 3) := by decide +kernel
theorem dX7_init_56 : decode cX7_init 56 = .ok (.aload_n 0, 1) := by decide +kernel
theorem dX7_init_57 : decode cX7_init 57 = .ok (.iconst 4, 1) := by decide +kernel
theorem dX7_init_58 : decode cX7_init 58 = .ok (.anewarray 44, 3) := by decide +kernel
theorem dX7_init_61 : decode cX7_init 61 = .ok (.putfield 46, 3) := by decide +kernel
theorem dX7_init_64 : decode cX7_init 64 = .ok (.iconst 0, 1) := by decide +kernel
theorem dX7_init_65 : decode cX7_init 65 = .ok (.istore_n 1, 1) := by decide +kernel
theorem dX7_init_66 : decode cX7_init 66 = .ok (.iload_n 1, 1) := by decide +kernel
theorem dX7_init_67 : decode cX7_init 67 = .ok (.bipush 6, 2) := by decide +kernel
theorem dX7_init_69 : decode cX7_init 69 = .ok (.if_icmp .ge 23, 3) := by decide +kernel
theorem dX7_init_72 : decode cX7_init 72 = .ok (.aload_n 0, 1) := by decide +kernel
theorem dX7_init_73 : decode cX7_init 73 = .ok (.getfield 18, 3) := by decide +kernel
theorem dX7_init_76 : decode cX7_init 76 = .ok (.iload_n 1, 1) := by decide +kernel
theorem dX7_init_77 : decode cX7_init 77 = .ok (.new 16, 3) := by decide +kernel
theorem dX7_init_80 : decode cX7_init 80 = .ok (.dup, 1) := by decide +kernel
theorem dX7_init_81 : decode cX7_init 81 = .ok (.iload_n 1, 1) := by decide +kernel
theorem dX7_init_82 : decode cX7_init 82 = .ok (.invokespecial 50, 3) := by decide +kernel
theorem dX7_init_85 : decode cX7_init 85 = .ok (.aastore, 1) := by decide +kernel
theorem dX7_init_86 : decode cX7_init 86 = .ok (.iinc 1 1, 3) := by decide +kernel
theorem dX7_init_89 : decode cX7_init 89 = .ok (.goto (-23), 3) := by decide +kernel
theorem dX7_init_92 : decode cX7_init 92 = .ok (.iconst 0, 1) := by decide +kernel
theorem dX7_init_93 : decode cX7_init 93 = .ok (.istore_n 1, 1) := by decide +kernel
theorem dX7_init_94 : decode cX7_init 94 = .ok (.iload_n 1, 1) := by decide +kernel
theorem dX7_init_95 : decode cX7_init 95 = .ok (.iconst 4, 1) := by decide +kernel
theorem dX7_init_96 : decode cX7_init 96 = .ok (.if_icmp .ge 22, 3) := by decide +kernel
theorem dX7_init_99 : decode cX7_init 99 = .ok (.aload_n 0, 1) := by decide +kernel
theorem dX7_init_100 : decode cX7_init 100 = .ok (.getfield 46, 3) := by decide +kernel
theorem dX7_init_103 : decode cX7_init 103 = .ok (.iload_n 1, 1) := by decide +kernel
theorem dX7_init_104 : decode cX7_init 104 = .ok (.new 44, 3) := by decide +kernel
theorem dX7_init_107 : decode cX7_init 107 = .ok (.dup, 1) := by decide +kernel
theorem dX7_init_108 : decode cX7_init 108 = .ok (.invokespecial 53, 3) := by decide +kernel
theorem dX7_init_111 : decode cX7_init 111 = .ok (.aastore, 1) := by decide +kernel
theorem dX7_init_112 : decode cX7_init 112 = .ok (.iinc 1 1, 3) := by decide +kernel
theorem dX7_init_115 : decode cX7_init 115 = .ok (.goto (-21), 3) := by decide +kernel
theorem dX7_init_118 : decode cX7_init 118 = .ok (.iconst 0, 1) := by decide +kernel
theorem dX7_init_119 : decode cX7_init 119 = .ok (.istore_n 1, 1) := by decide +kernel
theorem dX7_init_120 : decode cX7_init 120 = .ok (.iload_n 1, 1) := by decide +kernel
theorem dX7_init_121 : decode cX7_init 121 = .ok (.ldc 54, 2) := by decide +kernel
theorem dX7_init_123 : decode cX7_init 123 = .ok (.invokevirtual 56, 3) := by decide +kernel
theorem dX7_init_126 : decode cX7_init 126 = .ok (.if_icmp .ge 23, 3) := by decide +kernel
theorem dX7_init_129 : decode cX7_init 129 = .ok (.aload_n 0, 1) := by decide +kernel
theorem dX7_init_130 : decode cX7_init 130 = .ok (.getfield 10, 3) := by decide +kernel
theorem dX7_init_133 : decode cX7_init 133 = .ok (.ldc 54, 2) := by decide +kernel
theorem dX7_init_135 : decode cX7_init 135 = .ok (.iload_n 1, 1) := by decide +kernel
theorem dX7_init_136 : decode cX7_init 136 = .ok (.invokevirtual 62, 3) := by decide +kernel
theorem dX7_init_139 : decode cX7_init 139 = .ok (.invokevirtual 66, 3) := by decide +kernel
theorem dX7_init_142 : decode cX7_init 142 = .ok (.pop, 1) := by decide +kernel
theorem dX7_init_143 : decode cX7_init 143 = .ok (.iinc 1 1, 3) := by decide +kernel
theorem dX7_init_146 : decode cX7_init 146 = .ok (.goto (-26), 3) := by decide +kernel
theorem dX7_init_149 : decode cX7_init 149 = .ok (.aload_n 0, 1) := by decide +kernel
theorem dX7_init_150 : decode cX7_init 150 = .ok (.getfield 10, 3) := by decide +kernel
theorem dX7_init_153 : decode cX7_init 153 = .ok (.invokevirtual 70, 3) := by decide +kernel
theorem dX7_init_156 : decode cX7_init 156 = .ok (.pop, 1) := by decide +kernel
theorem dX7_init_157 : decode cX7_init 157 = .ok (.aload_n 0, 1) := by decide +kernel
theorem dX7_init_158 : decode cX7_init 158 = .ok (.getfield 18, 3) := by decide +kernel
theorem dX7_init_161 : decode cX7_init 161 = .ok (.iconst 0, 1) := by decide +kernel
theorem dX7_init_162 : decode cX7_init 162 = .ok (.aaload, 1) := by decide +kernel
theorem dX7_init_163 : decode cX7_init 163 = .ok (.aload_n 0, 1) := by decide +kernel
theorem dX7_init_164 : decode cX7_init 164 = .ok (.getfield 10, 3) := by decide +kernel
theorem dX7_init_167 : decode cX7_init 167 = .ok (.getfield 73, 3) := by decide +kernel
theorem dX7_init_170 : decode cX7_init 170 = .ok (.aload_n 0, 1) := by decide +kernel
theorem dX7_init_171 : decode cX7_init 171 = .ok (.getfield 10, 3) := by decide +kernel
theorem dX7_init_174 : decode cX7_init 174 = .ok (.getfield 77, 3) := by decide +kernel
theorem dX7_init_177 : decode cX7_init 177 = .ok (.invokevirtual 80, 3) := by decide +kernel
theorem dX7_init_180 : decode cX7_init 180 = .ok (.aload_n 0, 1) := by decide +kernel
theorem dX7_init_181 : decode cX7_init 181 = .ok (.getfield 10, 3) := by decide +kernel
theorem dX7_init_184 : decode cX7_init 184 = .ok (.iconst 0, 1) := by decide +kernel
theorem dX7_init_185 : decode cX7_init 185 = .ok (.putfield 84, 3) := by decide +kernel
theorem dX7_init_188 : decode cX7_init 188 = .ok (.aload_n 0, 1) := by decide +kernel
theorem dX7_init_189 : decode cX7_init 189 = .ok (.new 87, 3) := by decide +kernel
theorem dX7_init_192 : decode cX7_init 192 = .ok (.dup, 1) := by decide +kernel
theorem dX7_init_193 : decode cX7_init 193 = .ok (.aload_n 0, 1) := by decide +kernel
theorem dX7_init_194 : decode cX7_init 194 = .ok (.getfield 18, 3) := by decide +kernel
theorem dX7_init_197 : decode cX7_init 197 = .ok (.iconst 0, 1) := by decide +kernel
theorem dX7_init_198 : decode cX7_init 198 = .ok (.aaload, 1) := by decide +kernel
theorem dX7_init_199 : decode cX7_init 199 = .ok (.invokespecial 89, 3) := by decide +kernel
theorem dX7_init_202 : decode cX7_init 202 = .ok (.putfield 92, 3) := by decide +kernel
theorem dX7_init_205 : decode cX7_init 205 = .ok (.aload_n 0, 1) := by decide +kernel
theorem dX7_init_206 : decode cX7_init 206 = .ok (.new 87, 3) := by decide +kernel
theorem dX7_init_209 : decode cX7_init 209 = .ok (.dup, 1) := by decide +kernel
theorem dX7_init_210 : decode cX7_init 210 = .ok (.aload_n 0, 1) := by decide +kernel
theorem dX7_init_211 : decode cX7_init 211 = .ok (.getfield 18, 3) := by decide +kernel
theorem dX7_init_214 : decode cX7_init 214 = .ok (.iconst 0, 1) := by decide +kernel
theorem dX7_init_215 : decode cX7_init 215 = .ok (.aaload, 1) := by decide +kernel
theorem dX7_init_216 : decode cX7_init 216 = .ok (.invokespecial 89, 3) := by decide +kernel
theorem dX7_init_219 : decode cX7_init 219 = .ok (.putfield 96, 3) := by decide +kernel
theorem dX7_init_222 : decode cX7_init 222 = .ok (.aload_n 0, 1) := by decide +kernel
theorem dX7_init_223 : decode cX7_init 223 = .ok (.new 87, 3) := by decide +kernel
theorem dX7_init_226 : decode cX7_init 226 = .ok (.dup, 1) := by decide +kernel
theorem dX7_init_227 : decode cX7_init 227 = .ok (.aload_n 0, 1) := by decide +kernel
theorem dX7_init_228 : decode cX7_init 228 = .ok (.getfield 18, 3) := by decide +kernel
theorem dX7_init_231 : decode cX7_init 231 = .ok (.iconst 0, 1) := by decide +kernel
theorem dX7_init_232 : decode cX7_init 232 = .ok (.aaload, 1) := by decide +kernel
theorem dX7_init_233 : decode cX7_init 233 = .ok (.invokespecial 89, 3) := by decide +kernel
theorem dX7_init_236 : decode cX7_init 236 = .ok (.putfield 99, 3) := by decide +kernel
theorem dX7_init_239 : decode cX7_init 239 = .ok (.return_, 1) := by decide +kernel
theorem dX7_man_0 : decode cX7_man 0 = .ok (.iload_n 1, 1) := by decide +kernel
theorem dX7_man_1 : decode cX7_man 1 = .ok (.iconst 0, 1) := by decide +kernel
theorem dX7_man_2 : decode cX7_man 2 = .ok (.bipush 9, 2) := by decide +kernel
theorem dX7_man_4 : decode cX7_man 4 = .ok (.invokestatic 102, 3) := by decide +kernel
theorem dX7_man_7 : decode cX7_man 7 = .ok (.ifCond .ne 6, 3) := by decide +kernel
theorem dX7_man_10 : decode cX7_man 10 = .ok (.bipush (-2), 2) := by decide +kernel
theorem dX7_man_12 : decode cX7_man 12 = .ok (.ireturn, 1) := by decide +kernel
theorem dX7_man_13 : decode cX7_man 13 = .ok (.aload_n 0, 1) := by decide +kernel
theorem dX7_man_14 : decode cX7_man 14 = .ok (.getfield 92, 3) := by decide +kernel
theorem dX7_man_17 : decode cX7_man 17 = .ok (.getfield 106, 3) := by decide +kernel
theorem dX7_man_20 : decode cX7_man 20 = .ok (.iconst 4, 1) := by decide +kernel
theorem dX7_man_21 : decode cX7_man 21 = .ok (.if_icmp .lt 6, 3) := by decide +kernel
theorem dX7_man_24 : decode cX7_man 24 = .ok (.bipush (-4), 2) := by decide +kernel
theorem dX7_man_26 : decode cX7_man 26 = .ok (.ireturn, 1) := by decide +kernel
theorem dX7_man_27 : decode cX7_man 27 = .ok (.aload_n 0, 1) := by decide +kernel
theorem dX7_man_28 : decode cX7_man 28 = .ok (.getfield 92, 3) := by decide +kernel
theorem dX7_man_31 : decode cX7_man 31 = .ok (.getfield 109, 3) := by decide +kernel
theorem dX7_man_34 : decode cX7_man 34 = .ok (.aload_n 0, 1) := by decide +kernel
theorem dX7_man_35 : decode cX7_man 35 = .ok (.getfield 92, 3) := by decide +kernel
theorem dX7_man_38 : decode cX7_man 38 = .ok (.getfield 106, 3) := by decide +kernel
theorem dX7_man_41 : decode cX7_man 41 = .ok (.iload_n 1, 1) := by decide +kernel
theorem dX7_man_42 : decode cX7_man 42 = .ok (.iastore, 1) := by decide +kernel
theorem dX7_man_43 : decode cX7_man 43 = .ok (.aload_n 0, 1) := by decide +kernel
theorem dX7_man_44 : decode cX7_man 44 = .ok (.getfield 92, 3) := by decide +kernel
theorem dX7_man_47 : decode cX7_man 47 = .ok (.dup, 1) := by decide +kernel
theorem dX7_man_48 : decode cX7_man 48 = .ok (.getfield 106, 3) := by decide +kernel
theorem dX7_man_51 : decode cX7_man 51 = .ok (.iconst 1, 1) := by decide +kernel
theorem dX7_man_52 : decode cX7_man 52 = .ok (.iadd, 1) := by decide +kernel
theorem dX7_man_53 : decode cX7_man 53 = .ok (.putfield 106, 3) := by decide +kernel
theorem dX7_man_56 : decode cX7_man 56 = .ok (.aload_n 0, 1) := by decide +kernel
theorem dX7_man_57 : decode cX7_man 57 = .ok (.getfield 92, 3) := by decide +kernel
theorem dX7_man_60 : decode cX7_man 60 = .ok (.getfield 106, 3) := by decide +kernel
theorem dX7_man_63 : decode cX7_man 63 = .ok (.iconst 1, 1) := by decide +kernel
theorem dX7_man_64 : decode cX7_man 64 = .ok (.isub, 1) := by decide +kernel
theorem dX7_man_65 : decode cX7_man 65 = .ok (.ireturn, 1) := by decide +kernel
theorem dX7_maid_0 : decode cX7_maid 0 = .ok (.iload_n 1, 1) := by decide +kernel
theorem dX7_maid_1 : decode cX7_maid 1 = .ok (.iconst 0, 1) := by decide +kernel
theorem dX7_maid_2 : decode cX7_maid 2 = .ok (.iconst 5, 1) := by decide +kernel
theorem dX7_maid_3 : decode cX7_maid 3 = .ok (.invokestatic 102, 3) := by decide +kernel
theorem dX7_maid_6 : decode cX7_maid 6 = .ok (.ifCond .eq 13, 3) := by decide +kernel
theorem dX7_maid_9 : decode cX7_maid 9 = .ok (.iload_n 2, 1) := by decide +kernel
theorem dX7_maid_10 : decode cX7_maid 10 = .ok (.iconst 0, 1) := by decide +kernel
theorem dX7_maid_11 : decode cX7_maid 11 = .ok (.bipush 9, 2) := by decide +kernel
theorem dX7_maid_13 : decode cX7_maid 13 = .ok (.invokestatic 102, 3) := by decide +kernel
theorem dX7_maid_16 : decode cX7_maid 16 = .ok (.ifCond .ne 6, 3) := by decide +kernel
theorem dX7_maid_19 : decode cX7_maid 19 = .ok (.bipush (-2), 2) := by decide +kernel
theorem dX7_maid_21 : decode cX7_maid 21 = .ok (.ireturn, 1) := by decide +kernel
theorem dX7_maid_22 : decode cX7_maid 22 = .ok (.aload_n 0, 1) := by decide +kernel
theorem dX7_maid_23 : decode cX7_maid 23 = .ok (.getfield 92, 3) := by decide +kernel
theorem dX7_maid_26 : decode cX7_maid 26 = .ok (.getfield 114, 3) := by decide +kernel
theorem dX7_maid_29 : decode cX7_maid 29 = .ok (.iconst 4, 1) := by decide +kernel
theorem dX7_maid_30 : decode cX7_maid 30 = .ok (.if_icmp .lt 6, 3) := by decide +kernel
theorem dX7_maid_33 : decode cX7_maid 33 = .ok (.bipush (-4), 2) := by decide +kernel
theorem dX7_maid_35 : decode cX7_maid 35 = .ok (.ireturn, 1) := by decide +kernel
theorem dX7_maid_36 : decode cX7_maid 36 = .ok (.aload_n 0, 1) := by decide +kernel
theorem dX7_maid_37 : decode cX7_maid 37 = .ok (.getfield 92, 3) := by decide +kernel
theorem dX7_maid_40 : decode cX7_maid 40 = .ok (.getfield 117, 3) := by decide +kernel
theorem dX7_maid_43 : decode cX7_maid 43 = .ok (.aload_n 0, 1) := by decide +kernel
theorem dX7_maid_44 : decode cX7_maid 44 = .ok (.getfield 92, 3) := by decide +kernel
theorem dX7_maid_47 : decode cX7_maid 47 = .ok (.getfield 114, 3) := by decide +kernel
theorem dX7_maid_50 : decode cX7_maid 50 = .ok (.iload_n 1, 1) := by decide +kernel
theorem dX7_maid_51 : decode cX7_maid 51 = .ok (.iastore, 1) := by decide +kernel
theorem dX7_maid_52 : decode cX7_maid 52 = .ok (.aload_n 0, 1) := by decide +kernel
theorem dX7_maid_53 : decode cX7_maid 53 = .ok (.getfield 92, 3) := by decide +kernel
theorem dX7_maid_56 : decode cX7_maid 56 = .ok (.getfield 120, 3) := by decide +kernel
theorem dX7_maid_59 : decode cX7_maid 59 = .ok (.aload_n 0, 1) := by decide +kernel
theorem dX7_maid_60 : decode cX7_maid 60 = .ok (.getfield 92, 3) := by decide +kernel
theorem dX7_maid_63 : decode cX7_maid 63 = .ok (.getfield 114, 3) := by decide +kernel
theorem dX7_maid_66 : decode cX7_maid 66 = .ok (.iload_n 2, 1) := by decide +kernel
theorem dX7_maid_67 : decode cX7_maid 67 = .ok (.iastore, 1) := by decide +kernel
theorem dX7_maid_68 : decode cX7_maid 68 = .ok (.aload_n 0, 1) := by decide +kernel
theorem dX7_maid_69 : decode cX7_maid 69 = .ok (.getfield 92, 3) := by decide +kernel
theorem dX7_maid_72 : decode cX7_maid 72 = .ok (.dup, 1) := by decide +kernel
theorem dX7_maid_73 : decode cX7_maid 73 = .ok (.getfield 114, 3) := by decide +kernel
theorem dX7_maid_76 : decode cX7_maid 76 = .ok (.iconst 1, 1) := by decide +kernel
theorem dX7_maid_77 : decode cX7_maid 77 = .ok (.iadd, 1) := by decide +kernel
theorem dX7_maid_78 : decode cX7_maid 78 = .ok (.putfield 114, 3) := by decide +kernel
theorem dX7_maid_81 : decode cX7_maid 81 = .ok (.aload_n 0, 1) := by decide +kernel
theorem dX7_maid_82 : decode cX7_maid 82 = .ok (.getfield 92, 3) := by decide +kernel
theorem dX7_maid_85 : decode cX7_maid 85 = .ok (.getfield 114, 3) := by decide +kernel
theorem dX7_maid_88 : decode cX7_maid 88 = .ok (.iconst 1, 1) := by decide +kernel
theorem dX7_maid_89 : decode cX7_maid 89 = .ok (.isub, 1) := by decide +kernel
theorem dX7_maid_90 : decode cX7_maid 90 = .ok (.ireturn, 1) := by decide +kernel
theorem dX7_likes_0 : decode cX7_likes 0 = .ok (.aload_n 0, 1) := by decide +kernel
theorem dX7_likes_1 : decode cX7_likes 1 = .ok (.iload_n 1, 1) := by decide +kernel
theorem dX7_likes_2 : decode cX7_likes 2 = .ok (.iload_n 2, 1) := by decide +kernel
theorem dX7_likes_3 : decode cX7_likes 3 = .ok (.invokevirtual 123, 3) := by decide +kernel
theorem dX7_likes_6 : decode cX7_likes 6 = .ok (.ifCond .eq 23, 3) := by decide +kernel
theorem dX7_likes_9 : decode cX7_likes 9 = .ok (.iload_n 3, 1) := by decide +kernel
theorem dX7_likes_10 : decode cX7_likes 10 = .ok (.iconst 0, 1) := by decide +kernel
theorem dX7_likes_11 : decode cX7_likes 11 = .ok (.iconst 1, 1) := by decide +kernel
theorem dX7_likes_12 : decode cX7_likes 12 = .ok (.invokestatic 102, 3) := by decide +kernel
theorem dX7_likes_15 : decode cX7_likes 15 = .ok (.ifCond .eq 14, 3) := by decide +kernel
theorem dX7_likes_18 : decode cX7_likes 18 = .ok (.iload 4, 2) := by decide +kernel
theorem dX7_likes_20 : decode cX7_likes 20 = .ok (.iconst 0, 1) := by decide +kernel
theorem dX7_likes_21 : decode cX7_likes 21 = .ok (.bipush 99, 2) := by decide +kernel
theorem dX7_likes_23 : decode cX7_likes 23 = .ok (.invokestatic 102, 3) := by decide +kernel
theorem dX7_likes_26 : decode cX7_likes 26 = .ok (.ifCond .ne 6, 3) := by decide +kernel
theorem dX7_likes_29 : decode cX7_likes 29 = .ok (.bipush (-2), 2) := by decide +kernel
theorem dX7_likes_31 : decode cX7_likes 31 = .ok (.ireturn, 1) := by decide +kernel
theorem dX7_likes_32 : decode cX7_likes 32 = .ok (.iload_n 3, 1) := by decide +kernel
theorem dX7_likes_33 : decode cX7_likes 33 = .ok (.ifCond .ne 13, 3) := by decide +kernel
theorem dX7_likes_36 : decode cX7_likes 36 = .ok (.aload_n 0, 1) := by decide +kernel
theorem dX7_likes_37 : decode cX7_likes 37 = .ok (.getfield 92, 3) := by decide +kernel
theorem dX7_likes_40 : decode cX7_likes 40 = .ok (.getfield 127, 3) := by decide +kernel
theorem dX7_likes_43 : decode cX7_likes 43 = .ok (.goto 10, 3) := by decide +kernel
theorem dX7_likes_46 : decode cX7_likes 46 = .ok (.aload_n 0, 1) := by decide +kernel
theorem dX7_likes_47 : decode cX7_likes 47 = .ok (.getfield 92, 3) := by decide +kernel
theorem dX7_likes_50 : decode cX7_likes 50 = .ok (.getfield 130, 3) := by decide +kernel
theorem dX7_likes_53 : decode cX7_likes 53 = .ok (.iload_n 1, 1) := by decide +kernel
theorem dX7_likes_54 : decode cX7_likes 54 = .ok (.iload_n 2, 1) := by decide +kernel
theorem dX7_likes_55 : decode cX7_likes 55 = .ok (.invokestatic 133, 3) := by decide +kernel
theorem dX7_likes_58 : decode cX7_likes 58 = .ok (.iload 4, 2) := by decide +kernel
theorem dX7_likes_60 : decode cX7_likes 60 = .ok (.invokestatic 137, 3) := by decide +kernel
theorem dX7_likes_63 : decode cX7_likes 63 = .ok (.ireturn, 1) := by decide +kernel
theorem dX7_set_0 : decode cX7_set 0 = .ok (.iload_n 1, 1) := by decide +kernel
theorem dX7_set_1 : decode cX7_set 1 = .ok (.tableswitch 120 0 2 #[27, 63, 99], 27) := by decide +kernel
theorem dX7_set_28 : decode cX7_set 28 = .ok (.aload_n 0, 1) := by decide +kernel
theorem dX7_set_29 : decode cX7_set 29 = .ok (.iload_n 2, 1) := by decide +kernel
theorem dX7_set_30 : decode cX7_set 30 = .ok (.invokevirtual 141, 3) := by decide +kernel
theorem dX7_set_33 : decode cX7_set 33 = .ok (.ifCond .eq 28, 3) := by decide +kernel
theorem dX7_set_36 : decode cX7_set 36 = .ok (.iload_n 3, 1) := by decide +kernel
theorem dX7_set_37 : decode cX7_set 37 = .ok (.iconst 0, 1) := by decide +kernel
theorem dX7_set_38 : decode cX7_set 38 = .ok (.bipush 9, 2) := by decide +kernel
theorem dX7_set_40 : decode cX7_set 40 = .ok (.invokestatic 102, 3) := by decide +kernel
theorem dX7_set_43 : decode cX7_set 43 = .ok (.ifCond .eq 18, 3) := by decide +kernel
theorem dX7_set_46 : decode cX7_set 46 = .ok (.aload_n 0, 1) := by decide +kernel
theorem dX7_set_47 : decode cX7_set 47 = .ok (.getfield 92, 3) := by decide +kernel
theorem dX7_set_50 : decode cX7_set 50 = .ok (.getfield 109, 3) := by decide +kernel
theorem dX7_set_53 : decode cX7_set 53 = .ok (.iload_n 2, 1) := by decide +kernel
theorem dX7_set_54 : decode cX7_set 54 = .ok (.iload_n 3, 1) := by decide +kernel
theorem dX7_set_55 : decode cX7_set 55 = .ok (.invokestatic 137, 3) := by decide +kernel
theorem dX7_set_58 : decode cX7_set 58 = .ok (.goto 5, 3) := by decide +kernel
theorem dX7_set_61 : decode cX7_set 61 = .ok (.bipush (-2), 2) := by decide +kernel
theorem dX7_set_63 : decode cX7_set 63 = .ok (.ireturn, 1) := by decide +kernel
theorem dX7_set_64 : decode cX7_set 64 = .ok (.aload_n 0, 1) := by decide +kernel
theorem dX7_set_65 : decode cX7_set 65 = .ok (.iload_n 2, 1) := by decide +kernel
theorem dX7_set_66 : decode cX7_set 66 = .ok (.invokevirtual 144, 3) := by decide +kernel
theorem dX7_set_69 : decode cX7_set 69 = .ok (.ifCond .eq 28, 3) := by decide +kernel
theorem dX7_set_72 : decode cX7_set 72 = .ok (.iload_n 3, 1) := by decide +kernel
theorem dX7_set_73 : decode cX7_set 73 = .ok (.iconst 0, 1) := by decide +kernel
theorem dX7_set_74 : decode cX7_set 74 = .ok (.bipush 9, 2) := by decide +kernel
theorem dX7_set_76 : decode cX7_set 76 = .ok (.invokestatic 102, 3) := by decide +kernel
theorem dX7_set_79 : decode cX7_set 79 = .ok (.ifCond .eq 18, 3) := by decide +kernel
theorem dX7_set_82 : decode cX7_set 82 = .ok (.aload_n 0, 1) := by decide +kernel
theorem dX7_set_83 : decode cX7_set 83 = .ok (.getfield 92, 3) := by decide +kernel
theorem dX7_set_86 : decode cX7_set 86 = .ok (.getfield 120, 3) := by decide +kernel
theorem dX7_set_89 : decode cX7_set 89 = .ok (.iload_n 2, 1) := by decide +kernel
theorem dX7_set_90 : decode cX7_set 90 = .ok (.iload_n 3, 1) := by decide +kernel
theorem dX7_set_91 : decode cX7_set 91 = .ok (.invokestatic 137, 3) := by decide +kernel
theorem dX7_set_94 : decode cX7_set 94 = .ok (.goto 5, 3) := by decide +kernel
theorem dX7_set_97 : decode cX7_set 97 = .ok (.bipush (-2), 2) := by decide +kernel
theorem dX7_set_99 : decode cX7_set 99 = .ok (.ireturn, 1) := by decide +kernel
theorem dX7_set_100 : decode cX7_set 100 = .ok (.iload_n 3, 1) := by decide +kernel
theorem dX7_set_101 : decode cX7_set 101 = .ok (.iconst 0, 1) := by decide +kernel
theorem dX7_set_102 : decode cX7_set 102 = .ok (.bipush 99, 2) := by decide +kernel
theorem dX7_set_104 : decode cX7_set 104 = .ok (.invokestatic 102, 3) := by decide +kernel
theorem dX7_set_107 : decode cX7_set 107 = .ok (.ifCond .eq 11, 3) := by decide +kernel
theorem dX7_set_110 : decode cX7_set 110 = .ok (.aload_n 0, 1) := by decide +kernel
theorem dX7_set_111 : decode cX7_set 111 = .ok (.iload_n 3, 1) := by decide +kernel
theorem dX7_set_112 : decode cX7_set 112 = .ok (.invokevirtual 147, 3) := by decide +kernel
theorem dX7_set_115 : decode cX7_set 115 = .ok (.goto 5, 3) := by decide +kernel
theorem dX7_set_118 : decode cX7_set 118 = .ok (.bipush (-2), 2) := by decide +kernel
theorem dX7_set_120 : decode cX7_set 120 = .ok (.ireturn, 1) := by decide +kernel
theorem dX7_set_121 : decode cX7_set 121 = .ok (.bipush (-2), 2) := by decide +kernel
theorem dX7_set_123 : decode cX7_set 123 = .ok (.ireturn, 1) := by decide +kernel
theorem dX7_told_0 : decode cX7_told 0 = .ok (.aload_n 0, 1) := by decide +kernel
theorem dX7_told_1 : decode cX7_told 1 = .ok (.iload_n 1, 1) := by decide +kernel
theorem dX7_told_2 : decode cX7_told 2 = .ok (.iload_n 2, 1) := by decide +kernel
theorem dX7_told_3 : decode cX7_told 3 = .ok (.invokevirtual 123, 3) := by decide +kernel
theorem dX7_told_6 : decode cX7_told 6 = .ok (.ifCond .ne 6, 3) := by decide +kernel
theorem dX7_told_9 : decode cX7_told 9 = .ok (.bipush (-2), 2) := by decide +kernel
theorem dX7_told_11 : decode cX7_told 11 = .ok (.ireturn, 1) := by decide +kernel
theorem dX7_told_12 : decode cX7_told 12 = .ok (.iload_n 3, 1) := by decide +kernel
theorem dX7_told_13 : decode cX7_told 13 = .ok (.tableswitch 131 0 5 #[39, 53, 67, 85, 103, 113], 39) := by decide +kernel
theorem dX7_told_52 : decode cX7_told 52 = .ok (.aload_n 0, 1) := by decide +kernel
theorem dX7_told_53 : decode cX7_told 53 = .ok (.getfield 92, 3) := by decide +kernel
theorem dX7_told_56 : decode cX7_told 56 = .ok (.getfield 127, 3) := by decide +kernel
theorem dX7_told_59 : decode cX7_told 59 = .ok (.iload_n 1, 1) := by decide +kernel
theorem dX7_told_60 : decode cX7_told 60 = .ok (.iload_n 2, 1) := by decide +kernel
theorem dX7_told_61 : decode cX7_told 61 = .ok (.invokestatic 133, 3) := by decide +kernel
theorem dX7_told_64 : decode cX7_told 64 = .ok (.iaload, 1) := by decide +kernel
theorem dX7_told_65 : decode cX7_told 65 = .ok (.ireturn, 1) := by decide +kernel
theorem dX7_told_66 : decode cX7_told 66 = .ok (.aload_n 0, 1) := by decide +kernel
theorem dX7_told_67 : decode cX7_told 67 = .ok (.getfield 92, 3) := by decide +kernel
theorem dX7_told_70 : decode cX7_told 70 = .ok (.getfield 130, 3) := by decide +kernel
theorem dX7_told_73 : decode cX7_told 73 = .ok (.iload_n 1, 1) := by decide +kernel
theorem dX7_told_74 : decode cX7_told 74 = .ok (.iload_n 2, 1) := by decide +kernel
theorem dX7_told_75 : decode cX7_told 75 = .ok (.invokestatic 133, 3) := by decide +kernel
theorem dX7_told_78 : decode cX7_told 78 = .ok (.iaload, 1) := by decide +kernel
theorem dX7_told_79 : decode cX7_told 79 = .ok (.ireturn, 1) := by decide +kernel
theorem dX7_told_80 : decode cX7_told 80 = .ok (.aload_n 0, 1) := by decide +kernel
theorem dX7_told_81 : decode cX7_told 81 = .ok (.getfield 92, 3) := by decide +kernel
theorem dX7_told_84 : decode cX7_told 84 = .ok (.iload_n 1, 1) := by decide +kernel
theorem dX7_told_85 : decode cX7_told 85 = .ok (.iload_n 2, 1) := by decide +kernel
theorem dX7_told_86 : decode cX7_told 86 = .ok (.invokevirtual 151, 3) := by decide +kernel
theorem dX7_told_89 : decode cX7_told 89 = .ok (.ifCond .eq 7, 3) := by decide +kernel
theorem dX7_told_92 : decode cX7_told 92 = .ok (.iconst 1, 1) := by decide +kernel
theorem dX7_told_93 : decode cX7_told 93 = .ok (.goto 4, 3) := by decide +kernel
theorem dX7_told_96 : decode cX7_told 96 = .ok (.iconst 0, 1) := by decide +kernel
theorem dX7_told_97 : decode cX7_told 97 = .ok (.ireturn, 1) := by decide +kernel
theorem dX7_told_98 : decode cX7_told 98 = .ok (.aload_n 0, 1) := by decide +kernel
theorem dX7_told_99 : decode cX7_told 99 = .ok (.getfield 92, 3) := by decide +kernel
theorem dX7_told_102 : decode cX7_told 102 = .ok (.iload_n 1, 1) := by decide +kernel
theorem dX7_told_103 : decode cX7_told 103 = .ok (.iload_n 2, 1) := by decide +kernel
theorem dX7_told_104 : decode cX7_told 104 = .ok (.invokevirtual 154, 3) := by decide +kernel
theorem dX7_told_107 : decode cX7_told 107 = .ok (.ifCond .eq 7, 3) := by decide +kernel
theorem dX7_told_110 : decode cX7_told 110 = .ok (.iconst 1, 1) := by decide +kernel
theorem dX7_told_111 : decode cX7_told 111 = .ok (.goto 4, 3) := by decide +kernel
theorem dX7_told_114 : decode cX7_told 114 = .ok (.iconst 0, 1) := by decide +kernel
theorem dX7_told_115 : decode cX7_told 115 = .ok (.ireturn, 1) := by decide +kernel
theorem dX7_told_116 : decode cX7_told 116 = .ok (.aload_n 0, 1) := by decide +kernel
theorem dX7_told_117 : decode cX7_told 117 = .ok (.getfield 92, 3) := by decide +kernel
theorem dX7_told_120 : decode cX7_told 120 = .ok (.iload_n 1, 1) := by decide +kernel
theorem dX7_told_121 : decode cX7_told 121 = .ok (.iload_n 2, 1) := by decide +kernel
theorem dX7_told_122 : decode cX7_told 122 = .ok (.invokevirtual 157, 3) := by decide +kernel
theorem dX7_told_125 : decode cX7_told 125 = .ok (.ireturn, 1) := by decide +kernel
theorem dX7_told_126 : decode cX7_told 126 = .ok (.aload_n 0, 1) := by decide +kernel
theorem dX7_told_127 : decode cX7_told 127 = .ok (.getfield 92, 3) := by decide +kernel
theorem dX7_told_130 : decode cX7_told 130 = .ok (.iload_n 1, 1) := by decide +kernel
theorem dX7_told_131 : decode cX7_told 131 = .ok (.iload_n 2, 1) := by decide +kernel
theorem dX7_told_132 : decode cX7_told 132 = .ok (.invokevirtual 160, 3) := by decide +kernel
theorem dX7_told_135 : decode cX7_told 135 = .ok (.ifCond .eq 7, 3) := by decide +kernel
theorem dX7_told_138 : decode cX7_told 138 = .ok (.iconst 1, 1) := by decide +kernel
theorem dX7_told_139 : decode cX7_told 139 = .ok (.goto 4, 3) := by decide +kernel
theorem dX7_told_142 : decode cX7_told 142 = .ok (.iconst 0, 1) := by decide +kernel
theorem dX7_told_143 : decode cX7_told 143 = .ok (.ireturn, 1) := by decide +kernel
theorem dX7_told_144 : decode cX7_told 144 = .ok (.bipush (-2), 2) := by decide +kernel
theorem dX7_told_146 : decode cX7_told 146 = .ok (.ireturn, 1) := by decide +kernel
theorem dX7_of_0 : decode cX7_of 0 = .ok (.iload_n 2, 1) := by decide +kernel
theorem dX7_of_1 : decode cX7_of 1 = .ok (.iconst 0, 1) := by decide +kernel
theorem dX7_of_2 : decode cX7_of 2 = .ok (.iconst 4, 1) := by decide +kernel
theorem dX7_of_3 : decode cX7_of 3 = .ok (.invokestatic 102, 3) := by decide +kernel
theorem dX7_of_6 : decode cX7_of 6 = .ok (.ifCond .eq 23, 3) := by decide +kernel
theorem dX7_of_9 : decode cX7_of 9 = .ok (.aload_n 0, 1) := by decide +kernel
theorem dX7_of_10 : decode cX7_of 10 = .ok (.iload_n 1, 1) := by decide +kernel
theorem dX7_of_11 : decode cX7_of 11 = .ok (.invokevirtual 144, 3) := by decide +kernel
theorem dX7_of_14 : decode cX7_of 14 = .ok (.ifCond .eq 12, 3) := by decide +kernel
theorem dX7_of_17 : decode cX7_of 17 = .ok (.aload_n 0, 1) := by decide +kernel
theorem dX7_of_18 : decode cX7_of 18 = .ok (.iload_n 1, 1) := by decide +kernel
theorem dX7_of_19 : decode cX7_of 19 = .ok (.iload_n 2, 1) := by decide +kernel
theorem dX7_of_20 : decode cX7_of 20 = .ok (.invokevirtual 163, 3) := by decide +kernel
theorem dX7_of_23 : decode cX7_of 23 = .ok (.goto 5, 3) := by decide +kernel
theorem dX7_of_26 : decode cX7_of 26 = .ok (.bipush (-2), 2) := by decide +kernel
theorem dX7_of_28 : decode cX7_of 28 = .ok (.ireturn, 1) := by decide +kernel
theorem dX7_of_29 : decode cX7_of 29 = .ok (.iload_n 2, 1) := by decide +kernel
theorem dX7_of_30 : decode cX7_of 30 = .ok (.iconst 5, 1) := by decide +kernel
theorem dX7_of_31 : decode cX7_of 31 = .ok (.bipush 6, 2) := by decide +kernel
theorem dX7_of_33 : decode cX7_of 33 = .ok (.invokestatic 102, 3) := by decide +kernel
theorem dX7_of_36 : decode cX7_of 36 = .ok (.ifCond .eq 23, 3) := by decide +kernel
theorem dX7_of_39 : decode cX7_of 39 = .ok (.aload_n 0, 1) := by decide +kernel
theorem dX7_of_40 : decode cX7_of 40 = .ok (.iload_n 1, 1) := by decide +kernel
theorem dX7_of_41 : decode cX7_of 41 = .ok (.invokevirtual 141, 3) := by decide +kernel
theorem dX7_of_44 : decode cX7_of 44 = .ok (.ifCond .eq 12, 3) := by decide +kernel
theorem dX7_of_47 : decode cX7_of 47 = .ok (.aload_n 0, 1) := by decide +kernel
theorem dX7_of_48 : decode cX7_of 48 = .ok (.iload_n 1, 1) := by decide +kernel
theorem dX7_of_49 : decode cX7_of 49 = .ok (.iload_n 2, 1) := by decide +kernel
theorem dX7_of_50 : decode cX7_of 50 = .ok (.invokevirtual 166, 3) := by decide +kernel
theorem dX7_of_53 : decode cX7_of 53 = .ok (.goto 5, 3) := by decide +kernel
theorem dX7_of_56 : decode cX7_of 56 = .ok (.bipush (-2), 2) := by decide +kernel
theorem dX7_of_58 : decode cX7_of 58 = .ok (.ireturn, 1) := by decide +kernel
theorem dX7_of_59 : decode cX7_of 59 = .ok (.bipush (-2), 2) := by decide +kernel
theorem dX7_of_61 : decode cX7_of 61 = .ok (.ireturn, 1) := by decide +kernel
theorem dX7_ofMaid_0 : decode cX7_ofMaid 0 = .ok (.iload_n 2, 1) := by decide +kernel
theorem dX7_ofMaid_1 : decode cX7_ofMaid 1 = .ok (.tableswitch 95 0 3 #[31, 41, 51, 73], 31) := by decide +kernel
theorem dX7_ofMaid_32 : decode cX7_ofMaid 32 = .ok (.aload_n 0, 1) := by decide +kernel
theorem dX7_ofMaid_33 : decode cX7_ofMaid 33 = .ok (.getfield 92, 3) := by decide +kernel
theorem dX7_ofMaid_36 : decode cX7_ofMaid 36 = .ok (.getfield 117, 3) := by decide +kernel
theorem dX7_ofMaid_39 : decode cX7_ofMaid 39 = .ok (.iload_n 1, 1) := by decide +kernel
theorem dX7_ofMaid_40 : decode cX7_ofMaid 40 = .ok (.iaload, 1) := by decide +kernel
theorem dX7_ofMaid_41 : decode cX7_ofMaid 41 = .ok (.ireturn, 1) := by decide +kernel
theorem dX7_ofMaid_42 : decode cX7_ofMaid 42 = .ok (.aload_n 0, 1) := by decide +kernel
theorem dX7_ofMaid_43 : decode cX7_ofMaid 43 = .ok (.getfield 92, 3) := by decide +kernel
theorem dX7_ofMaid_46 : decode cX7_ofMaid 46 = .ok (.getfield 120, 3) := by decide +kernel
theorem dX7_ofMaid_49 : decode cX7_ofMaid 49 = .ok (.iload_n 1, 1) := by decide +kernel
theorem dX7_ofMaid_50 : decode cX7_ofMaid 50 = .ok (.iaload, 1) := by decide +kernel
theorem dX7_ofMaid_51 : decode cX7_ofMaid 51 = .ok (.ireturn, 1) := by decide +kernel
theorem dX7_ofMaid_52 : decode cX7_ofMaid 52 = .ok (.aload_n 0, 1) := by decide +kernel
theorem dX7_ofMaid_53 : decode cX7_ofMaid 53 = .ok (.getfield 92, 3) := by decide +kernel
theorem dX7_ofMaid_56 : decode cX7_ofMaid 56 = .ok (.getfield 117, 3) := by decide +kernel
theorem dX7_ofMaid_59 : decode cX7_ofMaid 59 = .ok (.iload_n 1, 1) := by decide +kernel
theorem dX7_ofMaid_60 : decode cX7_ofMaid 60 = .ok (.iaload, 1) := by decide +kernel
theorem dX7_ofMaid_61 : decode cX7_ofMaid 61 = .ok (.aload_n 0, 1) := by decide +kernel
theorem dX7_ofMaid_62 : decode cX7_ofMaid 62 = .ok (.getfield 92, 3) := by decide +kernel
theorem dX7_ofMaid_65 : decode cX7_ofMaid 65 = .ok (.getfield 120, 3) := by decide +kernel
theorem dX7_ofMaid_68 : decode cX7_ofMaid 68 = .ok (.iload_n 1, 1) := by decide +kernel
theorem dX7_ofMaid_69 : decode cX7_ofMaid 69 = .ok (.iaload, 1) := by decide +kernel
theorem dX7_ofMaid_70 : decode cX7_ofMaid 70 = .ok (.invokestatic 169, 3) := by decide +kernel
theorem dX7_ofMaid_73 : decode cX7_ofMaid 73 = .ok (.ireturn, 1) := by decide +kernel
theorem dX7_ofMaid_74 : decode cX7_ofMaid 74 = .ok (.aload_n 0, 1) := by decide +kernel
theorem dX7_ofMaid_75 : decode cX7_ofMaid 75 = .ok (.getfield 92, 3) := by decide +kernel
theorem dX7_ofMaid_78 : decode cX7_ofMaid 78 = .ok (.getfield 117, 3) := by decide +kernel
theorem dX7_ofMaid_81 : decode cX7_ofMaid 81 = .ok (.iload_n 1, 1) := by decide +kernel
theorem dX7_ofMaid_82 : decode cX7_ofMaid 82 = .ok (.iaload, 1) := by decide +kernel
theorem dX7_ofMaid_83 : decode cX7_ofMaid 83 = .ok (.aload_n 0, 1) := by decide +kernel
theorem dX7_ofMaid_84 : decode cX7_ofMaid 84 = .ok (.getfield 92, 3) := by decide +kernel
theorem dX7_ofMaid_87 : decode cX7_ofMaid 87 = .ok (.getfield 120, 3) := by decide +kernel
theorem dX7_ofMaid_90 : decode cX7_ofMaid 90 = .ok (.iload_n 1, 1) := by decide +kernel
theorem dX7_ofMaid_91 : decode cX7_ofMaid 91 = .ok (.iaload, 1) := by decide +kernel
theorem dX7_ofMaid_92 : decode cX7_ofMaid 92 = .ok (.invokestatic 172, 3) := by decide +kernel
theorem dX7_ofMaid_95 : decode cX7_ofMaid 95 = .ok (.ireturn, 1) := by decide +kernel
theorem dX7_ofMaid_96 : decode cX7_ofMaid 96 = .ok (.aload_n 0, 1) := by decide +kernel
theorem dX7_ofMaid_97 : decode cX7_ofMaid 97 = .ok (.getfield 92, 3) := by decide +kernel
theorem dX7_ofMaid_100 : decode cX7_ofMaid 100 = .ok (.iload_n 1, 1) := by decide +kernel
theorem dX7_ofMaid_101 : decode cX7_ofMaid 101 = .ok (.invokevirtual 175, 3) := by decide +kernel
theorem dX7_ofMaid_104 : decode cX7_ofMaid 104 = .ok (.ireturn, 1) := by decide +kernel
theorem dX7_ofMan_0 : decode cX7_ofMan 0 = .ok (.iload_n 2, 1) := by decide +kernel
theorem dX7_ofMan_1 : decode cX7_ofMan 1 = .ok (.iconst 5, 1) := by decide +kernel
theorem dX7_ofMan_2 : decode cX7_ofMan 2 = .ok (.if_icmp .ne 15, 3) := by decide +kernel
theorem dX7_ofMan_5 : decode cX7_ofMan 5 = .ok (.aload_n 0, 1) := by decide +kernel
theorem dX7_ofMan_6 : decode cX7_ofMan 6 = .ok (.getfield 92, 3) := by decide +kernel
theorem dX7_ofMan_9 : decode cX7_ofMan 9 = .ok (.getfield 109, 3) := by decide +kernel
theorem dX7_ofMan_12 : decode cX7_ofMan 12 = .ok (.iload_n 1, 1) := by decide +kernel
theorem dX7_ofMan_13 : decode cX7_ofMan 13 = .ok (.iaload, 1) := by decide +kernel
theorem dX7_ofMan_14 : decode cX7_ofMan 14 = .ok (.goto 12, 3) := by decide +kernel
theorem dX7_ofMan_17 : decode cX7_ofMan 17 = .ok (.aload_n 0, 1) := by decide +kernel
theorem dX7_ofMan_18 : decode cX7_ofMan 18 = .ok (.getfield 92, 3) := by decide +kernel
theorem dX7_ofMan_21 : decode cX7_ofMan 21 = .ok (.getfield 178, 3) := by decide +kernel
theorem dX7_ofMan_24 : decode cX7_ofMan 24 = .ok (.iload_n 1, 1) := by decide +kernel
theorem dX7_ofMan_25 : decode cX7_ofMan 25 = .ok (.iaload, 1) := by decide +kernel
theorem dX7_ofMan_26 : decode cX7_ofMan 26 = .ok (.ireturn, 1) := by decide +kernel
theorem dX7_feed_0 : decode cX7_feed 0 = .ok (.iload_n 1, 1) := by decide +kernel
theorem dX7_feed_1 : decode cX7_feed 1 = .ok (.iconst 0, 1) := by decide +kernel
theorem dX7_feed_2 : decode cX7_feed 2 = .ok (.sipush 255, 3) := by decide +kernel
theorem dX7_feed_5 : decode cX7_feed 5 = .ok (.invokestatic 102, 3) := by decide +kernel
theorem dX7_feed_8 : decode cX7_feed 8 = .ok (.ifCond .ne 6, 3) := by decide +kernel
theorem dX7_feed_11 : decode cX7_feed 11 = .ok (.bipush (-2), 2) := by decide +kernel
theorem dX7_feed_13 : decode cX7_feed 13 = .ok (.ireturn, 1) := by decide +kernel
theorem dX7_feed_14 : decode cX7_feed 14 = .ok (.aload_n 0, 1) := by decide +kernel
theorem dX7_feed_15 : decode cX7_feed 15 = .ok (.getfield 10, 3) := by decide +kernel
theorem dX7_feed_18 : decode cX7_feed 18 = .ok (.iload_n 1, 1) := by decide +kernel
theorem dX7_feed_19 : decode cX7_feed 19 = .ok (.invokevirtual 66, 3) := by decide +kernel
theorem dX7_feed_22 : decode cX7_feed 22 = .ok (.ifCond .eq 13, 3) := by decide +kernel
theorem dX7_feed_25 : decode cX7_feed 25 = .ok (.aload_n 0, 1) := by decide +kernel
theorem dX7_feed_26 : decode cX7_feed 26 = .ok (.getfield 10, 3) := by decide +kernel
theorem dX7_feed_29 : decode cX7_feed 29 = .ok (.getfield 84, 3) := by decide +kernel
theorem dX7_feed_32 : decode cX7_feed 32 = .ok (.goto 5, 3) := by decide +kernel
theorem dX7_feed_35 : decode cX7_feed 35 = .ok (.bipush (-4), 2) := by decide +kernel
theorem dX7_feed_37 : decode cX7_feed 37 = .ok (.ireturn, 1) := by decide +kernel
theorem dX7_text_0 : decode cX7_text 0 = .ok (.aload_n 0, 1) := by decide +kernel
theorem dX7_text_1 : decode cX7_text 1 = .ok (.getfield 22, 3) := by decide +kernel
theorem dX7_text_4 : decode cX7_text 4 = .ok (.bipush 6, 2) := by decide +kernel
theorem dX7_text_6 : decode cX7_text 6 = .ok (.if_icmp .lt 6, 3) := by decide +kernel
theorem dX7_text_9 : decode cX7_text 9 = .ok (.bipush (-4), 2) := by decide +kernel
theorem dX7_text_11 : decode cX7_text 11 = .ok (.ireturn, 1) := by decide +kernel
theorem dX7_text_12 : decode cX7_text 12 = .ok (.aload_n 0, 1) := by decide +kernel
theorem dX7_text_13 : decode cX7_text 13 = .ok (.getfield 10, 3) := by decide +kernel
theorem dX7_text_16 : decode cX7_text 16 = .ok (.invokevirtual 70, 3) := by decide +kernel
theorem dX7_text_19 : decode cX7_text 19 = .ok (.istore_n 1, 1) := by decide +kernel
theorem dX7_text_20 : decode cX7_text 20 = .ok (.aload_n 0, 1) := by decide +kernel
theorem dX7_text_21 : decode cX7_text 21 = .ok (.getfield 10, 3) := by decide +kernel
theorem dX7_text_24 : decode cX7_text 24 = .ok (.iconst 0, 1) := by decide +kernel
theorem dX7_text_25 : decode cX7_text 25 = .ok (.putfield 84, 3) := by decide +kernel
theorem dX7_text_28 : decode cX7_text 28 = .ok (.iload_n 1, 1) := by decide +kernel
theorem dX7_text_29 : decode cX7_text 29 = .ok (.iconst (-1), 1) := by decide +kernel
theorem dX7_text_30 : decode cX7_text 30 = .ok (.if_icmp .eq 8, 3) := by decide +kernel
theorem dX7_text_33 : decode cX7_text 33 = .ok (.bipush (-100), 2) := by decide +kernel
theorem dX7_text_35 : decode cX7_text 35 = .ok (.iload_n 1, 1) := by decide +kernel
theorem dX7_text_36 : decode cX7_text 36 = .ok (.isub, 1) := by decide +kernel
theorem dX7_text_37 : decode cX7_text 37 = .ok (.ireturn, 1) := by decide +kernel
theorem dX7_text_38 : decode cX7_text 38 = .ok (.aload_n 0, 1) := by decide +kernel
theorem dX7_text_39 : decode cX7_text 39 = .ok (.getfield 18, 3) := by decide +kernel
theorem dX7_text_42 : decode cX7_text 42 = .ok (.aload_n 0, 1) := by decide +kernel
theorem dX7_text_43 : decode cX7_text 43 = .ok (.getfield 22, 3) := by decide +kernel
theorem dX7_text_46 : decode cX7_text 46 = .ok (.aaload, 1) := by decide +kernel
theorem dX7_text_47 : decode cX7_text 47 = .ok (.aload_n 0, 1) := by decide +kernel
theorem dX7_text_48 : decode cX7_text 48 = .ok (.getfield 10, 3) := by decide +kernel
theorem dX7_text_51 : decode cX7_text 51 = .ok (.getfield 73, 3) := by decide +kernel
theorem dX7_text_54 : decode cX7_text 54 = .ok (.aload_n 0, 1) := by decide +kernel
theorem dX7_text_55 : decode cX7_text 55 = .ok (.getfield 10, 3) := by decide +kernel
theorem dX7_text_58 : decode cX7_text 58 = .ok (.getfield 77, 3) := by decide +kernel
theorem dX7_text_61 : decode cX7_text 61 = .ok (.invokevirtual 80, 3) := by decide +kernel
theorem dX7_text_64 : decode cX7_text 64 = .ok (.aload_n 0, 1) := by decide +kernel
theorem dX7_text_65 : decode cX7_text 65 = .ok (.dup, 1) := by decide +kernel
theorem dX7_text_66 : decode cX7_text 66 = .ok (.getfield 22, 3) := by decide +kernel
theorem dX7_text_69 : decode cX7_text 69 = .ok (.iconst 1, 1) := by decide +kernel
theorem dX7_text_70 : decode cX7_text 70 = .ok (.iadd, 1) := by decide +kernel
theorem dX7_text_71 : decode cX7_text 71 = .ok (.putfield 22, 3) := by decide +kernel
theorem dX7_text_74 : decode cX7_text 74 = .ok (.aload_n 0, 1) := by decide +kernel
theorem dX7_text_75 : decode cX7_text 75 = .ok (.getfield 22, 3) := by decide +kernel
theorem dX7_text_78 : decode cX7_text 78 = .ok (.iconst 1, 1) := by decide +kernel
theorem dX7_text_79 : decode cX7_text 79 = .ok (.isub, 1) := by decide +kernel
theorem dX7_text_80 : decode cX7_text 80 = .ok (.ireturn, 1) := by decide +kernel
theorem dX7_force_0 : decode cX7_force 0 = .ok (.iload_n 1, 1) := by decide +kernel
theorem dX7_force_1 : decode cX7_force 1 = .ok (.iconst 0, 1) := by decide +kernel
theorem dX7_force_2 : decode cX7_force 2 = .ok (.aload_n 0, 1) := by decide +kernel
theorem dX7_force_3 : decode cX7_force 3 = .ok (.getfield 22, 3) := by decide +kernel
theorem dX7_force_6 : decode cX7_force 6 = .ok (.iconst 1, 1) := by decide +kernel
theorem dX7_force_7 : decode cX7_force 7 = .ok (.isub, 1) := by decide +kernel
theorem dX7_force_8 : decode cX7_force 8 = .ok (.invokestatic 102, 3) := by decide +kernel
theorem dX7_force_11 : decode cX7_force 11 = .ok (.ifCond .ne 6, 3) := by decide +kernel
theorem dX7_force_14 : decode cX7_force 14 = .ok (.bipush (-2), 2) := by decide +kernel
theorem dX7_force_16 : decode cX7_force 16 = .ok (.ireturn, 1) := by decide +kernel
theorem dX7_force_17 : decode cX7_force 17 = .ok (.aload_n 0, 1) := by decide +kernel
theorem dX7_force_18 : decode cX7_force 18 = .ok (.getfield 92, 3) := by decide +kernel
theorem dX7_force_21 : decode cX7_force 21 = .ok (.getfield 181, 3) := by decide +kernel
theorem dX7_force_24 : decode cX7_force 24 = .ok (.getfield 185, 3) := by decide +kernel
theorem dX7_force_27 : decode cX7_force 27 = .ok (.istore_n 2, 1) := by decide +kernel
theorem dX7_force_28 : decode cX7_force 28 = .ok (.aload_n 0, 1) := by decide +kernel
theorem dX7_force_29 : decode cX7_force 29 = .ok (.getfield 92, 3) := by decide +kernel
theorem dX7_force_32 : decode cX7_force 32 = .ok (.aload_n 0, 1) := by decide +kernel
theorem dX7_force_33 : decode cX7_force 33 = .ok (.getfield 18, 3) := by decide +kernel
theorem dX7_force_36 : decode cX7_force 36 = .ok (.iload_n 1, 1) := by decide +kernel
theorem dX7_force_37 : decode cX7_force 37 = .ok (.aaload, 1) := by decide +kernel
theorem dX7_force_38 : decode cX7_force 38 = .ok (.putfield 181, 3) := by decide +kernel
theorem dX7_force_41 : decode cX7_force 41 = .ok (.iload_n 2, 1) := by decide +kernel
theorem dX7_force_42 : decode cX7_force 42 = .ok (.ireturn, 1) := by decide +kernel
theorem dX7_ask_0 : decode cX7_ask 0 = .ok (.aload_n 0, 1) := by decide +kernel
theorem dX7_ask_1 : decode cX7_ask 1 = .ok (.iload_n 1, 1) := by decide +kernel
theorem dX7_ask_2 : decode cX7_ask 2 = .ok (.iload_n 2, 1) := by decide +kernel
theorem dX7_ask_3 : decode cX7_ask 3 = .ok (.invokevirtual 123, 3) := by decide +kernel
theorem dX7_ask_6 : decode cX7_ask 6 = .ok (.ifCond .ne 6, 3) := by decide +kernel
theorem dX7_ask_9 : decode cX7_ask 9 = .ok (.bipush (-2), 2) := by decide +kernel
theorem dX7_ask_11 : decode cX7_ask 11 = .ok (.ireturn, 1) := by decide +kernel
theorem dX7_ask_12 : decode cX7_ask 12 = .ok (.aload_n 0, 1) := by decide +kernel
theorem dX7_ask_13 : decode cX7_ask 13 = .ok (.getfield 92, 3) := by decide +kernel
theorem dX7_ask_16 : decode cX7_ask 16 = .ok (.iload_n 1, 1) := by decide +kernel
theorem dX7_ask_17 : decode cX7_ask 17 = .ok (.iload_n 2, 1) := by decide +kernel
theorem dX7_ask_18 : decode cX7_ask 18 = .ok (.invokevirtual 151, 3) := by decide +kernel
theorem dX7_ask_21 : decode cX7_ask 21 = .ok (.ifCond .ne 6, 3) := by decide +kernel
theorem dX7_ask_24 : decode cX7_ask 24 = .ok (.bipush (-3), 2) := by decide +kernel
theorem dX7_ask_26 : decode cX7_ask 26 = .ok (.ireturn, 1) := by decide +kernel
theorem dX7_ask_27 : decode cX7_ask 27 = .ok (.aload_n 0, 1) := by decide +kernel
theorem dX7_ask_28 : decode cX7_ask 28 = .ok (.getfield 92, 3) := by decide +kernel
theorem dX7_ask_31 : decode cX7_ask 31 = .ok (.iload_n 1, 1) := by decide +kernel
theorem dX7_ask_32 : decode cX7_ask 32 = .ok (.iload_n 2, 1) := by decide +kernel
theorem dX7_ask_33 : decode cX7_ask 33 = .ok (.invokevirtual 187, 3) := by decide +kernel
theorem dX7_ask_36 : decode cX7_ask 36 = .ok (.ifCond .eq 7, 3) := by decide +kernel
theorem dX7_ask_39 : decode cX7_ask 39 = .ok (.iconst 1, 1) := by decide +kernel
theorem dX7_ask_40 : decode cX7_ask 40 = .ok (.goto 4, 3) := by decide +kernel
theorem dX7_ask_43 : decode cX7_ask 43 = .ok (.iconst 0, 1) := by decide +kernel
theorem dX7_ask_44 : decode cX7_ask 44 = .ok (.ireturn, 1) := by decide +kernel
theorem dX7_part_0 : decode cX7_part 0 = .ok (.aload_n 0, 1) := by decide +kernel
theorem dX7_part_1 : decode cX7_part 1 = .ok (.iload_n 1, 1) := by decide +kernel
theorem dX7_part_2 : decode cX7_part 2 = .ok (.invokevirtual 141, 3) := by decide +kernel
theorem dX7_part_5 : decode cX7_part 5 = .ok (.ifCond .ne 6, 3) := by decide +kernel
theorem dX7_part_8 : decode cX7_part 8 = .ok (.bipush (-2), 2) := by decide +kernel
theorem dX7_part_10 : decode cX7_part 10 = .ok (.ireturn, 1) := by decide +kernel
theorem dX7_part_11 : decode cX7_part 11 = .ok (.aload_n 0, 1) := by decide +kernel
theorem dX7_part_12 : decode cX7_part 12 = .ok (.getfield 92, 3) := by decide +kernel
theorem dX7_part_15 : decode cX7_part 15 = .ok (.getfield 178, 3) := by decide +kernel
theorem dX7_part_18 : decode cX7_part 18 = .ok (.iload_n 1, 1) := by decide +kernel
theorem dX7_part_19 : decode cX7_part 19 = .ok (.iaload, 1) := by decide +kernel
theorem dX7_part_20 : decode cX7_part 20 = .ok (.iconst (-1), 1) := by decide +kernel
theorem dX7_part_21 : decode cX7_part 21 = .ok (.if_icmp .ne 8, 3) := by decide +kernel
theorem dX7_part_24 : decode cX7_part 24 = .ok (.bipush (-3), 2) := by decide +kernel
theorem dX7_part_26 : decode cX7_part 26 = .ok (.goto 15, 3) := by decide +kernel
theorem dX7_part_29 : decode cX7_part 29 = .ok (.aload_n 0, 1) := by decide +kernel
theorem dX7_part_30 : decode cX7_part 30 = .ok (.getfield 92, 3) := by decide +kernel
theorem dX7_part_33 : decode cX7_part 33 = .ok (.getfield 178, 3) := by decide +kernel
theorem dX7_part_36 : decode cX7_part 36 = .ok (.iload_n 1, 1) := by decide +kernel
theorem dX7_part_37 : decode cX7_part 37 = .ok (.iconst (-1), 1) := by decide +kernel
theorem dX7_part_38 : decode cX7_part 38 = .ok (.invokestatic 137, 3) := by decide +kernel
theorem dX7_part_41 : decode cX7_part 41 = .ok (.ireturn, 1) := by decide +kernel
theorem dX7_way_0 : decode cX7_way 0 = .ok (.aload_n 0, 1) := by decide +kernel
theorem dX7_way_1 : decode cX7_way 1 = .ok (.iload_n 1, 1) := by decide +kernel
theorem dX7_way_2 : decode cX7_way 2 = .ok (.iload_n 2, 1) := by decide +kernel
theorem dX7_way_3 : decode cX7_way 3 = .ok (.invokevirtual 123, 3) := by decide +kernel
theorem dX7_way_6 : decode cX7_way 6 = .ok (.ifCond .eq 22, 3) := by decide +kernel
theorem dX7_way_9 : decode cX7_way 9 = .ok (.iload_n 3, 1) := by decide +kernel
theorem dX7_way_10 : decode cX7_way 10 = .ok (.iconst 0, 1) := by decide +kernel
theorem dX7_way_11 : decode cX7_way 11 = .ok (.iconst 1, 1) := by decide +kernel
theorem dX7_way_12 : decode cX7_way 12 = .ok (.invokestatic 102, 3) := by decide +kernel
theorem dX7_way_15 : decode cX7_way 15 = .ok (.ifCond .eq 13, 3) := by decide +kernel
theorem dX7_way_18 : decode cX7_way 18 = .ok (.iload 4, 2) := by decide +kernel
theorem dX7_way_20 : decode cX7_way 20 = .ok (.iconst 0, 1) := by decide +kernel
theorem dX7_way_21 : decode cX7_way 21 = .ok (.iconst 5, 1) := by decide +kernel
theorem dX7_way_22 : decode cX7_way 22 = .ok (.invokestatic 102, 3) := by decide +kernel
theorem dX7_way_25 : decode cX7_way 25 = .ok (.ifCond .ne 6, 3) := by decide +kernel
theorem dX7_way_28 : decode cX7_way 28 = .ok (.bipush (-2), 2) := by decide +kernel
theorem dX7_way_30 : decode cX7_way 30 = .ok (.ireturn, 1) := by decide +kernel
theorem dX7_way_31 : decode cX7_way 31 = .ok (.aload_n 0, 1) := by decide +kernel
theorem dX7_way_32 : decode cX7_way 32 = .ok (.getfield 96, 3) := by decide +kernel
theorem dX7_way_35 : decode cX7_way 35 = .ok (.aload_n 0, 1) := by decide +kernel
theorem dX7_way_36 : decode cX7_way 36 = .ok (.getfield 92, 3) := by decide +kernel
theorem dX7_way_39 : decode cX7_way 39 = .ok (.invokevirtual 190, 3) := by decide +kernel
theorem dX7_way_42 : decode cX7_way 42 = .ok (.aload_n 0, 1) := by decide +kernel
theorem dX7_way_43 : decode cX7_way 43 = .ok (.getfield 40, 3) := by decide +kernel
theorem dX7_way_46 : decode cX7_way 46 = .ok (.aload_n 0, 1) := by decide +kernel
theorem dX7_way_47 : decode cX7_way 47 = .ok (.getfield 96, 3) := by decide +kernel
theorem dX7_way_50 : decode cX7_way 50 = .ok (.iload_n 1, 1) := by decide +kernel
theorem dX7_way_51 : decode cX7_way 51 = .ok (.iload_n 2, 1) := by decide +kernel
theorem dX7_way_52 : decode cX7_way 52 = .ok (.iload_n 3, 1) := by decide +kernel
theorem dX7_way_53 : decode cX7_way 53 = .ok (.invokevirtual 194, 3) := by decide +kernel
theorem dX7_way_56 : decode cX7_way 56 = .ok (.aload_n 0, 1) := by decide +kernel
theorem dX7_way_57 : decode cX7_way 57 = .ok (.getfield 40, 3) := by decide +kernel
theorem dX7_way_60 : decode cX7_way 60 = .ok (.getfield 198, 3) := by decide +kernel
theorem dX7_way_63 : decode cX7_way 63 = .ok (.ifCond .ne 5, 3) := by decide +kernel
theorem dX7_way_66 : decode cX7_way 66 = .ok (.iconst (-1), 1) := by decide +kernel
theorem dX7_way_67 : decode cX7_way 67 = .ok (.ireturn, 1) := by decide +kernel
theorem dX7_way_68 : decode cX7_way 68 = .ok (.iload 4, 2) := by decide +kernel
theorem dX7_way_70 : decode cX7_way 70 = .ok (.lookupswitch 42 #[(0, 26), (1, 34)], 26) := by decide +kernel
theorem dX7_way_96 : decode cX7_way 96 = .ok (.aload_n 0, 1) := by decide +kernel
theorem dX7_way_97 : decode cX7_way 97 = .ok (.getfield 40, 3) := by decide +kernel
theorem dX7_way_100 : decode cX7_way 100 = .ok (.getfield 201, 3) := by decide +kernel
theorem dX7_way_103 : decode cX7_way 103 = .ok (.ireturn, 1) := by decide +kernel
theorem dX7_way_104 : decode cX7_way 104 = .ok (.aload_n 0, 1) := by decide +kernel
theorem dX7_way_105 : decode cX7_way 105 = .ok (.getfield 40, 3) := by decide +kernel
theorem dX7_way_108 : decode cX7_way 108 = .ok (.getfield 203, 3) := by decide +kernel
theorem dX7_way_111 : decode cX7_way 111 = .ok (.ireturn, 1) := by decide +kernel
theorem dX7_way_112 : decode cX7_way 112 = .ok (.iload 4, 2) := by decide +kernel
theorem dX7_way_114 : decode cX7_way 114 = .ok (.iconst 2, 1) := by decide +kernel
theorem dX7_way_115 : decode cX7_way 115 = .ok (.isub, 1) := by decide +kernel
theorem dX7_way_116 : decode cX7_way 116 = .ok (.aload_n 0, 1) := by decide +kernel
theorem dX7_way_117 : decode cX7_way 117 = .ok (.getfield 40, 3) := by decide +kernel
theorem dX7_way_120 : decode cX7_way 120 = .ok (.getfield 201, 3) := by decide +kernel
theorem dX7_way_123 : decode cX7_way 123 = .ok (.if_icmp .ge 18, 3) := by decide +kernel
theorem dX7_way_126 : decode cX7_way 126 = .ok (.aload_n 0, 1) := by decide +kernel
theorem dX7_way_127 : decode cX7_way 127 = .ok (.getfield 40, 3) := by decide +kernel
theorem dX7_way_130 : decode cX7_way 130 = .ok (.getfield 206, 3) := by decide +kernel
theorem dX7_way_133 : decode cX7_way 133 = .ok (.iload 4, 2) := by decide +kernel
theorem dX7_way_135 : decode cX7_way 135 = .ok (.iconst 2, 1) := by decide +kernel
theorem dX7_way_136 : decode cX7_way 136 = .ok (.isub, 1) := by decide +kernel
theorem dX7_way_137 : decode cX7_way 137 = .ok (.iaload, 1) := by decide +kernel
theorem dX7_way_138 : decode cX7_way 138 = .ok (.goto 4, 3) := by decide +kernel
theorem dX7_way_141 : decode cX7_way 141 = .ok (.iconst (-1), 1) := by decide +kernel
theorem dX7_way_142 : decode cX7_way 142 = .ok (.ireturn, 1) := by decide +kernel
theorem dX7_mistake_0 : decode cX7_mistake 0 = .ok (.aload_n 0, 1) := by decide +kernel
theorem dX7_mistake_1 : decode cX7_mistake 1 = .ok (.iload_n 1, 1) := by decide +kernel
theorem dX7_mistake_2 : decode cX7_mistake 2 = .ok (.invokevirtual 141, 3) := by decide +kernel
theorem dX7_mistake_5 : decode cX7_mistake 5 = .ok (.ifCond .ne 6, 3) := by decide +kernel
theorem dX7_mistake_8 : decode cX7_mistake 8 = .ok (.bipush (-2), 2) := by decide +kernel
theorem dX7_mistake_10 : decode cX7_mistake 10 = .ok (.ireturn, 1) := by decide +kernel
theorem dX7_mistake_11 : decode cX7_mistake 11 = .ok (.iconst (-1), 1) := by decide +kernel
theorem dX7_mistake_12 : decode cX7_mistake 12 = .ok (.istore_n 2, 1) := by decide +kernel
theorem dX7_mistake_13 : decode cX7_mistake 13 = .ok (.iconst 0, 1) := by decide +kernel
theorem dX7_mistake_14 : decode cX7_mistake 14 = .ok (.istore_n 3, 1) := by decide +kernel
theorem dX7_mistake_15 : decode cX7_mistake 15 = .ok (.iload_n 3, 1) := by decide +kernel
theorem dX7_mistake_16 : decode cX7_mistake 16 = .ok (.aload_n 0, 1) := by decide +kernel
theorem dX7_mistake_17 : decode cX7_mistake 17 = .ok (.getfield 92, 3) := by decide +kernel
theorem dX7_mistake_20 : decode cX7_mistake 20 = .ok (.getfield 114, 3) := by decide +kernel
theorem dX7_mistake_23 : decode cX7_mistake 23 = .ok (.if_icmp .ge 69, 3) := by decide +kernel
theorem dX7_mistake_26 : decode cX7_mistake 26 = .ok (.aload_n 0, 1) := by decide +kernel
theorem dX7_mistake_27 : decode cX7_mistake 27 = .ok (.getfield 92, 3) := by decide +kernel
theorem dX7_mistake_30 : decode cX7_mistake 30 = .ok (.iload_n 1, 1) := by decide +kernel
theorem dX7_mistake_31 : decode cX7_mistake 31 = .ok (.iload_n 3, 1) := by decide +kernel
theorem dX7_mistake_32 : decode cX7_mistake 32 = .ok (.invokevirtual 151, 3) := by decide +kernel
theorem dX7_mistake_35 : decode cX7_mistake 35 = .ok (.ifCond .eq 51, 3) := by decide +kernel
theorem dX7_mistake_38 : decode cX7_mistake 38 = .ok (.aload_n 0, 1) := by decide +kernel
theorem dX7_mistake_39 : decode cX7_mistake 39 = .ok (.getfield 92, 3) := by decide +kernel
theorem dX7_mistake_42 : decode cX7_mistake 42 = .ok (.iload_n 1, 1) := by decide +kernel
theorem dX7_mistake_43 : decode cX7_mistake 43 = .ok (.iload_n 3, 1) := by decide +kernel
theorem dX7_mistake_44 : decode cX7_mistake 44 = .ok (.invokevirtual 154, 3) := by decide +kernel
theorem dX7_mistake_47 : decode cX7_mistake 47 = .ok (.ifCond .ne 39, 3) := by decide +kernel
theorem dX7_mistake_50 : decode cX7_mistake 50 = .ok (.iload_n 2, 1) := by decide +kernel
theorem dX7_mistake_51 : decode cX7_mistake 51 = .ok (.iconst (-1), 1) := by decide +kernel
theorem dX7_mistake_52 : decode cX7_mistake 52 = .ok (.if_icmp .eq 32, 3) := by decide +kernel
theorem dX7_mistake_55 : decode cX7_mistake 55 = .ok (.aload_n 0, 1) := by decide +kernel
theorem dX7_mistake_56 : decode cX7_mistake 56 = .ok (.getfield 92, 3) := by decide +kernel
theorem dX7_mistake_59 : decode cX7_mistake 59 = .ok (.getfield 127, 3) := by decide +kernel
theorem dX7_mistake_62 : decode cX7_mistake 62 = .ok (.iload_n 1, 1) := by decide +kernel
theorem dX7_mistake_63 : decode cX7_mistake 63 = .ok (.iload_n 3, 1) := by decide +kernel
theorem dX7_mistake_64 : decode cX7_mistake 64 = .ok (.invokestatic 133, 3) := by decide +kernel
theorem dX7_mistake_67 : decode cX7_mistake 67 = .ok (.iaload, 1) := by decide +kernel
theorem dX7_mistake_68 : decode cX7_mistake 68 = .ok (.aload_n 0, 1) := by decide +kernel
theorem dX7_mistake_69 : decode cX7_mistake 69 = .ok (.getfield 92, 3) := by decide +kernel
theorem dX7_mistake_72 : decode cX7_mistake 72 = .ok (.getfield 127, 3) := by decide +kernel
theorem dX7_mistake_75 : decode cX7_mistake 75 = .ok (.iload_n 1, 1) := by decide +kernel
theorem dX7_mistake_76 : decode cX7_mistake 76 = .ok (.iload_n 2, 1) := by decide +kernel
theorem dX7_mistake_77 : decode cX7_mistake 77 = .ok (.invokestatic 133, 3) := by decide +kernel
theorem dX7_mistake_80 : decode cX7_mistake 80 = .ok (.iaload, 1) := by decide +kernel
theorem dX7_mistake_81 : decode cX7_mistake 81 = .ok (.if_icmp .ge 5, 3) := by decide +kernel
theorem dX7_mistake_84 : decode cX7_mistake 84 = .ok (.iload_n 3, 1) := by decide +kernel
theorem dX7_mistake_85 : decode cX7_mistake 85 = .ok (.istore_n 2, 1) := by decide +kernel
theorem dX7_mistake_86 : decode cX7_mistake 86 = .ok (.iinc 3 1, 3) := by decide +kernel
theorem dX7_mistake_89 : decode cX7_mistake 89 = .ok (.goto (-74), 3) := by decide +kernel
theorem dX7_mistake_92 : decode cX7_mistake 92 = .ok (.iload_n 2, 1) := by decide +kernel
theorem dX7_mistake_93 : decode cX7_mistake 93 = .ok (.ireturn, 1) := by decide +kernel
theorem dX7_sure_0 : decode cX7_sure 0 = .ok (.aload_n 0, 1) := by decide +kernel
theorem dX7_sure_1 : decode cX7_sure 1 = .ok (.iload_n 1, 1) := by decide +kernel
theorem dX7_sure_2 : decode cX7_sure 2 = .ok (.invokevirtual 141, 3) := by decide +kernel
theorem dX7_sure_5 : decode cX7_sure 5 = .ok (.ifCond .ne 6, 3) := by decide +kernel
theorem dX7_sure_8 : decode cX7_sure 8 = .ok (.bipush (-2), 2) := by decide +kernel
theorem dX7_sure_10 : decode cX7_sure 10 = .ok (.ireturn, 1) := by decide +kernel
theorem dX7_sure_11 : decode cX7_sure 11 = .ok (.aload_n 0, 1) := by decide +kernel
theorem dX7_sure_12 : decode cX7_sure 12 = .ok (.getfield 96, 3) := by decide +kernel
theorem dX7_sure_15 : decode cX7_sure 15 = .ok (.aload_n 0, 1) := by decide +kernel
theorem dX7_sure_16 : decode cX7_sure 16 = .ok (.getfield 92, 3) := by decide +kernel
theorem dX7_sure_19 : decode cX7_sure 19 = .ok (.invokevirtual 190, 3) := by decide +kernel
theorem dX7_sure_22 : decode cX7_sure 22 = .ok (.iconst 0, 1) := by decide +kernel
theorem dX7_sure_23 : decode cX7_sure 23 = .ok (.istore_n 2, 1) := by decide +kernel
theorem dX7_sure_24 : decode cX7_sure 24 = .ok (.iconst 0, 1) := by decide +kernel
theorem dX7_sure_25 : decode cX7_sure 25 = .ok (.istore_n 3, 1) := by decide +kernel
theorem dX7_sure_26 : decode cX7_sure 26 = .ok (.iload_n 3, 1) := by decide +kernel
theorem dX7_sure_27 : decode cX7_sure 27 = .ok (.aload_n 0, 1) := by decide +kernel
theorem dX7_sure_28 : decode cX7_sure 28 = .ok (.getfield 92, 3) := by decide +kernel
theorem dX7_sure_31 : decode cX7_sure 31 = .ok (.getfield 114, 3) := by decide +kernel
theorem dX7_sure_34 : decode cX7_sure 34 = .ok (.if_icmp .ge 36, 3) := by decide +kernel
theorem dX7_sure_37 : decode cX7_sure 37 = .ok (.aload_n 0, 1) := by decide +kernel
theorem dX7_sure_38 : decode cX7_sure 38 = .ok (.getfield 92, 3) := by decide +kernel
theorem dX7_sure_41 : decode cX7_sure 41 = .ok (.iload_n 1, 1) := by decide +kernel
theorem dX7_sure_42 : decode cX7_sure 42 = .ok (.iload_n 3, 1) := by decide +kernel
theorem dX7_sure_43 : decode cX7_sure 43 = .ok (.invokevirtual 151, 3) := by decide +kernel
theorem dX7_sure_46 : decode cX7_sure 46 = .ok (.ifCond .eq 18, 3) := by decide +kernel
theorem dX7_sure_49 : decode cX7_sure 49 = .ok (.aload_n 0, 1) := by decide +kernel
theorem dX7_sure_50 : decode cX7_sure 50 = .ok (.iload_n 1, 1) := by decide +kernel
theorem dX7_sure_51 : decode cX7_sure 51 = .ok (.iload_n 3, 1) := by decide +kernel
theorem dX7_sure_52 : decode cX7_sure 52 = .ok (.invokevirtual 209, 3) := by decide +kernel
theorem dX7_sure_55 : decode cX7_sure 55 = .ok (.ifCond .eq 9, 3) := by decide +kernel
theorem dX7_sure_58 : decode cX7_sure 58 = .ok (.iload_n 2, 1) := by decide +kernel
theorem dX7_sure_59 : decode cX7_sure 59 = .ok (.iconst 1, 1) := by decide +kernel
theorem dX7_sure_60 : decode cX7_sure 60 = .ok (.iload_n 3, 1) := by decide +kernel
theorem dX7_sure_61 : decode cX7_sure 61 = .ok (.ishl, 1) := by decide +kernel
theorem dX7_sure_62 : decode cX7_sure 62 = .ok (.ior, 1) := by decide +kernel
theorem dX7_sure_63 : decode cX7_sure 63 = .ok (.istore_n 2, 1) := by decide +kernel
theorem dX7_sure_64 : decode cX7_sure 64 = .ok (.iinc 3 1, 3) := by decide +kernel
theorem dX7_sure_67 : decode cX7_sure 67 = .ok (.goto (-41), 3) := by decide +kernel
theorem dX7_sure_70 : decode cX7_sure 70 = .ok (.iload_n 2, 1) := by decide +kernel
theorem dX7_sure_71 : decode cX7_sure 71 = .ok (.ireturn, 1) := by decide +kernel
theorem dX7_refusesFromNowOn_0 : decode cX7_refusesFromNowOn 0 = .ok (.aload_n 0, 1) := by decide +kernel
theorem dX7_refusesFromNowOn_1 : decode cX7_refusesFromNowOn 1 = .ok (.getfield 92, 3) := by decide +kernel
theorem dX7_refusesFromNowOn_4 : decode cX7_refusesFromNowOn 4 = .ok (.getfield 109, 3) := by decide +kernel
theorem dX7_refusesFromNowOn_7 : decode cX7_refusesFromNowOn 7 = .ok (.iload_n 1, 1) := by decide +kernel
theorem dX7_refusesFromNowOn_8 : decode cX7_refusesFromNowOn 8 = .ok (.iaload, 1) := by decide +kernel
theorem dX7_refusesFromNowOn_9 : decode cX7_refusesFromNowOn 9 = .ok (.istore_n 3, 1) := by decide +kernel
theorem dX7_refusesFromNowOn_10 : decode cX7_refusesFromNowOn 10 = .ok (.iload_n 3, 1) := by decide +kernel
theorem dX7_refusesFromNowOn_11 : decode cX7_refusesFromNowOn 11 = .ok (.bipush 9, 2) := by decide +kernel
theorem dX7_refusesFromNowOn_13 : decode cX7_refusesFromNowOn 13 = .ok (.if_icmp .gt 33, 3) := by decide +kernel
theorem dX7_refusesFromNowOn_16 : decode cX7_refusesFromNowOn 16 = .ok (.aload_n 0, 1) := by decide +kernel
theorem dX7_refusesFromNowOn_17 : decode cX7_refusesFromNowOn 17 = .ok (.getfield 96, 3) := by decide +kernel
theorem dX7_refusesFromNowOn_20 : decode cX7_refusesFromNowOn 20 = .ok (.getfield 109, 3) := by decide +kernel
theorem dX7_refusesFromNowOn_23 : decode cX7_refusesFromNowOn 23 = .ok (.iload_n 1, 1) := by decide +kernel
theorem dX7_refusesFromNowOn_24 : decode cX7_refusesFromNowOn 24 = .ok (.iload_n 3, 1) := by decide +kernel
theorem dX7_refusesFromNowOn_25 : decode cX7_refusesFromNowOn 25 = .ok (.iastore, 1) := by decide +kernel
theorem dX7_refusesFromNowOn_26 : decode cX7_refusesFromNowOn 26 = .ok (.aload_n 0, 1) := by decide +kernel
theorem dX7_refusesFromNowOn_27 : decode cX7_refusesFromNowOn 27 = .ok (.getfield 96, 3) := by decide +kernel
theorem dX7_refusesFromNowOn_30 : decode cX7_refusesFromNowOn 30 = .ok (.iload_n 1, 1) := by decide +kernel
theorem dX7_refusesFromNowOn_31 : decode cX7_refusesFromNowOn 31 = .ok (.iload_n 2, 1) := by decide +kernel
theorem dX7_refusesFromNowOn_32 : decode cX7_refusesFromNowOn 32 = .ok (.invokevirtual 154, 3) := by decide +kernel
theorem dX7_refusesFromNowOn_35 : decode cX7_refusesFromNowOn 35 = .ok (.ifCond .ne 5, 3) := by decide +kernel
theorem dX7_refusesFromNowOn_38 : decode cX7_refusesFromNowOn 38 = .ok (.iconst 0, 1) := by decide +kernel
theorem dX7_refusesFromNowOn_39 : decode cX7_refusesFromNowOn 39 = .ok (.ireturn, 1) := by decide +kernel
theorem dX7_refusesFromNowOn_40 : decode cX7_refusesFromNowOn 40 = .ok (.iinc 3 1, 3) := by decide +kernel
theorem dX7_refusesFromNowOn_43 : decode cX7_refusesFromNowOn 43 = .ok (.goto (-33), 3) := by decide +kernel
theorem dX7_refusesFromNowOn_46 : decode cX7_refusesFromNowOn 46 = .ok (.iconst 1, 1) := by decide +kernel
theorem dX7_refusesFromNowOn_47 : decode cX7_refusesFromNowOn 47 = .ok (.ireturn, 1) := by decide +kernel
theorem dX7_pairings_0 : decode cX7_pairings 0 = .ok (.iload_n 1, 1) := by decide +kernel
theorem dX7_pairings_1 : decode cX7_pairings 1 = .ok (.iconst 0, 1) := by decide +kernel
theorem dX7_pairings_2 : decode cX7_pairings 2 = .ok (.iconst 1, 1) := by decide +kernel
theorem dX7_pairings_3 : decode cX7_pairings 3 = .ok (.invokestatic 102, 3) := by decide +kernel
theorem dX7_pairings_6 : decode cX7_pairings 6 = .ok (.ifCond .ne 6, 3) := by decide +kernel
theorem dX7_pairings_9 : decode cX7_pairings 9 = .ok (.bipush (-2), 2) := by decide +kernel
theorem dX7_pairings_11 : decode cX7_pairings 11 = .ok (.ireturn, 1) := by decide +kernel
theorem dX7_pairings_12 : decode cX7_pairings 12 = .ok (.aload_n 0, 1) := by decide +kernel
theorem dX7_pairings_13 : decode cX7_pairings 13 = .ok (.getfield 33, 3) := by decide +kernel
theorem dX7_pairings_16 : decode cX7_pairings 16 = .ok (.aload_n 0, 1) := by decide +kernel
theorem dX7_pairings_17 : decode cX7_pairings 17 = .ok (.getfield 92, 3) := by decide +kernel
theorem dX7_pairings_20 : decode cX7_pairings 20 = .ok (.invokevirtual 212, 3) := by decide +kernel
theorem dX7_pairings_23 : decode cX7_pairings 23 = .ok (.aload_n 0, 1) := by decide +kernel
theorem dX7_pairings_24 : decode cX7_pairings 24 = .ok (.getfield 33, 3) := by decide +kernel
theorem dX7_pairings_27 : decode cX7_pairings 27 = .ok (.getfield 215, 3) := by decide +kernel
theorem dX7_pairings_30 : decode cX7_pairings 30 = .ok (.iload_n 1, 1) := by decide +kernel
theorem dX7_pairings_31 : decode cX7_pairings 31 = .ok (.iaload, 1) := by decide +kernel
theorem dX7_pairings_32 : decode cX7_pairings 32 = .ok (.ireturn, 1) := by decide +kernel
theorem dX7_best_0 : decode cX7_best 0 = .ok (.iload_n 1, 1) := by decide +kernel
theorem dX7_best_1 : decode cX7_best 1 = .ok (.iconst 0, 1) := by decide +kernel
theorem dX7_best_2 : decode cX7_best 2 = .ok (.iconst 1, 1) := by decide +kernel
theorem dX7_best_3 : decode cX7_best 3 = .ok (.invokestatic 102, 3) := by decide +kernel
theorem dX7_best_6 : decode cX7_best 6 = .ok (.ifCond .eq 16, 3) := by decide +kernel
theorem dX7_best_9 : decode cX7_best 9 = .ok (.iload_n 2, 1) := by decide +kernel
theorem dX7_best_10 : decode cX7_best 10 = .ok (.iconst (-1), 1) := by decide +kernel
theorem dX7_best_11 : decode cX7_best 11 = .ok (.if_icmp .eq 14, 3) := by decide +kernel
theorem dX7_best_14 : decode cX7_best 14 = .ok (.aload_n 0, 1) := by decide +kernel
theorem dX7_best_15 : decode cX7_best 15 = .ok (.iload_n 2, 1) := by decide +kernel
theorem dX7_best_16 : decode cX7_best 16 = .ok (.invokevirtual 141, 3) := by decide +kernel
theorem dX7_best_19 : decode cX7_best 19 = .ok (.ifCond .ne 6, 3) := by decide +kernel
theorem dX7_best_22 : decode cX7_best 22 = .ok (.bipush (-2), 2) := by decide +kernel
theorem dX7_best_24 : decode cX7_best 24 = .ok (.ireturn, 1) := by decide +kernel
theorem dX7_best_25 : decode cX7_best 25 = .ok (.aload_n 0, 1) := by decide +kernel
theorem dX7_best_26 : decode cX7_best 26 = .ok (.getfield 33, 3) := by decide +kernel
theorem dX7_best_29 : decode cX7_best 29 = .ok (.aload_n 0, 1) := by decide +kernel
theorem dX7_best_30 : decode cX7_best 30 = .ok (.getfield 92, 3) := by decide +kernel
theorem dX7_best_33 : decode cX7_best 33 = .ok (.invokevirtual 212, 3) := by decide +kernel
theorem dX7_best_36 : decode cX7_best 36 = .ok (.aload_n 0, 1) := by decide +kernel
theorem dX7_best_37 : decode cX7_best 37 = .ok (.getfield 33, 3) := by decide +kernel
theorem dX7_best_40 : decode cX7_best 40 = .ok (.getfield 215, 3) := by decide +kernel
theorem dX7_best_43 : decode cX7_best 43 = .ok (.iload_n 1, 1) := by decide +kernel
theorem dX7_best_44 : decode cX7_best 44 = .ok (.iaload, 1) := by decide +kernel
theorem dX7_best_45 : decode cX7_best 45 = .ok (.ifCond .ne 6, 3) := by decide +kernel
theorem dX7_best_48 : decode cX7_best 48 = .ok (.bipush (-3), 2) := by decide +kernel
theorem dX7_best_50 : decode cX7_best 50 = .ok (.ireturn, 1) := by decide +kernel
theorem dX7_best_51 : decode cX7_best 51 = .ok (.iload_n 2, 1) := by decide +kernel
theorem dX7_best_52 : decode cX7_best 52 = .ok (.iconst (-1), 1) := by decide +kernel
theorem dX7_best_53 : decode cX7_best 53 = .ok (.if_icmp .ne 15, 3) := by decide +kernel
theorem dX7_best_56 : decode cX7_best 56 = .ok (.aload_n 0, 1) := by decide +kernel
theorem dX7_best_57 : decode cX7_best 57 = .ok (.getfield 33, 3) := by decide +kernel
theorem dX7_best_60 : decode cX7_best 60 = .ok (.getfield 218, 3) := by decide +kernel
theorem dX7_best_63 : decode cX7_best 63 = .ok (.iload_n 1, 1) := by decide +kernel
theorem dX7_best_64 : decode cX7_best 64 = .ok (.iaload, 1) := by decide +kernel
theorem dX7_best_65 : decode cX7_best 65 = .ok (.goto 12, 3) := by decide +kernel
theorem dX7_best_68 : decode cX7_best 68 = .ok (.aload_n 0, 1) := by decide +kernel
theorem dX7_best_69 : decode cX7_best 69 = .ok (.getfield 33, 3) := by decide +kernel
theorem dX7_best_72 : decode cX7_best 72 = .ok (.iload_n 1, 1) := by decide +kernel
theorem dX7_best_73 : decode cX7_best 73 = .ok (.iload_n 2, 1) := by decide +kernel
theorem dX7_best_74 : decode cX7_best 74 = .ok (.invokevirtual 221, 3) := by decide +kernel
theorem dX7_best_77 : decode cX7_best 77 = .ok (.ireturn, 1) := by decide +kernel
theorem dX7_row_0 : decode cX7_row 0 = .ok (.iload_n 1, 1) := by decide +kernel
theorem dX7_row_1 : decode cX7_row 1 = .ok (.invokestatic 224, 3) := by decide +kernel
theorem dX7_row_4 : decode cX7_row 4 = .ok (.ifCond .ne 6, 3) := by decide +kernel
theorem dX7_row_7 : decode cX7_row 7 = .ok (.bipush (-2), 2) := by decide +kernel
theorem dX7_row_9 : decode cX7_row 9 = .ok (.ireturn, 1) := by decide +kernel
theorem dX7_row_10 : decode cX7_row 10 = .ok (.aload_n 0, 1) := by decide +kernel
theorem dX7_row_11 : decode cX7_row 11 = .ok (.getfield 46, 3) := by decide +kernel
theorem dX7_row_14 : decode cX7_row 14 = .ok (.iload_n 1, 1) := by decide +kernel
theorem dX7_row_15 : decode cX7_row 15 = .ok (.aaload, 1) := by decide +kernel
theorem dX7_row_16 : decode cX7_row 16 = .ok (.astore_n 2, 1) := by decide +kernel
theorem dX7_row_17 : decode cX7_row 17 = .ok (.aload_n 2, 1) := by decide +kernel
theorem dX7_row_18 : decode cX7_row 18 = .ok (.invokevirtual 227, 3) := by decide +kernel
theorem dX7_row_21 : decode cX7_row 21 = .ok (.ifCond .eq 6, 3) := by decide +kernel
theorem dX7_row_24 : decode cX7_row 24 = .ok (.bipush (-11), 2) := by decide +kernel
theorem dX7_row_26 : decode cX7_row 26 = .ok (.ireturn, 1) := by decide +kernel
theorem dX7_row_27 : decode cX7_row 27 = .ok (.aload_n 2, 1) := by decide +kernel
theorem dX7_row_28 : decode cX7_row 28 = .ok (.getfield 231, 3) := by decide +kernel
theorem dX7_row_31 : decode cX7_row 31 = .ok (.aload_n 0, 1) := by decide +kernel
theorem dX7_row_32 : decode cX7_row 32 = .ok (.getfield 92, 3) := by decide +kernel
theorem dX7_row_35 : decode cX7_row 35 = .ok (.getfield 106, 3) := by decide +kernel
theorem dX7_row_38 : decode cX7_row 38 = .ok (.if_icmp .ne 21, 3) := by decide +kernel
theorem dX7_row_41 : decode cX7_row 41 = .ok (.aload_n 0, 1) := by decide +kernel
theorem dX7_row_42 : decode cX7_row 42 = .ok (.getfield 33, 3) := by decide +kernel
theorem dX7_row_45 : decode cX7_row 45 = .ok (.aload_n 0, 1) := by decide +kernel
theorem dX7_row_46 : decode cX7_row 46 = .ok (.getfield 92, 3) := by decide +kernel
theorem dX7_row_49 : decode cX7_row 49 = .ok (.aload_n 2, 1) := by decide +kernel
theorem dX7_row_50 : decode cX7_row 50 = .ok (.getfield 232, 3) := by decide +kernel
theorem dX7_row_53 : decode cX7_row 53 = .ok (.invokevirtual 235, 3) := by decide +kernel
theorem dX7_row_56 : decode cX7_row 56 = .ok (.goto 5, 3) := by decide +kernel
theorem dX7_row_59 : decode cX7_row 59 = .ok (.bipush (-2), 2) := by decide +kernel
theorem dX7_row_61 : decode cX7_row 61 = .ok (.ireturn, 1) := by decide +kernel
theorem dX7_year_0 : decode cX7_year 0 = .ok (.iload_n 1, 1) := by decide +kernel
theorem dX7_year_1 : decode cX7_year 1 = .ok (.iconst 0, 1) := by decide +kernel
theorem dX7_year_2 : decode cX7_year 2 = .ok (.bipush 12, 2) := by decide +kernel
theorem dX7_year_4 : decode cX7_year 4 = .ok (.invokestatic 102, 3) := by decide +kernel
theorem dX7_year_7 : decode cX7_year 7 = .ok (.ifCond .eq 13, 3) := by decide +kernel
theorem dX7_year_10 : decode cX7_year 10 = .ok (.iload_n 2, 1) := by decide +kernel
theorem dX7_year_11 : decode cX7_year 11 = .ok (.iconst 0, 1) := by decide +kernel
theorem dX7_year_12 : decode cX7_year 12 = .ok (.bipush 6, 2) := by decide +kernel
theorem dX7_year_14 : decode cX7_year 14 = .ok (.invokestatic 102, 3) := by decide +kernel
theorem dX7_year_17 : decode cX7_year 17 = .ok (.ifCond .ne 6, 3) := by decide +kernel
theorem dX7_year_20 : decode cX7_year 20 = .ok (.bipush (-2), 2) := by decide +kernel
theorem dX7_year_22 : decode cX7_year 22 = .ok (.ireturn, 1) := by decide +kernel
theorem dX7_year_23 : decode cX7_year 23 = .ok (.aload_n 0, 1) := by decide +kernel
theorem dX7_year_24 : decode cX7_year 24 = .ok (.getfield 96, 3) := by decide +kernel
theorem dX7_year_27 : decode cX7_year 27 = .ok (.aload_n 0, 1) := by decide +kernel
theorem dX7_year_28 : decode cX7_year 28 = .ok (.getfield 92, 3) := by decide +kernel
theorem dX7_year_31 : decode cX7_year 31 = .ok (.invokevirtual 190, 3) := by decide +kernel
theorem dX7_year_34 : decode cX7_year 34 = .ok (.iconst 0, 1) := by decide +kernel
theorem dX7_year_35 : decode cX7_year 35 = .ok (.istore_n 3, 1) := by decide +kernel
theorem dX7_year_36 : decode cX7_year 36 = .ok (.iload_n 3, 1) := by decide +kernel
theorem dX7_year_37 : decode cX7_year 37 = .ok (.iload_n 1, 1) := by decide +kernel
theorem dX7_year_38 : decode cX7_year 38 = .ok (.if_icmp .ge 13, 3) := by decide +kernel
theorem dX7_year_41 : decode cX7_year 41 = .ok (.aload_n 0, 1) := by decide +kernel
theorem dX7_year_42 : decode cX7_year 42 = .ok (.invokevirtual 239, 3) := by decide +kernel
theorem dX7_year_45 : decode cX7_year 45 = .ok (.iinc 3 1, 3) := by decide +kernel
theorem dX7_year_48 : decode cX7_year 48 = .ok (.goto (-12), 3) := by decide +kernel
theorem dX7_year_51 : decode cX7_year 51 = .ok (.iload_n 2, 1) := by decide +kernel
theorem dX7_year_52 : decode cX7_year 52 = .ok (.tableswitch 52 0 2 #[28, 36, 44], 28) := by decide +kernel
theorem dX7_year_80 : decode cX7_year 80 = .ok (.aload_n 0, 1) := by decide +kernel
theorem dX7_year_81 : decode cX7_year 81 = .ok (.getfield 96, 3) := by decide +kernel
theorem dX7_year_84 : decode cX7_year 84 = .ok (.invokevirtual 242, 3) := by decide +kernel
theorem dX7_year_87 : decode cX7_year 87 = .ok (.ireturn, 1) := by decide +kernel
theorem dX7_year_88 : decode cX7_year 88 = .ok (.aload_n 0, 1) := by decide +kernel
theorem dX7_year_89 : decode cX7_year 89 = .ok (.getfield 96, 3) := by decide +kernel
theorem dX7_year_92 : decode cX7_year 92 = .ok (.getfield 245, 3) := by decide +kernel
theorem dX7_year_95 : decode cX7_year 95 = .ok (.ireturn, 1) := by decide +kernel
theorem dX7_year_96 : decode cX7_year 96 = .ok (.aload_n 0, 1) := by decide +kernel
theorem dX7_year_97 : decode cX7_year 97 = .ok (.getfield 96, 3) := by decide +kernel
theorem dX7_year_100 : decode cX7_year 100 = .ok (.getfield 248, 3) := by decide +kernel
theorem dX7_year_103 : decode cX7_year 103 = .ok (.ireturn, 1) := by decide +kernel
theorem dX7_year_104 : decode cX7_year 104 = .ok (.aload_n 0, 1) := by decide +kernel
theorem dX7_year_105 : decode cX7_year 105 = .ok (.iload_n 2, 1) := by decide +kernel
theorem dX7_year_106 : decode cX7_year 106 = .ok (.iconst 3, 1) := by decide +kernel
theorem dX7_year_107 : decode cX7_year 107 = .ok (.isub, 1) := by decide +kernel
theorem dX7_year_108 : decode cX7_year 108 = .ok (.invokevirtual 141, 3) := by decide +kernel
theorem dX7_year_111 : decode cX7_year 111 = .ok (.ifCond .eq 17, 3) := by decide +kernel
theorem dX7_year_114 : decode cX7_year 114 = .ok (.aload_n 0, 1) := by decide +kernel
theorem dX7_year_115 : decode cX7_year 115 = .ok (.getfield 96, 3) := by decide +kernel
theorem dX7_year_118 : decode cX7_year 118 = .ok (.getfield 178, 3) := by decide +kernel
theorem dX7_year_121 : decode cX7_year 121 = .ok (.iload_n 2, 1) := by decide +kernel
theorem dX7_year_122 : decode cX7_year 122 = .ok (.iconst 3, 1) := by decide +kernel
theorem dX7_year_123 : decode cX7_year 123 = .ok (.isub, 1) := by decide +kernel
theorem dX7_year_124 : decode cX7_year 124 = .ok (.iaload, 1) := by decide +kernel
theorem dX7_year_125 : decode cX7_year 125 = .ok (.goto 4, 3) := by decide +kernel
theorem dX7_year_128 : decode cX7_year 128 = .ok (.iconst (-1), 1) := by decide +kernel
theorem dX7_year_129 : decode cX7_year 129 = .ok (.ireturn, 1) := by decide +kernel
theorem dX7_passRound_0 : decode cX7_passRound 0 = .ok (.iconst 0, 1) := by decide +kernel
theorem dX7_passRound_1 : decode cX7_passRound 1 = .ok (.istore_n 1, 1) := by decide +kernel
theorem dX7_passRound_2 : decode cX7_passRound 2 = .ok (.iload_n 1, 1) := by decide +kernel
theorem dX7_passRound_3 : decode cX7_passRound 3 = .ok (.aload_n 0, 1) := by decide +kernel
theorem dX7_passRound_4 : decode cX7_passRound 4 = .ok (.getfield 96, 3) := by decide +kernel
theorem dX7_passRound_7 : decode cX7_passRound 7 = .ok (.getfield 106, 3) := by decide +kernel
theorem dX7_passRound_10 : decode cX7_passRound 10 = .ok (.if_icmp .ge 33, 3) := by decide +kernel
theorem dX7_passRound_13 : decode cX7_passRound 13 = .ok (.aload_n 0, 1) := by decide +kernel
theorem dX7_passRound_14 : decode cX7_passRound 14 = .ok (.getfield 96, 3) := by decide +kernel
theorem dX7_passRound_17 : decode cX7_passRound 17 = .ok (.iload_n 1, 1) := by decide +kernel
theorem dX7_passRound_18 : decode cX7_passRound 18 = .ok (.invokevirtual 249, 3) := by decide +kernel
theorem dX7_passRound_21 : decode cX7_passRound 21 = .ok (.istore_n 2, 1) := by decide +kernel
theorem dX7_passRound_22 : decode cX7_passRound 22 = .ok (.iload_n 2, 1) := by decide +kernel
theorem dX7_passRound_23 : decode cX7_passRound 23 = .ok (.iconst (-1), 1) := by decide +kernel
theorem dX7_passRound_24 : decode cX7_passRound 24 = .ok (.if_icmp .eq 13, 3) := by decide +kernel
theorem dX7_passRound_27 : decode cX7_passRound 27 = .ok (.aload_n 0, 1) := by decide +kernel
theorem dX7_passRound_28 : decode cX7_passRound 28 = .ok (.getfield 96, 3) := by decide +kernel
theorem dX7_passRound_31 : decode cX7_passRound 31 = .ok (.iload_n 1, 1) := by decide +kernel
theorem dX7_passRound_32 : decode cX7_passRound 32 = .ok (.iload_n 2, 1) := by decide +kernel
theorem dX7_passRound_33 : decode cX7_passRound 33 = .ok (.invokevirtual 187, 3) := by decide +kernel
theorem dX7_passRound_36 : decode cX7_passRound 36 = .ok (.pop, 1) := by decide +kernel
theorem dX7_passRound_37 : decode cX7_passRound 37 = .ok (.iinc 1 1, 3) := by decide +kernel
theorem dX7_passRound_40 : decode cX7_passRound 40 = .ok (.goto (-38), 3) := by decide +kernel
theorem dX7_passRound_43 : decode cX7_passRound 43 = .ok (.return_, 1) := by decide +kernel
theorem dX7_judge_0 : decode cX7_judge 0 = .ok (.iload_n 1, 1) := by decide +kernel
theorem dX7_judge_1 : decode cX7_judge 1 = .ok (.invokestatic 224, 3) := by decide +kernel
theorem dX7_judge_4 : decode cX7_judge 4 = .ok (.ifCond .eq 12, 3) := by decide +kernel
theorem dX7_judge_7 : decode cX7_judge 7 = .ok (.iload_n 2, 1) := by decide +kernel
theorem dX7_judge_8 : decode cX7_judge 8 = .ok (.iconst 0, 1) := by decide +kernel
theorem dX7_judge_9 : decode cX7_judge 9 = .ok (.iconst 1, 1) := by decide +kernel
theorem dX7_judge_10 : decode cX7_judge 10 = .ok (.invokestatic 102, 3) := by decide +kernel
theorem dX7_judge_13 : decode cX7_judge 13 = .ok (.ifCond .ne 6, 3) := by decide +kernel
theorem dX7_judge_16 : decode cX7_judge 16 = .ok (.bipush (-2), 2) := by decide +kernel
theorem dX7_judge_18 : decode cX7_judge 18 = .ok (.ireturn, 1) := by decide +kernel
theorem dX7_judge_19 : decode cX7_judge 19 = .ok (.aload_n 0, 1) := by decide +kernel
theorem dX7_judge_20 : decode cX7_judge 20 = .ok (.getfield 46, 3) := by decide +kernel
theorem dX7_judge_23 : decode cX7_judge 23 = .ok (.iload_n 1, 1) := by decide +kernel
theorem dX7_judge_24 : decode cX7_judge 24 = .ok (.aaload, 1) := by decide +kernel
theorem dX7_judge_25 : decode cX7_judge 25 = .ok (.astore_n 3, 1) := by decide +kernel
theorem dX7_judge_26 : decode cX7_judge 26 = .ok (.aload_n 3, 1) := by decide +kernel
theorem dX7_judge_27 : decode cX7_judge 27 = .ok (.invokevirtual 227, 3) := by decide +kernel
theorem dX7_judge_30 : decode cX7_judge 30 = .ok (.ifCond .eq 6, 3) := by decide +kernel
theorem dX7_judge_33 : decode cX7_judge 33 = .ok (.bipush (-11), 2) := by decide +kernel
theorem dX7_judge_35 : decode cX7_judge 35 = .ok (.ireturn, 1) := by decide +kernel
theorem dX7_judge_36 : decode cX7_judge 36 = .ok (.aload_n 3, 1) := by decide +kernel
theorem dX7_judge_37 : decode cX7_judge 37 = .ok (.getfield 231, 3) := by decide +kernel
theorem dX7_judge_40 : decode cX7_judge 40 = .ok (.iconst 3, 1) := by decide +kernel
theorem dX7_judge_41 : decode cX7_judge 41 = .ok (.irem, 1) := by decide +kernel
theorem dX7_judge_42 : decode cX7_judge 42 = .ok (.ifCond .eq 6, 3) := by decide +kernel
theorem dX7_judge_45 : decode cX7_judge 45 = .ok (.bipush (-2), 2) := by decide +kernel
theorem dX7_judge_47 : decode cX7_judge 47 = .ok (.ireturn, 1) := by decide +kernel
theorem dX7_judge_48 : decode cX7_judge 48 = .ok (.aload_n 0, 1) := by decide +kernel
theorem dX7_judge_49 : decode cX7_judge 49 = .ok (.getfield 96, 3) := by decide +kernel
theorem dX7_judge_52 : decode cX7_judge 52 = .ok (.aload_n 0, 1) := by decide +kernel
theorem dX7_judge_53 : decode cX7_judge 53 = .ok (.getfield 92, 3) := by decide +kernel
theorem dX7_judge_56 : decode cX7_judge 56 = .ok (.invokevirtual 190, 3) := by decide +kernel
theorem dX7_judge_59 : decode cX7_judge 59 = .ok (.iconst 0, 1) := by decide +kernel
theorem dX7_judge_60 : decode cX7_judge 60 = .ok (.istore 4, 2) := by decide +kernel
theorem dX7_judge_62 : decode cX7_judge 62 = .ok (.iconst 0, 1) := by decide +kernel
theorem dX7_judge_63 : decode cX7_judge 63 = .ok (.istore 5, 2) := by decide +kernel
theorem dX7_judge_65 : decode cX7_judge 65 = .ok (.iconst 3, 1) := by decide +kernel
theorem dX7_judge_66 : decode cX7_judge 66 = .ok (.iload 5, 2) := by decide +kernel
theorem dX7_judge_68 : decode cX7_judge 68 = .ok (.imul, 1) := by decide +kernel
theorem dX7_judge_69 : decode cX7_judge 69 = .ok (.aload_n 3, 1) := by decide +kernel
theorem dX7_judge_70 : decode cX7_judge 70 = .ok (.getfield 231, 3) := by decide +kernel
theorem dX7_judge_73 : decode cX7_judge 73 = .ok (.if_icmp .ge 143, 3) := by decide +kernel
theorem dX7_judge_76 : decode cX7_judge 76 = .ok (.aload_n 3, 1) := by decide +kernel
theorem dX7_judge_77 : decode cX7_judge 77 = .ok (.getfield 232, 3) := by decide +kernel
theorem dX7_judge_80 : decode cX7_judge 80 = .ok (.iconst 3, 1) := by decide +kernel
theorem dX7_judge_81 : decode cX7_judge 81 = .ok (.iload 5, 2) := by decide +kernel
theorem dX7_judge_83 : decode cX7_judge 83 = .ok (.imul, 1) := by decide +kernel
theorem dX7_judge_84 : decode cX7_judge 84 = .ok (.iaload, 1) := by decide +kernel
theorem dX7_judge_85 : decode cX7_judge 85 = .ok (.istore 6, 2) := by decide +kernel
theorem dX7_judge_87 : decode cX7_judge 87 = .ok (.aload_n 3, 1) := by decide +kernel
theorem dX7_judge_88 : decode cX7_judge 88 = .ok (.getfield 232, 3) := by decide +kernel
theorem dX7_judge_91 : decode cX7_judge 91 = .ok (.iconst 3, 1) := by decide +kernel
theorem dX7_judge_92 : decode cX7_judge 92 = .ok (.iload 5, 2) := by decide +kernel
theorem dX7_judge_94 : decode cX7_judge 94 = .ok (.imul, 1) := by decide +kernel
theorem dX7_judge_95 : decode cX7_judge 95 = .ok (.iconst 1, 1) := by decide +kernel
theorem dX7_judge_96 : decode cX7_judge 96 = .ok (.iadd, 1) := by decide +kernel
theorem dX7_judge_97 : decode cX7_judge 97 = .ok (.iaload, 1) := by decide +kernel
theorem dX7_judge_98 : decode cX7_judge 98 = .ok (.istore 7, 2) := by decide +kernel
theorem dX7_judge_100 : decode cX7_judge 100 = .ok (.aload_n 3, 1) := by decide +kernel
theorem dX7_judge_101 : decode cX7_judge 101 = .ok (.getfield 232, 3) := by decide +kernel
theorem dX7_judge_104 : decode cX7_judge 104 = .ok (.iconst 3, 1) := by decide +kernel
theorem dX7_judge_105 : decode cX7_judge 105 = .ok (.iload 5, 2) := by decide +kernel
theorem dX7_judge_107 : decode cX7_judge 107 = .ok (.imul, 1) := by decide +kernel
theorem dX7_judge_108 : decode cX7_judge 108 = .ok (.iconst 2, 1) := by decide +kernel
theorem dX7_judge_109 : decode cX7_judge 109 = .ok (.iadd, 1) := by decide +kernel
theorem dX7_judge_110 : decode cX7_judge 110 = .ok (.iaload, 1) := by decide +kernel
theorem dX7_judge_111 : decode cX7_judge 111 = .ok (.istore 8, 2) := by decide +kernel
theorem dX7_judge_113 : decode cX7_judge 113 = .ok (.aload_n 0, 1) := by decide +kernel
theorem dX7_judge_114 : decode cX7_judge 114 = .ok (.iload 6, 2) := by decide +kernel
theorem dX7_judge_116 : decode cX7_judge 116 = .ok (.iload 7, 2) := by decide +kernel
theorem dX7_judge_118 : decode cX7_judge 118 = .ok (.invokevirtual 123, 3) := by decide +kernel
theorem dX7_judge_121 : decode cX7_judge 121 = .ok (.ifCond .eq 27, 3) := by decide +kernel
theorem dX7_judge_124 : decode cX7_judge 124 = .ok (.iload 8, 2) := by decide +kernel
theorem dX7_judge_126 : decode cX7_judge 126 = .ok (.iconst 0, 1) := by decide +kernel
theorem dX7_judge_127 : decode cX7_judge 127 = .ok (.iconst 1, 1) := by decide +kernel
theorem dX7_judge_128 : decode cX7_judge 128 = .ok (.invokestatic 102, 3) := by decide +kernel
theorem dX7_judge_131 : decode cX7_judge 131 = .ok (.ifCond .eq 17, 3) := by decide +kernel
theorem dX7_judge_134 : decode cX7_judge 134 = .ok (.aload_n 0, 1) := by decide +kernel
theorem dX7_judge_135 : decode cX7_judge 135 = .ok (.getfield 96, 3) := by decide +kernel
theorem dX7_judge_138 : decode cX7_judge 138 = .ok (.iload 6, 2) := by decide +kernel
theorem dX7_judge_140 : decode cX7_judge 140 = .ok (.iload 7, 2) := by decide +kernel
theorem dX7_judge_142 : decode cX7_judge 142 = .ok (.invokevirtual 151, 3) := by decide +kernel
theorem dX7_judge_145 : decode cX7_judge 145 = .ok (.ifCond .ne 15, 3) := by decide +kernel
theorem dX7_judge_148 : decode cX7_judge 148 = .ok (.iload_n 2, 1) := by decide +kernel
theorem dX7_judge_149 : decode cX7_judge 149 = .ok (.ifCond .ne 8, 3) := by decide +kernel
theorem dX7_judge_152 : decode cX7_judge 152 = .ok (.iload 5, 2) := by decide +kernel
theorem dX7_judge_154 : decode cX7_judge 154 = .ok (.goto 5, 3) := by decide +kernel
theorem dX7_judge_157 : decode cX7_judge 157 = .ok (.iload 4, 2) := by decide +kernel
theorem dX7_judge_159 : decode cX7_judge 159 = .ok (.ireturn, 1) := by decide +kernel
theorem dX7_judge_160 : decode cX7_judge 160 = .ok (.aload_n 0, 1) := by decide +kernel
theorem dX7_judge_161 : decode cX7_judge 161 = .ok (.getfield 96, 3) := by decide +kernel
theorem dX7_judge_164 : decode cX7_judge 164 = .ok (.iload 6, 2) := by decide +kernel
theorem dX7_judge_166 : decode cX7_judge 166 = .ok (.iload 7, 2) := by decide +kernel
theorem dX7_judge_168 : decode cX7_judge 168 = .ok (.invokevirtual 154, 3) := by decide +kernel
theorem dX7_judge_171 : decode cX7_judge 171 = .ok (.iload 8, 2) := by decide +kernel
theorem dX7_judge_173 : decode cX7_judge 173 = .ok (.iconst 1, 1) := by decide +kernel
theorem dX7_judge_174 : decode cX7_judge 174 = .ok (.if_icmp .ne 7, 3) := by decide +kernel
theorem dX7_judge_177 : decode cX7_judge 177 = .ok (.iconst 1, 1) := by decide +kernel
theorem dX7_judge_178 : decode cX7_judge 178 = .ok (.goto 4, 3) := by decide +kernel
theorem dX7_judge_181 : decode cX7_judge 181 = .ok (.iconst 0, 1) := by decide +kernel
theorem dX7_judge_182 : decode cX7_judge 182 = .ok (.if_icmp .ne 6, 3) := by decide +kernel
theorem dX7_judge_185 : decode cX7_judge 185 = .ok (.iinc 4 1, 3) := by decide +kernel
theorem dX7_judge_188 : decode cX7_judge 188 = .ok (.aload_n 0, 1) := by decide +kernel
theorem dX7_judge_189 : decode cX7_judge 189 = .ok (.getfield 96, 3) := by decide +kernel
theorem dX7_judge_192 : decode cX7_judge 192 = .ok (.iload 6, 2) := by decide +kernel
theorem dX7_judge_194 : decode cX7_judge 194 = .ok (.iload 7, 2) := by decide +kernel
theorem dX7_judge_196 : decode cX7_judge 196 = .ok (.iload 8, 2) := by decide +kernel
theorem dX7_judge_198 : decode cX7_judge 198 = .ok (.iconst 1, 1) := by decide +kernel
theorem dX7_judge_199 : decode cX7_judge 199 = .ok (.if_icmp .ne 7, 3) := by decide +kernel
theorem dX7_judge_202 : decode cX7_judge 202 = .ok (.iconst 1, 1) := by decide +kernel
theorem dX7_judge_203 : decode cX7_judge 203 = .ok (.goto 4, 3) := by decide +kernel
theorem dX7_judge_206 : decode cX7_judge 206 = .ok (.iconst 0, 1) := by decide +kernel
theorem dX7_judge_207 : decode cX7_judge 207 = .ok (.invokevirtual 252, 3) := by decide +kernel
theorem dX7_judge_210 : decode cX7_judge 210 = .ok (.iinc 5 1, 3) := by decide +kernel
theorem dX7_judge_213 : decode cX7_judge 213 = .ok (.goto (-148), 3) := by decide +kernel
theorem dX7_judge_216 : decode cX7_judge 216 = .ok (.iload_n 2, 1) := by decide +kernel
theorem dX7_judge_217 : decode cX7_judge 217 = .ok (.ifCond .ne 7, 3) := by decide +kernel
theorem dX7_judge_220 : decode cX7_judge 220 = .ok (.iconst (-1), 1) := by decide +kernel
theorem dX7_judge_221 : decode cX7_judge 221 = .ok (.goto 5, 3) := by decide +kernel
theorem dX7_judge_224 : decode cX7_judge 224 = .ok (.iload 4, 2) := by decide +kernel
theorem dX7_judge_226 : decode cX7_judge 226 = .ok (.ireturn, 1) := by decide +kernel
theorem dX7_drawn_0 : decode cX7_drawn 0 = .ok (.aload_n 0, 1) := by decide +kernel
theorem dX7_drawn_1 : decode cX7_drawn 1 = .ok (.getfield 96, 3) := by decide +kernel
theorem dX7_drawn_4 : decode cX7_drawn 4 = .ok (.aload_n 0, 1) := by decide +kernel
theorem dX7_drawn_5 : decode cX7_drawn 5 = .ok (.getfield 92, 3) := by decide +kernel
theorem dX7_drawn_8 : decode cX7_drawn 8 = .ok (.invokevirtual 190, 3) := by decide +kernel
theorem dX7_drawn_11 : decode cX7_drawn 11 = .ok (.aload_n 0, 1) := by decide +kernel
theorem dX7_drawn_12 : decode cX7_drawn 12 = .ok (.getfield 96, 3) := by decide +kernel
theorem dX7_drawn_15 : decode cX7_drawn 15 = .ok (.iload_n 1, 1) := by decide +kernel
theorem dX7_drawn_16 : decode cX7_drawn 16 = .ok (.invokevirtual 256, 3) := by decide +kernel
theorem dX7_drawn_19 : decode cX7_drawn 19 = .ok (.aload_n 0, 1) := by decide +kernel
theorem dX7_drawn_20 : decode cX7_drawn 20 = .ok (.getfield 33, 3) := by decide +kernel
theorem dX7_drawn_23 : decode cX7_drawn 23 = .ok (.aload_n 0, 1) := by decide +kernel
theorem dX7_drawn_24 : decode cX7_drawn 24 = .ok (.getfield 96, 3) := by decide +kernel
theorem dX7_drawn_27 : decode cX7_drawn 27 = .ok (.invokevirtual 212, 3) := by decide +kernel
theorem dX7_drawn_30 : decode cX7_drawn 30 = .ok (.aload_n 0, 1) := by decide +kernel
theorem dX7_drawn_31 : decode cX7_drawn 31 = .ok (.getfield 33, 3) := by decide +kernel
theorem dX7_drawn_34 : decode cX7_drawn 34 = .ok (.getfield 215, 3) := by decide +kernel
theorem dX7_drawn_37 : decode cX7_drawn 37 = .ok (.iconst 1, 1) := by decide +kernel
theorem dX7_drawn_38 : decode cX7_drawn 38 = .ok (.iaload, 1) := by decide +kernel
theorem dX7_drawn_39 : decode cX7_drawn 39 = .ok (.ireturn, 1) := by decide +kernel
theorem dX7_chance_0 : decode cX7_chance 0 = .ok (.iload_n 2, 1) := by decide +kernel
theorem dX7_chance_1 : decode cX7_chance 1 = .ok (.iconst 1, 1) := by decide +kernel
theorem dX7_chance_2 : decode cX7_chance 2 = .ok (.bipush 20, 2) := by decide +kernel
theorem dX7_chance_4 : decode cX7_chance 4 = .ok (.invokestatic 102, 3) := by decide +kernel
theorem dX7_chance_7 : decode cX7_chance 7 = .ok (.ifCond .eq 12, 3) := by decide +kernel
theorem dX7_chance_10 : decode cX7_chance 10 = .ok (.iload_n 3, 1) := by decide +kernel
theorem dX7_chance_11 : decode cX7_chance 11 = .ok (.iconst 0, 1) := by decide +kernel
theorem dX7_chance_12 : decode cX7_chance 12 = .ok (.iconst 1, 1) := by decide +kernel
theorem dX7_chance_13 : decode cX7_chance 13 = .ok (.invokestatic 102, 3) := by decide +kernel
theorem dX7_chance_16 : decode cX7_chance 16 = .ok (.ifCond .ne 7, 3) := by decide +kernel
theorem dX7_chance_19 : decode cX7_chance 19 = .ok (.ldc2_w 259, 3) := by decide +kernel
theorem dX7_chance_22 : decode cX7_chance 22 = .ok (.lreturn, 1) := by decide +kernel
theorem dX7_chance_23 : decode cX7_chance 23 = .ok (.iconst 0, 1) := by decide +kernel
theorem dX7_chance_24 : decode cX7_chance 24 = .ok (.istore 4, 2) := by decide +kernel
theorem dX7_chance_26 : decode cX7_chance 26 = .ok (.iconst 0, 1) := by decide +kernel
theorem dX7_chance_27 : decode cX7_chance 27 = .ok (.istore 5, 2) := by decide +kernel
theorem dX7_chance_29 : decode cX7_chance 29 = .ok (.iload 5, 2) := by decide +kernel
theorem dX7_chance_31 : decode cX7_chance 31 = .ok (.iload_n 2, 1) := by decide +kernel
theorem dX7_chance_32 : decode cX7_chance 32 = .ok (.if_icmp .ge 23, 3) := by decide +kernel
theorem dX7_chance_35 : decode cX7_chance 35 = .ok (.aload_n 0, 1) := by decide +kernel
theorem dX7_chance_36 : decode cX7_chance 36 = .ok (.iload_n 1, 1) := by decide +kernel
theorem dX7_chance_37 : decode cX7_chance 37 = .ok (.iload 5, 2) := by decide +kernel
theorem dX7_chance_39 : decode cX7_chance 39 = .ok (.iadd, 1) := by decide +kernel
theorem dX7_chance_40 : decode cX7_chance 40 = .ok (.invokevirtual 261, 3) := by decide +kernel
theorem dX7_chance_43 : decode cX7_chance 43 = .ok (.ifCond .le 6, 3) := by decide +kernel
theorem dX7_chance_46 : decode cX7_chance 46 = .ok (.iinc 4 1, 3) := by decide +kernel
theorem dX7_chance_49 : decode cX7_chance 49 = .ok (.iinc 5 1, 3) := by decide +kernel
theorem dX7_chance_52 : decode cX7_chance 52 = .ok (.goto (-23), 3) := by decide +kernel
theorem dX7_chance_55 : decode cX7_chance 55 = .ok (.iload 4, 2) := by decide +kernel
theorem dX7_chance_57 : decode cX7_chance 57 = .ok (.iload_n 2, 1) := by decide +kernel
theorem dX7_chance_58 : decode cX7_chance 58 = .ok (.invokestatic 264, 3) := by decide +kernel
theorem dX7_chance_61 : decode cX7_chance 61 = .ok (.istore 5, 2) := by decide +kernel
theorem dX7_chance_63 : decode cX7_chance 63 = .ok (.iload_n 3, 1) := by decide +kernel
theorem dX7_chance_64 : decode cX7_chance 64 = .ok (.ifCond .ne 12, 3) := by decide +kernel
theorem dX7_chance_67 : decode cX7_chance 67 = .ok (.iload 4, 2) := by decide +kernel
theorem dX7_chance_69 : decode cX7_chance 69 = .ok (.iload 5, 2) := by decide +kernel
theorem dX7_chance_71 : decode cX7_chance 71 = .ok (.idiv, 1) := by decide +kernel
theorem dX7_chance_72 : decode cX7_chance 72 = .ok (.i2l, 1) := by decide +kernel
theorem dX7_chance_73 : decode cX7_chance 73 = .ok (.goto 8, 3) := by decide +kernel
theorem dX7_chance_76 : decode cX7_chance 76 = .ok (.iload_n 2, 1) := by decide +kernel
theorem dX7_chance_77 : decode cX7_chance 77 = .ok (.iload 5, 2) := by decide +kernel
theorem dX7_chance_79 : decode cX7_chance 79 = .ok (.idiv, 1) := by decide +kernel
theorem dX7_chance_80 : decode cX7_chance 80 = .ok (.i2l, 1) := by decide +kernel
theorem dX7_chance_81 : decode cX7_chance 81 = .ok (.lreturn, 1) := by decide +kernel
theorem dX7_commonDivisor_0 : decode cX7_commonDivisor 0 = .ok (.iload_n 1, 1) := by decide +kernel
theorem dX7_commonDivisor_1 : decode cX7_commonDivisor 1 = .ok (.istore_n 2, 1) := by decide +kernel
theorem dX7_commonDivisor_2 : decode cX7_commonDivisor 2 = .ok (.iload_n 2, 1) := by decide +kernel
theorem dX7_commonDivisor_3 : decode cX7_commonDivisor 3 = .ok (.iconst 1, 1) := by decide +kernel
theorem dX7_commonDivisor_4 : decode cX7_commonDivisor 4 = .ok (.if_icmp .le 23, 3) := by decide +kernel
theorem dX7_commonDivisor_7 : decode cX7_commonDivisor 7 = .ok (.iload_n 0, 1) := by decide +kernel
theorem dX7_commonDivisor_8 : decode cX7_commonDivisor 8 = .ok (.iload_n 2, 1) := by decide +kernel
theorem dX7_commonDivisor_9 : decode cX7_commonDivisor 9 = .ok (.irem, 1) := by decide +kernel
theorem dX7_commonDivisor_10 : decode cX7_commonDivisor 10 = .ok (.ifCond .ne 11, 3) := by decide +kernel
theorem dX7_commonDivisor_13 : decode cX7_commonDivisor 13 = .ok (.iload_n 1, 1) := by decide +kernel
theorem dX7_commonDivisor_14 : decode cX7_commonDivisor 14 = .ok (.iload_n 2, 1) := by decide +kernel
theorem dX7_commonDivisor_15 : decode cX7_commonDivisor 15 = .ok (.irem, 1) := by decide +kernel
theorem dX7_commonDivisor_16 : decode cX7_commonDivisor 16 = .ok (.ifCond .ne 5, 3) := by decide +kernel
theorem dX7_commonDivisor_19 : decode cX7_commonDivisor 19 = .ok (.iload_n 2, 1) := by decide +kernel
theorem dX7_commonDivisor_20 : decode cX7_commonDivisor 20 = .ok (.ireturn, 1) := by decide +kernel
theorem dX7_commonDivisor_21 : decode cX7_commonDivisor 21 = .ok (.iinc 2 (-1), 3) := by decide +kernel
theorem dX7_commonDivisor_24 : decode cX7_commonDivisor 24 = .ok (.goto (-22), 3) := by decide +kernel
theorem dX7_commonDivisor_27 : decode cX7_commonDivisor 27 = .ok (.iconst 1, 1) := by decide +kernel
theorem dX7_commonDivisor_28 : decode cX7_commonDivisor 28 = .ok (.ireturn, 1) := by decide +kernel
theorem dX7_image_0 : decode cX7_image 0 = .ok (.aload_n 0, 1) := by decide +kernel
theorem dX7_image_1 : decode cX7_image 1 = .ok (.getfield 99, 3) := by decide +kernel
theorem dX7_image_4 : decode cX7_image 4 = .ok (.aload_n 0, 1) := by decide +kernel
theorem dX7_image_5 : decode cX7_image 5 = .ok (.getfield 92, 3) := by decide +kernel
theorem dX7_image_8 : decode cX7_image 8 = .ok (.invokevirtual 190, 3) := by decide +kernel
theorem dX7_image_11 : decode cX7_image 11 = .ok (.aload_n 0, 1) := by decide +kernel
theorem dX7_image_12 : decode cX7_image 12 = .ok (.iconst 1, 1) := by decide +kernel
theorem dX7_image_13 : decode cX7_image 13 = .ok (.putfield 26, 3) := by decide +kernel
theorem dX7_image_16 : decode cX7_image 16 = .ok (.aload_n 0, 1) := by decide +kernel
theorem dX7_image_17 : decode cX7_image 17 = .ok (.getfield 92, 3) := by decide +kernel
theorem dX7_image_20 : decode cX7_image 20 = .ok (.getfield 106, 3) := by decide +kernel
theorem dX7_image_23 : decode cX7_image 23 = .ok (.ireturn, 1) := by decide +kernel
theorem dX7_back_0 : decode cX7_back 0 = .ok (.aload_n 0, 1) := by decide +kernel
theorem dX7_back_1 : decode cX7_back 1 = .ok (.getfield 26, 3) := by decide +kernel
theorem dX7_back_4 : decode cX7_back 4 = .ok (.ifCond .ne 6, 3) := by decide +kernel
theorem dX7_back_7 : decode cX7_back 7 = .ok (.bipush (-3), 2) := by decide +kernel
theorem dX7_back_9 : decode cX7_back 9 = .ok (.ireturn, 1) := by decide +kernel
theorem dX7_back_10 : decode cX7_back 10 = .ok (.aload_n 0, 1) := by decide +kernel
theorem dX7_back_11 : decode cX7_back 11 = .ok (.getfield 92, 3) := by decide +kernel
theorem dX7_back_14 : decode cX7_back 14 = .ok (.aload_n 0, 1) := by decide +kernel
theorem dX7_back_15 : decode cX7_back 15 = .ok (.getfield 99, 3) := by decide +kernel
theorem dX7_back_18 : decode cX7_back 18 = .ok (.invokevirtual 190, 3) := by decide +kernel
theorem dX7_back_21 : decode cX7_back 21 = .ok (.aload_n 0, 1) := by decide +kernel
theorem dX7_back_22 : decode cX7_back 22 = .ok (.getfield 92, 3) := by decide +kernel
theorem dX7_back_25 : decode cX7_back 25 = .ok (.getfield 106, 3) := by decide +kernel
theorem dX7_back_28 : decode cX7_back 28 = .ok (.ireturn, 1) := by decide +kernel
theorem dX7_count_0 : decode cX7_count 0 = .ok (.iload_n 1, 1) := by decide +kernel
theorem dX7_count_1 : decode cX7_count 1 = .ok (.tableswitch 99 0 6 #[43, 51, 59, 67, 75, 80, 88], 43) := by decide +kernel
theorem dX7_count_44 : decode cX7_count 44 = .ok (.aload_n 0, 1) := by decide +kernel
theorem dX7_count_45 : decode cX7_count 45 = .ok (.getfield 92, 3) := by decide +kernel
theorem dX7_count_48 : decode cX7_count 48 = .ok (.getfield 106, 3) := by decide +kernel
theorem dX7_count_51 : decode cX7_count 51 = .ok (.ireturn, 1) := by decide +kernel
theorem dX7_count_52 : decode cX7_count 52 = .ok (.aload_n 0, 1) := by decide +kernel
theorem dX7_count_53 : decode cX7_count 53 = .ok (.getfield 92, 3) := by decide +kernel
theorem dX7_count_56 : decode cX7_count 56 = .ok (.getfield 114, 3) := by decide +kernel
theorem dX7_count_59 : decode cX7_count 59 = .ok (.ireturn, 1) := by decide +kernel
theorem dX7_count_60 : decode cX7_count 60 = .ok (.aload_n 0, 1) := by decide +kernel
theorem dX7_count_61 : decode cX7_count 61 = .ok (.getfield 92, 3) := by decide +kernel
theorem dX7_count_64 : decode cX7_count 64 = .ok (.invokevirtual 242, 3) := by decide +kernel
theorem dX7_count_67 : decode cX7_count 67 = .ok (.ireturn, 1) := by decide +kernel
theorem dX7_count_68 : decode cX7_count 68 = .ok (.aload_n 0, 1) := by decide +kernel
theorem dX7_count_69 : decode cX7_count 69 = .ok (.getfield 92, 3) := by decide +kernel
theorem dX7_count_72 : decode cX7_count 72 = .ok (.getfield 267, 3) := by decide +kernel
theorem dX7_count_75 : decode cX7_count 75 = .ok (.ireturn, 1) := by decide +kernel
theorem dX7_count_76 : decode cX7_count 76 = .ok (.aload_n 0, 1) := by decide +kernel
theorem dX7_count_77 : decode cX7_count 77 = .ok (.getfield 22, 3) := by decide +kernel
theorem dX7_count_80 : decode cX7_count 80 = .ok (.ireturn, 1) := by decide +kernel
theorem dX7_count_81 : decode cX7_count 81 = .ok (.aload_n 0, 1) := by decide +kernel
theorem dX7_count_82 : decode cX7_count 82 = .ok (.getfield 10, 3) := by decide +kernel
theorem dX7_count_85 : decode cX7_count 85 = .ok (.getfield 84, 3) := by decide +kernel
theorem dX7_count_88 : decode cX7_count 88 = .ok (.ireturn, 1) := by decide +kernel
theorem dX7_count_89 : decode cX7_count 89 = .ok (.aload_n 0, 1) := by decide +kernel
theorem dX7_count_90 : decode cX7_count 90 = .ok (.getfield 92, 3) := by decide +kernel
theorem dX7_count_93 : decode cX7_count 93 = .ok (.getfield 181, 3) := by decide +kernel
theorem dX7_count_96 : decode cX7_count 96 = .ok (.getfield 185, 3) := by decide +kernel
theorem dX7_count_99 : decode cX7_count 99 = .ok (.ireturn, 1) := by decide +kernel
theorem dX7_count_100 : decode cX7_count 100 = .ok (.bipush (-2), 2) := by decide +kernel
theorem dX7_count_102 : decode cX7_count 102 = .ok (.ireturn, 1) := by decide +kernel
theorem dX7_sheet_0 : decode cX7_sheet 0 = .ok (.iload_n 1, 1) := by decide +kernel
theorem dX7_sheet_1 : decode cX7_sheet 1 = .ok (.invokestatic 224, 3) := by decide +kernel
theorem dX7_sheet_4 : decode cX7_sheet 4 = .ok (.ifCond .eq 12, 3) := by decide +kernel
theorem dX7_sheet_7 : decode cX7_sheet 7 = .ok (.iload_n 2, 1) := by decide +kernel
theorem dX7_sheet_8 : decode cX7_sheet 8 = .ok (.iconst (-1), 1) := by decide +kernel
theorem dX7_sheet_9 : decode cX7_sheet 9 = .ok (.iconst 2, 1) := by decide +kernel
theorem dX7_sheet_10 : decode cX7_sheet 10 = .ok (.invokestatic 102, 3) := by decide +kernel
theorem dX7_sheet_13 : decode cX7_sheet 13 = .ok (.ifCond .ne 6, 3) := by decide +kernel
theorem dX7_sheet_16 : decode cX7_sheet 16 = .ok (.bipush (-2), 2) := by decide +kernel
theorem dX7_sheet_18 : decode cX7_sheet 18 = .ok (.ireturn, 1) := by decide +kernel
theorem dX7_sheet_19 : decode cX7_sheet 19 = .ok (.iload_n 2, 1) := by decide +kernel
theorem dX7_sheet_20 : decode cX7_sheet 20 = .ok (.iconst (-1), 1) := by decide +kernel
theorem dX7_sheet_21 : decode cX7_sheet 21 = .ok (.if_icmp .ne 16, 3) := by decide +kernel
theorem dX7_sheet_24 : decode cX7_sheet 24 = .ok (.aload_n 0, 1) := by decide +kernel
theorem dX7_sheet_25 : decode cX7_sheet 25 = .ok (.getfield 46, 3) := by decide +kernel
theorem dX7_sheet_28 : decode cX7_sheet 28 = .ok (.iload_n 1, 1) := by decide +kernel
theorem dX7_sheet_29 : decode cX7_sheet 29 = .ok (.aaload, 1) := by decide +kernel
theorem dX7_sheet_30 : decode cX7_sheet 30 = .ok (.iload_n 2, 1) := by decide +kernel
theorem dX7_sheet_31 : decode cX7_sheet 31 = .ok (.iconst 0, 1) := by decide +kernel
theorem dX7_sheet_32 : decode cX7_sheet 32 = .ok (.invokevirtual 270, 3) := by decide +kernel
theorem dX7_sheet_35 : decode cX7_sheet 35 = .ok (.iconst 1, 1) := by decide +kernel
theorem dX7_sheet_36 : decode cX7_sheet 36 = .ok (.ireturn, 1) := by decide +kernel
theorem dX7_sheet_37 : decode cX7_sheet 37 = .ok (.iload_n 3, 1) := by decide +kernel
theorem dX7_sheet_38 : decode cX7_sheet 38 = .ok (.bipush 40, 2) := by decide +kernel
theorem dX7_sheet_40 : decode cX7_sheet 40 = .ok (.if_icmp .le 6, 3) := by decide +kernel
theorem dX7_sheet_43 : decode cX7_sheet 43 = .ok (.bipush (-2), 2) := by decide +kernel
theorem dX7_sheet_45 : decode cX7_sheet 45 = .ok (.ireturn, 1) := by decide +kernel
theorem dX7_sheet_46 : decode cX7_sheet 46 = .ok (.iload_n 3, 1) := by decide +kernel
theorem dX7_sheet_47 : decode cX7_sheet 47 = .ok (.ifCond .ge 6, 3) := by decide +kernel
theorem dX7_sheet_50 : decode cX7_sheet 50 = .ok (.bipush (-14), 2) := by decide +kernel
theorem dX7_sheet_52 : decode cX7_sheet 52 = .ok (.ireturn, 1) := by decide +kernel
theorem dX7_sheet_53 : decode cX7_sheet 53 = .ok (.aload_n 0, 1) := by decide +kernel
theorem dX7_sheet_54 : decode cX7_sheet 54 = .ok (.getfield 46, 3) := by decide +kernel
theorem dX7_sheet_57 : decode cX7_sheet 57 = .ok (.iload_n 1, 1) := by decide +kernel
theorem dX7_sheet_58 : decode cX7_sheet 58 = .ok (.aaload, 1) := by decide +kernel
theorem dX7_sheet_59 : decode cX7_sheet 59 = .ok (.iload_n 2, 1) := by decide +kernel
theorem dX7_sheet_60 : decode cX7_sheet 60 = .ok (.iload_n 3, 1) := by decide +kernel
theorem dX7_sheet_61 : decode cX7_sheet 61 = .ok (.invokevirtual 270, 3) := by decide +kernel
theorem dX7_sheet_64 : decode cX7_sheet 64 = .ok (.iconst 1, 1) := by decide +kernel
theorem dX7_sheet_65 : decode cX7_sheet 65 = .ok (.ireturn, 1) := by decide +kernel
theorem dX7_cell_0 : decode cX7_cell 0 = .ok (.iload_n 1, 1) := by decide +kernel
theorem dX7_cell_1 : decode cX7_cell 1 = .ok (.invokestatic 224, 3) := by decide +kernel
theorem dX7_cell_4 : decode cX7_cell 4 = .ok (.ifCond .ne 6, 3) := by decide +kernel
theorem dX7_cell_7 : decode cX7_cell 7 = .ok (.bipush (-2), 2) := by decide +kernel
theorem dX7_cell_9 : decode cX7_cell 9 = .ok (.ireturn, 1) := by decide +kernel
theorem dX7_cell_10 : decode cX7_cell 10 = .ok (.aload_n 0, 1) := by decide +kernel
theorem dX7_cell_11 : decode cX7_cell 11 = .ok (.getfield 46, 3) := by decide +kernel
theorem dX7_cell_14 : decode cX7_cell 14 = .ok (.iload_n 1, 1) := by decide +kernel
theorem dX7_cell_15 : decode cX7_cell 15 = .ok (.aaload, 1) := by decide +kernel
theorem dX7_cell_16 : decode cX7_cell 16 = .ok (.astore 4, 2) := by decide +kernel
theorem dX7_cell_18 : decode cX7_cell 18 = .ok (.aload 4, 2) := by decide +kernel
theorem dX7_cell_20 : decode cX7_cell 20 = .ok (.invokevirtual 227, 3) := by decide +kernel
theorem dX7_cell_23 : decode cX7_cell 23 = .ok (.ifCond .eq 6, 3) := by decide +kernel
theorem dX7_cell_26 : decode cX7_cell 26 = .ok (.bipush (-11), 2) := by decide +kernel
theorem dX7_cell_28 : decode cX7_cell 28 = .ok (.ireturn, 1) := by decide +kernel
theorem dX7_cell_29 : decode cX7_cell 29 = .ok (.aload 4, 2) := by decide +kernel
theorem dX7_cell_31 : decode cX7_cell 31 = .ok (.iload_n 2, 1) := by decide +kernel
theorem dX7_cell_32 : decode cX7_cell 32 = .ok (.iconst 1, 1) := by decide +kernel
theorem dX7_cell_33 : decode cX7_cell 33 = .ok (.invokevirtual 274, 3) := by decide +kernel
theorem dX7_cell_36 : decode cX7_cell 36 = .ok (.ifCond .ne 6, 3) := by decide +kernel
theorem dX7_cell_39 : decode cX7_cell 39 = .ok (.bipush (-12), 2) := by decide +kernel
theorem dX7_cell_41 : decode cX7_cell 41 = .ok (.ireturn, 1) := by decide +kernel
theorem dX7_cell_42 : decode cX7_cell 42 = .ok (.aload 4, 2) := by decide +kernel
theorem dX7_cell_44 : decode cX7_cell 44 = .ok (.iload_n 2, 1) := by decide +kernel
theorem dX7_cell_45 : decode cX7_cell 45 = .ok (.iload_n 3, 1) := by decide +kernel
theorem dX7_cell_46 : decode cX7_cell 46 = .ok (.invokevirtual 277, 3) := by decide +kernel
theorem dX7_cell_49 : decode cX7_cell 49 = .ok (.iconst 1, 1) := by decide +kernel
theorem dX7_cell_50 : decode cX7_cell 50 = .ok (.ireturn, 1) := by decide +kernel
theorem dX7_copy_0 : decode cX7_copy 0 = .ok (.iload_n 1, 1) := by decide +kernel
theorem dX7_copy_1 : decode cX7_copy 1 = .ok (.invokestatic 224, 3) := by decide +kernel
theorem dX7_copy_4 : decode cX7_copy 4 = .ok (.ifCond .eq 10, 3) := by decide +kernel
theorem dX7_copy_7 : decode cX7_copy 7 = .ok (.iload_n 3, 1) := by decide +kernel
theorem dX7_copy_8 : decode cX7_copy 8 = .ok (.invokestatic 224, 3) := by decide +kernel
theorem dX7_copy_11 : decode cX7_copy 11 = .ok (.ifCond .ne 6, 3) := by decide +kernel
theorem dX7_copy_14 : decode cX7_copy 14 = .ok (.bipush (-2), 2) := by decide +kernel
theorem dX7_copy_16 : decode cX7_copy 16 = .ok (.ireturn, 1) := by decide +kernel
theorem dX7_copy_17 : decode cX7_copy 17 = .ok (.aload_n 0, 1) := by decide +kernel
theorem dX7_copy_18 : decode cX7_copy 18 = .ok (.getfield 46, 3) := by decide +kernel
theorem dX7_copy_21 : decode cX7_copy 21 = .ok (.iload_n 1, 1) := by decide +kernel
theorem dX7_copy_22 : decode cX7_copy 22 = .ok (.aaload, 1) := by decide +kernel
theorem dX7_copy_23 : decode cX7_copy 23 = .ok (.astore 6, 2) := by decide +kernel
theorem dX7_copy_25 : decode cX7_copy 25 = .ok (.aload_n 0, 1) := by decide +kernel
theorem dX7_copy_26 : decode cX7_copy 26 = .ok (.getfield 46, 3) := by decide +kernel
theorem dX7_copy_29 : decode cX7_copy 29 = .ok (.iload_n 3, 1) := by decide +kernel
theorem dX7_copy_30 : decode cX7_copy 30 = .ok (.aaload, 1) := by decide +kernel
theorem dX7_copy_31 : decode cX7_copy 31 = .ok (.astore 7, 2) := by decide +kernel
theorem dX7_copy_33 : decode cX7_copy 33 = .ok (.aload 6, 2) := by decide +kernel
theorem dX7_copy_35 : decode cX7_copy 35 = .ok (.invokevirtual 227, 3) := by decide +kernel
theorem dX7_copy_38 : decode cX7_copy 38 = .ok (.ifCond .ne 11, 3) := by decide +kernel
theorem dX7_copy_41 : decode cX7_copy 41 = .ok (.aload 7, 2) := by decide +kernel
theorem dX7_copy_43 : decode cX7_copy 43 = .ok (.invokevirtual 227, 3) := by decide +kernel
theorem dX7_copy_46 : decode cX7_copy 46 = .ok (.ifCond .eq 6, 3) := by decide +kernel
theorem dX7_copy_49 : decode cX7_copy 49 = .ok (.bipush (-11), 2) := by decide +kernel
theorem dX7_copy_51 : decode cX7_copy 51 = .ok (.ireturn, 1) := by decide +kernel
theorem dX7_copy_52 : decode cX7_copy 52 = .ok (.aload 6, 2) := by decide +kernel
theorem dX7_copy_54 : decode cX7_copy 54 = .ok (.getfield 280, 3) := by decide +kernel
theorem dX7_copy_57 : decode cX7_copy 57 = .ok (.aload 7, 2) := by decide +kernel
theorem dX7_copy_59 : decode cX7_copy 59 = .ok (.getfield 280, 3) := by decide +kernel
theorem dX7_copy_62 : decode cX7_copy 62 = .ok (.if_icmp .eq 6, 3) := by decide +kernel
theorem dX7_copy_65 : decode cX7_copy 65 = .ok (.bipush (-13), 2) := by decide +kernel
theorem dX7_copy_67 : decode cX7_copy 67 = .ok (.ireturn, 1) := by decide +kernel
theorem dX7_copy_68 : decode cX7_copy 68 = .ok (.aload 6, 2) := by decide +kernel
theorem dX7_copy_70 : decode cX7_copy 70 = .ok (.iload_n 2, 1) := by decide +kernel
theorem dX7_copy_71 : decode cX7_copy 71 = .ok (.iload 5, 2) := by decide +kernel
theorem dX7_copy_73 : decode cX7_copy 73 = .ok (.invokevirtual 274, 3) := by decide +kernel
theorem dX7_copy_76 : decode cX7_copy 76 = .ok (.ifCond .eq 15, 3) := by decide +kernel
theorem dX7_copy_79 : decode cX7_copy 79 = .ok (.aload 7, 2) := by decide +kernel
theorem dX7_copy_81 : decode cX7_copy 81 = .ok (.iload 4, 2) := by decide +kernel
theorem dX7_copy_83 : decode cX7_copy 83 = .ok (.iload 5, 2) := by decide +kernel
theorem dX7_copy_85 : decode cX7_copy 85 = .ok (.invokevirtual 274, 3) := by decide +kernel
theorem dX7_copy_88 : decode cX7_copy 88 = .ok (.ifCond .ne 6, 3) := by decide +kernel
theorem dX7_copy_91 : decode cX7_copy 91 = .ok (.bipush (-12), 2) := by decide +kernel
theorem dX7_copy_93 : decode cX7_copy 93 = .ok (.ireturn, 1) := by decide +kernel
theorem dX7_copy_94 : decode cX7_copy 94 = .ok (.aload 6, 2) := by decide +kernel
theorem dX7_copy_96 : decode cX7_copy 96 = .ok (.getfield 232, 3) := by decide +kernel
theorem dX7_copy_99 : decode cX7_copy 99 = .ok (.iload_n 2, 1) := by decide +kernel
theorem dX7_copy_100 : decode cX7_copy 100 = .ok (.aload 7, 2) := by decide +kernel
theorem dX7_copy_102 : decode cX7_copy 102 = .ok (.getfield 232, 3) := by decide +kernel
theorem dX7_copy_105 : decode cX7_copy 105 = .ok (.iload 4, 2) := by decide +kernel
theorem dX7_copy_107 : decode cX7_copy 107 = .ok (.iload 5, 2) := by decide +kernel
theorem dX7_copy_109 : decode cX7_copy 109 = .ok (.invokestatic 283, 3) := by decide +kernel
theorem dX7_copy_112 : decode cX7_copy 112 = .ok (.iload 5, 2) := by decide +kernel
theorem dX7_copy_114 : decode cX7_copy 114 = .ok (.ireturn, 1) := by decide +kernel
theorem dX7_likings_0 : decode cX7_likings 0 = .ok (.iload_n 1, 1) := by decide +kernel
theorem dX7_likings_1 : decode cX7_likings 1 = .ok (.invokestatic 224, 3) := by decide +kernel
theorem dX7_likings_4 : decode cX7_likings 4 = .ok (.ifCond .eq 23, 3) := by decide +kernel
theorem dX7_likings_7 : decode cX7_likings 7 = .ok (.iload_n 2, 1) := by decide +kernel
theorem dX7_likings_8 : decode cX7_likings 8 = .ok (.iconst 0, 1) := by decide +kernel
theorem dX7_likings_9 : decode cX7_likings 9 = .ok (.iconst 2, 1) := by decide +kernel
theorem dX7_likings_10 : decode cX7_likings 10 = .ok (.invokestatic 102, 3) := by decide +kernel
theorem dX7_likings_13 : decode cX7_likings 13 = .ok (.ifCond .eq 14, 3) := by decide +kernel
theorem dX7_likings_16 : decode cX7_likings 16 = .ok (.iload 4, 2) := by decide +kernel
theorem dX7_likings_18 : decode cX7_likings 18 = .ok (.iconst 0, 1) := by decide +kernel
theorem dX7_likings_19 : decode cX7_likings 19 = .ok (.bipush 10, 2) := by decide +kernel
theorem dX7_likings_21 : decode cX7_likings 21 = .ok (.invokestatic 102, 3) := by decide +kernel
theorem dX7_likings_24 : decode cX7_likings 24 = .ok (.ifCond .ne 6, 3) := by decide +kernel
theorem dX7_likings_27 : decode cX7_likings 27 = .ok (.bipush (-2), 2) := by decide +kernel
theorem dX7_likings_29 : decode cX7_likings 29 = .ok (.ireturn, 1) := by decide +kernel
theorem dX7_likings_30 : decode cX7_likings 30 = .ok (.aload_n 0, 1) := by decide +kernel
theorem dX7_likings_31 : decode cX7_likings 31 = .ok (.getfield 46, 3) := by decide +kernel
theorem dX7_likings_34 : decode cX7_likings 34 = .ok (.iload_n 1, 1) := by decide +kernel
theorem dX7_likings_35 : decode cX7_likings 35 = .ok (.aaload, 1) := by decide +kernel
theorem dX7_likings_36 : decode cX7_likings 36 = .ok (.astore 5, 2) := by decide +kernel
theorem dX7_likings_38 : decode cX7_likings 38 = .ok (.aload 5, 2) := by decide +kernel
theorem dX7_likings_40 : decode cX7_likings 40 = .ok (.invokevirtual 227, 3) := by decide +kernel
theorem dX7_likings_43 : decode cX7_likings 43 = .ok (.ifCond .eq 6, 3) := by decide +kernel
theorem dX7_likings_46 : decode cX7_likings 46 = .ok (.bipush (-11), 2) := by decide +kernel
theorem dX7_likings_48 : decode cX7_likings 48 = .ok (.ireturn, 1) := by decide +kernel
theorem dX7_likings_49 : decode cX7_likings 49 = .ok (.aload 5, 2) := by decide +kernel
theorem dX7_likings_51 : decode cX7_likings 51 = .ok (.getfield 280, 3) := by decide +kernel
theorem dX7_likings_54 : decode cX7_likings 54 = .ok (.iload_n 2, 1) := by decide +kernel
theorem dX7_likings_55 : decode cX7_likings 55 = .ok (.if_icmp .eq 6, 3) := by decide +kernel
theorem dX7_likings_58 : decode cX7_likings 58 = .ok (.bipush (-13), 2) := by decide +kernel
theorem dX7_likings_60 : decode cX7_likings 60 = .ok (.ireturn, 1) := by decide +kernel
theorem dX7_likings_61 : decode cX7_likings 61 = .ok (.iconst 0, 1) := by decide +kernel
theorem dX7_likings_62 : decode cX7_likings 62 = .ok (.istore 6, 2) := by decide +kernel
theorem dX7_likings_64 : decode cX7_likings 64 = .ok (.iconst 0, 1) := by decide +kernel
theorem dX7_likings_65 : decode cX7_likings 65 = .ok (.istore 7, 2) := by decide +kernel
theorem dX7_likings_67 : decode cX7_likings 67 = .ok (.iload 7, 2) := by decide +kernel
theorem dX7_likings_69 : decode cX7_likings 69 = .ok (.iload 4, 2) := by decide +kernel
theorem dX7_likings_71 : decode cX7_likings 71 = .ok (.if_icmp .ge 76, 3) := by decide +kernel
theorem dX7_likings_74 : decode cX7_likings 74 = .ok (.iload_n 3, 1) := by decide +kernel
theorem dX7_likings_75 : decode cX7_likings 75 = .ok (.iconst 4, 1) := by decide +kernel
theorem dX7_likings_76 : decode cX7_likings 76 = .ok (.iload 7, 2) := by decide +kernel
theorem dX7_likings_78 : decode cX7_likings 78 = .ok (.imul, 1) := by decide +kernel
theorem dX7_likings_79 : decode cX7_likings 79 = .ok (.iadd, 1) := by decide +kernel
theorem dX7_likings_80 : decode cX7_likings 80 = .ok (.istore 8, 2) := by decide +kernel
theorem dX7_likings_82 : decode cX7_likings 82 = .ok (.aload 5, 2) := by decide +kernel
theorem dX7_likings_84 : decode cX7_likings 84 = .ok (.iload 8, 2) := by decide +kernel
theorem dX7_likings_86 : decode cX7_likings 86 = .ok (.iconst 4, 1) := by decide +kernel
theorem dX7_likings_87 : decode cX7_likings 87 = .ok (.invokevirtual 274, 3) := by decide +kernel
theorem dX7_likings_90 : decode cX7_likings 90 = .ok (.ifCond .ne 6, 3) := by decide +kernel
theorem dX7_likings_93 : decode cX7_likings 93 = .ok (.bipush (-12), 2) := by decide +kernel
theorem dX7_likings_95 : decode cX7_likings 95 = .ok (.ireturn, 1) := by decide +kernel
theorem dX7_likings_96 : decode cX7_likings 96 = .ok (.aload 5, 2) := by decide +kernel
theorem dX7_likings_98 : decode cX7_likings 98 = .ok (.getfield 232, 3) := by decide +kernel
theorem dX7_likings_101 : decode cX7_likings 101 = .ok (.astore 9, 2) := by decide +kernel
theorem dX7_likings_103 : decode cX7_likings 103 = .ok (.aload_n 0, 1) := by decide +kernel
theorem dX7_likings_104 : decode cX7_likings 104 = .ok (.aload 9, 2) := by decide +kernel
theorem dX7_likings_106 : decode cX7_likings 106 = .ok (.iload 8, 2) := by decide +kernel
theorem dX7_likings_108 : decode cX7_likings 108 = .ok (.iaload, 1) := by decide +kernel
theorem dX7_likings_109 : decode cX7_likings 109 = .ok (.aload 9, 2) := by decide +kernel
theorem dX7_likings_111 : decode cX7_likings 111 = .ok (.iload 8, 2) := by decide +kernel
theorem dX7_likings_113 : decode cX7_likings 113 = .ok (.iconst 1, 1) := by decide +kernel
theorem dX7_likings_114 : decode cX7_likings 114 = .ok (.iadd, 1) := by decide +kernel
theorem dX7_likings_115 : decode cX7_likings 115 = .ok (.iaload, 1) := by decide +kernel
theorem dX7_likings_116 : decode cX7_likings 116 = .ok (.aload 9, 2) := by decide +kernel
theorem dX7_likings_118 : decode cX7_likings 118 = .ok (.iload 8, 2) := by decide +kernel
theorem dX7_likings_120 : decode cX7_likings 120 = .ok (.iconst 2, 1) := by decide +kernel
theorem dX7_likings_121 : decode cX7_likings 121 = .ok (.iadd, 1) := by decide +kernel
theorem dX7_likings_122 : decode cX7_likings 122 = .ok (.iaload, 1) := by decide +kernel
theorem dX7_likings_123 : decode cX7_likings 123 = .ok (.aload 9, 2) := by decide +kernel
theorem dX7_likings_125 : decode cX7_likings 125 = .ok (.iload 8, 2) := by decide +kernel
theorem dX7_likings_127 : decode cX7_likings 127 = .ok (.iconst 3, 1) := by decide +kernel
theorem dX7_likings_128 : decode cX7_likings 128 = .ok (.iadd, 1) := by decide +kernel
theorem dX7_likings_129 : decode cX7_likings 129 = .ok (.iaload, 1) := by decide +kernel
theorem dX7_likings_130 : decode cX7_likings 130 = .ok (.invokevirtual 289, 3) := by decide +kernel
theorem dX7_likings_133 : decode cX7_likings 133 = .ok (.bipush (-2), 2) := by decide +kernel
theorem dX7_likings_135 : decode cX7_likings 135 = .ok (.if_icmp .eq 6, 3) := by decide +kernel
theorem dX7_likings_138 : decode cX7_likings 138 = .ok (.iinc 6 1, 3) := by decide +kernel
theorem dX7_likings_141 : decode cX7_likings 141 = .ok (.iinc 7 1, 3) := by decide +kernel
theorem dX7_likings_144 : decode cX7_likings 144 = .ok (.goto (-77), 3) := by decide +kernel
theorem dX7_likings_147 : decode cX7_likings 147 = .ok (.iload 6, 2) := by decide +kernel
theorem dX7_likings_149 : decode cX7_likings 149 = .ok (.ireturn, 1) := by decide +kernel
theorem dX7_taken_0 : decode cX7_taken 0 = .ok (.iload_n 2, 1) := by decide +kernel
theorem dX7_taken_1 : decode cX7_taken 1 = .ok (.iconst 0, 1) := by decide +kernel
theorem dX7_taken_2 : decode cX7_taken 2 = .ok (.iconst 5, 1) := by decide +kernel
theorem dX7_taken_3 : decode cX7_taken 3 = .ok (.invokestatic 102, 3) := by decide +kernel
theorem dX7_taken_6 : decode cX7_taken 6 = .ok (.ifCond .ne 6, 3) := by decide +kernel
theorem dX7_taken_9 : decode cX7_taken 9 = .ok (.bipush (-2), 2) := by decide +kernel
theorem dX7_taken_11 : decode cX7_taken 11 = .ok (.ireturn, 1) := by decide +kernel
theorem dX7_taken_12 : decode cX7_taken 12 = .ok (.aload_n 0, 1) := by decide +kernel
theorem dX7_taken_13 : decode cX7_taken 13 = .ok (.iload_n 1, 1) := by decide +kernel
theorem dX7_taken_14 : decode cX7_taken 14 = .ok (.invokevirtual 144, 3) := by decide +kernel
theorem dX7_taken_17 : decode cX7_taken 17 = .ok (.ifCond .ne 6, 3) := by decide +kernel
theorem dX7_taken_20 : decode cX7_taken 20 = .ok (.bipush (-11), 2) := by decide +kernel
theorem dX7_taken_22 : decode cX7_taken 22 = .ok (.ireturn, 1) := by decide +kernel
theorem dX7_taken_23 : decode cX7_taken 23 = .ok (.aload_n 0, 1) := by decide +kernel
theorem dX7_taken_24 : decode cX7_taken 24 = .ok (.getfield 92, 3) := by decide +kernel
theorem dX7_taken_27 : decode cX7_taken 27 = .ok (.getfield 117, 3) := by decide +kernel
theorem dX7_taken_30 : decode cX7_taken 30 = .ok (.iload_n 1, 1) := by decide +kernel
theorem dX7_taken_31 : decode cX7_taken 31 = .ok (.iaload, 1) := by decide +kernel
theorem dX7_taken_32 : decode cX7_taken 32 = .ok (.iload_n 2, 1) := by decide +kernel
theorem dX7_taken_33 : decode cX7_taken 33 = .ok (.invokestatic 293, 3) := by decide +kernel
theorem dX7_taken_36 : decode cX7_taken 36 = .ok (.ifCond .eq 15, 3) := by decide +kernel
theorem dX7_taken_39 : decode cX7_taken 39 = .ok (.aload_n 0, 1) := by decide +kernel
theorem dX7_taken_40 : decode cX7_taken 40 = .ok (.getfield 92, 3) := by decide +kernel
theorem dX7_taken_43 : decode cX7_taken 43 = .ok (.getfield 120, 3) := by decide +kernel
theorem dX7_taken_46 : decode cX7_taken 46 = .ok (.iload_n 1, 1) := by decide +kernel
theorem dX7_taken_47 : decode cX7_taken 47 = .ok (.iaload, 1) := by decide +kernel
theorem dX7_taken_48 : decode cX7_taken 48 = .ok (.goto 5, 3) := by decide +kernel
theorem dX7_taken_51 : decode cX7_taken 51 = .ok (.bipush (-13), 2) := by decide +kernel
theorem dX7_taken_53 : decode cX7_taken 53 = .ok (.ireturn, 1) := by decide +kernel
theorem dX7_within_0 : decode cX7_within 0 = .ok (.iload_n 1, 1) := by decide +kernel
theorem dX7_within_1 : decode cX7_within 1 = .ok (.iload_n 0, 1) := by decide +kernel
theorem dX7_within_2 : decode cX7_within 2 = .ok (.if_icmp .gt 12, 3) := by decide +kernel
theorem dX7_within_5 : decode cX7_within 5 = .ok (.iload_n 0, 1) := by decide +kernel
theorem dX7_within_6 : decode cX7_within 6 = .ok (.iload_n 2, 1) := by decide +kernel
theorem dX7_within_7 : decode cX7_within 7 = .ok (.if_icmp .gt 7, 3) := by decide +kernel
theorem dX7_within_10 : decode cX7_within 10 = .ok (.iconst 1, 1) := by decide +kernel
theorem dX7_within_11 : decode cX7_within 11 = .ok (.goto 4, 3) := by decide +kernel
theorem dX7_within_14 : decode cX7_within 14 = .ok (.iconst 0, 1) := by decide +kernel
theorem dX7_within_15 : decode cX7_within 15 = .ok (.ireturn, 1) := by decide +kernel
theorem dX7_isMan_0 : decode cX7_isMan 0 = .ok (.iload_n 1, 1) := by decide +kernel
theorem dX7_isMan_1 : decode cX7_isMan 1 = .ok (.iconst 0, 1) := by decide +kernel
theorem dX7_isMan_2 : decode cX7_isMan 2 = .ok (.aload_n 0, 1) := by decide +kernel
theorem dX7_isMan_3 : decode cX7_isMan 3 = .ok (.getfield 92, 3) := by decide +kernel
theorem dX7_isMan_6 : decode cX7_isMan 6 = .ok (.getfield 106, 3) := by decide +kernel
theorem dX7_isMan_9 : decode cX7_isMan 9 = .ok (.iconst 1, 1) := by decide +kernel
theorem dX7_isMan_10 : decode cX7_isMan 10 = .ok (.isub, 1) := by decide +kernel
theorem dX7_isMan_11 : decode cX7_isMan 11 = .ok (.invokestatic 102, 3) := by decide +kernel
theorem dX7_isMan_14 : decode cX7_isMan 14 = .ok (.ireturn, 1) := by decide +kernel
theorem dX7_isMaid_0 : decode cX7_isMaid 0 = .ok (.iload_n 1, 1) := by decide +kernel
theorem dX7_isMaid_1 : decode cX7_isMaid 1 = .ok (.iconst 0, 1) := by decide +kernel
theorem dX7_isMaid_2 : decode cX7_isMaid 2 = .ok (.aload_n 0, 1) := by decide +kernel
theorem dX7_isMaid_3 : decode cX7_isMaid 3 = .ok (.getfield 92, 3) := by decide +kernel
theorem dX7_isMaid_6 : decode cX7_isMaid 6 = .ok (.getfield 114, 3) := by decide +kernel
theorem dX7_isMaid_9 : decode cX7_isMaid 9 = .ok (.iconst 1, 1) := by decide +kernel
theorem dX7_isMaid_10 : decode cX7_isMaid 10 = .ok (.isub, 1) := by decide +kernel
theorem dX7_isMaid_11 : decode cX7_isMaid 11 = .ok (.invokestatic 102, 3) := by decide +kernel
theorem dX7_isMaid_14 : decode cX7_isMaid 14 = .ok (.ireturn, 1) := by decide +kernel
theorem dX7_arePair_0 : decode cX7_arePair 0 = .ok (.aload_n 0, 1) := by decide +kernel
theorem dX7_arePair_1 : decode cX7_arePair 1 = .ok (.iload_n 1, 1) := by decide +kernel
theorem dX7_arePair_2 : decode cX7_arePair 2 = .ok (.invokevirtual 141, 3) := by decide +kernel
theorem dX7_arePair_5 : decode cX7_arePair 5 = .ok (.ifCond .eq 15, 3) := by decide +kernel
theorem dX7_arePair_8 : decode cX7_arePair 8 = .ok (.aload_n 0, 1) := by decide +kernel
theorem dX7_arePair_9 : decode cX7_arePair 9 = .ok (.iload_n 2, 1) := by decide +kernel
theorem dX7_arePair_10 : decode cX7_arePair 10 = .ok (.invokevirtual 144, 3) := by decide +kernel
theorem dX7_arePair_13 : decode cX7_arePair 13 = .ok (.ifCond .eq 7, 3) := by decide +kernel
theorem dX7_arePair_16 : decode cX7_arePair 16 = .ok (.iconst 1, 1) := by decide +kernel
theorem dX7_arePair_17 : decode cX7_arePair 17 = .ok (.goto 4, 3) := by decide +kernel
theorem dX7_arePair_20 : decode cX7_arePair 20 = .ok (.iconst 0, 1) := by decide +kernel
theorem dX7_arePair_21 : decode cX7_arePair 21 = .ok (.ireturn, 1) := by decide +kernel
theorem dX7_isSheet_0 : decode cX7_isSheet 0 = .ok (.iload_n 0, 1) := by decide +kernel
theorem dX7_isSheet_1 : decode cX7_isSheet 1 = .ok (.iconst 0, 1) := by decide +kernel
theorem dX7_isSheet_2 : decode cX7_isSheet 2 = .ok (.iconst 3, 1) := by decide +kernel
theorem dX7_isSheet_3 : decode cX7_isSheet 3 = .ok (.invokestatic 102, 3) := by decide +kernel
theorem dX7_isSheet_6 : decode cX7_isSheet 6 = .ok (.ireturn, 1) := by decide +kernel
theorem dX7_replace_0 : decode cX7_replace 0 = .ok (.aload_n 0, 1) := by decide +kernel
theorem dX7_replace_1 : decode cX7_replace 1 = .ok (.iload_n 1, 1) := by decide +kernel
theorem dX7_replace_2 : decode cX7_replace 2 = .ok (.iaload, 1) := by decide +kernel
theorem dX7_replace_3 : decode cX7_replace 3 = .ok (.istore_n 3, 1) := by decide +kernel
theorem dX7_replace_4 : decode cX7_replace 4 = .ok (.aload_n 0, 1) := by decide +kernel
theorem dX7_replace_5 : decode cX7_replace 5 = .ok (.iload_n 1, 1) := by decide +kernel
theorem dX7_replace_6 : decode cX7_replace 6 = .ok (.iload_n 2, 1) := by decide +kernel
theorem dX7_replace_7 : decode cX7_replace 7 = .ok (.iastore, 1) := by decide +kernel
theorem dX7_replace_8 : decode cX7_replace 8 = .ok (.iload_n 3, 1) := by decide +kernel
theorem dX7_replace_9 : decode cX7_replace 9 = .ok (.ireturn, 1) := by decide +kernel
theorem dX7_replaceMonth_0 : decode cX7_replaceMonth 0 = .ok (.aload_n 0, 1) := by decide +kernel
theorem dX7_replaceMonth_1 : decode cX7_replaceMonth 1 = .ok (.getfield 92, 3) := by decide +kernel
theorem dX7_replaceMonth_4 : decode cX7_replaceMonth 4 = .ok (.getfield 267, 3) := by decide +kernel
theorem dX7_replaceMonth_7 : decode cX7_replaceMonth 7 = .ok (.istore_n 2, 1) := by decide +kernel
theorem dX7_replaceMonth_8 : decode cX7_replaceMonth 8 = .ok (.aload_n 0, 1) := by decide +kernel
theorem dX7_replaceMonth_9 : decode cX7_replaceMonth 9 = .ok (.getfield 92, 3) := by decide +kernel
theorem dX7_replaceMonth_12 : decode cX7_replaceMonth 12 = .ok (.iload_n 1, 1) := by decide +kernel
theorem dX7_replaceMonth_13 : decode cX7_replaceMonth 13 = .ok (.putfield 267, 3) := by decide +kernel
theorem dX7_replaceMonth_16 : decode cX7_replaceMonth 16 = .ok (.iload_n 2, 1) := by decide +kernel
theorem dX7_replaceMonth_17 : decode cX7_replaceMonth 17 = .ok (.ireturn, 1) := by decide +kernel
theorem dJ9_max_7cf53_0 : decode cJ9_max_7cf53 0 = .ok (.iload_n 0, 1) := by decide +kernel
theorem dJ9_max_7cf53_1 : decode cJ9_max_7cf53 1 = .ok (.iload_n 1, 1) := by decide +kernel
theorem dJ9_max_7cf53_2 : decode cJ9_max_7cf53 2 = .ok (.if_icmp .lt 7, 3) := by decide +kernel
theorem dJ9_max_7cf53_5 : decode cJ9_max_7cf53 5 = .ok (.iload_n 0, 1) := by decide +kernel
theorem dJ9_max_7cf53_6 : decode cJ9_max_7cf53 6 = .ok (.goto 4, 3) := by decide +kernel
theorem dJ9_max_7cf53_9 : decode cJ9_max_7cf53 9 = .ok (.iload_n 1, 1) := by decide +kernel
theorem dJ9_max_7cf53_10 : decode cJ9_max_7cf53 10 = .ok (.ireturn, 1) := by decide +kernel
theorem dJ9_min_7cf53_0 : decode cJ9_min_7cf53 0 = .ok (.iload_n 0, 1) := by decide +kernel
theorem dJ9_min_7cf53_1 : decode cJ9_min_7cf53 1 = .ok (.iload_n 1, 1) := by decide +kernel
theorem dJ9_min_7cf53_2 : decode cJ9_min_7cf53 2 = .ok (.if_icmp .gt 7, 3) := by decide +kernel
theorem dJ9_min_7cf53_5 : decode cJ9_min_7cf53 5 = .ok (.iload_n 0, 1) := by decide +kernel
theorem dJ9_min_7cf53_6 : decode cJ9_min_7cf53 6 = .ok (.goto 4, 3) := by decide +kernel
theorem dJ9_min_7cf53_9 : decode cJ9_min_7cf53 9 = .ok (.iload_n 1, 1) := by decide +kernel
theorem dJ9_min_7cf53_10 : decode cJ9_min_7cf53 10 = .ok (.ireturn, 1) := by decide +kernel
theorem dJ0_length_8abf5_0 : decode cJ0_length_8abf5 0 = .ok (.aload_n 0, 1) := by decide +kernel
theorem dJ0_length_8abf5_1 : decode cJ0_length_8abf5 1 = .ok (.getfield 9, 3) := by decide +kernel
theorem dJ0_length_8abf5_4 : decode cJ0_length_8abf5 4 = .ok (.arraylength, 1) := by decide +kernel
theorem dJ0_length_8abf5_5 : decode cJ0_length_8abf5 5 = .ok (.aload_n 0, 1) := by decide +kernel
theorem dJ0_length_8abf5_6 : decode cJ0_length_8abf5 6 = .ok (.invokevirtual 335, 3) := by decide +kernel
theorem dJ0_length_8abf5_9 : decode cJ0_length_8abf5 9 = .ok (.ishr, 1) := by decide +kernel
theorem dJ0_length_8abf5_10 : decode cJ0_length_8abf5 10 = .ok (.ireturn, 1) := by decide +kernel
theorem dJ0_charAt_5068e_0 : decode cJ0_charAt_5068e 0 = .ok (.aload_n 0, 1) := by decide +kernel
theorem dJ0_charAt_5068e_1 : decode cJ0_charAt_5068e 1 = .ok (.invokevirtual 492, 3) := by decide +kernel
theorem dJ0_charAt_5068e_4 : decode cJ0_charAt_5068e 4 = .ok (.ifCond .eq 12, 3) := by decide +kernel
theorem dJ0_charAt_5068e_7 : decode cJ0_charAt_5068e 7 = .ok (.aload_n 0, 1) := by decide +kernel
theorem dJ0_charAt_5068e_8 : decode cJ0_charAt_5068e 8 = .ok (.getfield 9, 3) := by decide +kernel
theorem dJ0_charAt_5068e_11 : decode cJ0_charAt_5068e 11 = .ok (.iload_n 1, 1) := by decide +kernel
theorem dJ0_charAt_5068e_12 : decode cJ0_charAt_5068e 12 = .ok (.invokestatic 495, 3) := by decide +kernel
theorem dJ0_charAt_5068e_15 : decode cJ0_charAt_5068e 15 = .ok (.ireturn, 1) := by decide +kernel
theorem dJ0_charAt_5068e_16 : decode cJ0_charAt_5068e 16 = .ok (.aload_n 0, 1) := by decide +kernel
theorem dJ0_charAt_5068e_17 : decode cJ0_charAt_5068e 17 = .ok (.getfield 9, 3) := by decide +kernel
theorem dJ0_charAt_5068e_20 : decode cJ0_charAt_5068e 20 = .ok (.iload_n 1, 1) := by decide +kernel
theorem dJ0_charAt_5068e_21 : decode cJ0_charAt_5068e 21 = .ok (.invokestatic 498, 3) := by decide +kernel
theorem dJ0_charAt_5068e_24 : decode cJ0_charAt_5068e 24 = .ok (.ireturn, 1) := by decide +kernel
theorem dJ0_coder_7d493_0 : decode cJ0_coder_7d493 0 = .ok (.getstatic 38, 3) := by decide +kernel
theorem dJ0_coder_7d493_3 : decode cJ0_coder_7d493 3 = .ok (.ifCond .eq 10, 3) := by decide +kernel
theorem dJ0_coder_7d493_6 : decode cJ0_coder_7d493 6 = .ok (.aload_n 0, 1) := by decide +kernel
theorem dJ0_coder_7d493_7 : decode cJ0_coder_7d493 7 = .ok (.getfield 15, 3) := by decide +kernel
theorem dJ0_coder_7d493_10 : decode cJ0_coder_7d493 10 = .ok (.goto 4, 3) := by decide +kernel
theorem dJ0_coder_7d493_13 : decode cJ0_coder_7d493 13 = .ok (.iconst 1, 1) := by decide +kernel
theorem dJ0_coder_7d493_14 : decode cJ0_coder_7d493 14 = .ok (.ireturn, 1) := by decide +kernel
theorem dJ0_isLatin1_aae02_0 : decode cJ0_isLatin1_aae02 0 = .ok (.getstatic 38, 3) := by decide +kernel
theorem dJ0_isLatin1_aae02_3 : decode cJ0_isLatin1_aae02 3 = .ok (.ifCond .eq 14, 3) := by decide +kernel
theorem dJ0_isLatin1_aae02_6 : decode cJ0_isLatin1_aae02 6 = .ok (.aload_n 0, 1) := by decide +kernel
theorem dJ0_isLatin1_aae02_7 : decode cJ0_isLatin1_aae02 7 = .ok (.getfield 15, 3) := by decide +kernel
theorem dJ0_isLatin1_aae02_10 : decode cJ0_isLatin1_aae02 10 = .ok (.ifCond .ne 7, 3) := by decide +kernel
theorem dJ0_isLatin1_aae02_13 : decode cJ0_isLatin1_aae02 13 = .ok (.iconst 1, 1) := by decide +kernel
theorem dJ0_isLatin1_aae02_14 : decode cJ0_isLatin1_aae02 14 = .ok (.goto 4, 3) := by decide +kernel
theorem dJ0_isLatin1_aae02_17 : decode cJ0_isLatin1_aae02 17 = .ok (.iconst 0, 1) := by decide +kernel
theorem dJ0_isLatin1_aae02_18 : decode cJ0_isLatin1_aae02 18 = .ok (.ireturn, 1) := by decide +kernel
theorem dJ0_checkIndex_df160_0 : decode cJ0_checkIndex_df160 0 = .ok (.iload_n 0, 1) := by decide +kernel
theorem dJ0_checkIndex_df160_1 : decode cJ0_checkIndex_df160 1 = .ok (.iload_n 1, 1) := by decide +kernel
theorem dJ0_checkIndex_df160_2 : decode cJ0_checkIndex_df160 2 = .ok (.getstatic 1053, 3) := by decide +kernel
theorem dJ0_checkIndex_df160_5 : decode cJ0_checkIndex_df160 5 = .ok (.invokestatic 1059, 3) := by decide +kernel
theorem dJ0_checkIndex_df160_8 : decode cJ0_checkIndex_df160 8 = .ok (.pop, 1) := by decide +kernel
theorem dJ0_checkIndex_df160_9 : decode cJ0_checkIndex_df160 9 = .ok (.return_, 1) := by decide +kernel
theorem dJ1_charAt_3b067_0 : decode cJ1_charAt_3b067 0 = .ok (.iload_n 1, 1) := by decide +kernel
theorem dJ1_charAt_3b067_1 : decode cJ1_charAt_3b067 1 = .ok (.aload_n 0, 1) := by decide +kernel
theorem dJ1_charAt_3b067_2 : decode cJ1_charAt_3b067 2 = .ok (.arraylength, 1) := by decide +kernel
theorem dJ1_charAt_3b067_3 : decode cJ1_charAt_3b067 3 = .ok (.invokestatic 9, 3) := by decide +kernel
theorem dJ1_charAt_3b067_6 : decode cJ1_charAt_3b067 6 = .ok (.aload_n 0, 1) := by decide +kernel
theorem dJ1_charAt_3b067_7 : decode cJ1_charAt_3b067 7 = .ok (.iload_n 1, 1) := by decide +kernel
theorem dJ1_charAt_3b067_8 : decode cJ1_charAt_3b067 8 = .ok (.baload, 1) := by decide +kernel
theorem dJ1_charAt_3b067_9 : decode cJ1_charAt_3b067 9 = .ok (.sipush 255, 3) := by decide +kernel
theorem dJ1_charAt_3b067_12 : decode cJ1_charAt_3b067 12 = .ok (.iand, 1) := by decide +kernel
theorem dJ1_charAt_3b067_13 : decode cJ1_charAt_3b067 13 = .ok (.i2c, 1) := by decide +kernel
theorem dJ1_charAt_3b067_14 : decode cJ1_charAt_3b067 14 = .ok (.ireturn, 1) := by decide +kernel
theorem dJ2_getChar_3b067_0 : decode cJ2_getChar_3b067 0 = .ok (.getstatic 44, 3) := by decide +kernel
theorem dJ2_getChar_3b067_3 : decode cJ2_getChar_3b067 3 = .ok (.ifCond .ne 25, 3) := by decide +kernel
theorem dJ2_getChar_3b067_6 : decode cJ2_getChar_3b067 6 = .ok (.iload_n 1, 1) := by decide +kernel
theorem dJ2_getChar_3b067_7 : decode cJ2_getChar_3b067 7 = .ok (.ifCond .lt 11, 3) := by decide +kernel
theorem dJ2_getChar_3b067_10 : decode cJ2_getChar_3b067 10 = .ok (.iload_n 1, 1) := by decide +kernel
theorem dJ2_getChar_3b067_11 : decode cJ2_getChar_3b067 11 = .ok (.aload_n 0, 1) := by decide +kernel
theorem dJ2_getChar_3b067_12 : decode cJ2_getChar_3b067 12 = .ok (.invokestatic 48, 3) := by decide +kernel
theorem dJ2_getChar_3b067_15 : decode cJ2_getChar_3b067 15 = .ok (.if_icmp .lt 13, 3) := by decide +kernel
theorem dJ2_getChar_3b067_18 : decode cJ2_getChar_3b067 18 = .ok (.new 52, 3) := by decide +kernel
theorem dJ2_getChar_3b067_21 : decode cJ2_getChar_3b067 21 = .ok (.dup, 1) := by decide +kernel
theorem dJ2_getChar_3b067_22 : decode cJ2_getChar_3b067 22 = .ok (.ldc 54, 2) := by decide +kernel
theorem dJ2_getChar_3b067_24 : decode cJ2_getChar_3b067 24 = .ok (.invokespecial 56, 3) := by decide +kernel
theorem dJ2_getChar_3b067_27 : decode cJ2_getChar_3b067 27 = .ok (.athrow, 1) := by decide +kernel
theorem dJ2_getChar_3b067_28 : decode cJ2_getChar_3b067 28 = .ok (.iload_n 1, 1) := by decide +kernel
theorem dJ2_getChar_3b067_29 : decode cJ2_getChar_3b067 29 = .ok (.iconst 1, 1) := by decide +kernel
theorem dJ2_getChar_3b067_30 : decode cJ2_getChar_3b067 30 = .ok (.ishl, 1) := by decide +kernel
theorem dJ2_getChar_3b067_31 : decode cJ2_getChar_3b067 31 = .ok (.istore_n 1, 1) := by decide +kernel
theorem dJ2_getChar_3b067_32 : decode cJ2_getChar_3b067 32 = .ok (.aload_n 0, 1) := by decide +kernel
theorem dJ2_getChar_3b067_33 : decode cJ2_getChar_3b067 33 = .ok (.iload_n 1, 1) := by decide +kernel
theorem dJ2_getChar_3b067_34 : decode cJ2_getChar_3b067 34 = .ok (.iinc 1 1, 3) := by decide +kernel
theorem dJ2_getChar_3b067_37 : decode cJ2_getChar_3b067 37 = .ok (.baload, 1) := by decide +kernel
theorem dJ2_getChar_3b067_38 : decode cJ2_getChar_3b067 38 = .ok (.sipush 255, 3) := by decide +kernel
theorem dJ2_getChar_3b067_41 : decode cJ2_getChar_3b067 41 = .ok (.iand, 1) := by decide +kernel
theorem dJ2_getChar_3b067_42 : decode cJ2_getChar_3b067 42 = .ok (.getstatic 59, 3) := by decide +kernel
theorem dJ2_getChar_3b067_45 : decode cJ2_getChar_3b067 45 = .ok (.ishl, 1) := by decide +kernel
theorem dJ2_getChar_3b067_46 : decode cJ2_getChar_3b067 46 = .ok (.aload_n 0, 1) := by decide +kernel
theorem dJ2_getChar_3b067_47 : decode cJ2_getChar_3b067 47 = .ok (.iload_n 1, 1) := by decide +kernel
theorem dJ2_getChar_3b067_48 : decode cJ2_getChar_3b067 48 = .ok (.baload, 1) := by decide +kernel
theorem dJ2_getChar_3b067_49 : decode cJ2_getChar_3b067 49 = .ok (.sipush 255, 3) := by decide +kernel
theorem dJ2_getChar_3b067_52 : decode cJ2_getChar_3b067 52 = .ok (.iand, 1) := by decide +kernel
theorem dJ2_getChar_3b067_53 : decode cJ2_getChar_3b067 53 = .ok (.getstatic 63, 3) := by decide +kernel
theorem dJ2_getChar_3b067_56 : decode cJ2_getChar_3b067 56 = .ok (.ishl, 1) := by decide +kernel
theorem dJ2_getChar_3b067_57 : decode cJ2_getChar_3b067 57 = .ok (.ior, 1) := by decide +kernel
theorem dJ2_getChar_3b067_58 : decode cJ2_getChar_3b067 58 = .ok (.i2c, 1) := by decide +kernel
theorem dJ2_getChar_3b067_59 : decode cJ2_getChar_3b067 59 = .ok (.ireturn, 1) := by decide +kernel
theorem dJ2_length_9d52b_0 : decode cJ2_length_9d52b 0 = .ok (.aload_n 0, 1) := by decide +kernel
theorem dJ2_length_9d52b_1 : decode cJ2_length_9d52b 1 = .ok (.arraylength, 1) := by decide +kernel
theorem dJ2_length_9d52b_2 : decode cJ2_length_9d52b 2 = .ok (.iconst 1, 1) := by decide +kernel
theorem dJ2_length_9d52b_3 : decode cJ2_length_9d52b 3 = .ok (.ishr, 1) := by decide +kernel
theorem dJ2_length_9d52b_4 : decode cJ2_length_9d52b 4 = .ok (.ireturn, 1) := by decide +kernel
theorem dJ2_charAt_3b067_0 : decode cJ2_charAt_3b067 0 = .ok (.iload_n 1, 1) := by decide +kernel
theorem dJ2_charAt_3b067_1 : decode cJ2_charAt_3b067 1 = .ok (.aload_n 0, 1) := by decide +kernel
theorem dJ2_charAt_3b067_2 : decode cJ2_charAt_3b067 2 = .ok (.invokestatic 67, 3) := by decide +kernel
theorem dJ2_charAt_3b067_5 : decode cJ2_charAt_3b067 5 = .ok (.aload_n 0, 1) := by decide +kernel
theorem dJ2_charAt_3b067_6 : decode cJ2_charAt_3b067 6 = .ok (.iload_n 1, 1) := by decide +kernel
theorem dJ2_charAt_3b067_7 : decode cJ2_charAt_3b067 7 = .ok (.invokestatic 71, 3) := by decide +kernel
theorem dJ2_charAt_3b067_10 : decode cJ2_charAt_3b067 10 = .ok (.ireturn, 1) := by decide +kernel
theorem dJ2_checkIndex_2214a_0 : decode cJ2_checkIndex_2214a 0 = .ok (.iload_n 0, 1) := by decide +kernel
theorem dJ2_checkIndex_2214a_1 : decode cJ2_checkIndex_2214a 1 = .ok (.aload_n 1, 1) := by decide +kernel
theorem dJ2_checkIndex_2214a_2 : decode cJ2_checkIndex_2214a 2 = .ok (.invokestatic 48, 3) := by decide +kernel
theorem dJ2_checkIndex_2214a_5 : decode cJ2_checkIndex_2214a 5 = .ok (.invokestatic 414, 3) := by decide +kernel
theorem dJ2_checkIndex_2214a_8 : decode cJ2_checkIndex_2214a 8 = .ok (.return_, 1) := by decide +kernel
theorem dJ7_fill_53178_0 : decode cJ7_fill_53178 0 = .ok (.iconst 0, 1) := by decide +kernel
theorem dJ7_fill_53178_1 : decode cJ7_fill_53178 1 = .ok (.istore_n 2, 1) := by decide +kernel
theorem dJ7_fill_53178_2 : decode cJ7_fill_53178 2 = .ok (.aload_n 0, 1) := by decide +kernel
theorem dJ7_fill_53178_3 : decode cJ7_fill_53178 3 = .ok (.arraylength, 1) := by decide +kernel
theorem dJ7_fill_53178_4 : decode cJ7_fill_53178 4 = .ok (.istore_n 3, 1) := by decide +kernel
theorem dJ7_fill_53178_5 : decode cJ7_fill_53178 5 = .ok (.iload_n 2, 1) := by decide +kernel
theorem dJ7_fill_53178_6 : decode cJ7_fill_53178 6 = .ok (.iload_n 3, 1) := by decide +kernel
theorem dJ7_fill_53178_7 : decode cJ7_fill_53178 7 = .ok (.if_icmp .ge 13, 3) := by decide +kernel
theorem dJ7_fill_53178_10 : decode cJ7_fill_53178 10 = .ok (.aload_n 0, 1) := by decide +kernel
theorem dJ7_fill_53178_11 : decode cJ7_fill_53178 11 = .ok (.iload_n 2, 1) := by decide +kernel
theorem dJ7_fill_53178_12 : decode cJ7_fill_53178 12 = .ok (.iload_n 1, 1) := by decide +kernel
theorem dJ7_fill_53178_13 : decode cJ7_fill_53178 13 = .ok (.iastore, 1) := by decide +kernel
theorem dJ7_fill_53178_14 : decode cJ7_fill_53178 14 = .ok (.iinc 2 1, 3) := by decide +kernel
theorem dJ7_fill_53178_17 : decode cJ7_fill_53178 17 = .ok (.goto (-12), 3) := by decide +kernel
theorem dJ7_fill_53178_20 : decode cJ7_fill_53178 20 = .ok (.return_, 1) := by decide +kernel
theorem dJ3_checkIndex_8e157_0 : decode cJ3_checkIndex_8e157 0 = .ok (.iload_n 0, 1) := by decide +kernel
theorem dJ3_checkIndex_8e157_1 : decode cJ3_checkIndex_8e157 1 = .ok (.ifCond .lt 8, 3) := by decide +kernel
theorem dJ3_checkIndex_8e157_4 : decode cJ3_checkIndex_8e157 4 = .ok (.iload_n 0, 1) := by decide +kernel
theorem dJ3_checkIndex_8e157_5 : decode cJ3_checkIndex_8e157 5 = .ok (.iload_n 1, 1) := by decide +kernel
theorem dJ3_checkIndex_8e157_6 : decode cJ3_checkIndex_8e157 6 = .ok (.if_icmp .lt 10, 3) := by decide +kernel
theorem dJ3_checkIndex_8e157_9 : decode cJ3_checkIndex_8e157 9 = .ok (.aload_n 2, 1) := by decide +kernel
theorem dJ3_checkIndex_8e157_10 : decode cJ3_checkIndex_8e157 10 = .ok (.iload_n 0, 1) := by decide +kernel
theorem dJ3_checkIndex_8e157_11 : decode cJ3_checkIndex_8e157 11 = .ok (.iload_n 1, 1) := by decide +kernel
theorem dJ3_checkIndex_8e157_12 : decode cJ3_checkIndex_8e157 12 = .ok (.invokestatic 95, 3) := by decide +kernel
theorem dJ3_checkIndex_8e157_15 : decode cJ3_checkIndex_8e157 15 = .ok (.athrow, 1) := by decide +kernel
theorem dJ3_checkIndex_8e157_16 : decode cJ3_checkIndex_8e157 16 = .ok (.iload_n 0, 1) := by decide +kernel
theorem dJ3_checkIndex_8e157_17 : decode cJ3_checkIndex_8e157 17 = .ok (.ireturn, 1) := by decide +kernel
