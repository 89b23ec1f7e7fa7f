theorem dX4_stands_9 : decode cX4_stands 9 = .ok (.aload_n 0, 1) := by decide +kernel
theorem dX4_stands_10 : decode cX4_stands 10 = .ok (.getfield 19, 3) := by decide +kernel
theorem dX4_stands_13 : decode cX4_stands 13 = .ok (.iload_n 1, 1) := by decide +kernel
theorem dX4_stands_14 : decode cX4_stands 14 = .ok (.invokevirtual 166, 3) := by decide +kernel
theorem dX4_stands_17 : decode cX4_stands 17 = .ok (.ireturn, 1) := by decide +kernel
theorem dX4_wants_0 : decode cX4_wants 0 = .ok (.iload_n 1, 1) := by decide +kernel
theorem dX4_wants_1 : decode cX4_wants 1 = .ok (.invokestatic 102, 3) := by decide +kernel
theorem dX4_wants_4 : decode cX4_wants 4 = .ok (.ifCond .ne 5, 3) := by decide +kernel
theorem dX4_wants_7 : decode cX4_wants 7 = .ok (.iconst (-1), 1) := by decide +kernel
theorem dX4_wants_8 : decode cX4_wants 8 = .ok (.ireturn, 1) := by decide +kernel
theorem dX4_wants_9 : decode cX4_wants 9 = .ok (.iload_n 2, 1) := by decide +kernel
theorem dX4_wants_10 : decode cX4_wants 10 = .ok (.ifCond .lt 8, 3) := by decide +kernel
theorem dX4_wants_13 : decode cX4_wants 13 = .ok (.iload_n 2, 1) := by decide +kernel
theorem dX4_wants_14 : decode cX4_wants 14 = .ok (.iconst 1, 1) := by decide +kernel
theorem dX4_wants_15 : decode cX4_wants 15 = .ok (.if_icmp .le 6, 3) := by decide +kernel
theorem dX4_wants_18 : decode cX4_wants 18 = .ok (.bipush (-2), 2) := by decide +kernel
theorem dX4_wants_20 : decode cX4_wants 20 = .ok (.ireturn, 1) := by decide +kernel
theorem dX4_wants_21 : decode cX4_wants 21 = .ok (.aload_n 0, 1) := by decide +kernel
theorem dX4_wants_22 : decode cX4_wants 22 = .ok (.getfield 19, 3) := by decide +kernel
theorem dX4_wants_25 : decode cX4_wants 25 = .ok (.iload_n 1, 1) := by decide +kernel
theorem dX4_wants_26 : decode cX4_wants 26 = .ok (.invokevirtual 169, 3) := by decide +kernel
theorem dX4_wants_29 : decode cX4_wants 29 = .ok (.istore_n 3, 1) := by decide +kernel
theorem dX4_wants_30 : decode cX4_wants 30 = .ok (.iload_n 3, 1) := by decide +kernel
theorem dX4_wants_31 : decode cX4_wants 31 = .ok (.invokestatic 172, 3) := by decide +kernel
theorem dX4_wants_34 : decode cX4_wants 34 = .ok (.istore 4, 2) := by decide +kernel
theorem dX4_wants_36 : decode cX4_wants 36 = .ok (.iload_n 2, 1) := by decide +kernel
theorem dX4_wants_37 : decode cX4_wants 37 = .ok (.ifCond .ne 8, 3) := by decide +kernel
theorem dX4_wants_40 : decode cX4_wants 40 = .ok (.iload 4, 2) := by decide +kernel
theorem dX4_wants_42 : decode cX4_wants 42 = .ok (.goto 13, 3) := by decide +kernel
theorem dX4_wants_45 : decode cX4_wants 45 = .ok (.iload 4, 2) := by decide +kernel
theorem dX4_wants_47 : decode cX4_wants 47 = .ok (.iload_n 3, 1) := by decide +kernel
theorem dX4_wants_48 : decode cX4_wants 48 = .ok (.ldc 177, 2) := by decide +kernel
theorem dX4_wants_50 : decode cX4_wants 50 = .ok (.iand, 1) := by decide +kernel
theorem dX4_wants_51 : decode cX4_wants 51 = .ok (.invokestatic 172, 3) := by decide +kernel
theorem dX4_wants_54 : decode cX4_wants 54 = .ok (.iadd, 1) := by decide +kernel
theorem dX4_wants_55 : decode cX4_wants 55 = .ok (.ireturn, 1) := by decide +kernel
theorem dX4_fit_0 : decode cX4_fit 0 = .ok (.iload_n 1, 1) := by decide +kernel
theorem dX4_fit_1 : decode cX4_fit 1 = .ok (.invokestatic 102, 3) := by decide +kernel
theorem dX4_fit_4 : decode cX4_fit 4 = .ok (.ifCond .ne 5, 3) := by decide +kernel
theorem dX4_fit_7 : decode cX4_fit 7 = .ok (.iconst (-1), 1) := by decide +kernel
theorem dX4_fit_8 : decode cX4_fit 8 = .ok (.ireturn, 1) := by decide +kernel
theorem dX4_fit_9 : decode cX4_fit 9 = .ok (.aload_n 0, 1) := by decide +kernel
theorem dX4_fit_10 : decode cX4_fit 10 = .ok (.getfield 19, 3) := by decide +kernel
theorem dX4_fit_13 : decode cX4_fit 13 = .ok (.iload_n 1, 1) := by decide +kernel
theorem dX4_fit_14 : decode cX4_fit 14 = .ok (.invokevirtual 105, 3) := by decide +kernel
theorem dX4_fit_17 : decode cX4_fit 17 = .ok (.ifCond .eq 6, 3) := by decide +kernel
theorem dX4_fit_20 : decode cX4_fit 20 = .ok (.bipush (-4), 2) := by decide +kernel
theorem dX4_fit_22 : decode cX4_fit 22 = .ok (.ireturn, 1) := by decide +kernel
theorem dX4_fit_23 : decode cX4_fit 23 = .ok (.iconst 0, 1) := by decide +kernel
theorem dX4_fit_24 : decode cX4_fit 24 = .ok (.istore_n 2, 1) := by decide +kernel
theorem dX4_fit_25 : decode cX4_fit 25 = .ok (.iload_n 2, 1) := by decide +kernel
theorem dX4_fit_26 : decode cX4_fit 26 = .ok (.iconst 4, 1) := by decide +kernel
theorem dX4_fit_27 : decode cX4_fit 27 = .ok (.if_icmp .ge 46, 3) := by decide +kernel
theorem dX4_fit_30 : decode cX4_fit 30 = .ok (.aload_n 0, 1) := by decide +kernel
theorem dX4_fit_31 : decode cX4_fit 31 = .ok (.getfield 23, 3) := by decide +kernel
theorem dX4_fit_34 : decode cX4_fit 34 = .ok (.aload_n 0, 1) := by decide +kernel
theorem dX4_fit_35 : decode cX4_fit 35 = .ok (.getfield 19, 3) := by decide +kernel
theorem dX4_fit_38 : decode cX4_fit 38 = .ok (.invokevirtual 69, 3) := by decide +kernel
theorem dX4_fit_41 : decode cX4_fit 41 = .ok (.aload_n 0, 1) := by decide +kernel
theorem dX4_fit_42 : decode cX4_fit 42 = .ok (.getfield 23, 3) := by decide +kernel
theorem dX4_fit_45 : decode cX4_fit 45 = .ok (.iload_n 1, 1) := by decide +kernel
theorem dX4_fit_46 : decode cX4_fit 46 = .ok (.iload_n 2, 1) := by decide +kernel
theorem dX4_fit_47 : decode cX4_fit 47 = .ok (.invokevirtual 124, 3) := by decide +kernel
theorem dX4_fit_50 : decode cX4_fit 50 = .ok (.ifCond .eq 17, 3) := by decide +kernel
theorem dX4_fit_53 : decode cX4_fit 53 = .ok (.aload_n 0, 1) := by decide +kernel
theorem dX4_fit_54 : decode cX4_fit 54 = .ok (.getfield 23, 3) := by decide +kernel
theorem dX4_fit_57 : decode cX4_fit 57 = .ok (.iload_n 1, 1) := by decide +kernel
theorem dX4_fit_58 : decode cX4_fit 58 = .ok (.iload_n 2, 1) := by decide +kernel
theorem dX4_fit_59 : decode cX4_fit 59 = .ok (.invokevirtual 131, 3) := by decide +kernel
theorem dX4_fit_62 : decode cX4_fit 62 = .ok (.ifCond .ne 5, 3) := by decide +kernel
theorem dX4_fit_65 : decode cX4_fit 65 = .ok (.iload_n 2, 1) := by decide +kernel
theorem dX4_fit_66 : decode cX4_fit 66 = .ok (.ireturn, 1) := by decide +kernel
theorem dX4_fit_67 : decode cX4_fit 67 = .ok (.iinc 2 1, 3) := by decide +kernel
theorem dX4_fit_70 : decode cX4_fit 70 = .ok (.goto (-45), 3) := by decide +kernel
theorem dX4_fit_73 : decode cX4_fit 73 = .ok (.bipush (-9), 2) := by decide +kernel
theorem dX4_fit_75 : decode cX4_fit 75 = .ok (.ireturn, 1) := by decide +kernel
theorem dX4_judge_0 : decode cX4_judge 0 = .ok (.iload_n 1, 1) := by decide +kernel
theorem dX4_judge_1 : decode cX4_judge 1 = .ok (.iconst 1, 1) := by decide +kernel
theorem dX4_judge_2 : decode cX4_judge 2 = .ok (.if_icmp .lt 8, 3) := by decide +kernel
theorem dX4_judge_5 : decode cX4_judge 5 = .ok (.iload_n 1, 1) := by decide +kernel
theorem dX4_judge_6 : decode cX4_judge 6 = .ok (.iconst 4, 1) := by decide +kernel
theorem dX4_judge_7 : decode cX4_judge 7 = .ok (.if_icmp .le 6, 3) := by decide +kernel
theorem dX4_judge_10 : decode cX4_judge 10 = .ok (.bipush (-2), 2) := by decide +kernel
theorem dX4_judge_12 : decode cX4_judge 12 = .ok (.ireturn, 1) := by decide +kernel
theorem dX4_judge_13 : decode cX4_judge 13 = .ok (.lload_n 2, 1) := by decide +kernel
theorem dX4_judge_14 : decode cX4_judge 14 = .ok (.lconst 0, 1) := by decide +kernel
theorem dX4_judge_15 : decode cX4_judge 15 = .ok (.lcmp, 1) := by decide +kernel
theorem dX4_judge_16 : decode cX4_judge 16 = .ok (.ifCond .lt 13, 3) := by decide +kernel
theorem dX4_judge_19 : decode cX4_judge 19 = .ok (.lload_n 2, 1) := by decide +kernel
theorem dX4_judge_20 : decode cX4_judge 20 = .ok (.getstatic 178, 3) := by decide +kernel
theorem dX4_judge_23 : decode cX4_judge 23 = .ok (.iload_n 1, 1) := by decide +kernel
theorem dX4_judge_24 : decode cX4_judge 24 = .ok (.laload, 1) := by decide +kernel
theorem dX4_judge_25 : decode cX4_judge 25 = .ok (.lcmp, 1) := by decide +kernel
theorem dX4_judge_26 : decode cX4_judge 26 = .ok (.ifCond .lt 6, 3) := by decide +kernel
theorem dX4_judge_29 : decode cX4_judge 29 = .ok (.bipush (-2), 2) := by decide +kernel
theorem dX4_judge_31 : decode cX4_judge 31 = .ok (.ireturn, 1) := by decide +kernel
theorem dX4_judge_32 : decode cX4_judge 32 = .ok (.aload_n 0, 1) := by decide +kernel
theorem dX4_judge_33 : decode cX4_judge 33 = .ok (.getfield 23, 3) := by decide +kernel
theorem dX4_judge_36 : decode cX4_judge 36 = .ok (.aload_n 0, 1) := by decide +kernel
theorem dX4_judge_37 : decode cX4_judge 37 = .ok (.getfield 19, 3) := by decide +kernel
theorem dX4_judge_40 : decode cX4_judge 40 = .ok (.invokevirtual 69, 3) := by decide +kernel
theorem dX4_judge_43 : decode cX4_judge 43 = .ok (.iconst 0, 1) := by decide +kernel
theorem dX4_judge_44 : decode cX4_judge 44 = .ok (.istore 4, 2) := by decide +kernel
theorem dX4_judge_46 : decode cX4_judge 46 = .ok (.iload 4, 2) := by decide +kernel
theorem dX4_judge_48 : decode cX4_judge 48 = .ok (.iload_n 1, 1) := by decide +kernel
theorem dX4_judge_49 : decode cX4_judge 49 = .ok (.if_icmp .ge 44, 3) := by decide +kernel
theorem dX4_judge_52 : decode cX4_judge 52 = .ok (.getstatic 178, 3) := by decide +kernel
theorem dX4_judge_55 : decode cX4_judge 55 = .ok (.iload_n 1, 1) := by decide +kernel
theorem dX4_judge_56 : decode cX4_judge 56 = .ok (.iconst 1, 1) := by decide +kernel
theorem dX4_judge_57 : decode cX4_judge 57 = .ok (.isub, 1) := by decide +kernel
theorem dX4_judge_58 : decode cX4_judge 58 = .ok (.iload 4, 2) := by decide +kernel
theorem dX4_judge_60 : decode cX4_judge 60 = .ok (.isub, 1) := by decide +kernel
theorem dX4_judge_61 : decode cX4_judge 61 = .ok (.laload, 1) := by decide +kernel
theorem dX4_judge_62 : decode cX4_judge 62 = .ok (.lstore 5, 2) := by decide +kernel
theorem dX4_judge_64 : decode cX4_judge 64 = .ok (.lload_n 2, 1) := by decide +kernel
theorem dX4_judge_65 : decode cX4_judge 65 = .ok (.lload 5, 2) := by decide +kernel
theorem dX4_judge_67 : decode cX4_judge 67 = .ok (.ldiv, 1) := by decide +kernel
theorem dX4_judge_68 : decode cX4_judge 68 = .ok (.ldc2_w 182, 3) := by decide +kernel
theorem dX4_judge_71 : decode cX4_judge 71 = .ok (.lrem, 1) := by decide +kernel
theorem dX4_judge_72 : decode cX4_judge 72 = .ok (.l2i, 1) := by decide +kernel
theorem dX4_judge_73 : decode cX4_judge 73 = .ok (.istore 7, 2) := by decide +kernel
theorem dX4_judge_75 : decode cX4_judge 75 = .ok (.aload_n 0, 1) := by decide +kernel
theorem dX4_judge_76 : decode cX4_judge 76 = .ok (.iload 7, 2) := by decide +kernel
theorem dX4_judge_78 : decode cX4_judge 78 = .ok (.invokevirtual 184, 3) := by decide +kernel
theorem dX4_judge_81 : decode cX4_judge 81 = .ok (.ifCond .ne 6, 3) := by decide +kernel
theorem dX4_judge_84 : decode cX4_judge 84 = .ok (.iload 4, 2) := by decide +kernel
theorem dX4_judge_86 : decode cX4_judge 86 = .ok (.ireturn, 1) := by decide +kernel
theorem dX4_judge_87 : decode cX4_judge 87 = .ok (.iinc 4 1, 3) := by decide +kernel
theorem dX4_judge_90 : decode cX4_judge 90 = .ok (.goto (-44), 3) := by decide +kernel
theorem dX4_judge_93 : decode cX4_judge 93 = .ok (.bipush (-9), 2) := by decide +kernel
theorem dX4_judge_95 : decode cX4_judge 95 = .ok (.ireturn, 1) := by decide +kernel
theorem dX4_canBeDone_0 : decode cX4_canBeDone 0 = .ok (.iload_n 1, 1) := by decide +kernel
theorem dX4_canBeDone_1 : decode cX4_canBeDone 1 = .ok (.bipush 10, 2) := by decide +kernel
theorem dX4_canBeDone_3 : decode cX4_canBeDone 3 = .ok (.idiv, 1) := by decide +kernel
theorem dX4_canBeDone_4 : decode cX4_canBeDone 4 = .ok (.bipush 100, 2) := by decide +kernel
theorem dX4_canBeDone_6 : decode cX4_canBeDone 6 = .ok (.irem, 1) := by decide +kernel
theorem dX4_canBeDone_7 : decode cX4_canBeDone 7 = .ok (.istore_n 2, 1) := by decide +kernel
theorem dX4_canBeDone_8 : decode cX4_canBeDone 8 = .ok (.iload_n 1, 1) := by decide +kernel
theorem dX4_canBeDone_9 : decode cX4_canBeDone 9 = .ok (.bipush 10, 2) := by decide +kernel
theorem dX4_canBeDone_11 : decode cX4_canBeDone 11 = .ok (.irem, 1) := by decide +kernel
theorem dX4_canBeDone_12 : decode cX4_canBeDone 12 = .ok (.istore_n 3, 1) := by decide +kernel
theorem dX4_canBeDone_13 : decode cX4_canBeDone 13 = .ok (.iload_n 1, 1) := by decide +kernel
theorem dX4_canBeDone_14 : decode cX4_canBeDone 14 = .ok (.sipush 1000, 3) := by decide +kernel
theorem dX4_canBeDone_17 : decode cX4_canBeDone 17 = .ok (.idiv, 1) := by decide +kernel
theorem dX4_canBeDone_18 : decode cX4_canBeDone 18 = .ok (.tableswitch 124 1 5 #[34, 44, 65, 75, 103], 34) := by decide +kernel
theorem dX4_canBeDone_52 : decode cX4_canBeDone 52 = .ok (.aload_n 0, 1) := by decide +kernel
theorem dX4_canBeDone_53 : decode cX4_canBeDone 53 = .ok (.getfield 23, 3) := by decide +kernel
theorem dX4_canBeDone_56 : decode cX4_canBeDone 56 = .ok (.iload_n 2, 1) := by decide +kernel
theorem dX4_canBeDone_57 : decode cX4_canBeDone 57 = .ok (.iload_n 3, 1) := by decide +kernel
theorem dX4_canBeDone_58 : decode cX4_canBeDone 58 = .ok (.invokevirtual 187, 3) := by decide +kernel
theorem dX4_canBeDone_61 : decode cX4_canBeDone 61 = .ok (.ireturn, 1) := by decide +kernel
theorem dX4_canBeDone_62 : decode cX4_canBeDone 62 = .ok (.iload_n 3, 1) := by decide +kernel
theorem dX4_canBeDone_63 : decode cX4_canBeDone 63 = .ok (.ifCond .ne 18, 3) := by decide +kernel
theorem dX4_canBeDone_66 : decode cX4_canBeDone 66 = .ok (.aload_n 0, 1) := by decide +kernel
theorem dX4_canBeDone_67 : decode cX4_canBeDone 67 = .ok (.getfield 23, 3) := by decide +kernel
theorem dX4_canBeDone_70 : decode cX4_canBeDone 70 = .ok (.iload_n 2, 1) := by decide +kernel
theorem dX4_canBeDone_71 : decode cX4_canBeDone 71 = .ok (.invokevirtual 190, 3) := by decide +kernel
theorem dX4_canBeDone_74 : decode cX4_canBeDone 74 = .ok (.ifCond .eq 7, 3) := by decide +kernel
theorem dX4_canBeDone_77 : decode cX4_canBeDone 77 = .ok (.iconst 1, 1) := by decide +kernel
theorem dX4_canBeDone_78 : decode cX4_canBeDone 78 = .ok (.goto 4, 3) := by decide +kernel
theorem dX4_canBeDone_81 : decode cX4_canBeDone 81 = .ok (.iconst 0, 1) := by decide +kernel
theorem dX4_canBeDone_82 : decode cX4_canBeDone 82 = .ok (.ireturn, 1) := by decide +kernel
theorem dX4_canBeDone_83 : decode cX4_canBeDone 83 = .ok (.aload_n 0, 1) := by decide +kernel
theorem dX4_canBeDone_84 : decode cX4_canBeDone 84 = .ok (.getfield 23, 3) := by decide +kernel
theorem dX4_canBeDone_87 : decode cX4_canBeDone 87 = .ok (.iload_n 2, 1) := by decide +kernel
theorem dX4_canBeDone_88 : decode cX4_canBeDone 88 = .ok (.iload_n 3, 1) := by decide +kernel
theorem dX4_canBeDone_89 : decode cX4_canBeDone 89 = .ok (.invokevirtual 193, 3) := by decide +kernel
theorem dX4_canBeDone_92 : decode cX4_canBeDone 92 = .ok (.ireturn, 1) := by decide +kernel
theorem dX4_canBeDone_93 : decode cX4_canBeDone 93 = .ok (.iload_n 3, 1) := by decide +kernel
theorem dX4_canBeDone_94 : decode cX4_canBeDone 94 = .ok (.ifCond .ne 25, 3) := by decide +kernel
theorem dX4_canBeDone_97 : decode cX4_canBeDone 97 = .ok (.iload_n 2, 1) := by decide +kernel
theorem dX4_canBeDone_98 : decode cX4_canBeDone 98 = .ok (.invokestatic 102, 3) := by decide +kernel
theorem dX4_canBeDone_101 : decode cX4_canBeDone 101 = .ok (.ifCond .eq 18, 3) := by decide +kernel
theorem dX4_canBeDone_104 : decode cX4_canBeDone 104 = .ok (.aload_n 0, 1) := by decide +kernel
theorem dX4_canBeDone_105 : decode cX4_canBeDone 105 = .ok (.getfield 23, 3) := by decide +kernel
theorem dX4_canBeDone_108 : decode cX4_canBeDone 108 = .ok (.iload_n 2, 1) := by decide +kernel
theorem dX4_canBeDone_109 : decode cX4_canBeDone 109 = .ok (.invokevirtual 105, 3) := by decide +kernel
theorem dX4_canBeDone_112 : decode cX4_canBeDone 112 = .ok (.ifCond .eq 7, 3) := by decide +kernel
theorem dX4_canBeDone_115 : decode cX4_canBeDone 115 = .ok (.iconst 1, 1) := by decide +kernel
theorem dX4_canBeDone_116 : decode cX4_canBeDone 116 = .ok (.goto 4, 3) := by decide +kernel
theorem dX4_canBeDone_119 : decode cX4_canBeDone 119 = .ok (.iconst 0, 1) := by decide +kernel
theorem dX4_canBeDone_120 : decode cX4_canBeDone 120 = .ok (.ireturn, 1) := by decide +kernel
theorem dX4_canBeDone_121 : decode cX4_canBeDone 121 = .ok (.iload_n 3, 1) := by decide +kernel
theorem dX4_canBeDone_122 : decode cX4_canBeDone 122 = .ok (.ifCond .ne 18, 3) := by decide +kernel
theorem dX4_canBeDone_125 : decode cX4_canBeDone 125 = .ok (.aload_n 0, 1) := by decide +kernel
theorem dX4_canBeDone_126 : decode cX4_canBeDone 126 = .ok (.getfield 23, 3) := by decide +kernel
theorem dX4_canBeDone_129 : decode cX4_canBeDone 129 = .ok (.invokevirtual 79, 3) := by decide +kernel
theorem dX4_canBeDone_132 : decode cX4_canBeDone 132 = .ok (.iload_n 2, 1) := by decide +kernel
theorem dX4_canBeDone_133 : decode cX4_canBeDone 133 = .ok (.if_icmp .lt 7, 3) := by decide +kernel
theorem dX4_canBeDone_136 : decode cX4_canBeDone 136 = .ok (.iconst 1, 1) := by decide +kernel
theorem dX4_canBeDone_137 : decode cX4_canBeDone 137 = .ok (.goto 4, 3) := by decide +kernel
theorem dX4_canBeDone_140 : decode cX4_canBeDone 140 = .ok (.iconst 0, 1) := by decide +kernel
theorem dX4_canBeDone_141 : decode cX4_canBeDone 141 = .ok (.ireturn, 1) := by decide +kernel
theorem dX4_canBeDone_142 : decode cX4_canBeDone 142 = .ok (.iconst 0, 1) := by decide +kernel
theorem dX4_canBeDone_143 : decode cX4_canBeDone 143 = .ok (.ireturn, 1) := by decide +kernel
theorem dX4_share_0 : decode cX4_share 0 = .ok (.iload_n 1, 1) := by decide +kernel
theorem dX4_share_1 : decode cX4_share 1 = .ok (.ifCond .lt 8, 3) := by decide +kernel
theorem dX4_share_4 : decode cX4_share 4 = .ok (.iload_n 1, 1) := by decide +kernel
theorem dX4_share_5 : decode cX4_share 5 = .ok (.iconst 4, 1) := by decide +kernel
theorem dX4_share_6 : decode cX4_share 6 = .ok (.if_icmp .lt 5, 3) := by decide +kernel
theorem dX4_share_9 : decode cX4_share 9 = .ok (.iconst (-1), 1) := by decide +kernel
theorem dX4_share_10 : decode cX4_share 10 = .ok (.ireturn, 1) := by decide +kernel
theorem dX4_share_11 : decode cX4_share 11 = .ok (.iconst 0, 1) := by decide +kernel
theorem dX4_share_12 : decode cX4_share 12 = .ok (.istore_n 3, 1) := by decide +kernel
theorem dX4_share_13 : decode cX4_share 13 = .ok (.iconst 0, 1) := by decide +kernel
theorem dX4_share_14 : decode cX4_share 14 = .ok (.istore 4, 2) := by decide +kernel
theorem dX4_share_16 : decode cX4_share 16 = .ok (.iload 4, 2) := by decide +kernel
theorem dX4_share_18 : decode cX4_share 18 = .ok (.bipush 15, 2) := by decide +kernel
theorem dX4_share_20 : decode cX4_share 20 = .ok (.if_icmp .gt 74, 3) := by decide +kernel
theorem dX4_share_23 : decode cX4_share 23 = .ok (.iload 4, 2) := by decide +kernel
theorem dX4_share_25 : decode cX4_share 25 = .ok (.iload_n 1, 1) := by decide +kernel
theorem dX4_share_26 : decode cX4_share 26 = .ok (.ishr, 1) := by decide +kernel
theorem dX4_share_27 : decode cX4_share 27 = .ok (.iconst 1, 1) := by decide +kernel
theorem dX4_share_28 : decode cX4_share 28 = .ok (.iand, 1) := by decide +kernel
theorem dX4_share_29 : decode cX4_share 29 = .ok (.ifCond .ne 59, 3) := by decide +kernel
theorem dX4_share_32 : decode cX4_share 32 = .ok (.aload_n 0, 1) := by decide +kernel
theorem dX4_share_33 : decode cX4_share 33 = .ok (.getfield 19, 3) := by decide +kernel
theorem dX4_share_36 : decode cX4_share 36 = .ok (.bipush 15, 2) := by decide +kernel
theorem dX4_share_38 : decode cX4_share 38 = .ok (.iload 4, 2) := by decide +kernel
theorem dX4_share_40 : decode cX4_share 40 = .ok (.iconst 1, 1) := by decide +kernel
theorem dX4_share_41 : decode cX4_share 41 = .ok (.iload_n 1, 1) := by decide +kernel
theorem dX4_share_42 : decode cX4_share 42 = .ok (.ishl, 1) := by decide +kernel
theorem dX4_share_43 : decode cX4_share 43 = .ok (.ior, 1) := by decide +kernel
theorem dX4_share_44 : decode cX4_share 44 = .ok (.iconst (-1), 1) := by decide +kernel
theorem dX4_share_45 : decode cX4_share 45 = .ok (.ixor, 1) := by decide +kernel
theorem dX4_share_46 : decode cX4_share 46 = .ok (.iand, 1) := by decide +kernel
theorem dX4_share_47 : decode cX4_share 47 = .ok (.invokevirtual 196, 3) := by decide +kernel
theorem dX4_share_50 : decode cX4_share 50 = .ok (.istore 5, 2) := by decide +kernel
theorem dX4_share_52 : decode cX4_share 52 = .ok (.aload_n 0, 1) := by decide +kernel
theorem dX4_share_53 : decode cX4_share 53 = .ok (.getfield 19, 3) := by decide +kernel
theorem dX4_share_56 : decode cX4_share 56 = .ok (.bipush 15, 2) := by decide +kernel
theorem dX4_share_58 : decode cX4_share 58 = .ok (.iload 4, 2) := by decide +kernel
theorem dX4_share_60 : decode cX4_share 60 = .ok (.iconst (-1), 1) := by decide +kernel
theorem dX4_share_61 : decode cX4_share 61 = .ok (.ixor, 1) := by decide +kernel
theorem dX4_share_62 : decode cX4_share 62 = .ok (.iand, 1) := by decide +kernel
theorem dX4_share_63 : decode cX4_share 63 = .ok (.invokevirtual 196, 3) := by decide +kernel
theorem dX4_share_66 : decode cX4_share 66 = .ok (.istore 6, 2) := by decide +kernel
theorem dX4_share_68 : decode cX4_share 68 = .ok (.iload_n 3, 1) := by decide +kernel
theorem dX4_share_69 : decode cX4_share 69 = .ok (.getstatic 199, 3) := by decide +kernel
theorem dX4_share_72 : decode cX4_share 72 = .ok (.iload 4, 2) := by decide +kernel
theorem dX4_share_74 : decode cX4_share 74 = .ok (.invokestatic 172, 3) := by decide +kernel
theorem dX4_share_77 : decode cX4_share 77 = .ok (.iconst 3, 1) := by decide +kernel
theorem dX4_share_78 : decode cX4_share 78 = .ok (.iand, 1) := by decide +kernel
theorem dX4_share_79 : decode cX4_share 79 = .ok (.iaload, 1) := by decide +kernel
theorem dX4_share_80 : decode cX4_share 80 = .ok (.iload 5, 2) := by decide +kernel
theorem dX4_share_82 : decode cX4_share 82 = .ok (.iload 6, 2) := by decide +kernel
theorem dX4_share_84 : decode cX4_share 84 = .ok (.isub, 1) := by decide +kernel
theorem dX4_share_85 : decode cX4_share 85 = .ok (.imul, 1) := by decide +kernel
theorem dX4_share_86 : decode cX4_share 86 = .ok (.iadd, 1) := by decide +kernel
theorem dX4_share_87 : decode cX4_share 87 = .ok (.istore_n 3, 1) := by decide +kernel
theorem dX4_share_88 : decode cX4_share 88 = .ok (.iinc 4 1, 3) := by decide +kernel
theorem dX4_share_91 : decode cX4_share 91 = .ok (.goto (-75), 3) := by decide +kernel
theorem dX4_share_94 : decode cX4_share 94 = .ok (.iload_n 3, 1) := by decide +kernel
theorem dX4_share_95 : decode cX4_share 95 = .ok (.bipush 24, 2) := by decide +kernel
theorem dX4_share_97 : decode cX4_share 97 = .ok (.iload_n 2, 1) := by decide +kernel
theorem dX4_share_98 : decode cX4_share 98 = .ok (.invokestatic 202, 3) := by decide +kernel
theorem dX4_share_101 : decode cX4_share 101 = .ok (.ireturn, 1) := by decide +kernel
theorem dX4_hold_0 : decode cX4_hold 0 = .ok (.iload_n 1, 1) := by decide +kernel
theorem dX4_hold_1 : decode cX4_hold 1 = .ok (.ifCond .lt 36, 3) := by decide +kernel
theorem dX4_hold_4 : decode cX4_hold 4 = .ok (.iload_n 1, 1) := by decide +kernel
theorem dX4_hold_5 : decode cX4_hold 5 = .ok (.iconst 1, 1) := by decide +kernel
theorem dX4_hold_6 : decode cX4_hold 6 = .ok (.if_icmp .gt 31, 3) := by decide +kernel
theorem dX4_hold_9 : decode cX4_hold 9 = .ok (.iload_n 2, 1) := by decide +kernel
theorem dX4_hold_10 : decode cX4_hold 10 = .ok (.invokestatic 144, 3) := by decide +kernel
theorem dX4_hold_13 : decode cX4_hold 13 = .ok (.ifCond .eq 24, 3) := by decide +kernel
theorem dX4_hold_16 : decode cX4_hold 16 = .ok (.iload_n 3, 1) := by decide +kernel
theorem dX4_hold_17 : decode cX4_hold 17 = .ok (.ifCond .lt 20, 3) := by decide +kernel
theorem dX4_hold_20 : decode cX4_hold 20 = .ok (.iload_n 3, 1) := by decide +kernel
theorem dX4_hold_21 : decode cX4_hold 21 = .ok (.bipush 9, 2) := by decide +kernel
theorem dX4_hold_23 : decode cX4_hold 23 = .ok (.if_icmp .gt 14, 3) := by decide +kernel
theorem dX4_hold_26 : decode cX4_hold 26 = .ok (.iload 4, 2) := by decide +kernel
theorem dX4_hold_28 : decode cX4_hold 28 = .ok (.ifCond .lt 9, 3) := by decide +kernel
theorem dX4_hold_31 : decode cX4_hold 31 = .ok (.iload 4, 2) := by decide +kernel
theorem dX4_hold_33 : decode cX4_hold 33 = .ok (.iconst 1, 1) := by decide +kernel
theorem dX4_hold_34 : decode cX4_hold 34 = .ok (.if_icmp .le 6, 3) := by decide +kernel
theorem dX4_hold_37 : decode cX4_hold 37 = .ok (.bipush (-2), 2) := by decide +kernel
theorem dX4_hold_39 : decode cX4_hold 39 = .ok (.ireturn, 1) := by decide +kernel
theorem dX4_hold_40 : decode cX4_hold 40 = .ok (.aload_n 0, 1) := by decide +kernel
theorem dX4_hold_41 : decode cX4_hold 41 = .ok (.getfield 91, 3) := by decide +kernel
theorem dX4_hold_44 : decode cX4_hold 44 = .ok (.bipush 6, 2) := by decide +kernel
theorem dX4_hold_46 : decode cX4_hold 46 = .ok (.if_icmp .lt 6, 3) := by decide +kernel
theorem dX4_hold_49 : decode cX4_hold 49 = .ok (.bipush (-4), 2) := by decide +kernel
theorem dX4_hold_51 : decode cX4_hold 51 = .ok (.ireturn, 1) := by decide +kernel
theorem dX4_hold_52 : decode cX4_hold 52 = .ok (.iload_n 2, 1) := by decide +kernel
theorem dX4_hold_53 : decode cX4_hold 53 = .ok (.bipush 8, 2) := by decide +kernel
theorem dX4_hold_55 : decode cX4_hold 55 = .ok (.iload_n 3, 1) := by decide +kernel
theorem dX4_hold_56 : decode cX4_hold 56 = .ok (.imul, 1) := by decide +kernel
theorem dX4_hold_57 : decode cX4_hold 57 = .ok (.invokestatic 206, 3) := by decide +kernel
theorem dX4_hold_60 : decode cX4_hold 60 = .ok (.istore 5, 2) := by decide +kernel
theorem dX4_hold_62 : decode cX4_hold 62 = .ok (.iload 4, 2) := by decide +kernel
theorem dX4_hold_64 : decode cX4_hold 64 = .ok (.ifCond .ne 12, 3) := by decide +kernel
theorem dX4_hold_67 : decode cX4_hold 67 = .ok (.bipush 15, 2) := by decide +kernel
theorem dX4_hold_69 : decode cX4_hold 69 = .ok (.iload 5, 2) := by decide +kernel
theorem dX4_hold_71 : decode cX4_hold 71 = .ok (.iconst (-1), 1) := by decide +kernel
theorem dX4_hold_72 : decode cX4_hold 72 = .ok (.ixor, 1) := by decide +kernel
theorem dX4_hold_73 : decode cX4_hold 73 = .ok (.iand, 1) := by decide +kernel
theorem dX4_hold_74 : decode cX4_hold 74 = .ok (.istore 5, 2) := by decide +kernel
theorem dX4_hold_76 : decode cX4_hold 76 = .ok (.iload_n 1, 1) := by decide +kernel
theorem dX4_hold_77 : decode cX4_hold 77 = .ok (.ifCond .ne 17, 3) := by decide +kernel
theorem dX4_hold_80 : decode cX4_hold 80 = .ok (.aload_n 0, 1) := by decide +kernel
theorem dX4_hold_81 : decode cX4_hold 81 = .ok (.dup, 1) := by decide +kernel
theorem dX4_hold_82 : decode cX4_hold 82 = .ok (.getfield 45, 3) := by decide +kernel
theorem dX4_hold_85 : decode cX4_hold 85 = .ok (.iload 5, 2) := by decide +kernel
theorem dX4_hold_87 : decode cX4_hold 87 = .ok (.iand, 1) := by decide +kernel
theorem dX4_hold_88 : decode cX4_hold 88 = .ok (.putfield 45, 3) := by decide +kernel
theorem dX4_hold_91 : decode cX4_hold 91 = .ok (.goto 14, 3) := by decide +kernel
theorem dX4_hold_94 : decode cX4_hold 94 = .ok (.aload_n 0, 1) := by decide +kernel
theorem dX4_hold_95 : decode cX4_hold 95 = .ok (.dup, 1) := by decide +kernel
theorem dX4_hold_96 : decode cX4_hold 96 = .ok (.getfield 49, 3) := by decide +kernel
theorem dX4_hold_99 : decode cX4_hold 99 = .ok (.iload 5, 2) := by decide +kernel
theorem dX4_hold_101 : decode cX4_hold 101 = .ok (.iand, 1) := by decide +kernel
theorem dX4_hold_102 : decode cX4_hold 102 = .ok (.putfield 49, 3) := by decide +kernel
theorem dX4_hold_105 : decode cX4_hold 105 = .ok (.aload_n 0, 1) := by decide +kernel
theorem dX4_hold_106 : decode cX4_hold 106 = .ok (.dup, 1) := by decide +kernel
theorem dX4_hold_107 : decode cX4_hold 107 = .ok (.getfield 91, 3) := by decide +kernel
theorem dX4_hold_110 : decode cX4_hold 110 = .ok (.iconst 1, 1) := by decide +kernel
theorem dX4_hold_111 : decode cX4_hold 111 = .ok (.iadd, 1) := by decide +kernel
theorem dX4_hold_112 : decode cX4_hold 112 = .ok (.putfield 91, 3) := by decide +kernel
theorem dX4_hold_115 : decode cX4_hold 115 = .ok (.aload_n 0, 1) := by decide +kernel
theorem dX4_hold_116 : decode cX4_hold 116 = .ok (.getfield 91, 3) := by decide +kernel
theorem dX4_hold_119 : decode cX4_hold 119 = .ok (.ireturn, 1) := by decide +kernel
theorem dX4_kindsThatHold_0 : decode cX4_kindsThatHold 0 = .ok (.iconst 0, 1) := by decide +kernel
theorem dX4_kindsThatHold_1 : decode cX4_kindsThatHold 1 = .ok (.istore_n 2, 1) := by decide +kernel
theorem dX4_kindsThatHold_2 : decode cX4_kindsThatHold 2 = .ok (.iconst 0, 1) := by decide +kernel
theorem dX4_kindsThatHold_3 : decode cX4_kindsThatHold 3 = .ok (.istore_n 3, 1) := by decide +kernel
theorem dX4_kindsThatHold_4 : decode cX4_kindsThatHold 4 = .ok (.iload_n 3, 1) := by decide +kernel
theorem dX4_kindsThatHold_5 : decode cX4_kindsThatHold 5 = .ok (.iconst 4, 1) := by decide +kernel
theorem dX4_kindsThatHold_6 : decode cX4_kindsThatHold 6 = .ok (.if_icmp .ge 27, 3) := by decide +kernel
theorem dX4_kindsThatHold_9 : decode cX4_kindsThatHold 9 = .ok (.iload_n 3, 1) := by decide +kernel
theorem dX4_kindsThatHold_10 : decode cX4_kindsThatHold 10 = .ok (.iload_n 1, 1) := by decide +kernel
theorem dX4_kindsThatHold_11 : decode cX4_kindsThatHold 11 = .ok (.invokestatic 209, 3) := by decide +kernel
theorem dX4_kindsThatHold_14 : decode cX4_kindsThatHold 14 = .ok (.bipush 8, 2) := by decide +kernel
theorem dX4_kindsThatHold_16 : decode cX4_kindsThatHold 16 = .ok (.iload_n 0, 1) := by decide +kernel
theorem dX4_kindsThatHold_17 : decode cX4_kindsThatHold 17 = .ok (.imul, 1) := by decide +kernel
theorem dX4_kindsThatHold_18 : decode cX4_kindsThatHold 18 = .ok (.if_icmp .lt 9, 3) := by decide +kernel
theorem dX4_kindsThatHold_21 : decode cX4_kindsThatHold 21 = .ok (.iload_n 2, 1) := by decide +kernel
theorem dX4_kindsThatHold_22 : decode cX4_kindsThatHold 22 = .ok (.iconst 1, 1) := by decide +kernel
theorem dX4_kindsThatHold_23 : decode cX4_kindsThatHold 23 = .ok (.iload_n 3, 1) := by decide +kernel
theorem dX4_kindsThatHold_24 : decode cX4_kindsThatHold 24 = .ok (.ishl, 1) := by decide +kernel
theorem dX4_kindsThatHold_25 : decode cX4_kindsThatHold 25 = .ok (.ior, 1) := by decide +kernel
theorem dX4_kindsThatHold_26 : decode cX4_kindsThatHold 26 = .ok (.istore_n 2, 1) := by decide +kernel
theorem dX4_kindsThatHold_27 : decode cX4_kindsThatHold 27 = .ok (.iinc 3 1, 3) := by decide +kernel
theorem dX4_kindsThatHold_30 : decode cX4_kindsThatHold 30 = .ok (.goto (-26), 3) := by decide +kernel
theorem dX4_kindsThatHold_33 : decode cX4_kindsThatHold 33 = .ok (.iload_n 2, 1) := by decide +kernel
theorem dX4_kindsThatHold_34 : decode cX4_kindsThatHold 34 = .ok (.ireturn, 1) := by decide +kernel
theorem dX4_unhold_0 : decode cX4_unhold 0 = .ok (.aload_n 0, 1) := by decide +kernel
theorem dX4_unhold_1 : decode cX4_unhold 1 = .ok (.getfield 91, 3) := by decide +kernel
theorem dX4_unhold_4 : decode cX4_unhold 4 = .ok (.istore_n 1, 1) := by decide +kernel
theorem dX4_unhold_5 : decode cX4_unhold 5 = .ok (.aload_n 0, 1) := by decide +kernel
theorem dX4_unhold_6 : decode cX4_unhold 6 = .ok (.iconst 0, 1) := by decide +kernel
theorem dX4_unhold_7 : decode cX4_unhold 7 = .ok (.putfield 91, 3) := by decide +kernel
theorem dX4_unhold_10 : decode cX4_unhold 10 = .ok (.aload_n 0, 1) := by decide +kernel
theorem dX4_unhold_11 : decode cX4_unhold 11 = .ok (.bipush 15, 2) := by decide +kernel
theorem dX4_unhold_13 : decode cX4_unhold 13 = .ok (.putfield 45, 3) := by decide +kernel
theorem dX4_unhold_16 : decode cX4_unhold 16 = .ok (.aload_n 0, 1) := by decide +kernel
theorem dX4_unhold_17 : decode cX4_unhold 17 = .ok (.bipush 15, 2) := by decide +kernel
theorem dX4_unhold_19 : decode cX4_unhold 19 = .ok (.putfield 49, 3) := by decide +kernel
theorem dX4_unhold_22 : decode cX4_unhold 22 = .ok (.iload_n 1, 1) := by decide +kernel
theorem dX4_unhold_23 : decode cX4_unhold 23 = .ok (.ireturn, 1) := by decide +kernel
theorem dX4_tents_0 : decode cX4_tents 0 = .ok (.iload_n 1, 1) := by decide +kernel
theorem dX4_tents_1 : decode cX4_tents 1 = .ok (.ifCond .lt 8, 3) := by decide +kernel
theorem dX4_tents_4 : decode cX4_tents 4 = .ok (.iload_n 1, 1) := by decide +kernel
theorem dX4_tents_5 : decode cX4_tents 5 = .ok (.iconst 1, 1) := by decide +kernel
theorem dX4_tents_6 : decode cX4_tents 6 = .ok (.if_icmp .le 6, 3) := by decide +kernel
theorem dX4_tents_9 : decode cX4_tents 9 = .ok (.bipush (-2), 2) := by decide +kernel
theorem dX4_tents_11 : decode cX4_tents 11 = .ok (.ireturn, 1) := by decide +kernel
theorem dX4_tents_12 : decode cX4_tents 12 = .ok (.iload_n 1, 1) := by decide +kernel
theorem dX4_tents_13 : decode cX4_tents 13 = .ok (.ifCond .ne 19, 3) := by decide +kernel
theorem dX4_tents_16 : decode cX4_tents 16 = .ok (.aload_n 0, 1) := by decide +kernel
theorem dX4_tents_17 : decode cX4_tents 17 = .ok (.getfield 45, 3) := by decide +kernel
theorem dX4_tents_20 : decode cX4_tents 20 = .ok (.invokestatic 172, 3) := by decide +kernel
theorem dX4_tents_23 : decode cX4_tents 23 = .ok (.aload_n 0, 1) := by decide +kernel
theorem dX4_tents_24 : decode cX4_tents 24 = .ok (.getfield 49, 3) := by decide +kernel
theorem dX4_tents_27 : decode cX4_tents 27 = .ok (.invokestatic 172, 3) := by decide +kernel
theorem dX4_tents_30 : decode cX4_tents 30 = .ok (.imul, 1) := by decide +kernel
theorem dX4_tents_31 : decode cX4_tents 31 = .ok (.ireturn, 1) := by decide +kernel
theorem dX4_tents_32 : decode cX4_tents 32 = .ok (.aload_n 0, 1) := by decide +kernel
theorem dX4_tents_33 : decode cX4_tents 33 = .ok (.getfield 45, 3) := by decide +kernel
theorem dX4_tents_36 : decode cX4_tents 36 = .ok (.ifCond .eq 10, 3) := by decide +kernel
theorem dX4_tents_39 : decode cX4_tents 39 = .ok (.aload_n 0, 1) := by decide +kernel
theorem dX4_tents_40 : decode cX4_tents 40 = .ok (.getfield 49, 3) := by decide +kernel
theorem dX4_tents_43 : decode cX4_tents 43 = .ok (.ifCond .ne 6, 3) := by decide +kernel
theorem dX4_tents_46 : decode cX4_tents 46 = .ok (.bipush (-9), 2) := by decide +kernel
theorem dX4_tents_48 : decode cX4_tents 48 = .ok (.ireturn, 1) := by decide +kernel
theorem dX4_tents_49 : decode cX4_tents 49 = .ok (.bipush 10, 2) := by decide +kernel
theorem dX4_tents_51 : decode cX4_tents 51 = .ok (.aload_n 0, 1) := by decide +kernel
theorem dX4_tents_52 : decode cX4_tents 52 = .ok (.getfield 45, 3) := by decide +kernel
theorem dX4_tents_55 : decode cX4_tents 55 = .ok (.invokestatic 212, 3) := by decide +kernel
theorem dX4_tents_58 : decode cX4_tents 58 = .ok (.imul, 1) := by decide +kernel
theorem dX4_tents_59 : decode cX4_tents 59 = .ok (.aload_n 0, 1) := by decide +kernel
theorem dX4_tents_60 : decode cX4_tents 60 = .ok (.getfield 49, 3) := by decide +kernel
theorem dX4_tents_63 : decode cX4_tents 63 = .ok (.invokestatic 212, 3) := by decide +kernel
theorem dX4_tents_66 : decode cX4_tents 66 = .ok (.iadd, 1) := by decide +kernel
theorem dX4_tents_67 : decode cX4_tents 67 = .ok (.ireturn, 1) := by decide +kernel
theorem dX4_rests_0 : decode cX4_rests 0 = .ok (.iload_n 1, 1) := by decide +kernel
theorem dX4_rests_1 : decode cX4_rests 1 = .ok (.invokestatic 102, 3) := by decide +kernel
theorem dX4_rests_4 : decode cX4_rests 4 = .ok (.ifCond .eq 10, 3) := by decide +kernel
theorem dX4_rests_7 : decode cX4_rests 7 = .ok (.iload_n 2, 1) := by decide +kernel
theorem dX4_rests_8 : decode cX4_rests 8 = .ok (.invokestatic 102, 3) := by decide +kernel
theorem dX4_rests_11 : decode cX4_rests 11 = .ok (.ifCond .ne 5, 3) := by decide +kernel
theorem dX4_rests_14 : decode cX4_rests 14 = .ok (.iconst (-1), 1) := by decide +kernel
theorem dX4_rests_15 : decode cX4_rests 15 = .ok (.ireturn, 1) := by decide +kernel
theorem dX4_rests_16 : decode cX4_rests 16 = .ok (.iload_n 1, 1) := by decide +kernel
theorem dX4_rests_17 : decode cX4_rests 17 = .ok (.iload_n 2, 1) := by decide +kernel
theorem dX4_rests_18 : decode cX4_rests 18 = .ok (.if_icmp .eq 12, 3) := by decide +kernel
theorem dX4_rests_21 : decode cX4_rests 21 = .ok (.iload_n 3, 1) := by decide +kernel
theorem dX4_rests_22 : decode cX4_rests 22 = .ok (.ifCond .lt 8, 3) := by decide +kernel
theorem dX4_rests_25 : decode cX4_rests 25 = .ok (.iload_n 3, 1) := by decide +kernel
theorem dX4_rests_26 : decode cX4_rests 26 = .ok (.iconst 1, 1) := by decide +kernel
theorem dX4_rests_27 : decode cX4_rests 27 = .ok (.if_icmp .le 6, 3) := by decide +kernel
theorem dX4_rests_30 : decode cX4_rests 30 = .ok (.bipush (-2), 2) := by decide +kernel
theorem dX4_rests_32 : decode cX4_rests 32 = .ok (.ireturn, 1) := by decide +kernel
theorem dX4_rests_33 : decode cX4_rests 33 = .ok (.aload_n 0, 1) := by decide +kernel
theorem dX4_rests_34 : decode cX4_rests 34 = .ok (.getfield 19, 3) := by decide +kernel
theorem dX4_rests_37 : decode cX4_rests 37 = .ok (.iload_n 1, 1) := by decide +kernel
theorem dX4_rests_38 : decode cX4_rests 38 = .ok (.invokevirtual 105, 3) := by decide +kernel
theorem dX4_rests_41 : decode cX4_rests 41 = .ok (.ifCond .ne 14, 3) := by decide +kernel
theorem dX4_rests_44 : decode cX4_rests 44 = .ok (.aload_n 0, 1) := by decide +kernel
theorem dX4_rests_45 : decode cX4_rests 45 = .ok (.getfield 19, 3) := by decide +kernel
theorem dX4_rests_48 : decode cX4_rests 48 = .ok (.iload_n 2, 1) := by decide +kernel
theorem dX4_rests_49 : decode cX4_rests 49 = .ok (.invokevirtual 105, 3) := by decide +kernel
theorem dX4_rests_52 : decode cX4_rests 52 = .ok (.ifCond .eq 6, 3) := by decide +kernel
theorem dX4_rests_55 : decode cX4_rests 55 = .ok (.bipush (-3), 2) := by decide +kernel
theorem dX4_rests_57 : decode cX4_rests 57 = .ok (.ireturn, 1) := by decide +kernel
theorem dX4_rests_58 : decode cX4_rests 58 = .ok (.iconst 0, 1) := by decide +kernel
theorem dX4_rests_59 : decode cX4_rests 59 = .ok (.istore 4, 2) := by decide +kernel
theorem dX4_rests_61 : decode cX4_rests 61 = .ok (.iload 4, 2) := by decide +kernel
theorem dX4_rests_63 : decode cX4_rests 63 = .ok (.iconst 5, 1) := by decide +kernel
theorem dX4_rests_64 : decode cX4_rests 64 = .ok (.if_icmp .ge 82, 3) := by decide +kernel
theorem dX4_rests_67 : decode cX4_rests 67 = .ok (.iconst 0, 1) := by decide +kernel
theorem dX4_rests_68 : decode cX4_rests 68 = .ok (.istore 5, 2) := by decide +kernel
theorem dX4_rests_70 : decode cX4_rests 70 = .ok (.iload 5, 2) := by decide +kernel
theorem dX4_rests_72 : decode cX4_rests 72 = .ok (.iconst 5, 1) := by decide +kernel
theorem dX4_rests_73 : decode cX4_rests 73 = .ok (.if_icmp .ge 67, 3) := by decide +kernel
theorem dX4_rests_76 : decode cX4_rests 76 = .ok (.aload_n 0, 1) := by decide +kernel
theorem dX4_rests_77 : decode cX4_rests 77 = .ok (.getfield 23, 3) := by decide +kernel
theorem dX4_rests_80 : decode cX4_rests 80 = .ok (.aload_n 0, 1) := by decide +kernel
theorem dX4_rests_81 : decode cX4_rests 81 = .ok (.getfield 19, 3) := by decide +kernel
theorem dX4_rests_84 : decode cX4_rests 84 = .ok (.invokevirtual 69, 3) := by decide +kernel
theorem dX4_rests_87 : decode cX4_rests 87 = .ok (.aload_n 0, 1) := by decide +kernel
theorem dX4_rests_88 : decode cX4_rests 88 = .ok (.getfield 23, 3) := by decide +kernel
theorem dX4_rests_91 : decode cX4_rests 91 = .ok (.iload_n 1, 1) := by decide +kernel
theorem dX4_rests_92 : decode cX4_rests 92 = .ok (.iload 4, 2) := by decide +kernel
theorem dX4_rests_94 : decode cX4_rests 94 = .ok (.invokevirtual 187, 3) := by decide +kernel
theorem dX4_rests_97 : decode cX4_rests 97 = .ok (.pop, 1) := by decide +kernel
theorem dX4_rests_98 : decode cX4_rests 98 = .ok (.aload_n 0, 1) := by decide +kernel
theorem dX4_rests_99 : decode cX4_rests 99 = .ok (.getfield 23, 3) := by decide +kernel
theorem dX4_rests_102 : decode cX4_rests 102 = .ok (.iload_n 2, 1) := by decide +kernel
theorem dX4_rests_103 : decode cX4_rests 103 = .ok (.iload 5, 2) := by decide +kernel
theorem dX4_rests_105 : decode cX4_rests 105 = .ok (.invokevirtual 187, 3) := by decide +kernel
theorem dX4_rests_108 : decode cX4_rests 108 = .ok (.pop, 1) := by decide +kernel
theorem dX4_rests_109 : decode cX4_rests 109 = .ok (.aload_n 0, 1) := by decide +kernel
theorem dX4_rests_110 : decode cX4_rests 110 = .ok (.getfield 41, 3) := by decide +kernel
theorem dX4_rests_113 : decode cX4_rests 113 = .ok (.iload 4, 2) := by decide +kernel
theorem dX4_rests_115 : decode cX4_rests 115 = .ok (.iload 5, 2) := by decide +kernel
theorem dX4_rests_117 : decode cX4_rests 117 = .ok (.aload_n 0, 1) := by decide +kernel
theorem dX4_rests_118 : decode cX4_rests 118 = .ok (.iload_n 1, 1) := by decide +kernel
theorem dX4_rests_119 : decode cX4_rests 119 = .ok (.iload 4, 2) := by decide +kernel
theorem dX4_rests_121 : decode cX4_rests 121 = .ok (.invokevirtual 215, 3) := by decide +kernel
theorem dX4_rests_124 : decode cX4_rests 124 = .ok (.aload_n 0, 1) := by decide +kernel
theorem dX4_rests_125 : decode cX4_rests 125 = .ok (.iload_n 2, 1) := by decide +kernel
theorem dX4_rests_126 : decode cX4_rests 126 = .ok (.iload 5, 2) := by decide +kernel
theorem dX4_rests_128 : decode cX4_rests 128 = .ok (.invokevirtual 215, 3) := by decide +kernel
theorem dX4_rests_131 : decode cX4_rests 131 = .ok (.invokevirtual 218, 3) := by decide +kernel
theorem dX4_rests_134 : decode cX4_rests 134 = .ok (.iinc 5 1, 3) := by decide +kernel
theorem dX4_rests_137 : decode cX4_rests 137 = .ok (.goto (-67), 3) := by decide +kernel
theorem dX4_rests_140 : decode cX4_rests 140 = .ok (.iinc 4 1, 3) := by decide +kernel
theorem dX4_rests_143 : decode cX4_rests 143 = .ok (.goto (-82), 3) := by decide +kernel
theorem dX4_rests_146 : decode cX4_rests 146 = .ok (.iload_n 3, 1) := by decide +kernel
theorem dX4_rests_147 : decode cX4_rests 147 = .ok (.ifCond .ne 13, 3) := by decide +kernel
theorem dX4_rests_150 : decode cX4_rests 150 = .ok (.aload_n 0, 1) := by decide +kernel
theorem dX4_rests_151 : decode cX4_rests 151 = .ok (.getfield 41, 3) := by decide +kernel
theorem dX4_rests_154 : decode cX4_rests 154 = .ok (.invokevirtual 222, 3) := by decide +kernel
theorem dX4_rests_157 : decode cX4_rests 157 = .ok (.goto 10, 3) := by decide +kernel
theorem dX4_rests_160 : decode cX4_rests 160 = .ok (.aload_n 0, 1) := by decide +kernel
theorem dX4_rests_161 : decode cX4_rests 161 = .ok (.getfield 41, 3) := by decide +kernel
theorem dX4_rests_164 : decode cX4_rests 164 = .ok (.invokevirtual 225, 3) := by decide +kernel
theorem dX4_rests_167 : decode cX4_rests 167 = .ok (.ireturn, 1) := by decide +kernel
theorem dX4_gain_0 : decode cX4_gain 0 = .ok (.aload_n 0, 1) := by decide +kernel
theorem dX4_gain_1 : decode cX4_gain 1 = .ok (.getfield 23, 3) := by decide +kernel
theorem dX4_gain_4 : decode cX4_gain 4 = .ok (.invokevirtual 79, 3) := by decide +kernel
theorem dX4_gain_7 : decode cX4_gain 7 = .ok (.aload_n 0, 1) := by decide +kernel
theorem dX4_gain_8 : decode cX4_gain 8 = .ok (.getfield 23, 3) := by decide +kernel
theorem dX4_gain_11 : decode cX4_gain 11 = .ok (.iload_n 1, 1) := by decide +kernel
theorem dX4_gain_12 : decode cX4_gain 12 = .ok (.invokevirtual 105, 3) := by decide +kernel
theorem dX4_gain_15 : decode cX4_gain 15 = .ok (.ifCond .eq 7, 3) := by decide +kernel
theorem dX4_gain_18 : decode cX4_gain 18 = .ok (.iconst 2, 1) := by decide +kernel
theorem dX4_gain_19 : decode cX4_gain 19 = .ok (.goto 4, 3) := by decide +kernel
theorem dX4_gain_22 : decode cX4_gain 22 = .ok (.iconst 0, 1) := by decide +kernel
theorem dX4_gain_23 : decode cX4_gain 23 = .ok (.iadd, 1) := by decide +kernel
theorem dX4_gain_24 : decode cX4_gain 24 = .ok (.iload_n 2, 1) := by decide +kernel
theorem dX4_gain_25 : decode cX4_gain 25 = .ok (.iconst 4, 1) := by decide +kernel
theorem dX4_gain_26 : decode cX4_gain 26 = .ok (.if_icmp .ne 7, 3) := by decide +kernel
theorem dX4_gain_29 : decode cX4_gain 29 = .ok (.iconst 0, 1) := by decide +kernel
theorem dX4_gain_30 : decode cX4_gain 30 = .ok (.goto 4, 3) := by decide +kernel
theorem dX4_gain_33 : decode cX4_gain 33 = .ok (.iconst 1, 1) := by decide +kernel
theorem dX4_gain_34 : decode cX4_gain 34 = .ok (.isub, 1) := by decide +kernel
theorem dX4_gain_35 : decode cX4_gain 35 = .ok (.ireturn, 1) := by decide +kernel
theorem dX4_shaken_0 : decode cX4_shaken 0 = .ok (.iload_n 1, 1) := by decide +kernel
theorem dX4_shaken_1 : decode cX4_shaken 1 = .ok (.ifCond .lt 19, 3) := by decide +kernel
theorem dX4_shaken_4 : decode cX4_shaken 4 = .ok (.iload_n 1, 1) := by decide +kernel
theorem dX4_shaken_5 : decode cX4_shaken 5 = .ok (.bipush 16, 2) := by decide +kernel
theorem dX4_shaken_7 : decode cX4_shaken 7 = .ok (.if_icmp .gt 13, 3) := by decide +kernel
theorem dX4_shaken_10 : decode cX4_shaken 10 = .ok (.iload_n 2, 1) := by decide +kernel
theorem dX4_shaken_11 : decode cX4_shaken 11 = .ok (.ifCond .lt 9, 3) := by decide +kernel
theorem dX4_shaken_14 : decode cX4_shaken 14 = .ok (.iload_n 2, 1) := by decide +kernel
theorem dX4_shaken_15 : decode cX4_shaken 15 = .ok (.bipush 10, 2) := by decide +kernel
theorem dX4_shaken_17 : decode cX4_shaken 17 = .ok (.if_icmp .le 6, 3) := by decide +kernel
theorem dX4_shaken_20 : decode cX4_shaken 20 = .ok (.bipush (-2), 2) := by decide +kernel
theorem dX4_shaken_22 : decode cX4_shaken 22 = .ok (.ireturn, 1) := by decide +kernel
theorem dX4_shaken_23 : decode cX4_shaken 23 = .ok (.aload_n 0, 1) := by decide +kernel
theorem dX4_shaken_24 : decode cX4_shaken 24 = .ok (.getfield 19, 3) := by decide +kernel
theorem dX4_shaken_27 : decode cX4_shaken 27 = .ok (.getfield 82, 3) := by decide +kernel
theorem dX4_shaken_30 : decode cX4_shaken 30 = .ok (.bipush 15, 2) := by decide +kernel
theorem dX4_shaken_32 : decode cX4_shaken 32 = .ok (.iand, 1) := by decide +kernel
theorem dX4_shaken_33 : decode cX4_shaken 33 = .ok (.istore 4, 2) := by decide +kernel
theorem dX4_shaken_35 : decode cX4_shaken 35 = .ok (.iconst 0, 1) := by decide +kernel
theorem dX4_shaken_36 : decode cX4_shaken 36 = .ok (.istore 5, 2) := by decide +kernel
theorem dX4_shaken_38 : decode cX4_shaken 38 = .ok (.iconst 0, 1) := by decide +kernel
theorem dX4_shaken_39 : decode cX4_shaken 39 = .ok (.istore 6, 2) := by decide +kernel
theorem dX4_shaken_41 : decode cX4_shaken 41 = .ok (.iload 6, 2) := by decide +kernel
theorem dX4_shaken_43 : decode cX4_shaken 43 = .ok (.bipush 15, 2) := by decide +kernel
theorem dX4_shaken_45 : decode cX4_shaken 45 = .ok (.if_icmp .gt 64, 3) := by decide +kernel
theorem dX4_shaken_48 : decode cX4_shaken 48 = .ok (.iload 6, 2) := by decide +kernel
theorem dX4_shaken_50 : decode cX4_shaken 50 = .ok (.iload 4, 2) := by decide +kernel
theorem dX4_shaken_52 : decode cX4_shaken 52 = .ok (.iconst (-1), 1) := by decide +kernel
theorem dX4_shaken_53 : decode cX4_shaken 53 = .ok (.ixor, 1) := by decide +kernel
theorem dX4_shaken_54 : decode cX4_shaken 54 = .ok (.iand, 1) := by decide +kernel
theorem dX4_shaken_55 : decode cX4_shaken 55 = .ok (.ifCond .ne 48, 3) := by decide +kernel
theorem dX4_shaken_58 : decode cX4_shaken 58 = .ok (.aload_n 0, 1) := by decide +kernel
theorem dX4_shaken_59 : decode cX4_shaken 59 = .ok (.getfield 19, 3) := by decide +kernel
theorem dX4_shaken_62 : decode cX4_shaken 62 = .ok (.iload 6, 2) := by decide +kernel
theorem dX4_shaken_64 : decode cX4_shaken 64 = .ok (.invokevirtual 196, 3) := by decide +kernel
theorem dX4_shaken_67 : decode cX4_shaken 67 = .ok (.iload_n 1, 1) := by decide +kernel
theorem dX4_shaken_68 : decode cX4_shaken 68 = .ok (.if_icmp .lt 35, 3) := by decide +kernel
theorem dX4_shaken_71 : decode cX4_shaken 71 = .ok (.iload 5, 2) := by decide +kernel
theorem dX4_shaken_73 : decode cX4_shaken 73 = .ok (.iload_n 2, 1) := by decide +kernel
theorem dX4_shaken_74 : decode cX4_shaken 74 = .ok (.iload 6, 2) := by decide +kernel
theorem dX4_shaken_76 : decode cX4_shaken 76 = .ok (.invokestatic 172, 3) := by decide +kernel
theorem dX4_shaken_79 : decode cX4_shaken 79 = .ok (.invokestatic 228, 3) := by decide +kernel
theorem dX4_shaken_82 : decode cX4_shaken 82 = .ok (.bipush 10, 2) := by decide +kernel
theorem dX4_shaken_84 : decode cX4_shaken 84 = .ok (.iload_n 2, 1) := by decide +kernel
theorem dX4_shaken_85 : decode cX4_shaken 85 = .ok (.isub, 1) := by decide +kernel
theorem dX4_shaken_86 : decode cX4_shaken 86 = .ok (.iload 4, 2) := by decide +kernel
theorem dX4_shaken_88 : decode cX4_shaken 88 = .ok (.iload 6, 2) := by decide +kernel
theorem dX4_shaken_90 : decode cX4_shaken 90 = .ok (.iconst (-1), 1) := by decide +kernel
theorem dX4_shaken_91 : decode cX4_shaken 91 = .ok (.ixor, 1) := by decide +kernel
theorem dX4_shaken_92 : decode cX4_shaken 92 = .ok (.iand, 1) := by decide +kernel
theorem dX4_shaken_93 : decode cX4_shaken 93 = .ok (.invokestatic 172, 3) := by decide +kernel
theorem dX4_shaken_96 : decode cX4_shaken 96 = .ok (.invokestatic 228, 3) := by decide +kernel
theorem dX4_shaken_99 : decode cX4_shaken 99 = .ok (.imul, 1) := by decide +kernel
theorem dX4_shaken_100 : decode cX4_shaken 100 = .ok (.iadd, 1) := by decide +kernel
theorem dX4_shaken_101 : decode cX4_shaken 101 = .ok (.istore 5, 2) := by decide +kernel
theorem dX4_shaken_103 : decode cX4_shaken 103 = .ok (.iinc 6 1, 3) := by decide +kernel
theorem dX4_shaken_106 : decode cX4_shaken 106 = .ok (.goto (-65), 3) := by decide +kernel
theorem dX4_shaken_109 : decode cX4_shaken 109 = .ok (.iload 5, 2) := by decide +kernel
theorem dX4_shaken_111 : decode cX4_shaken 111 = .ok (.bipush 10, 2) := by decide +kernel
theorem dX4_shaken_113 : decode cX4_shaken 113 = .ok (.iload 4, 2) := by decide +kernel
theorem dX4_shaken_115 : decode cX4_shaken 115 = .ok (.invokestatic 172, 3) := by decide +kernel
theorem dX4_shaken_118 : decode cX4_shaken 118 = .ok (.invokestatic 228, 3) := by decide +kernel
theorem dX4_shaken_121 : decode cX4_shaken 121 = .ok (.iload_n 3, 1) := by decide +kernel
theorem dX4_shaken_122 : decode cX4_shaken 122 = .ok (.invokestatic 202, 3) := by decide +kernel
theorem dX4_shaken_125 : decode cX4_shaken 125 = .ok (.ireturn, 1) := by decide +kernel
theorem dX4_seed_0 : decode cX4_seed 0 = .ok (.aload_n 0, 1) := by decide +kernel
theorem dX4_seed_1 : decode cX4_seed 1 = .ok (.getfield 231, 3) := by decide +kernel
theorem dX4_seed_4 : decode cX4_seed 4 = .ok (.lstore_n 3, 1) := by decide +kernel
theorem dX4_seed_5 : decode cX4_seed 5 = .ok (.aload_n 0, 1) := by decide +kernel
theorem dX4_seed_6 : decode cX4_seed 6 = .ok (.lload_n 1, 1) := by decide +kernel
theorem dX4_seed_7 : decode cX4_seed 7 = .ok (.putfield 231, 3) := by decide +kernel
theorem dX4_seed_10 : decode cX4_seed 10 = .ok (.lload_n 3, 1) := by decide +kernel
theorem dX4_seed_11 : decode cX4_seed 11 = .ok (.lreturn, 1) := by decide +kernel
theorem dX4_evenings_0 : decode cX4_evenings 0 = .ok (.iload_n 1, 1) := by decide +kernel
theorem dX4_evenings_1 : decode cX4_evenings 1 = .ok (.iconst 1, 1) := by decide +kernel
theorem dX4_evenings_2 : decode cX4_evenings 2 = .ok (.if_icmp .lt 9, 3) := by decide +kernel
theorem dX4_evenings_5 : decode cX4_evenings 5 = .ok (.iload_n 1, 1) := by decide +kernel
theorem dX4_evenings_6 : decode cX4_evenings 6 = .ok (.bipush 30, 2) := by decide +kernel
theorem dX4_evenings_8 : decode cX4_evenings 8 = .ok (.if_icmp .le 6, 3) := by decide +kernel
theorem dX4_evenings_11 : decode cX4_evenings 11 = .ok (.bipush (-2), 2) := by decide +kernel
theorem dX4_evenings_13 : decode cX4_evenings 13 = .ok (.ireturn, 1) := by decide +kernel
theorem dX4_evenings_14 : decode cX4_evenings 14 = .ok (.aload_n 0, 1) := by decide +kernel
theorem dX4_evenings_15 : decode cX4_evenings 15 = .ok (.getfield 23, 3) := by decide +kernel
theorem dX4_evenings_18 : decode cX4_evenings 18 = .ok (.aload_n 0, 1) := by decide +kernel
theorem dX4_evenings_19 : decode cX4_evenings 19 = .ok (.getfield 19, 3) := by decide +kernel
theorem dX4_evenings_22 : decode cX4_evenings 22 = .ok (.invokevirtual 69, 3) := by decide +kernel
theorem dX4_evenings_25 : decode cX4_evenings 25 = .ok (.iconst 0, 1) := by decide +kernel
theorem dX4_evenings_26 : decode cX4_evenings 26 = .ok (.istore_n 2, 1) := by decide +kernel
theorem dX4_evenings_27 : decode cX4_evenings 27 = .ok (.iconst 0, 1) := by decide +kernel
theorem dX4_evenings_28 : decode cX4_evenings 28 = .ok (.istore_n 3, 1) := by decide +kernel
theorem dX4_evenings_29 : decode cX4_evenings 29 = .ok (.iload_n 3, 1) := by decide +kernel
theorem dX4_evenings_30 : decode cX4_evenings 30 = .ok (.iload_n 1, 1) := by decide +kernel
theorem dX4_evenings_31 : decode cX4_evenings 31 = .ok (.if_icmp .ge 51, 3) := by decide +kernel
theorem dX4_evenings_34 : decode cX4_evenings 34 = .ok (.aload_n 0, 1) := by decide +kernel
theorem dX4_evenings_35 : decode cX4_evenings 35 = .ok (.aload_n 0, 1) := by decide +kernel
theorem dX4_evenings_36 : decode cX4_evenings 36 = .ok (.getfield 231, 3) := by decide +kernel
theorem dX4_evenings_39 : decode cX4_evenings 39 = .ok (.ldc2_w 235, 3) := by decide +kernel
theorem dX4_evenings_42 : decode cX4_evenings 42 = .ok (.lmul, 1) := by decide +kernel
theorem dX4_evenings_43 : decode cX4_evenings 43 = .ok (.ldc2_w 237, 3) := by decide +kernel
theorem dX4_evenings_46 : decode cX4_evenings 46 = .ok (.ladd, 1) := by decide +kernel
theorem dX4_evenings_47 : decode cX4_evenings 47 = .ok (.putfield 231, 3) := by decide +kernel
theorem dX4_evenings_50 : decode cX4_evenings 50 = .ok (.aload_n 0, 1) := by decide +kernel
theorem dX4_evenings_51 : decode cX4_evenings 51 = .ok (.aload_n 0, 1) := by decide +kernel
theorem dX4_evenings_52 : decode cX4_evenings 52 = .ok (.getfield 231, 3) := by decide +kernel
theorem dX4_evenings_55 : decode cX4_evenings 55 = .ok (.bipush 33, 2) := by decide +kernel
theorem dX4_evenings_57 : decode cX4_evenings 57 = .ok (.lushr, 1) := by decide +kernel
theorem dX4_evenings_58 : decode cX4_evenings 58 = .ok (.ldc2_w 239, 3) := by decide +kernel
theorem dX4_evenings_61 : decode cX4_evenings 61 = .ok (.lrem, 1) := by decide +kernel
theorem dX4_evenings_62 : decode cX4_evenings 62 = .ok (.l2i, 1) := by decide +kernel
theorem dX4_evenings_63 : decode cX4_evenings 63 = .ok (.invokevirtual 241, 3) := by decide +kernel
theorem dX4_evenings_66 : decode cX4_evenings 66 = .ok (.iload_n 2, 1) := by decide +kernel
theorem dX4_evenings_67 : decode cX4_evenings 67 = .ok (.aload_n 0, 1) := by decide +kernel
theorem dX4_evenings_68 : decode cX4_evenings 68 = .ok (.getfield 23, 3) := by decide +kernel
theorem dX4_evenings_71 : decode cX4_evenings 71 = .ok (.invokevirtual 79, 3) := by decide +kernel
theorem dX4_evenings_74 : decode cX4_evenings 74 = .ok (.iadd, 1) := by decide +kernel
theorem dX4_evenings_75 : decode cX4_evenings 75 = .ok (.istore_n 2, 1) := by decide +kernel
theorem dX4_evenings_76 : decode cX4_evenings 76 = .ok (.iinc 3 1, 3) := by decide +kernel
theorem dX4_evenings_79 : decode cX4_evenings 79 = .ok (.goto (-50), 3) := by decide +kernel
theorem dX4_evenings_82 : decode cX4_evenings 82 = .ok (.iload_n 2, 1) := by decide +kernel
theorem dX4_evenings_83 : decode cX4_evenings 83 = .ok (.ireturn, 1) := by decide +kernel
theorem dX4_passEvening_0 : decode cX4_passEvening 0 = .ok (.iload_n 1, 1) := by decide +kernel
theorem dX4_passEvening_1 : decode cX4_passEvening 1 = .ok (.bipush 64, 2) := by decide +kernel
theorem dX4_passEvening_3 : decode cX4_passEvening 3 = .ok (.if_icmp .ge 20, 3) := by decide +kernel
theorem dX4_passEvening_6 : decode cX4_passEvening 6 = .ok (.aload_n 0, 1) := by decide +kernel
theorem dX4_passEvening_7 : decode cX4_passEvening 7 = .ok (.getfield 23, 3) := by decide +kernel
theorem dX4_passEvening_10 : decode cX4_passEvening 10 = .ok (.iload_n 1, 1) := by decide +kernel
theorem dX4_passEvening_11 : decode cX4_passEvening 11 = .ok (.iconst 4, 1) := by decide +kernel
theorem dX4_passEvening_12 : decode cX4_passEvening 12 = .ok (.idiv, 1) := by decide +kernel
theorem dX4_passEvening_13 : decode cX4_passEvening 13 = .ok (.iload_n 1, 1) := by decide +kernel
theorem dX4_passEvening_14 : decode cX4_passEvening 14 = .ok (.iconst 4, 1) := by decide +kernel
theorem dX4_passEvening_15 : decode cX4_passEvening 15 = .ok (.irem, 1) := by decide +kernel
theorem dX4_passEvening_16 : decode cX4_passEvening 16 = .ok (.invokevirtual 187, 3) := by decide +kernel
theorem dX4_passEvening_19 : decode cX4_passEvening 19 = .ok (.pop, 1) := by decide +kernel
theorem dX4_passEvening_20 : decode cX4_passEvening 20 = .ok (.goto 46, 3) := by decide +kernel
theorem dX4_passEvening_23 : decode cX4_passEvening 23 = .ok (.iload_n 1, 1) := by decide +kernel
theorem dX4_passEvening_24 : decode cX4_passEvening 24 = .ok (.bipush 76, 2) := by decide +kernel
theorem dX4_passEvening_26 : decode cX4_passEvening 26 = .ok (.if_icmp .ge 28, 3) := by decide +kernel
theorem dX4_passEvening_29 : decode cX4_passEvening 29 = .ok (.aload_n 0, 1) := by decide +kernel
theorem dX4_passEvening_30 : decode cX4_passEvening 30 = .ok (.getfield 23, 3) := by decide +kernel
theorem dX4_passEvening_33 : decode cX4_passEvening 33 = .ok (.iload_n 1, 1) := by decide +kernel
theorem dX4_passEvening_34 : decode cX4_passEvening 34 = .ok (.bipush 64, 2) := by decide +kernel
theorem dX4_passEvening_36 : decode cX4_passEvening 36 = .ok (.isub, 1) := by decide +kernel
theorem dX4_passEvening_37 : decode cX4_passEvening 37 = .ok (.iconst 3, 1) := by decide +kernel
theorem dX4_passEvening_38 : decode cX4_passEvening 38 = .ok (.idiv, 1) := by decide +kernel
theorem dX4_passEvening_39 : decode cX4_passEvening 39 = .ok (.iconst 2, 1) := by decide +kernel
theorem dX4_passEvening_40 : decode cX4_passEvening 40 = .ok (.iload_n 1, 1) := by decide +kernel
theorem dX4_passEvening_41 : decode cX4_passEvening 41 = .ok (.bipush 64, 2) := by decide +kernel
theorem dX4_passEvening_43 : decode cX4_passEvening 43 = .ok (.isub, 1) := by decide +kernel
theorem dX4_passEvening_44 : decode cX4_passEvening 44 = .ok (.iconst 3, 1) := by decide +kernel
theorem dX4_passEvening_45 : decode cX4_passEvening 45 = .ok (.irem, 1) := by decide +kernel
theorem dX4_passEvening_46 : decode cX4_passEvening 46 = .ok (.iadd, 1) := by decide +kernel
theorem dX4_passEvening_47 : decode cX4_passEvening 47 = .ok (.invokevirtual 193, 3) := by decide +kernel
theorem dX4_passEvening_50 : decode cX4_passEvening 50 = .ok (.pop, 1) := by decide +kernel
theorem dX4_passEvening_51 : decode cX4_passEvening 51 = .ok (.goto 15, 3) := by decide +kernel
theorem dX4_passEvening_54 : decode cX4_passEvening 54 = .ok (.aload_n 0, 1) := by decide +kernel
theorem dX4_passEvening_55 : decode cX4_passEvening 55 = .ok (.getfield 23, 3) := by decide +kernel
theorem dX4_passEvening_58 : decode cX4_passEvening 58 = .ok (.iload_n 1, 1) := by decide +kernel
theorem dX4_passEvening_59 : decode cX4_passEvening 59 = .ok (.bipush 64, 2) := by decide +kernel
theorem dX4_passEvening_61 : decode cX4_passEvening 61 = .ok (.isub, 1) := by decide +kernel
theorem dX4_passEvening_62 : decode cX4_passEvening 62 = .ok (.invokevirtual 190, 3) := by decide +kernel
theorem dX4_passEvening_65 : decode cX4_passEvening 65 = .ok (.pop, 1) := by decide +kernel
theorem dX4_passEvening_66 : decode cX4_passEvening 66 = .ok (.return_, 1) := by decide +kernel
theorem dX4_keep_0 : decode cX4_keep 0 = .ok (.iload_n 1, 1) := by decide +kernel
theorem dX4_keep_1 : decode cX4_keep 1 = .ok (.invokestatic 244, 3) := by decide +kernel
theorem dX4_keep_4 : decode cX4_keep 4 = .ok (.ifCond .ne 5, 3) := by decide +kernel
theorem dX4_keep_7 : decode cX4_keep 7 = .ok (.iconst (-1), 1) := by decide +kernel
theorem dX4_keep_8 : decode cX4_keep 8 = .ok (.ireturn, 1) := by decide +kernel
theorem dX4_keep_9 : decode cX4_keep 9 = .ok (.aload_n 0, 1) := by decide +kernel
theorem dX4_keep_10 : decode cX4_keep 10 = .ok (.getfield 35, 3) := by decide +kernel
theorem dX4_keep_13 : decode cX4_keep 13 = .ok (.iload_n 1, 1) := by decide +kernel
theorem dX4_keep_14 : decode cX4_keep 14 = .ok (.aload_n 0, 1) := by decide +kernel
theorem dX4_keep_15 : decode cX4_keep 15 = .ok (.getfield 19, 3) := by decide +kernel
theorem dX4_keep_18 : decode cX4_keep 18 = .ok (.invokevirtual 157, 3) := by decide +kernel
theorem dX4_keep_21 : decode cX4_keep 21 = .ok (.aload_n 0, 1) := by decide +kernel
theorem dX4_keep_22 : decode cX4_keep 22 = .ok (.dup, 1) := by decide +kernel
theorem dX4_keep_23 : decode cX4_keep 23 = .ok (.getfield 76, 3) := by decide +kernel
theorem dX4_keep_26 : decode cX4_keep 26 = .ok (.iconst 1, 1) := by decide +kernel
theorem dX4_keep_27 : decode cX4_keep 27 = .ok (.iload_n 1, 1) := by decide +kernel
theorem dX4_keep_28 : decode cX4_keep 28 = .ok (.ishl, 1) := by decide +kernel
theorem dX4_keep_29 : decode cX4_keep 29 = .ok (.ior, 1) := by decide +kernel
theorem dX4_keep_30 : decode cX4_keep 30 = .ok (.putfield 76, 3) := by decide +kernel
theorem dX4_keep_33 : decode cX4_keep 33 = .ok (.aload_n 0, 1) := by decide +kernel
theorem dX4_keep_34 : decode cX4_keep 34 = .ok (.getfield 19, 3) := by decide +kernel
theorem dX4_keep_37 : decode cX4_keep 37 = .ok (.invokevirtual 79, 3) := by decide +kernel
theorem dX4_keep_40 : decode cX4_keep 40 = .ok (.ireturn, 1) := by decide +kernel
theorem dX4_again_0 : decode cX4_again 0 = .ok (.iload_n 1, 1) := by decide +kernel
theorem dX4_again_1 : decode cX4_again 1 = .ok (.invokestatic 244, 3) := by decide +kernel
theorem dX4_again_4 : decode cX4_again 4 = .ok (.ifCond .ne 5, 3) := by decide +kernel
theorem dX4_again_7 : decode cX4_again 7 = .ok (.iconst (-1), 1) := by decide +kernel
theorem dX4_again_8 : decode cX4_again 8 = .ok (.ireturn, 1) := by decide +kernel
theorem dX4_again_9 : decode cX4_again 9 = .ok (.aload_n 0, 1) := by decide +kernel
theorem dX4_again_10 : decode cX4_again 10 = .ok (.getfield 76, 3) := by decide +kernel
theorem dX4_again_13 : decode cX4_again 13 = .ok (.iload_n 1, 1) := by decide +kernel
theorem dX4_again_14 : decode cX4_again 14 = .ok (.ishr, 1) := by decide +kernel
theorem dX4_again_15 : decode cX4_again 15 = .ok (.iconst 1, 1) := by decide +kernel
theorem dX4_again_16 : decode cX4_again 16 = .ok (.iand, 1) := by decide +kernel
theorem dX4_again_17 : decode cX4_again 17 = .ok (.ifCond .ne 6, 3) := by decide +kernel
theorem dX4_again_20 : decode cX4_again 20 = .ok (.bipush (-3), 2) := by decide +kernel
theorem dX4_again_22 : decode cX4_again 22 = .ok (.ireturn, 1) := by decide +kernel
theorem dX4_again_23 : decode cX4_again 23 = .ok (.aload_n 0, 1) := by decide +kernel
theorem dX4_again_24 : decode cX4_again 24 = .ok (.getfield 35, 3) := by decide +kernel
theorem dX4_again_27 : decode cX4_again 27 = .ok (.iload_n 1, 1) := by decide +kernel
theorem dX4_again_28 : decode cX4_again 28 = .ok (.aload_n 0, 1) := by decide +kernel
theorem dX4_again_29 : decode cX4_again 29 = .ok (.getfield 19, 3) := by decide +kernel
theorem dX4_again_32 : decode cX4_again 32 = .ok (.invokevirtual 150, 3) := by decide +kernel
theorem dX4_again_35 : decode cX4_again 35 = .ok (.aload_n 0, 1) := by decide +kernel
theorem dX4_again_36 : decode cX4_again 36 = .ok (.iconst 0, 1) := by decide +kernel
theorem dX4_again_37 : decode cX4_again 37 = .ok (.putfield 73, 3) := by decide +kernel
theorem dX4_again_40 : decode cX4_again 40 = .ok (.aload_n 0, 1) := by decide +kernel
theorem dX4_again_41 : decode cX4_again 41 = .ok (.getfield 19, 3) := by decide +kernel
theorem dX4_again_44 : decode cX4_again 44 = .ok (.invokevirtual 79, 3) := by decide +kernel
theorem dX4_again_47 : decode cX4_again 47 = .ok (.ireturn, 1) := by decide +kernel
theorem dX4_isPiece_0 : decode cX4_isPiece 0 = .ok (.iload_n 0, 1) := by decide +kernel
theorem dX4_isPiece_1 : decode cX4_isPiece 1 = .ok (.ifCond .lt 13, 3) := by decide +kernel
theorem dX4_isPiece_4 : decode cX4_isPiece 4 = .ok (.iload_n 0, 1) := by decide +kernel
theorem dX4_isPiece_5 : decode cX4_isPiece 5 = .ok (.bipush 16, 2) := by decide +kernel
theorem dX4_isPiece_7 : decode cX4_isPiece 7 = .ok (.if_icmp .ge 7, 3) := by decide +kernel
theorem dX4_isPiece_10 : decode cX4_isPiece 10 = .ok (.iconst 1, 1) := by decide +kernel
theorem dX4_isPiece_11 : decode cX4_isPiece 11 = .ok (.goto 4, 3) := by decide +kernel
theorem dX4_isPiece_14 : decode cX4_isPiece 14 = .ok (.iconst 0, 1) := by decide +kernel
theorem dX4_isPiece_15 : decode cX4_isPiece 15 = .ok (.ireturn, 1) := by decide +kernel
theorem dX4_isKind_0 : decode cX4_isKind 0 = .ok (.iload_n 0, 1) := by decide +kernel
theorem dX4_isKind_1 : decode cX4_isKind 1 = .ok (.ifCond .lt 12, 3) := by decide +kernel
theorem dX4_isKind_4 : decode cX4_isKind 4 = .ok (.iload_n 0, 1) := by decide +kernel
theorem dX4_isKind_5 : decode cX4_isKind 5 = .ok (.iconst 4, 1) := by decide +kernel
theorem dX4_isKind_6 : decode cX4_isKind 6 = .ok (.if_icmp .ge 7, 3) := by decide +kernel
theorem dX4_isKind_9 : decode cX4_isKind 9 = .ok (.iconst 1, 1) := by decide +kernel
theorem dX4_isKind_10 : decode cX4_isKind 10 = .ok (.goto 4, 3) := by decide +kernel
theorem dX4_isKind_13 : decode cX4_isKind 13 = .ok (.iconst 0, 1) := by decide +kernel
theorem dX4_isKind_14 : decode cX4_isKind 14 = .ok (.ireturn, 1) := by decide +kernel
theorem dX4_isLevel_0 : decode cX4_isLevel 0 = .ok (.iload_n 0, 1) := by decide +kernel
theorem dX4_isLevel_1 : decode cX4_isLevel 1 = .ok (.ifCond .lt 12, 3) := by decide +kernel
theorem dX4_isLevel_4 : decode cX4_isLevel 4 = .ok (.iload_n 0, 1) := by decide +kernel
theorem dX4_isLevel_5 : decode cX4_isLevel 5 = .ok (.iconst 4, 1) := by decide +kernel
theorem dX4_isLevel_6 : decode cX4_isLevel 6 = .ok (.if_icmp .ge 7, 3) := by decide +kernel
theorem dX4_isLevel_9 : decode cX4_isLevel 9 = .ok (.iconst 1, 1) := by decide +kernel
theorem dX4_isLevel_10 : decode cX4_isLevel 10 = .ok (.goto 4, 3) := by decide +kernel
theorem dX4_isLevel_13 : decode cX4_isLevel 13 = .ok (.iconst 0, 1) := by decide +kernel
theorem dX4_isLevel_14 : decode cX4_isLevel 14 = .ok (.ireturn, 1) := by decide +kernel
theorem dX4_isForce_0 : decode cX4_isForce 0 = .ok (.iload_n 0, 1) := by decide +kernel
theorem dX4_isForce_1 : decode cX4_isForce 1 = .ok (.iconst 1, 1) := by decide +kernel
theorem dX4_isForce_2 : decode cX4_isForce 2 = .ok (.if_icmp .lt 13, 3) := by decide +kernel
theorem dX4_isForce_5 : decode cX4_isForce 5 = .ok (.iload_n 0, 1) := by decide +kernel
theorem dX4_isForce_6 : decode cX4_isForce 6 = .ok (.bipush 9, 2) := by decide +kernel
theorem dX4_isForce_8 : decode cX4_isForce 8 = .ok (.if_icmp .gt 7, 3) := by decide +kernel
theorem dX4_isForce_11 : decode cX4_isForce 11 = .ok (.iconst 1, 1) := by decide +kernel
theorem dX4_isForce_12 : decode cX4_isForce 12 = .ok (.goto 4, 3) := by decide +kernel
theorem dX4_isForce_15 : decode cX4_isForce 15 = .ok (.iconst 0, 1) := by decide +kernel
theorem dX4_isForce_16 : decode cX4_isForce 16 = .ok (.ireturn, 1) := by decide +kernel
theorem dX4_isSlot_0 : decode cX4_isSlot 0 = .ok (.iload_n 0, 1) := by decide +kernel
theorem dX4_isSlot_1 : decode cX4_isSlot 1 = .ok (.ifCond .lt 12, 3) := by decide +kernel
theorem dX4_isSlot_4 : decode cX4_isSlot 4 = .ok (.iload_n 0, 1) := by decide +kernel
theorem dX4_isSlot_5 : decode cX4_isSlot 5 = .ok (.iconst 2, 1) := by decide +kernel
theorem dX4_isSlot_6 : decode cX4_isSlot 6 = .ok (.if_icmp .ge 7, 3) := by decide +kernel
theorem dX4_isSlot_9 : decode cX4_isSlot 9 = .ok (.iconst 1, 1) := by decide +kernel
theorem dX4_isSlot_10 : decode cX4_isSlot 10 = .ok (.goto 4, 3) := by decide +kernel
theorem dX4_isSlot_13 : decode cX4_isSlot 13 = .ok (.iconst 0, 1) := by decide +kernel
theorem dX4_isSlot_14 : decode cX4_isSlot 14 = .ok (.ireturn, 1) := by decide +kernel
theorem dX4_cardsOf_0 : decode cX4_cardsOf 0 = .ok (.iconst 1, 1) := by decide +kernel
theorem dX4_cardsOf_1 : decode cX4_cardsOf 1 = .ok (.ldc 177, 2) := by decide +kernel
theorem dX4_cardsOf_3 : decode cX4_cardsOf 3 = .ok (.iload_n 0, 1) := by decide +kernel
theorem dX4_cardsOf_4 : decode cX4_cardsOf 4 = .ok (.ishr, 1) := by decide +kernel
theorem dX4_cardsOf_5 : decode cX4_cardsOf 5 = .ok (.iconst 1, 1) := by decide +kernel
theorem dX4_cardsOf_6 : decode cX4_cardsOf 6 = .ok (.iand, 1) := by decide +kernel
theorem dX4_cardsOf_7 : decode cX4_cardsOf 7 = .ok (.iadd, 1) := by decide +kernel
theorem dX4_cardsOf_8 : decode cX4_cardsOf 8 = .ok (.ireturn, 1) := by decide +kernel
theorem dX4_cardWeight_0 : decode cX4_cardWeight 0 = .ok (.iload_n 0, 1) := by decide +kernel
theorem dX4_cardWeight_1 : decode cX4_cardWeight 1 = .ok (.iconst 3, 1) := by decide +kernel
theorem dX4_cardWeight_2 : decode cX4_cardWeight 2 = .ok (.if_icmp .ne 8, 3) := by decide +kernel
theorem dX4_cardWeight_5 : decode cX4_cardWeight 5 = .ok (.bipush 16, 2) := by decide +kernel
theorem dX4_cardWeight_7 : decode cX4_cardWeight 7 = .ok (.goto 5, 3) := by decide +kernel
theorem dX4_cardWeight_10 : decode cX4_cardWeight 10 = .ok (.bipush 8, 2) := by decide +kernel
theorem dX4_cardWeight_12 : decode cX4_cardWeight 12 = .ok (.ireturn, 1) := by decide +kernel
theorem dX4_steadiness_0 : decode cX4_steadiness 0 = .ok (.iconst 2, 1) := by decide +kernel
theorem dX4_steadiness_1 : decode cX4_steadiness 1 = .ok (.iload_n 0, 1) := by decide +kernel
theorem dX4_steadiness_2 : decode cX4_steadiness 2 = .ok (.invokestatic 247, 3) := by decide +kernel
theorem dX4_steadiness_5 : decode cX4_steadiness 5 = .ok (.imul, 1) := by decide +kernel
theorem dX4_steadiness_6 : decode cX4_steadiness 6 = .ok (.iload_n 1, 1) := by decide +kernel
theorem dX4_steadiness_7 : decode cX4_steadiness 7 = .ok (.iadd, 1) := by decide +kernel
theorem dX4_steadiness_8 : decode cX4_steadiness 8 = .ok (.iload_n 0, 1) := by decide +kernel
theorem dX4_steadiness_9 : decode cX4_steadiness 9 = .ok (.invokestatic 98, 3) := by decide +kernel
theorem dX4_steadiness_12 : decode cX4_steadiness 12 = .ok (.ifCond .eq 11, 3) := by decide +kernel
theorem dX4_steadiness_15 : decode cX4_steadiness 15 = .ok (.getstatic 250, 3) := by decide +kernel
theorem dX4_steadiness_18 : decode cX4_steadiness 18 = .ok (.iload_n 0, 1) := by decide +kernel
theorem dX4_steadiness_19 : decode cX4_steadiness 19 = .ok (.iaload, 1) := by decide +kernel
theorem dX4_steadiness_20 : decode cX4_steadiness 20 = .ok (.goto 4, 3) := by decide +kernel
theorem dX4_steadiness_23 : decode cX4_steadiness 23 = .ok (.iconst 0, 1) := by decide +kernel
theorem dX4_steadiness_24 : decode cX4_steadiness 24 = .ok (.iadd, 1) := by decide +kernel
theorem dX4_steadiness_25 : decode cX4_steadiness 25 = .ok (.ireturn, 1) := by decide +kernel
theorem dX4_power_0 : decode cX4_power 0 = .ok (.iconst 1, 1) := by decide +kernel
theorem dX4_power_1 : decode cX4_power 1 = .ok (.istore_n 2, 1) := by decide +kernel
theorem dX4_power_2 : decode cX4_power 2 = .ok (.iconst 0, 1) := by decide +kernel
theorem dX4_power_3 : decode cX4_power 3 = .ok (.istore_n 3, 1) := by decide +kernel
theorem dX4_power_4 : decode cX4_power 4 = .ok (.iload_n 3, 1) := by decide +kernel
theorem dX4_power_5 : decode cX4_power 5 = .ok (.iload_n 1, 1) := by decide +kernel
theorem dX4_power_6 : decode cX4_power 6 = .ok (.if_icmp .ge 13, 3) := by decide +kernel
theorem dX4_power_9 : decode cX4_power 9 = .ok (.iload_n 2, 1) := by decide +kernel
theorem dX4_power_10 : decode cX4_power 10 = .ok (.iload_n 0, 1) := by decide +kernel
theorem dX4_power_11 : decode cX4_power 11 = .ok (.imul, 1) := by decide +kernel
theorem dX4_power_12 : decode cX4_power 12 = .ok (.istore_n 2, 1) := by decide +kernel
theorem dX4_power_13 : decode cX4_power 13 = .ok (.iinc 3 1, 3) := by decide +kernel
theorem dX4_power_16 : decode cX4_power 16 = .ok (.goto (-12), 3) := by decide +kernel
theorem dX4_power_19 : decode cX4_power 19 = .ok (.iload_n 2, 1) := by decide +kernel
theorem dX4_power_20 : decode cX4_power 20 = .ok (.ireturn, 1) := by decide +kernel
theorem dX4_partOfFraction_0 : decode cX4_partOfFraction 0 = .ok (.iconst 1, 1) := by decide +kernel
theorem dX4_partOfFraction_1 : decode cX4_partOfFraction 1 = .ok (.iload_n 0, 1) := by decide +kernel
theorem dX4_partOfFraction_2 : decode cX4_partOfFraction 2 = .ok (.iload_n 1, 1) := by decide +kernel
theorem dX4_partOfFraction_3 : decode cX4_partOfFraction 3 = .ok (.invokestatic 253, 3) := by decide +kernel
theorem dX4_partOfFraction_6 : decode cX4_partOfFraction 6 = .ok (.invokestatic 256, 3) := by decide +kernel
theorem dX4_partOfFraction_9 : decode cX4_partOfFraction 9 = .ok (.istore_n 3, 1) := by decide +kernel
theorem dX4_partOfFraction_10 : decode cX4_partOfFraction 10 = .ok (.iload_n 2, 1) := by decide +kernel
theorem dX4_partOfFraction_11 : decode cX4_partOfFraction 11 = .ok (.ifCond .eq 7, 3) := by decide +kernel
theorem dX4_partOfFraction_14 : decode cX4_partOfFraction 14 = .ok (.iload_n 0, 1) := by decide +kernel
theorem dX4_partOfFraction_15 : decode cX4_partOfFraction 15 = .ok (.goto 4, 3) := by decide +kernel
theorem dX4_partOfFraction_18 : decode cX4_partOfFraction 18 = .ok (.iload_n 1, 1) := by decide +kernel
theorem dX4_partOfFraction_19 : decode cX4_partOfFraction 19 = .ok (.iload_n 3, 1) := by decide +kernel
theorem dX4_partOfFraction_20 : decode cX4_partOfFraction 20 = .ok (.idiv, 1) := by decide +kernel
theorem dX4_partOfFraction_21 : decode cX4_partOfFraction 21 = .ok (.ireturn, 1) := by decide +kernel
theorem dX4_commonDivisor_0 : decode cX4_commonDivisor 0 = .ok (.iload_n 0, 1) := by decide +kernel
theorem dX4_commonDivisor_1 : decode cX4_commonDivisor 1 = .ok (.invokestatic 261, 3) := by decide +kernel
theorem dX4_commonDivisor_4 : decode cX4_commonDivisor 4 = .ok (.istore_n 2, 1) := by decide +kernel
theorem dX4_commonDivisor_5 : decode cX4_commonDivisor 5 = .ok (.iload_n 1, 1) := by decide +kernel
theorem dX4_commonDivisor_6 : decode cX4_commonDivisor 6 = .ok (.istore_n 3, 1) := by decide +kernel
theorem dX4_commonDivisor_7 : decode cX4_commonDivisor 7 = .ok (.iconst 0, 1) := by decide +kernel
theorem dX4_commonDivisor_8 : decode cX4_commonDivisor 8 = .ok (.istore 4, 2) := by decide +kernel
theorem dX4_commonDivisor_10 : decode cX4_commonDivisor 10 = .ok (.iload 4, 2) := by decide +kernel
theorem dX4_commonDivisor_12 : decode cX4_commonDivisor 12 = .ok (.bipush 64, 2) := by decide +kernel
theorem dX4_commonDivisor_14 : decode cX4_commonDivisor 14 = .ok (.if_icmp .ge 23, 3) := by decide +kernel
theorem dX4_commonDivisor_17 : decode cX4_commonDivisor 17 = .ok (.iload_n 3, 1) := by decide +kernel
theorem dX4_commonDivisor_18 : decode cX4_commonDivisor 18 = .ok (.ifCond .eq 19, 3) := by decide +kernel
theorem dX4_commonDivisor_21 : decode cX4_commonDivisor 21 = .ok (.iload_n 2, 1) := by decide +kernel
theorem dX4_commonDivisor_22 : decode cX4_commonDivisor 22 = .ok (.iload_n 3, 1) := by decide +kernel
theorem dX4_commonDivisor_23 : decode cX4_commonDivisor 23 = .ok (.irem, 1) := by decide +kernel
theorem dX4_commonDivisor_24 : decode cX4_commonDivisor 24 = .ok (.istore 5, 2) := by decide +kernel
theorem dX4_commonDivisor_26 : decode cX4_commonDivisor 26 = .ok (.iload_n 3, 1) := by decide +kernel
theorem dX4_commonDivisor_27 : decode cX4_commonDivisor 27 = .ok (.istore_n 2, 1) := by decide +kernel
theorem dX4_commonDivisor_28 : decode cX4_commonDivisor 28 = .ok (.iload 5, 2) := by decide +kernel
theorem dX4_commonDivisor_30 : decode cX4_commonDivisor 30 = .ok (.istore_n 3, 1) := by decide +kernel
theorem dX4_commonDivisor_31 : decode cX4_commonDivisor 31 = .ok (.iinc 4 1, 3) := by decide +kernel
theorem dX4_commonDivisor_34 : decode cX4_commonDivisor 34 = .ok (.goto (-24), 3) := by decide +kernel
theorem dX4_commonDivisor_37 : decode cX4_commonDivisor 37 = .ok (.iload_n 2, 1) := by decide +kernel
theorem dX4_commonDivisor_38 : decode cX4_commonDivisor 38 = .ok (.ireturn, 1) := by decide +kernel
theorem dX5_init_0 : decode cX5_init 0 = .ok (.aload_n 0, 1) := by decide +kernel
theorem dX5_init_1 : decode cX5_init 1 = .ok (.invokespecial 1, 3) := by decide +kernel
theorem dX5_init_4 : decode cX5_init 4 = .ok (.aload_n 0, 1) := by decide +kernel
theorem dX5_init_5 : decode cX5_init 5 = .ok (.bipush 56, 2) := by decide +kernel
theorem dX5_init_7 : decode cX5_init 7 = .ok (.newarray .int, 2) := by decide +kernel
theorem dX5_init_9 : decode cX5_init 9 = .ok (.putfield 7, 3) := by decide +kernel
theorem dX5_init_12 : decode cX5_init 12 = .ok (.aload_n 0, 1) := by decide +kernel
theorem dX5_init_13 : decode cX5_init 13 = .ok (.iconst 4, 1) := by decide +kernel
theorem dX5_init_14 : decode cX5_init 14 = .ok (.newarray .int, 2) := by decide +kernel
theorem dX5_init_16 : decode cX5_init 16 = .ok (.putfield 13, 3) := by decide +kernel
theorem dX5_init_19 : decode cX5_init 19 = .ok (.aload_n 0, 1) := by decide +kernel
theorem dX5_init_20 : decode cX5_init 20 = .ok (.iconst 4, 1) := by decide +kernel
theorem dX5_init_21 : decode cX5_init 21 = .ok (.newarray .int, 2) := by decide +kernel
theorem dX5_init_23 : decode cX5_init 23 = .ok (.putfield 16, 3) := by decide +kernel
theorem dX5_init_26 : decode cX5_init 26 = .ok (.aload_n 0, 1) := by decide +kernel
theorem dX5_init_27 : decode cX5_init 27 = .ok (.bipush 17, 2) := by decide +kernel
theorem dX5_init_29 : decode cX5_init 29 = .ok (.newarray .int, 2) := by decide +kernel
theorem dX5_init_31 : decode cX5_init 31 = .ok (.putfield 19, 3) := by decide +kernel
theorem dX5_init_34 : decode cX5_init 34 = .ok (.aload_n 0, 1) := by decide +kernel
theorem dX5_init_35 : decode cX5_init 35 = .ok (.bipush 17, 2) := by decide +kernel
theorem dX5_init_37 : decode cX5_init 37 = .ok (.newarray .int, 2) := by decide +kernel
theorem dX5_init_39 : decode cX5_init 39 = .ok (.putfield 22, 3) := by decide +kernel
theorem dX5_init_42 : decode cX5_init 42 = .ok (.aload_n 0, 1) := by decide +kernel
theorem dX5_init_43 : decode cX5_init 43 = .ok (.bipush 17, 2) := by decide +kernel
theorem dX5_init_45 : decode cX5_init 45 = .ok (.newarray .int, 2) := by decide +kernel
theorem dX5_init_47 : decode cX5_init 47 = .ok (.putfield 25, 3) := by decide +kernel
theorem dX5_init_50 : decode cX5_init 50 = .ok (.aload_n 0, 1) := by decide +kernel
theorem dX5_init_51 : decode cX5_init 51 = .ok (.bipush 16, 2) := by decide +kernel
theorem dX5_init_53 : decode cX5_init 53 = .ok (.newarray .int, 2) := by decide +kernel
theorem dX5_init_55 : decode cX5_init 55 = .ok (.putfield 28, 3) := by decide +kernel
theorem dX5_init_58 : decode cX5_init 58 = .ok (.aload_n 0, 1) := by decide +kernel
theorem dX5_init_59 : decode cX5_init 59 = .ok (.sipush 238, 3) := by decide +kernel
theorem dX5_init_62 : decode cX5_init 62 = .ok (.newarray .int, 2) := by decide +kernel
theorem dX5_init_64 : decode cX5_init 64 = .ok (.putfield 31, 3) := by decide +kernel
theorem dX5_init_67 : decode cX5_init 67 = .ok (.aload_n 0, 1) := by decide +kernel
theorem dX5_init_68 : decode cX5_init 68 = .ok (.bipush 34, 2) := by decide +kernel
theorem dX5_init_70 : decode cX5_init 70 = .ok (.newarray .int, 2) := by decide +kernel
theorem dX5_init_72 : decode cX5_init 72 = .ok (.putfield 34, 3) := by decide +kernel
theorem dX5_init_75 : decode cX5_init 75 = .ok (.aload_n 0, 1) := by decide +kernel
theorem dX5_init_76 : decode cX5_init 76 = .ok (.iconst 2, 1) := by decide +kernel
theorem dX5_init_77 : decode cX5_init 77 = .ok (.newarray .boolean, 2) := by decide +kernel
theorem dX5_init_79 : decode cX5_init 79 = .ok (.putfield 37, 3) := by decide +kernel
theorem dX5_init_82 : decode cX5_init 82 = .ok (.aload_n 0, 1) := by decide +kernel
theorem dX5_init_83 : decode cX5_init 83 = .ok (.bipush 6, 2) := by decide +kernel
theorem dX5_init_85 : decode cX5_init 85 = .ok (.newarray .int, 2) := by decide +kernel
theorem dX5_init_87 : decode cX5_init 87 = .ok (.putfield 41, 3) := by decide +kernel
theorem dX5_init_90 : decode cX5_init 90 = .ok (.aload_n 0, 1) := by decide +kernel
theorem dX5_init_91 : decode cX5_init 91 = .ok (.bipush 6, 2) := by decide +kernel
theorem dX5_init_93 : decode cX5_init 93 = .ok (.newarray .int, 2) := by decide +kernel
theorem dX5_init_95 : decode cX5_init 95 = .ok (.putfield 44, 3) := by decide +kernel
theorem dX5_init_98 : decode cX5_init 98 = .ok (.aload_n 0, 1) := by decide +kernel
theorem dX5_init_99 : decode cX5_init 99 = .ok (.bipush 6, 2) := by decide +kernel
theorem dX5_init_101 : decode cX5_init 101 = .ok (.newarray .int, 2) := by decide +kernel
theorem dX5_init_103 : decode cX5_init 103 = .ok (.putfield 47, 3) := by decide +kernel
theorem dX5_init_106 : decode cX5_init 106 = .ok (.aload_n 0, 1) := by decide +kernel
theorem dX5_init_107 : decode cX5_init 107 = .ok (.bipush 6, 2) := by decide +kernel
theorem dX5_init_109 : decode cX5_init 109 = .ok (.newarray .int, 2) := by decide +kernel
theorem dX5_init_111 : decode cX5_init 111 = .ok (.putfield 50, 3) := by decide +kernel
theorem dX5_init_114 : decode cX5_init 114 = .ok (.aload_n 0, 1) := by decide +kernel
theorem dX5_init_115 : decode cX5_init 115 = .ok (.bipush 50, 2) := by decide +kernel
theorem dX5_init_117 : decode cX5_init 117 = .ok (.newarray .int, 2) := by decide +kernel
theorem dX5_init_119 : decode cX5_init 119 = .ok (.putfield 53, 3) := by decide +kernel
theorem dX5_init_122 : decode cX5_init 122 = .ok (.aload_n 0, 1) := by decide +kernel
theorem dX5_init_123 : decode cX5_init 123 = .ok (.bipush 16, 2) := by decide +kernel
theorem dX5_init_125 : decode cX5_init 125 = .ok (.newarray .int, 2) := by decide +kernel
theorem dX5_init_127 : decode cX5_init 127 = .ok (.putfield 56, 3) := by decide +kernel
theorem dX5_init_130 : decode cX5_init 130 = .ok (.return_, 1) := by decide +kernel
theorem dX5_in_0 : decode cX5_in 0 = .ok (.lload_n 0, 1) := by decide +kernel
theorem dX5_in_1 : decode cX5_in 1 = .ok (.lload_n 2, 1) := by decide +kernel
theorem dX5_in_2 : decode cX5_in 2 = .ok (.lcmp, 1) := by decide +kernel
theorem dX5_in_3 : decode cX5_in 3 = .ok (.ifCond .lt 14, 3) := by decide +kernel
theorem dX5_in_6 : decode cX5_in 6 = .ok (.lload_n 0, 1) := by decide +kernel
theorem dX5_in_7 : decode cX5_in 7 = .ok (.lload 4, 2) := by decide +kernel
theorem dX5_in_9 : decode cX5_in 9 = .ok (.lcmp, 1) := by decide +kernel
theorem dX5_in_10 : decode cX5_in 10 = .ok (.ifCond .gt 7, 3) := by decide +kernel
theorem dX5_in_13 : decode cX5_in 13 = .ok (.iconst 1, 1) := by decide +kernel
theorem dX5_in_14 : decode cX5_in 14 = .ok (.goto 4, 3) := by decide +kernel
theorem dX5_in_17 : decode cX5_in 17 = .ok (.iconst 0, 1) := by decide +kernel
theorem dX5_in_18 : decode cX5_in 18 = .ok (.ireturn, 1) := by decide +kernel
theorem dX5_has_0 : decode cX5_has 0 = .ok (.iload_n 0, 1) := by decide +kernel
theorem dX5_has_1 : decode cX5_has 1 = .ok (.iload_n 1, 1) := by decide +kernel
theorem dX5_has_2 : decode cX5_has 2 = .ok (.ishr, 1) := by decide +kernel
theorem dX5_has_3 : decode cX5_has 3 = .ok (.iconst 1, 1) := by decide +kernel
theorem dX5_has_4 : decode cX5_has 4 = .ok (.iand, 1) := by decide +kernel
theorem dX5_has_5 : decode cX5_has 5 = .ok (.iconst 1, 1) := by decide +kernel
theorem dX5_has_6 : decode cX5_has 6 = .ok (.if_icmp .ne 7, 3) := by decide +kernel
theorem dX5_has_9 : decode cX5_has 9 = .ok (.iconst 1, 1) := by decide +kernel
theorem dX5_has_10 : decode cX5_has 10 = .ok (.goto 4, 3) := by decide +kernel
theorem dX5_has_13 : decode cX5_has 13 = .ok (.iconst 0, 1) := by decide +kernel
theorem dX5_has_14 : decode cX5_has 14 = .ok (.ireturn, 1) := by decide +kernel
theorem dX5_many_0 : decode cX5_many 0 = .ok (.iconst 0, 1) := by decide +kernel
theorem dX5_many_1 : decode cX5_many 1 = .ok (.istore_n 1, 1) := by decide +kernel
theorem dX5_many_2 : decode cX5_many 2 = .ok (.iconst 0, 1) := by decide +kernel
theorem dX5_many_3 : decode cX5_many 3 = .ok (.istore_n 2, 1) := by decide +kernel
theorem dX5_many_4 : decode cX5_many 4 = .ok (.iload_n 2, 1) := by decide +kernel
theorem dX5_many_5 : decode cX5_many 5 = .ok (.bipush 16, 2) := by decide +kernel
theorem dX5_many_7 : decode cX5_many 7 = .ok (.if_icmp .ge 17, 3) := by decide +kernel
theorem dX5_many_10 : decode cX5_many 10 = .ok (.iload_n 1, 1) := by decide +kernel
theorem dX5_many_11 : decode cX5_many 11 = .ok (.iload_n 0, 1) := by decide +kernel
theorem dX5_many_12 : decode cX5_many 12 = .ok (.iload_n 2, 1) := by decide +kernel
theorem dX5_many_13 : decode cX5_many 13 = .ok (.ishr, 1) := by decide +kernel
theorem dX5_many_14 : decode cX5_many 14 = .ok (.iconst 1, 1) := by decide +kernel
theorem dX5_many_15 : decode cX5_many 15 = .ok (.iand, 1) := by decide +kernel
theorem dX5_many_16 : decode cX5_many 16 = .ok (.iadd, 1) := by decide +kernel
theorem dX5_many_17 : decode cX5_many 17 = .ok (.istore_n 1, 1) := by decide +kernel
theorem dX5_many_18 : decode cX5_many 18 = .ok (.iinc 2 1, 3) := by decide +kernel
theorem dX5_many_21 : decode cX5_many 21 = .ok (.goto (-17), 3) := by decide +kernel
theorem dX5_many_24 : decode cX5_many 24 = .ok (.iload_n 1, 1) := by decide +kernel
theorem dX5_many_25 : decode cX5_many 25 = .ok (.ireturn, 1) := by decide +kernel
theorem dX5_power_0 : decode cX5_power 0 = .ok (.iconst 1, 1) := by decide +kernel
theorem dX5_power_1 : decode cX5_power 1 = .ok (.istore_n 2, 1) := by decide +kernel
theorem dX5_power_2 : decode cX5_power 2 = .ok (.iconst 0, 1) := by decide +kernel
theorem dX5_power_3 : decode cX5_power 3 = .ok (.istore_n 3, 1) := by decide +kernel
theorem dX5_power_4 : decode cX5_power 4 = .ok (.iload_n 3, 1) := by decide +kernel
theorem dX5_power_5 : decode cX5_power 5 = .ok (.iload_n 1, 1) := by decide +kernel
theorem dX5_power_6 : decode cX5_power 6 = .ok (.if_icmp .ge 13, 3) := by decide +kernel
theorem dX5_power_9 : decode cX5_power 9 = .ok (.iload_n 2, 1) := by decide +kernel
theorem dX5_power_10 : decode cX5_power 10 = .ok (.iload_n 0, 1) := by decide +kernel
theorem dX5_power_11 : decode cX5_power 11 = .ok (.imul, 1) := by decide +kernel
theorem dX5_power_12 : decode cX5_power 12 = .ok (.istore_n 2, 1) := by decide +kernel
theorem dX5_power_13 : decode cX5_power 13 = .ok (.iinc 3 1, 3) := by decide +kernel
theorem dX5_power_16 : decode cX5_power 16 = .ok (.goto (-12), 3) := by decide +kernel
theorem dX5_power_19 : decode cX5_power 19 = .ok (.iload_n 2, 1) := by decide +kernel
theorem dX5_power_20 : decode cX5_power 20 = .ok (.ireturn, 1) := by decide +kernel
theorem dX5_noPiece_0 : decode cX5_noPiece 0 = .ok (.iload_n 0, 1) := by decide +kernel
theorem dX5_noPiece_1 : decode cX5_noPiece 1 = .ok (.i2l, 1) := by decide +kernel
theorem dX5_noPiece_2 : decode cX5_noPiece 2 = .ok (.lconst 0, 1) := by decide +kernel
theorem dX5_noPiece_3 : decode cX5_noPiece 3 = .ok (.ldc2_w 63, 3) := by decide +kernel
theorem dX5_noPiece_6 : decode cX5_noPiece 6 = .ok (.invokestatic 65, 3) := by decide +kernel
theorem dX5_noPiece_9 : decode cX5_noPiece 9 = .ok (.ifCond .ne 7, 3) := by decide +kernel
theorem dX5_noPiece_12 : decode cX5_noPiece 12 = .ok (.iconst 1, 1) := by decide +kernel
theorem dX5_noPiece_13 : decode cX5_noPiece 13 = .ok (.goto 4, 3) := by decide +kernel
theorem dX5_noPiece_16 : decode cX5_noPiece 16 = .ok (.iconst 0, 1) := by decide +kernel
theorem dX5_noPiece_17 : decode cX5_noPiece 17 = .ok (.ireturn, 1) := by decide +kernel
theorem dX5_noKind_0 : decode cX5_noKind 0 = .ok (.iload_n 0, 1) := by decide +kernel
theorem dX5_noKind_1 : decode cX5_noKind 1 = .ok (.i2l, 1) := by decide +kernel
theorem dX5_noKind_2 : decode cX5_noKind 2 = .ok (.lconst 0, 1) := by decide +kernel
theorem dX5_noKind_3 : decode cX5_noKind 3 = .ok (.ldc2_w 69, 3) := by decide +kernel
theorem dX5_noKind_6 : decode cX5_noKind 6 = .ok (.invokestatic 65, 3) := by decide +kernel
theorem dX5_noKind_9 : decode cX5_noKind 9 = .ok (.ifCond .ne 7, 3) := by decide +kernel
theorem dX5_noKind_12 : decode cX5_noKind 12 = .ok (.iconst 1, 1) := by decide +kernel
theorem dX5_noKind_13 : decode cX5_noKind 13 = .ok (.goto 4, 3) := by decide +kernel
theorem dX5_noKind_16 : decode cX5_noKind 16 = .ok (.iconst 0, 1) := by decide +kernel
theorem dX5_noKind_17 : decode cX5_noKind 17 = .ok (.ireturn, 1) := by decide +kernel
theorem dX5_level_0 : decode cX5_level 0 = .ok (.iload_n 0, 1) := by decide +kernel
theorem dX5_level_1 : decode cX5_level 1 = .ok (.bipush 7, 2) := by decide +kernel
theorem dX5_level_3 : decode cX5_level 3 = .ok (.if_icmp .ge 7, 3) := by decide +kernel
theorem dX5_level_6 : decode cX5_level 6 = .ok (.iconst 0, 1) := by decide +kernel
theorem dX5_level_7 : decode cX5_level 7 = .ok (.goto 24, 3) := by decide +kernel
theorem dX5_level_10 : decode cX5_level 10 = .ok (.iload_n 0, 1) := by decide +kernel
theorem dX5_level_11 : decode cX5_level 11 = .ok (.bipush 12, 2) := by decide +kernel
theorem dX5_level_13 : decode cX5_level 13 = .ok (.if_icmp .ge 7, 3) := by decide +kernel
theorem dX5_level_16 : decode cX5_level 16 = .ok (.iconst 1, 1) := by decide +kernel
theorem dX5_level_17 : decode cX5_level 17 = .ok (.goto 14, 3) := by decide +kernel
theorem dX5_level_20 : decode cX5_level 20 = .ok (.iload_n 0, 1) := by decide +kernel
theorem dX5_level_21 : decode cX5_level 21 = .ok (.bipush 15, 2) := by decide +kernel
theorem dX5_level_23 : decode cX5_level 23 = .ok (.if_icmp .ge 7, 3) := by decide +kernel
theorem dX5_level_26 : decode cX5_level 26 = .ok (.iconst 2, 1) := by decide +kernel
theorem dX5_level_27 : decode cX5_level 27 = .ok (.goto 4, 3) := by decide +kernel
theorem dX5_level_30 : decode cX5_level 30 = .ok (.iconst 3, 1) := by decide +kernel
theorem dX5_level_31 : decode cX5_level 31 = .ok (.ireturn, 1) := by decide +kernel
theorem dX5_isFlat_0 : decode cX5_isFlat 0 = .ok (.iload_n 0, 1) := by decide +kernel
theorem dX5_isFlat_1 : decode cX5_isFlat 1 = .ok (.iconst 3, 1) := by decide +kernel
theorem dX5_isFlat_2 : decode cX5_isFlat 2 = .ok (.if_icmp .le 9, 3) := by decide +kernel
theorem dX5_isFlat_5 : decode cX5_isFlat 5 = .ok (.iload_n 0, 1) := by decide +kernel
theorem dX5_isFlat_6 : decode cX5_isFlat 6 = .ok (.bipush 7, 2) := by decide +kernel
theorem dX5_isFlat_8 : decode cX5_isFlat 8 = .ok (.if_icmp .lt 21, 3) := by decide +kernel
theorem dX5_isFlat_11 : decode cX5_isFlat 11 = .ok (.iload_n 0, 1) := by decide +kernel
theorem dX5_isFlat_12 : decode cX5_isFlat 12 = .ok (.bipush 10, 2) := by decide +kernel
theorem dX5_isFlat_14 : decode cX5_isFlat 14 = .ok (.if_icmp .eq 15, 3) := by decide +kernel
theorem dX5_isFlat_17 : decode cX5_isFlat 17 = .ok (.iload_n 0, 1) := by decide +kernel
theorem dX5_isFlat_18 : decode cX5_isFlat 18 = .ok (.bipush 11, 2) := by decide +kernel
theorem dX5_isFlat_20 : decode cX5_isFlat 20 = .ok (.if_icmp .eq 9, 3) := by decide +kernel
theorem dX5_isFlat_23 : decode cX5_isFlat 23 = .ok (.iload_n 0, 1) := by decide +kernel
theorem dX5_isFlat_24 : decode cX5_isFlat 24 = .ok (.bipush 14, 2) := by decide +kernel
theorem dX5_isFlat_26 : decode cX5_isFlat 26 = .ok (.if_icmp .ne 7, 3) := by decide +kernel
theorem dX5_isFlat_29 : decode cX5_isFlat 29 = .ok (.iconst 1, 1) := by decide +kernel
theorem dX5_isFlat_30 : decode cX5_isFlat 30 = .ok (.goto 4, 3) := by decide +kernel
theorem dX5_isFlat_33 : decode cX5_isFlat 33 = .ok (.iconst 0, 1) := by decide +kernel
theorem dX5_isFlat_34 : decode cX5_isFlat 34 = .ok (.ireturn, 1) := by decide +kernel
theorem dX5_need_0 : decode cX5_need 0 = .ok (.iload_n 0, 1) := by decide +kernel
theorem dX5_need_1 : decode cX5_need 1 = .ok (.invokestatic 71, 3) := by decide +kernel
theorem dX5_need_4 : decode cX5_need 4 = .ok (.ifCond .eq 7, 3) := by decide +kernel
theorem dX5_need_7 : decode cX5_need 7 = .ok (.iconst 1, 1) := by decide +kernel
theorem dX5_need_8 : decode cX5_need 8 = .ok (.goto 4, 3) := by decide +kernel
theorem dX5_need_11 : decode cX5_need 11 = .ok (.iconst 2, 1) := by decide +kernel
theorem dX5_need_12 : decode cX5_need 12 = .ok (.ireturn, 1) := by decide +kernel
theorem dX5_below_0 : decode cX5_below 0 = .ok (.iload_n 0, 1) := by decide +kernel
theorem dX5_below_1 : decode cX5_below 1 = .ok (.iconst 4, 1) := by decide +kernel
theorem dX5_below_2 : decode cX5_below 2 = .ok (.if_icmp .ge 5, 3) := by decide +kernel
theorem dX5_below_5 : decode cX5_below 5 = .ok (.iconst 0, 1) := by decide +kernel
theorem dX5_below_6 : decode cX5_below 6 = .ok (.ireturn, 1) := by decide +kernel
theorem dX5_below_7 : decode cX5_below 7 = .ok (.iload_n 0, 1) := by decide +kernel
theorem dX5_below_8 : decode cX5_below 8 = .ok (.bipush 7, 2) := by decide +kernel
theorem dX5_below_10 : decode cX5_below 10 = .ok (.if_icmp .ge 9, 3) := by decide +kernel
theorem dX5_below_13 : decode cX5_below 13 = .ok (.iconst 3, 1) := by decide +kernel
theorem dX5_below_14 : decode cX5_below 14 = .ok (.iload_n 0, 1) := by decide +kernel
theorem dX5_below_15 : decode cX5_below 15 = .ok (.iconst 4, 1) := by decide +kernel
theorem dX5_below_16 : decode cX5_below 16 = .ok (.isub, 1) := by decide +kernel
theorem dX5_below_17 : decode cX5_below 17 = .ok (.ishl, 1) := by decide +kernel
theorem dX5_below_18 : decode cX5_below 18 = .ok (.ireturn, 1) := by decide +kernel
theorem dX5_below_19 : decode cX5_below 19 = .ok (.iload_n 0, 1) := by decide +kernel
theorem dX5_below_20 : decode cX5_below 20 = .ok (.bipush 10, 2) := by decide +kernel
theorem dX5_below_22 : decode cX5_below 22 = .ok (.if_icmp .ge 9, 3) := by decide +kernel
theorem dX5_below_25 : decode cX5_below 25 = .ok (.iconst 1, 1) := by decide +kernel
theorem dX5_below_26 : decode cX5_below 26 = .ok (.iload_n 0, 1) := by decide +kernel
theorem dX5_below_27 : decode cX5_below 27 = .ok (.iconst 3, 1) := by decide +kernel
theorem dX5_below_28 : decode cX5_below 28 = .ok (.isub, 1) := by decide +kernel
theorem dX5_below_29 : decode cX5_below 29 = .ok (.ishl, 1) := by decide +kernel
theorem dX5_below_30 : decode cX5_below 30 = .ok (.ireturn, 1) := by decide +kernel
theorem dX5_below_31 : decode cX5_below 31 = .ok (.iload_n 0, 1) := by decide +kernel
theorem dX5_below_32 : decode cX5_below 32 = .ok (.bipush 12, 2) := by decide +kernel
theorem dX5_below_34 : decode cX5_below 34 = .ok (.if_icmp .ge 9, 3) := by decide +kernel
theorem dX5_below_37 : decode cX5_below 37 = .ok (.iconst 3, 1) := by decide +kernel
theorem dX5_below_38 : decode cX5_below 38 = .ok (.iload_n 0, 1) := by decide +kernel
theorem dX5_below_39 : decode cX5_below 39 = .ok (.iconst 3, 1) := by decide +kernel
theorem dX5_below_40 : decode cX5_below 40 = .ok (.isub, 1) := by decide +kernel
theorem dX5_below_41 : decode cX5_below 41 = .ok (.ishl, 1) := by decide +kernel
theorem dX5_below_42 : decode cX5_below 42 = .ok (.ireturn, 1) := by decide +kernel
theorem dX5_below_43 : decode cX5_below 43 = .ok (.iload_n 0, 1) := by decide +kernel
theorem dX5_below_44 : decode cX5_below 44 = .ok (.bipush 14, 2) := by decide +kernel
theorem dX5_below_46 : decode cX5_below 46 = .ok (.if_icmp .ge 11, 3) := by decide +kernel
theorem dX5_below_49 : decode cX5_below 49 = .ok (.iconst 1, 1) := by decide +kernel
theorem dX5_below_50 : decode cX5_below 50 = .ok (.iload_n 0, 1) := by decide +kernel
theorem dX5_below_51 : decode cX5_below 51 = .ok (.iconst 2, 1) := by decide +kernel
theorem dX5_below_52 : decode cX5_below 52 = .ok (.isub, 1) := by decide +kernel
theorem dX5_below_53 : decode cX5_below 53 = .ok (.ishl, 1) := by decide +kernel
theorem dX5_below_54 : decode cX5_below 54 = .ok (.goto 18, 3) := by decide +kernel
theorem dX5_below_57 : decode cX5_below 57 = .ok (.iload_n 0, 1) := by decide +kernel
theorem dX5_below_58 : decode cX5_below 58 = .ok (.bipush 14, 2) := by decide +kernel
theorem dX5_below_60 : decode cX5_below 60 = .ok (.if_icmp .ne 9, 3) := by decide +kernel
theorem dX5_below_63 : decode cX5_below 63 = .ok (.sipush 12288, 3) := by decide +kernel
theorem dX5_below_66 : decode cX5_below 66 = .ok (.goto 6, 3) := by decide +kernel
theorem dX5_below_69 : decode cX5_below 69 = .ok (.sipush 16384, 3) := by decide +kernel
theorem dX5_below_72 : decode cX5_below 72 = .ok (.ireturn, 1) := by decide +kernel
theorem dX5_weighs_0 : decode cX5_weighs 0 = .ok (.iload_n 0, 1) := by decide +kernel
theorem dX5_weighs_1 : decode cX5_weighs 1 = .ok (.invokestatic 75, 3) := by decide +kernel
theorem dX5_weighs_4 : decode cX5_weighs 4 = .ok (.iload_n 1, 1) := by decide +kernel
theorem dX5_weighs_5 : decode cX5_weighs 5 = .ok (.iconst 3, 1) := by decide +kernel
theorem dX5_weighs_6 : decode cX5_weighs 6 = .ok (.if_icmp .ne 8, 3) := by decide +kernel
theorem dX5_weighs_9 : decode cX5_weighs 9 = .ok (.bipush 16, 2) := by decide +kernel
theorem dX5_weighs_11 : decode cX5_weighs 11 = .ok (.goto 5, 3) := by decide +kernel
theorem dX5_weighs_14 : decode cX5_weighs 14 = .ok (.bipush 8, 2) := by decide +kernel
theorem dX5_weighs_16 : decode cX5_weighs 16 = .ok (.imul, 1) := by decide +kernel
theorem dX5_weighs_17 : decode cX5_weighs 17 = .ok (.ireturn, 1) := by decide +kernel
theorem dX5_bearsBy_0 : decode cX5_bearsBy 0 = .ok (.iload_n 0, 1) := by decide +kernel
theorem dX5_bearsBy_1 : decode cX5_bearsBy 1 = .ok (.iconst 1, 1) := by decide +kernel
theorem dX5_bearsBy_2 : decode cX5_bearsBy 2 = .ok (.if_icmp .ne 8, 3) := by decide +kernel
theorem dX5_bearsBy_5 : decode cX5_bearsBy 5 = .ok (.bipush 30, 2) := by decide +kernel
theorem dX5_bearsBy_7 : decode cX5_bearsBy 7 = .ok (.goto 25, 3) := by decide +kernel
theorem dX5_bearsBy_10 : decode cX5_bearsBy 10 = .ok (.iload_n 0, 1) := by decide +kernel
theorem dX5_bearsBy_11 : decode cX5_bearsBy 11 = .ok (.iconst 2, 1) := by decide +kernel
theorem dX5_bearsBy_12 : decode cX5_bearsBy 12 = .ok (.if_icmp .ne 8, 3) := by decide +kernel
theorem dX5_bearsBy_15 : decode cX5_bearsBy 15 = .ok (.bipush 45, 2) := by decide +kernel
theorem dX5_bearsBy_17 : decode cX5_bearsBy 17 = .ok (.goto 15, 3) := by decide +kernel
theorem dX5_bearsBy_20 : decode cX5_bearsBy 20 = .ok (.iload_n 0, 1) := by decide +kernel
theorem dX5_bearsBy_21 : decode cX5_bearsBy 21 = .ok (.iconst 3, 1) := by decide +kernel
theorem dX5_bearsBy_22 : decode cX5_bearsBy 22 = .ok (.if_icmp .ne 8, 3) := by decide +kernel
theorem dX5_bearsBy_25 : decode cX5_bearsBy 25 = .ok (.bipush 80, 2) := by decide +kernel
theorem dX5_bearsBy_27 : decode cX5_bearsBy 27 = .ok (.goto 5, 3) := by decide +kernel
theorem dX5_bearsBy_30 : decode cX5_bearsBy 30 = .ok (.bipush 60, 2) := by decide +kernel
theorem dX5_bearsBy_32 : decode cX5_bearsBy 32 = .ok (.ireturn, 1) := by decide +kernel
theorem dX5_grip_0 : decode cX5_grip 0 = .ok (.iload_n 0, 1) := by decide +kernel
theorem dX5_grip_1 : decode cX5_grip 1 = .ok (.iconst 1, 1) := by decide +kernel
theorem dX5_grip_2 : decode cX5_grip 2 = .ok (.if_icmp .ne 8, 3) := by decide +kernel
theorem dX5_grip_5 : decode cX5_grip 5 = .ok (.bipush 8, 2) := by decide +kernel
theorem dX5_grip_7 : decode cX5_grip 7 = .ok (.goto 14, 3) := by decide +kernel
theorem dX5_grip_10 : decode cX5_grip 10 = .ok (.iload_n 0, 1) := by decide +kernel
theorem dX5_grip_11 : decode cX5_grip 11 = .ok (.iconst 2, 1) := by decide +kernel
theorem dX5_grip_12 : decode cX5_grip 12 = .ok (.if_icmp .ne 8, 3) := by decide +kernel
theorem dX5_grip_15 : decode cX5_grip 15 = .ok (.bipush (-8), 2) := by decide +kernel
theorem dX5_grip_17 : decode cX5_grip 17 = .ok (.goto 4, 3) := by decide +kernel
theorem dX5_grip_20 : decode cX5_grip 20 = .ok (.iconst 0, 1) := by decide +kernel
theorem dX5_grip_21 : decode cX5_grip 21 = .ok (.ireturn, 1) := by decide +kernel
theorem dX5_there_0 : decode cX5_there 0 = .ok (.iconst 0, 1) := by decide +kernel
theorem dX5_there_1 : decode cX5_there 1 = .ok (.istore_n 1, 1) := by decide +kernel
theorem dX5_there_2 : decode cX5_there 2 = .ok (.iconst 0, 1) := by decide +kernel
theorem dX5_there_3 : decode cX5_there 3 = .ok (.istore_n 2, 1) := by decide +kernel
theorem dX5_there_4 : decode cX5_there 4 = .ok (.iload_n 2, 1) := by decide +kernel
theorem dX5_there_5 : decode cX5_there 5 = .ok (.bipush 16, 2) := by decide +kernel
theorem dX5_there_7 : decode cX5_there 7 = .ok (.if_icmp .ge 25, 3) := by decide +kernel
theorem dX5_there_10 : decode cX5_there 10 = .ok (.iload_n 1, 1) := by decide +kernel
theorem dX5_there_11 : decode cX5_there 11 = .ok (.aload_n 0, 1) := by decide +kernel
theorem dX5_there_12 : decode cX5_there 12 = .ok (.iload_n 2, 1) := by decide +kernel
theorem dX5_there_13 : decode cX5_there 13 = .ok (.iaload, 1) := by decide +kernel
theorem dX5_there_14 : decode cX5_there 14 = .ok (.ifCond .le 9, 3) := by decide +kernel
theorem dX5_there_17 : decode cX5_there 17 = .ok (.iconst 1, 1) := by decide +kernel
theorem dX5_there_18 : decode cX5_there 18 = .ok (.iload_n 2, 1) := by decide +kernel
theorem dX5_there_19 : decode cX5_there 19 = .ok (.ishl, 1) := by decide +kernel
theorem dX5_there_20 : decode cX5_there 20 = .ok (.goto 4, 3) := by decide +kernel
theorem dX5_there_23 : decode cX5_there 23 = .ok (.iconst 0, 1) := by decide +kernel
theorem dX5_there_24 : decode cX5_there 24 = .ok (.ior, 1) := by decide +kernel
theorem dX5_there_25 : decode cX5_there 25 = .ok (.istore_n 1, 1) := by decide +kernel
theorem dX5_there_26 : decode cX5_there 26 = .ok (.iinc 2 1, 3) := by decide +kernel
theorem dX5_there_29 : decode cX5_there 29 = .ok (.goto (-25), 3) := by decide +kernel
theorem dX5_there_32 : decode cX5_there 32 = .ok (.iload_n 1, 1) := by decide +kernel
theorem dX5_there_33 : decode cX5_there 33 = .ok (.ireturn, 1) := by decide +kernel
theorem dX5_used_0 : decode cX5_used 0 = .ok (.iconst 0, 1) := by decide +kernel
theorem dX5_used_1 : decode cX5_used 1 = .ok (.istore_n 2, 1) := by decide +kernel
theorem dX5_used_2 : decode cX5_used 2 = .ok (.iconst 0, 1) := by decide +kernel
theorem dX5_used_3 : decode cX5_used 3 = .ok (.istore_n 3, 1) := by decide +kernel
theorem dX5_used_4 : decode cX5_used 4 = .ok (.iload_n 3, 1) := by decide +kernel
theorem dX5_used_5 : decode cX5_used 5 = .ok (.bipush 16, 2) := by decide +kernel
theorem dX5_used_7 : decode cX5_used 7 = .ok (.if_icmp .ge 29, 3) := by decide +kernel
theorem dX5_used_10 : decode cX5_used 10 = .ok (.iload_n 2, 1) := by decide +kernel
theorem dX5_used_11 : decode cX5_used 11 = .ok (.aload_n 0, 1) := by decide +kernel
theorem dX5_used_12 : decode cX5_used 12 = .ok (.iload_n 3, 1) := by decide +kernel
theorem dX5_used_13 : decode cX5_used 13 = .ok (.iaload, 1) := by decide +kernel
theorem dX5_used_14 : decode cX5_used 14 = .ok (.iload_n 1, 1) := by decide +kernel
theorem dX5_used_15 : decode cX5_used 15 = .ok (.iconst 1, 1) := by decide +kernel
theorem dX5_used_16 : decode cX5_used 16 = .ok (.iadd, 1) := by decide +kernel
theorem dX5_used_17 : decode cX5_used 17 = .ok (.if_icmp .ne 10, 3) := by decide +kernel
theorem dX5_used_20 : decode cX5_used 20 = .ok (.iload_n 3, 1) := by decide +kernel
theorem dX5_used_21 : decode cX5_used 21 = .ok (.invokestatic 75, 3) := by decide +kernel
theorem dX5_used_24 : decode cX5_used 24 = .ok (.goto 4, 3) := by decide +kernel
theorem dX5_used_27 : decode cX5_used 27 = .ok (.iconst 0, 1) := by decide +kernel
theorem dX5_used_28 : decode cX5_used 28 = .ok (.iadd, 1) := by decide +kernel
theorem dX5_used_29 : decode cX5_used 29 = .ok (.istore_n 2, 1) := by decide +kernel
theorem dX5_used_30 : decode cX5_used 30 = .ok (.iinc 3 1, 3) := by decide +kernel
theorem dX5_used_33 : decode cX5_used 33 = .ok (.goto (-29), 3) := by decide +kernel
theorem dX5_used_36 : decode cX5_used 36 = .ok (.iload_n 2, 1) := by decide +kernel
theorem dX5_used_37 : decode cX5_used 37 = .ok (.ireturn, 1) := by decide +kernel
theorem dX5_left_0 : decode cX5_left 0 = .ok (.aload_n 0, 1) := by decide +kernel
theorem dX5_left_1 : decode cX5_left 1 = .ok (.getfield 13, 3) := by decide +kernel
theorem dX5_left_4 : decode cX5_left 4 = .ok (.iload_n 2, 1) := by decide +kernel
theorem dX5_left_5 : decode cX5_left 5 = .ok (.iaload, 1) := by decide +kernel
theorem dX5_left_6 : decode cX5_left 6 = .ok (.aload_n 1, 1) := by decide +kernel
theorem dX5_left_7 : decode cX5_left 7 = .ok (.iload_n 2, 1) := by decide +kernel
theorem dX5_left_8 : decode cX5_left 8 = .ok (.invokestatic 79, 3) := by decide +kernel
theorem dX5_left_11 : decode cX5_left 11 = .ok (.isub, 1) := by decide +kernel
theorem dX5_left_12 : decode cX5_left 12 = .ok (.ireturn, 1) := by decide +kernel
theorem dX5_layLoads_0 : decode cX5_layLoads 0 = .ok (.iconst 0, 1) := by decide +kernel
theorem dX5_layLoads_1 : decode cX5_layLoads 1 = .ok (.istore_n 2, 1) := by decide +kernel
theorem dX5_layLoads_2 : decode cX5_layLoads 2 = .ok (.iload_n 2, 1) := by decide +kernel
theorem dX5_layLoads_3 : decode cX5_layLoads 3 = .ok (.bipush 16, 2) := by decide +kernel
theorem dX5_layLoads_5 : decode cX5_layLoads 5 = .ok (.if_icmp .ge 16, 3) := by decide +kernel
theorem dX5_layLoads_8 : decode cX5_layLoads 8 = .ok (.aload_n 0, 1) := by decide +kernel
theorem dX5_layLoads_9 : decode cX5_layLoads 9 = .ok (.getfield 28, 3) := by decide +kernel
theorem dX5_layLoads_12 : decode cX5_layLoads 12 = .ok (.iload_n 2, 1) := by decide +kernel
theorem dX5_layLoads_13 : decode cX5_layLoads 13 = .ok (.iconst 0, 1) := by decide +kernel
theorem dX5_layLoads_14 : decode cX5_layLoads 14 = .ok (.iastore, 1) := by decide +kernel
theorem dX5_layLoads_15 : decode cX5_layLoads 15 = .ok (.iinc 2 1, 3) := by decide +kernel
theorem dX5_layLoads_18 : decode cX5_layLoads 18 = .ok (.goto (-16), 3) := by decide +kernel
theorem dX5_layLoads_21 : decode cX5_layLoads 21 = .ok (.bipush 15, 2) := by decide +kernel
theorem dX5_layLoads_23 : decode cX5_layLoads 23 = .ok (.istore_n 2, 1) := by decide +kernel
theorem dX5_layLoads_24 : decode cX5_layLoads 24 = .ok (.iload_n 2, 1) := by decide +kernel
theorem dX5_layLoads_25 : decode cX5_layLoads 25 = .ok (.ifCond .lt 87, 3) := by decide +kernel
theorem dX5_layLoads_28 : decode cX5_layLoads 28 = .ok (.aload_n 1, 1) := by decide +kernel
theorem dX5_layLoads_29 : decode cX5_layLoads 29 = .ok (.iload_n 2, 1) := by decide +kernel
theorem dX5_layLoads_30 : decode cX5_layLoads 30 = .ok (.iaload, 1) := by decide +kernel
theorem dX5_layLoads_31 : decode cX5_layLoads 31 = .ok (.ifCond .le 75, 3) := by decide +kernel
theorem dX5_layLoads_34 : decode cX5_layLoads 34 = .ok (.iload_n 2, 1) := by decide +kernel
theorem dX5_layLoads_35 : decode cX5_layLoads 35 = .ok (.aload_n 1, 1) := by decide +kernel
theorem dX5_layLoads_36 : decode cX5_layLoads 36 = .ok (.iload_n 2, 1) := by decide +kernel
theorem dX5_layLoads_37 : decode cX5_layLoads 37 = .ok (.iaload, 1) := by decide +kernel
theorem dX5_layLoads_38 : decode cX5_layLoads 38 = .ok (.iconst 1, 1) := by decide +kernel
theorem dX5_layLoads_39 : decode cX5_layLoads 39 = .ok (.isub, 1) := by decide +kernel
theorem dX5_layLoads_40 : decode cX5_layLoads 40 = .ok (.invokestatic 83, 3) := by decide +kernel
theorem dX5_layLoads_43 : decode cX5_layLoads 43 = .ok (.aload_n 0, 1) := by decide +kernel
theorem dX5_layLoads_44 : decode cX5_layLoads 44 = .ok (.getfield 28, 3) := by decide +kernel
theorem dX5_layLoads_47 : decode cX5_layLoads 47 = .ok (.iload_n 2, 1) := by decide +kernel
theorem dX5_layLoads_48 : decode cX5_layLoads 48 = .ok (.iaload, 1) := by decide +kernel
theorem dX5_layLoads_49 : decode cX5_layLoads 49 = .ok (.iadd, 1) := by decide +kernel
theorem dX5_layLoads_50 : decode cX5_layLoads 50 = .ok (.istore_n 3, 1) := by decide +kernel
theorem dX5_layLoads_51 : decode cX5_layLoads 51 = .ok (.iconst 0, 1) := by decide +kernel
theorem dX5_layLoads_52 : decode cX5_layLoads 52 = .ok (.istore 4, 2) := by decide +kernel
theorem dX5_layLoads_54 : decode cX5_layLoads 54 = .ok (.iload 4, 2) := by decide +kernel
theorem dX5_layLoads_56 : decode cX5_layLoads 56 = .ok (.iload_n 2, 1) := by decide +kernel
theorem dX5_layLoads_57 : decode cX5_layLoads 57 = .ok (.if_icmp .ge 49, 3) := by decide +kernel
theorem dX5_layLoads_60 : decode cX5_layLoads 60 = .ok (.aload_n 0, 1) := by decide +kernel
theorem dX5_layLoads_61 : decode cX5_layLoads 61 = .ok (.getfield 28, 3) := by decide +kernel
theorem dX5_layLoads_64 : decode cX5_layLoads 64 = .ok (.iload 4, 2) := by decide +kernel
theorem dX5_layLoads_66 : decode cX5_layLoads 66 = .ok (.dup2, 1) := by decide +kernel
theorem dX5_layLoads_67 : decode cX5_layLoads 67 = .ok (.iaload, 1) := by decide +kernel
theorem dX5_layLoads_68 : decode cX5_layLoads 68 = .ok (.iload_n 2, 1) := by decide +kernel
theorem dX5_layLoads_69 : decode cX5_layLoads 69 = .ok (.invokestatic 87, 3) := by decide +kernel
theorem dX5_layLoads_72 : decode cX5_layLoads 72 = .ok (.iload 4, 2) := by decide +kernel
theorem dX5_layLoads_74 : decode cX5_layLoads 74 = .ok (.invokestatic 90, 3) := by decide +kernel
theorem dX5_layLoads_77 : decode cX5_layLoads 77 = .ok (.ifCond .eq 20, 3) := by decide +kernel
theorem dX5_layLoads_80 : decode cX5_layLoads 80 = .ok (.iload_n 2, 1) := by decide +kernel
theorem dX5_layLoads_81 : decode cX5_layLoads 81 = .ok (.invokestatic 71, 3) := by decide +kernel
theorem dX5_layLoads_84 : decode cX5_layLoads 84 = .ok (.ifCond .eq 9, 3) := by decide +kernel
theorem dX5_layLoads_87 : decode cX5_layLoads 87 = .ok (.iload_n 3, 1) := by decide +kernel
theorem dX5_layLoads_88 : decode cX5_layLoads 88 = .ok (.iconst 2, 1) := by decide +kernel
theorem dX5_layLoads_89 : decode cX5_layLoads 89 = .ok (.idiv, 1) := by decide +kernel
theorem dX5_layLoads_90 : decode cX5_layLoads 90 = .ok (.goto 8, 3) := by decide +kernel
theorem dX5_layLoads_93 : decode cX5_layLoads 93 = .ok (.iload_n 3, 1) := by decide +kernel
theorem dX5_layLoads_94 : decode cX5_layLoads 94 = .ok (.goto 4, 3) := by decide +kernel
theorem dX5_layLoads_97 : decode cX5_layLoads 97 = .ok (.iconst 0, 1) := by decide +kernel
theorem dX5_layLoads_98 : decode cX5_layLoads 98 = .ok (.iadd, 1) := by decide +kernel
theorem dX5_layLoads_99 : decode cX5_layLoads 99 = .ok (.iastore, 1) := by decide +kernel
theorem dX5_layLoads_100 : decode cX5_layLoads 100 = .ok (.iinc 4 1, 3) := by decide +kernel
theorem dX5_layLoads_103 : decode cX5_layLoads 103 = .ok (.goto (-49), 3) := by decide +kernel
theorem dX5_layLoads_106 : decode cX5_layLoads 106 = .ok (.iinc 2 (-1), 3) := by decide +kernel
theorem dX5_layLoads_109 : decode cX5_layLoads 109 = .ok (.goto (-85), 3) := by decide +kernel
theorem dX5_layLoads_112 : decode cX5_layLoads 112 = .ok (.return_, 1) := by decide +kernel
theorem dX5_spreadOf_0 : decode cX5_spreadOf 0 = .ok (.iload_n 1, 1) := by decide +kernel
theorem dX5_spreadOf_1 : decode cX5_spreadOf 1 = .ok (.istore_n 2, 1) := by decide +kernel
theorem dX5_spreadOf_2 : decode cX5_spreadOf 2 = .ok (.iconst 0, 1) := by decide +kernel
theorem dX5_spreadOf_3 : decode cX5_spreadOf 3 = .ok (.istore_n 3, 1) := by decide +kernel
theorem dX5_spreadOf_4 : decode cX5_spreadOf 4 = .ok (.iload_n 3, 1) := by decide +kernel
theorem dX5_spreadOf_5 : decode cX5_spreadOf 5 = .ok (.bipush 16, 2) := by decide +kernel
theorem dX5_spreadOf_7 : decode cX5_spreadOf 7 = .ok (.if_icmp .ge 34, 3) := by decide +kernel
theorem dX5_spreadOf_10 : decode cX5_spreadOf 10 = .ok (.iload_n 2, 1) := by decide +kernel
theorem dX5_spreadOf_11 : decode cX5_spreadOf 11 = .ok (.aload_n 0, 1) := by decide +kernel
theorem dX5_spreadOf_12 : decode cX5_spreadOf 12 = .ok (.iload_n 3, 1) := by decide +kernel
theorem dX5_spreadOf_13 : decode cX5_spreadOf 13 = .ok (.iaload, 1) := by decide +kernel
theorem dX5_spreadOf_14 : decode cX5_spreadOf 14 = .ok (.ifCond .le 18, 3) := by decide +kernel
theorem dX5_spreadOf_17 : decode cX5_spreadOf 17 = .ok (.iload_n 3, 1) := by decide +kernel
theorem dX5_spreadOf_18 : decode cX5_spreadOf 18 = .ok (.invokestatic 87, 3) := by decide +kernel
theorem dX5_spreadOf_21 : decode cX5_spreadOf 21 = .ok (.iload_n 2, 1) := by decide +kernel
theorem dX5_spreadOf_22 : decode cX5_spreadOf 22 = .ok (.iand, 1) := by decide +kernel
theorem dX5_spreadOf_23 : decode cX5_spreadOf 23 = .ok (.ifCond .eq 9, 3) := by decide +kernel
theorem dX5_spreadOf_26 : decode cX5_spreadOf 26 = .ok (.iconst 1, 1) := by decide +kernel
theorem dX5_spreadOf_27 : decode cX5_spreadOf 27 = .ok (.iload_n 3, 1) := by decide +kernel
theorem dX5_spreadOf_28 : decode cX5_spreadOf 28 = .ok (.ishl, 1) := by decide +kernel
theorem dX5_spreadOf_29 : decode cX5_spreadOf 29 = .ok (.goto 4, 3) := by decide +kernel
theorem dX5_spreadOf_32 : decode cX5_spreadOf 32 = .ok (.iconst 0, 1) := by decide +kernel
theorem dX5_spreadOf_33 : decode cX5_spreadOf 33 = .ok (.ior, 1) := by decide +kernel
theorem dX5_spreadOf_34 : decode cX5_spreadOf 34 = .ok (.istore_n 2, 1) := by decide +kernel
theorem dX5_spreadOf_35 : decode cX5_spreadOf 35 = .ok (.iinc 3 1, 3) := by decide +kernel
theorem dX5_spreadOf_38 : decode cX5_spreadOf 38 = .ok (.goto (-34), 3) := by decide +kernel
theorem dX5_spreadOf_41 : decode cX5_spreadOf 41 = .ok (.iload_n 2, 1) := by decide +kernel
theorem dX5_spreadOf_42 : decode cX5_spreadOf 42 = .ok (.ireturn, 1) := by decide +kernel
theorem dX5_fallAll_0 : decode cX5_fallAll 0 = .ok (.aload_n 0, 1) := by decide +kernel
theorem dX5_fallAll_1 : decode cX5_fallAll 1 = .ok (.iload_n 1, 1) := by decide +kernel
theorem dX5_fallAll_2 : decode cX5_fallAll 2 = .ok (.invokestatic 94, 3) := by decide +kernel
theorem dX5_fallAll_5 : decode cX5_fallAll 5 = .ok (.istore_n 2, 1) := by decide +kernel
theorem dX5_fallAll_6 : decode cX5_fallAll 6 = .ok (.iconst 0, 1) := by decide +kernel
theorem dX5_fallAll_7 : decode cX5_fallAll 7 = .ok (.istore_n 3, 1) := by decide +kernel
theorem dX5_fallAll_8 : decode cX5_fallAll 8 = .ok (.iload_n 3, 1) := by decide +kernel
theorem dX5_fallAll_9 : decode cX5_fallAll 9 = .ok (.bipush 16, 2) := by decide +kernel
theorem dX5_fallAll_11 : decode cX5_fallAll 11 = .ok (.if_icmp .ge 27, 3) := by decide +kernel
theorem dX5_fallAll_14 : decode cX5_fallAll 14 = .ok (.aload_n 0, 1) := by decide +kernel
theorem dX5_fallAll_15 : decode cX5_fallAll 15 = .ok (.iload_n 3, 1) := by decide +kernel
theorem dX5_fallAll_16 : decode cX5_fallAll 16 = .ok (.iload_n 2, 1) := by decide +kernel
theorem dX5_fallAll_17 : decode cX5_fallAll 17 = .ok (.iload_n 3, 1) := by decide +kernel
theorem dX5_fallAll_18 : decode cX5_fallAll 18 = .ok (.invokestatic 90, 3) := by decide +kernel
theorem dX5_fallAll_21 : decode cX5_fallAll 21 = .ok (.ifCond .eq 7, 3) := by decide +kernel
theorem dX5_fallAll_24 : decode cX5_fallAll 24 = .ok (.iconst 0, 1) := by decide +kernel
theorem dX5_fallAll_25 : decode cX5_fallAll 25 = .ok (.goto 6, 3) := by decide +kernel
theorem dX5_fallAll_28 : decode cX5_fallAll 28 = .ok (.aload_n 0, 1) := by decide +kernel
theorem dX5_fallAll_29 : decode cX5_fallAll 29 = .ok (.iload_n 3, 1) := by decide +kernel
theorem dX5_fallAll_30 : decode cX5_fallAll 30 = .ok (.iaload, 1) := by decide +kernel
theorem dX5_fallAll_31 : decode cX5_fallAll 31 = .ok (.iastore, 1) := by decide +kernel
theorem dX5_fallAll_32 : decode cX5_fallAll 32 = .ok (.iinc 3 1, 3) := by decide +kernel
theorem dX5_fallAll_35 : decode cX5_fallAll 35 = .ok (.goto (-27), 3) := by decide +kernel
theorem dX5_fallAll_38 : decode cX5_fallAll 38 = .ok (.iload_n 2, 1) := by decide +kernel
theorem dX5_fallAll_39 : decode cX5_fallAll 39 = .ok (.invokestatic 97, 3) := by decide +kernel
theorem dX5_fallAll_42 : decode cX5_fallAll 42 = .ok (.ireturn, 1) := by decide +kernel
theorem dX5_weak_0 : decode cX5_weak 0 = .ok (.aload_n 0, 1) := by decide +kernel
theorem dX5_weak_1 : decode cX5_weak 1 = .ok (.aload_n 1, 1) := by decide +kernel
theorem dX5_weak_2 : decode cX5_weak 2 = .ok (.invokevirtual 100, 3) := by decide +kernel
theorem dX5_weak_5 : decode cX5_weak 5 = .ok (.iconst 0, 1) := by decide +kernel
theorem dX5_weak_6 : decode cX5_weak 6 = .ok (.istore_n 2, 1) := by decide +kernel
theorem dX5_weak_7 : decode cX5_weak 7 = .ok (.iconst 0, 1) := by decide +kernel
theorem dX5_weak_8 : decode cX5_weak 8 = .ok (.istore_n 3, 1) := by decide +kernel
theorem dX5_weak_9 : decode cX5_weak 9 = .ok (.iload_n 3, 1) := by decide +kernel
theorem dX5_weak_10 : decode cX5_weak 10 = .ok (.bipush 16, 2) := by decide +kernel
theorem dX5_weak_12 : decode cX5_weak 12 = .ok (.if_icmp .ge 42, 3) := by decide +kernel
theorem dX5_weak_15 : decode cX5_weak 15 = .ok (.iload_n 2, 1) := by decide +kernel
theorem dX5_weak_16 : decode cX5_weak 16 = .ok (.aload_n 1, 1) := by decide +kernel
theorem dX5_weak_17 : decode cX5_weak 17 = .ok (.iload_n 3, 1) := by decide +kernel
theorem dX5_weak_18 : decode cX5_weak 18 = .ok (.iaload, 1) := by decide +kernel
theorem dX5_weak_19 : decode cX5_weak 19 = .ok (.ifCond .le 26, 3) := by decide +kernel
theorem dX5_weak_22 : decode cX5_weak 22 = .ok (.aload_n 0, 1) := by decide +kernel
theorem dX5_weak_23 : decode cX5_weak 23 = .ok (.getfield 28, 3) := by decide +kernel
theorem dX5_weak_26 : decode cX5_weak 26 = .ok (.iload_n 3, 1) := by decide +kernel
theorem dX5_weak_27 : decode cX5_weak 27 = .ok (.iaload, 1) := by decide +kernel
theorem dX5_weak_28 : decode cX5_weak 28 = .ok (.aload_n 1, 1) := by decide +kernel
theorem dX5_weak_29 : decode cX5_weak 29 = .ok (.iload_n 3, 1) := by decide +kernel
theorem dX5_weak_30 : decode cX5_weak 30 = .ok (.iaload, 1) := by decide +kernel
theorem dX5_weak_31 : decode cX5_weak 31 = .ok (.iconst 1, 1) := by decide +kernel
theorem dX5_weak_32 : decode cX5_weak 32 = .ok (.isub, 1) := by decide +kernel
theorem dX5_weak_33 : decode cX5_weak 33 = .ok (.invokestatic 104, 3) := by decide +kernel
theorem dX5_weak_36 : decode cX5_weak 36 = .ok (.if_icmp .le 9, 3) := by decide +kernel
theorem dX5_weak_39 : decode cX5_weak 39 = .ok (.iconst 1, 1) := by decide +kernel
theorem dX5_weak_40 : decode cX5_weak 40 = .ok (.iload_n 3, 1) := by decide +kernel
theorem dX5_weak_41 : decode cX5_weak 41 = .ok (.ishl, 1) := by decide +kernel
theorem dX5_weak_42 : decode cX5_weak 42 = .ok (.goto 4, 3) := by decide +kernel
theorem dX5_weak_45 : decode cX5_weak 45 = .ok (.iconst 0, 1) := by decide +kernel
theorem dX5_weak_46 : decode cX5_weak 46 = .ok (.ior, 1) := by decide +kernel
theorem dX5_weak_47 : decode cX5_weak 47 = .ok (.istore_n 2, 1) := by decide +kernel
theorem dX5_weak_48 : decode cX5_weak 48 = .ok (.iinc 3 1, 3) := by decide +kernel
theorem dX5_weak_51 : decode cX5_weak 51 = .ok (.goto (-42), 3) := by decide +kernel
theorem dX5_weak_54 : decode cX5_weak 54 = .ok (.iload_n 2, 1) := by decide +kernel
theorem dX5_weak_55 : decode cX5_weak 55 = .ok (.ireturn, 1) := by decide +kernel
theorem dX5_settle_0 : decode cX5_settle 0 = .ok (.iconst 0, 1) := by decide +kernel
theorem dX5_settle_1 : decode cX5_settle 1 = .ok (.istore_n 2, 1) := by decide +kernel
theorem dX5_settle_2 : decode cX5_settle 2 = .ok (.aload_n 0, 1) := by decide +kernel
theorem dX5_settle_3 : decode cX5_settle 3 = .ok (.aload_n 1, 1) := by decide +kernel
theorem dX5_settle_4 : decode cX5_settle 4 = .ok (.invokevirtual 107, 3) := by decide +kernel
theorem dX5_settle_7 : decode cX5_settle 7 = .ok (.istore_n 3, 1) := by decide +kernel
theorem dX5_settle_8 : decode cX5_settle 8 = .ok (.iload_n 3, 1) := by decide +kernel
theorem dX5_settle_9 : decode cX5_settle 9 = .ok (.ifCond .eq 20, 3) := by decide +kernel
theorem dX5_settle_12 : decode cX5_settle 12 = .ok (.iload_n 2, 1) := by decide +kernel
theorem dX5_settle_13 : decode cX5_settle 13 = .ok (.aload_n 1, 1) := by decide +kernel
theorem dX5_settle_14 : decode cX5_settle 14 = .ok (.iload_n 3, 1) := by decide +kernel
theorem dX5_settle_15 : decode cX5_settle 15 = .ok (.invokestatic 111, 3) := by decide +kernel
theorem dX5_settle_18 : decode cX5_settle 18 = .ok (.iadd, 1) := by decide +kernel
theorem dX5_settle_19 : decode cX5_settle 19 = .ok (.istore_n 2, 1) := by decide +kernel
theorem dX5_settle_20 : decode cX5_settle 20 = .ok (.aload_n 0, 1) := by decide +kernel
theorem dX5_settle_21 : decode cX5_settle 21 = .ok (.aload_n 1, 1) := by decide +kernel
theorem dX5_settle_22 : decode cX5_settle 22 = .ok (.invokevirtual 107, 3) := by decide +kernel
theorem dX5_settle_25 : decode cX5_settle 25 = .ok (.istore_n 3, 1) := by decide +kernel
theorem dX5_settle_26 : decode cX5_settle 26 = .ok (.goto (-18), 3) := by decide +kernel
theorem dX5_settle_29 : decode cX5_settle 29 = .ok (.iload_n 2, 1) := by decide +kernel
theorem dX5_settle_30 : decode cX5_settle 30 = .ok (.ireturn, 1) := by decide +kernel
theorem dX5_write_0 : decode cX5_write 0 = .ok (.aload_n 0, 1) := by decide +kernel
theorem dX5_write_1 : decode cX5_write 1 = .ok (.iconst 0, 1) := by decide +kernel
theorem dX5_write_2 : decode cX5_write 2 = .ok (.putfield 59, 3) := by decide +kernel
theorem dX5_write_5 : decode cX5_write 5 = .ok (.iload_n 1, 1) := by decide +kernel
theorem dX5_write_6 : decode cX5_write 6 = .ok (.i2l, 1) := by decide +kernel
theorem dX5_write_7 : decode cX5_write 7 = .ok (.lconst 0, 1) := by decide +kernel
theorem dX5_write_8 : decode cX5_write 8 = .ok (.ldc2_w 114, 3) := by decide +kernel
theorem dX5_write_11 : decode cX5_write 11 = .ok (.invokestatic 65, 3) := by decide +kernel
theorem dX5_write_14 : decode cX5_write 14 = .ok (.ifCond .ne 6, 3) := by decide +kernel
theorem dX5_write_17 : decode cX5_write 17 = .ok (.bipush (-2), 2) := by decide +kernel
theorem dX5_write_19 : decode cX5_write 19 = .ok (.ireturn, 1) := by decide +kernel
theorem dX5_write_20 : decode cX5_write 20 = .ok (.aload_n 0, 1) := by decide +kernel
theorem dX5_write_21 : decode cX5_write 21 = .ok (.getfield 116, 3) := by decide +kernel
theorem dX5_write_24 : decode cX5_write 24 = .ok (.bipush 56, 2) := by decide +kernel
theorem dX5_write_26 : decode cX5_write 26 = .ok (.if_icmp .ne 6, 3) := by decide +kernel
theorem dX5_write_29 : decode cX5_write 29 = .ok (.bipush (-4), 2) := by decide +kernel
theorem dX5_write_31 : decode cX5_write 31 = .ok (.ireturn, 1) := by decide +kernel
theorem dX5_write_32 : decode cX5_write 32 = .ok (.aload_n 0, 1) := by decide +kernel
theorem dX5_write_33 : decode cX5_write 33 = .ok (.getfield 7, 3) := by decide +kernel
theorem dX5_write_36 : decode cX5_write 36 = .ok (.aload_n 0, 1) := by decide +kernel
theorem dX5_write_37 : decode cX5_write 37 = .ok (.getfield 116, 3) := by decide +kernel
theorem dX5_write_40 : decode cX5_write 40 = .ok (.iload_n 1, 1) := by decide +kernel
theorem dX5_write_41 : decode cX5_write 41 = .ok (.iastore, 1) := by decide +kernel
theorem dX5_write_42 : decode cX5_write 42 = .ok (.aload_n 0, 1) := by decide +kernel
theorem dX5_write_43 : decode cX5_write 43 = .ok (.dup, 1) := by decide +kernel
theorem dX5_write_44 : decode cX5_write 44 = .ok (.getfield 116, 3) := by decide +kernel
theorem dX5_write_47 : decode cX5_write 47 = .ok (.iconst 1, 1) := by decide +kernel
theorem dX5_write_48 : decode cX5_write 48 = .ok (.iadd, 1) := by decide +kernel
theorem dX5_write_49 : decode cX5_write 49 = .ok (.putfield 116, 3) := by decide +kernel
theorem dX5_write_52 : decode cX5_write 52 = .ok (.aload_n 0, 1) := by decide +kernel
theorem dX5_write_53 : decode cX5_write 53 = .ok (.getfield 116, 3) := by decide +kernel
theorem dX5_write_56 : decode cX5_write 56 = .ok (.ireturn, 1) := by decide +kernel
theorem dX5_wipe_0 : decode cX5_wipe 0 = .ok (.aload_n 0, 1) := by decide +kernel
theorem dX5_wipe_1 : decode cX5_wipe 1 = .ok (.iconst 0, 1) := by decide +kernel
theorem dX5_wipe_2 : decode cX5_wipe 2 = .ok (.putfield 59, 3) := by decide +kernel
theorem dX5_wipe_5 : decode cX5_wipe 5 = .ok (.aload_n 0, 1) := by decide +kernel
theorem dX5_wipe_6 : decode cX5_wipe 6 = .ok (.getfield 116, 3) := by decide +kernel
theorem dX5_wipe_9 : decode cX5_wipe 9 = .ok (.istore_n 1, 1) := by decide +kernel
theorem dX5_wipe_10 : decode cX5_wipe 10 = .ok (.aload_n 0, 1) := by decide +kernel
theorem dX5_wipe_11 : decode cX5_wipe 11 = .ok (.iconst 0, 1) := by decide +kernel
theorem dX5_wipe_12 : decode cX5_wipe 12 = .ok (.putfield 116, 3) := by decide +kernel
theorem dX5_wipe_15 : decode cX5_wipe 15 = .ok (.iload_n 1, 1) := by decide +kernel
theorem dX5_wipe_16 : decode cX5_wipe 16 = .ok (.ireturn, 1) := by decide +kernel
theorem dX5_figure_0 : decode cX5_figure 0 = .ok (.aload_n 0, 1) := by decide +kernel
theorem dX5_figure_1 : decode cX5_figure 1 = .ok (.getfield 119, 3) := by decide +kernel
theorem dX5_figure_4 : decode cX5_figure 4 = .ok (.aload_n 0, 1) := by decide +kernel
theorem dX5_figure_5 : decode cX5_figure 5 = .ok (.getfield 116, 3) := by decide +kernel
theorem dX5_figure_8 : decode cX5_figure 8 = .ok (.if_icmp .eq 25, 3) := by decide +kernel
theorem dX5_figure_11 : decode cX5_figure 11 = .ok (.aload_n 0, 1) := by decide +kernel
theorem dX5_figure_12 : decode cX5_figure 12 = .ok (.getfield 7, 3) := by decide +kernel
theorem dX5_figure_15 : decode cX5_figure 15 = .ok (.aload_n 0, 1) := by decide +kernel
theorem dX5_figure_16 : decode cX5_figure 16 = .ok (.getfield 119, 3) := by decide +kernel
theorem dX5_figure_19 : decode cX5_figure 19 = .ok (.iaload, 1) := by decide +kernel
theorem dX5_figure_20 : decode cX5_figure 20 = .ok (.bipush 48, 2) := by decide +kernel
theorem dX5_figure_22 : decode cX5_figure 22 = .ok (.isub, 1) := by decide +kernel
theorem dX5_figure_23 : decode cX5_figure 23 = .ok (.i2l, 1) := by decide +kernel
theorem dX5_figure_24 : decode cX5_figure 24 = .ok (.lconst 0, 1) := by decide +kernel
theorem dX5_figure_25 : decode cX5_figure 25 = .ok (.iload_n 1, 1) := by decide +kernel
theorem dX5_figure_26 : decode cX5_figure 26 = .ok (.i2l, 1) := by decide +kernel
theorem dX5_figure_27 : decode cX5_figure 27 = .ok (.invokestatic 65, 3) := by decide +kernel
theorem dX5_figure_30 : decode cX5_figure 30 = .ok (.ifCond .ne 6, 3) := by decide +kernel
theorem dX5_figure_33 : decode cX5_figure 33 = .ok (.bipush (-9), 2) := by decide +kernel
theorem dX5_figure_35 : decode cX5_figure 35 = .ok (.ireturn, 1) := by decide +kernel
theorem dX5_figure_36 : decode cX5_figure 36 = .ok (.aload_n 0, 1) := by decide +kernel
theorem dX5_figure_37 : decode cX5_figure 37 = .ok (.dup, 1) := by decide +kernel
theorem dX5_figure_38 : decode cX5_figure 38 = .ok (.getfield 119, 3) := by decide +kernel
theorem dX5_figure_41 : decode cX5_figure 41 = .ok (.iconst 1, 1) := by decide +kernel
theorem dX5_figure_42 : decode cX5_figure 42 = .ok (.iadd, 1) := by decide +kernel
theorem dX5_figure_43 : decode cX5_figure 43 = .ok (.putfield 119, 3) := by decide +kernel
theorem dX5_figure_46 : decode cX5_figure 46 = .ok (.aload_n 0, 1) := by decide +kernel
theorem dX5_figure_47 : decode cX5_figure 47 = .ok (.getfield 7, 3) := by decide +kernel
theorem dX5_figure_50 : decode cX5_figure 50 = .ok (.aload_n 0, 1) := by decide +kernel
theorem dX5_figure_51 : decode cX5_figure 51 = .ok (.getfield 119, 3) := by decide +kernel
theorem dX5_figure_54 : decode cX5_figure 54 = .ok (.iconst 1, 1) := by decide +kernel
theorem dX5_figure_55 : decode cX5_figure 55 = .ok (.isub, 1) := by decide +kernel
theorem dX5_figure_56 : decode cX5_figure 56 = .ok (.iaload, 1) := by decide +kernel
theorem dX5_figure_57 : decode cX5_figure 57 = .ok (.bipush 48, 2) := by decide +kernel
theorem dX5_figure_59 : decode cX5_figure 59 = .ok (.isub, 1) := by decide +kernel
theorem dX5_figure_60 : decode cX5_figure 60 = .ok (.ireturn, 1) := by decide +kernel
theorem dX5_enough_0 : decode cX5_enough 0 = .ok (.aload_n 0, 1) := by decide +kernel
theorem dX5_enough_1 : decode cX5_enough 1 = .ok (.getfield 16, 3) := by decide +kernel
theorem dX5_enough_4 : decode cX5_enough 4 = .ok (.iload_n 2, 1) := by decide +kernel
theorem dX5_enough_5 : decode cX5_enough 5 = .ok (.iaload, 1) := by decide +kernel
theorem dX5_enough_6 : decode cX5_enough 6 = .ok (.aload_n 0, 1) := by decide +kernel
theorem dX5_enough_7 : decode cX5_enough 7 = .ok (.getfield 19, 3) := by decide +kernel
theorem dX5_enough_10 : decode cX5_enough 10 = .ok (.iload_n 2, 1) := by decide +kernel
theorem dX5_enough_11 : decode cX5_enough 11 = .ok (.invokestatic 79, 3) := by decide +kernel
theorem dX5_enough_14 : decode cX5_enough 14 = .ok (.isub, 1) := by decide +kernel
theorem dX5_enough_15 : decode cX5_enough 15 = .ok (.iload_n 1, 1) := by decide +kernel
theorem dX5_enough_16 : decode cX5_enough 16 = .ok (.invokestatic 75, 3) := by decide +kernel
theorem dX5_enough_19 : decode cX5_enough 19 = .ok (.if_icmp .lt 7, 3) := by decide +kernel
theorem dX5_enough_22 : decode cX5_enough 22 = .ok (.iconst 1, 1) := by decide +kernel
theorem dX5_enough_23 : decode cX5_enough 23 = .ok (.goto 4, 3) := by decide +kernel
theorem dX5_enough_26 : decode cX5_enough 26 = .ok (.iconst 0, 1) := by decide +kernel
theorem dX5_enough_27 : decode cX5_enough 27 = .ok (.ireturn, 1) := by decide +kernel
theorem dX5_couldCome_0 : decode cX5_couldCome 0 = .ok (.aload_n 0, 1) := by decide +kernel
theorem dX5_couldCome_1 : decode cX5_couldCome 1 = .ok (.getfield 19, 3) := by decide +kernel
theorem dX5_couldCome_4 : decode cX5_couldCome 4 = .ok (.iload_n 1, 1) := by decide +kernel
theorem dX5_couldCome_5 : decode cX5_couldCome 5 = .ok (.iaload, 1) := by decide +kernel
theorem dX5_couldCome_6 : decode cX5_couldCome 6 = .ok (.ifCond .gt 20, 3) := by decide +kernel
theorem dX5_couldCome_9 : decode cX5_couldCome 9 = .ok (.iload_n 1, 1) := by decide +kernel
theorem dX5_couldCome_10 : decode cX5_couldCome 10 = .ok (.invokestatic 87, 3) := by decide +kernel
