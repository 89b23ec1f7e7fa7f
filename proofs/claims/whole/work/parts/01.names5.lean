theorem dX5_couldCome_13 : decode cX5_couldCome 13 = .ok (.aload_n 0, 1) := by decide +kernel
theorem dX5_couldCome_14 : decode cX5_couldCome 14 = .ok (.getfield 19, 3) := by decide +kernel
theorem dX5_couldCome_17 : decode cX5_couldCome 17 = .ok (.invokestatic 122, 3) := by decide +kernel
theorem dX5_couldCome_20 : decode cX5_couldCome 20 = .ok (.iconst (-1), 1) := by decide +kernel
theorem dX5_couldCome_21 : decode cX5_couldCome 21 = .ok (.ixor, 1) := by decide +kernel
theorem dX5_couldCome_22 : decode cX5_couldCome 22 = .ok (.iand, 1) := by decide +kernel
theorem dX5_couldCome_23 : decode cX5_couldCome 23 = .ok (.ifCond .eq 5, 3) := by decide +kernel
theorem dX5_couldCome_26 : decode cX5_couldCome 26 = .ok (.iconst 0, 1) := by decide +kernel
theorem dX5_couldCome_27 : decode cX5_couldCome 27 = .ok (.ireturn, 1) := by decide +kernel
theorem dX5_couldCome_28 : decode cX5_couldCome 28 = .ok (.aload_n 0, 1) := by decide +kernel
theorem dX5_couldCome_29 : decode cX5_couldCome 29 = .ok (.iload_n 1, 1) := by decide +kernel
theorem dX5_couldCome_30 : decode cX5_couldCome 30 = .ok (.iconst 0, 1) := by decide +kernel
theorem dX5_couldCome_31 : decode cX5_couldCome 31 = .ok (.invokevirtual 125, 3) := by decide +kernel
theorem dX5_couldCome_34 : decode cX5_couldCome 34 = .ok (.ifCond .ne 30, 3) := by decide +kernel
theorem dX5_couldCome_37 : decode cX5_couldCome 37 = .ok (.aload_n 0, 1) := by decide +kernel
theorem dX5_couldCome_38 : decode cX5_couldCome 38 = .ok (.iload_n 1, 1) := by decide +kernel
theorem dX5_couldCome_39 : decode cX5_couldCome 39 = .ok (.iconst 1, 1) := by decide +kernel
theorem dX5_couldCome_40 : decode cX5_couldCome 40 = .ok (.invokevirtual 125, 3) := by decide +kernel
theorem dX5_couldCome_43 : decode cX5_couldCome 43 = .ok (.ifCond .ne 21, 3) := by decide +kernel
theorem dX5_couldCome_46 : decode cX5_couldCome 46 = .ok (.aload_n 0, 1) := by decide +kernel
theorem dX5_couldCome_47 : decode cX5_couldCome 47 = .ok (.iload_n 1, 1) := by decide +kernel
theorem dX5_couldCome_48 : decode cX5_couldCome 48 = .ok (.iconst 2, 1) := by decide +kernel
theorem dX5_couldCome_49 : decode cX5_couldCome 49 = .ok (.invokevirtual 125, 3) := by decide +kernel
theorem dX5_couldCome_52 : decode cX5_couldCome 52 = .ok (.ifCond .ne 12, 3) := by decide +kernel
theorem dX5_couldCome_55 : decode cX5_couldCome 55 = .ok (.aload_n 0, 1) := by decide +kernel
theorem dX5_couldCome_56 : decode cX5_couldCome 56 = .ok (.iload_n 1, 1) := by decide +kernel
theorem dX5_couldCome_57 : decode cX5_couldCome 57 = .ok (.iconst 3, 1) := by decide +kernel
theorem dX5_couldCome_58 : decode cX5_couldCome 58 = .ok (.invokevirtual 125, 3) := by decide +kernel
theorem dX5_couldCome_61 : decode cX5_couldCome 61 = .ok (.ifCond .eq 7, 3) := by decide +kernel
theorem dX5_couldCome_64 : decode cX5_couldCome 64 = .ok (.iconst 1, 1) := by decide +kernel
theorem dX5_couldCome_65 : decode cX5_couldCome 65 = .ok (.goto 4, 3) := by decide +kernel
theorem dX5_couldCome_68 : decode cX5_couldCome 68 = .ok (.iconst 0, 1) := by decide +kernel
theorem dX5_couldCome_69 : decode cX5_couldCome 69 = .ok (.ireturn, 1) := by decide +kernel
theorem dX5_couldAny_0 : decode cX5_couldAny 0 = .ok (.iconst 0, 1) := by decide +kernel
theorem dX5_couldAny_1 : decode cX5_couldAny 1 = .ok (.istore_n 1, 1) := by decide +kernel
theorem dX5_couldAny_2 : decode cX5_couldAny 2 = .ok (.iconst 0, 1) := by decide +kernel
theorem dX5_couldAny_3 : decode cX5_couldAny 3 = .ok (.istore_n 2, 1) := by decide +kernel
theorem dX5_couldAny_4 : decode cX5_couldAny 4 = .ok (.iload_n 2, 1) := by decide +kernel
theorem dX5_couldAny_5 : decode cX5_couldAny 5 = .ok (.bipush 16, 2) := by decide +kernel
theorem dX5_couldAny_7 : decode cX5_couldAny 7 = .ok (.if_icmp .ge 27, 3) := by decide +kernel
theorem dX5_couldAny_10 : decode cX5_couldAny 10 = .ok (.iload_n 1, 1) := by decide +kernel
theorem dX5_couldAny_11 : decode cX5_couldAny 11 = .ok (.ifCond .ne 11, 3) := by decide +kernel
theorem dX5_couldAny_14 : decode cX5_couldAny 14 = .ok (.aload_n 0, 1) := by decide +kernel
theorem dX5_couldAny_15 : decode cX5_couldAny 15 = .ok (.iload_n 2, 1) := by decide +kernel
theorem dX5_couldAny_16 : decode cX5_couldAny 16 = .ok (.invokevirtual 128, 3) := by decide +kernel
theorem dX5_couldAny_19 : decode cX5_couldAny 19 = .ok (.ifCond .eq 7, 3) := by decide +kernel
theorem dX5_couldAny_22 : decode cX5_couldAny 22 = .ok (.iconst 1, 1) := by decide +kernel
theorem dX5_couldAny_23 : decode cX5_couldAny 23 = .ok (.goto 4, 3) := by decide +kernel
theorem dX5_couldAny_26 : decode cX5_couldAny 26 = .ok (.iconst 0, 1) := by decide +kernel
theorem dX5_couldAny_27 : decode cX5_couldAny 27 = .ok (.istore_n 1, 1) := by decide +kernel
theorem dX5_couldAny_28 : decode cX5_couldAny 28 = .ok (.iinc 2 1, 3) := by decide +kernel
theorem dX5_couldAny_31 : decode cX5_couldAny 31 = .ok (.goto (-27), 3) := by decide +kernel
theorem dX5_couldAny_34 : decode cX5_couldAny 34 = .ok (.iload_n 1, 1) := by decide +kernel
theorem dX5_couldAny_35 : decode cX5_couldAny 35 = .ok (.ireturn, 1) := by decide +kernel
theorem dX5_readPiece_0 : decode cX5_readPiece 0 = .ok (.aload_n 0, 1) := by decide +kernel
theorem dX5_readPiece_1 : decode cX5_readPiece 1 = .ok (.getfield 7, 3) := by decide +kernel
theorem dX5_readPiece_4 : decode cX5_readPiece 4 = .ok (.aload_n 0, 1) := by decide +kernel
theorem dX5_readPiece_5 : decode cX5_readPiece 5 = .ok (.getfield 119, 3) := by decide +kernel
theorem dX5_readPiece_8 : decode cX5_readPiece 8 = .ok (.iaload, 1) := by decide +kernel
theorem dX5_readPiece_9 : decode cX5_readPiece 9 = .ok (.bipush 80, 2) := by decide +kernel
theorem dX5_readPiece_11 : decode cX5_readPiece 11 = .ok (.if_icmp .ne 10, 3) := by decide +kernel
theorem dX5_readPiece_14 : decode cX5_readPiece 14 = .ok (.aload_n 0, 1) := by decide +kernel
theorem dX5_readPiece_15 : decode cX5_readPiece 15 = .ok (.invokevirtual 131, 3) := by decide +kernel
theorem dX5_readPiece_18 : decode cX5_readPiece 18 = .ok (.ifCond .ne 5, 3) := by decide +kernel
theorem dX5_readPiece_21 : decode cX5_readPiece 21 = .ok (.iconst 0, 1) := by decide +kernel
theorem dX5_readPiece_22 : decode cX5_readPiece 22 = .ok (.ireturn, 1) := by decide +kernel
theorem dX5_readPiece_23 : decode cX5_readPiece 23 = .ok (.aload_n 0, 1) := by decide +kernel
theorem dX5_readPiece_24 : decode cX5_readPiece 24 = .ok (.dup, 1) := by decide +kernel
theorem dX5_readPiece_25 : decode cX5_readPiece 25 = .ok (.getfield 119, 3) := by decide +kernel
theorem dX5_readPiece_28 : decode cX5_readPiece 28 = .ok (.iconst 1, 1) := by decide +kernel
theorem dX5_readPiece_29 : decode cX5_readPiece 29 = .ok (.iadd, 1) := by decide +kernel
theorem dX5_readPiece_30 : decode cX5_readPiece 30 = .ok (.putfield 119, 3) := by decide +kernel
theorem dX5_readPiece_33 : decode cX5_readPiece 33 = .ok (.aload_n 0, 1) := by decide +kernel
theorem dX5_readPiece_34 : decode cX5_readPiece 34 = .ok (.getfield 119, 3) := by decide +kernel
theorem dX5_readPiece_37 : decode cX5_readPiece 37 = .ok (.aload_n 0, 1) := by decide +kernel
theorem dX5_readPiece_38 : decode cX5_readPiece 38 = .ok (.getfield 116, 3) := by decide +kernel
theorem dX5_readPiece_41 : decode cX5_readPiece 41 = .ok (.if_icmp .ge 18, 3) := by decide +kernel
theorem dX5_readPiece_44 : decode cX5_readPiece 44 = .ok (.aload_n 0, 1) := by decide +kernel
theorem dX5_readPiece_45 : decode cX5_readPiece 45 = .ok (.getfield 7, 3) := by decide +kernel
theorem dX5_readPiece_48 : decode cX5_readPiece 48 = .ok (.aload_n 0, 1) := by decide +kernel
theorem dX5_readPiece_49 : decode cX5_readPiece 49 = .ok (.getfield 119, 3) := by decide +kernel
theorem dX5_readPiece_52 : decode cX5_readPiece 52 = .ok (.iaload, 1) := by decide +kernel
theorem dX5_readPiece_53 : decode cX5_readPiece 53 = .ok (.bipush 97, 2) := by decide +kernel
theorem dX5_readPiece_55 : decode cX5_readPiece 55 = .ok (.isub, 1) := by decide +kernel
theorem dX5_readPiece_56 : decode cX5_readPiece 56 = .ok (.goto 5, 3) := by decide +kernel
theorem dX5_readPiece_59 : decode cX5_readPiece 59 = .ok (.bipush (-9), 2) := by decide +kernel
theorem dX5_readPiece_61 : decode cX5_readPiece 61 = .ok (.istore_n 1, 1) := by decide +kernel
theorem dX5_readPiece_62 : decode cX5_readPiece 62 = .ok (.iload_n 1, 1) := by decide +kernel
theorem dX5_readPiece_63 : decode cX5_readPiece 63 = .ok (.invokestatic 135, 3) := by decide +kernel
theorem dX5_readPiece_66 : decode cX5_readPiece 66 = .ok (.ifCond .ne 11, 3) := by decide +kernel
theorem dX5_readPiece_69 : decode cX5_readPiece 69 = .ok (.aload_n 0, 1) := by decide +kernel
theorem dX5_readPiece_70 : decode cX5_readPiece 70 = .ok (.iload_n 1, 1) := by decide +kernel
theorem dX5_readPiece_71 : decode cX5_readPiece 71 = .ok (.invokevirtual 128, 3) := by decide +kernel
theorem dX5_readPiece_74 : decode cX5_readPiece 74 = .ok (.ifCond .ne 5, 3) := by decide +kernel
theorem dX5_readPiece_77 : decode cX5_readPiece 77 = .ok (.iconst 0, 1) := by decide +kernel
theorem dX5_readPiece_78 : decode cX5_readPiece 78 = .ok (.ireturn, 1) := by decide +kernel
theorem dX5_readPiece_79 : decode cX5_readPiece 79 = .ok (.aload_n 0, 1) := by decide +kernel
theorem dX5_readPiece_80 : decode cX5_readPiece 80 = .ok (.dup, 1) := by decide +kernel
theorem dX5_readPiece_81 : decode cX5_readPiece 81 = .ok (.getfield 119, 3) := by decide +kernel
theorem dX5_readPiece_84 : decode cX5_readPiece 84 = .ok (.iconst 1, 1) := by decide +kernel
theorem dX5_readPiece_85 : decode cX5_readPiece 85 = .ok (.iadd, 1) := by decide +kernel
theorem dX5_readPiece_86 : decode cX5_readPiece 86 = .ok (.putfield 119, 3) := by decide +kernel
theorem dX5_readPiece_89 : decode cX5_readPiece 89 = .ok (.aload_n 0, 1) := by decide +kernel
theorem dX5_readPiece_90 : decode cX5_readPiece 90 = .ok (.iconst 3, 1) := by decide +kernel
theorem dX5_readPiece_91 : decode cX5_readPiece 91 = .ok (.invokevirtual 138, 3) := by decide +kernel
theorem dX5_readPiece_94 : decode cX5_readPiece 94 = .ok (.istore_n 2, 1) := by decide +kernel
theorem dX5_readPiece_95 : decode cX5_readPiece 95 = .ok (.iload_n 2, 1) := by decide +kernel
theorem dX5_readPiece_96 : decode cX5_readPiece 96 = .ok (.bipush (-9), 2) := by decide +kernel
theorem dX5_readPiece_98 : decode cX5_readPiece 98 = .ok (.if_icmp .ne 5, 3) := by decide +kernel
theorem dX5_readPiece_101 : decode cX5_readPiece 101 = .ok (.iconst 0, 1) := by decide +kernel
theorem dX5_readPiece_102 : decode cX5_readPiece 102 = .ok (.ireturn, 1) := by decide +kernel
theorem dX5_readPiece_103 : decode cX5_readPiece 103 = .ok (.aload_n 0, 1) := by decide +kernel
theorem dX5_readPiece_104 : decode cX5_readPiece 104 = .ok (.iload_n 1, 1) := by decide +kernel
theorem dX5_readPiece_105 : decode cX5_readPiece 105 = .ok (.iload_n 2, 1) := by decide +kernel
theorem dX5_readPiece_106 : decode cX5_readPiece 106 = .ok (.invokevirtual 125, 3) := by decide +kernel
theorem dX5_readPiece_109 : decode cX5_readPiece 109 = .ok (.ifCond .ne 15, 3) := by decide +kernel
theorem dX5_readPiece_112 : decode cX5_readPiece 112 = .ok (.aload_n 0, 1) := by decide +kernel
theorem dX5_readPiece_113 : decode cX5_readPiece 113 = .ok (.dup, 1) := by decide +kernel
theorem dX5_readPiece_114 : decode cX5_readPiece 114 = .ok (.getfield 119, 3) := by decide +kernel
theorem dX5_readPiece_117 : decode cX5_readPiece 117 = .ok (.iconst 1, 1) := by decide +kernel
theorem dX5_readPiece_118 : decode cX5_readPiece 118 = .ok (.isub, 1) := by decide +kernel
theorem dX5_readPiece_119 : decode cX5_readPiece 119 = .ok (.putfield 119, 3) := by decide +kernel
theorem dX5_readPiece_122 : decode cX5_readPiece 122 = .ok (.iconst 0, 1) := by decide +kernel
theorem dX5_readPiece_123 : decode cX5_readPiece 123 = .ok (.ireturn, 1) := by decide +kernel
theorem dX5_readPiece_124 : decode cX5_readPiece 124 = .ok (.aload_n 0, 1) := by decide +kernel
theorem dX5_readPiece_125 : decode cX5_readPiece 125 = .ok (.getfield 19, 3) := by decide +kernel
theorem dX5_readPiece_128 : decode cX5_readPiece 128 = .ok (.iload_n 1, 1) := by decide +kernel
theorem dX5_readPiece_129 : decode cX5_readPiece 129 = .ok (.iload_n 2, 1) := by decide +kernel
theorem dX5_readPiece_130 : decode cX5_readPiece 130 = .ok (.iconst 1, 1) := by decide +kernel
theorem dX5_readPiece_131 : decode cX5_readPiece 131 = .ok (.iadd, 1) := by decide +kernel
theorem dX5_readPiece_132 : decode cX5_readPiece 132 = .ok (.iastore, 1) := by decide +kernel
theorem dX5_readPiece_133 : decode cX5_readPiece 133 = .ok (.iconst 1, 1) := by decide +kernel
theorem dX5_readPiece_134 : decode cX5_readPiece 134 = .ok (.ireturn, 1) := by decide +kernel
theorem dX5_readHead_0 : decode cX5_readHead 0 = .ok (.iconst 0, 1) := by decide +kernel
theorem dX5_readHead_1 : decode cX5_readHead 1 = .ok (.istore_n 1, 1) := by decide +kernel
theorem dX5_readHead_2 : decode cX5_readHead 2 = .ok (.iload_n 1, 1) := by decide +kernel
theorem dX5_readHead_3 : decode cX5_readHead 3 = .ok (.iconst 4, 1) := by decide +kernel
theorem dX5_readHead_4 : decode cX5_readHead 4 = .ok (.if_icmp .ge 33, 3) := by decide +kernel
theorem dX5_readHead_7 : decode cX5_readHead 7 = .ok (.aload_n 0, 1) := by decide +kernel
theorem dX5_readHead_8 : decode cX5_readHead 8 = .ok (.bipush 9, 2) := by decide +kernel
theorem dX5_readHead_10 : decode cX5_readHead 10 = .ok (.invokevirtual 138, 3) := by decide +kernel
theorem dX5_readHead_13 : decode cX5_readHead 13 = .ok (.istore_n 2, 1) := by decide +kernel
theorem dX5_readHead_14 : decode cX5_readHead 14 = .ok (.iload_n 2, 1) := by decide +kernel
theorem dX5_readHead_15 : decode cX5_readHead 15 = .ok (.bipush (-9), 2) := by decide +kernel
theorem dX5_readHead_17 : decode cX5_readHead 17 = .ok (.if_icmp .ne 5, 3) := by decide +kernel
theorem dX5_readHead_20 : decode cX5_readHead 20 = .ok (.iconst 0, 1) := by decide +kernel
theorem dX5_readHead_21 : decode cX5_readHead 21 = .ok (.ireturn, 1) := by decide +kernel
theorem dX5_readHead_22 : decode cX5_readHead 22 = .ok (.aload_n 0, 1) := by decide +kernel
theorem dX5_readHead_23 : decode cX5_readHead 23 = .ok (.getfield 16, 3) := by decide +kernel
theorem dX5_readHead_26 : decode cX5_readHead 26 = .ok (.iload_n 1, 1) := by decide +kernel
theorem dX5_readHead_27 : decode cX5_readHead 27 = .ok (.iconst 3, 1) := by decide +kernel
theorem dX5_readHead_28 : decode cX5_readHead 28 = .ok (.iload_n 2, 1) := by decide +kernel
theorem dX5_readHead_29 : decode cX5_readHead 29 = .ok (.imul, 1) := by decide +kernel
theorem dX5_readHead_30 : decode cX5_readHead 30 = .ok (.iastore, 1) := by decide +kernel
theorem dX5_readHead_31 : decode cX5_readHead 31 = .ok (.iinc 1 1, 3) := by decide +kernel
theorem dX5_readHead_34 : decode cX5_readHead 34 = .ok (.goto (-32), 3) := by decide +kernel
theorem dX5_readHead_37 : decode cX5_readHead 37 = .ok (.iconst 1, 1) := by decide +kernel
theorem dX5_readHead_38 : decode cX5_readHead 38 = .ok (.ireturn, 1) := by decide +kernel
theorem dX5_readHouse_0 : decode cX5_readHouse 0 = .ok (.aload_n 0, 1) := by decide +kernel
theorem dX5_readHouse_1 : decode cX5_readHouse 1 = .ok (.iconst 0, 1) := by decide +kernel
theorem dX5_readHouse_2 : decode cX5_readHouse 2 = .ok (.putfield 119, 3) := by decide +kernel
theorem dX5_readHouse_5 : decode cX5_readHouse 5 = .ok (.iconst 0, 1) := by decide +kernel
theorem dX5_readHouse_6 : decode cX5_readHouse 6 = .ok (.istore_n 1, 1) := by decide +kernel
theorem dX5_readHouse_7 : decode cX5_readHouse 7 = .ok (.iload_n 1, 1) := by decide +kernel
theorem dX5_readHouse_8 : decode cX5_readHouse 8 = .ok (.bipush 17, 2) := by decide +kernel
theorem dX5_readHouse_10 : decode cX5_readHouse 10 = .ok (.if_icmp .ge 16, 3) := by decide +kernel
theorem dX5_readHouse_13 : decode cX5_readHouse 13 = .ok (.aload_n 0, 1) := by decide +kernel
theorem dX5_readHouse_14 : decode cX5_readHouse 14 = .ok (.getfield 19, 3) := by decide +kernel
theorem dX5_readHouse_17 : decode cX5_readHouse 17 = .ok (.iload_n 1, 1) := by decide +kernel
theorem dX5_readHouse_18 : decode cX5_readHouse 18 = .ok (.iconst 0, 1) := by decide +kernel
theorem dX5_readHouse_19 : decode cX5_readHouse 19 = .ok (.iastore, 1) := by decide +kernel
theorem dX5_readHouse_20 : decode cX5_readHouse 20 = .ok (.iinc 1 1, 3) := by decide +kernel
theorem dX5_readHouse_23 : decode cX5_readHouse 23 = .ok (.goto (-16), 3) := by decide +kernel
theorem dX5_readHouse_26 : decode cX5_readHouse 26 = .ok (.aload_n 0, 1) := by decide +kernel
theorem dX5_readHouse_27 : decode cX5_readHouse 27 = .ok (.getfield 116, 3) := by decide +kernel
theorem dX5_readHouse_30 : decode cX5_readHouse 30 = .ok (.ifCond .eq 14, 3) := by decide +kernel
theorem dX5_readHouse_33 : decode cX5_readHouse 33 = .ok (.aload_n 0, 1) := by decide +kernel
theorem dX5_readHouse_34 : decode cX5_readHouse 34 = .ok (.getfield 7, 3) := by decide +kernel
theorem dX5_readHouse_37 : decode cX5_readHouse 37 = .ok (.iconst 0, 1) := by decide +kernel
theorem dX5_readHouse_38 : decode cX5_readHouse 38 = .ok (.iaload, 1) := by decide +kernel
theorem dX5_readHouse_39 : decode cX5_readHouse 39 = .ok (.bipush 67, 2) := by decide +kernel
theorem dX5_readHouse_41 : decode cX5_readHouse 41 = .ok (.if_icmp .eq 5, 3) := by decide +kernel
theorem dX5_readHouse_44 : decode cX5_readHouse 44 = .ok (.iconst 0, 1) := by decide +kernel
theorem dX5_readHouse_45 : decode cX5_readHouse 45 = .ok (.ireturn, 1) := by decide +kernel
theorem dX5_readHouse_46 : decode cX5_readHouse 46 = .ok (.aload_n 0, 1) := by decide +kernel
theorem dX5_readHouse_47 : decode cX5_readHouse 47 = .ok (.iconst 1, 1) := by decide +kernel
theorem dX5_readHouse_48 : decode cX5_readHouse 48 = .ok (.putfield 119, 3) := by decide +kernel
theorem dX5_readHouse_51 : decode cX5_readHouse 51 = .ok (.aload_n 0, 1) := by decide +kernel
theorem dX5_readHouse_52 : decode cX5_readHouse 52 = .ok (.invokevirtual 141, 3) := by decide +kernel
theorem dX5_readHouse_55 : decode cX5_readHouse 55 = .ok (.ifCond .ne 8, 3) := by decide +kernel
theorem dX5_readHouse_58 : decode cX5_readHouse 58 = .ok (.aload_n 0, 1) := by decide +kernel
theorem dX5_readHouse_59 : decode cX5_readHouse 59 = .ok (.getfield 119, 3) := by decide +kernel
theorem dX5_readHouse_62 : decode cX5_readHouse 62 = .ok (.ireturn, 1) := by decide +kernel
theorem dX5_readHouse_63 : decode cX5_readHouse 63 = .ok (.aload_n 0, 1) := by decide +kernel
theorem dX5_readHouse_64 : decode cX5_readHouse 64 = .ok (.getfield 119, 3) := by decide +kernel
theorem dX5_readHouse_67 : decode cX5_readHouse 67 = .ok (.aload_n 0, 1) := by decide +kernel
theorem dX5_readHouse_68 : decode cX5_readHouse 68 = .ok (.getfield 116, 3) := by decide +kernel
theorem dX5_readHouse_71 : decode cX5_readHouse 71 = .ok (.if_icmp .ge 15, 3) := by decide +kernel
theorem dX5_readHouse_74 : decode cX5_readHouse 74 = .ok (.aload_n 0, 1) := by decide +kernel
theorem dX5_readHouse_75 : decode cX5_readHouse 75 = .ok (.invokevirtual 144, 3) := by decide +kernel
theorem dX5_readHouse_78 : decode cX5_readHouse 78 = .ok (.ifCond .ne (-15), 3) := by decide +kernel
theorem dX5_readHouse_81 : decode cX5_readHouse 81 = .ok (.aload_n 0, 1) := by decide +kernel
theorem dX5_readHouse_82 : decode cX5_readHouse 82 = .ok (.getfield 119, 3) := by decide +kernel
theorem dX5_readHouse_85 : decode cX5_readHouse 85 = .ok (.ireturn, 1) := by decide +kernel
theorem dX5_readHouse_86 : decode cX5_readHouse 86 = .ok (.bipush (-9), 2) := by decide +kernel
theorem dX5_readHouse_88 : decode cX5_readHouse 88 = .ok (.ireturn, 1) := by decide +kernel
theorem dX5_fault_0 : decode cX5_fault 0 = .ok (.aload_n 0, 1) := by decide +kernel
theorem dX5_fault_1 : decode cX5_fault 1 = .ok (.iconst 0, 1) := by decide +kernel
theorem dX5_fault_2 : decode cX5_fault 2 = .ok (.putfield 59, 3) := by decide +kernel
theorem dX5_fault_5 : decode cX5_fault 5 = .ok (.aload_n 0, 1) := by decide +kernel
theorem dX5_fault_6 : decode cX5_fault 6 = .ok (.invokevirtual 147, 3) := by decide +kernel
theorem dX5_fault_9 : decode cX5_fault 9 = .ok (.ireturn, 1) := by decide +kernel
theorem dX5_house_0 : decode cX5_house 0 = .ok (.aload_n 0, 1) := by decide +kernel
theorem dX5_house_1 : decode cX5_house 1 = .ok (.iconst 0, 1) := by decide +kernel
theorem dX5_house_2 : decode cX5_house 2 = .ok (.putfield 59, 3) := by decide +kernel
theorem dX5_house_5 : decode cX5_house 5 = .ok (.aload_n 0, 1) := by decide +kernel
theorem dX5_house_6 : decode cX5_house 6 = .ok (.invokevirtual 147, 3) := by decide +kernel
theorem dX5_house_9 : decode cX5_house 9 = .ok (.bipush (-9), 2) := by decide +kernel
theorem dX5_house_11 : decode cX5_house 11 = .ok (.if_icmp .eq 6, 3) := by decide +kernel
theorem dX5_house_14 : decode cX5_house 14 = .ok (.bipush (-3), 2) := by decide +kernel
theorem dX5_house_16 : decode cX5_house 16 = .ok (.ireturn, 1) := by decide +kernel
theorem dX5_house_17 : decode cX5_house 17 = .ok (.iconst 0, 1) := by decide +kernel
theorem dX5_house_18 : decode cX5_house 18 = .ok (.istore_n 1, 1) := by decide +kernel
theorem dX5_house_19 : decode cX5_house 19 = .ok (.iload_n 1, 1) := by decide +kernel
theorem dX5_house_20 : decode cX5_house 20 = .ok (.iconst 4, 1) := by decide +kernel
theorem dX5_house_21 : decode cX5_house 21 = .ok (.if_icmp .ge 21, 3) := by decide +kernel
theorem dX5_house_24 : decode cX5_house 24 = .ok (.aload_n 0, 1) := by decide +kernel
theorem dX5_house_25 : decode cX5_house 25 = .ok (.getfield 13, 3) := by decide +kernel
theorem dX5_house_28 : decode cX5_house 28 = .ok (.iload_n 1, 1) := by decide +kernel
theorem dX5_house_29 : decode cX5_house 29 = .ok (.aload_n 0, 1) := by decide +kernel
theorem dX5_house_30 : decode cX5_house 30 = .ok (.getfield 16, 3) := by decide +kernel
theorem dX5_house_33 : decode cX5_house 33 = .ok (.iload_n 1, 1) := by decide +kernel
theorem dX5_house_34 : decode cX5_house 34 = .ok (.iaload, 1) := by decide +kernel
theorem dX5_house_35 : decode cX5_house 35 = .ok (.iastore, 1) := by decide +kernel
theorem dX5_house_36 : decode cX5_house 36 = .ok (.iinc 1 1, 3) := by decide +kernel
theorem dX5_house_39 : decode cX5_house 39 = .ok (.goto (-20), 3) := by decide +kernel
theorem dX5_house_42 : decode cX5_house 42 = .ok (.iconst 0, 1) := by decide +kernel
theorem dX5_house_43 : decode cX5_house 43 = .ok (.istore_n 1, 1) := by decide +kernel
theorem dX5_house_44 : decode cX5_house 44 = .ok (.iload_n 1, 1) := by decide +kernel
theorem dX5_house_45 : decode cX5_house 45 = .ok (.bipush 17, 2) := by decide +kernel
theorem dX5_house_47 : decode cX5_house 47 = .ok (.if_icmp .ge 21, 3) := by decide +kernel
theorem dX5_house_50 : decode cX5_house 50 = .ok (.aload_n 0, 1) := by decide +kernel
theorem dX5_house_51 : decode cX5_house 51 = .ok (.getfield 22, 3) := by decide +kernel
theorem dX5_house_54 : decode cX5_house 54 = .ok (.iload_n 1, 1) := by decide +kernel
theorem dX5_house_55 : decode cX5_house 55 = .ok (.aload_n 0, 1) := by decide +kernel
theorem dX5_house_56 : decode cX5_house 56 = .ok (.getfield 19, 3) := by decide +kernel
theorem dX5_house_59 : decode cX5_house 59 = .ok (.iload_n 1, 1) := by decide +kernel
theorem dX5_house_60 : decode cX5_house 60 = .ok (.iaload, 1) := by decide +kernel
theorem dX5_house_61 : decode cX5_house 61 = .ok (.iastore, 1) := by decide +kernel
theorem dX5_house_62 : decode cX5_house 62 = .ok (.iinc 1 1, 3) := by decide +kernel
theorem dX5_house_65 : decode cX5_house 65 = .ok (.goto (-21), 3) := by decide +kernel
theorem dX5_house_68 : decode cX5_house 68 = .ok (.aload_n 0, 1) := by decide +kernel
theorem dX5_house_69 : decode cX5_house 69 = .ok (.aload_n 0, 1) := by decide +kernel
theorem dX5_house_70 : decode cX5_house 70 = .ok (.getfield 22, 3) := by decide +kernel
theorem dX5_house_73 : decode cX5_house 73 = .ok (.invokevirtual 151, 3) := by decide +kernel
theorem dX5_house_76 : decode cX5_house 76 = .ok (.pop, 1) := by decide +kernel
theorem dX5_house_77 : decode cX5_house 77 = .ok (.aload_n 0, 1) := by decide +kernel
theorem dX5_house_78 : decode cX5_house 78 = .ok (.iconst 0, 1) := by decide +kernel
theorem dX5_house_79 : decode cX5_house 79 = .ok (.putfield 154, 3) := by decide +kernel
theorem dX5_house_82 : decode cX5_house 82 = .ok (.aload_n 0, 1) := by decide +kernel
theorem dX5_house_83 : decode cX5_house 83 = .ok (.getfield 37, 3) := by decide +kernel
theorem dX5_house_86 : decode cX5_house 86 = .ok (.iconst 0, 1) := by decide +kernel
theorem dX5_house_87 : decode cX5_house 87 = .ok (.iconst 0, 1) := by decide +kernel
theorem dX5_house_88 : decode cX5_house 88 = .ok (.bastore, 1) := by decide +kernel
theorem dX5_house_89 : decode cX5_house 89 = .ok (.aload_n 0, 1) := by decide +kernel
theorem dX5_house_90 : decode cX5_house 90 = .ok (.getfield 37, 3) := by decide +kernel
theorem dX5_house_93 : decode cX5_house 93 = .ok (.iconst 1, 1) := by decide +kernel
theorem dX5_house_94 : decode cX5_house 94 = .ok (.iconst 0, 1) := by decide +kernel
theorem dX5_house_95 : decode cX5_house 95 = .ok (.bastore, 1) := by decide +kernel
theorem dX5_house_96 : decode cX5_house 96 = .ok (.aload_n 0, 1) := by decide +kernel
theorem dX5_house_97 : decode cX5_house 97 = .ok (.getfield 22, 3) := by decide +kernel
theorem dX5_house_100 : decode cX5_house 100 = .ok (.invokestatic 122, 3) := by decide +kernel
theorem dX5_house_103 : decode cX5_house 103 = .ok (.invokestatic 97, 3) := by decide +kernel
theorem dX5_house_106 : decode cX5_house 106 = .ok (.ireturn, 1) := by decide +kernel
theorem dX5_deckAll_0 : decode cX5_deckAll 0 = .ok (.aload_n 0, 1) := by decide +kernel
theorem dX5_deckAll_1 : decode cX5_deckAll 1 = .ok (.aload_n 0, 1) := by decide +kernel
theorem dX5_deckAll_2 : decode cX5_deckAll 2 = .ok (.getfield 22, 3) := by decide +kernel
theorem dX5_deckAll_5 : decode cX5_deckAll 5 = .ok (.iconst 0, 1) := by decide +kernel
theorem dX5_deckAll_6 : decode cX5_deckAll 6 = .ok (.invokevirtual 157, 3) := by decide +kernel
theorem dX5_deckAll_9 : decode cX5_deckAll 9 = .ok (.aload_n 0, 1) := by decide +kernel
theorem dX5_deckAll_10 : decode cX5_deckAll 10 = .ok (.aload_n 0, 1) := by decide +kernel
theorem dX5_deckAll_11 : decode cX5_deckAll 11 = .ok (.getfield 22, 3) := by decide +kernel
theorem dX5_deckAll_14 : decode cX5_deckAll 14 = .ok (.iconst 1, 1) := by decide +kernel
theorem dX5_deckAll_15 : decode cX5_deckAll 15 = .ok (.invokevirtual 157, 3) := by decide +kernel
theorem dX5_deckAll_18 : decode cX5_deckAll 18 = .ok (.iadd, 1) := by decide +kernel
theorem dX5_deckAll_19 : decode cX5_deckAll 19 = .ok (.aload_n 0, 1) := by decide +kernel
theorem dX5_deckAll_20 : decode cX5_deckAll 20 = .ok (.aload_n 0, 1) := by decide +kernel
theorem dX5_deckAll_21 : decode cX5_deckAll 21 = .ok (.getfield 22, 3) := by decide +kernel
theorem dX5_deckAll_24 : decode cX5_deckAll 24 = .ok (.iconst 2, 1) := by decide +kernel
theorem dX5_deckAll_25 : decode cX5_deckAll 25 = .ok (.invokevirtual 157, 3) := by decide +kernel
theorem dX5_deckAll_28 : decode cX5_deckAll 28 = .ok (.iadd, 1) := by decide +kernel
theorem dX5_deckAll_29 : decode cX5_deckAll 29 = .ok (.aload_n 0, 1) := by decide +kernel
theorem dX5_deckAll_30 : decode cX5_deckAll 30 = .ok (.aload_n 0, 1) := by decide +kernel
theorem dX5_deckAll_31 : decode cX5_deckAll 31 = .ok (.getfield 22, 3) := by decide +kernel
theorem dX5_deckAll_34 : decode cX5_deckAll 34 = .ok (.iconst 3, 1) := by decide +kernel
theorem dX5_deckAll_35 : decode cX5_deckAll 35 = .ok (.invokevirtual 157, 3) := by decide +kernel
theorem dX5_deckAll_38 : decode cX5_deckAll 38 = .ok (.iadd, 1) := by decide +kernel
theorem dX5_deckAll_39 : decode cX5_deckAll 39 = .ok (.ireturn, 1) := by decide +kernel
theorem dX5_highest_0 : decode cX5_highest 0 = .ok (.bipush (-9), 2) := by decide +kernel
theorem dX5_highest_2 : decode cX5_highest 2 = .ok (.istore_n 1, 1) := by decide +kernel
theorem dX5_highest_3 : decode cX5_highest 3 = .ok (.iconst 0, 1) := by decide +kernel
theorem dX5_highest_4 : decode cX5_highest 4 = .ok (.istore_n 2, 1) := by decide +kernel
theorem dX5_highest_5 : decode cX5_highest 5 = .ok (.iload_n 2, 1) := by decide +kernel
theorem dX5_highest_6 : decode cX5_highest 6 = .ok (.bipush 16, 2) := by decide +kernel
theorem dX5_highest_8 : decode cX5_highest 8 = .ok (.if_icmp .ge 27, 3) := by decide +kernel
theorem dX5_highest_11 : decode cX5_highest 11 = .ok (.aload_n 0, 1) := by decide +kernel
theorem dX5_highest_12 : decode cX5_highest 12 = .ok (.getfield 22, 3) := by decide +kernel
theorem dX5_highest_15 : decode cX5_highest 15 = .ok (.iload_n 2, 1) := by decide +kernel
theorem dX5_highest_16 : decode cX5_highest 16 = .ok (.iaload, 1) := by decide +kernel
theorem dX5_highest_17 : decode cX5_highest 17 = .ok (.ifCond .le 10, 3) := by decide +kernel
theorem dX5_highest_20 : decode cX5_highest 20 = .ok (.iload_n 2, 1) := by decide +kernel
theorem dX5_highest_21 : decode cX5_highest 21 = .ok (.invokestatic 160, 3) := by decide +kernel
theorem dX5_highest_24 : decode cX5_highest 24 = .ok (.goto 4, 3) := by decide +kernel
theorem dX5_highest_27 : decode cX5_highest 27 = .ok (.iload_n 1, 1) := by decide +kernel
theorem dX5_highest_28 : decode cX5_highest 28 = .ok (.istore_n 1, 1) := by decide +kernel
theorem dX5_highest_29 : decode cX5_highest 29 = .ok (.iinc 2 1, 3) := by decide +kernel
theorem dX5_highest_32 : decode cX5_highest 32 = .ok (.goto (-27), 3) := by decide +kernel
theorem dX5_highest_35 : decode cX5_highest 35 = .ok (.iload_n 1, 1) := by decide +kernel
theorem dX5_highest_36 : decode cX5_highest 36 = .ok (.ireturn, 1) := by decide +kernel
theorem dX5_about_0 : decode cX5_about 0 = .ok (.aload_n 0, 1) := by decide +kernel
theorem dX5_about_1 : decode cX5_about 1 = .ok (.iconst 0, 1) := by decide +kernel
theorem dX5_about_2 : decode cX5_about 2 = .ok (.putfield 59, 3) := by decide +kernel
theorem dX5_about_5 : decode cX5_about 5 = .ok (.iload_n 1, 1) := by decide +kernel
theorem dX5_about_6 : decode cX5_about 6 = .ok (.tableswitch 98 0 7 #[46, 57, 65, 70, 78, 83, 88, 93], 46) := by decide +kernel
theorem dX5_about_52 : decode cX5_about 52 = .ok (.aload_n 0, 1) := by decide +kernel
theorem dX5_about_53 : decode cX5_about 53 = .ok (.getfield 22, 3) := by decide +kernel
theorem dX5_about_56 : decode cX5_about 56 = .ok (.invokestatic 122, 3) := by decide +kernel
theorem dX5_about_59 : decode cX5_about 59 = .ok (.invokestatic 97, 3) := by decide +kernel
theorem dX5_about_62 : decode cX5_about 62 = .ok (.ireturn, 1) := by decide +kernel
theorem dX5_about_63 : decode cX5_about 63 = .ok (.aload_n 0, 1) := by decide +kernel
theorem dX5_about_64 : decode cX5_about 64 = .ok (.getfield 22, 3) := by decide +kernel
theorem dX5_about_67 : decode cX5_about 67 = .ok (.invokestatic 122, 3) := by decide +kernel
theorem dX5_about_70 : decode cX5_about 70 = .ok (.ireturn, 1) := by decide +kernel
theorem dX5_about_71 : decode cX5_about 71 = .ok (.aload_n 0, 1) := by decide +kernel
theorem dX5_about_72 : decode cX5_about 72 = .ok (.invokevirtual 163, 3) := by decide +kernel
theorem dX5_about_75 : decode cX5_about 75 = .ok (.ireturn, 1) := by decide +kernel
theorem dX5_about_76 : decode cX5_about 76 = .ok (.aload_n 0, 1) := by decide +kernel
theorem dX5_about_77 : decode cX5_about 77 = .ok (.getfield 22, 3) := by decide +kernel
theorem dX5_about_80 : decode cX5_about 80 = .ok (.bipush 16, 2) := by decide +kernel
theorem dX5_about_82 : decode cX5_about 82 = .ok (.iaload, 1) := by decide +kernel
theorem dX5_about_83 : decode cX5_about 83 = .ok (.ireturn, 1) := by decide +kernel
theorem dX5_about_84 : decode cX5_about 84 = .ok (.aload_n 0, 1) := by decide +kernel
theorem dX5_about_85 : decode cX5_about 85 = .ok (.invokevirtual 166, 3) := by decide +kernel
theorem dX5_about_88 : decode cX5_about 88 = .ok (.ireturn, 1) := by decide +kernel
theorem dX5_about_89 : decode cX5_about 89 = .ok (.aload_n 0, 1) := by decide +kernel
theorem dX5_about_90 : decode cX5_about 90 = .ok (.getfield 154, 3) := by decide +kernel
theorem dX5_about_93 : decode cX5_about 93 = .ok (.ireturn, 1) := by decide +kernel
theorem dX5_about_94 : decode cX5_about 94 = .ok (.aload_n 0, 1) := by decide +kernel
theorem dX5_about_95 : decode cX5_about 95 = .ok (.getfield 169, 3) := by decide +kernel
theorem dX5_about_98 : decode cX5_about 98 = .ok (.ireturn, 1) := by decide +kernel
theorem dX5_about_99 : decode cX5_about 99 = .ok (.aload_n 0, 1) := by decide +kernel
theorem dX5_about_100 : decode cX5_about 100 = .ok (.getfield 116, 3) := by decide +kernel
theorem dX5_about_103 : decode cX5_about 103 = .ok (.ireturn, 1) := by decide +kernel
theorem dX5_about_104 : decode cX5_about 104 = .ok (.bipush (-2), 2) := by decide +kernel
theorem dX5_about_106 : decode cX5_about 106 = .ok (.ireturn, 1) := by decide +kernel
theorem dX5_deck_0 : decode cX5_deck 0 = .ok (.aload_n 0, 1) := by decide +kernel
theorem dX5_deck_1 : decode cX5_deck 1 = .ok (.iconst 0, 1) := by decide +kernel
theorem dX5_deck_2 : decode cX5_deck 2 = .ok (.putfield 59, 3) := by decide +kernel
theorem dX5_deck_5 : decode cX5_deck 5 = .ok (.iload_n 1, 1) := by decide +kernel
theorem dX5_deck_6 : decode cX5_deck 6 = .ok (.invokestatic 172, 3) := by decide +kernel
theorem dX5_deck_9 : decode cX5_deck 9 = .ok (.ifCond .eq 7, 3) := by decide +kernel
theorem dX5_deck_12 : decode cX5_deck 12 = .ok (.iconst (-1), 1) := by decide +kernel
theorem dX5_deck_13 : decode cX5_deck 13 = .ok (.goto 12, 3) := by decide +kernel
theorem dX5_deck_16 : decode cX5_deck 16 = .ok (.aload_n 0, 1) := by decide +kernel
theorem dX5_deck_17 : decode cX5_deck 17 = .ok (.aload_n 0, 1) := by decide +kernel
theorem dX5_deck_18 : decode cX5_deck 18 = .ok (.getfield 22, 3) := by decide +kernel
theorem dX5_deck_21 : decode cX5_deck 21 = .ok (.iload_n 1, 1) := by decide +kernel
theorem dX5_deck_22 : decode cX5_deck 22 = .ok (.invokevirtual 157, 3) := by decide +kernel
theorem dX5_deck_25 : decode cX5_deck 25 = .ok (.ireturn, 1) := by decide +kernel
theorem dX5_isTop_0 : decode cX5_isTop 0 = .ok (.aload_n 0, 1) := by decide +kernel
theorem dX5_isTop_1 : decode cX5_isTop 1 = .ok (.iconst 1, 1) := by decide +kernel
theorem dX5_isTop_2 : decode cX5_isTop 2 = .ok (.iload_n 1, 1) := by decide +kernel
theorem dX5_isTop_3 : decode cX5_isTop 3 = .ok (.ishl, 1) := by decide +kernel
theorem dX5_isTop_4 : decode cX5_isTop 4 = .ok (.invokestatic 94, 3) := by decide +kernel
theorem dX5_isTop_7 : decode cX5_isTop 7 = .ok (.iconst 1, 1) := by decide +kernel
theorem dX5_isTop_8 : decode cX5_isTop 8 = .ok (.iload_n 1, 1) := by decide +kernel
theorem dX5_isTop_9 : decode cX5_isTop 9 = .ok (.ishl, 1) := by decide +kernel
theorem dX5_isTop_10 : decode cX5_isTop 10 = .ok (.if_icmp .ne 7, 3) := by decide +kernel
theorem dX5_isTop_13 : decode cX5_isTop 13 = .ok (.iconst 1, 1) := by decide +kernel
theorem dX5_isTop_14 : decode cX5_isTop 14 = .ok (.goto 4, 3) := by decide +kernel
theorem dX5_isTop_17 : decode cX5_isTop 17 = .ok (.iconst 0, 1) := by decide +kernel
theorem dX5_isTop_18 : decode cX5_isTop 18 = .ok (.ireturn, 1) := by decide +kernel
theorem dX5_piece_0 : decode cX5_piece 0 = .ok (.aload_n 0, 1) := by decide +kernel
theorem dX5_piece_1 : decode cX5_piece 1 = .ok (.iconst 0, 1) := by decide +kernel
theorem dX5_piece_2 : decode cX5_piece 2 = .ok (.putfield 59, 3) := by decide +kernel
theorem dX5_piece_5 : decode cX5_piece 5 = .ok (.iload_n 1, 1) := by decide +kernel
theorem dX5_piece_6 : decode cX5_piece 6 = .ok (.invokestatic 135, 3) := by decide +kernel
theorem dX5_piece_9 : decode cX5_piece 9 = .ok (.ifCond .eq 5, 3) := by decide +kernel
theorem dX5_piece_12 : decode cX5_piece 12 = .ok (.iconst (-1), 1) := by decide +kernel
theorem dX5_piece_13 : decode cX5_piece 13 = .ok (.ireturn, 1) := by decide +kernel
theorem dX5_piece_14 : decode cX5_piece 14 = .ok (.iload_n 2, 1) := by decide +kernel
theorem dX5_piece_15 : decode cX5_piece 15 = .ok (.i2l, 1) := by decide +kernel
theorem dX5_piece_16 : decode cX5_piece 16 = .ok (.lconst 0, 1) := by decide +kernel
theorem dX5_piece_17 : decode cX5_piece 17 = .ok (.ldc2_w 175, 3) := by decide +kernel
theorem dX5_piece_20 : decode cX5_piece 20 = .ok (.invokestatic 65, 3) := by decide +kernel
theorem dX5_piece_23 : decode cX5_piece 23 = .ok (.ifCond .ne 6, 3) := by decide +kernel
theorem dX5_piece_26 : decode cX5_piece 26 = .ok (.bipush (-2), 2) := by decide +kernel
theorem dX5_piece_28 : decode cX5_piece 28 = .ok (.ireturn, 1) := by decide +kernel
theorem dX5_piece_29 : decode cX5_piece 29 = .ok (.aload_n 0, 1) := by decide +kernel
theorem dX5_piece_30 : decode cX5_piece 30 = .ok (.getfield 22, 3) := by decide +kernel
theorem dX5_piece_33 : decode cX5_piece 33 = .ok (.iload_n 1, 1) := by decide +kernel
theorem dX5_piece_34 : decode cX5_piece 34 = .ok (.iaload, 1) := by decide +kernel
theorem dX5_piece_35 : decode cX5_piece 35 = .ok (.ifCond .ne 15, 3) := by decide +kernel
theorem dX5_piece_38 : decode cX5_piece 38 = .ok (.iload_n 2, 1) := by decide +kernel
theorem dX5_piece_39 : decode cX5_piece 39 = .ok (.ifCond .ne 8, 3) := by decide +kernel
theorem dX5_piece_42 : decode cX5_piece 42 = .ok (.bipush (-9), 2) := by decide +kernel
theorem dX5_piece_44 : decode cX5_piece 44 = .ok (.goto 5, 3) := by decide +kernel
theorem dX5_piece_47 : decode cX5_piece 47 = .ok (.bipush (-3), 2) := by decide +kernel
theorem dX5_piece_49 : decode cX5_piece 49 = .ok (.ireturn, 1) := by decide +kernel
theorem dX5_piece_50 : decode cX5_piece 50 = .ok (.aload_n 0, 1) := by decide +kernel
theorem dX5_piece_51 : decode cX5_piece 51 = .ok (.aload_n 0, 1) := by decide +kernel
theorem dX5_piece_52 : decode cX5_piece 52 = .ok (.getfield 22, 3) := by decide +kernel
theorem dX5_piece_55 : decode cX5_piece 55 = .ok (.invokevirtual 100, 3) := by decide +kernel
theorem dX5_piece_58 : decode cX5_piece 58 = .ok (.iload_n 2, 1) := by decide +kernel
theorem dX5_piece_59 : decode cX5_piece 59 = .ok (.tableswitch 70 0 3 #[29, 38, 51, 58], 29) := by decide +kernel
theorem dX5_piece_88 : decode cX5_piece 88 = .ok (.aload_n 0, 1) := by decide +kernel
theorem dX5_piece_89 : decode cX5_piece 89 = .ok (.getfield 22, 3) := by decide +kernel
theorem dX5_piece_92 : decode cX5_piece 92 = .ok (.iload_n 1, 1) := by decide +kernel
theorem dX5_piece_93 : decode cX5_piece 93 = .ok (.iaload, 1) := by decide +kernel
theorem dX5_piece_94 : decode cX5_piece 94 = .ok (.iconst 1, 1) := by decide +kernel
theorem dX5_piece_95 : decode cX5_piece 95 = .ok (.isub, 1) := by decide +kernel
theorem dX5_piece_96 : decode cX5_piece 96 = .ok (.ireturn, 1) := by decide +kernel
theorem dX5_piece_97 : decode cX5_piece 97 = .ok (.iload_n 1, 1) := by decide +kernel
theorem dX5_piece_98 : decode cX5_piece 98 = .ok (.aload_n 0, 1) := by decide +kernel
theorem dX5_piece_99 : decode cX5_piece 99 = .ok (.getfield 22, 3) := by decide +kernel
theorem dX5_piece_102 : decode cX5_piece 102 = .ok (.iload_n 1, 1) := by decide +kernel
theorem dX5_piece_103 : decode cX5_piece 103 = .ok (.iaload, 1) := by decide +kernel
theorem dX5_piece_104 : decode cX5_piece 104 = .ok (.iconst 1, 1) := by decide +kernel
theorem dX5_piece_105 : decode cX5_piece 105 = .ok (.isub, 1) := by decide +kernel
theorem dX5_piece_106 : decode cX5_piece 106 = .ok (.invokestatic 83, 3) := by decide +kernel
theorem dX5_piece_109 : decode cX5_piece 109 = .ok (.ireturn, 1) := by decide +kernel
theorem dX5_piece_110 : decode cX5_piece 110 = .ok (.aload_n 0, 1) := by decide +kernel
theorem dX5_piece_111 : decode cX5_piece 111 = .ok (.getfield 28, 3) := by decide +kernel
theorem dX5_piece_114 : decode cX5_piece 114 = .ok (.iload_n 1, 1) := by decide +kernel
theorem dX5_piece_115 : decode cX5_piece 115 = .ok (.iaload, 1) := by decide +kernel
theorem dX5_piece_116 : decode cX5_piece 116 = .ok (.ireturn, 1) := by decide +kernel
theorem dX5_piece_117 : decode cX5_piece 117 = .ok (.aload_n 0, 1) := by decide +kernel
theorem dX5_piece_118 : decode cX5_piece 118 = .ok (.getfield 22, 3) := by decide +kernel
theorem dX5_piece_121 : decode cX5_piece 121 = .ok (.iload_n 1, 1) := by decide +kernel
theorem dX5_piece_122 : decode cX5_piece 122 = .ok (.iaload, 1) := by decide +kernel
theorem dX5_piece_123 : decode cX5_piece 123 = .ok (.iconst 1, 1) := by decide +kernel
theorem dX5_piece_124 : decode cX5_piece 124 = .ok (.isub, 1) := by decide +kernel
theorem dX5_piece_125 : decode cX5_piece 125 = .ok (.invokestatic 104, 3) := by decide +kernel
theorem dX5_piece_128 : decode cX5_piece 128 = .ok (.ireturn, 1) := by decide +kernel
theorem dX5_piece_129 : decode cX5_piece 129 = .ok (.aload_n 0, 1) := by decide +kernel
theorem dX5_piece_130 : decode cX5_piece 130 = .ok (.getfield 22, 3) := by decide +kernel
theorem dX5_piece_133 : decode cX5_piece 133 = .ok (.iload_n 1, 1) := by decide +kernel
theorem dX5_piece_134 : decode cX5_piece 134 = .ok (.invokestatic 177, 3) := by decide +kernel
theorem dX5_piece_137 : decode cX5_piece 137 = .ok (.ifCond .eq 7, 3) := by decide +kernel
theorem dX5_piece_140 : decode cX5_piece 140 = .ok (.iconst 1, 1) := by decide +kernel
theorem dX5_piece_141 : decode cX5_piece 141 = .ok (.goto 4, 3) := by decide +kernel
theorem dX5_piece_144 : decode cX5_piece 144 = .ok (.iconst 0, 1) := by decide +kernel
theorem dX5_piece_145 : decode cX5_piece 145 = .ok (.ireturn, 1) := by decide +kernel
theorem dX5_note_0 : decode cX5_note 0 = .ok (.aload_n 0, 1) := by decide +kernel
theorem dX5_note_1 : decode cX5_note 1 = .ok (.getfield 154, 3) := by decide +kernel
theorem dX5_note_4 : decode cX5_note 4 = .ok (.bipush 14, 2) := by decide +kernel
theorem dX5_note_6 : decode cX5_note 6 = .ok (.if_icmp .ne 43, 3) := by decide +kernel
theorem dX5_note_9 : decode cX5_note 9 = .ok (.iconst 0, 1) := by decide +kernel
theorem dX5_note_10 : decode cX5_note 10 = .ok (.istore_n 1, 1) := by decide +kernel
theorem dX5_note_11 : decode cX5_note 11 = .ok (.iload_n 1, 1) := by decide +kernel
theorem dX5_note_12 : decode cX5_note 12 = .ok (.sipush 221, 3) := by decide +kernel
theorem dX5_note_15 : decode cX5_note 15 = .ok (.if_icmp .ge 24, 3) := by decide +kernel
theorem dX5_note_18 : decode cX5_note 18 = .ok (.aload_n 0, 1) := by decide +kernel
theorem dX5_note_19 : decode cX5_note 19 = .ok (.getfield 31, 3) := by decide +kernel
theorem dX5_note_22 : decode cX5_note 22 = .ok (.iload_n 1, 1) := by decide +kernel
theorem dX5_note_23 : decode cX5_note 23 = .ok (.aload_n 0, 1) := by decide +kernel
theorem dX5_note_24 : decode cX5_note 24 = .ok (.getfield 31, 3) := by decide +kernel
theorem dX5_note_27 : decode cX5_note 27 = .ok (.iload_n 1, 1) := by decide +kernel
theorem dX5_note_28 : decode cX5_note 28 = .ok (.bipush 17, 2) := by decide +kernel
theorem dX5_note_30 : decode cX5_note 30 = .ok (.iadd, 1) := by decide +kernel
theorem dX5_note_31 : decode cX5_note 31 = .ok (.iaload, 1) := by decide +kernel
theorem dX5_note_32 : decode cX5_note 32 = .ok (.iastore, 1) := by decide +kernel
theorem dX5_note_33 : decode cX5_note 33 = .ok (.iinc 1 1, 3) := by decide +kernel
theorem dX5_note_36 : decode cX5_note 36 = .ok (.goto (-25), 3) := by decide +kernel
theorem dX5_note_39 : decode cX5_note 39 = .ok (.aload_n 0, 1) := by decide +kernel
theorem dX5_note_40 : decode cX5_note 40 = .ok (.dup, 1) := by decide +kernel
theorem dX5_note_41 : decode cX5_note 41 = .ok (.getfield 154, 3) := by decide +kernel
theorem dX5_note_44 : decode cX5_note 44 = .ok (.iconst 1, 1) := by decide +kernel
theorem dX5_note_45 : decode cX5_note 45 = .ok (.isub, 1) := by decide +kernel
theorem dX5_note_46 : decode cX5_note 46 = .ok (.putfield 154, 3) := by decide +kernel
theorem dX5_note_49 : decode cX5_note 49 = .ok (.iconst 0, 1) := by decide +kernel
theorem dX5_note_50 : decode cX5_note 50 = .ok (.istore_n 1, 1) := by decide +kernel
theorem dX5_note_51 : decode cX5_note 51 = .ok (.iload_n 1, 1) := by decide +kernel
theorem dX5_note_52 : decode cX5_note 52 = .ok (.bipush 17, 2) := by decide +kernel
theorem dX5_note_54 : decode cX5_note 54 = .ok (.if_icmp .ge 29, 3) := by decide +kernel
theorem dX5_note_57 : decode cX5_note 57 = .ok (.aload_n 0, 1) := by decide +kernel
theorem dX5_note_58 : decode cX5_note 58 = .ok (.getfield 31, 3) := by decide +kernel
theorem dX5_note_61 : decode cX5_note 61 = .ok (.bipush 17, 2) := by decide +kernel
theorem dX5_note_63 : decode cX5_note 63 = .ok (.aload_n 0, 1) := by decide +kernel
theorem dX5_note_64 : decode cX5_note 64 = .ok (.getfield 154, 3) := by decide +kernel
theorem dX5_note_67 : decode cX5_note 67 = .ok (.imul, 1) := by decide +kernel
theorem dX5_note_68 : decode cX5_note 68 = .ok (.iload_n 1, 1) := by decide +kernel
theorem dX5_note_69 : decode cX5_note 69 = .ok (.iadd, 1) := by decide +kernel
theorem dX5_note_70 : decode cX5_note 70 = .ok (.aload_n 0, 1) := by decide +kernel
theorem dX5_note_71 : decode cX5_note 71 = .ok (.getfield 22, 3) := by decide +kernel
theorem dX5_note_74 : decode cX5_note 74 = .ok (.iload_n 1, 1) := by decide +kernel
theorem dX5_note_75 : decode cX5_note 75 = .ok (.iaload, 1) := by decide +kernel
theorem dX5_note_76 : decode cX5_note 76 = .ok (.iastore, 1) := by decide +kernel
theorem dX5_note_77 : decode cX5_note 77 = .ok (.iinc 1 1, 3) := by decide +kernel
theorem dX5_note_80 : decode cX5_note 80 = .ok (.goto (-29), 3) := by decide +kernel
theorem dX5_note_83 : decode cX5_note 83 = .ok (.aload_n 0, 1) := by decide +kernel
theorem dX5_note_84 : decode cX5_note 84 = .ok (.dup, 1) := by decide +kernel
theorem dX5_note_85 : decode cX5_note 85 = .ok (.getfield 154, 3) := by decide +kernel
theorem dX5_note_88 : decode cX5_note 88 = .ok (.iconst 1, 1) := by decide +kernel
theorem dX5_note_89 : decode cX5_note 89 = .ok (.iadd, 1) := by decide +kernel
theorem dX5_note_90 : decode cX5_note 90 = .ok (.putfield 154, 3) := by decide +kernel
theorem dX5_note_93 : decode cX5_note 93 = .ok (.return_, 1) := by decide +kernel
theorem dX5_canPut_0 : decode cX5_canPut 0 = .ok (.aload_n 1, 1) := by decide +kernel
theorem dX5_canPut_1 : decode cX5_canPut 1 = .ok (.iload_n 2, 1) := by decide +kernel
theorem dX5_canPut_2 : decode cX5_canPut 2 = .ok (.iaload, 1) := by decide +kernel
theorem dX5_canPut_3 : decode cX5_canPut 3 = .ok (.ifCond .ne 34, 3) := by decide +kernel
theorem dX5_canPut_6 : decode cX5_canPut 6 = .ok (.iload_n 2, 1) := by decide +kernel
theorem dX5_canPut_7 : decode cX5_canPut 7 = .ok (.invokestatic 87, 3) := by decide +kernel
theorem dX5_canPut_10 : decode cX5_canPut 10 = .ok (.aload_n 1, 1) := by decide +kernel
theorem dX5_canPut_11 : decode cX5_canPut 11 = .ok (.invokestatic 122, 3) := by decide +kernel
theorem dX5_canPut_14 : decode cX5_canPut 14 = .ok (.iconst (-1), 1) := by decide +kernel
theorem dX5_canPut_15 : decode cX5_canPut 15 = .ok (.ixor, 1) := by decide +kernel
theorem dX5_canPut_16 : decode cX5_canPut 16 = .ok (.iand, 1) := by decide +kernel
theorem dX5_canPut_17 : decode cX5_canPut 17 = .ok (.ifCond .ne 20, 3) := by decide +kernel
theorem dX5_canPut_20 : decode cX5_canPut 20 = .ok (.aload_n 0, 1) := by decide +kernel
theorem dX5_canPut_21 : decode cX5_canPut 21 = .ok (.aload_n 1, 1) := by decide +kernel
theorem dX5_canPut_22 : decode cX5_canPut 22 = .ok (.iload_n 3, 1) := by decide +kernel
theorem dX5_canPut_23 : decode cX5_canPut 23 = .ok (.invokevirtual 157, 3) := by decide +kernel
theorem dX5_canPut_26 : decode cX5_canPut 26 = .ok (.iload_n 2, 1) := by decide +kernel
theorem dX5_canPut_27 : decode cX5_canPut 27 = .ok (.invokestatic 75, 3) := by decide +kernel
theorem dX5_canPut_30 : decode cX5_canPut 30 = .ok (.if_icmp .lt 7, 3) := by decide +kernel
theorem dX5_canPut_33 : decode cX5_canPut 33 = .ok (.iconst 1, 1) := by decide +kernel
theorem dX5_canPut_34 : decode cX5_canPut 34 = .ok (.goto 4, 3) := by decide +kernel
theorem dX5_canPut_37 : decode cX5_canPut 37 = .ok (.iconst 0, 1) := by decide +kernel
theorem dX5_canPut_38 : decode cX5_canPut 38 = .ok (.ireturn, 1) := by decide +kernel
theorem dX5_goPut_0 : decode cX5_goPut 0 = .ok (.aload_n 1, 1) := by decide +kernel
theorem dX5_goPut_1 : decode cX5_goPut 1 = .ok (.iload_n 2, 1) := by decide +kernel
theorem dX5_goPut_2 : decode cX5_goPut 2 = .ok (.iload_n 3, 1) := by decide +kernel
theorem dX5_goPut_3 : decode cX5_goPut 3 = .ok (.iconst 1, 1) := by decide +kernel
theorem dX5_goPut_4 : decode cX5_goPut 4 = .ok (.iadd, 1) := by decide +kernel
theorem dX5_goPut_5 : decode cX5_goPut 5 = .ok (.iastore, 1) := by decide +kernel
theorem dX5_goPut_6 : decode cX5_goPut 6 = .ok (.aload_n 0, 1) := by decide +kernel
theorem dX5_goPut_7 : decode cX5_goPut 7 = .ok (.aload_n 1, 1) := by decide +kernel
theorem dX5_goPut_8 : decode cX5_goPut 8 = .ok (.invokevirtual 151, 3) := by decide +kernel
theorem dX5_goPut_11 : decode cX5_goPut 11 = .ok (.istore 4, 2) := by decide +kernel
theorem dX5_goPut_13 : decode cX5_goPut 13 = .ok (.aload_n 1, 1) := by decide +kernel
theorem dX5_goPut_14 : decode cX5_goPut 14 = .ok (.bipush 16, 2) := by decide +kernel
theorem dX5_goPut_16 : decode cX5_goPut 16 = .ok (.dup2, 1) := by decide +kernel
theorem dX5_goPut_17 : decode cX5_goPut 17 = .ok (.iaload, 1) := by decide +kernel
theorem dX5_goPut_18 : decode cX5_goPut 18 = .ok (.iload 4, 2) := by decide +kernel
theorem dX5_goPut_20 : decode cX5_goPut 20 = .ok (.iadd, 1) := by decide +kernel
theorem dX5_goPut_21 : decode cX5_goPut 21 = .ok (.iastore, 1) := by decide +kernel
theorem dX5_goPut_22 : decode cX5_goPut 22 = .ok (.iload 4, 2) := by decide +kernel
theorem dX5_goPut_24 : decode cX5_goPut 24 = .ok (.ireturn, 1) := by decide +kernel
theorem dX5_put_0 : decode cX5_put 0 = .ok (.aload_n 0, 1) := by decide +kernel
theorem dX5_put_1 : decode cX5_put 1 = .ok (.iconst 0, 1) := by decide +kernel
theorem dX5_put_2 : decode cX5_put 2 = .ok (.putfield 59, 3) := by decide +kernel
theorem dX5_put_5 : decode cX5_put 5 = .ok (.iload_n 1, 1) := by decide +kernel
theorem dX5_put_6 : decode cX5_put 6 = .ok (.invokestatic 135, 3) := by decide +kernel
theorem dX5_put_9 : decode cX5_put 9 = .ok (.ifCond .ne 10, 3) := by decide +kernel
theorem dX5_put_12 : decode cX5_put 12 = .ok (.iload_n 2, 1) := by decide +kernel
theorem dX5_put_13 : decode cX5_put 13 = .ok (.invokestatic 172, 3) := by decide +kernel
theorem dX5_put_16 : decode cX5_put 16 = .ok (.ifCond .eq 5, 3) := by decide +kernel
theorem dX5_put_19 : decode cX5_put 19 = .ok (.iconst (-1), 1) := by decide +kernel
theorem dX5_put_20 : decode cX5_put 20 = .ok (.ireturn, 1) := by decide +kernel
theorem dX5_put_21 : decode cX5_put 21 = .ok (.aload_n 0, 1) := by decide +kernel
theorem dX5_put_22 : decode cX5_put 22 = .ok (.getfield 22, 3) := by decide +kernel
theorem dX5_put_25 : decode cX5_put 25 = .ok (.iload_n 1, 1) := by decide +kernel
theorem dX5_put_26 : decode cX5_put 26 = .ok (.iaload, 1) := by decide +kernel
theorem dX5_put_27 : decode cX5_put 27 = .ok (.ifCond .le 6, 3) := by decide +kernel
theorem dX5_put_30 : decode cX5_put 30 = .ok (.bipush (-4), 2) := by decide +kernel
theorem dX5_put_32 : decode cX5_put 32 = .ok (.ireturn, 1) := by decide +kernel
theorem dX5_put_33 : decode cX5_put 33 = .ok (.aload_n 0, 1) := by decide +kernel
theorem dX5_put_34 : decode cX5_put 34 = .ok (.aload_n 0, 1) := by decide +kernel
theorem dX5_put_35 : decode cX5_put 35 = .ok (.getfield 22, 3) := by decide +kernel
theorem dX5_put_38 : decode cX5_put 38 = .ok (.iload_n 1, 1) := by decide +kernel
theorem dX5_put_39 : decode cX5_put 39 = .ok (.iload_n 2, 1) := by decide +kernel
theorem dX5_put_40 : decode cX5_put 40 = .ok (.invokevirtual 181, 3) := by decide +kernel
theorem dX5_put_43 : decode cX5_put 43 = .ok (.ifCond .ne 6, 3) := by decide +kernel
theorem dX5_put_46 : decode cX5_put 46 = .ok (.bipush (-3), 2) := by decide +kernel
theorem dX5_put_48 : decode cX5_put 48 = .ok (.ireturn, 1) := by decide +kernel
theorem dX5_put_49 : decode cX5_put 49 = .ok (.aload_n 0, 1) := by decide +kernel
theorem dX5_put_50 : decode cX5_put 50 = .ok (.invokevirtual 185, 3) := by decide +kernel
theorem dX5_put_53 : decode cX5_put 53 = .ok (.aload_n 0, 1) := by decide +kernel
theorem dX5_put_54 : decode cX5_put 54 = .ok (.aload_n 0, 1) := by decide +kernel
theorem dX5_put_55 : decode cX5_put 55 = .ok (.getfield 22, 3) := by decide +kernel
theorem dX5_put_58 : decode cX5_put 58 = .ok (.iload_n 1, 1) := by decide +kernel
theorem dX5_put_59 : decode cX5_put 59 = .ok (.iload_n 2, 1) := by decide +kernel
theorem dX5_put_60 : decode cX5_put 60 = .ok (.invokevirtual 188, 3) := by decide +kernel
theorem dX5_put_63 : decode cX5_put 63 = .ok (.ireturn, 1) := by decide +kernel
theorem dX5_take_0 : decode cX5_take 0 = .ok (.aload_n 0, 1) := by decide +kernel
theorem dX5_take_1 : decode cX5_take 1 = .ok (.iconst 0, 1) := by decide +kernel
theorem dX5_take_2 : decode cX5_take 2 = .ok (.putfield 59, 3) := by decide +kernel
theorem dX5_take_5 : decode cX5_take 5 = .ok (.iload_n 1, 1) := by decide +kernel
theorem dX5_take_6 : decode cX5_take 6 = .ok (.invokestatic 135, 3) := by decide +kernel
theorem dX5_take_9 : decode cX5_take 9 = .ok (.ifCond .eq 5, 3) := by decide +kernel
theorem dX5_take_12 : decode cX5_take 12 = .ok (.iconst (-1), 1) := by decide +kernel
theorem dX5_take_13 : decode cX5_take 13 = .ok (.ireturn, 1) := by decide +kernel
theorem dX5_take_14 : decode cX5_take 14 = .ok (.aload_n 0, 1) := by decide +kernel
theorem dX5_take_15 : decode cX5_take 15 = .ok (.getfield 22, 3) := by decide +kernel
theorem dX5_take_18 : decode cX5_take 18 = .ok (.iload_n 1, 1) := by decide +kernel
theorem dX5_take_19 : decode cX5_take 19 = .ok (.iaload, 1) := by decide +kernel
theorem dX5_take_20 : decode cX5_take 20 = .ok (.ifCond .eq 14, 3) := by decide +kernel
theorem dX5_take_23 : decode cX5_take 23 = .ok (.aload_n 0, 1) := by decide +kernel
theorem dX5_take_24 : decode cX5_take 24 = .ok (.getfield 22, 3) := by decide +kernel
theorem dX5_take_27 : decode cX5_take 27 = .ok (.iload_n 1, 1) := by decide +kernel
theorem dX5_take_28 : decode cX5_take 28 = .ok (.invokestatic 177, 3) := by decide +kernel
theorem dX5_take_31 : decode cX5_take 31 = .ok (.ifCond .ne 6, 3) := by decide +kernel
theorem dX5_take_34 : decode cX5_take 34 = .ok (.bipush (-3), 2) := by decide +kernel
theorem dX5_take_36 : decode cX5_take 36 = .ok (.ireturn, 1) := by decide +kernel
theorem dX5_take_37 : decode cX5_take 37 = .ok (.aload_n 0, 1) := by decide +kernel
theorem dX5_take_38 : decode cX5_take 38 = .ok (.invokevirtual 185, 3) := by decide +kernel
theorem dX5_take_41 : decode cX5_take 41 = .ok (.aload_n 0, 1) := by decide +kernel
theorem dX5_take_42 : decode cX5_take 42 = .ok (.getfield 22, 3) := by decide +kernel
theorem dX5_take_45 : decode cX5_take 45 = .ok (.iload_n 1, 1) := by decide +kernel
theorem dX5_take_46 : decode cX5_take 46 = .ok (.iconst 0, 1) := by decide +kernel
theorem dX5_take_47 : decode cX5_take 47 = .ok (.iastore, 1) := by decide +kernel
theorem dX5_take_48 : decode cX5_take 48 = .ok (.iload_n 1, 1) := by decide +kernel
theorem dX5_take_49 : decode cX5_take 49 = .ok (.invokestatic 75, 3) := by decide +kernel
theorem dX5_take_52 : decode cX5_take 52 = .ok (.ireturn, 1) := by decide +kernel
theorem dX5_isTentOf_0 : decode cX5_isTentOf 0 = .ok (.aload_n 1, 1) := by decide +kernel
theorem dX5_isTentOf_1 : decode cX5_isTentOf 1 = .ok (.iload_n 2, 1) := by decide +kernel
theorem dX5_isTentOf_2 : decode cX5_isTentOf 2 = .ok (.iaload, 1) := by decide +kernel
theorem dX5_isTentOf_3 : decode cX5_isTentOf 3 = .ok (.ifCond .le 22, 3) := by decide +kernel
theorem dX5_isTentOf_6 : decode cX5_isTentOf 6 = .ok (.iload_n 2, 1) := by decide +kernel
theorem dX5_isTentOf_7 : decode cX5_isTentOf 7 = .ok (.invokestatic 71, 3) := by decide +kernel
theorem dX5_isTentOf_10 : decode cX5_isTentOf 10 = .ok (.ifCond .ne 15, 3) := by decide +kernel
theorem dX5_isTentOf_13 : decode cX5_isTentOf 13 = .ok (.iload_n 2, 1) := by decide +kernel
theorem dX5_isTentOf_14 : decode cX5_isTentOf 14 = .ok (.invokestatic 160, 3) := by decide +kernel
theorem dX5_isTentOf_17 : decode cX5_isTentOf 17 = .ok (.iload_n 3, 1) := by decide +kernel
theorem dX5_isTentOf_18 : decode cX5_isTentOf 18 = .ok (.if_icmp .ne 7, 3) := by decide +kernel
theorem dX5_isTentOf_21 : decode cX5_isTentOf 21 = .ok (.iconst 1, 1) := by decide +kernel
theorem dX5_isTentOf_22 : decode cX5_isTentOf 22 = .ok (.goto 4, 3) := by decide +kernel
theorem dX5_isTentOf_25 : decode cX5_isTentOf 25 = .ok (.iconst 0, 1) := by decide +kernel
theorem dX5_isTentOf_26 : decode cX5_isTentOf 26 = .ok (.ireturn, 1) := by decide +kernel
theorem dX5_firm_0 : decode cX5_firm 0 = .ok (.iload_n 2, 1) := by decide +kernel
theorem dX5_firm_1 : decode cX5_firm 1 = .ok (.aload_n 1, 1) := by decide +kernel
theorem dX5_firm_2 : decode cX5_firm 2 = .ok (.iload_n 2, 1) := by decide +kernel
theorem dX5_firm_3 : decode cX5_firm 3 = .ok (.iaload, 1) := by decide +kernel
theorem dX5_firm_4 : decode cX5_firm 4 = .ok (.iconst 1, 1) := by decide +kernel
theorem dX5_firm_5 : decode cX5_firm 5 = .ok (.isub, 1) := by decide +kernel
theorem dX5_firm_6 : decode cX5_firm 6 = .ok (.invokestatic 83, 3) := by decide +kernel
theorem dX5_firm_9 : decode cX5_firm 9 = .ok (.aload_n 0, 1) := by decide +kernel
theorem dX5_firm_10 : decode cX5_firm 10 = .ok (.getfield 28, 3) := by decide +kernel
theorem dX5_firm_13 : decode cX5_firm 13 = .ok (.iload_n 2, 1) := by decide +kernel
theorem dX5_firm_14 : decode cX5_firm 14 = .ok (.iaload, 1) := by decide +kernel
theorem dX5_firm_15 : decode cX5_firm 15 = .ok (.iadd, 1) := by decide +kernel
theorem dX5_firm_16 : decode cX5_firm 16 = .ok (.aload_n 1, 1) := by decide +kernel
theorem dX5_firm_17 : decode cX5_firm 17 = .ok (.iload_n 2, 1) := by decide +kernel
theorem dX5_firm_18 : decode cX5_firm 18 = .ok (.iaload, 1) := by decide +kernel
theorem dX5_firm_19 : decode cX5_firm 19 = .ok (.iconst 1, 1) := by decide +kernel
theorem dX5_firm_20 : decode cX5_firm 20 = .ok (.isub, 1) := by decide +kernel
theorem dX5_firm_21 : decode cX5_firm 21 = .ok (.invokestatic 192, 3) := by decide +kernel
theorem dX5_firm_24 : decode cX5_firm 24 = .ok (.iadd, 1) := by decide +kernel
theorem dX5_firm_25 : decode cX5_firm 25 = .ok (.ireturn, 1) := by decide +kernel
theorem dX5_goDraught_0 : decode cX5_goDraught 0 = .ok (.aload_n 0, 1) := by decide +kernel
theorem dX5_goDraught_1 : decode cX5_goDraught 1 = .ok (.aload_n 1, 1) := by decide +kernel
theorem dX5_goDraught_2 : decode cX5_goDraught 2 = .ok (.invokevirtual 100, 3) := by decide +kernel
theorem dX5_goDraught_5 : decode cX5_goDraught 5 = .ok (.iconst 0, 1) := by decide +kernel
theorem dX5_goDraught_6 : decode cX5_goDraught 6 = .ok (.istore 4, 2) := by decide +kernel
theorem dX5_goDraught_8 : decode cX5_goDraught 8 = .ok (.iconst 0, 1) := by decide +kernel
theorem dX5_goDraught_9 : decode cX5_goDraught 9 = .ok (.istore 5, 2) := by decide +kernel
theorem dX5_goDraught_11 : decode cX5_goDraught 11 = .ok (.iload 5, 2) := by decide +kernel
theorem dX5_goDraught_13 : decode cX5_goDraught 13 = .ok (.bipush 16, 2) := by decide +kernel
theorem dX5_goDraught_15 : decode cX5_goDraught 15 = .ok (.if_icmp .ge 47, 3) := by decide +kernel
theorem dX5_goDraught_18 : decode cX5_goDraught 18 = .ok (.iload 4, 2) := by decide +kernel
theorem dX5_goDraught_20 : decode cX5_goDraught 20 = .ok (.aload_n 0, 1) := by decide +kernel
theorem dX5_goDraught_21 : decode cX5_goDraught 21 = .ok (.aload_n 1, 1) := by decide +kernel
theorem dX5_goDraught_22 : decode cX5_goDraught 22 = .ok (.iload 5, 2) := by decide +kernel
theorem dX5_goDraught_24 : decode cX5_goDraught 24 = .ok (.iload_n 2, 1) := by decide +kernel
theorem dX5_goDraught_25 : decode cX5_goDraught 25 = .ok (.invokevirtual 195, 3) := by decide +kernel
theorem dX5_goDraught_28 : decode cX5_goDraught 28 = .ok (.ifCond .eq 24, 3) := by decide +kernel
theorem dX5_goDraught_31 : decode cX5_goDraught 31 = .ok (.aload_n 0, 1) := by decide +kernel
theorem dX5_goDraught_32 : decode cX5_goDraught 32 = .ok (.aload_n 1, 1) := by decide +kernel
theorem dX5_goDraught_33 : decode cX5_goDraught 33 = .ok (.iload 5, 2) := by decide +kernel
theorem dX5_goDraught_35 : decode cX5_goDraught 35 = .ok (.invokevirtual 198, 3) := by decide +kernel
theorem dX5_goDraught_38 : decode cX5_goDraught 38 = .ok (.bipush 8, 2) := by decide +kernel
theorem dX5_goDraught_40 : decode cX5_goDraught 40 = .ok (.iload_n 3, 1) := by decide +kernel
theorem dX5_goDraught_41 : decode cX5_goDraught 41 = .ok (.imul, 1) := by decide +kernel
theorem dX5_goDraught_42 : decode cX5_goDraught 42 = .ok (.if_icmp .ge 10, 3) := by decide +kernel
theorem dX5_goDraught_45 : decode cX5_goDraught 45 = .ok (.iconst 1, 1) := by decide +kernel
theorem dX5_goDraught_46 : decode cX5_goDraught 46 = .ok (.iload 5, 2) := by decide +kernel
theorem dX5_goDraught_48 : decode cX5_goDraught 48 = .ok (.ishl, 1) := by decide +kernel
theorem dX5_goDraught_49 : decode cX5_goDraught 49 = .ok (.goto 4, 3) := by decide +kernel
theorem dX5_goDraught_52 : decode cX5_goDraught 52 = .ok (.iconst 0, 1) := by decide +kernel
theorem dX5_goDraught_53 : decode cX5_goDraught 53 = .ok (.ior, 1) := by decide +kernel
theorem dX5_goDraught_54 : decode cX5_goDraught 54 = .ok (.istore 4, 2) := by decide +kernel
theorem dX5_goDraught_56 : decode cX5_goDraught 56 = .ok (.iinc 5 1, 3) := by decide +kernel
theorem dX5_goDraught_59 : decode cX5_goDraught 59 = .ok (.goto (-48), 3) := by decide +kernel
theorem dX5_goDraught_62 : decode cX5_goDraught 62 = .ok (.aload_n 1, 1) := by decide +kernel
theorem dX5_goDraught_63 : decode cX5_goDraught 63 = .ok (.iload 4, 2) := by decide +kernel
theorem dX5_goDraught_65 : decode cX5_goDraught 65 = .ok (.invokestatic 111, 3) := by decide +kernel
theorem dX5_goDraught_68 : decode cX5_goDraught 68 = .ok (.istore 5, 2) := by decide +kernel
theorem dX5_goDraught_70 : decode cX5_goDraught 70 = .ok (.iload 5, 2) := by decide +kernel
theorem dX5_goDraught_72 : decode cX5_goDraught 72 = .ok (.aload_n 0, 1) := by decide +kernel
theorem dX5_goDraught_73 : decode cX5_goDraught 73 = .ok (.aload_n 1, 1) := by decide +kernel
theorem dX5_goDraught_74 : decode cX5_goDraught 74 = .ok (.invokevirtual 151, 3) := by decide +kernel
theorem dX5_goDraught_77 : decode cX5_goDraught 77 = .ok (.iadd, 1) := by decide +kernel
theorem dX5_goDraught_78 : decode cX5_goDraught 78 = .ok (.istore 5, 2) := by decide +kernel
theorem dX5_goDraught_80 : decode cX5_goDraught 80 = .ok (.aload_n 1, 1) := by decide +kernel
theorem dX5_goDraught_81 : decode cX5_goDraught 81 = .ok (.bipush 16, 2) := by decide +kernel
theorem dX5_goDraught_83 : decode cX5_goDraught 83 = .ok (.dup2, 1) := by decide +kernel
theorem dX5_goDraught_84 : decode cX5_goDraught 84 = .ok (.iaload, 1) := by decide +kernel
theorem dX5_goDraught_85 : decode cX5_goDraught 85 = .ok (.iload 5, 2) := by decide +kernel
theorem dX5_goDraught_87 : decode cX5_goDraught 87 = .ok (.iadd, 1) := by decide +kernel
theorem dX5_goDraught_88 : decode cX5_goDraught 88 = .ok (.iastore, 1) := by decide +kernel
theorem dX5_goDraught_89 : decode cX5_goDraught 89 = .ok (.iload 5, 2) := by decide +kernel
theorem dX5_goDraught_91 : decode cX5_goDraught 91 = .ok (.ireturn, 1) := by decide +kernel
theorem dX5_draught_0 : decode cX5_draught 0 = .ok (.aload_n 0, 1) := by decide +kernel
theorem dX5_draught_1 : decode cX5_draught 1 = .ok (.iconst 0, 1) := by decide +kernel
theorem dX5_draught_2 : decode cX5_draught 2 = .ok (.putfield 59, 3) := by decide +kernel
theorem dX5_draught_5 : decode cX5_draught 5 = .ok (.iload_n 1, 1) := by decide +kernel
theorem dX5_draught_6 : decode cX5_draught 6 = .ok (.i2l, 1) := by decide +kernel
theorem dX5_draught_7 : decode cX5_draught 7 = .ok (.lconst 0, 1) := by decide +kernel
theorem dX5_draught_8 : decode cX5_draught 8 = .ok (.ldc2_w 69, 3) := by decide +kernel
theorem dX5_draught_11 : decode cX5_draught 11 = .ok (.invokestatic 65, 3) := by decide +kernel
theorem dX5_draught_14 : decode cX5_draught 14 = .ok (.ifCond .ne 5, 3) := by decide +kernel
theorem dX5_draught_17 : decode cX5_draught 17 = .ok (.iconst (-1), 1) := by decide +kernel
theorem dX5_draught_18 : decode cX5_draught 18 = .ok (.ireturn, 1) := by decide +kernel
theorem dX5_draught_19 : decode cX5_draught 19 = .ok (.iload_n 2, 1) := by decide +kernel
theorem dX5_draught_20 : decode cX5_draught 20 = .ok (.i2l, 1) := by decide +kernel
theorem dX5_draught_21 : decode cX5_draught 21 = .ok (.lconst 1, 1) := by decide +kernel
theorem dX5_draught_22 : decode cX5_draught 22 = .ok (.ldc2_w 201, 3) := by decide +kernel
theorem dX5_draught_25 : decode cX5_draught 25 = .ok (.invokestatic 65, 3) := by decide +kernel
theorem dX5_draught_28 : decode cX5_draught 28 = .ok (.ifCond .ne 6, 3) := by decide +kernel
theorem dX5_draught_31 : decode cX5_draught 31 = .ok (.bipush (-2), 2) := by decide +kernel
theorem dX5_draught_33 : decode cX5_draught 33 = .ok (.ireturn, 1) := by decide +kernel
theorem dX5_draught_34 : decode cX5_draught 34 = .ok (.aload_n 0, 1) := by decide +kernel
theorem dX5_draught_35 : decode cX5_draught 35 = .ok (.invokevirtual 185, 3) := by decide +kernel
theorem dX5_draught_38 : decode cX5_draught 38 = .ok (.aload_n 0, 1) := by decide +kernel
theorem dX5_draught_39 : decode cX5_draught 39 = .ok (.aload_n 0, 1) := by decide +kernel
theorem dX5_draught_40 : decode cX5_draught 40 = .ok (.getfield 22, 3) := by decide +kernel
theorem dX5_draught_43 : decode cX5_draught 43 = .ok (.iload_n 1, 1) := by decide +kernel
theorem dX5_draught_44 : decode cX5_draught 44 = .ok (.iload_n 2, 1) := by decide +kernel
theorem dX5_draught_45 : decode cX5_draught 45 = .ok (.invokevirtual 203, 3) := by decide +kernel
theorem dX5_draught_48 : decode cX5_draught 48 = .ok (.ireturn, 1) := by decide +kernel
theorem dX5_undo_0 : decode cX5_undo 0 = .ok (.aload_n 0, 1) := by decide +kernel
theorem dX5_undo_1 : decode cX5_undo 1 = .ok (.iconst 0, 1) := by decide +kernel
theorem dX5_undo_2 : decode cX5_undo 2 = .ok (.putfield 59, 3) := by decide +kernel
theorem dX5_undo_5 : decode cX5_undo 5 = .ok (.aload_n 0, 1) := by decide +kernel
theorem dX5_undo_6 : decode cX5_undo 6 = .ok (.getfield 154, 3) := by decide +kernel
theorem dX5_undo_9 : decode cX5_undo 9 = .ok (.ifCond .ne 6, 3) := by decide +kernel
theorem dX5_undo_12 : decode cX5_undo 12 = .ok (.bipush (-3), 2) := by decide +kernel
theorem dX5_undo_14 : decode cX5_undo 14 = .ok (.ireturn, 1) := by decide +kernel
theorem dX5_undo_15 : decode cX5_undo 15 = .ok (.aload_n 0, 1) := by decide +kernel
theorem dX5_undo_16 : decode cX5_undo 16 = .ok (.dup, 1) := by decide +kernel
theorem dX5_undo_17 : decode cX5_undo 17 = .ok (.getfield 154, 3) := by decide +kernel
theorem dX5_undo_20 : decode cX5_undo 20 = .ok (.iconst 1, 1) := by decide +kernel
theorem dX5_undo_21 : decode cX5_undo 21 = .ok (.isub, 1) := by decide +kernel
theorem dX5_undo_22 : decode cX5_undo 22 = .ok (.putfield 154, 3) := by decide +kernel
theorem dX5_undo_25 : decode cX5_undo 25 = .ok (.iconst 0, 1) := by decide +kernel
theorem dX5_undo_26 : decode cX5_undo 26 = .ok (.istore_n 1, 1) := by decide +kernel
theorem dX5_undo_27 : decode cX5_undo 27 = .ok (.iload_n 1, 1) := by decide +kernel
theorem dX5_undo_28 : decode cX5_undo 28 = .ok (.bipush 17, 2) := by decide +kernel
theorem dX5_undo_30 : decode cX5_undo 30 = .ok (.if_icmp .ge 29, 3) := by decide +kernel
theorem dX5_undo_33 : decode cX5_undo 33 = .ok (.aload_n 0, 1) := by decide +kernel
theorem dX5_undo_34 : decode cX5_undo 34 = .ok (.getfield 22, 3) := by decide +kernel
theorem dX5_undo_37 : decode cX5_undo 37 = .ok (.iload_n 1, 1) := by decide +kernel
theorem dX5_undo_38 : decode cX5_undo 38 = .ok (.aload_n 0, 1) := by decide +kernel
theorem dX5_undo_39 : decode cX5_undo 39 = .ok (.getfield 31, 3) := by decide +kernel
theorem dX5_undo_42 : decode cX5_undo 42 = .ok (.bipush 17, 2) := by decide +kernel
theorem dX5_undo_44 : decode cX5_undo 44 = .ok (.aload_n 0, 1) := by decide +kernel
theorem dX5_undo_45 : decode cX5_undo 45 = .ok (.getfield 154, 3) := by decide +kernel
theorem dX5_undo_48 : decode cX5_undo 48 = .ok (.imul, 1) := by decide +kernel
theorem dX5_undo_49 : decode cX5_undo 49 = .ok (.iload_n 1, 1) := by decide +kernel
theorem dX5_undo_50 : decode cX5_undo 50 = .ok (.iadd, 1) := by decide +kernel
theorem dX5_undo_51 : decode cX5_undo 51 = .ok (.iaload, 1) := by decide +kernel
theorem dX5_undo_52 : decode cX5_undo 52 = .ok (.iastore, 1) := by decide +kernel
theorem dX5_undo_53 : decode cX5_undo 53 = .ok (.iinc 1 1, 3) := by decide +kernel
theorem dX5_undo_56 : decode cX5_undo 56 = .ok (.goto (-29), 3) := by decide +kernel
theorem dX5_undo_59 : decode cX5_undo 59 = .ok (.aload_n 0, 1) := by decide +kernel
theorem dX5_undo_60 : decode cX5_undo 60 = .ok (.getfield 154, 3) := by decide +kernel
theorem dX5_undo_63 : decode cX5_undo 63 = .ok (.ireturn, 1) := by decide +kernel
theorem dX5_open_0 : decode cX5_open 0 = .ok (.aload_n 0, 1) := by decide +kernel
theorem dX5_open_1 : decode cX5_open 1 = .ok (.iconst 0, 1) := by decide +kernel
theorem dX5_open_2 : decode cX5_open 2 = .ok (.putfield 59, 3) := by decide +kernel
theorem dX5_open_5 : decode cX5_open 5 = .ok (.iload_n 1, 1) := by decide +kernel
theorem dX5_open_6 : decode cX5_open 6 = .ok (.invokestatic 172, 3) := by decide +kernel
theorem dX5_open_9 : decode cX5_open 9 = .ok (.ifCond .eq 5, 3) := by decide +kernel
theorem dX5_open_12 : decode cX5_open 12 = .ok (.iconst (-1), 1) := by decide +kernel
theorem dX5_open_13 : decode cX5_open 13 = .ok (.ireturn, 1) := by decide +kernel
theorem dX5_open_14 : decode cX5_open 14 = .ok (.iconst 0, 1) := by decide +kernel
theorem dX5_open_15 : decode cX5_open 15 = .ok (.istore_n 2, 1) := by decide +kernel
theorem dX5_open_16 : decode cX5_open 16 = .ok (.iconst 0, 1) := by decide +kernel
theorem dX5_open_17 : decode cX5_open 17 = .ok (.istore_n 3, 1) := by decide +kernel
theorem dX5_open_18 : decode cX5_open 18 = .ok (.iload_n 3, 1) := by decide +kernel
theorem dX5_open_19 : decode cX5_open 19 = .ok (.bipush 16, 2) := by decide +kernel
theorem dX5_open_21 : decode cX5_open 21 = .ok (.if_icmp .ge 32, 3) := by decide +kernel
theorem dX5_open_24 : decode cX5_open 24 = .ok (.iload_n 2, 1) := by decide +kernel
theorem dX5_open_25 : decode cX5_open 25 = .ok (.aload_n 0, 1) := by decide +kernel
theorem dX5_open_26 : decode cX5_open 26 = .ok (.aload_n 0, 1) := by decide +kernel
theorem dX5_open_27 : decode cX5_open 27 = .ok (.getfield 22, 3) := by decide +kernel
theorem dX5_open_30 : decode cX5_open 30 = .ok (.iload_n 3, 1) := by decide +kernel
theorem dX5_open_31 : decode cX5_open 31 = .ok (.iload_n 1, 1) := by decide +kernel
theorem dX5_open_32 : decode cX5_open 32 = .ok (.invokevirtual 181, 3) := by decide +kernel
theorem dX5_open_35 : decode cX5_open 35 = .ok (.ifCond .eq 9, 3) := by decide +kernel
theorem dX5_open_38 : decode cX5_open 38 = .ok (.iconst 1, 1) := by decide +kernel
theorem dX5_open_39 : decode cX5_open 39 = .ok (.iload_n 3, 1) := by decide +kernel
theorem dX5_open_40 : decode cX5_open 40 = .ok (.ishl, 1) := by decide +kernel
theorem dX5_open_41 : decode cX5_open 41 = .ok (.goto 4, 3) := by decide +kernel
theorem dX5_open_44 : decode cX5_open 44 = .ok (.iconst 0, 1) := by decide +kernel
theorem dX5_open_45 : decode cX5_open 45 = .ok (.ior, 1) := by decide +kernel
theorem dX5_open_46 : decode cX5_open 46 = .ok (.istore_n 2, 1) := by decide +kernel
theorem dX5_open_47 : decode cX5_open 47 = .ok (.iinc 3 1, 3) := by decide +kernel
theorem dX5_open_50 : decode cX5_open 50 = .ok (.goto (-32), 3) := by decide +kernel
theorem dX5_open_53 : decode cX5_open 53 = .ok (.iload_n 2, 1) := by decide +kernel
theorem dX5_open_54 : decode cX5_open 54 = .ok (.ireturn, 1) := by decide +kernel
theorem dX5_spread_0 : decode cX5_spread 0 = .ok (.aload_n 0, 1) := by decide +kernel
theorem dX5_spread_1 : decode cX5_spread 1 = .ok (.iconst 0, 1) := by decide +kernel
theorem dX5_spread_2 : decode cX5_spread 2 = .ok (.putfield 59, 3) := by decide +kernel
theorem dX5_spread_5 : decode cX5_spread 5 = .ok (.iload_n 1, 1) := by decide +kernel
theorem dX5_spread_6 : decode cX5_spread 6 = .ok (.invokestatic 135, 3) := by decide +kernel
theorem dX5_spread_9 : decode cX5_spread 9 = .ok (.ifCond .eq 5, 3) := by decide +kernel
theorem dX5_spread_12 : decode cX5_spread 12 = .ok (.iconst (-1), 1) := by decide +kernel
theorem dX5_spread_13 : decode cX5_spread 13 = .ok (.ireturn, 1) := by decide +kernel
theorem dX5_spread_14 : decode cX5_spread 14 = .ok (.aload_n 0, 1) := by decide +kernel
theorem dX5_spread_15 : decode cX5_spread 15 = .ok (.getfield 22, 3) := by decide +kernel
theorem dX5_spread_18 : decode cX5_spread 18 = .ok (.iload_n 1, 1) := by decide +kernel
theorem dX5_spread_19 : decode cX5_spread 19 = .ok (.iaload, 1) := by decide +kernel
theorem dX5_spread_20 : decode cX5_spread 20 = .ok (.ifCond .ne 8, 3) := by decide +kernel
theorem dX5_spread_23 : decode cX5_spread 23 = .ok (.bipush (-3), 2) := by decide +kernel
theorem dX5_spread_25 : decode cX5_spread 25 = .ok (.goto 13, 3) := by decide +kernel
theorem dX5_spread_28 : decode cX5_spread 28 = .ok (.aload_n 0, 1) := by decide +kernel
theorem dX5_spread_29 : decode cX5_spread 29 = .ok (.getfield 22, 3) := by decide +kernel
theorem dX5_spread_32 : decode cX5_spread 32 = .ok (.iconst 1, 1) := by decide +kernel
theorem dX5_spread_33 : decode cX5_spread 33 = .ok (.iload_n 1, 1) := by decide +kernel
theorem dX5_spread_34 : decode cX5_spread 34 = .ok (.ishl, 1) := by decide +kernel
theorem dX5_spread_35 : decode cX5_spread 35 = .ok (.invokestatic 94, 3) := by decide +kernel
theorem dX5_spread_38 : decode cX5_spread 38 = .ok (.ireturn, 1) := by decide +kernel
theorem dX5_stands_0 : decode cX5_stands 0 = .ok (.aload_n 0, 1) := by decide +kernel
theorem dX5_stands_1 : decode cX5_stands 1 = .ok (.iconst 0, 1) := by decide +kernel
theorem dX5_stands_2 : decode cX5_stands 2 = .ok (.putfield 59, 3) := by decide +kernel
theorem dX5_stands_5 : decode cX5_stands 5 = .ok (.iload_n 1, 1) := by decide +kernel
theorem dX5_stands_6 : decode cX5_stands 6 = .ok (.i2l, 1) := by decide +kernel
theorem dX5_stands_7 : decode cX5_stands 7 = .ok (.lconst 0, 1) := by decide +kernel
theorem dX5_stands_8 : decode cX5_stands 8 = .ok (.ldc2_w 69, 3) := by decide +kernel
theorem dX5_stands_11 : decode cX5_stands 11 = .ok (.invokestatic 65, 3) := by decide +kernel
theorem dX5_stands_14 : decode cX5_stands 14 = .ok (.ifCond .ne 5, 3) := by decide +kernel
theorem dX5_stands_17 : decode cX5_stands 17 = .ok (.iconst (-1), 1) := by decide +kernel
theorem dX5_stands_18 : decode cX5_stands 18 = .ok (.ireturn, 1) := by decide +kernel
theorem dX5_stands_19 : decode cX5_stands 19 = .ok (.aload_n 0, 1) := by decide +kernel
theorem dX5_stands_20 : decode cX5_stands 20 = .ok (.aload_n 0, 1) := by decide +kernel
theorem dX5_stands_21 : decode cX5_stands 21 = .ok (.getfield 22, 3) := by decide +kernel
theorem dX5_stands_24 : decode cX5_stands 24 = .ok (.invokevirtual 100, 3) := by decide +kernel
theorem dX5_stands_27 : decode cX5_stands 27 = .ok (.bipush 9, 2) := by decide +kernel
theorem dX5_stands_29 : decode cX5_stands 29 = .ok (.istore_n 2, 1) := by decide +kernel
theorem dX5_stands_30 : decode cX5_stands 30 = .ok (.iconst 0, 1) := by decide +kernel
theorem dX5_stands_31 : decode cX5_stands 31 = .ok (.istore_n 3, 1) := by decide +kernel
theorem dX5_stands_32 : decode cX5_stands 32 = .ok (.iload_n 3, 1) := by decide +kernel
theorem dX5_stands_33 : decode cX5_stands 33 = .ok (.bipush 16, 2) := by decide +kernel
theorem dX5_stands_35 : decode cX5_stands 35 = .ok (.if_icmp .ge 54, 3) := by decide +kernel
theorem dX5_stands_38 : decode cX5_stands 38 = .ok (.aload_n 0, 1) := by decide +kernel
theorem dX5_stands_39 : decode cX5_stands 39 = .ok (.aload_n 0, 1) := by decide +kernel
theorem dX5_stands_40 : decode cX5_stands 40 = .ok (.getfield 22, 3) := by decide +kernel
theorem dX5_stands_43 : decode cX5_stands 43 = .ok (.iload_n 3, 1) := by decide +kernel
theorem dX5_stands_44 : decode cX5_stands 44 = .ok (.iload_n 1, 1) := by decide +kernel
theorem dX5_stands_45 : decode cX5_stands 45 = .ok (.invokevirtual 195, 3) := by decide +kernel
theorem dX5_stands_48 : decode cX5_stands 48 = .ok (.ifCond .eq 18, 3) := by decide +kernel
theorem dX5_stands_51 : decode cX5_stands 51 = .ok (.aload_n 0, 1) := by decide +kernel
theorem dX5_stands_52 : decode cX5_stands 52 = .ok (.aload_n 0, 1) := by decide +kernel
theorem dX5_stands_53 : decode cX5_stands 53 = .ok (.getfield 22, 3) := by decide +kernel
theorem dX5_stands_56 : decode cX5_stands 56 = .ok (.iload_n 3, 1) := by decide +kernel
theorem dX5_stands_57 : decode cX5_stands 57 = .ok (.invokevirtual 198, 3) := by decide +kernel
theorem dX5_stands_60 : decode cX5_stands 60 = .ok (.bipush 8, 2) := by decide +kernel
theorem dX5_stands_62 : decode cX5_stands 62 = .ok (.idiv, 1) := by decide +kernel
theorem dX5_stands_63 : decode cX5_stands 63 = .ok (.goto 5, 3) := by decide +kernel
theorem dX5_stands_66 : decode cX5_stands 66 = .ok (.bipush 9, 2) := by decide +kernel
theorem dX5_stands_68 : decode cX5_stands 68 = .ok (.istore 4, 2) := by decide +kernel
theorem dX5_stands_70 : decode cX5_stands 70 = .ok (.iload 4, 2) := by decide +kernel
theorem dX5_stands_72 : decode cX5_stands 72 = .ok (.iload_n 2, 1) := by decide +kernel
theorem dX5_stands_73 : decode cX5_stands 73 = .ok (.if_icmp .ge 8, 3) := by decide +kernel
theorem dX5_stands_76 : decode cX5_stands 76 = .ok (.iload 4, 2) := by decide +kernel
theorem dX5_stands_78 : decode cX5_stands 78 = .ok (.goto 4, 3) := by decide +kernel
theorem dX5_stands_81 : decode cX5_stands 81 = .ok (.iload_n 2, 1) := by decide +kernel
theorem dX5_stands_82 : decode cX5_stands 82 = .ok (.istore_n 2, 1) := by decide +kernel
theorem dX5_stands_83 : decode cX5_stands 83 = .ok (.iinc 3 1, 3) := by decide +kernel
theorem dX5_stands_86 : decode cX5_stands 86 = .ok (.goto (-54), 3) := by decide +kernel
theorem dX5_stands_89 : decode cX5_stands 89 = .ok (.iload_n 2, 1) := by decide +kernel
theorem dX5_stands_90 : decode cX5_stands 90 = .ok (.ireturn, 1) := by decide +kernel
theorem dX5_wanted_0 : decode cX5_wanted 0 = .ok (.iconst 1, 1) := by decide +kernel
theorem dX5_wanted_1 : decode cX5_wanted 1 = .ok (.iload_n 1, 1) := by decide +kernel
theorem dX5_wanted_2 : decode cX5_wanted 2 = .ok (.ishl, 1) := by decide +kernel
theorem dX5_wanted_3 : decode cX5_wanted 3 = .ok (.istore_n 2, 1) := by decide +kernel
theorem dX5_wanted_4 : decode cX5_wanted 4 = .ok (.iload_n 1, 1) := by decide +kernel
theorem dX5_wanted_5 : decode cX5_wanted 5 = .ok (.istore_n 3, 1) := by decide +kernel
theorem dX5_wanted_6 : decode cX5_wanted 6 = .ok (.iload_n 3, 1) := by decide +kernel
theorem dX5_wanted_7 : decode cX5_wanted 7 = .ok (.ifCond .lt 28, 3) := by decide +kernel
theorem dX5_wanted_10 : decode cX5_wanted 10 = .ok (.iload_n 2, 1) := by decide +kernel
theorem dX5_wanted_11 : decode cX5_wanted 11 = .ok (.iload_n 2, 1) := by decide +kernel
theorem dX5_wanted_12 : decode cX5_wanted 12 = .ok (.iload_n 3, 1) := by decide +kernel
theorem dX5_wanted_13 : decode cX5_wanted 13 = .ok (.invokestatic 90, 3) := by decide +kernel
theorem dX5_wanted_16 : decode cX5_wanted 16 = .ok (.ifCond .eq 10, 3) := by decide +kernel
theorem dX5_wanted_19 : decode cX5_wanted 19 = .ok (.iload_n 3, 1) := by decide +kernel
theorem dX5_wanted_20 : decode cX5_wanted 20 = .ok (.invokestatic 87, 3) := by decide +kernel
theorem dX5_wanted_23 : decode cX5_wanted 23 = .ok (.goto 4, 3) := by decide +kernel
theorem dX5_wanted_26 : decode cX5_wanted 26 = .ok (.iconst 0, 1) := by decide +kernel
theorem dX5_wanted_27 : decode cX5_wanted 27 = .ok (.ior, 1) := by decide +kernel
theorem dX5_wanted_28 : decode cX5_wanted 28 = .ok (.istore_n 2, 1) := by decide +kernel
theorem dX5_wanted_29 : decode cX5_wanted 29 = .ok (.iinc 3 (-1), 3) := by decide +kernel
theorem dX5_wanted_32 : decode cX5_wanted 32 = .ok (.goto (-26), 3) := by decide +kernel
theorem dX5_wanted_35 : decode cX5_wanted 35 = .ok (.iload_n 2, 1) := by decide +kernel
theorem dX5_wanted_36 : decode cX5_wanted 36 = .ok (.aload_n 0, 1) := by decide +kernel
theorem dX5_wanted_37 : decode cX5_wanted 37 = .ok (.invokestatic 122, 3) := by decide +kernel
theorem dX5_wanted_40 : decode cX5_wanted 40 = .ok (.iconst (-1), 1) := by decide +kernel
theorem dX5_wanted_41 : decode cX5_wanted 41 = .ok (.ixor, 1) := by decide +kernel
theorem dX5_wanted_42 : decode cX5_wanted 42 = .ok (.iand, 1) := by decide +kernel
theorem dX5_wanted_43 : decode cX5_wanted 43 = .ok (.ireturn, 1) := by decide +kernel
theorem dX5_wants_0 : decode cX5_wants 0 = .ok (.aload_n 0, 1) := by decide +kernel
theorem dX5_wants_1 : decode cX5_wants 1 = .ok (.iconst 0, 1) := by decide +kernel
theorem dX5_wants_2 : decode cX5_wants 2 = .ok (.putfield 59, 3) := by decide +kernel
theorem dX5_wants_5 : decode cX5_wants 5 = .ok (.iload_n 1, 1) := by decide +kernel
theorem dX5_wants_6 : decode cX5_wants 6 = .ok (.invokestatic 135, 3) := by decide +kernel
theorem dX5_wants_9 : decode cX5_wants 9 = .ok (.ifCond .eq 5, 3) := by decide +kernel
theorem dX5_wants_12 : decode cX5_wants 12 = .ok (.iconst (-1), 1) := by decide +kernel
theorem dX5_wants_13 : decode cX5_wants 13 = .ok (.ireturn, 1) := by decide +kernel
theorem dX5_wants_14 : decode cX5_wants 14 = .ok (.iload_n 2, 1) := by decide +kernel
theorem dX5_wants_15 : decode cX5_wants 15 = .ok (.i2l, 1) := by decide +kernel
theorem dX5_wants_16 : decode cX5_wants 16 = .ok (.lconst 0, 1) := by decide +kernel
theorem dX5_wants_17 : decode cX5_wants 17 = .ok (.lconst 1, 1) := by decide +kernel
theorem dX5_wants_18 : decode cX5_wants 18 = .ok (.invokestatic 65, 3) := by decide +kernel
theorem dX5_wants_21 : decode cX5_wants 21 = .ok (.ifCond .ne 6, 3) := by decide +kernel
theorem dX5_wants_24 : decode cX5_wants 24 = .ok (.bipush (-2), 2) := by decide +kernel
theorem dX5_wants_26 : decode cX5_wants 26 = .ok (.ireturn, 1) := by decide +kernel
theorem dX5_wants_27 : decode cX5_wants 27 = .ok (.aload_n 0, 1) := by decide +kernel
theorem dX5_wants_28 : decode cX5_wants 28 = .ok (.getfield 22, 3) := by decide +kernel
theorem dX5_wants_31 : decode cX5_wants 31 = .ok (.iload_n 1, 1) := by decide +kernel
theorem dX5_wants_32 : decode cX5_wants 32 = .ok (.invokestatic 206, 3) := by decide +kernel
theorem dX5_wants_35 : decode cX5_wants 35 = .ok (.istore_n 3, 1) := by decide +kernel
theorem dX5_wants_36 : decode cX5_wants 36 = .ok (.iconst 0, 1) := by decide +kernel
theorem dX5_wants_37 : decode cX5_wants 37 = .ok (.istore 4, 2) := by decide +kernel
theorem dX5_wants_39 : decode cX5_wants 39 = .ok (.iconst 0, 1) := by decide +kernel
theorem dX5_wants_40 : decode cX5_wants 40 = .ok (.istore 5, 2) := by decide +kernel
theorem dX5_wants_42 : decode cX5_wants 42 = .ok (.iload 5, 2) := by decide +kernel
theorem dX5_wants_44 : decode cX5_wants 44 = .ok (.bipush 16, 2) := by decide +kernel
theorem dX5_wants_46 : decode cX5_wants 46 = .ok (.if_icmp .ge 40, 3) := by decide +kernel
theorem dX5_wants_49 : decode cX5_wants 49 = .ok (.iload 4, 2) := by decide +kernel
theorem dX5_wants_51 : decode cX5_wants 51 = .ok (.iload_n 3, 1) := by decide +kernel
theorem dX5_wants_52 : decode cX5_wants 52 = .ok (.iload 5, 2) := by decide +kernel
theorem dX5_wants_54 : decode cX5_wants 54 = .ok (.invokestatic 90, 3) := by decide +kernel
theorem dX5_wants_57 : decode cX5_wants 57 = .ok (.ifCond .eq 19, 3) := by decide +kernel
theorem dX5_wants_60 : decode cX5_wants 60 = .ok (.iload_n 2, 1) := by decide +kernel
theorem dX5_wants_61 : decode cX5_wants 61 = .ok (.ifCond .ne 7, 3) := by decide +kernel
theorem dX5_wants_64 : decode cX5_wants 64 = .ok (.iconst 1, 1) := by decide +kernel
theorem dX5_wants_65 : decode cX5_wants 65 = .ok (.goto 12, 3) := by decide +kernel
theorem dX5_wants_68 : decode cX5_wants 68 = .ok (.iload 5, 2) := by decide +kernel
theorem dX5_wants_70 : decode cX5_wants 70 = .ok (.invokestatic 75, 3) := by decide +kernel
theorem dX5_wants_73 : decode cX5_wants 73 = .ok (.goto 4, 3) := by decide +kernel
theorem dX5_wants_76 : decode cX5_wants 76 = .ok (.iconst 0, 1) := by decide +kernel
theorem dX5_wants_77 : decode cX5_wants 77 = .ok (.iadd, 1) := by decide +kernel
theorem dX5_wants_78 : decode cX5_wants 78 = .ok (.istore 4, 2) := by decide +kernel
theorem dX5_wants_80 : decode cX5_wants 80 = .ok (.iinc 5 1, 3) := by decide +kernel
theorem dX5_wants_83 : decode cX5_wants 83 = .ok (.goto (-41), 3) := by decide +kernel
theorem dX5_wants_86 : decode cX5_wants 86 = .ok (.iload 4, 2) := by decide +kernel
theorem dX5_wants_88 : decode cX5_wants 88 = .ok (.ireturn, 1) := by decide +kernel
theorem dX5_begin_0 : decode cX5_begin 0 = .ok (.iconst 0, 1) := by decide +kernel
theorem dX5_begin_1 : decode cX5_begin 1 = .ok (.istore_n 1, 1) := by decide +kernel
theorem dX5_begin_2 : decode cX5_begin 2 = .ok (.iload_n 1, 1) := by decide +kernel
theorem dX5_begin_3 : decode cX5_begin 3 = .ok (.bipush 17, 2) := by decide +kernel
theorem dX5_begin_5 : decode cX5_begin 5 = .ok (.if_icmp .ge 21, 3) := by decide +kernel
theorem dX5_begin_8 : decode cX5_begin 8 = .ok (.aload_n 0, 1) := by decide +kernel
theorem dX5_begin_9 : decode cX5_begin 9 = .ok (.getfield 25, 3) := by decide +kernel
theorem dX5_begin_12 : decode cX5_begin 12 = .ok (.iload_n 1, 1) := by decide +kernel
theorem dX5_begin_13 : decode cX5_begin 13 = .ok (.aload_n 0, 1) := by decide +kernel
theorem dX5_begin_14 : decode cX5_begin 14 = .ok (.getfield 22, 3) := by decide +kernel
theorem dX5_begin_17 : decode cX5_begin 17 = .ok (.iload_n 1, 1) := by decide +kernel
theorem dX5_begin_18 : decode cX5_begin 18 = .ok (.iaload, 1) := by decide +kernel
theorem dX5_begin_19 : decode cX5_begin 19 = .ok (.iastore, 1) := by decide +kernel
theorem dX5_begin_20 : decode cX5_begin 20 = .ok (.iinc 1 1, 3) := by decide +kernel
theorem dX5_begin_23 : decode cX5_begin 23 = .ok (.goto (-21), 3) := by decide +kernel
theorem dX5_begin_26 : decode cX5_begin 26 = .ok (.return_, 1) := by decide +kernel
theorem dX5_fit_0 : decode cX5_fit 0 = .ok (.aload_n 0, 1) := by decide +kernel
theorem dX5_fit_1 : decode cX5_fit 1 = .ok (.iconst 0, 1) := by decide +kernel
theorem dX5_fit_2 : decode cX5_fit 2 = .ok (.putfield 59, 3) := by decide +kernel
theorem dX5_fit_5 : decode cX5_fit 5 = .ok (.iload_n 1, 1) := by decide +kernel
theorem dX5_fit_6 : decode cX5_fit 6 = .ok (.invokestatic 135, 3) := by decide +kernel
theorem dX5_fit_9 : decode cX5_fit 9 = .ok (.ifCond .eq 5, 3) := by decide +kernel
theorem dX5_fit_12 : decode cX5_fit 12 = .ok (.iconst (-1), 1) := by decide +kernel
theorem dX5_fit_13 : decode cX5_fit 13 = .ok (.ireturn, 1) := by decide +kernel
theorem dX5_fit_14 : decode cX5_fit 14 = .ok (.aload_n 0, 1) := by decide +kernel
theorem dX5_fit_15 : decode cX5_fit 15 = .ok (.getfield 22, 3) := by decide +kernel
theorem dX5_fit_18 : decode cX5_fit 18 = .ok (.iload_n 1, 1) := by decide +kernel
theorem dX5_fit_19 : decode cX5_fit 19 = .ok (.iaload, 1) := by decide +kernel
theorem dX5_fit_20 : decode cX5_fit 20 = .ok (.ifCond .le 6, 3) := by decide +kernel
theorem dX5_fit_23 : decode cX5_fit 23 = .ok (.bipush (-4), 2) := by decide +kernel
theorem dX5_fit_25 : decode cX5_fit 25 = .ok (.ireturn, 1) := by decide +kernel
theorem dX5_fit_26 : decode cX5_fit 26 = .ok (.iconst 0, 1) := by decide +kernel
theorem dX5_fit_27 : decode cX5_fit 27 = .ok (.istore_n 2, 1) := by decide +kernel
theorem dX5_fit_28 : decode cX5_fit 28 = .ok (.iload_n 2, 1) := by decide +kernel
theorem dX5_fit_29 : decode cX5_fit 29 = .ok (.iconst 4, 1) := by decide +kernel
theorem dX5_fit_30 : decode cX5_fit 30 = .ok (.if_icmp .ge 41, 3) := by decide +kernel
theorem dX5_fit_33 : decode cX5_fit 33 = .ok (.aload_n 0, 1) := by decide +kernel
theorem dX5_fit_34 : decode cX5_fit 34 = .ok (.aload_n 0, 1) := by decide +kernel
theorem dX5_fit_35 : decode cX5_fit 35 = .ok (.getfield 22, 3) := by decide +kernel
theorem dX5_fit_38 : decode cX5_fit 38 = .ok (.iload_n 1, 1) := by decide +kernel
theorem dX5_fit_39 : decode cX5_fit 39 = .ok (.iload_n 2, 1) := by decide +kernel
theorem dX5_fit_40 : decode cX5_fit 40 = .ok (.invokevirtual 181, 3) := by decide +kernel
theorem dX5_fit_43 : decode cX5_fit 43 = .ok (.ifCond .eq 22, 3) := by decide +kernel
theorem dX5_fit_46 : decode cX5_fit 46 = .ok (.aload_n 0, 1) := by decide +kernel
theorem dX5_fit_47 : decode cX5_fit 47 = .ok (.invokevirtual 209, 3) := by decide +kernel
theorem dX5_fit_50 : decode cX5_fit 50 = .ok (.aload_n 0, 1) := by decide +kernel
theorem dX5_fit_51 : decode cX5_fit 51 = .ok (.aload_n 0, 1) := by decide +kernel
theorem dX5_fit_52 : decode cX5_fit 52 = .ok (.getfield 25, 3) := by decide +kernel
theorem dX5_fit_55 : decode cX5_fit 55 = .ok (.iload_n 1, 1) := by decide +kernel
theorem dX5_fit_56 : decode cX5_fit 56 = .ok (.iload_n 2, 1) := by decide +kernel
theorem dX5_fit_57 : decode cX5_fit 57 = .ok (.invokevirtual 188, 3) := by decide +kernel
theorem dX5_fit_60 : decode cX5_fit 60 = .ok (.ifCond .ne 5, 3) := by decide +kernel
theorem dX5_fit_63 : decode cX5_fit 63 = .ok (.iload_n 2, 1) := by decide +kernel
theorem dX5_fit_64 : decode cX5_fit 64 = .ok (.ireturn, 1) := by decide +kernel
theorem dX5_fit_65 : decode cX5_fit 65 = .ok (.iinc 2 1, 3) := by decide +kernel
theorem dX5_fit_68 : decode cX5_fit 68 = .ok (.goto (-40), 3) := by decide +kernel
theorem dX5_fit_71 : decode cX5_fit 71 = .ok (.bipush (-9), 2) := by decide +kernel
theorem dX5_fit_73 : decode cX5_fit 73 = .ok (.ireturn, 1) := by decide +kernel
theorem dX5_longPower_0 : decode cX5_longPower 0 = .ok (.lconst 1, 1) := by decide +kernel
theorem dX5_longPower_1 : decode cX5_longPower 1 = .ok (.lstore_n 3, 1) := by decide +kernel
theorem dX5_longPower_2 : decode cX5_longPower 2 = .ok (.iconst 0, 1) := by decide +kernel
theorem dX5_longPower_3 : decode cX5_longPower 3 = .ok (.istore 5, 2) := by decide +kernel
theorem dX5_longPower_5 : decode cX5_longPower 5 = .ok (.iload 5, 2) := by decide +kernel
theorem dX5_longPower_7 : decode cX5_longPower 7 = .ok (.iload_n 2, 1) := by decide +kernel
theorem dX5_longPower_8 : decode cX5_longPower 8 = .ok (.if_icmp .ge 13, 3) := by decide +kernel
theorem dX5_longPower_11 : decode cX5_longPower 11 = .ok (.lload_n 3, 1) := by decide +kernel
theorem dX5_longPower_12 : decode cX5_longPower 12 = .ok (.lload_n 0, 1) := by decide +kernel
theorem dX5_longPower_13 : decode cX5_longPower 13 = .ok (.lmul, 1) := by decide +kernel
theorem dX5_longPower_14 : decode cX5_longPower 14 = .ok (.lstore_n 3, 1) := by decide +kernel
theorem dX5_longPower_15 : decode cX5_longPower 15 = .ok (.iinc 5 1, 3) := by decide +kernel
theorem dX5_longPower_18 : decode cX5_longPower 18 = .ok (.goto (-13), 3) := by decide +kernel
theorem dX5_longPower_21 : decode cX5_longPower 21 = .ok (.lload_n 3, 1) := by decide +kernel
theorem dX5_longPower_22 : decode cX5_longPower 22 = .ok (.lreturn, 1) := by decide +kernel
theorem dX5_puts_0 : decode cX5_puts 0 = .ok (.iload_n 1, 1) := by decide +kernel
theorem dX5_puts_1 : decode cX5_puts 1 = .ok (.invokestatic 135, 3) := by decide +kernel
theorem dX5_puts_4 : decode cX5_puts 4 = .ok (.ifCond .ne 27, 3) := by decide +kernel
theorem dX5_puts_7 : decode cX5_puts 7 = .ok (.iload_n 2, 1) := by decide +kernel
theorem dX5_puts_8 : decode cX5_puts 8 = .ok (.invokestatic 172, 3) := by decide +kernel
theorem dX5_puts_11 : decode cX5_puts 11 = .ok (.ifCond .ne 20, 3) := by decide +kernel
theorem dX5_puts_14 : decode cX5_puts 14 = .ok (.aload_n 0, 1) := by decide +kernel
theorem dX5_puts_15 : decode cX5_puts 15 = .ok (.aload_n 0, 1) := by decide +kernel
theorem dX5_puts_16 : decode cX5_puts 16 = .ok (.getfield 25, 3) := by decide +kernel
theorem dX5_puts_19 : decode cX5_puts 19 = .ok (.iload_n 1, 1) := by decide +kernel
theorem dX5_puts_20 : decode cX5_puts 20 = .ok (.iload_n 2, 1) := by decide +kernel
theorem dX5_puts_21 : decode cX5_puts 21 = .ok (.invokevirtual 181, 3) := by decide +kernel
theorem dX5_puts_24 : decode cX5_puts 24 = .ok (.ifCond .eq 7, 3) := by decide +kernel
theorem dX5_puts_27 : decode cX5_puts 27 = .ok (.iconst 1, 1) := by decide +kernel
theorem dX5_puts_28 : decode cX5_puts 28 = .ok (.goto 4, 3) := by decide +kernel
theorem dX5_puts_31 : decode cX5_puts 31 = .ok (.iconst 0, 1) := by decide +kernel
theorem dX5_puts_32 : decode cX5_puts 32 = .ok (.istore_n 3, 1) := by decide +kernel
theorem dX5_puts_33 : decode cX5_puts 33 = .ok (.iload_n 3, 1) := by decide +kernel
theorem dX5_puts_34 : decode cX5_puts 34 = .ok (.ifCond .eq 14, 3) := by decide +kernel
theorem dX5_puts_37 : decode cX5_puts 37 = .ok (.aload_n 0, 1) := by decide +kernel
theorem dX5_puts_38 : decode cX5_puts 38 = .ok (.aload_n 0, 1) := by decide +kernel
theorem dX5_puts_39 : decode cX5_puts 39 = .ok (.getfield 25, 3) := by decide +kernel
theorem dX5_puts_42 : decode cX5_puts 42 = .ok (.iload_n 1, 1) := by decide +kernel
theorem dX5_puts_43 : decode cX5_puts 43 = .ok (.iload_n 2, 1) := by decide +kernel
theorem dX5_puts_44 : decode cX5_puts 44 = .ok (.invokevirtual 188, 3) := by decide +kernel
theorem dX5_puts_47 : decode cX5_puts 47 = .ok (.pop, 1) := by decide +kernel
theorem dX5_puts_48 : decode cX5_puts 48 = .ok (.iload_n 3, 1) := by decide +kernel
theorem dX5_puts_49 : decode cX5_puts 49 = .ok (.ireturn, 1) := by decide +kernel
theorem dX5_takes_0 : decode cX5_takes 0 = .ok (.iload_n 1, 1) := by decide +kernel
theorem dX5_takes_1 : decode cX5_takes 1 = .ok (.invokestatic 135, 3) := by decide +kernel
theorem dX5_takes_4 : decode cX5_takes 4 = .ok (.ifCond .ne 27, 3) := by decide +kernel
theorem dX5_takes_7 : decode cX5_takes 7 = .ok (.aload_n 0, 1) := by decide +kernel
theorem dX5_takes_8 : decode cX5_takes 8 = .ok (.getfield 25, 3) := by decide +kernel
theorem dX5_takes_11 : decode cX5_takes 11 = .ok (.iload_n 1, 1) := by decide +kernel
theorem dX5_takes_12 : decode cX5_takes 12 = .ok (.iaload, 1) := by decide +kernel
theorem dX5_takes_13 : decode cX5_takes 13 = .ok (.ifCond .le 18, 3) := by decide +kernel
theorem dX5_takes_16 : decode cX5_takes 16 = .ok (.aload_n 0, 1) := by decide +kernel
theorem dX5_takes_17 : decode cX5_takes 17 = .ok (.getfield 25, 3) := by decide +kernel
theorem dX5_takes_20 : decode cX5_takes 20 = .ok (.iload_n 1, 1) := by decide +kernel
theorem dX5_takes_21 : decode cX5_takes 21 = .ok (.invokestatic 177, 3) := by decide +kernel
theorem dX5_takes_24 : decode cX5_takes 24 = .ok (.ifCond .eq 7, 3) := by decide +kernel
theorem dX5_takes_27 : decode cX5_takes 27 = .ok (.iconst 1, 1) := by decide +kernel
theorem dX5_takes_28 : decode cX5_takes 28 = .ok (.goto 4, 3) := by decide +kernel
theorem dX5_takes_31 : decode cX5_takes 31 = .ok (.iconst 0, 1) := by decide +kernel
theorem dX5_takes_32 : decode cX5_takes 32 = .ok (.istore_n 2, 1) := by decide +kernel
theorem dX5_takes_33 : decode cX5_takes 33 = .ok (.iload_n 2, 1) := by decide +kernel
theorem dX5_takes_34 : decode cX5_takes 34 = .ok (.ifCond .eq 10, 3) := by decide +kernel
theorem dX5_takes_37 : decode cX5_takes 37 = .ok (.aload_n 0, 1) := by decide +kernel
theorem dX5_takes_38 : decode cX5_takes 38 = .ok (.getfield 25, 3) := by decide +kernel
theorem dX5_takes_41 : decode cX5_takes 41 = .ok (.iload_n 1, 1) := by decide +kernel
theorem dX5_takes_42 : decode cX5_takes 42 = .ok (.iconst 0, 1) := by decide +kernel
theorem dX5_takes_43 : decode cX5_takes 43 = .ok (.iastore, 1) := by decide +kernel
theorem dX5_takes_44 : decode cX5_takes 44 = .ok (.iload_n 2, 1) := by decide +kernel
theorem dX5_takes_45 : decode cX5_takes 45 = .ok (.ireturn, 1) := by decide +kernel
theorem dX5_blows_0 : decode cX5_blows 0 = .ok (.iload_n 1, 1) := by decide +kernel
theorem dX5_blows_1 : decode cX5_blows 1 = .ok (.i2l, 1) := by decide +kernel
theorem dX5_blows_2 : decode cX5_blows 2 = .ok (.lconst 0, 1) := by decide +kernel
theorem dX5_blows_3 : decode cX5_blows 3 = .ok (.ldc2_w 69, 3) := by decide +kernel
theorem dX5_blows_6 : decode cX5_blows 6 = .ok (.invokestatic 65, 3) := by decide +kernel
theorem dX5_blows_9 : decode cX5_blows 9 = .ok (.ifCond .eq 11, 3) := by decide +kernel
theorem dX5_blows_12 : decode cX5_blows 12 = .ok (.iload_n 2, 1) := by decide +kernel
theorem dX5_blows_13 : decode cX5_blows 13 = .ok (.ifCond .le 7, 3) := by decide +kernel
theorem dX5_blows_16 : decode cX5_blows 16 = .ok (.iconst 1, 1) := by decide +kernel
theorem dX5_blows_17 : decode cX5_blows 17 = .ok (.goto 4, 3) := by decide +kernel
theorem dX5_blows_20 : decode cX5_blows 20 = .ok (.iconst 0, 1) := by decide +kernel
theorem dX5_blows_21 : decode cX5_blows 21 = .ok (.istore_n 3, 1) := by decide +kernel
theorem dX5_blows_22 : decode cX5_blows 22 = .ok (.iload_n 3, 1) := by decide +kernel
theorem dX5_blows_23 : decode cX5_blows 23 = .ok (.ifCond .eq 14, 3) := by decide +kernel
theorem dX5_blows_26 : decode cX5_blows 26 = .ok (.aload_n 0, 1) := by decide +kernel
theorem dX5_blows_27 : decode cX5_blows 27 = .ok (.aload_n 0, 1) := by decide +kernel
theorem dX5_blows_28 : decode cX5_blows 28 = .ok (.getfield 25, 3) := by decide +kernel
theorem dX5_blows_31 : decode cX5_blows 31 = .ok (.iload_n 1, 1) := by decide +kernel
theorem dX5_blows_32 : decode cX5_blows 32 = .ok (.iload_n 2, 1) := by decide +kernel
theorem dX5_blows_33 : decode cX5_blows 33 = .ok (.invokevirtual 203, 3) := by decide +kernel
theorem dX5_blows_36 : decode cX5_blows 36 = .ok (.pop, 1) := by decide +kernel
theorem dX5_blows_37 : decode cX5_blows 37 = .ok (.iload_n 3, 1) := by decide +kernel
theorem dX5_blows_38 : decode cX5_blows 38 = .ok (.ireturn, 1) := by decide +kernel
theorem dX5_does_0 : decode cX5_does 0 = .ok (.iload_n 1, 1) := by decide +kernel
theorem dX5_does_1 : decode cX5_does 1 = .ok (.sipush 1000, 3) := by decide +kernel
theorem dX5_does_4 : decode cX5_does 4 = .ok (.idiv, 1) := by decide +kernel
theorem dX5_does_5 : decode cX5_does 5 = .ok (.istore_n 2, 1) := by decide +kernel
theorem dX5_does_6 : decode cX5_does 6 = .ok (.iload_n 1, 1) := by decide +kernel
theorem dX5_does_7 : decode cX5_does 7 = .ok (.bipush 10, 2) := by decide +kernel
theorem dX5_does_9 : decode cX5_does 9 = .ok (.idiv, 1) := by decide +kernel
theorem dX5_does_10 : decode cX5_does 10 = .ok (.bipush 100, 2) := by decide +kernel
theorem dX5_does_12 : decode cX5_does 12 = .ok (.irem, 1) := by decide +kernel
theorem dX5_does_13 : decode cX5_does 13 = .ok (.istore_n 3, 1) := by decide +kernel
theorem dX5_does_14 : decode cX5_does 14 = .ok (.iload_n 1, 1) := by decide +kernel
theorem dX5_does_15 : decode cX5_does 15 = .ok (.bipush 10, 2) := by decide +kernel
theorem dX5_does_17 : decode cX5_does 17 = .ok (.irem, 1) := by decide +kernel
theorem dX5_does_18 : decode cX5_does 18 = .ok (.istore 4, 2) := by decide +kernel
theorem dX5_does_20 : decode cX5_does 20 = .ok (.iload_n 2, 1) := by decide +kernel
theorem dX5_does_21 : decode cX5_does 21 = .ok (.tableswitch 93 1 4 #[31, 39, 58, 66], 31) := by decide +kernel
theorem dX5_does_52 : decode cX5_does 52 = .ok (.aload_n 0, 1) := by decide +kernel
theorem dX5_does_53 : decode cX5_does 53 = .ok (.iload_n 3, 1) := by decide +kernel
theorem dX5_does_54 : decode cX5_does 54 = .ok (.iload 4, 2) := by decide +kernel
theorem dX5_does_56 : decode cX5_does 56 = .ok (.invokevirtual 212, 3) := by decide +kernel
theorem dX5_does_59 : decode cX5_does 59 = .ok (.ireturn, 1) := by decide +kernel
theorem dX5_does_60 : decode cX5_does 60 = .ok (.iload 4, 2) := by decide +kernel
theorem dX5_does_62 : decode cX5_does 62 = .ok (.ifCond .ne 15, 3) := by decide +kernel
theorem dX5_does_65 : decode cX5_does 65 = .ok (.aload_n 0, 1) := by decide +kernel
theorem dX5_does_66 : decode cX5_does 66 = .ok (.iload_n 3, 1) := by decide +kernel
theorem dX5_does_67 : decode cX5_does 67 = .ok (.invokevirtual 215, 3) := by decide +kernel
theorem dX5_does_70 : decode cX5_does 70 = .ok (.ifCond .eq 7, 3) := by decide +kernel
theorem dX5_does_73 : decode cX5_does 73 = .ok (.iconst 1, 1) := by decide +kernel
theorem dX5_does_74 : decode cX5_does 74 = .ok (.goto 4, 3) := by decide +kernel
theorem dX5_does_77 : decode cX5_does 77 = .ok (.iconst 0, 1) := by decide +kernel
theorem dX5_does_78 : decode cX5_does 78 = .ok (.ireturn, 1) := by decide +kernel
theorem dX5_does_79 : decode cX5_does 79 = .ok (.aload_n 0, 1) := by decide +kernel
theorem dX5_does_80 : decode cX5_does 80 = .ok (.iload_n 3, 1) := by decide +kernel
theorem dX5_does_81 : decode cX5_does 81 = .ok (.iload 4, 2) := by decide +kernel
theorem dX5_does_83 : decode cX5_does 83 = .ok (.invokevirtual 218, 3) := by decide +kernel
theorem dX5_does_86 : decode cX5_does 86 = .ok (.ireturn, 1) := by decide +kernel
theorem dX5_does_87 : decode cX5_does 87 = .ok (.iload 4, 2) := by decide +kernel
theorem dX5_does_89 : decode cX5_does 89 = .ok (.ifCond .ne 23, 3) := by decide +kernel
theorem dX5_does_92 : decode cX5_does 92 = .ok (.iload_n 3, 1) := by decide +kernel
theorem dX5_does_93 : decode cX5_does 93 = .ok (.invokestatic 135, 3) := by decide +kernel
theorem dX5_does_96 : decode cX5_does 96 = .ok (.ifCond .ne 16, 3) := by decide +kernel
theorem dX5_does_99 : decode cX5_does 99 = .ok (.aload_n 0, 1) := by decide +kernel
theorem dX5_does_100 : decode cX5_does 100 = .ok (.getfield 25, 3) := by decide +kernel
theorem dX5_does_103 : decode cX5_does 103 = .ok (.iload_n 3, 1) := by decide +kernel
theorem dX5_does_104 : decode cX5_does 104 = .ok (.iaload, 1) := by decide +kernel
theorem dX5_does_105 : decode cX5_does 105 = .ok (.ifCond .le 7, 3) := by decide +kernel
theorem dX5_does_108 : decode cX5_does 108 = .ok (.iconst 1, 1) := by decide +kernel
theorem dX5_does_109 : decode cX5_does 109 = .ok (.goto 4, 3) := by decide +kernel
theorem dX5_does_112 : decode cX5_does 112 = .ok (.iconst 0, 1) := by decide +kernel
theorem dX5_does_113 : decode cX5_does 113 = .ok (.ireturn, 1) := by decide +kernel
theorem dX5_does_114 : decode cX5_does 114 = .ok (.iload_n 2, 1) := by decide +kernel
theorem dX5_does_115 : decode cX5_does 115 = .ok (.iconst 5, 1) := by decide +kernel
theorem dX5_does_116 : decode cX5_does 116 = .ok (.if_icmp .ne 26, 3) := by decide +kernel
theorem dX5_does_119 : decode cX5_does 119 = .ok (.iload 4, 2) := by decide +kernel
theorem dX5_does_121 : decode cX5_does 121 = .ok (.ifCond .ne 21, 3) := by decide +kernel
theorem dX5_does_124 : decode cX5_does 124 = .ok (.aload_n 0, 1) := by decide +kernel
theorem dX5_does_125 : decode cX5_does 125 = .ok (.getfield 25, 3) := by decide +kernel
theorem dX5_does_128 : decode cX5_does 128 = .ok (.invokestatic 122, 3) := by decide +kernel
theorem dX5_does_131 : decode cX5_does 131 = .ok (.invokestatic 97, 3) := by decide +kernel
theorem dX5_does_134 : decode cX5_does 134 = .ok (.iload_n 3, 1) := by decide +kernel
theorem dX5_does_135 : decode cX5_does 135 = .ok (.if_icmp .lt 7, 3) := by decide +kernel
theorem dX5_does_138 : decode cX5_does 138 = .ok (.iconst 1, 1) := by decide +kernel
theorem dX5_does_139 : decode cX5_does 139 = .ok (.goto 4, 3) := by decide +kernel
theorem dX5_does_142 : decode cX5_does 142 = .ok (.iconst 0, 1) := by decide +kernel
theorem dX5_does_143 : decode cX5_does 143 = .ok (.ireturn, 1) := by decide +kernel
theorem dX5_judge_0 : decode cX5_judge 0 = .ok (.aload_n 0, 1) := by decide +kernel
theorem dX5_judge_1 : decode cX5_judge 1 = .ok (.iconst 0, 1) := by decide +kernel
theorem dX5_judge_2 : decode cX5_judge 2 = .ok (.putfield 59, 3) := by decide +kernel
theorem dX5_judge_5 : decode cX5_judge 5 = .ok (.iload_n 1, 1) := by decide +kernel
theorem dX5_judge_6 : decode cX5_judge 6 = .ok (.i2l, 1) := by decide +kernel
theorem dX5_judge_7 : decode cX5_judge 7 = .ok (.lconst 1, 1) := by decide +kernel
theorem dX5_judge_8 : decode cX5_judge 8 = .ok (.ldc2_w 175, 3) := by decide +kernel
theorem dX5_judge_11 : decode cX5_judge 11 = .ok (.invokestatic 65, 3) := by decide +kernel
theorem dX5_judge_14 : decode cX5_judge 14 = .ok (.ifCond .eq 20, 3) := by decide +kernel
theorem dX5_judge_17 : decode cX5_judge 17 = .ok (.lload_n 2, 1) := by decide +kernel
theorem dX5_judge_18 : decode cX5_judge 18 = .ok (.lconst 0, 1) := by decide +kernel
theorem dX5_judge_19 : decode cX5_judge 19 = .ok (.ldc2_w 221, 3) := by decide +kernel
theorem dX5_judge_22 : decode cX5_judge 22 = .ok (.iload_n 1, 1) := by decide +kernel
theorem dX5_judge_23 : decode cX5_judge 23 = .ok (.invokestatic 223, 3) := by decide +kernel
theorem dX5_judge_26 : decode cX5_judge 26 = .ok (.lconst 1, 1) := by decide +kernel
theorem dX5_judge_27 : decode cX5_judge 27 = .ok (.lsub, 1) := by decide +kernel
theorem dX5_judge_28 : decode cX5_judge 28 = .ok (.invokestatic 65, 3) := by decide +kernel
theorem dX5_judge_31 : decode cX5_judge 31 = .ok (.ifCond .ne 6, 3) := by decide +kernel
theorem dX5_judge_34 : decode cX5_judge 34 = .ok (.bipush (-2), 2) := by decide +kernel
theorem dX5_judge_36 : decode cX5_judge 36 = .ok (.ireturn, 1) := by decide +kernel
theorem dX5_judge_37 : decode cX5_judge 37 = .ok (.aload_n 0, 1) := by decide +kernel
theorem dX5_judge_38 : decode cX5_judge 38 = .ok (.invokevirtual 209, 3) := by decide +kernel
theorem dX5_judge_41 : decode cX5_judge 41 = .ok (.iconst 0, 1) := by decide +kernel
theorem dX5_judge_42 : decode cX5_judge 42 = .ok (.istore 4, 2) := by decide +kernel
theorem dX5_judge_44 : decode cX5_judge 44 = .ok (.iload 4, 2) := by decide +kernel
theorem dX5_judge_46 : decode cX5_judge 46 = .ok (.iload_n 1, 1) := by decide +kernel
theorem dX5_judge_47 : decode cX5_judge 47 = .ok (.if_icmp .ge 38, 3) := by decide +kernel
theorem dX5_judge_50 : decode cX5_judge 50 = .ok (.aload_n 0, 1) := by decide +kernel
theorem dX5_judge_51 : decode cX5_judge 51 = .ok (.lload_n 2, 1) := by decide +kernel
theorem dX5_judge_52 : decode cX5_judge 52 = .ok (.ldc2_w 221, 3) := by decide +kernel
theorem dX5_judge_55 : decode cX5_judge 55 = .ok (.iload_n 1, 1) := by decide +kernel
theorem dX5_judge_56 : decode cX5_judge 56 = .ok (.iconst 1, 1) := by decide +kernel
theorem dX5_judge_57 : decode cX5_judge 57 = .ok (.isub, 1) := by decide +kernel
theorem dX5_judge_58 : decode cX5_judge 58 = .ok (.iload 4, 2) := by decide +kernel
theorem dX5_judge_60 : decode cX5_judge 60 = .ok (.isub, 1) := by decide +kernel
theorem dX5_judge_61 : decode cX5_judge 61 = .ok (.invokestatic 223, 3) := by decide +kernel
theorem dX5_judge_64 : decode cX5_judge 64 = .ok (.ldiv, 1) := by decide +kernel
theorem dX5_judge_65 : decode cX5_judge 65 = .ok (.ldc2_w 221, 3) := by decide +kernel
theorem dX5_judge_68 : decode cX5_judge 68 = .ok (.lrem, 1) := by decide +kernel
theorem dX5_judge_69 : decode cX5_judge 69 = .ok (.l2i, 1) := by decide +kernel
theorem dX5_judge_70 : decode cX5_judge 70 = .ok (.invokevirtual 227, 3) := by decide +kernel
theorem dX5_judge_73 : decode cX5_judge 73 = .ok (.ifCond .ne 6, 3) := by decide +kernel
theorem dX5_judge_76 : decode cX5_judge 76 = .ok (.iload 4, 2) := by decide +kernel
theorem dX5_judge_78 : decode cX5_judge 78 = .ok (.ireturn, 1) := by decide +kernel
theorem dX5_judge_79 : decode cX5_judge 79 = .ok (.iinc 4 1, 3) := by decide +kernel
theorem dX5_judge_82 : decode cX5_judge 82 = .ok (.goto (-38), 3) := by decide +kernel
theorem dX5_judge_85 : decode cX5_judge 85 = .ok (.bipush (-9), 2) := by decide +kernel
theorem dX5_judge_87 : decode cX5_judge 87 = .ok (.ireturn, 1) := by decide +kernel
theorem dX5_ways_0 : decode cX5_ways 0 = .ok (.iconst 1, 1) := by decide +kernel
theorem dX5_ways_1 : decode cX5_ways 1 = .ok (.istore_n 1, 1) := by decide +kernel
theorem dX5_ways_2 : decode cX5_ways 2 = .ok (.iconst 2, 1) := by decide +kernel
theorem dX5_ways_3 : decode cX5_ways 3 = .ok (.istore_n 2, 1) := by decide +kernel
theorem dX5_ways_4 : decode cX5_ways 4 = .ok (.iload_n 2, 1) := by decide +kernel
theorem dX5_ways_5 : decode cX5_ways 5 = .ok (.iload_n 0, 1) := by decide +kernel
theorem dX5_ways_6 : decode cX5_ways 6 = .ok (.if_icmp .gt 13, 3) := by decide +kernel
theorem dX5_ways_9 : decode cX5_ways 9 = .ok (.iload_n 1, 1) := by decide +kernel
theorem dX5_ways_10 : decode cX5_ways 10 = .ok (.iload_n 2, 1) := by decide +kernel
theorem dX5_ways_11 : decode cX5_ways 11 = .ok (.imul, 1) := by decide +kernel
theorem dX5_ways_12 : decode cX5_ways 12 = .ok (.istore_n 1, 1) := by decide +kernel
theorem dX5_ways_13 : decode cX5_ways 13 = .ok (.iinc 2 1, 3) := by decide +kernel
theorem dX5_ways_16 : decode cX5_ways 16 = .ok (.goto (-12), 3) := by decide +kernel
theorem dX5_ways_19 : decode cX5_ways 19 = .ok (.iload_n 1, 1) := by decide +kernel
theorem dX5_ways_20 : decode cX5_ways 20 = .ok (.ireturn, 1) := by decide +kernel
theorem dX5_divisor_0 : decode cX5_divisor 0 = .ok (.iload_n 0, 1) := by decide +kernel
theorem dX5_divisor_1 : decode cX5_divisor 1 = .ok (.ifCond .ge 8, 3) := by decide +kernel
theorem dX5_divisor_4 : decode cX5_divisor 4 = .ok (.iload_n 0, 1) := by decide +kernel
theorem dX5_divisor_5 : decode cX5_divisor 5 = .ok (.ineg, 1) := by decide +kernel
theorem dX5_divisor_6 : decode cX5_divisor 6 = .ok (.goto 4, 3) := by decide +kernel
theorem dX5_divisor_9 : decode cX5_divisor 9 = .ok (.iload_n 0, 1) := by decide +kernel
theorem dX5_divisor_10 : decode cX5_divisor 10 = .ok (.istore_n 2, 1) := by decide +kernel
theorem dX5_divisor_11 : decode cX5_divisor 11 = .ok (.iload_n 1, 1) := by decide +kernel
theorem dX5_divisor_12 : decode cX5_divisor 12 = .ok (.istore_n 3, 1) := by decide +kernel
theorem dX5_divisor_13 : decode cX5_divisor 13 = .ok (.iload_n 3, 1) := by decide +kernel
theorem dX5_divisor_14 : decode cX5_divisor 14 = .ok (.ifCond .eq 16, 3) := by decide +kernel
theorem dX5_divisor_17 : decode cX5_divisor 17 = .ok (.iload_n 2, 1) := by decide +kernel
theorem dX5_divisor_18 : decode cX5_divisor 18 = .ok (.iload_n 3, 1) := by decide +kernel
theorem dX5_divisor_19 : decode cX5_divisor 19 = .ok (.irem, 1) := by decide +kernel
theorem dX5_divisor_20 : decode cX5_divisor 20 = .ok (.istore 4, 2) := by decide +kernel
theorem dX5_divisor_22 : decode cX5_divisor 22 = .ok (.iload_n 3, 1) := by decide +kernel
theorem dX5_divisor_23 : decode cX5_divisor 23 = .ok (.istore_n 2, 1) := by decide +kernel
theorem dX5_divisor_24 : decode cX5_divisor 24 = .ok (.iload 4, 2) := by decide +kernel
theorem dX5_divisor_26 : decode cX5_divisor 26 = .ok (.istore_n 3, 1) := by decide +kernel
theorem dX5_divisor_27 : decode cX5_divisor 27 = .ok (.goto (-14), 3) := by decide +kernel
theorem dX5_divisor_30 : decode cX5_divisor 30 = .ok (.iload_n 2, 1) := by decide +kernel
theorem dX5_divisor_31 : decode cX5_divisor 31 = .ok (.ireturn, 1) := by decide +kernel
theorem dX5_fraction_0 : decode cX5_fraction 0 = .ok (.iload_n 0, 1) := by decide +kernel
theorem dX5_fraction_1 : decode cX5_fraction 1 = .ok (.iload_n 1, 1) := by decide +kernel
theorem dX5_fraction_2 : decode cX5_fraction 2 = .ok (.invokestatic 230, 3) := by decide +kernel
theorem dX5_fraction_5 : decode cX5_fraction 5 = .ok (.istore_n 3, 1) := by decide +kernel
theorem dX5_fraction_6 : decode cX5_fraction 6 = .ok (.iload_n 2, 1) := by decide +kernel
theorem dX5_fraction_7 : decode cX5_fraction 7 = .ok (.ifCond .eq 9, 3) := by decide +kernel
theorem dX5_fraction_10 : decode cX5_fraction 10 = .ok (.iload_n 0, 1) := by decide +kernel
theorem dX5_fraction_11 : decode cX5_fraction 11 = .ok (.iload_n 3, 1) := by decide +kernel
theorem dX5_fraction_12 : decode cX5_fraction 12 = .ok (.idiv, 1) := by decide +kernel
theorem dX5_fraction_13 : decode cX5_fraction 13 = .ok (.goto 6, 3) := by decide +kernel
theorem dX5_fraction_16 : decode cX5_fraction 16 = .ok (.iload_n 1, 1) := by decide +kernel
theorem dX5_fraction_17 : decode cX5_fraction 17 = .ok (.iload_n 3, 1) := by decide +kernel
theorem dX5_fraction_18 : decode cX5_fraction 18 = .ok (.idiv, 1) := by decide +kernel
theorem dX5_fraction_19 : decode cX5_fraction 19 = .ok (.ireturn, 1) := by decide +kernel
theorem dX5_share_0 : decode cX5_share 0 = .ok (.aload_n 0, 1) := by decide +kernel
theorem dX5_share_1 : decode cX5_share 1 = .ok (.iconst 0, 1) := by decide +kernel
theorem dX5_share_2 : decode cX5_share 2 = .ok (.putfield 59, 3) := by decide +kernel
theorem dX5_share_5 : decode cX5_share 5 = .ok (.iload_n 1, 1) := by decide +kernel
theorem dX5_share_6 : decode cX5_share 6 = .ok (.i2l, 1) := by decide +kernel
theorem dX5_share_7 : decode cX5_share 7 = .ok (.lconst 0, 1) := by decide +kernel
theorem dX5_share_8 : decode cX5_share 8 = .ok (.ldc2_w 69, 3) := by decide +kernel
theorem dX5_share_11 : decode cX5_share 11 = .ok (.invokestatic 65, 3) := by decide +kernel
theorem dX5_share_14 : decode cX5_share 14 = .ok (.ifCond .ne 5, 3) := by decide +kernel
theorem dX5_share_17 : decode cX5_share 17 = .ok (.iconst (-1), 1) := by decide +kernel
theorem dX5_share_18 : decode cX5_share 18 = .ok (.ireturn, 1) := by decide +kernel
theorem dX5_share_19 : decode cX5_share 19 = .ok (.iconst 0, 1) := by decide +kernel
theorem dX5_share_20 : decode cX5_share 20 = .ok (.istore_n 3, 1) := by decide +kernel
theorem dX5_share_21 : decode cX5_share 21 = .ok (.iload_n 3, 1) := by decide +kernel
theorem dX5_share_22 : decode cX5_share 22 = .ok (.bipush 16, 2) := by decide +kernel
theorem dX5_share_24 : decode cX5_share 24 = .ok (.if_icmp .ge 45, 3) := by decide +kernel
theorem dX5_share_27 : decode cX5_share 27 = .ok (.aload_n 0, 1) := by decide +kernel
theorem dX5_share_28 : decode cX5_share 28 = .ok (.getfield 22, 3) := by decide +kernel
theorem dX5_share_31 : decode cX5_share 31 = .ok (.iload_n 3, 1) := by decide +kernel
theorem dX5_share_32 : decode cX5_share 32 = .ok (.iconst (-1), 1) := by decide +kernel
theorem dX5_share_33 : decode cX5_share 33 = .ok (.ixor, 1) := by decide +kernel
theorem dX5_share_34 : decode cX5_share 34 = .ok (.bipush 15, 2) := by decide +kernel
theorem dX5_share_36 : decode cX5_share 36 = .ok (.iand, 1) := by decide +kernel
theorem dX5_share_37 : decode cX5_share 37 = .ok (.invokestatic 94, 3) := by decide +kernel
theorem dX5_share_40 : decode cX5_share 40 = .ok (.istore 4, 2) := by decide +kernel
theorem dX5_share_42 : decode cX5_share 42 = .ok (.aload_n 0, 1) := by decide +kernel
theorem dX5_share_43 : decode cX5_share 43 = .ok (.getfield 56, 3) := by decide +kernel
theorem dX5_share_46 : decode cX5_share 46 = .ok (.iload_n 3, 1) := by decide +kernel
theorem dX5_share_47 : decode cX5_share 47 = .ok (.aload_n 0, 1) := by decide +kernel
theorem dX5_share_48 : decode cX5_share 48 = .ok (.getfield 22, 3) := by decide +kernel
theorem dX5_share_51 : decode cX5_share 51 = .ok (.invokestatic 122, 3) := by decide +kernel
theorem dX5_share_54 : decode cX5_share 54 = .ok (.iload 4, 2) := by decide +kernel
theorem dX5_share_56 : decode cX5_share 56 = .ok (.iconst (-1), 1) := by decide +kernel
theorem dX5_share_57 : decode cX5_share 57 = .ok (.ixor, 1) := by decide +kernel
theorem dX5_share_58 : decode cX5_share 58 = .ok (.iand, 1) := by decide +kernel
theorem dX5_share_59 : decode cX5_share 59 = .ok (.invokestatic 97, 3) := by decide +kernel
theorem dX5_share_62 : decode cX5_share 62 = .ok (.iastore, 1) := by decide +kernel
theorem dX5_share_63 : decode cX5_share 63 = .ok (.iinc 3 1, 3) := by decide +kernel
theorem dX5_share_66 : decode cX5_share 66 = .ok (.goto (-45), 3) := by decide +kernel
theorem dX5_share_69 : decode cX5_share 69 = .ok (.iconst 0, 1) := by decide +kernel
theorem dX5_share_70 : decode cX5_share 70 = .ok (.istore_n 3, 1) := by decide +kernel
theorem dX5_share_71 : decode cX5_share 71 = .ok (.iconst 0, 1) := by decide +kernel
theorem dX5_share_72 : decode cX5_share 72 = .ok (.istore 4, 2) := by decide +kernel
theorem dX5_share_74 : decode cX5_share 74 = .ok (.iload 4, 2) := by decide +kernel
theorem dX5_share_76 : decode cX5_share 76 = .ok (.bipush 16, 2) := by decide +kernel
theorem dX5_share_78 : decode cX5_share 78 = .ok (.if_icmp .ge 61, 3) := by decide +kernel
theorem dX5_share_81 : decode cX5_share 81 = .ok (.iload 4, 2) := by decide +kernel
theorem dX5_share_83 : decode cX5_share 83 = .ok (.iload_n 1, 1) := by decide +kernel
theorem dX5_share_84 : decode cX5_share 84 = .ok (.invokestatic 90, 3) := by decide +kernel
theorem dX5_share_87 : decode cX5_share 87 = .ok (.ifCond .ne 46, 3) := by decide +kernel
theorem dX5_share_90 : decode cX5_share 90 = .ok (.iload 4, 2) := by decide +kernel
theorem dX5_share_92 : decode cX5_share 92 = .ok (.invokestatic 97, 3) := by decide +kernel
theorem dX5_share_95 : decode cX5_share 95 = .ok (.istore 5, 2) := by decide +kernel
theorem dX5_share_97 : decode cX5_share 97 = .ok (.iload_n 3, 1) := by decide +kernel
theorem dX5_share_98 : decode cX5_share 98 = .ok (.iload 5, 2) := by decide +kernel
theorem dX5_share_100 : decode cX5_share 100 = .ok (.invokestatic 233, 3) := by decide +kernel
theorem dX5_share_103 : decode cX5_share 103 = .ok (.iconst 3, 1) := by decide +kernel
theorem dX5_share_104 : decode cX5_share 104 = .ok (.iload 5, 2) := by decide +kernel
theorem dX5_share_106 : decode cX5_share 106 = .ok (.isub, 1) := by decide +kernel
theorem dX5_share_107 : decode cX5_share 107 = .ok (.invokestatic 233, 3) := by decide +kernel
theorem dX5_share_110 : decode cX5_share 110 = .ok (.imul, 1) := by decide +kernel
theorem dX5_share_111 : decode cX5_share 111 = .ok (.aload_n 0, 1) := by decide +kernel
theorem dX5_share_112 : decode cX5_share 112 = .ok (.getfield 56, 3) := by decide +kernel
theorem dX5_share_115 : decode cX5_share 115 = .ok (.iload 4, 2) := by decide +kernel
theorem dX5_share_117 : decode cX5_share 117 = .ok (.iconst 1, 1) := by decide +kernel
theorem dX5_share_118 : decode cX5_share 118 = .ok (.iload_n 1, 1) := by decide +kernel
theorem dX5_share_119 : decode cX5_share 119 = .ok (.ishl, 1) := by decide +kernel
theorem dX5_share_120 : decode cX5_share 120 = .ok (.ior, 1) := by decide +kernel
theorem dX5_share_121 : decode cX5_share 121 = .ok (.iaload, 1) := by decide +kernel
theorem dX5_share_122 : decode cX5_share 122 = .ok (.aload_n 0, 1) := by decide +kernel
theorem dX5_share_123 : decode cX5_share 123 = .ok (.getfield 56, 3) := by decide +kernel
theorem dX5_share_126 : decode cX5_share 126 = .ok (.iload 4, 2) := by decide +kernel
theorem dX5_share_128 : decode cX5_share 128 = .ok (.iaload, 1) := by decide +kernel
theorem dX5_share_129 : decode cX5_share 129 = .ok (.isub, 1) := by decide +kernel
theorem dX5_share_130 : decode cX5_share 130 = .ok (.imul, 1) := by decide +kernel
theorem dX5_share_131 : decode cX5_share 131 = .ok (.iadd, 1) := by decide +kernel
theorem dX5_share_132 : decode cX5_share 132 = .ok (.istore_n 3, 1) := by decide +kernel
theorem dX5_share_133 : decode cX5_share 133 = .ok (.iinc 4 1, 3) := by decide +kernel
theorem dX5_share_136 : decode cX5_share 136 = .ok (.goto (-62), 3) := by decide +kernel
theorem dX5_share_139 : decode cX5_share 139 = .ok (.iload_n 3, 1) := by decide +kernel
theorem dX5_share_140 : decode cX5_share 140 = .ok (.iconst 4, 1) := by decide +kernel
theorem dX5_share_141 : decode cX5_share 141 = .ok (.invokestatic 233, 3) := by decide +kernel
theorem dX5_share_144 : decode cX5_share 144 = .ok (.iload_n 2, 1) := by decide +kernel
theorem dX5_share_145 : decode cX5_share 145 = .ok (.invokestatic 236, 3) := by decide +kernel
theorem dX5_share_148 : decode cX5_share 148 = .ok (.ireturn, 1) := by decide +kernel
theorem dX5_hold_0 : decode cX5_hold 0 = .ok (.aload_n 0, 1) := by decide +kernel
theorem dX5_hold_1 : decode cX5_hold 1 = .ok (.iconst 0, 1) := by decide +kernel
theorem dX5_hold_2 : decode cX5_hold 2 = .ok (.putfield 59, 3) := by decide +kernel
theorem dX5_hold_5 : decode cX5_hold 5 = .ok (.iload_n 1, 1) := by decide +kernel
theorem dX5_hold_6 : decode cX5_hold 6 = .ok (.i2l, 1) := by decide +kernel
theorem dX5_hold_7 : decode cX5_hold 7 = .ok (.lconst 0, 1) := by decide +kernel
theorem dX5_hold_8 : decode cX5_hold 8 = .ok (.lconst 1, 1) := by decide +kernel
theorem dX5_hold_9 : decode cX5_hold 9 = .ok (.invokestatic 65, 3) := by decide +kernel
theorem dX5_hold_12 : decode cX5_hold 12 = .ok (.ifCond .eq 38, 3) := by decide +kernel
theorem dX5_hold_15 : decode cX5_hold 15 = .ok (.iload_n 2, 1) := by decide +kernel
theorem dX5_hold_16 : decode cX5_hold 16 = .ok (.i2l, 1) := by decide +kernel
theorem dX5_hold_17 : decode cX5_hold 17 = .ok (.lconst 1, 1) := by decide +kernel
theorem dX5_hold_18 : decode cX5_hold 18 = .ok (.ldc2_w 201, 3) := by decide +kernel
theorem dX5_hold_21 : decode cX5_hold 21 = .ok (.invokestatic 65, 3) := by decide +kernel
theorem dX5_hold_24 : decode cX5_hold 24 = .ok (.ifCond .eq 26, 3) := by decide +kernel
theorem dX5_hold_27 : decode cX5_hold 27 = .ok (.iload_n 3, 1) := by decide +kernel
theorem dX5_hold_28 : decode cX5_hold 28 = .ok (.i2l, 1) := by decide +kernel
theorem dX5_hold_29 : decode cX5_hold 29 = .ok (.lconst 0, 1) := by decide +kernel
theorem dX5_hold_30 : decode cX5_hold 30 = .ok (.ldc2_w 201, 3) := by decide +kernel
theorem dX5_hold_33 : decode cX5_hold 33 = .ok (.invokestatic 65, 3) := by decide +kernel
theorem dX5_hold_36 : decode cX5_hold 36 = .ok (.ifCond .eq 14, 3) := by decide +kernel
theorem dX5_hold_39 : decode cX5_hold 39 = .ok (.iload 4, 2) := by decide +kernel
theorem dX5_hold_41 : decode cX5_hold 41 = .ok (.i2l, 1) := by decide +kernel
theorem dX5_hold_42 : decode cX5_hold 42 = .ok (.lconst 0, 1) := by decide +kernel
theorem dX5_hold_43 : decode cX5_hold 43 = .ok (.lconst 1, 1) := by decide +kernel
theorem dX5_hold_44 : decode cX5_hold 44 = .ok (.invokestatic 65, 3) := by decide +kernel
theorem dX5_hold_47 : decode cX5_hold 47 = .ok (.ifCond .ne 6, 3) := by decide +kernel
theorem dX5_hold_50 : decode cX5_hold 50 = .ok (.bipush (-2), 2) := by decide +kernel
theorem dX5_hold_52 : decode cX5_hold 52 = .ok (.ireturn, 1) := by decide +kernel
theorem dX5_hold_53 : decode cX5_hold 53 = .ok (.aload_n 0, 1) := by decide +kernel
theorem dX5_hold_54 : decode cX5_hold 54 = .ok (.getfield 169, 3) := by decide +kernel
theorem dX5_hold_57 : decode cX5_hold 57 = .ok (.bipush 6, 2) := by decide +kernel
theorem dX5_hold_59 : decode cX5_hold 59 = .ok (.if_icmp .ne 6, 3) := by decide +kernel
theorem dX5_hold_62 : decode cX5_hold 62 = .ok (.bipush (-4), 2) := by decide +kernel
theorem dX5_hold_64 : decode cX5_hold 64 = .ok (.ireturn, 1) := by decide +kernel
theorem dX5_hold_65 : decode cX5_hold 65 = .ok (.aload_n 0, 1) := by decide +kernel
theorem dX5_hold_66 : decode cX5_hold 66 = .ok (.getfield 41, 3) := by decide +kernel
theorem dX5_hold_69 : decode cX5_hold 69 = .ok (.aload_n 0, 1) := by decide +kernel
theorem dX5_hold_70 : decode cX5_hold 70 = .ok (.getfield 169, 3) := by decide +kernel
theorem dX5_hold_73 : decode cX5_hold 73 = .ok (.iload_n 1, 1) := by decide +kernel
theorem dX5_hold_74 : decode cX5_hold 74 = .ok (.iastore, 1) := by decide +kernel
theorem dX5_hold_75 : decode cX5_hold 75 = .ok (.aload_n 0, 1) := by decide +kernel
theorem dX5_hold_76 : decode cX5_hold 76 = .ok (.getfield 44, 3) := by decide +kernel
theorem dX5_hold_79 : decode cX5_hold 79 = .ok (.aload_n 0, 1) := by decide +kernel
theorem dX5_hold_80 : decode cX5_hold 80 = .ok (.getfield 169, 3) := by decide +kernel
theorem dX5_hold_83 : decode cX5_hold 83 = .ok (.iload_n 2, 1) := by decide +kernel
theorem dX5_hold_84 : decode cX5_hold 84 = .ok (.iastore, 1) := by decide +kernel
theorem dX5_hold_85 : decode cX5_hold 85 = .ok (.aload_n 0, 1) := by decide +kernel
theorem dX5_hold_86 : decode cX5_hold 86 = .ok (.getfield 47, 3) := by decide +kernel
theorem dX5_hold_89 : decode cX5_hold 89 = .ok (.aload_n 0, 1) := by decide +kernel
theorem dX5_hold_90 : decode cX5_hold 90 = .ok (.getfield 169, 3) := by decide +kernel
theorem dX5_hold_93 : decode cX5_hold 93 = .ok (.iload_n 3, 1) := by decide +kernel
theorem dX5_hold_94 : decode cX5_hold 94 = .ok (.iastore, 1) := by decide +kernel
theorem dX5_hold_95 : decode cX5_hold 95 = .ok (.aload_n 0, 1) := by decide +kernel
theorem dX5_hold_96 : decode cX5_hold 96 = .ok (.getfield 50, 3) := by decide +kernel
theorem dX5_hold_99 : decode cX5_hold 99 = .ok (.aload_n 0, 1) := by decide +kernel
theorem dX5_hold_100 : decode cX5_hold 100 = .ok (.getfield 169, 3) := by decide +kernel
theorem dX5_hold_103 : decode cX5_hold 103 = .ok (.iload 4, 2) := by decide +kernel
theorem dX5_hold_105 : decode cX5_hold 105 = .ok (.iastore, 1) := by decide +kernel
theorem dX5_hold_106 : decode cX5_hold 106 = .ok (.aload_n 0, 1) := by decide +kernel
theorem dX5_hold_107 : decode cX5_hold 107 = .ok (.dup, 1) := by decide +kernel
theorem dX5_hold_108 : decode cX5_hold 108 = .ok (.getfield 169, 3) := by decide +kernel
theorem dX5_hold_111 : decode cX5_hold 111 = .ok (.iconst 1, 1) := by decide +kernel
theorem dX5_hold_112 : decode cX5_hold 112 = .ok (.iadd, 1) := by decide +kernel
theorem dX5_hold_113 : decode cX5_hold 113 = .ok (.putfield 169, 3) := by decide +kernel
theorem dX5_hold_116 : decode cX5_hold 116 = .ok (.aload_n 0, 1) := by decide +kernel
theorem dX5_hold_117 : decode cX5_hold 117 = .ok (.getfield 169, 3) := by decide +kernel
theorem dX5_hold_120 : decode cX5_hold 120 = .ok (.ireturn, 1) := by decide +kernel
theorem dX5_unhold_0 : decode cX5_unhold 0 = .ok (.aload_n 0, 1) := by decide +kernel
theorem dX5_unhold_1 : decode cX5_unhold 1 = .ok (.iconst 0, 1) := by decide +kernel
theorem dX5_unhold_2 : decode cX5_unhold 2 = .ok (.putfield 59, 3) := by decide +kernel
theorem dX5_unhold_5 : decode cX5_unhold 5 = .ok (.aload_n 0, 1) := by decide +kernel
theorem dX5_unhold_6 : decode cX5_unhold 6 = .ok (.getfield 169, 3) := by decide +kernel
theorem dX5_unhold_9 : decode cX5_unhold 9 = .ok (.istore_n 1, 1) := by decide +kernel
theorem dX5_unhold_10 : decode cX5_unhold 10 = .ok (.aload_n 0, 1) := by decide +kernel
theorem dX5_unhold_11 : decode cX5_unhold 11 = .ok (.iconst 0, 1) := by decide +kernel
theorem dX5_unhold_12 : decode cX5_unhold 12 = .ok (.putfield 169, 3) := by decide +kernel
theorem dX5_unhold_15 : decode cX5_unhold 15 = .ok (.iload_n 1, 1) := by decide +kernel
theorem dX5_unhold_16 : decode cX5_unhold 16 = .ok (.ireturn, 1) := by decide +kernel
theorem dX5_tents_0 : decode cX5_tents 0 = .ok (.aload_n 0, 1) := by decide +kernel
theorem dX5_tents_1 : decode cX5_tents 1 = .ok (.iconst 0, 1) := by decide +kernel
theorem dX5_tents_2 : decode cX5_tents 2 = .ok (.putfield 59, 3) := by decide +kernel
theorem dX5_tents_5 : decode cX5_tents 5 = .ok (.iload_n 1, 1) := by decide +kernel
theorem dX5_tents_6 : decode cX5_tents 6 = .ok (.i2l, 1) := by decide +kernel
theorem dX5_tents_7 : decode cX5_tents 7 = .ok (.lconst 0, 1) := by decide +kernel
theorem dX5_tents_8 : decode cX5_tents 8 = .ok (.lconst 1, 1) := by decide +kernel
theorem dX5_tents_9 : decode cX5_tents 9 = .ok (.invokestatic 65, 3) := by decide +kernel
theorem dX5_tents_12 : decode cX5_tents 12 = .ok (.ifCond .ne 6, 3) := by decide +kernel
theorem dX5_tents_15 : decode cX5_tents 15 = .ok (.bipush (-2), 2) := by decide +kernel
theorem dX5_tents_17 : decode cX5_tents 17 = .ok (.ireturn, 1) := by decide +kernel
theorem dX5_tents_18 : decode cX5_tents 18 = .ok (.aload_n 0, 1) := by decide +kernel
theorem dX5_tents_19 : decode cX5_tents 19 = .ok (.iconst 0, 1) := by decide +kernel
theorem dX5_tents_20 : decode cX5_tents 20 = .ok (.putfield 240, 3) := by decide +kernel
theorem dX5_tents_23 : decode cX5_tents 23 = .ok (.aload_n 0, 1) := by decide +kernel
theorem dX5_tents_24 : decode cX5_tents 24 = .ok (.bipush (-9), 2) := by decide +kernel
theorem dX5_tents_26 : decode cX5_tents 26 = .ok (.putfield 243, 3) := by decide +kernel
theorem dX5_tents_29 : decode cX5_tents 29 = .ok (.iconst 0, 1) := by decide +kernel
theorem dX5_tents_30 : decode cX5_tents 30 = .ok (.istore_n 2, 1) := by decide +kernel
theorem dX5_tents_31 : decode cX5_tents 31 = .ok (.iload_n 2, 1) := by decide +kernel
theorem dX5_tents_32 : decode cX5_tents 32 = .ok (.bipush 16, 2) := by decide +kernel
theorem dX5_tents_34 : decode cX5_tents 34 = .ok (.if_icmp .ge 174, 3) := by decide +kernel
theorem dX5_tents_37 : decode cX5_tents 37 = .ok (.iconst 1, 1) := by decide +kernel
