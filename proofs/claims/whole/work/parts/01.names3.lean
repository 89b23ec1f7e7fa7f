theorem dX0_init_0 : decode cX0_init 0 = .ok (.aload_n 0, 1) := by decide +kernel
theorem dX0_init_1 : decode cX0_init 1 = .ok (.invokespecial 3, 3) := by decide +kernel
theorem dX0_init_4 : decode cX0_init 4 = .ok (.aload_n 0, 1) := by decide +kernel
theorem dX0_init_5 : decode cX0_init 5 = .ok (.bipush 25, 2) := by decide +kernel
theorem dX0_init_7 : decode cX0_init 7 = .ok (.newarray .int, 2) := by decide +kernel
theorem dX0_init_9 : decode cX0_init 9 = .ok (.putfield 9, 3) := by decide +kernel
theorem dX0_init_12 : decode cX0_init 12 = .ok (.aload_n 0, 1) := by decide +kernel
theorem dX0_init_13 : decode cX0_init 13 = .ok (.bipush 25, 2) := by decide +kernel
theorem dX0_init_15 : decode cX0_init 15 = .ok (.newarray .int, 2) := by decide +kernel
theorem dX0_init_17 : decode cX0_init 17 = .ok (.putfield 15, 3) := by decide +kernel
theorem dX0_init_20 : decode cX0_init 20 = .ok (.return_, 1) := by decide +kernel
theorem dX0_note_0 : decode cX0_note 0 = .ok (.iconst 5, 1) := by decide +kernel
theorem dX0_note_1 : decode cX0_note 1 = .ok (.iload_n 1, 1) := by decide +kernel
theorem dX0_note_2 : decode cX0_note 2 = .ok (.imul, 1) := by decide +kernel
theorem dX0_note_3 : decode cX0_note 3 = .ok (.iload_n 2, 1) := by decide +kernel
theorem dX0_note_4 : decode cX0_note 4 = .ok (.iadd, 1) := by decide +kernel
theorem dX0_note_5 : decode cX0_note 5 = .ok (.istore 5, 2) := by decide +kernel
theorem dX0_note_7 : decode cX0_note 7 = .ok (.iload 5, 2) := by decide +kernel
theorem dX0_note_9 : decode cX0_note 9 = .ok (.ifCond .lt 10, 3) := by decide +kernel
theorem dX0_note_12 : decode cX0_note 12 = .ok (.iload 5, 2) := by decide +kernel
theorem dX0_note_14 : decode cX0_note 14 = .ok (.bipush 25, 2) := by decide +kernel
theorem dX0_note_16 : decode cX0_note 16 = .ok (.if_icmp .lt 4, 3) := by decide +kernel
theorem dX0_note_19 : decode cX0_note 19 = .ok (.return_, 1) := by decide +kernel
theorem dX0_note_20 : decode cX0_note 20 = .ok (.aload_n 0, 1) := by decide +kernel
theorem dX0_note_21 : decode cX0_note 21 = .ok (.getfield 9, 3) := by decide +kernel
theorem dX0_note_24 : decode cX0_note 24 = .ok (.iload 5, 2) := by decide +kernel
theorem dX0_note_26 : decode cX0_note 26 = .ok (.iload_n 3, 1) := by decide +kernel
theorem dX0_note_27 : decode cX0_note 27 = .ok (.iastore, 1) := by decide +kernel
theorem dX0_note_28 : decode cX0_note 28 = .ok (.aload_n 0, 1) := by decide +kernel
theorem dX0_note_29 : decode cX0_note 29 = .ok (.getfield 15, 3) := by decide +kernel
theorem dX0_note_32 : decode cX0_note 32 = .ok (.iload 5, 2) := by decide +kernel
theorem dX0_note_34 : decode cX0_note 34 = .ok (.iload 4, 2) := by decide +kernel
theorem dX0_note_36 : decode cX0_note 36 = .ok (.iastore, 1) := by decide +kernel
theorem dX0_note_37 : decode cX0_note 37 = .ok (.return_, 1) := by decide +kernel
theorem dX0_countAtRest_0 : decode cX0_countAtRest 0 = .ok (.iconst 0, 1) := by decide +kernel
theorem dX0_countAtRest_1 : decode cX0_countAtRest 1 = .ok (.istore_n 1, 1) := by decide +kernel
theorem dX0_countAtRest_2 : decode cX0_countAtRest 2 = .ok (.iconst 0, 1) := by decide +kernel
theorem dX0_countAtRest_3 : decode cX0_countAtRest 3 = .ok (.istore_n 2, 1) := by decide +kernel
theorem dX0_countAtRest_4 : decode cX0_countAtRest 4 = .ok (.iload_n 2, 1) := by decide +kernel
theorem dX0_countAtRest_5 : decode cX0_countAtRest 5 = .ok (.bipush 25, 2) := by decide +kernel
theorem dX0_countAtRest_7 : decode cX0_countAtRest 7 = .ok (.if_icmp .ge 20, 3) := by decide +kernel
theorem dX0_countAtRest_10 : decode cX0_countAtRest 10 = .ok (.aload_n 0, 1) := by decide +kernel
theorem dX0_countAtRest_11 : decode cX0_countAtRest 11 = .ok (.iload_n 2, 1) := by decide +kernel
theorem dX0_countAtRest_12 : decode cX0_countAtRest 12 = .ok (.invokevirtual 18, 3) := by decide +kernel
theorem dX0_countAtRest_15 : decode cX0_countAtRest 15 = .ok (.ifCond .eq 6, 3) := by decide +kernel
theorem dX0_countAtRest_18 : decode cX0_countAtRest 18 = .ok (.iinc 1 1, 3) := by decide +kernel
theorem dX0_countAtRest_21 : decode cX0_countAtRest 21 = .ok (.iinc 2 1, 3) := by decide +kernel
theorem dX0_countAtRest_24 : decode cX0_countAtRest 24 = .ok (.goto (-20), 3) := by decide +kernel
theorem dX0_countAtRest_27 : decode cX0_countAtRest 27 = .ok (.iload_n 1, 1) := by decide +kernel
theorem dX0_countAtRest_28 : decode cX0_countAtRest 28 = .ok (.ireturn, 1) := by decide +kernel
theorem dX0_firstAtRest_0 : decode cX0_firstAtRest 0 = .ok (.iconst 0, 1) := by decide +kernel
theorem dX0_firstAtRest_1 : decode cX0_firstAtRest 1 = .ok (.istore_n 1, 1) := by decide +kernel
theorem dX0_firstAtRest_2 : decode cX0_firstAtRest 2 = .ok (.iload_n 1, 1) := by decide +kernel
theorem dX0_firstAtRest_3 : decode cX0_firstAtRest 3 = .ok (.bipush 25, 2) := by decide +kernel
theorem dX0_firstAtRest_5 : decode cX0_firstAtRest 5 = .ok (.if_icmp .ge 28, 3) := by decide +kernel
theorem dX0_firstAtRest_8 : decode cX0_firstAtRest 8 = .ok (.aload_n 0, 1) := by decide +kernel
theorem dX0_firstAtRest_9 : decode cX0_firstAtRest 9 = .ok (.iload_n 1, 1) := by decide +kernel
theorem dX0_firstAtRest_10 : decode cX0_firstAtRest 10 = .ok (.invokevirtual 18, 3) := by decide +kernel
theorem dX0_firstAtRest_13 : decode cX0_firstAtRest 13 = .ok (.ifCond .eq 14, 3) := by decide +kernel
theorem dX0_firstAtRest_16 : decode cX0_firstAtRest 16 = .ok (.bipush 10, 2) := by decide +kernel
theorem dX0_firstAtRest_18 : decode cX0_firstAtRest 18 = .ok (.iload_n 1, 1) := by decide +kernel
theorem dX0_firstAtRest_19 : decode cX0_firstAtRest 19 = .ok (.iconst 5, 1) := by decide +kernel
theorem dX0_firstAtRest_20 : decode cX0_firstAtRest 20 = .ok (.idiv, 1) := by decide +kernel
theorem dX0_firstAtRest_21 : decode cX0_firstAtRest 21 = .ok (.imul, 1) := by decide +kernel
theorem dX0_firstAtRest_22 : decode cX0_firstAtRest 22 = .ok (.iload_n 1, 1) := by decide +kernel
theorem dX0_firstAtRest_23 : decode cX0_firstAtRest 23 = .ok (.iconst 5, 1) := by decide +kernel
theorem dX0_firstAtRest_24 : decode cX0_firstAtRest 24 = .ok (.irem, 1) := by decide +kernel
theorem dX0_firstAtRest_25 : decode cX0_firstAtRest 25 = .ok (.iadd, 1) := by decide +kernel
theorem dX0_firstAtRest_26 : decode cX0_firstAtRest 26 = .ok (.ireturn, 1) := by decide +kernel
theorem dX0_firstAtRest_27 : decode cX0_firstAtRest 27 = .ok (.iinc 1 1, 3) := by decide +kernel
theorem dX0_firstAtRest_30 : decode cX0_firstAtRest 30 = .ok (.goto (-28), 3) := by decide +kernel
theorem dX0_firstAtRest_33 : decode cX0_firstAtRest 33 = .ok (.bipush (-9), 2) := by decide +kernel
theorem dX0_firstAtRest_35 : decode cX0_firstAtRest 35 = .ok (.ireturn, 1) := by decide +kernel
theorem dX0_isAtRest_0 : decode cX0_isAtRest 0 = .ok (.iload_n 1, 1) := by decide +kernel
theorem dX0_isAtRest_1 : decode cX0_isAtRest 1 = .ok (.iconst 5, 1) := by decide +kernel
theorem dX0_isAtRest_2 : decode cX0_isAtRest 2 = .ok (.idiv, 1) := by decide +kernel
theorem dX0_isAtRest_3 : decode cX0_isAtRest 3 = .ok (.istore_n 2, 1) := by decide +kernel
theorem dX0_isAtRest_4 : decode cX0_isAtRest 4 = .ok (.iload_n 1, 1) := by decide +kernel
theorem dX0_isAtRest_5 : decode cX0_isAtRest 5 = .ok (.iconst 5, 1) := by decide +kernel
theorem dX0_isAtRest_6 : decode cX0_isAtRest 6 = .ok (.irem, 1) := by decide +kernel
theorem dX0_isAtRest_7 : decode cX0_isAtRest 7 = .ok (.istore_n 3, 1) := by decide +kernel
theorem dX0_isAtRest_8 : decode cX0_isAtRest 8 = .ok (.iconst 0, 1) := by decide +kernel
theorem dX0_isAtRest_9 : decode cX0_isAtRest 9 = .ok (.istore 4, 2) := by decide +kernel
theorem dX0_isAtRest_11 : decode cX0_isAtRest 11 = .ok (.iload 4, 2) := by decide +kernel
theorem dX0_isAtRest_13 : decode cX0_isAtRest 13 = .ok (.iconst 5, 1) := by decide +kernel
theorem dX0_isAtRest_14 : decode cX0_isAtRest 14 = .ok (.if_icmp .ge 53, 3) := by decide +kernel
theorem dX0_isAtRest_17 : decode cX0_isAtRest 17 = .ok (.aload_n 0, 1) := by decide +kernel
theorem dX0_isAtRest_18 : decode cX0_isAtRest 18 = .ok (.getfield 9, 3) := by decide +kernel
theorem dX0_isAtRest_21 : decode cX0_isAtRest 21 = .ok (.iconst 5, 1) := by decide +kernel
theorem dX0_isAtRest_22 : decode cX0_isAtRest 22 = .ok (.iload 4, 2) := by decide +kernel
theorem dX0_isAtRest_24 : decode cX0_isAtRest 24 = .ok (.imul, 1) := by decide +kernel
theorem dX0_isAtRest_25 : decode cX0_isAtRest 25 = .ok (.iload_n 3, 1) := by decide +kernel
theorem dX0_isAtRest_26 : decode cX0_isAtRest 26 = .ok (.iadd, 1) := by decide +kernel
theorem dX0_isAtRest_27 : decode cX0_isAtRest 27 = .ok (.iaload, 1) := by decide +kernel
theorem dX0_isAtRest_28 : decode cX0_isAtRest 28 = .ok (.aload_n 0, 1) := by decide +kernel
theorem dX0_isAtRest_29 : decode cX0_isAtRest 29 = .ok (.getfield 9, 3) := by decide +kernel
theorem dX0_isAtRest_32 : decode cX0_isAtRest 32 = .ok (.iload_n 1, 1) := by decide +kernel
theorem dX0_isAtRest_33 : decode cX0_isAtRest 33 = .ok (.iaload, 1) := by decide +kernel
theorem dX0_isAtRest_34 : decode cX0_isAtRest 34 = .ok (.if_icmp .le 5, 3) := by decide +kernel
theorem dX0_isAtRest_37 : decode cX0_isAtRest 37 = .ok (.iconst 0, 1) := by decide +kernel
theorem dX0_isAtRest_38 : decode cX0_isAtRest 38 = .ok (.ireturn, 1) := by decide +kernel
theorem dX0_isAtRest_39 : decode cX0_isAtRest 39 = .ok (.aload_n 0, 1) := by decide +kernel
theorem dX0_isAtRest_40 : decode cX0_isAtRest 40 = .ok (.getfield 15, 3) := by decide +kernel
theorem dX0_isAtRest_43 : decode cX0_isAtRest 43 = .ok (.iconst 5, 1) := by decide +kernel
theorem dX0_isAtRest_44 : decode cX0_isAtRest 44 = .ok (.iload_n 2, 1) := by decide +kernel
theorem dX0_isAtRest_45 : decode cX0_isAtRest 45 = .ok (.imul, 1) := by decide +kernel
theorem dX0_isAtRest_46 : decode cX0_isAtRest 46 = .ok (.iload 4, 2) := by decide +kernel
theorem dX0_isAtRest_48 : decode cX0_isAtRest 48 = .ok (.iadd, 1) := by decide +kernel
theorem dX0_isAtRest_49 : decode cX0_isAtRest 49 = .ok (.iaload, 1) := by decide +kernel
theorem dX0_isAtRest_50 : decode cX0_isAtRest 50 = .ok (.aload_n 0, 1) := by decide +kernel
theorem dX0_isAtRest_51 : decode cX0_isAtRest 51 = .ok (.getfield 15, 3) := by decide +kernel
theorem dX0_isAtRest_54 : decode cX0_isAtRest 54 = .ok (.iload_n 1, 1) := by decide +kernel
theorem dX0_isAtRest_55 : decode cX0_isAtRest 55 = .ok (.iaload, 1) := by decide +kernel
theorem dX0_isAtRest_56 : decode cX0_isAtRest 56 = .ok (.if_icmp .le 5, 3) := by decide +kernel
theorem dX0_isAtRest_59 : decode cX0_isAtRest 59 = .ok (.iconst 0, 1) := by decide +kernel
theorem dX0_isAtRest_60 : decode cX0_isAtRest 60 = .ok (.ireturn, 1) := by decide +kernel
theorem dX0_isAtRest_61 : decode cX0_isAtRest 61 = .ok (.iinc 4 1, 3) := by decide +kernel
theorem dX0_isAtRest_64 : decode cX0_isAtRest 64 = .ok (.goto (-53), 3) := by decide +kernel
theorem dX0_isAtRest_67 : decode cX0_isAtRest 67 = .ok (.iconst 1, 1) := by decide +kernel
theorem dX0_isAtRest_68 : decode cX0_isAtRest 68 = .ok (.ireturn, 1) := by decide +kernel
theorem dX1_init_0 : decode cX1_init 0 = .ok (.aload_n 0, 1) := by decide +kernel
theorem dX1_init_1 : decode cX1_init 1 = .ok (.invokespecial 3, 3) := by decide +kernel
theorem dX1_init_4 : decode cX1_init 4 = .ok (.aload_n 0, 1) := by decide +kernel
theorem dX1_init_5 : decode cX1_init 5 = .ok (.iconst 4, 1) := by decide +kernel
theorem dX1_init_6 : decode cX1_init 6 = .ok (.newarray .int, 2) := by decide +kernel
theorem dX1_init_8 : decode cX1_init 8 = .ok (.putfield 9, 3) := by decide +kernel
theorem dX1_init_11 : decode cX1_init 11 = .ok (.aload_n 0, 1) := by decide +kernel
theorem dX1_init_12 : decode cX1_init 12 = .ok (.bipush 16, 2) := by decide +kernel
theorem dX1_init_14 : decode cX1_init 14 = .ok (.newarray .int, 2) := by decide +kernel
theorem dX1_init_16 : decode cX1_init 16 = .ok (.putfield 15, 3) := by decide +kernel
theorem dX1_init_19 : decode cX1_init 19 = .ok (.return_, 1) := by decide +kernel
theorem dX1_clear_0 : decode cX1_clear 0 = .ok (.aload_n 0, 1) := by decide +kernel
theorem dX1_clear_1 : decode cX1_clear 1 = .ok (.iconst 0, 1) := by decide +kernel
theorem dX1_clear_2 : decode cX1_clear 2 = .ok (.putfield 18, 3) := by decide +kernel
theorem dX1_clear_5 : decode cX1_clear 5 = .ok (.aload_n 0, 1) := by decide +kernel
theorem dX1_clear_6 : decode cX1_clear 6 = .ok (.iconst 0, 1) := by decide +kernel
theorem dX1_clear_7 : decode cX1_clear 7 = .ok (.putfield 22, 3) := by decide +kernel
theorem dX1_clear_10 : decode cX1_clear 10 = .ok (.aload_n 0, 1) := by decide +kernel
theorem dX1_clear_11 : decode cX1_clear 11 = .ok (.iconst 0, 1) := by decide +kernel
theorem dX1_clear_12 : decode cX1_clear 12 = .ok (.putfield 25, 3) := by decide +kernel
theorem dX1_clear_15 : decode cX1_clear 15 = .ok (.iconst 0, 1) := by decide +kernel
theorem dX1_clear_16 : decode cX1_clear 16 = .ok (.istore_n 1, 1) := by decide +kernel
theorem dX1_clear_17 : decode cX1_clear 17 = .ok (.iload_n 1, 1) := by decide +kernel
theorem dX1_clear_18 : decode cX1_clear 18 = .ok (.iconst 4, 1) := by decide +kernel
theorem dX1_clear_19 : decode cX1_clear 19 = .ok (.if_icmp .ge 16, 3) := by decide +kernel
theorem dX1_clear_22 : decode cX1_clear 22 = .ok (.aload_n 0, 1) := by decide +kernel
theorem dX1_clear_23 : decode cX1_clear 23 = .ok (.getfield 9, 3) := by decide +kernel
theorem dX1_clear_26 : decode cX1_clear 26 = .ok (.iload_n 1, 1) := by decide +kernel
theorem dX1_clear_27 : decode cX1_clear 27 = .ok (.iconst 0, 1) := by decide +kernel
theorem dX1_clear_28 : decode cX1_clear 28 = .ok (.iastore, 1) := by decide +kernel
theorem dX1_clear_29 : decode cX1_clear 29 = .ok (.iinc 1 1, 3) := by decide +kernel
theorem dX1_clear_32 : decode cX1_clear 32 = .ok (.goto (-15), 3) := by decide +kernel
theorem dX1_clear_35 : decode cX1_clear 35 = .ok (.return_, 1) := by decide +kernel
theorem dX1_copyFrom_0 : decode cX1_copyFrom 0 = .ok (.aload_n 0, 1) := by decide +kernel
theorem dX1_copyFrom_1 : decode cX1_copyFrom 1 = .ok (.aload_n 1, 1) := by decide +kernel
theorem dX1_copyFrom_2 : decode cX1_copyFrom 2 = .ok (.getfield 18, 3) := by decide +kernel
theorem dX1_copyFrom_5 : decode cX1_copyFrom 5 = .ok (.putfield 18, 3) := by decide +kernel
theorem dX1_copyFrom_8 : decode cX1_copyFrom 8 = .ok (.aload_n 0, 1) := by decide +kernel
theorem dX1_copyFrom_9 : decode cX1_copyFrom 9 = .ok (.aload_n 1, 1) := by decide +kernel
theorem dX1_copyFrom_10 : decode cX1_copyFrom 10 = .ok (.getfield 22, 3) := by decide +kernel
theorem dX1_copyFrom_13 : decode cX1_copyFrom 13 = .ok (.putfield 22, 3) := by decide +kernel
theorem dX1_copyFrom_16 : decode cX1_copyFrom 16 = .ok (.aload_n 0, 1) := by decide +kernel
theorem dX1_copyFrom_17 : decode cX1_copyFrom 17 = .ok (.aload_n 1, 1) := by decide +kernel
theorem dX1_copyFrom_18 : decode cX1_copyFrom 18 = .ok (.getfield 25, 3) := by decide +kernel
theorem dX1_copyFrom_21 : decode cX1_copyFrom 21 = .ok (.putfield 25, 3) := by decide +kernel
theorem dX1_copyFrom_24 : decode cX1_copyFrom 24 = .ok (.iconst 0, 1) := by decide +kernel
theorem dX1_copyFrom_25 : decode cX1_copyFrom 25 = .ok (.istore_n 2, 1) := by decide +kernel
theorem dX1_copyFrom_26 : decode cX1_copyFrom 26 = .ok (.iload_n 2, 1) := by decide +kernel
theorem dX1_copyFrom_27 : decode cX1_copyFrom 27 = .ok (.iconst 4, 1) := by decide +kernel
theorem dX1_copyFrom_28 : decode cX1_copyFrom 28 = .ok (.if_icmp .ge 21, 3) := by decide +kernel
theorem dX1_copyFrom_31 : decode cX1_copyFrom 31 = .ok (.aload_n 0, 1) := by decide +kernel
theorem dX1_copyFrom_32 : decode cX1_copyFrom 32 = .ok (.getfield 9, 3) := by decide +kernel
theorem dX1_copyFrom_35 : decode cX1_copyFrom 35 = .ok (.iload_n 2, 1) := by decide +kernel
theorem dX1_copyFrom_36 : decode cX1_copyFrom 36 = .ok (.aload_n 1, 1) := by decide +kernel
theorem dX1_copyFrom_37 : decode cX1_copyFrom 37 = .ok (.getfield 9, 3) := by decide +kernel
theorem dX1_copyFrom_40 : decode cX1_copyFrom 40 = .ok (.iload_n 2, 1) := by decide +kernel
theorem dX1_copyFrom_41 : decode cX1_copyFrom 41 = .ok (.iaload, 1) := by decide +kernel
theorem dX1_copyFrom_42 : decode cX1_copyFrom 42 = .ok (.iastore, 1) := by decide +kernel
theorem dX1_copyFrom_43 : decode cX1_copyFrom 43 = .ok (.iinc 2 1, 3) := by decide +kernel
theorem dX1_copyFrom_46 : decode cX1_copyFrom 46 = .ok (.goto (-20), 3) := by decide +kernel
theorem dX1_copyFrom_49 : decode cX1_copyFrom 49 = .ok (.return_, 1) := by decide +kernel
theorem dX1_size_0 : decode cX1_size 0 = .ok (.aload_n 0, 1) := by decide +kernel
theorem dX1_size_1 : decode cX1_size 1 = .ok (.getfield 18, 3) := by decide +kernel
theorem dX1_size_4 : decode cX1_size 4 = .ok (.invokestatic 28, 3) := by decide +kernel
theorem dX1_size_7 : decode cX1_size 7 = .ok (.ireturn, 1) := by decide +kernel
theorem dX1_has_0 : decode cX1_has 0 = .ok (.aload_n 0, 1) := by decide +kernel
theorem dX1_has_1 : decode cX1_has 1 = .ok (.getfield 18, 3) := by decide +kernel
theorem dX1_has_4 : decode cX1_has 4 = .ok (.iload_n 1, 1) := by decide +kernel
theorem dX1_has_5 : decode cX1_has 5 = .ok (.ishr, 1) := by decide +kernel
theorem dX1_has_6 : decode cX1_has 6 = .ok (.iconst 1, 1) := by decide +kernel
theorem dX1_has_7 : decode cX1_has 7 = .ok (.iand, 1) := by decide +kernel
theorem dX1_has_8 : decode cX1_has 8 = .ok (.ifCond .eq 7, 3) := by decide +kernel
theorem dX1_has_11 : decode cX1_has 11 = .ok (.iconst 1, 1) := by decide +kernel
theorem dX1_has_12 : decode cX1_has 12 = .ok (.goto 4, 3) := by decide +kernel
theorem dX1_has_15 : decode cX1_has 15 = .ok (.iconst 0, 1) := by decide +kernel
theorem dX1_has_16 : decode cX1_has 16 = .ok (.ireturn, 1) := by decide +kernel
theorem dX1_kindOf_0 : decode cX1_kindOf 0 = .ok (.aload_n 0, 1) := by decide +kernel
theorem dX1_kindOf_1 : decode cX1_kindOf 1 = .ok (.getfield 22, 3) := by decide +kernel
theorem dX1_kindOf_4 : decode cX1_kindOf 4 = .ok (.iconst 2, 1) := by decide +kernel
theorem dX1_kindOf_5 : decode cX1_kindOf 5 = .ok (.iload_n 1, 1) := by decide +kernel
theorem dX1_kindOf_6 : decode cX1_kindOf 6 = .ok (.imul, 1) := by decide +kernel
theorem dX1_kindOf_7 : decode cX1_kindOf 7 = .ok (.ishr, 1) := by decide +kernel
theorem dX1_kindOf_8 : decode cX1_kindOf 8 = .ok (.iconst 3, 1) := by decide +kernel
theorem dX1_kindOf_9 : decode cX1_kindOf 9 = .ok (.iand, 1) := by decide +kernel
theorem dX1_kindOf_10 : decode cX1_kindOf 10 = .ok (.ireturn, 1) := by decide +kernel
theorem dX1_weightOf_0 : decode cX1_weightOf 0 = .ok (.iload_n 1, 1) := by decide +kernel
theorem dX1_weightOf_1 : decode cX1_weightOf 1 = .ok (.invokestatic 34, 3) := by decide +kernel
theorem dX1_weightOf_4 : decode cX1_weightOf 4 = .ok (.aload_n 0, 1) := by decide +kernel
theorem dX1_weightOf_5 : decode cX1_weightOf 5 = .ok (.iload_n 1, 1) := by decide +kernel
theorem dX1_weightOf_6 : decode cX1_weightOf 6 = .ok (.invokevirtual 37, 3) := by decide +kernel
theorem dX1_weightOf_9 : decode cX1_weightOf 9 = .ok (.invokestatic 40, 3) := by decide +kernel
theorem dX1_weightOf_12 : decode cX1_weightOf 12 = .ok (.imul, 1) := by decide +kernel
theorem dX1_weightOf_13 : decode cX1_weightOf 13 = .ok (.ireturn, 1) := by decide +kernel
theorem dX1_highestLevel_0 : decode cX1_highestLevel 0 = .ok (.bipush (-9), 2) := by decide +kernel
theorem dX1_highestLevel_2 : decode cX1_highestLevel 2 = .ok (.istore_n 1, 1) := by decide +kernel
theorem dX1_highestLevel_3 : decode cX1_highestLevel 3 = .ok (.iconst 0, 1) := by decide +kernel
theorem dX1_highestLevel_4 : decode cX1_highestLevel 4 = .ok (.istore_n 2, 1) := by decide +kernel
theorem dX1_highestLevel_5 : decode cX1_highestLevel 5 = .ok (.iload_n 2, 1) := by decide +kernel
theorem dX1_highestLevel_6 : decode cX1_highestLevel 6 = .ok (.bipush 16, 2) := by decide +kernel
theorem dX1_highestLevel_8 : decode cX1_highestLevel 8 = .ok (.if_icmp .ge 23, 3) := by decide +kernel
theorem dX1_highestLevel_11 : decode cX1_highestLevel 11 = .ok (.aload_n 0, 1) := by decide +kernel
theorem dX1_highestLevel_12 : decode cX1_highestLevel 12 = .ok (.iload_n 2, 1) := by decide +kernel
theorem dX1_highestLevel_13 : decode cX1_highestLevel 13 = .ok (.invokevirtual 43, 3) := by decide +kernel
theorem dX1_highestLevel_16 : decode cX1_highestLevel 16 = .ok (.ifCond .eq 9, 3) := by decide +kernel
theorem dX1_highestLevel_19 : decode cX1_highestLevel 19 = .ok (.getstatic 47, 3) := by decide +kernel
theorem dX1_highestLevel_22 : decode cX1_highestLevel 22 = .ok (.iload_n 2, 1) := by decide +kernel
theorem dX1_highestLevel_23 : decode cX1_highestLevel 23 = .ok (.iaload, 1) := by decide +kernel
theorem dX1_highestLevel_24 : decode cX1_highestLevel 24 = .ok (.istore_n 1, 1) := by decide +kernel
theorem dX1_highestLevel_25 : decode cX1_highestLevel 25 = .ok (.iinc 2 1, 3) := by decide +kernel
theorem dX1_highestLevel_28 : decode cX1_highestLevel 28 = .ok (.goto (-23), 3) := by decide +kernel
theorem dX1_highestLevel_31 : decode cX1_highestLevel 31 = .ok (.iload_n 1, 1) := by decide +kernel
theorem dX1_highestLevel_32 : decode cX1_highestLevel 32 = .ok (.ireturn, 1) := by decide +kernel
theorem dX1_cardsLeft_0 : decode cX1_cardsLeft 0 = .ok (.iload_n 1, 1) := by decide +kernel
theorem dX1_cardsLeft_1 : decode cX1_cardsLeft 1 = .ok (.invokestatic 50, 3) := by decide +kernel
theorem dX1_cardsLeft_4 : decode cX1_cardsLeft 4 = .ok (.ifCond .eq 12, 3) := by decide +kernel
theorem dX1_cardsLeft_7 : decode cX1_cardsLeft 7 = .ok (.aload_n 0, 1) := by decide +kernel
theorem dX1_cardsLeft_8 : decode cX1_cardsLeft 8 = .ok (.getfield 9, 3) := by decide +kernel
theorem dX1_cardsLeft_11 : decode cX1_cardsLeft 11 = .ok (.iload_n 1, 1) := by decide +kernel
theorem dX1_cardsLeft_12 : decode cX1_cardsLeft 12 = .ok (.iaload, 1) := by decide +kernel
theorem dX1_cardsLeft_13 : decode cX1_cardsLeft 13 = .ok (.goto 4, 3) := by decide +kernel
theorem dX1_cardsLeft_16 : decode cX1_cardsLeft 16 = .ok (.iconst 0, 1) := by decide +kernel
theorem dX1_cardsLeft_17 : decode cX1_cardsLeft 17 = .ok (.istore_n 2, 1) := by decide +kernel
theorem dX1_cardsLeft_18 : decode cX1_cardsLeft 18 = .ok (.iconst 0, 1) := by decide +kernel
theorem dX1_cardsLeft_19 : decode cX1_cardsLeft 19 = .ok (.istore_n 3, 1) := by decide +kernel
theorem dX1_cardsLeft_20 : decode cX1_cardsLeft 20 = .ok (.iload_n 3, 1) := by decide +kernel
theorem dX1_cardsLeft_21 : decode cX1_cardsLeft 21 = .ok (.bipush 16, 2) := by decide +kernel
theorem dX1_cardsLeft_23 : decode cX1_cardsLeft 23 = .ok (.if_icmp .ge 33, 3) := by decide +kernel
theorem dX1_cardsLeft_26 : decode cX1_cardsLeft 26 = .ok (.aload_n 0, 1) := by decide +kernel
theorem dX1_cardsLeft_27 : decode cX1_cardsLeft 27 = .ok (.iload_n 3, 1) := by decide +kernel
theorem dX1_cardsLeft_28 : decode cX1_cardsLeft 28 = .ok (.invokevirtual 43, 3) := by decide +kernel
theorem dX1_cardsLeft_31 : decode cX1_cardsLeft 31 = .ok (.ifCond .eq 19, 3) := by decide +kernel
theorem dX1_cardsLeft_34 : decode cX1_cardsLeft 34 = .ok (.aload_n 0, 1) := by decide +kernel
theorem dX1_cardsLeft_35 : decode cX1_cardsLeft 35 = .ok (.iload_n 3, 1) := by decide +kernel
theorem dX1_cardsLeft_36 : decode cX1_cardsLeft 36 = .ok (.invokevirtual 37, 3) := by decide +kernel
theorem dX1_cardsLeft_39 : decode cX1_cardsLeft 39 = .ok (.iload_n 1, 1) := by decide +kernel
theorem dX1_cardsLeft_40 : decode cX1_cardsLeft 40 = .ok (.if_icmp .ne 10, 3) := by decide +kernel
theorem dX1_cardsLeft_43 : decode cX1_cardsLeft 43 = .ok (.iload_n 2, 1) := by decide +kernel
theorem dX1_cardsLeft_44 : decode cX1_cardsLeft 44 = .ok (.iload_n 3, 1) := by decide +kernel
theorem dX1_cardsLeft_45 : decode cX1_cardsLeft 45 = .ok (.invokestatic 34, 3) := by decide +kernel
theorem dX1_cardsLeft_48 : decode cX1_cardsLeft 48 = .ok (.isub, 1) := by decide +kernel
theorem dX1_cardsLeft_49 : decode cX1_cardsLeft 49 = .ok (.istore_n 2, 1) := by decide +kernel
theorem dX1_cardsLeft_50 : decode cX1_cardsLeft 50 = .ok (.iinc 3 1, 3) := by decide +kernel
theorem dX1_cardsLeft_53 : decode cX1_cardsLeft 53 = .ok (.goto (-33), 3) := by decide +kernel
theorem dX1_cardsLeft_56 : decode cX1_cardsLeft 56 = .ok (.iload_n 2, 1) := by decide +kernel
theorem dX1_cardsLeft_57 : decode cX1_cardsLeft 57 = .ok (.ireturn, 1) := by decide +kernel
theorem dX1_mostCardsLeft_0 : decode cX1_mostCardsLeft 0 = .ok (.iconst 0, 1) := by decide +kernel
theorem dX1_mostCardsLeft_1 : decode cX1_mostCardsLeft 1 = .ok (.istore_n 1, 1) := by decide +kernel
theorem dX1_mostCardsLeft_2 : decode cX1_mostCardsLeft 2 = .ok (.iconst 0, 1) := by decide +kernel
theorem dX1_mostCardsLeft_3 : decode cX1_mostCardsLeft 3 = .ok (.istore_n 2, 1) := by decide +kernel
theorem dX1_mostCardsLeft_4 : decode cX1_mostCardsLeft 4 = .ok (.iload_n 2, 1) := by decide +kernel
theorem dX1_mostCardsLeft_5 : decode cX1_mostCardsLeft 5 = .ok (.iconst 4, 1) := by decide +kernel
theorem dX1_mostCardsLeft_6 : decode cX1_mostCardsLeft 6 = .ok (.if_icmp .ge 19, 3) := by decide +kernel
theorem dX1_mostCardsLeft_9 : decode cX1_mostCardsLeft 9 = .ok (.iload_n 1, 1) := by decide +kernel
theorem dX1_mostCardsLeft_10 : decode cX1_mostCardsLeft 10 = .ok (.aload_n 0, 1) := by decide +kernel
theorem dX1_mostCardsLeft_11 : decode cX1_mostCardsLeft 11 = .ok (.iload_n 2, 1) := by decide +kernel
theorem dX1_mostCardsLeft_12 : decode cX1_mostCardsLeft 12 = .ok (.invokevirtual 53, 3) := by decide +kernel
theorem dX1_mostCardsLeft_15 : decode cX1_mostCardsLeft 15 = .ok (.invokestatic 56, 3) := by decide +kernel
theorem dX1_mostCardsLeft_18 : decode cX1_mostCardsLeft 18 = .ok (.istore_n 1, 1) := by decide +kernel
theorem dX1_mostCardsLeft_19 : decode cX1_mostCardsLeft 19 = .ok (.iinc 2 1, 3) := by decide +kernel
theorem dX1_mostCardsLeft_22 : decode cX1_mostCardsLeft 22 = .ok (.goto (-18), 3) := by decide +kernel
theorem dX1_mostCardsLeft_25 : decode cX1_mostCardsLeft 25 = .ok (.iload_n 1, 1) := by decide +kernel
theorem dX1_mostCardsLeft_26 : decode cX1_mostCardsLeft 26 = .ok (.ireturn, 1) := by decide +kernel
theorem dX1_hasRoomFor_0 : decode cX1_hasRoomFor 0 = .ok (.iload_n 1, 1) := by decide +kernel
theorem dX1_hasRoomFor_1 : decode cX1_hasRoomFor 1 = .ok (.invokestatic 62, 3) := by decide +kernel
theorem dX1_hasRoomFor_4 : decode cX1_hasRoomFor 4 = .ok (.ifCond .eq 30, 3) := by decide +kernel
theorem dX1_hasRoomFor_7 : decode cX1_hasRoomFor 7 = .ok (.aload_n 0, 1) := by decide +kernel
theorem dX1_hasRoomFor_8 : decode cX1_hasRoomFor 8 = .ok (.iload_n 1, 1) := by decide +kernel
theorem dX1_hasRoomFor_9 : decode cX1_hasRoomFor 9 = .ok (.invokevirtual 43, 3) := by decide +kernel
theorem dX1_hasRoomFor_12 : decode cX1_hasRoomFor 12 = .ok (.ifCond .ne 22, 3) := by decide +kernel
theorem dX1_hasRoomFor_15 : decode cX1_hasRoomFor 15 = .ok (.getstatic 65, 3) := by decide +kernel
theorem dX1_hasRoomFor_18 : decode cX1_hasRoomFor 18 = .ok (.iload_n 1, 1) := by decide +kernel
theorem dX1_hasRoomFor_19 : decode cX1_hasRoomFor 19 = .ok (.iaload, 1) := by decide +kernel
theorem dX1_hasRoomFor_20 : decode cX1_hasRoomFor 20 = .ok (.aload_n 0, 1) := by decide +kernel
theorem dX1_hasRoomFor_21 : decode cX1_hasRoomFor 21 = .ok (.getfield 18, 3) := by decide +kernel
theorem dX1_hasRoomFor_24 : decode cX1_hasRoomFor 24 = .ok (.iconst (-1), 1) := by decide +kernel
theorem dX1_hasRoomFor_25 : decode cX1_hasRoomFor 25 = .ok (.ixor, 1) := by decide +kernel
theorem dX1_hasRoomFor_26 : decode cX1_hasRoomFor 26 = .ok (.iand, 1) := by decide +kernel
theorem dX1_hasRoomFor_27 : decode cX1_hasRoomFor 27 = .ok (.ifCond .ne 7, 3) := by decide +kernel
theorem dX1_hasRoomFor_30 : decode cX1_hasRoomFor 30 = .ok (.iconst 1, 1) := by decide +kernel
theorem dX1_hasRoomFor_31 : decode cX1_hasRoomFor 31 = .ok (.goto 4, 3) := by decide +kernel
theorem dX1_hasRoomFor_34 : decode cX1_hasRoomFor 34 = .ok (.iconst 0, 1) := by decide +kernel
theorem dX1_hasRoomFor_35 : decode cX1_hasRoomFor 35 = .ok (.ireturn, 1) := by decide +kernel
theorem dX1_canLay_0 : decode cX1_canLay 0 = .ok (.iload_n 2, 1) := by decide +kernel
theorem dX1_canLay_1 : decode cX1_canLay 1 = .ok (.invokestatic 50, 3) := by decide +kernel
theorem dX1_canLay_4 : decode cX1_canLay 4 = .ok (.ifCond .eq 27, 3) := by decide +kernel
theorem dX1_canLay_7 : decode cX1_canLay 7 = .ok (.aload_n 0, 1) := by decide +kernel
theorem dX1_canLay_8 : decode cX1_canLay 8 = .ok (.iload_n 1, 1) := by decide +kernel
theorem dX1_canLay_9 : decode cX1_canLay 9 = .ok (.invokevirtual 68, 3) := by decide +kernel
theorem dX1_canLay_12 : decode cX1_canLay 12 = .ok (.ifCond .eq 19, 3) := by decide +kernel
theorem dX1_canLay_15 : decode cX1_canLay 15 = .ok (.iload_n 1, 1) := by decide +kernel
theorem dX1_canLay_16 : decode cX1_canLay 16 = .ok (.invokestatic 34, 3) := by decide +kernel
theorem dX1_canLay_19 : decode cX1_canLay 19 = .ok (.aload_n 0, 1) := by decide +kernel
theorem dX1_canLay_20 : decode cX1_canLay 20 = .ok (.iload_n 2, 1) := by decide +kernel
theorem dX1_canLay_21 : decode cX1_canLay 21 = .ok (.invokevirtual 53, 3) := by decide +kernel
theorem dX1_canLay_24 : decode cX1_canLay 24 = .ok (.if_icmp .gt 7, 3) := by decide +kernel
theorem dX1_canLay_27 : decode cX1_canLay 27 = .ok (.iconst 1, 1) := by decide +kernel
theorem dX1_canLay_28 : decode cX1_canLay 28 = .ok (.goto 4, 3) := by decide +kernel
theorem dX1_canLay_31 : decode cX1_canLay 31 = .ok (.iconst 0, 1) := by decide +kernel
theorem dX1_canLay_32 : decode cX1_canLay 32 = .ok (.ireturn, 1) := by decide +kernel
theorem dX1_place_0 : decode cX1_place 0 = .ok (.aload_n 0, 1) := by decide +kernel
theorem dX1_place_1 : decode cX1_place 1 = .ok (.dup, 1) := by decide +kernel
theorem dX1_place_2 : decode cX1_place 2 = .ok (.getfield 18, 3) := by decide +kernel
theorem dX1_place_5 : decode cX1_place 5 = .ok (.iconst 1, 1) := by decide +kernel
theorem dX1_place_6 : decode cX1_place 6 = .ok (.iload_n 1, 1) := by decide +kernel
theorem dX1_place_7 : decode cX1_place 7 = .ok (.ishl, 1) := by decide +kernel
theorem dX1_place_8 : decode cX1_place 8 = .ok (.ior, 1) := by decide +kernel
theorem dX1_place_9 : decode cX1_place 9 = .ok (.putfield 18, 3) := by decide +kernel
theorem dX1_place_12 : decode cX1_place 12 = .ok (.aload_n 0, 1) := by decide +kernel
theorem dX1_place_13 : decode cX1_place 13 = .ok (.aload_n 0, 1) := by decide +kernel
theorem dX1_place_14 : decode cX1_place 14 = .ok (.getfield 22, 3) := by decide +kernel
theorem dX1_place_17 : decode cX1_place 17 = .ok (.iconst 3, 1) := by decide +kernel
theorem dX1_place_18 : decode cX1_place 18 = .ok (.iconst 2, 1) := by decide +kernel
theorem dX1_place_19 : decode cX1_place 19 = .ok (.iload_n 1, 1) := by decide +kernel
theorem dX1_place_20 : decode cX1_place 20 = .ok (.imul, 1) := by decide +kernel
theorem dX1_place_21 : decode cX1_place 21 = .ok (.ishl, 1) := by decide +kernel
theorem dX1_place_22 : decode cX1_place 22 = .ok (.iconst (-1), 1) := by decide +kernel
theorem dX1_place_23 : decode cX1_place 23 = .ok (.ixor, 1) := by decide +kernel
theorem dX1_place_24 : decode cX1_place 24 = .ok (.iand, 1) := by decide +kernel
theorem dX1_place_25 : decode cX1_place 25 = .ok (.iload_n 2, 1) := by decide +kernel
theorem dX1_place_26 : decode cX1_place 26 = .ok (.iconst 2, 1) := by decide +kernel
theorem dX1_place_27 : decode cX1_place 27 = .ok (.iload_n 1, 1) := by decide +kernel
theorem dX1_place_28 : decode cX1_place 28 = .ok (.imul, 1) := by decide +kernel
theorem dX1_place_29 : decode cX1_place 29 = .ok (.ishl, 1) := by decide +kernel
theorem dX1_place_30 : decode cX1_place 30 = .ok (.ior, 1) := by decide +kernel
theorem dX1_place_31 : decode cX1_place 31 = .ok (.putfield 22, 3) := by decide +kernel
theorem dX1_place_34 : decode cX1_place 34 = .ok (.return_, 1) := by decide +kernel
theorem dX1_lay_0 : decode cX1_lay 0 = .ok (.aload_n 0, 1) := by decide +kernel
theorem dX1_lay_1 : decode cX1_lay 1 = .ok (.iload_n 1, 1) := by decide +kernel
theorem dX1_lay_2 : decode cX1_lay 2 = .ok (.iload_n 2, 1) := by decide +kernel
theorem dX1_lay_3 : decode cX1_lay 3 = .ok (.invokevirtual 71, 3) := by decide +kernel
theorem dX1_lay_6 : decode cX1_lay 6 = .ok (.aload_n 0, 1) := by decide +kernel
theorem dX1_lay_7 : decode cX1_lay 7 = .ok (.invokevirtual 75, 3) := by decide +kernel
theorem dX1_lay_10 : decode cX1_lay 10 = .ok (.ireturn, 1) := by decide +kernel
theorem dX1_layIfCan_0 : decode cX1_layIfCan 0 = .ok (.aload_n 0, 1) := by decide +kernel
theorem dX1_layIfCan_1 : decode cX1_layIfCan 1 = .ok (.iload_n 1, 1) := by decide +kernel
theorem dX1_layIfCan_2 : decode cX1_layIfCan 2 = .ok (.iload_n 2, 1) := by decide +kernel
theorem dX1_layIfCan_3 : decode cX1_layIfCan 3 = .ok (.invokevirtual 79, 3) := by decide +kernel
theorem dX1_layIfCan_6 : decode cX1_layIfCan 6 = .ok (.ifCond .ne 5, 3) := by decide +kernel
theorem dX1_layIfCan_9 : decode cX1_layIfCan 9 = .ok (.iconst 0, 1) := by decide +kernel
theorem dX1_layIfCan_10 : decode cX1_layIfCan 10 = .ok (.ireturn, 1) := by decide +kernel
theorem dX1_layIfCan_11 : decode cX1_layIfCan 11 = .ok (.aload_n 0, 1) := by decide +kernel
theorem dX1_layIfCan_12 : decode cX1_layIfCan 12 = .ok (.iload_n 1, 1) := by decide +kernel
theorem dX1_layIfCan_13 : decode cX1_layIfCan 13 = .ok (.iload_n 2, 1) := by decide +kernel
theorem dX1_layIfCan_14 : decode cX1_layIfCan 14 = .ok (.invokevirtual 71, 3) := by decide +kernel
theorem dX1_layIfCan_17 : decode cX1_layIfCan 17 = .ok (.aload_n 0, 1) := by decide +kernel
theorem dX1_layIfCan_18 : decode cX1_layIfCan 18 = .ok (.invokevirtual 75, 3) := by decide +kernel
theorem dX1_layIfCan_21 : decode cX1_layIfCan 21 = .ok (.pop, 1) := by decide +kernel
theorem dX1_layIfCan_22 : decode cX1_layIfCan 22 = .ok (.iconst 1, 1) := by decide +kernel
theorem dX1_layIfCan_23 : decode cX1_layIfCan 23 = .ok (.ireturn, 1) := by decide +kernel
theorem dX1_canLift_0 : decode cX1_canLift 0 = .ok (.aload_n 0, 1) := by decide +kernel
theorem dX1_canLift_1 : decode cX1_canLift 1 = .ok (.iload_n 1, 1) := by decide +kernel
theorem dX1_canLift_2 : decode cX1_canLift 2 = .ok (.invokevirtual 43, 3) := by decide +kernel
theorem dX1_canLift_5 : decode cX1_canLift 5 = .ok (.ifCond .eq 20, 3) := by decide +kernel
theorem dX1_canLift_8 : decode cX1_canLift 8 = .ok (.aload_n 0, 1) := by decide +kernel
theorem dX1_canLift_9 : decode cX1_canLift 9 = .ok (.iconst 1, 1) := by decide +kernel
theorem dX1_canLift_10 : decode cX1_canLift 10 = .ok (.iload_n 1, 1) := by decide +kernel
theorem dX1_canLift_11 : decode cX1_canLift 11 = .ok (.ishl, 1) := by decide +kernel
theorem dX1_canLift_12 : decode cX1_canLift 12 = .ok (.invokevirtual 83, 3) := by decide +kernel
theorem dX1_canLift_15 : decode cX1_canLift 15 = .ok (.iconst 1, 1) := by decide +kernel
theorem dX1_canLift_16 : decode cX1_canLift 16 = .ok (.iload_n 1, 1) := by decide +kernel
theorem dX1_canLift_17 : decode cX1_canLift 17 = .ok (.ishl, 1) := by decide +kernel
theorem dX1_canLift_18 : decode cX1_canLift 18 = .ok (.if_icmp .ne 7, 3) := by decide +kernel
theorem dX1_canLift_21 : decode cX1_canLift 21 = .ok (.iconst 1, 1) := by decide +kernel
theorem dX1_canLift_22 : decode cX1_canLift 22 = .ok (.goto 4, 3) := by decide +kernel
theorem dX1_canLift_25 : decode cX1_canLift 25 = .ok (.iconst 0, 1) := by decide +kernel
theorem dX1_canLift_26 : decode cX1_canLift 26 = .ok (.ireturn, 1) := by decide +kernel
theorem dX1_lift_0 : decode cX1_lift 0 = .ok (.aload_n 0, 1) := by decide +kernel
theorem dX1_lift_1 : decode cX1_lift 1 = .ok (.dup, 1) := by decide +kernel
theorem dX1_lift_2 : decode cX1_lift 2 = .ok (.getfield 18, 3) := by decide +kernel
theorem dX1_lift_5 : decode cX1_lift 5 = .ok (.iconst 1, 1) := by decide +kernel
theorem dX1_lift_6 : decode cX1_lift 6 = .ok (.iload_n 1, 1) := by decide +kernel
theorem dX1_lift_7 : decode cX1_lift 7 = .ok (.ishl, 1) := by decide +kernel
theorem dX1_lift_8 : decode cX1_lift 8 = .ok (.iconst (-1), 1) := by decide +kernel
theorem dX1_lift_9 : decode cX1_lift 9 = .ok (.ixor, 1) := by decide +kernel
theorem dX1_lift_10 : decode cX1_lift 10 = .ok (.iand, 1) := by decide +kernel
theorem dX1_lift_11 : decode cX1_lift 11 = .ok (.putfield 18, 3) := by decide +kernel
theorem dX1_lift_14 : decode cX1_lift 14 = .ok (.return_, 1) := by decide +kernel
theorem dX1_liftIfCan_0 : decode cX1_liftIfCan 0 = .ok (.iload_n 1, 1) := by decide +kernel
theorem dX1_liftIfCan_1 : decode cX1_liftIfCan 1 = .ok (.invokestatic 62, 3) := by decide +kernel
theorem dX1_liftIfCan_4 : decode cX1_liftIfCan 4 = .ok (.ifCond .eq 11, 3) := by decide +kernel
theorem dX1_liftIfCan_7 : decode cX1_liftIfCan 7 = .ok (.aload_n 0, 1) := by decide +kernel
theorem dX1_liftIfCan_8 : decode cX1_liftIfCan 8 = .ok (.iload_n 1, 1) := by decide +kernel
theorem dX1_liftIfCan_9 : decode cX1_liftIfCan 9 = .ok (.invokevirtual 86, 3) := by decide +kernel
theorem dX1_liftIfCan_12 : decode cX1_liftIfCan 12 = .ok (.ifCond .ne 5, 3) := by decide +kernel
theorem dX1_liftIfCan_15 : decode cX1_liftIfCan 15 = .ok (.iconst 0, 1) := by decide +kernel
theorem dX1_liftIfCan_16 : decode cX1_liftIfCan 16 = .ok (.ireturn, 1) := by decide +kernel
theorem dX1_liftIfCan_17 : decode cX1_liftIfCan 17 = .ok (.aload_n 0, 1) := by decide +kernel
theorem dX1_liftIfCan_18 : decode cX1_liftIfCan 18 = .ok (.iload_n 1, 1) := by decide +kernel
theorem dX1_liftIfCan_19 : decode cX1_liftIfCan 19 = .ok (.invokevirtual 89, 3) := by decide +kernel
theorem dX1_liftIfCan_22 : decode cX1_liftIfCan 22 = .ok (.iconst 1, 1) := by decide +kernel
theorem dX1_liftIfCan_23 : decode cX1_liftIfCan 23 = .ok (.ireturn, 1) := by decide +kernel
theorem dX1_blow_0 : decode cX1_blow 0 = .ok (.aload_n 0, 1) := by decide +kernel
theorem dX1_blow_1 : decode cX1_blow 1 = .ok (.invokevirtual 93, 3) := by decide +kernel
theorem dX1_blow_4 : decode cX1_blow 4 = .ok (.iconst 0, 1) := by decide +kernel
theorem dX1_blow_5 : decode cX1_blow 5 = .ok (.istore_n 3, 1) := by decide +kernel
theorem dX1_blow_6 : decode cX1_blow 6 = .ok (.iconst 0, 1) := by decide +kernel
theorem dX1_blow_7 : decode cX1_blow 7 = .ok (.istore 4, 2) := by decide +kernel
theorem dX1_blow_9 : decode cX1_blow 9 = .ok (.iload 4, 2) := by decide +kernel
theorem dX1_blow_11 : decode cX1_blow 11 = .ok (.bipush 16, 2) := by decide +kernel
theorem dX1_blow_13 : decode cX1_blow 13 = .ok (.if_icmp .ge 49, 3) := by decide +kernel
theorem dX1_blow_16 : decode cX1_blow 16 = .ok (.aload_n 0, 1) := by decide +kernel
theorem dX1_blow_17 : decode cX1_blow 17 = .ok (.iload 4, 2) := by decide +kernel
theorem dX1_blow_19 : decode cX1_blow 19 = .ok (.iload_n 1, 1) := by decide +kernel
theorem dX1_blow_20 : decode cX1_blow 20 = .ok (.invokevirtual 96, 3) := by decide +kernel
theorem dX1_blow_23 : decode cX1_blow 23 = .ok (.ifCond .eq 33, 3) := by decide +kernel
theorem dX1_blow_26 : decode cX1_blow 26 = .ok (.aload_n 0, 1) := by decide +kernel
theorem dX1_blow_27 : decode cX1_blow 27 = .ok (.iload 4, 2) := by decide +kernel
theorem dX1_blow_29 : decode cX1_blow 29 = .ok (.invokevirtual 37, 3) := by decide +kernel
theorem dX1_blow_32 : decode cX1_blow 32 = .ok (.aload_n 0, 1) := by decide +kernel
theorem dX1_blow_33 : decode cX1_blow 33 = .ok (.getfield 15, 3) := by decide +kernel
theorem dX1_blow_36 : decode cX1_blow 36 = .ok (.iload 4, 2) := by decide +kernel
theorem dX1_blow_38 : decode cX1_blow 38 = .ok (.iaload, 1) := by decide +kernel
theorem dX1_blow_39 : decode cX1_blow 39 = .ok (.invokestatic 99, 3) := by decide +kernel
theorem dX1_blow_42 : decode cX1_blow 42 = .ok (.bipush 8, 2) := by decide +kernel
theorem dX1_blow_44 : decode cX1_blow 44 = .ok (.iload_n 2, 1) := by decide +kernel
theorem dX1_blow_45 : decode cX1_blow 45 = .ok (.imul, 1) := by decide +kernel
theorem dX1_blow_46 : decode cX1_blow 46 = .ok (.if_icmp .ge 10, 3) := by decide +kernel
theorem dX1_blow_49 : decode cX1_blow 49 = .ok (.iload_n 3, 1) := by decide +kernel
theorem dX1_blow_50 : decode cX1_blow 50 = .ok (.iconst 1, 1) := by decide +kernel
theorem dX1_blow_51 : decode cX1_blow 51 = .ok (.iload 4, 2) := by decide +kernel
theorem dX1_blow_53 : decode cX1_blow 53 = .ok (.ishl, 1) := by decide +kernel
theorem dX1_blow_54 : decode cX1_blow 54 = .ok (.ior, 1) := by decide +kernel
theorem dX1_blow_55 : decode cX1_blow 55 = .ok (.istore_n 3, 1) := by decide +kernel
theorem dX1_blow_56 : decode cX1_blow 56 = .ok (.iinc 4 1, 3) := by decide +kernel
theorem dX1_blow_59 : decode cX1_blow 59 = .ok (.goto (-50), 3) := by decide +kernel
theorem dX1_blow_62 : decode cX1_blow 62 = .ok (.aload_n 0, 1) := by decide +kernel
theorem dX1_blow_63 : decode cX1_blow 63 = .ok (.iload_n 3, 1) := by decide +kernel
theorem dX1_blow_64 : decode cX1_blow 64 = .ok (.invokevirtual 102, 3) := by decide +kernel
theorem dX1_blow_67 : decode cX1_blow 67 = .ok (.ireturn, 1) := by decide +kernel
theorem dX1_blowIfCan_0 : decode cX1_blowIfCan 0 = .ok (.iload_n 1, 1) := by decide +kernel
theorem dX1_blowIfCan_1 : decode cX1_blowIfCan 1 = .ok (.invokestatic 105, 3) := by decide +kernel
theorem dX1_blowIfCan_4 : decode cX1_blowIfCan 4 = .ok (.ifCond .eq 10, 3) := by decide +kernel
theorem dX1_blowIfCan_7 : decode cX1_blowIfCan 7 = .ok (.iload_n 2, 1) := by decide +kernel
theorem dX1_blowIfCan_8 : decode cX1_blowIfCan 8 = .ok (.invokestatic 108, 3) := by decide +kernel
theorem dX1_blowIfCan_11 : decode cX1_blowIfCan 11 = .ok (.ifCond .ne 5, 3) := by decide +kernel
theorem dX1_blowIfCan_14 : decode cX1_blowIfCan 14 = .ok (.iconst 0, 1) := by decide +kernel
theorem dX1_blowIfCan_15 : decode cX1_blowIfCan 15 = .ok (.ireturn, 1) := by decide +kernel
theorem dX1_blowIfCan_16 : decode cX1_blowIfCan 16 = .ok (.aload_n 0, 1) := by decide +kernel
theorem dX1_blowIfCan_17 : decode cX1_blowIfCan 17 = .ok (.iload_n 1, 1) := by decide +kernel
theorem dX1_blowIfCan_18 : decode cX1_blowIfCan 18 = .ok (.iload_n 2, 1) := by decide +kernel
theorem dX1_blowIfCan_19 : decode cX1_blowIfCan 19 = .ok (.invokevirtual 111, 3) := by decide +kernel
theorem dX1_blowIfCan_22 : decode cX1_blowIfCan 22 = .ok (.pop, 1) := by decide +kernel
theorem dX1_blowIfCan_23 : decode cX1_blowIfCan 23 = .ok (.iconst 1, 1) := by decide +kernel
theorem dX1_blowIfCan_24 : decode cX1_blowIfCan 24 = .ok (.ireturn, 1) := by decide +kernel
theorem dX1_forceStood_0 : decode cX1_forceStood 0 = .ok (.aload_n 0, 1) := by decide +kernel
theorem dX1_forceStood_1 : decode cX1_forceStood 1 = .ok (.invokevirtual 93, 3) := by decide +kernel
theorem dX1_forceStood_4 : decode cX1_forceStood 4 = .ok (.bipush 9, 2) := by decide +kernel
theorem dX1_forceStood_6 : decode cX1_forceStood 6 = .ok (.istore_n 2, 1) := by decide +kernel
theorem dX1_forceStood_7 : decode cX1_forceStood 7 = .ok (.iconst 0, 1) := by decide +kernel
theorem dX1_forceStood_8 : decode cX1_forceStood 8 = .ok (.istore_n 3, 1) := by decide +kernel
theorem dX1_forceStood_9 : decode cX1_forceStood 9 = .ok (.iload_n 3, 1) := by decide +kernel
theorem dX1_forceStood_10 : decode cX1_forceStood 10 = .ok (.bipush 16, 2) := by decide +kernel
theorem dX1_forceStood_12 : decode cX1_forceStood 12 = .ok (.if_icmp .ge 40, 3) := by decide +kernel
theorem dX1_forceStood_15 : decode cX1_forceStood 15 = .ok (.aload_n 0, 1) := by decide +kernel
theorem dX1_forceStood_16 : decode cX1_forceStood 16 = .ok (.iload_n 3, 1) := by decide +kernel
theorem dX1_forceStood_17 : decode cX1_forceStood 17 = .ok (.iload_n 1, 1) := by decide +kernel
theorem dX1_forceStood_18 : decode cX1_forceStood 18 = .ok (.invokevirtual 96, 3) := by decide +kernel
theorem dX1_forceStood_21 : decode cX1_forceStood 21 = .ok (.ifCond .eq 25, 3) := by decide +kernel
theorem dX1_forceStood_24 : decode cX1_forceStood 24 = .ok (.iload_n 2, 1) := by decide +kernel
theorem dX1_forceStood_25 : decode cX1_forceStood 25 = .ok (.aload_n 0, 1) := by decide +kernel
theorem dX1_forceStood_26 : decode cX1_forceStood 26 = .ok (.iload_n 3, 1) := by decide +kernel
theorem dX1_forceStood_27 : decode cX1_forceStood 27 = .ok (.invokevirtual 37, 3) := by decide +kernel
theorem dX1_forceStood_30 : decode cX1_forceStood 30 = .ok (.aload_n 0, 1) := by decide +kernel
theorem dX1_forceStood_31 : decode cX1_forceStood 31 = .ok (.getfield 15, 3) := by decide +kernel
theorem dX1_forceStood_34 : decode cX1_forceStood 34 = .ok (.iload_n 3, 1) := by decide +kernel
theorem dX1_forceStood_35 : decode cX1_forceStood 35 = .ok (.iaload, 1) := by decide +kernel
theorem dX1_forceStood_36 : decode cX1_forceStood 36 = .ok (.invokestatic 99, 3) := by decide +kernel
theorem dX1_forceStood_39 : decode cX1_forceStood 39 = .ok (.bipush 8, 2) := by decide +kernel
theorem dX1_forceStood_41 : decode cX1_forceStood 41 = .ok (.idiv, 1) := by decide +kernel
theorem dX1_forceStood_42 : decode cX1_forceStood 42 = .ok (.invokestatic 114, 3) := by decide +kernel
theorem dX1_forceStood_45 : decode cX1_forceStood 45 = .ok (.istore_n 2, 1) := by decide +kernel
theorem dX1_forceStood_46 : decode cX1_forceStood 46 = .ok (.iinc 3 1, 3) := by decide +kernel
theorem dX1_forceStood_49 : decode cX1_forceStood 49 = .ok (.goto (-40), 3) := by decide +kernel
theorem dX1_forceStood_52 : decode cX1_forceStood 52 = .ok (.iload_n 2, 1) := by decide +kernel
theorem dX1_forceStood_53 : decode cX1_forceStood 53 = .ok (.ireturn, 1) := by decide +kernel
theorem dX1_isTentOfLevel_0 : decode cX1_isTentOfLevel 0 = .ok (.iload_n 2, 1) := by decide +kernel
theorem dX1_isTentOfLevel_1 : decode cX1_isTentOfLevel 1 = .ok (.invokestatic 105, 3) := by decide +kernel
theorem dX1_isTentOfLevel_4 : decode cX1_isTentOfLevel 4 = .ok (.ifCond .eq 24, 3) := by decide +kernel
theorem dX1_isTentOfLevel_7 : decode cX1_isTentOfLevel 7 = .ok (.aload_n 0, 1) := by decide +kernel
theorem dX1_isTentOfLevel_8 : decode cX1_isTentOfLevel 8 = .ok (.getfield 18, 3) := by decide +kernel
theorem dX1_isTentOfLevel_11 : decode cX1_isTentOfLevel 11 = .ok (.getstatic 117, 3) := by decide +kernel
theorem dX1_isTentOfLevel_14 : decode cX1_isTentOfLevel 14 = .ok (.iload_n 2, 1) := by decide +kernel
theorem dX1_isTentOfLevel_15 : decode cX1_isTentOfLevel 15 = .ok (.iaload, 1) := by decide +kernel
theorem dX1_isTentOfLevel_16 : decode cX1_isTentOfLevel 16 = .ok (.iand, 1) := by decide +kernel
theorem dX1_isTentOfLevel_17 : decode cX1_isTentOfLevel 17 = .ok (.iconst 1, 1) := by decide +kernel
theorem dX1_isTentOfLevel_18 : decode cX1_isTentOfLevel 18 = .ok (.iload_n 1, 1) := by decide +kernel
theorem dX1_isTentOfLevel_19 : decode cX1_isTentOfLevel 19 = .ok (.ishl, 1) := by decide +kernel
theorem dX1_isTentOfLevel_20 : decode cX1_isTentOfLevel 20 = .ok (.iand, 1) := by decide +kernel
theorem dX1_isTentOfLevel_21 : decode cX1_isTentOfLevel 21 = .ok (.ifCond .eq 7, 3) := by decide +kernel
theorem dX1_isTentOfLevel_24 : decode cX1_isTentOfLevel 24 = .ok (.iconst 1, 1) := by decide +kernel
theorem dX1_isTentOfLevel_25 : decode cX1_isTentOfLevel 25 = .ok (.goto 4, 3) := by decide +kernel
theorem dX1_isTentOfLevel_28 : decode cX1_isTentOfLevel 28 = .ok (.iconst 0, 1) := by decide +kernel
theorem dX1_isTentOfLevel_29 : decode cX1_isTentOfLevel 29 = .ok (.ireturn, 1) := by decide +kernel
theorem dX1_settle_0 : decode cX1_settle 0 = .ok (.iconst 0, 1) := by decide +kernel
theorem dX1_settle_1 : decode cX1_settle 1 = .ok (.istore_n 1, 1) := by decide +kernel
theorem dX1_settle_2 : decode cX1_settle 2 = .ok (.iconst 0, 1) := by decide +kernel
theorem dX1_settle_3 : decode cX1_settle 3 = .ok (.istore_n 2, 1) := by decide +kernel
theorem dX1_settle_4 : decode cX1_settle 4 = .ok (.iload_n 2, 1) := by decide +kernel
theorem dX1_settle_5 : decode cX1_settle 5 = .ok (.bipush 16, 2) := by decide +kernel
theorem dX1_settle_7 : decode cX1_settle 7 = .ok (.if_icmp .ge 82, 3) := by decide +kernel
theorem dX1_settle_10 : decode cX1_settle 10 = .ok (.aload_n 0, 1) := by decide +kernel
theorem dX1_settle_11 : decode cX1_settle 11 = .ok (.invokevirtual 93, 3) := by decide +kernel
theorem dX1_settle_14 : decode cX1_settle 14 = .ok (.iconst 0, 1) := by decide +kernel
theorem dX1_settle_15 : decode cX1_settle 15 = .ok (.istore_n 3, 1) := by decide +kernel
theorem dX1_settle_16 : decode cX1_settle 16 = .ok (.iconst 0, 1) := by decide +kernel
theorem dX1_settle_17 : decode cX1_settle 17 = .ok (.istore 4, 2) := by decide +kernel
theorem dX1_settle_19 : decode cX1_settle 19 = .ok (.iload 4, 2) := by decide +kernel
theorem dX1_settle_21 : decode cX1_settle 21 = .ok (.bipush 16, 2) := by decide +kernel
theorem dX1_settle_23 : decode cX1_settle 23 = .ok (.if_icmp .ge 45, 3) := by decide +kernel
theorem dX1_settle_26 : decode cX1_settle 26 = .ok (.aload_n 0, 1) := by decide +kernel
theorem dX1_settle_27 : decode cX1_settle 27 = .ok (.iload 4, 2) := by decide +kernel
theorem dX1_settle_29 : decode cX1_settle 29 = .ok (.invokevirtual 43, 3) := by decide +kernel
theorem dX1_settle_32 : decode cX1_settle 32 = .ok (.ifCond .eq 30, 3) := by decide +kernel
theorem dX1_settle_35 : decode cX1_settle 35 = .ok (.aload_n 0, 1) := by decide +kernel
theorem dX1_settle_36 : decode cX1_settle 36 = .ok (.getfield 15, 3) := by decide +kernel
theorem dX1_settle_39 : decode cX1_settle 39 = .ok (.iload 4, 2) := by decide +kernel
theorem dX1_settle_41 : decode cX1_settle 41 = .ok (.iaload, 1) := by decide +kernel
theorem dX1_settle_42 : decode cX1_settle 42 = .ok (.getstatic 120, 3) := by decide +kernel
theorem dX1_settle_45 : decode cX1_settle 45 = .ok (.aload_n 0, 1) := by decide +kernel
theorem dX1_settle_46 : decode cX1_settle 46 = .ok (.iload 4, 2) := by decide +kernel
theorem dX1_settle_48 : decode cX1_settle 48 = .ok (.invokevirtual 37, 3) := by decide +kernel
theorem dX1_settle_51 : decode cX1_settle 51 = .ok (.iaload, 1) := by decide +kernel
theorem dX1_settle_52 : decode cX1_settle 52 = .ok (.if_icmp .le 10, 3) := by decide +kernel
theorem dX1_settle_55 : decode cX1_settle 55 = .ok (.iload_n 3, 1) := by decide +kernel
theorem dX1_settle_56 : decode cX1_settle 56 = .ok (.iconst 1, 1) := by decide +kernel
theorem dX1_settle_57 : decode cX1_settle 57 = .ok (.iload 4, 2) := by decide +kernel
theorem dX1_settle_59 : decode cX1_settle 59 = .ok (.ishl, 1) := by decide +kernel
theorem dX1_settle_60 : decode cX1_settle 60 = .ok (.ior, 1) := by decide +kernel
theorem dX1_settle_61 : decode cX1_settle 61 = .ok (.istore_n 3, 1) := by decide +kernel
theorem dX1_settle_62 : decode cX1_settle 62 = .ok (.iinc 4 1, 3) := by decide +kernel
theorem dX1_settle_65 : decode cX1_settle 65 = .ok (.goto (-46), 3) := by decide +kernel
theorem dX1_settle_68 : decode cX1_settle 68 = .ok (.iload_n 3, 1) := by decide +kernel
theorem dX1_settle_69 : decode cX1_settle 69 = .ok (.ifCond .ne 6, 3) := by decide +kernel
theorem dX1_settle_72 : decode cX1_settle 72 = .ok (.goto 17, 3) := by decide +kernel
theorem dX1_settle_75 : decode cX1_settle 75 = .ok (.iload_n 1, 1) := by decide +kernel
theorem dX1_settle_76 : decode cX1_settle 76 = .ok (.aload_n 0, 1) := by decide +kernel
theorem dX1_settle_77 : decode cX1_settle 77 = .ok (.iload_n 3, 1) := by decide +kernel
theorem dX1_settle_78 : decode cX1_settle 78 = .ok (.invokevirtual 102, 3) := by decide +kernel
theorem dX1_settle_81 : decode cX1_settle 81 = .ok (.iadd, 1) := by decide +kernel
theorem dX1_settle_82 : decode cX1_settle 82 = .ok (.istore_n 1, 1) := by decide +kernel
theorem dX1_settle_83 : decode cX1_settle 83 = .ok (.iinc 2 1, 3) := by decide +kernel
theorem dX1_settle_86 : decode cX1_settle 86 = .ok (.goto (-82), 3) := by decide +kernel
theorem dX1_settle_89 : decode cX1_settle 89 = .ok (.iload_n 1, 1) := by decide +kernel
theorem dX1_settle_90 : decode cX1_settle 90 = .ok (.ireturn, 1) := by decide +kernel
theorem dX1_drop_0 : decode cX1_drop 0 = .ok (.aload_n 0, 1) := by decide +kernel
theorem dX1_drop_1 : decode cX1_drop 1 = .ok (.iload_n 1, 1) := by decide +kernel
theorem dX1_drop_2 : decode cX1_drop 2 = .ok (.invokevirtual 83, 3) := by decide +kernel
theorem dX1_drop_5 : decode cX1_drop 5 = .ok (.istore_n 2, 1) := by decide +kernel
theorem dX1_drop_6 : decode cX1_drop 6 = .ok (.aload_n 0, 1) := by decide +kernel
theorem dX1_drop_7 : decode cX1_drop 7 = .ok (.dup, 1) := by decide +kernel
theorem dX1_drop_8 : decode cX1_drop 8 = .ok (.getfield 18, 3) := by decide +kernel
theorem dX1_drop_11 : decode cX1_drop 11 = .ok (.iload_n 2, 1) := by decide +kernel
theorem dX1_drop_12 : decode cX1_drop 12 = .ok (.iconst (-1), 1) := by decide +kernel
theorem dX1_drop_13 : decode cX1_drop 13 = .ok (.ixor, 1) := by decide +kernel
theorem dX1_drop_14 : decode cX1_drop 14 = .ok (.iand, 1) := by decide +kernel
theorem dX1_drop_15 : decode cX1_drop 15 = .ok (.putfield 18, 3) := by decide +kernel
theorem dX1_drop_18 : decode cX1_drop 18 = .ok (.iload_n 2, 1) := by decide +kernel
theorem dX1_drop_19 : decode cX1_drop 19 = .ok (.invokestatic 28, 3) := by decide +kernel
theorem dX1_drop_22 : decode cX1_drop 22 = .ok (.istore_n 3, 1) := by decide +kernel
theorem dX1_drop_23 : decode cX1_drop 23 = .ok (.aload_n 0, 1) := by decide +kernel
theorem dX1_drop_24 : decode cX1_drop 24 = .ok (.dup, 1) := by decide +kernel
theorem dX1_drop_25 : decode cX1_drop 25 = .ok (.getfield 25, 3) := by decide +kernel
theorem dX1_drop_28 : decode cX1_drop 28 = .ok (.iload_n 3, 1) := by decide +kernel
theorem dX1_drop_29 : decode cX1_drop 29 = .ok (.iadd, 1) := by decide +kernel
theorem dX1_drop_30 : decode cX1_drop 30 = .ok (.putfield 25, 3) := by decide +kernel
theorem dX1_drop_33 : decode cX1_drop 33 = .ok (.iload_n 3, 1) := by decide +kernel
theorem dX1_drop_34 : decode cX1_drop 34 = .ok (.ireturn, 1) := by decide +kernel
theorem dX1_goneWith_0 : decode cX1_goneWith 0 = .ok (.iload_n 1, 1) := by decide +kernel
theorem dX1_goneWith_1 : decode cX1_goneWith 1 = .ok (.aload_n 0, 1) := by decide +kernel
theorem dX1_goneWith_2 : decode cX1_goneWith 2 = .ok (.getfield 18, 3) := by decide +kernel
theorem dX1_goneWith_5 : decode cX1_goneWith 5 = .ok (.iand, 1) := by decide +kernel
theorem dX1_goneWith_6 : decode cX1_goneWith 6 = .ok (.istore_n 2, 1) := by decide +kernel
theorem dX1_goneWith_7 : decode cX1_goneWith 7 = .ok (.iconst 0, 1) := by decide +kernel
theorem dX1_goneWith_8 : decode cX1_goneWith 8 = .ok (.istore_n 3, 1) := by decide +kernel
theorem dX1_goneWith_9 : decode cX1_goneWith 9 = .ok (.iload_n 3, 1) := by decide +kernel
theorem dX1_goneWith_10 : decode cX1_goneWith 10 = .ok (.bipush 16, 2) := by decide +kernel
theorem dX1_goneWith_12 : decode cX1_goneWith 12 = .ok (.if_icmp .ge 33, 3) := by decide +kernel
theorem dX1_goneWith_15 : decode cX1_goneWith 15 = .ok (.aload_n 0, 1) := by decide +kernel
theorem dX1_goneWith_16 : decode cX1_goneWith 16 = .ok (.iload_n 3, 1) := by decide +kernel
theorem dX1_goneWith_17 : decode cX1_goneWith 17 = .ok (.invokevirtual 43, 3) := by decide +kernel
theorem dX1_goneWith_20 : decode cX1_goneWith 20 = .ok (.ifCond .eq 19, 3) := by decide +kernel
theorem dX1_goneWith_23 : decode cX1_goneWith 23 = .ok (.getstatic 65, 3) := by decide +kernel
theorem dX1_goneWith_26 : decode cX1_goneWith 26 = .ok (.iload_n 3, 1) := by decide +kernel
theorem dX1_goneWith_27 : decode cX1_goneWith 27 = .ok (.iaload, 1) := by decide +kernel
theorem dX1_goneWith_28 : decode cX1_goneWith 28 = .ok (.iload_n 2, 1) := by decide +kernel
theorem dX1_goneWith_29 : decode cX1_goneWith 29 = .ok (.iand, 1) := by decide +kernel
theorem dX1_goneWith_30 : decode cX1_goneWith 30 = .ok (.ifCond .eq 9, 3) := by decide +kernel
theorem dX1_goneWith_33 : decode cX1_goneWith 33 = .ok (.iload_n 2, 1) := by decide +kernel
theorem dX1_goneWith_34 : decode cX1_goneWith 34 = .ok (.iconst 1, 1) := by decide +kernel
theorem dX1_goneWith_35 : decode cX1_goneWith 35 = .ok (.iload_n 3, 1) := by decide +kernel
theorem dX1_goneWith_36 : decode cX1_goneWith 36 = .ok (.ishl, 1) := by decide +kernel
theorem dX1_goneWith_37 : decode cX1_goneWith 37 = .ok (.ior, 1) := by decide +kernel
theorem dX1_goneWith_38 : decode cX1_goneWith 38 = .ok (.istore_n 2, 1) := by decide +kernel
theorem dX1_goneWith_39 : decode cX1_goneWith 39 = .ok (.iinc 3 1, 3) := by decide +kernel
theorem dX1_goneWith_42 : decode cX1_goneWith 42 = .ok (.goto (-33), 3) := by decide +kernel
theorem dX1_goneWith_45 : decode cX1_goneWith 45 = .ok (.iload_n 2, 1) := by decide +kernel
theorem dX1_goneWith_46 : decode cX1_goneWith 46 = .ok (.ireturn, 1) := by decide +kernel
theorem dX1_sizeWithout_0 : decode cX1_sizeWithout 0 = .ok (.aload_n 0, 1) := by decide +kernel
theorem dX1_sizeWithout_1 : decode cX1_sizeWithout 1 = .ok (.invokevirtual 123, 3) := by decide +kernel
theorem dX1_sizeWithout_4 : decode cX1_sizeWithout 4 = .ok (.aload_n 0, 1) := by decide +kernel
theorem dX1_sizeWithout_5 : decode cX1_sizeWithout 5 = .ok (.iload_n 1, 1) := by decide +kernel
theorem dX1_sizeWithout_6 : decode cX1_sizeWithout 6 = .ok (.invokevirtual 83, 3) := by decide +kernel
theorem dX1_sizeWithout_9 : decode cX1_sizeWithout 9 = .ok (.invokestatic 28, 3) := by decide +kernel
theorem dX1_sizeWithout_12 : decode cX1_sizeWithout 12 = .ok (.isub, 1) := by decide +kernel
theorem dX1_sizeWithout_13 : decode cX1_sizeWithout 13 = .ok (.ireturn, 1) := by decide +kernel
theorem dX1_missingFor_0 : decode cX1_missingFor 0 = .ok (.iconst 1, 1) := by decide +kernel
theorem dX1_missingFor_1 : decode cX1_missingFor 1 = .ok (.iload_n 1, 1) := by decide +kernel
theorem dX1_missingFor_2 : decode cX1_missingFor 2 = .ok (.ishl, 1) := by decide +kernel
theorem dX1_missingFor_3 : decode cX1_missingFor 3 = .ok (.istore_n 2, 1) := by decide +kernel
theorem dX1_missingFor_4 : decode cX1_missingFor 4 = .ok (.bipush 15, 2) := by decide +kernel
theorem dX1_missingFor_6 : decode cX1_missingFor 6 = .ok (.istore_n 3, 1) := by decide +kernel
theorem dX1_missingFor_7 : decode cX1_missingFor 7 = .ok (.iload_n 3, 1) := by decide +kernel
theorem dX1_missingFor_8 : decode cX1_missingFor 8 = .ok (.ifCond .lt 25, 3) := by decide +kernel
theorem dX1_missingFor_11 : decode cX1_missingFor 11 = .ok (.iload_n 2, 1) := by decide +kernel
theorem dX1_missingFor_12 : decode cX1_missingFor 12 = .ok (.iload_n 3, 1) := by decide +kernel
theorem dX1_missingFor_13 : decode cX1_missingFor 13 = .ok (.ishr, 1) := by decide +kernel
theorem dX1_missingFor_14 : decode cX1_missingFor 14 = .ok (.iconst 1, 1) := by decide +kernel
theorem dX1_missingFor_15 : decode cX1_missingFor 15 = .ok (.iand, 1) := by decide +kernel
theorem dX1_missingFor_16 : decode cX1_missingFor 16 = .ok (.ifCond .eq 11, 3) := by decide +kernel
theorem dX1_missingFor_19 : decode cX1_missingFor 19 = .ok (.iload_n 2, 1) := by decide +kernel
theorem dX1_missingFor_20 : decode cX1_missingFor 20 = .ok (.getstatic 65, 3) := by decide +kernel
theorem dX1_missingFor_23 : decode cX1_missingFor 23 = .ok (.iload_n 3, 1) := by decide +kernel
theorem dX1_missingFor_24 : decode cX1_missingFor 24 = .ok (.iaload, 1) := by decide +kernel
theorem dX1_missingFor_25 : decode cX1_missingFor 25 = .ok (.ior, 1) := by decide +kernel
theorem dX1_missingFor_26 : decode cX1_missingFor 26 = .ok (.istore_n 2, 1) := by decide +kernel
theorem dX1_missingFor_27 : decode cX1_missingFor 27 = .ok (.iinc 3 (-1), 3) := by decide +kernel
theorem dX1_missingFor_30 : decode cX1_missingFor 30 = .ok (.goto (-23), 3) := by decide +kernel
theorem dX1_missingFor_33 : decode cX1_missingFor 33 = .ok (.iload_n 2, 1) := by decide +kernel
theorem dX1_missingFor_34 : decode cX1_missingFor 34 = .ok (.aload_n 0, 1) := by decide +kernel
theorem dX1_missingFor_35 : decode cX1_missingFor 35 = .ok (.getfield 18, 3) := by decide +kernel
theorem dX1_missingFor_38 : decode cX1_missingFor 38 = .ok (.iconst (-1), 1) := by decide +kernel
theorem dX1_missingFor_39 : decode cX1_missingFor 39 = .ok (.ixor, 1) := by decide +kernel
theorem dX1_missingFor_40 : decode cX1_missingFor 40 = .ok (.iand, 1) := by decide +kernel
theorem dX1_missingFor_41 : decode cX1_missingFor 41 = .ok (.ireturn, 1) := by decide +kernel
theorem dX1_loadOf_0 : decode cX1_loadOf 0 = .ok (.aload_n 0, 1) := by decide +kernel
theorem dX1_loadOf_1 : decode cX1_loadOf 1 = .ok (.invokevirtual 93, 3) := by decide +kernel
theorem dX1_loadOf_4 : decode cX1_loadOf 4 = .ok (.iload_n 1, 1) := by decide +kernel
theorem dX1_loadOf_5 : decode cX1_loadOf 5 = .ok (.invokestatic 62, 3) := by decide +kernel
theorem dX1_loadOf_8 : decode cX1_loadOf 8 = .ok (.ifCond .eq 12, 3) := by decide +kernel
theorem dX1_loadOf_11 : decode cX1_loadOf 11 = .ok (.aload_n 0, 1) := by decide +kernel
theorem dX1_loadOf_12 : decode cX1_loadOf 12 = .ok (.getfield 15, 3) := by decide +kernel
theorem dX1_loadOf_15 : decode cX1_loadOf 15 = .ok (.iload_n 1, 1) := by decide +kernel
theorem dX1_loadOf_16 : decode cX1_loadOf 16 = .ok (.iaload, 1) := by decide +kernel
theorem dX1_loadOf_17 : decode cX1_loadOf 17 = .ok (.goto 4, 3) := by decide +kernel
theorem dX1_loadOf_20 : decode cX1_loadOf 20 = .ok (.iconst 0, 1) := by decide +kernel
theorem dX1_loadOf_21 : decode cX1_loadOf 21 = .ok (.ireturn, 1) := by decide +kernel
theorem dX1_weigh_0 : decode cX1_weigh 0 = .ok (.iconst 0, 1) := by decide +kernel
theorem dX1_weigh_1 : decode cX1_weigh 1 = .ok (.istore_n 1, 1) := by decide +kernel
theorem dX1_weigh_2 : decode cX1_weigh 2 = .ok (.iload_n 1, 1) := by decide +kernel
theorem dX1_weigh_3 : decode cX1_weigh 3 = .ok (.bipush 16, 2) := by decide +kernel
theorem dX1_weigh_5 : decode cX1_weigh 5 = .ok (.if_icmp .ge 16, 3) := by decide +kernel
theorem dX1_weigh_8 : decode cX1_weigh 8 = .ok (.aload_n 0, 1) := by decide +kernel
theorem dX1_weigh_9 : decode cX1_weigh 9 = .ok (.getfield 15, 3) := by decide +kernel
theorem dX1_weigh_12 : decode cX1_weigh 12 = .ok (.iload_n 1, 1) := by decide +kernel
theorem dX1_weigh_13 : decode cX1_weigh 13 = .ok (.iconst 0, 1) := by decide +kernel
theorem dX1_weigh_14 : decode cX1_weigh 14 = .ok (.iastore, 1) := by decide +kernel
theorem dX1_weigh_15 : decode cX1_weigh 15 = .ok (.iinc 1 1, 3) := by decide +kernel
theorem dX1_weigh_18 : decode cX1_weigh 18 = .ok (.goto (-16), 3) := by decide +kernel
theorem dX1_weigh_21 : decode cX1_weigh 21 = .ok (.bipush 15, 2) := by decide +kernel
theorem dX1_weigh_23 : decode cX1_weigh 23 = .ok (.istore_n 1, 1) := by decide +kernel
theorem dX1_weigh_24 : decode cX1_weigh 24 = .ok (.iload_n 1, 1) := by decide +kernel
theorem dX1_weigh_25 : decode cX1_weigh 25 = .ok (.ifCond .lt 98, 3) := by decide +kernel
theorem dX1_weigh_28 : decode cX1_weigh 28 = .ok (.aload_n 0, 1) := by decide +kernel
theorem dX1_weigh_29 : decode cX1_weigh 29 = .ok (.iload_n 1, 1) := by decide +kernel
theorem dX1_weigh_30 : decode cX1_weigh 30 = .ok (.invokevirtual 43, 3) := by decide +kernel
theorem dX1_weigh_33 : decode cX1_weigh 33 = .ok (.ifCond .eq 84, 3) := by decide +kernel
theorem dX1_weigh_36 : decode cX1_weigh 36 = .ok (.aload_n 0, 1) := by decide +kernel
theorem dX1_weigh_37 : decode cX1_weigh 37 = .ok (.iload_n 1, 1) := by decide +kernel
theorem dX1_weigh_38 : decode cX1_weigh 38 = .ok (.invokevirtual 126, 3) := by decide +kernel
theorem dX1_weigh_41 : decode cX1_weigh 41 = .ok (.aload_n 0, 1) := by decide +kernel
theorem dX1_weigh_42 : decode cX1_weigh 42 = .ok (.getfield 15, 3) := by decide +kernel
theorem dX1_weigh_45 : decode cX1_weigh 45 = .ok (.iload_n 1, 1) := by decide +kernel
theorem dX1_weigh_46 : decode cX1_weigh 46 = .ok (.iaload, 1) := by decide +kernel
theorem dX1_weigh_47 : decode cX1_weigh 47 = .ok (.iadd, 1) := by decide +kernel
theorem dX1_weigh_48 : decode cX1_weigh 48 = .ok (.istore_n 2, 1) := by decide +kernel
theorem dX1_weigh_49 : decode cX1_weigh 49 = .ok (.getstatic 129, 3) := by decide +kernel
theorem dX1_weigh_52 : decode cX1_weigh 52 = .ok (.iload_n 1, 1) := by decide +kernel
theorem dX1_weigh_53 : decode cX1_weigh 53 = .ok (.iaload, 1) := by decide +kernel
theorem dX1_weigh_54 : decode cX1_weigh 54 = .ok (.istore_n 3, 1) := by decide +kernel
theorem dX1_weigh_55 : decode cX1_weigh 55 = .ok (.getstatic 132, 3) := by decide +kernel
theorem dX1_weigh_58 : decode cX1_weigh 58 = .ok (.iload_n 1, 1) := by decide +kernel
theorem dX1_weigh_59 : decode cX1_weigh 59 = .ok (.iaload, 1) := by decide +kernel
theorem dX1_weigh_60 : decode cX1_weigh 60 = .ok (.istore 4, 2) := by decide +kernel
theorem dX1_weigh_62 : decode cX1_weigh 62 = .ok (.iload 4, 2) := by decide +kernel
theorem dX1_weigh_64 : decode cX1_weigh 64 = .ok (.invokestatic 62, 3) := by decide +kernel
theorem dX1_weigh_67 : decode cX1_weigh 67 = .ok (.ifCond .eq 9, 3) := by decide +kernel
theorem dX1_weigh_70 : decode cX1_weigh 70 = .ok (.iload_n 2, 1) := by decide +kernel
theorem dX1_weigh_71 : decode cX1_weigh 71 = .ok (.iconst 2, 1) := by decide +kernel
theorem dX1_weigh_72 : decode cX1_weigh 72 = .ok (.idiv, 1) := by decide +kernel
theorem dX1_weigh_73 : decode cX1_weigh 73 = .ok (.goto 4, 3) := by decide +kernel
theorem dX1_weigh_76 : decode cX1_weigh 76 = .ok (.iload_n 2, 1) := by decide +kernel
theorem dX1_weigh_77 : decode cX1_weigh 77 = .ok (.istore 5, 2) := by decide +kernel
theorem dX1_weigh_79 : decode cX1_weigh 79 = .ok (.iload_n 3, 1) := by decide +kernel
theorem dX1_weigh_80 : decode cX1_weigh 80 = .ok (.invokestatic 62, 3) := by decide +kernel
theorem dX1_weigh_83 : decode cX1_weigh 83 = .ok (.ifCond .eq 14, 3) := by decide +kernel
theorem dX1_weigh_86 : decode cX1_weigh 86 = .ok (.aload_n 0, 1) := by decide +kernel
theorem dX1_weigh_87 : decode cX1_weigh 87 = .ok (.getfield 15, 3) := by decide +kernel
theorem dX1_weigh_90 : decode cX1_weigh 90 = .ok (.iload_n 3, 1) := by decide +kernel
theorem dX1_weigh_91 : decode cX1_weigh 91 = .ok (.dup2, 1) := by decide +kernel
theorem dX1_weigh_92 : decode cX1_weigh 92 = .ok (.iaload, 1) := by decide +kernel
theorem dX1_weigh_93 : decode cX1_weigh 93 = .ok (.iload 5, 2) := by decide +kernel
theorem dX1_weigh_95 : decode cX1_weigh 95 = .ok (.iadd, 1) := by decide +kernel
theorem dX1_weigh_96 : decode cX1_weigh 96 = .ok (.iastore, 1) := by decide +kernel
theorem dX1_weigh_97 : decode cX1_weigh 97 = .ok (.iload 4, 2) := by decide +kernel
theorem dX1_weigh_99 : decode cX1_weigh 99 = .ok (.invokestatic 62, 3) := by decide +kernel
theorem dX1_weigh_102 : decode cX1_weigh 102 = .ok (.ifCond .eq 15, 3) := by decide +kernel
theorem dX1_weigh_105 : decode cX1_weigh 105 = .ok (.aload_n 0, 1) := by decide +kernel
theorem dX1_weigh_106 : decode cX1_weigh 106 = .ok (.getfield 15, 3) := by decide +kernel
theorem dX1_weigh_109 : decode cX1_weigh 109 = .ok (.iload 4, 2) := by decide +kernel
theorem dX1_weigh_111 : decode cX1_weigh 111 = .ok (.dup2, 1) := by decide +kernel
theorem dX1_weigh_112 : decode cX1_weigh 112 = .ok (.iaload, 1) := by decide +kernel
theorem dX1_weigh_113 : decode cX1_weigh 113 = .ok (.iload 5, 2) := by decide +kernel
theorem dX1_weigh_115 : decode cX1_weigh 115 = .ok (.iadd, 1) := by decide +kernel
theorem dX1_weigh_116 : decode cX1_weigh 116 = .ok (.iastore, 1) := by decide +kernel
theorem dX1_weigh_117 : decode cX1_weigh 117 = .ok (.iinc 1 (-1), 3) := by decide +kernel
theorem dX1_weigh_120 : decode cX1_weigh 120 = .ok (.goto (-96), 3) := by decide +kernel
theorem dX1_weigh_123 : decode cX1_weigh 123 = .ok (.return_, 1) := by decide +kernel
theorem dX2_init_0 : decode cX2_init 0 = .ok (.aload_n 0, 1) := by decide +kernel
theorem dX2_init_1 : decode cX2_init 1 = .ok (.invokespecial 1, 3) := by decide +kernel
theorem dX2_init_4 : decode cX2_init 4 = .ok (.aload_n 0, 1) := by decide +kernel
theorem dX2_init_5 : decode cX2_init 5 = .ok (.iconst 0, 1) := by decide +kernel
theorem dX2_init_6 : decode cX2_init 6 = .ok (.iload_n 1, 1) := by decide +kernel
theorem dX2_init_7 : decode cX2_init 7 = .ok (.invokestatic 7, 3) := by decide +kernel
theorem dX2_init_10 : decode cX2_init 10 = .ok (.putfield 13, 3) := by decide +kernel
theorem dX2_init_13 : decode cX2_init 13 = .ok (.aload_n 0, 1) := by decide +kernel
theorem dX2_init_14 : decode cX2_init 14 = .ok (.aload_n 0, 1) := by decide +kernel
theorem dX2_init_15 : decode cX2_init 15 = .ok (.getfield 13, 3) := by decide +kernel
theorem dX2_init_18 : decode cX2_init 18 = .ok (.newarray .int, 2) := by decide +kernel
theorem dX2_init_20 : decode cX2_init 20 = .ok (.putfield 19, 3) := by decide +kernel
theorem dX2_init_23 : decode cX2_init 23 = .ok (.aload_n 0, 1) := by decide +kernel
theorem dX2_init_24 : decode cX2_init 24 = .ok (.aload_n 0, 1) := by decide +kernel
theorem dX2_init_25 : decode cX2_init 25 = .ok (.getfield 13, 3) := by decide +kernel
theorem dX2_init_28 : decode cX2_init 28 = .ok (.newarray .int, 2) := by decide +kernel
theorem dX2_init_30 : decode cX2_init 30 = .ok (.putfield 23, 3) := by decide +kernel
theorem dX2_init_33 : decode cX2_init 33 = .ok (.aload_n 0, 1) := by decide +kernel
theorem dX2_init_34 : decode cX2_init 34 = .ok (.aload_n 0, 1) := by decide +kernel
theorem dX2_init_35 : decode cX2_init 35 = .ok (.getfield 13, 3) := by decide +kernel
theorem dX2_init_38 : decode cX2_init 38 = .ok (.newarray .int, 2) := by decide +kernel
theorem dX2_init_40 : decode cX2_init 40 = .ok (.putfield 26, 3) := by decide +kernel
theorem dX2_init_43 : decode cX2_init 43 = .ok (.return_, 1) := by decide +kernel
theorem dX2_store_0 : decode cX2_store 0 = .ok (.iload_n 1, 1) := by decide +kernel
theorem dX2_store_1 : decode cX2_store 1 = .ok (.ifCond .lt 11, 3) := by decide +kernel
theorem dX2_store_4 : decode cX2_store 4 = .ok (.iload_n 1, 1) := by decide +kernel
theorem dX2_store_5 : decode cX2_store 5 = .ok (.aload_n 0, 1) := by decide +kernel
theorem dX2_store_6 : decode cX2_store 6 = .ok (.getfield 13, 3) := by decide +kernel
theorem dX2_store_9 : decode cX2_store 9 = .ok (.if_icmp .lt 4, 3) := by decide +kernel
theorem dX2_store_12 : decode cX2_store 12 = .ok (.return_, 1) := by decide +kernel
theorem dX2_store_13 : decode cX2_store 13 = .ok (.aload_n 0, 1) := by decide +kernel
theorem dX2_store_14 : decode cX2_store 14 = .ok (.getfield 19, 3) := by decide +kernel
theorem dX2_store_17 : decode cX2_store 17 = .ok (.iload_n 1, 1) := by decide +kernel
theorem dX2_store_18 : decode cX2_store 18 = .ok (.aload_n 2, 1) := by decide +kernel
theorem dX2_store_19 : decode cX2_store 19 = .ok (.getfield 29, 3) := by decide +kernel
theorem dX2_store_22 : decode cX2_store 22 = .ok (.iastore, 1) := by decide +kernel
theorem dX2_store_23 : decode cX2_store 23 = .ok (.aload_n 0, 1) := by decide +kernel
theorem dX2_store_24 : decode cX2_store 24 = .ok (.getfield 23, 3) := by decide +kernel
theorem dX2_store_27 : decode cX2_store 27 = .ok (.iload_n 1, 1) := by decide +kernel
theorem dX2_store_28 : decode cX2_store 28 = .ok (.aload_n 2, 1) := by decide +kernel
theorem dX2_store_29 : decode cX2_store 29 = .ok (.getfield 33, 3) := by decide +kernel
theorem dX2_store_32 : decode cX2_store 32 = .ok (.iastore, 1) := by decide +kernel
theorem dX2_store_33 : decode cX2_store 33 = .ok (.aload_n 0, 1) := by decide +kernel
theorem dX2_store_34 : decode cX2_store 34 = .ok (.getfield 26, 3) := by decide +kernel
theorem dX2_store_37 : decode cX2_store 37 = .ok (.iload_n 1, 1) := by decide +kernel
theorem dX2_store_38 : decode cX2_store 38 = .ok (.aload_n 2, 1) := by decide +kernel
theorem dX2_store_39 : decode cX2_store 39 = .ok (.getfield 35, 3) := by decide +kernel
theorem dX2_store_42 : decode cX2_store 42 = .ok (.iastore, 1) := by decide +kernel
theorem dX2_store_43 : decode cX2_store 43 = .ok (.return_, 1) := by decide +kernel
theorem dX2_restore_0 : decode cX2_restore 0 = .ok (.iload_n 1, 1) := by decide +kernel
theorem dX2_restore_1 : decode cX2_restore 1 = .ok (.ifCond .lt 11, 3) := by decide +kernel
theorem dX2_restore_4 : decode cX2_restore 4 = .ok (.iload_n 1, 1) := by decide +kernel
theorem dX2_restore_5 : decode cX2_restore 5 = .ok (.aload_n 0, 1) := by decide +kernel
theorem dX2_restore_6 : decode cX2_restore 6 = .ok (.getfield 13, 3) := by decide +kernel
theorem dX2_restore_9 : decode cX2_restore 9 = .ok (.if_icmp .lt 4, 3) := by decide +kernel
theorem dX2_restore_12 : decode cX2_restore 12 = .ok (.return_, 1) := by decide +kernel
theorem dX2_restore_13 : decode cX2_restore 13 = .ok (.aload_n 2, 1) := by decide +kernel
theorem dX2_restore_14 : decode cX2_restore 14 = .ok (.aload_n 0, 1) := by decide +kernel
theorem dX2_restore_15 : decode cX2_restore 15 = .ok (.getfield 19, 3) := by decide +kernel
theorem dX2_restore_18 : decode cX2_restore 18 = .ok (.iload_n 1, 1) := by decide +kernel
theorem dX2_restore_19 : decode cX2_restore 19 = .ok (.iaload, 1) := by decide +kernel
theorem dX2_restore_20 : decode cX2_restore 20 = .ok (.putfield 29, 3) := by decide +kernel
theorem dX2_restore_23 : decode cX2_restore 23 = .ok (.aload_n 2, 1) := by decide +kernel
theorem dX2_restore_24 : decode cX2_restore 24 = .ok (.aload_n 0, 1) := by decide +kernel
theorem dX2_restore_25 : decode cX2_restore 25 = .ok (.getfield 23, 3) := by decide +kernel
theorem dX2_restore_28 : decode cX2_restore 28 = .ok (.iload_n 1, 1) := by decide +kernel
theorem dX2_restore_29 : decode cX2_restore 29 = .ok (.iaload, 1) := by decide +kernel
theorem dX2_restore_30 : decode cX2_restore 30 = .ok (.putfield 33, 3) := by decide +kernel
theorem dX2_restore_33 : decode cX2_restore 33 = .ok (.aload_n 2, 1) := by decide +kernel
theorem dX2_restore_34 : decode cX2_restore 34 = .ok (.aload_n 0, 1) := by decide +kernel
theorem dX2_restore_35 : decode cX2_restore 35 = .ok (.getfield 26, 3) := by decide +kernel
theorem dX2_restore_38 : decode cX2_restore 38 = .ok (.iload_n 1, 1) := by decide +kernel
theorem dX2_restore_39 : decode cX2_restore 39 = .ok (.iaload, 1) := by decide +kernel
theorem dX2_restore_40 : decode cX2_restore 40 = .ok (.putfield 35, 3) := by decide +kernel
theorem dX2_restore_43 : decode cX2_restore 43 = .ok (.return_, 1) := by decide +kernel
theorem dX2_forgetFirst_0 : decode cX2_forgetFirst 0 = .ok (.iconst 1, 1) := by decide +kernel
theorem dX2_forgetFirst_1 : decode cX2_forgetFirst 1 = .ok (.istore_n 1, 1) := by decide +kernel
theorem dX2_forgetFirst_2 : decode cX2_forgetFirst 2 = .ok (.iload_n 1, 1) := by decide +kernel
theorem dX2_forgetFirst_3 : decode cX2_forgetFirst 3 = .ok (.aload_n 0, 1) := by decide +kernel
theorem dX2_forgetFirst_4 : decode cX2_forgetFirst 4 = .ok (.getfield 13, 3) := by decide +kernel
theorem dX2_forgetFirst_7 : decode cX2_forgetFirst 7 = .ok (.if_icmp .ge 51, 3) := by decide +kernel
theorem dX2_forgetFirst_10 : decode cX2_forgetFirst 10 = .ok (.aload_n 0, 1) := by decide +kernel
theorem dX2_forgetFirst_11 : decode cX2_forgetFirst 11 = .ok (.getfield 19, 3) := by decide +kernel
theorem dX2_forgetFirst_14 : decode cX2_forgetFirst 14 = .ok (.iload_n 1, 1) := by decide +kernel
theorem dX2_forgetFirst_15 : decode cX2_forgetFirst 15 = .ok (.iconst 1, 1) := by decide +kernel
theorem dX2_forgetFirst_16 : decode cX2_forgetFirst 16 = .ok (.isub, 1) := by decide +kernel
theorem dX2_forgetFirst_17 : decode cX2_forgetFirst 17 = .ok (.aload_n 0, 1) := by decide +kernel
theorem dX2_forgetFirst_18 : decode cX2_forgetFirst 18 = .ok (.getfield 19, 3) := by decide +kernel
theorem dX2_forgetFirst_21 : decode cX2_forgetFirst 21 = .ok (.iload_n 1, 1) := by decide +kernel
theorem dX2_forgetFirst_22 : decode cX2_forgetFirst 22 = .ok (.iaload, 1) := by decide +kernel
theorem dX2_forgetFirst_23 : decode cX2_forgetFirst 23 = .ok (.iastore, 1) := by decide +kernel
theorem dX2_forgetFirst_24 : decode cX2_forgetFirst 24 = .ok (.aload_n 0, 1) := by decide +kernel
theorem dX2_forgetFirst_25 : decode cX2_forgetFirst 25 = .ok (.getfield 23, 3) := by decide +kernel
theorem dX2_forgetFirst_28 : decode cX2_forgetFirst 28 = .ok (.iload_n 1, 1) := by decide +kernel
theorem dX2_forgetFirst_29 : decode cX2_forgetFirst 29 = .ok (.iconst 1, 1) := by decide +kernel
theorem dX2_forgetFirst_30 : decode cX2_forgetFirst 30 = .ok (.isub, 1) := by decide +kernel
theorem dX2_forgetFirst_31 : decode cX2_forgetFirst 31 = .ok (.aload_n 0, 1) := by decide +kernel
theorem dX2_forgetFirst_32 : decode cX2_forgetFirst 32 = .ok (.getfield 23, 3) := by decide +kernel
theorem dX2_forgetFirst_35 : decode cX2_forgetFirst 35 = .ok (.iload_n 1, 1) := by decide +kernel
theorem dX2_forgetFirst_36 : decode cX2_forgetFirst 36 = .ok (.iaload, 1) := by decide +kernel
theorem dX2_forgetFirst_37 : decode cX2_forgetFirst 37 = .ok (.iastore, 1) := by decide +kernel
theorem dX2_forgetFirst_38 : decode cX2_forgetFirst 38 = .ok (.aload_n 0, 1) := by decide +kernel
theorem dX2_forgetFirst_39 : decode cX2_forgetFirst 39 = .ok (.getfield 26, 3) := by decide +kernel
theorem dX2_forgetFirst_42 : decode cX2_forgetFirst 42 = .ok (.iload_n 1, 1) := by decide +kernel
theorem dX2_forgetFirst_43 : decode cX2_forgetFirst 43 = .ok (.iconst 1, 1) := by decide +kernel
theorem dX2_forgetFirst_44 : decode cX2_forgetFirst 44 = .ok (.isub, 1) := by decide +kernel
theorem dX2_forgetFirst_45 : decode cX2_forgetFirst 45 = .ok (.aload_n 0, 1) := by decide +kernel
theorem dX2_forgetFirst_46 : decode cX2_forgetFirst 46 = .ok (.getfield 26, 3) := by decide +kernel
theorem dX2_forgetFirst_49 : decode cX2_forgetFirst 49 = .ok (.iload_n 1, 1) := by decide +kernel
theorem dX2_forgetFirst_50 : decode cX2_forgetFirst 50 = .ok (.iaload, 1) := by decide +kernel
theorem dX2_forgetFirst_51 : decode cX2_forgetFirst 51 = .ok (.iastore, 1) := by decide +kernel
theorem dX2_forgetFirst_52 : decode cX2_forgetFirst 52 = .ok (.iinc 1 1, 3) := by decide +kernel
theorem dX2_forgetFirst_55 : decode cX2_forgetFirst 55 = .ok (.goto (-53), 3) := by decide +kernel
theorem dX2_forgetFirst_58 : decode cX2_forgetFirst 58 = .ok (.return_, 1) := by decide +kernel
theorem dX3_init_0 : decode cX3_init 0 = .ok (.aload_n 0, 1) := by decide +kernel
theorem dX3_init_1 : decode cX3_init 1 = .ok (.invokespecial 3, 3) := by decide +kernel
theorem dX3_init_4 : decode cX3_init 4 = .ok (.aload_n 0, 1) := by decide +kernel
theorem dX3_init_5 : decode cX3_init 5 = .ok (.bipush 56, 2) := by decide +kernel
theorem dX3_init_7 : decode cX3_init 7 = .ok (.newarray .int, 2) := by decide +kernel
theorem dX3_init_9 : decode cX3_init 9 = .ok (.putfield 9, 3) := by decide +kernel
theorem dX3_init_12 : decode cX3_init 12 = .ok (.return_, 1) := by decide +kernel
theorem dX3_append_0 : decode cX3_append 0 = .ok (.aload_n 0, 1) := by decide +kernel
theorem dX3_append_1 : decode cX3_append 1 = .ok (.getfield 15, 3) := by decide +kernel
theorem dX3_append_4 : decode cX3_append 4 = .ok (.ifCond .lt 12, 3) := by decide +kernel
theorem dX3_append_7 : decode cX3_append 7 = .ok (.aload_n 0, 1) := by decide +kernel
theorem dX3_append_8 : decode cX3_append 8 = .ok (.getfield 15, 3) := by decide +kernel
theorem dX3_append_11 : decode cX3_append 11 = .ok (.bipush 56, 2) := by decide +kernel
theorem dX3_append_13 : decode cX3_append 13 = .ok (.if_icmp .lt 4, 3) := by decide +kernel
theorem dX3_append_16 : decode cX3_append 16 = .ok (.return_, 1) := by decide +kernel
theorem dX3_append_17 : decode cX3_append 17 = .ok (.aload_n 0, 1) := by decide +kernel
theorem dX3_append_18 : decode cX3_append 18 = .ok (.getfield 9, 3) := by decide +kernel
theorem dX3_append_21 : decode cX3_append 21 = .ok (.aload_n 0, 1) := by decide +kernel
theorem dX3_append_22 : decode cX3_append 22 = .ok (.getfield 15, 3) := by decide +kernel
theorem dX3_append_25 : decode cX3_append 25 = .ok (.iload_n 1, 1) := by decide +kernel
theorem dX3_append_26 : decode cX3_append 26 = .ok (.iastore, 1) := by decide +kernel
theorem dX3_append_27 : decode cX3_append 27 = .ok (.aload_n 0, 1) := by decide +kernel
theorem dX3_append_28 : decode cX3_append 28 = .ok (.dup, 1) := by decide +kernel
theorem dX3_append_29 : decode cX3_append 29 = .ok (.getfield 15, 3) := by decide +kernel
theorem dX3_append_32 : decode cX3_append 32 = .ok (.iconst 1, 1) := by decide +kernel
theorem dX3_append_33 : decode cX3_append 33 = .ok (.iadd, 1) := by decide +kernel
theorem dX3_append_34 : decode cX3_append 34 = .ok (.putfield 15, 3) := by decide +kernel
theorem dX3_append_37 : decode cX3_append 37 = .ok (.return_, 1) := by decide +kernel
theorem dX3_readInto_0 : decode cX3_readInto 0 = .ok (.aload_n 1, 1) := by decide +kernel
theorem dX3_readInto_1 : decode cX3_readInto 1 = .ok (.invokevirtual 19, 3) := by decide +kernel
theorem dX3_readInto_4 : decode cX3_readInto 4 = .ok (.iconst 0, 1) := by decide +kernel
theorem dX3_readInto_5 : decode cX3_readInto 5 = .ok (.istore_n 2, 1) := by decide +kernel
theorem dX3_readInto_6 : decode cX3_readInto 6 = .ok (.iload_n 2, 1) := by decide +kernel
theorem dX3_readInto_7 : decode cX3_readInto 7 = .ok (.aload_n 0, 1) := by decide +kernel
theorem dX3_readInto_8 : decode cX3_readInto 8 = .ok (.getfield 15, 3) := by decide +kernel
theorem dX3_readInto_11 : decode cX3_readInto 11 = .ok (.if_icmp .ge 32, 3) := by decide +kernel
theorem dX3_readInto_14 : decode cX3_readInto 14 = .ok (.iload_n 2, 1) := by decide +kernel
theorem dX3_readInto_15 : decode cX3_readInto 15 = .ok (.bipush 56, 2) := by decide +kernel
theorem dX3_readInto_17 : decode cX3_readInto 17 = .ok (.if_icmp .ge 26, 3) := by decide +kernel
theorem dX3_readInto_20 : decode cX3_readInto 20 = .ok (.aload_n 0, 1) := by decide +kernel
theorem dX3_readInto_21 : decode cX3_readInto 21 = .ok (.aload_n 1, 1) := by decide +kernel
theorem dX3_readInto_22 : decode cX3_readInto 22 = .ok (.iload_n 2, 1) := by decide +kernel
theorem dX3_readInto_23 : decode cX3_readInto 23 = .ok (.aload_n 0, 1) := by decide +kernel
theorem dX3_readInto_24 : decode cX3_readInto 24 = .ok (.getfield 9, 3) := by decide +kernel
theorem dX3_readInto_27 : decode cX3_readInto 27 = .ok (.iload_n 2, 1) := by decide +kernel
theorem dX3_readInto_28 : decode cX3_readInto 28 = .ok (.iaload, 1) := by decide +kernel
theorem dX3_readInto_29 : decode cX3_readInto 29 = .ok (.invokevirtual 24, 3) := by decide +kernel
theorem dX3_readInto_32 : decode cX3_readInto 32 = .ok (.ifCond .ne 5, 3) := by decide +kernel
theorem dX3_readInto_35 : decode cX3_readInto 35 = .ok (.iload_n 2, 1) := by decide +kernel
theorem dX3_readInto_36 : decode cX3_readInto 36 = .ok (.ireturn, 1) := by decide +kernel
theorem dX3_readInto_37 : decode cX3_readInto 37 = .ok (.iinc 2 1, 3) := by decide +kernel
theorem dX3_readInto_40 : decode cX3_readInto 40 = .ok (.goto (-34), 3) := by decide +kernel
theorem dX3_readInto_43 : decode cX3_readInto 43 = .ok (.aload_n 0, 1) := by decide +kernel
theorem dX3_readInto_44 : decode cX3_readInto 44 = .ok (.getfield 15, 3) := by decide +kernel
theorem dX3_readInto_47 : decode cX3_readInto 47 = .ok (.iconst 5, 1) := by decide +kernel
theorem dX3_readInto_48 : decode cX3_readInto 48 = .ok (.if_icmp .lt 18, 3) := by decide +kernel
theorem dX3_readInto_51 : decode cX3_readInto 51 = .ok (.aload_n 0, 1) := by decide +kernel
theorem dX3_readInto_52 : decode cX3_readInto 52 = .ok (.getfield 15, 3) := by decide +kernel
theorem dX3_readInto_55 : decode cX3_readInto 55 = .ok (.iconst 5, 1) := by decide +kernel
theorem dX3_readInto_56 : decode cX3_readInto 56 = .ok (.isub, 1) := by decide +kernel
theorem dX3_readInto_57 : decode cX3_readInto 57 = .ok (.iconst 3, 1) := by decide +kernel
theorem dX3_readInto_58 : decode cX3_readInto 58 = .ok (.irem, 1) := by decide +kernel
theorem dX3_readInto_59 : decode cX3_readInto 59 = .ok (.ifCond .ne 7, 3) := by decide +kernel
theorem dX3_readInto_62 : decode cX3_readInto 62 = .ok (.iconst 1, 1) := by decide +kernel
theorem dX3_readInto_63 : decode cX3_readInto 63 = .ok (.goto 4, 3) := by decide +kernel
theorem dX3_readInto_66 : decode cX3_readInto 66 = .ok (.iconst 0, 1) := by decide +kernel
theorem dX3_readInto_67 : decode cX3_readInto 67 = .ok (.istore_n 2, 1) := by decide +kernel
theorem dX3_readInto_68 : decode cX3_readInto 68 = .ok (.iload_n 2, 1) := by decide +kernel
theorem dX3_readInto_69 : decode cX3_readInto 69 = .ok (.ifCond .eq 8, 3) := by decide +kernel
theorem dX3_readInto_72 : decode cX3_readInto 72 = .ok (.bipush (-9), 2) := by decide +kernel
theorem dX3_readInto_74 : decode cX3_readInto 74 = .ok (.goto 7, 3) := by decide +kernel
theorem dX3_readInto_77 : decode cX3_readInto 77 = .ok (.aload_n 0, 1) := by decide +kernel
theorem dX3_readInto_78 : decode cX3_readInto 78 = .ok (.getfield 15, 3) := by decide +kernel
theorem dX3_readInto_81 : decode cX3_readInto 81 = .ok (.ireturn, 1) := by decide +kernel
theorem dX3_readLetter_0 : decode cX3_readLetter 0 = .ok (.iload_n 2, 1) := by decide +kernel
theorem dX3_readLetter_1 : decode cX3_readLetter 1 = .ok (.ifCond .ne 15, 3) := by decide +kernel
theorem dX3_readLetter_4 : decode cX3_readLetter 4 = .ok (.iload_n 3, 1) := by decide +kernel
theorem dX3_readLetter_5 : decode cX3_readLetter 5 = .ok (.bipush 67, 2) := by decide +kernel
theorem dX3_readLetter_7 : decode cX3_readLetter 7 = .ok (.if_icmp .ne 7, 3) := by decide +kernel
theorem dX3_readLetter_10 : decode cX3_readLetter 10 = .ok (.iconst 1, 1) := by decide +kernel
theorem dX3_readLetter_11 : decode cX3_readLetter 11 = .ok (.goto 4, 3) := by decide +kernel
theorem dX3_readLetter_14 : decode cX3_readLetter 14 = .ok (.iconst 0, 1) := by decide +kernel
theorem dX3_readLetter_15 : decode cX3_readLetter 15 = .ok (.ireturn, 1) := by decide +kernel
theorem dX3_readLetter_16 : decode cX3_readLetter 16 = .ok (.iload_n 2, 1) := by decide +kernel
theorem dX3_readLetter_17 : decode cX3_readLetter 17 = .ok (.iconst 5, 1) := by decide +kernel
theorem dX3_readLetter_18 : decode cX3_readLetter 18 = .ok (.if_icmp .ge 15, 3) := by decide +kernel
theorem dX3_readLetter_21 : decode cX3_readLetter 21 = .ok (.aload_n 1, 1) := by decide +kernel
theorem dX3_readLetter_22 : decode cX3_readLetter 22 = .ok (.iload_n 2, 1) := by decide +kernel
theorem dX3_readLetter_23 : decode cX3_readLetter 23 = .ok (.iconst 1, 1) := by decide +kernel
theorem dX3_readLetter_24 : decode cX3_readLetter 24 = .ok (.isub, 1) := by decide +kernel
theorem dX3_readLetter_25 : decode cX3_readLetter 25 = .ok (.iload_n 3, 1) := by decide +kernel
theorem dX3_readLetter_26 : decode cX3_readLetter 26 = .ok (.bipush 48, 2) := by decide +kernel
theorem dX3_readLetter_28 : decode cX3_readLetter 28 = .ok (.isub, 1) := by decide +kernel
theorem dX3_readLetter_29 : decode cX3_readLetter 29 = .ok (.invokestatic 28, 3) := by decide +kernel
theorem dX3_readLetter_32 : decode cX3_readLetter 32 = .ok (.ireturn, 1) := by decide +kernel
theorem dX3_readLetter_33 : decode cX3_readLetter 33 = .ok (.iload_n 2, 1) := by decide +kernel
theorem dX3_readLetter_34 : decode cX3_readLetter 34 = .ok (.iconst 5, 1) := by decide +kernel
theorem dX3_readLetter_35 : decode cX3_readLetter 35 = .ok (.isub, 1) := by decide +kernel
theorem dX3_readLetter_36 : decode cX3_readLetter 36 = .ok (.iconst 3, 1) := by decide +kernel
theorem dX3_readLetter_37 : decode cX3_readLetter 37 = .ok (.irem, 1) := by decide +kernel
theorem dX3_readLetter_38 : decode cX3_readLetter 38 = .ok (.lookupswitch 58 #[(0, 26), (1, 45)], 26) := by decide +kernel
theorem dX3_readLetter_64 : decode cX3_readLetter 64 = .ok (.iload_n 3, 1) := by decide +kernel
theorem dX3_readLetter_65 : decode cX3_readLetter 65 = .ok (.bipush 80, 2) := by decide +kernel
theorem dX3_readLetter_67 : decode cX3_readLetter 67 = .ok (.if_icmp .ne 14, 3) := by decide +kernel
theorem dX3_readLetter_70 : decode cX3_readLetter 70 = .ok (.aload_n 1, 1) := by decide +kernel
theorem dX3_readLetter_71 : decode cX3_readLetter 71 = .ok (.invokestatic 31, 3) := by decide +kernel
theorem dX3_readLetter_74 : decode cX3_readLetter 74 = .ok (.ifCond .eq 7, 3) := by decide +kernel
theorem dX3_readLetter_77 : decode cX3_readLetter 77 = .ok (.iconst 1, 1) := by decide +kernel
theorem dX3_readLetter_78 : decode cX3_readLetter 78 = .ok (.goto 4, 3) := by decide +kernel
theorem dX3_readLetter_81 : decode cX3_readLetter 81 = .ok (.iconst 0, 1) := by decide +kernel
theorem dX3_readLetter_82 : decode cX3_readLetter 82 = .ok (.ireturn, 1) := by decide +kernel
theorem dX3_readLetter_83 : decode cX3_readLetter 83 = .ok (.aload_n 1, 1) := by decide +kernel
theorem dX3_readLetter_84 : decode cX3_readLetter 84 = .ok (.iload_n 3, 1) := by decide +kernel
theorem dX3_readLetter_85 : decode cX3_readLetter 85 = .ok (.bipush 97, 2) := by decide +kernel
theorem dX3_readLetter_87 : decode cX3_readLetter 87 = .ok (.isub, 1) := by decide +kernel
theorem dX3_readLetter_88 : decode cX3_readLetter 88 = .ok (.aload_n 1, 1) := by decide +kernel
theorem dX3_readLetter_89 : decode cX3_readLetter 89 = .ok (.invokevirtual 35, 3) := by decide +kernel
theorem dX3_readLetter_92 : decode cX3_readLetter 92 = .ok (.invokestatic 39, 3) := by decide +kernel
theorem dX3_readLetter_95 : decode cX3_readLetter 95 = .ok (.ireturn, 1) := by decide +kernel
theorem dX3_readLetter_96 : decode cX3_readLetter 96 = .ok (.aload_n 1, 1) := by decide +kernel
theorem dX3_readLetter_97 : decode cX3_readLetter 97 = .ok (.aload_n 0, 1) := by decide +kernel
theorem dX3_readLetter_98 : decode cX3_readLetter 98 = .ok (.getfield 9, 3) := by decide +kernel
theorem dX3_readLetter_101 : decode cX3_readLetter 101 = .ok (.iload_n 2, 1) := by decide +kernel
theorem dX3_readLetter_102 : decode cX3_readLetter 102 = .ok (.iconst 1, 1) := by decide +kernel
theorem dX3_readLetter_103 : decode cX3_readLetter 103 = .ok (.isub, 1) := by decide +kernel
theorem dX3_readLetter_104 : decode cX3_readLetter 104 = .ok (.iaload, 1) := by decide +kernel
theorem dX3_readLetter_105 : decode cX3_readLetter 105 = .ok (.bipush 97, 2) := by decide +kernel
theorem dX3_readLetter_107 : decode cX3_readLetter 107 = .ok (.isub, 1) := by decide +kernel
theorem dX3_readLetter_108 : decode cX3_readLetter 108 = .ok (.iload_n 3, 1) := by decide +kernel
theorem dX3_readLetter_109 : decode cX3_readLetter 109 = .ok (.bipush 48, 2) := by decide +kernel
theorem dX3_readLetter_111 : decode cX3_readLetter 111 = .ok (.isub, 1) := by decide +kernel
theorem dX3_readLetter_112 : decode cX3_readLetter 112 = .ok (.invokestatic 42, 3) := by decide +kernel
theorem dX3_readLetter_115 : decode cX3_readLetter 115 = .ok (.ireturn, 1) := by decide +kernel
theorem dX3_readFigure_0 : decode cX3_readFigure 0 = .ok (.iload_n 2, 1) := by decide +kernel
theorem dX3_readFigure_1 : decode cX3_readFigure 1 = .ok (.ifCond .lt 16, 3) := by decide +kernel
theorem dX3_readFigure_4 : decode cX3_readFigure 4 = .ok (.iload_n 2, 1) := by decide +kernel
theorem dX3_readFigure_5 : decode cX3_readFigure 5 = .ok (.bipush 9, 2) := by decide +kernel
theorem dX3_readFigure_7 : decode cX3_readFigure 7 = .ok (.if_icmp .gt 10, 3) := by decide +kernel
theorem dX3_readFigure_10 : decode cX3_readFigure 10 = .ok (.iload_n 1, 1) := by decide +kernel
theorem dX3_readFigure_11 : decode cX3_readFigure 11 = .ok (.invokestatic 45, 3) := by decide +kernel
theorem dX3_readFigure_14 : decode cX3_readFigure 14 = .ok (.ifCond .ne 5, 3) := by decide +kernel
theorem dX3_readFigure_17 : decode cX3_readFigure 17 = .ok (.iconst 0, 1) := by decide +kernel
theorem dX3_readFigure_18 : decode cX3_readFigure 18 = .ok (.ireturn, 1) := by decide +kernel
theorem dX3_readFigure_19 : decode cX3_readFigure 19 = .ok (.aload_n 0, 1) := by decide +kernel
theorem dX3_readFigure_20 : decode cX3_readFigure 20 = .ok (.getfield 49, 3) := by decide +kernel
theorem dX3_readFigure_23 : decode cX3_readFigure 23 = .ok (.iload_n 1, 1) := by decide +kernel
theorem dX3_readFigure_24 : decode cX3_readFigure 24 = .ok (.iconst 3, 1) := by decide +kernel
theorem dX3_readFigure_25 : decode cX3_readFigure 25 = .ok (.iload_n 2, 1) := by decide +kernel
theorem dX3_readFigure_26 : decode cX3_readFigure 26 = .ok (.imul, 1) := by decide +kernel
theorem dX3_readFigure_27 : decode cX3_readFigure 27 = .ok (.iastore, 1) := by decide +kernel
theorem dX3_readFigure_28 : decode cX3_readFigure 28 = .ok (.iconst 1, 1) := by decide +kernel
theorem dX3_readFigure_29 : decode cX3_readFigure 29 = .ok (.ireturn, 1) := by decide +kernel
theorem dX3_canAnyBeTold_0 : decode cX3_canAnyBeTold 0 = .ok (.aload_n 0, 1) := by decide +kernel
theorem dX3_canAnyBeTold_1 : decode cX3_canAnyBeTold 1 = .ok (.invokevirtual 35, 3) := by decide +kernel
theorem dX3_canAnyBeTold_4 : decode cX3_canAnyBeTold 4 = .ok (.istore_n 1, 1) := by decide +kernel
theorem dX3_canAnyBeTold_5 : decode cX3_canAnyBeTold 5 = .ok (.iconst 0, 1) := by decide +kernel
theorem dX3_canAnyBeTold_6 : decode cX3_canAnyBeTold 6 = .ok (.istore_n 2, 1) := by decide +kernel
theorem dX3_canAnyBeTold_7 : decode cX3_canAnyBeTold 7 = .ok (.iload_n 2, 1) := by decide +kernel
theorem dX3_canAnyBeTold_8 : decode cX3_canAnyBeTold 8 = .ok (.bipush 16, 2) := by decide +kernel
theorem dX3_canAnyBeTold_10 : decode cX3_canAnyBeTold 10 = .ok (.if_icmp .ge 20, 3) := by decide +kernel
theorem dX3_canAnyBeTold_13 : decode cX3_canAnyBeTold 13 = .ok (.aload_n 0, 1) := by decide +kernel
theorem dX3_canAnyBeTold_14 : decode cX3_canAnyBeTold 14 = .ok (.iload_n 2, 1) := by decide +kernel
theorem dX3_canAnyBeTold_15 : decode cX3_canAnyBeTold 15 = .ok (.iload_n 1, 1) := by decide +kernel
theorem dX3_canAnyBeTold_16 : decode cX3_canAnyBeTold 16 = .ok (.invokestatic 39, 3) := by decide +kernel
theorem dX3_canAnyBeTold_19 : decode cX3_canAnyBeTold 19 = .ok (.ifCond .eq 5, 3) := by decide +kernel
theorem dX3_canAnyBeTold_22 : decode cX3_canAnyBeTold 22 = .ok (.iconst 1, 1) := by decide +kernel
theorem dX3_canAnyBeTold_23 : decode cX3_canAnyBeTold 23 = .ok (.ireturn, 1) := by decide +kernel
theorem dX3_canAnyBeTold_24 : decode cX3_canAnyBeTold 24 = .ok (.iinc 2 1, 3) := by decide +kernel
theorem dX3_canAnyBeTold_27 : decode cX3_canAnyBeTold 27 = .ok (.goto (-20), 3) := by decide +kernel
theorem dX3_canAnyBeTold_30 : decode cX3_canAnyBeTold 30 = .ok (.iconst 0, 1) := by decide +kernel
theorem dX3_canAnyBeTold_31 : decode cX3_canAnyBeTold 31 = .ok (.ireturn, 1) := by decide +kernel
theorem dX3_canBeTold_0 : decode cX3_canBeTold 0 = .ok (.aload_n 0, 1) := by decide +kernel
theorem dX3_canBeTold_1 : decode cX3_canBeTold 1 = .ok (.iload_n 1, 1) := by decide +kernel
theorem dX3_canBeTold_2 : decode cX3_canBeTold 2 = .ok (.invokevirtual 52, 3) := by decide +kernel
theorem dX3_canBeTold_5 : decode cX3_canBeTold 5 = .ok (.ifCond .eq 15, 3) := by decide +kernel
theorem dX3_canBeTold_8 : decode cX3_canBeTold 8 = .ok (.iload_n 1, 1) := by decide +kernel
theorem dX3_canBeTold_9 : decode cX3_canBeTold 9 = .ok (.invokestatic 55, 3) := by decide +kernel
theorem dX3_canBeTold_12 : decode cX3_canBeTold 12 = .ok (.iload_n 2, 1) := by decide +kernel
theorem dX3_canBeTold_13 : decode cX3_canBeTold 13 = .ok (.if_icmp .gt 7, 3) := by decide +kernel
theorem dX3_canBeTold_16 : decode cX3_canBeTold 16 = .ok (.iconst 1, 1) := by decide +kernel
theorem dX3_canBeTold_17 : decode cX3_canBeTold 17 = .ok (.goto 4, 3) := by decide +kernel
theorem dX3_canBeTold_20 : decode cX3_canBeTold 20 = .ok (.iconst 0, 1) := by decide +kernel
theorem dX3_canBeTold_21 : decode cX3_canBeTold 21 = .ok (.ireturn, 1) := by decide +kernel
theorem dX3_readKind_0 : decode cX3_readKind 0 = .ok (.aload_n 0, 1) := by decide +kernel
theorem dX3_readKind_1 : decode cX3_readKind 1 = .ok (.iload_n 1, 1) := by decide +kernel
theorem dX3_readKind_2 : decode cX3_readKind 2 = .ok (.iload_n 2, 1) := by decide +kernel
theorem dX3_readKind_3 : decode cX3_readKind 3 = .ok (.invokevirtual 59, 3) := by decide +kernel
theorem dX3_readKind_6 : decode cX3_readKind 6 = .ok (.ifCond .ne 5, 3) := by decide +kernel
theorem dX3_readKind_9 : decode cX3_readKind 9 = .ok (.iconst 0, 1) := by decide +kernel
theorem dX3_readKind_10 : decode cX3_readKind 10 = .ok (.ireturn, 1) := by decide +kernel
theorem dX3_readKind_11 : decode cX3_readKind 11 = .ok (.aload_n 0, 1) := by decide +kernel
theorem dX3_readKind_12 : decode cX3_readKind 12 = .ok (.iload_n 1, 1) := by decide +kernel
theorem dX3_readKind_13 : decode cX3_readKind 13 = .ok (.iload_n 2, 1) := by decide +kernel
theorem dX3_readKind_14 : decode cX3_readKind 14 = .ok (.invokevirtual 63, 3) := by decide +kernel
theorem dX3_readKind_17 : decode cX3_readKind 17 = .ok (.iconst 1, 1) := by decide +kernel
theorem dX3_readKind_18 : decode cX3_readKind 18 = .ok (.ireturn, 1) := by decide +kernel
theorem dX4_init_0 : decode cX4_init 0 = .ok (.aload_n 0, 1) := by decide +kernel
theorem dX4_init_1 : decode cX4_init 1 = .ok (.invokespecial 1, 3) := by decide +kernel
theorem dX4_init_4 : decode cX4_init 4 = .ok (.aload_n 0, 1) := by decide +kernel
theorem dX4_init_5 : decode cX4_init 5 = .ok (.new 7, 3) := by decide +kernel
theorem dX4_init_8 : decode cX4_init 8 = .ok (.dup, 1) := by decide +kernel
theorem dX4_init_9 : decode cX4_init 9 = .ok (.invokespecial 9, 3) := by decide +kernel
theorem dX4_init_12 : decode cX4_init 12 = .ok (.putfield 10, 3) := by decide +kernel
theorem dX4_init_15 : decode cX4_init 15 = .ok (.aload_n 0, 1) := by decide +kernel
theorem dX4_init_16 : decode cX4_init 16 = .ok (.new 16, 3) := by decide +kernel
theorem dX4_init_19 : decode cX4_init 19 = .ok (.dup, 1) := by decide +kernel
theorem dX4_init_20 : decode cX4_init 20 = .ok (.invokespecial 18, 3) := by decide +kernel
theorem dX4_init_23 : decode cX4_init 23 = .ok (.putfield 19, 3) := by decide +kernel
theorem dX4_init_26 : decode cX4_init 26 = .ok (.aload_n 0, 1) := by decide +kernel
theorem dX4_init_27 : decode cX4_init 27 = .ok (.new 16, 3) := by decide +kernel
theorem dX4_init_30 : decode cX4_init 30 = .ok (.dup, 1) := by decide +kernel
theorem dX4_init_31 : decode cX4_init 31 = .ok (.invokespecial 18, 3) := by decide +kernel
theorem dX4_init_34 : decode cX4_init 34 = .ok (.putfield 23, 3) := by decide +kernel
theorem dX4_init_37 : decode cX4_init 37 = .ok (.aload_n 0, 1) := by decide +kernel
theorem dX4_init_38 : decode cX4_init 38 = .ok (.new 26, 3) := by decide +kernel
theorem dX4_init_41 : decode cX4_init 41 = .ok (.dup, 1) := by decide +kernel
theorem dX4_init_42 : decode cX4_init 42 = .ok (.bipush 14, 2) := by decide +kernel
theorem dX4_init_44 : decode cX4_init 44 = .ok (.invokespecial 28, 3) := by decide +kernel
theorem dX4_init_47 : decode cX4_init 47 = .ok (.putfield 31, 3) := by decide +kernel
theorem dX4_init_50 : decode cX4_init 50 = .ok (.aload_n 0, 1) := by decide +kernel
theorem dX4_init_51 : decode cX4_init 51 = .ok (.new 26, 3) := by decide +kernel
theorem dX4_init_54 : decode cX4_init 54 = .ok (.dup, 1) := by decide +kernel
theorem dX4_init_55 : decode cX4_init 55 = .ok (.iconst 2, 1) := by decide +kernel
theorem dX4_init_56 : decode cX4_init 56 = .ok (.invokespecial 28, 3) := by decide +kernel
theorem dX4_init_59 : decode cX4_init 59 = .ok (.putfield 35, 3) := by decide +kernel
theorem dX4_init_62 : decode cX4_init 62 = .ok (.aload_n 0, 1) := by decide +kernel
theorem dX4_init_63 : decode cX4_init 63 = .ok (.new 38, 3) := by decide +kernel
theorem dX4_init_66 : decode cX4_init 66 = .ok (.dup, 1) := by decide +kernel
theorem dX4_init_67 : decode cX4_init 67 = .ok (.invokespecial 40, 3) := by decide +kernel
theorem dX4_init_70 : decode cX4_init 70 = .ok (.putfield 41, 3) := by decide +kernel
theorem dX4_init_73 : decode cX4_init 73 = .ok (.aload_n 0, 1) := by decide +kernel
theorem dX4_init_74 : decode cX4_init 74 = .ok (.bipush 15, 2) := by decide +kernel
theorem dX4_init_76 : decode cX4_init 76 = .ok (.putfield 45, 3) := by decide +kernel
theorem dX4_init_79 : decode cX4_init 79 = .ok (.aload_n 0, 1) := by decide +kernel
theorem dX4_init_80 : decode cX4_init 80 = .ok (.bipush 15, 2) := by decide +kernel
theorem dX4_init_82 : decode cX4_init 82 = .ok (.putfield 49, 3) := by decide +kernel
theorem dX4_init_85 : decode cX4_init 85 = .ok (.return_, 1) := by decide +kernel
theorem dX4_write_0 : decode cX4_write 0 = .ok (.iload_n 1, 1) := by decide +kernel
theorem dX4_write_1 : decode cX4_write 1 = .ok (.ifCond .lt 10, 3) := by decide +kernel
theorem dX4_write_4 : decode cX4_write 4 = .ok (.iload_n 1, 1) := by decide +kernel
theorem dX4_write_5 : decode cX4_write 5 = .ok (.sipush 255, 3) := by decide +kernel
theorem dX4_write_8 : decode cX4_write 8 = .ok (.if_icmp .le 6, 3) := by decide +kernel
theorem dX4_write_11 : decode cX4_write 11 = .ok (.bipush (-2), 2) := by decide +kernel
theorem dX4_write_13 : decode cX4_write 13 = .ok (.ireturn, 1) := by decide +kernel
theorem dX4_write_14 : decode cX4_write 14 = .ok (.aload_n 0, 1) := by decide +kernel
theorem dX4_write_15 : decode cX4_write 15 = .ok (.getfield 10, 3) := by decide +kernel
theorem dX4_write_18 : decode cX4_write 18 = .ok (.getfield 52, 3) := by decide +kernel
theorem dX4_write_21 : decode cX4_write 21 = .ok (.bipush 56, 2) := by decide +kernel
theorem dX4_write_23 : decode cX4_write 23 = .ok (.if_icmp .lt 6, 3) := by decide +kernel
theorem dX4_write_26 : decode cX4_write 26 = .ok (.bipush (-4), 2) := by decide +kernel
theorem dX4_write_28 : decode cX4_write 28 = .ok (.ireturn, 1) := by decide +kernel
theorem dX4_write_29 : decode cX4_write 29 = .ok (.aload_n 0, 1) := by decide +kernel
theorem dX4_write_30 : decode cX4_write 30 = .ok (.getfield 10, 3) := by decide +kernel
theorem dX4_write_33 : decode cX4_write 33 = .ok (.iload_n 1, 1) := by decide +kernel
theorem dX4_write_34 : decode cX4_write 34 = .ok (.invokevirtual 55, 3) := by decide +kernel
theorem dX4_write_37 : decode cX4_write 37 = .ok (.aload_n 0, 1) := by decide +kernel
theorem dX4_write_38 : decode cX4_write 38 = .ok (.getfield 10, 3) := by decide +kernel
theorem dX4_write_41 : decode cX4_write 41 = .ok (.getfield 52, 3) := by decide +kernel
theorem dX4_write_44 : decode cX4_write 44 = .ok (.ireturn, 1) := by decide +kernel
theorem dX4_wipe_0 : decode cX4_wipe 0 = .ok (.aload_n 0, 1) := by decide +kernel
theorem dX4_wipe_1 : decode cX4_wipe 1 = .ok (.getfield 10, 3) := by decide +kernel
theorem dX4_wipe_4 : decode cX4_wipe 4 = .ok (.getfield 52, 3) := by decide +kernel
theorem dX4_wipe_7 : decode cX4_wipe 7 = .ok (.istore_n 1, 1) := by decide +kernel
theorem dX4_wipe_8 : decode cX4_wipe 8 = .ok (.aload_n 0, 1) := by decide +kernel
theorem dX4_wipe_9 : decode cX4_wipe 9 = .ok (.getfield 10, 3) := by decide +kernel
theorem dX4_wipe_12 : decode cX4_wipe 12 = .ok (.iconst 0, 1) := by decide +kernel
theorem dX4_wipe_13 : decode cX4_wipe 13 = .ok (.putfield 52, 3) := by decide +kernel
theorem dX4_wipe_16 : decode cX4_wipe 16 = .ok (.iload_n 1, 1) := by decide +kernel
theorem dX4_wipe_17 : decode cX4_wipe 17 = .ok (.ireturn, 1) := by decide +kernel
theorem dX4_fault_0 : decode cX4_fault 0 = .ok (.aload_n 0, 1) := by decide +kernel
theorem dX4_fault_1 : decode cX4_fault 1 = .ok (.getfield 10, 3) := by decide +kernel
theorem dX4_fault_4 : decode cX4_fault 4 = .ok (.aload_n 0, 1) := by decide +kernel
theorem dX4_fault_5 : decode cX4_fault 5 = .ok (.getfield 23, 3) := by decide +kernel
theorem dX4_fault_8 : decode cX4_fault 8 = .ok (.invokevirtual 58, 3) := by decide +kernel
theorem dX4_fault_11 : decode cX4_fault 11 = .ok (.ireturn, 1) := by decide +kernel
theorem dX4_house_0 : decode cX4_house 0 = .ok (.aload_n 0, 1) := by decide +kernel
theorem dX4_house_1 : decode cX4_house 1 = .ok (.getfield 10, 3) := by decide +kernel
theorem dX4_house_4 : decode cX4_house 4 = .ok (.aload_n 0, 1) := by decide +kernel
theorem dX4_house_5 : decode cX4_house 5 = .ok (.getfield 23, 3) := by decide +kernel
theorem dX4_house_8 : decode cX4_house 8 = .ok (.invokevirtual 58, 3) := by decide +kernel
theorem dX4_house_11 : decode cX4_house 11 = .ok (.bipush (-9), 2) := by decide +kernel
theorem dX4_house_13 : decode cX4_house 13 = .ok (.if_icmp .eq 6, 3) := by decide +kernel
theorem dX4_house_16 : decode cX4_house 16 = .ok (.bipush (-3), 2) := by decide +kernel
theorem dX4_house_18 : decode cX4_house 18 = .ok (.ireturn, 1) := by decide +kernel
theorem dX4_house_19 : decode cX4_house 19 = .ok (.aload_n 0, 1) := by decide +kernel
theorem dX4_house_20 : decode cX4_house 20 = .ok (.getfield 23, 3) := by decide +kernel
theorem dX4_house_23 : decode cX4_house 23 = .ok (.invokevirtual 62, 3) := by decide +kernel
theorem dX4_house_26 : decode cX4_house 26 = .ok (.pop, 1) := by decide +kernel
theorem dX4_house_27 : decode cX4_house 27 = .ok (.aload_n 0, 1) := by decide +kernel
theorem dX4_house_28 : decode cX4_house 28 = .ok (.getfield 23, 3) := by decide +kernel
theorem dX4_house_31 : decode cX4_house 31 = .ok (.iconst 0, 1) := by decide +kernel
theorem dX4_house_32 : decode cX4_house 32 = .ok (.putfield 66, 3) := by decide +kernel
theorem dX4_house_35 : decode cX4_house 35 = .ok (.aload_n 0, 1) := by decide +kernel
theorem dX4_house_36 : decode cX4_house 36 = .ok (.getfield 19, 3) := by decide +kernel
theorem dX4_house_39 : decode cX4_house 39 = .ok (.aload_n 0, 1) := by decide +kernel
theorem dX4_house_40 : decode cX4_house 40 = .ok (.getfield 23, 3) := by decide +kernel
theorem dX4_house_43 : decode cX4_house 43 = .ok (.invokevirtual 69, 3) := by decide +kernel
theorem dX4_house_46 : decode cX4_house 46 = .ok (.aload_n 0, 1) := by decide +kernel
theorem dX4_house_47 : decode cX4_house 47 = .ok (.iconst 0, 1) := by decide +kernel
theorem dX4_house_48 : decode cX4_house 48 = .ok (.putfield 73, 3) := by decide +kernel
theorem dX4_house_51 : decode cX4_house 51 = .ok (.aload_n 0, 1) := by decide +kernel
theorem dX4_house_52 : decode cX4_house 52 = .ok (.iconst 0, 1) := by decide +kernel
theorem dX4_house_53 : decode cX4_house 53 = .ok (.putfield 76, 3) := by decide +kernel
theorem dX4_house_56 : decode cX4_house 56 = .ok (.aload_n 0, 1) := by decide +kernel
theorem dX4_house_57 : decode cX4_house 57 = .ok (.getfield 19, 3) := by decide +kernel
theorem dX4_house_60 : decode cX4_house 60 = .ok (.invokevirtual 79, 3) := by decide +kernel
theorem dX4_house_63 : decode cX4_house 63 = .ok (.ireturn, 1) := by decide +kernel
theorem dX4_about_0 : decode cX4_about 0 = .ok (.iload_n 1, 1) := by decide +kernel
theorem dX4_about_1 : decode cX4_about 1 = .ok (.tableswitch 102 0 7 #[47, 55, 63, 68, 76, 84, 89, 94], 47) := by decide +kernel
theorem dX4_about_48 : decode cX4_about 48 = .ok (.aload_n 0, 1) := by decide +kernel
theorem dX4_about_49 : decode cX4_about 49 = .ok (.getfield 19, 3) := by decide +kernel
theorem dX4_about_52 : decode cX4_about 52 = .ok (.invokevirtual 79, 3) := by decide +kernel
theorem dX4_about_55 : decode cX4_about 55 = .ok (.ireturn, 1) := by decide +kernel
theorem dX4_about_56 : decode cX4_about 56 = .ok (.aload_n 0, 1) := by decide +kernel
theorem dX4_about_57 : decode cX4_about 57 = .ok (.getfield 19, 3) := by decide +kernel
theorem dX4_about_60 : decode cX4_about 60 = .ok (.getfield 82, 3) := by decide +kernel
theorem dX4_about_63 : decode cX4_about 63 = .ok (.ireturn, 1) := by decide +kernel
theorem dX4_about_64 : decode cX4_about 64 = .ok (.aload_n 0, 1) := by decide +kernel
theorem dX4_about_65 : decode cX4_about 65 = .ok (.invokevirtual 85, 3) := by decide +kernel
theorem dX4_about_68 : decode cX4_about 68 = .ok (.ireturn, 1) := by decide +kernel
theorem dX4_about_69 : decode cX4_about 69 = .ok (.aload_n 0, 1) := by decide +kernel
theorem dX4_about_70 : decode cX4_about 70 = .ok (.getfield 19, 3) := by decide +kernel
theorem dX4_about_73 : decode cX4_about 73 = .ok (.getfield 66, 3) := by decide +kernel
theorem dX4_about_76 : decode cX4_about 76 = .ok (.ireturn, 1) := by decide +kernel
theorem dX4_about_77 : decode cX4_about 77 = .ok (.aload_n 0, 1) := by decide +kernel
theorem dX4_about_78 : decode cX4_about 78 = .ok (.getfield 19, 3) := by decide +kernel
theorem dX4_about_81 : decode cX4_about 81 = .ok (.invokevirtual 88, 3) := by decide +kernel
theorem dX4_about_84 : decode cX4_about 84 = .ok (.ireturn, 1) := by decide +kernel
theorem dX4_about_85 : decode cX4_about 85 = .ok (.aload_n 0, 1) := by decide +kernel
theorem dX4_about_86 : decode cX4_about 86 = .ok (.getfield 73, 3) := by decide +kernel
theorem dX4_about_89 : decode cX4_about 89 = .ok (.ireturn, 1) := by decide +kernel
theorem dX4_about_90 : decode cX4_about 90 = .ok (.aload_n 0, 1) := by decide +kernel
theorem dX4_about_91 : decode cX4_about 91 = .ok (.getfield 91, 3) := by decide +kernel
theorem dX4_about_94 : decode cX4_about 94 = .ok (.ireturn, 1) := by decide +kernel
theorem dX4_about_95 : decode cX4_about 95 = .ok (.aload_n 0, 1) := by decide +kernel
theorem dX4_about_96 : decode cX4_about 96 = .ok (.getfield 10, 3) := by decide +kernel
theorem dX4_about_99 : decode cX4_about 99 = .ok (.getfield 52, 3) := by decide +kernel
theorem dX4_about_102 : decode cX4_about 102 = .ok (.ireturn, 1) := by decide +kernel
theorem dX4_about_103 : decode cX4_about 103 = .ok (.bipush (-2), 2) := by decide +kernel
theorem dX4_about_105 : decode cX4_about 105 = .ok (.ireturn, 1) := by decide +kernel
theorem dX4_cardsInDeck_0 : decode cX4_cardsInDeck 0 = .ok (.iconst 0, 1) := by decide +kernel
theorem dX4_cardsInDeck_1 : decode cX4_cardsInDeck 1 = .ok (.istore_n 1, 1) := by decide +kernel
theorem dX4_cardsInDeck_2 : decode cX4_cardsInDeck 2 = .ok (.iconst 0, 1) := by decide +kernel
theorem dX4_cardsInDeck_3 : decode cX4_cardsInDeck 3 = .ok (.istore_n 2, 1) := by decide +kernel
theorem dX4_cardsInDeck_4 : decode cX4_cardsInDeck 4 = .ok (.iload_n 2, 1) := by decide +kernel
theorem dX4_cardsInDeck_5 : decode cX4_cardsInDeck 5 = .ok (.iconst 4, 1) := by decide +kernel
theorem dX4_cardsInDeck_6 : decode cX4_cardsInDeck 6 = .ok (.if_icmp .ge 20, 3) := by decide +kernel
theorem dX4_cardsInDeck_9 : decode cX4_cardsInDeck 9 = .ok (.iload_n 1, 1) := by decide +kernel
theorem dX4_cardsInDeck_10 : decode cX4_cardsInDeck 10 = .ok (.aload_n 0, 1) := by decide +kernel
theorem dX4_cardsInDeck_11 : decode cX4_cardsInDeck 11 = .ok (.getfield 19, 3) := by decide +kernel
theorem dX4_cardsInDeck_14 : decode cX4_cardsInDeck 14 = .ok (.iload_n 2, 1) := by decide +kernel
theorem dX4_cardsInDeck_15 : decode cX4_cardsInDeck 15 = .ok (.invokevirtual 94, 3) := by decide +kernel
theorem dX4_cardsInDeck_18 : decode cX4_cardsInDeck 18 = .ok (.iadd, 1) := by decide +kernel
theorem dX4_cardsInDeck_19 : decode cX4_cardsInDeck 19 = .ok (.istore_n 1, 1) := by decide +kernel
theorem dX4_cardsInDeck_20 : decode cX4_cardsInDeck 20 = .ok (.iinc 2 1, 3) := by decide +kernel
theorem dX4_cardsInDeck_23 : decode cX4_cardsInDeck 23 = .ok (.goto (-19), 3) := by decide +kernel
theorem dX4_cardsInDeck_26 : decode cX4_cardsInDeck 26 = .ok (.iload_n 1, 1) := by decide +kernel
theorem dX4_cardsInDeck_27 : decode cX4_cardsInDeck 27 = .ok (.ireturn, 1) := by decide +kernel
theorem dX4_deck_0 : decode cX4_deck 0 = .ok (.iload_n 1, 1) := by decide +kernel
theorem dX4_deck_1 : decode cX4_deck 1 = .ok (.invokestatic 98, 3) := by decide +kernel
theorem dX4_deck_4 : decode cX4_deck 4 = .ok (.ifCond .eq 14, 3) := by decide +kernel
theorem dX4_deck_7 : decode cX4_deck 7 = .ok (.aload_n 0, 1) := by decide +kernel
theorem dX4_deck_8 : decode cX4_deck 8 = .ok (.getfield 19, 3) := by decide +kernel
theorem dX4_deck_11 : decode cX4_deck 11 = .ok (.iload_n 1, 1) := by decide +kernel
theorem dX4_deck_12 : decode cX4_deck 12 = .ok (.invokevirtual 94, 3) := by decide +kernel
theorem dX4_deck_15 : decode cX4_deck 15 = .ok (.goto 4, 3) := by decide +kernel
theorem dX4_deck_18 : decode cX4_deck 18 = .ok (.iconst (-1), 1) := by decide +kernel
theorem dX4_deck_19 : decode cX4_deck 19 = .ok (.ireturn, 1) := by decide +kernel
theorem dX4_piece_0 : decode cX4_piece 0 = .ok (.iload_n 1, 1) := by decide +kernel
theorem dX4_piece_1 : decode cX4_piece 1 = .ok (.invokestatic 102, 3) := by decide +kernel
theorem dX4_piece_4 : decode cX4_piece 4 = .ok (.ifCond .ne 5, 3) := by decide +kernel
theorem dX4_piece_7 : decode cX4_piece 7 = .ok (.iconst (-1), 1) := by decide +kernel
theorem dX4_piece_8 : decode cX4_piece 8 = .ok (.ireturn, 1) := by decide +kernel
theorem dX4_piece_9 : decode cX4_piece 9 = .ok (.iload_n 2, 1) := by decide +kernel
theorem dX4_piece_10 : decode cX4_piece 10 = .ok (.ifCond .lt 8, 3) := by decide +kernel
theorem dX4_piece_13 : decode cX4_piece 13 = .ok (.iload_n 2, 1) := by decide +kernel
theorem dX4_piece_14 : decode cX4_piece 14 = .ok (.iconst 4, 1) := by decide +kernel
theorem dX4_piece_15 : decode cX4_piece 15 = .ok (.if_icmp .le 6, 3) := by decide +kernel
theorem dX4_piece_18 : decode cX4_piece 18 = .ok (.bipush (-2), 2) := by decide +kernel
theorem dX4_piece_20 : decode cX4_piece 20 = .ok (.ireturn, 1) := by decide +kernel
theorem dX4_piece_21 : decode cX4_piece 21 = .ok (.aload_n 0, 1) := by decide +kernel
theorem dX4_piece_22 : decode cX4_piece 22 = .ok (.getfield 19, 3) := by decide +kernel
theorem dX4_piece_25 : decode cX4_piece 25 = .ok (.iload_n 1, 1) := by decide +kernel
theorem dX4_piece_26 : decode cX4_piece 26 = .ok (.invokevirtual 105, 3) := by decide +kernel
theorem dX4_piece_29 : decode cX4_piece 29 = .ok (.ifCond .ne 15, 3) := by decide +kernel
theorem dX4_piece_32 : decode cX4_piece 32 = .ok (.iload_n 2, 1) := by decide +kernel
theorem dX4_piece_33 : decode cX4_piece 33 = .ok (.ifCond .ne 8, 3) := by decide +kernel
theorem dX4_piece_36 : decode cX4_piece 36 = .ok (.bipush (-9), 2) := by decide +kernel
theorem dX4_piece_38 : decode cX4_piece 38 = .ok (.goto 5, 3) := by decide +kernel
theorem dX4_piece_41 : decode cX4_piece 41 = .ok (.bipush (-3), 2) := by decide +kernel
theorem dX4_piece_43 : decode cX4_piece 43 = .ok (.ireturn, 1) := by decide +kernel
theorem dX4_piece_44 : decode cX4_piece 44 = .ok (.iload_n 2, 1) := by decide +kernel
theorem dX4_piece_45 : decode cX4_piece 45 = .ok (.tableswitch 71 0 3 #[31, 40, 49, 58], 31) := by decide +kernel
theorem dX4_piece_76 : decode cX4_piece 76 = .ok (.aload_n 0, 1) := by decide +kernel
theorem dX4_piece_77 : decode cX4_piece 77 = .ok (.getfield 19, 3) := by decide +kernel
theorem dX4_piece_80 : decode cX4_piece 80 = .ok (.iload_n 1, 1) := by decide +kernel
theorem dX4_piece_81 : decode cX4_piece 81 = .ok (.invokevirtual 108, 3) := by decide +kernel
theorem dX4_piece_84 : decode cX4_piece 84 = .ok (.ireturn, 1) := by decide +kernel
theorem dX4_piece_85 : decode cX4_piece 85 = .ok (.aload_n 0, 1) := by decide +kernel
theorem dX4_piece_86 : decode cX4_piece 86 = .ok (.getfield 19, 3) := by decide +kernel
theorem dX4_piece_89 : decode cX4_piece 89 = .ok (.iload_n 1, 1) := by decide +kernel
theorem dX4_piece_90 : decode cX4_piece 90 = .ok (.invokevirtual 111, 3) := by decide +kernel
theorem dX4_piece_93 : decode cX4_piece 93 = .ok (.ireturn, 1) := by decide +kernel
theorem dX4_piece_94 : decode cX4_piece 94 = .ok (.aload_n 0, 1) := by decide +kernel
theorem dX4_piece_95 : decode cX4_piece 95 = .ok (.getfield 19, 3) := by decide +kernel
theorem dX4_piece_98 : decode cX4_piece 98 = .ok (.iload_n 1, 1) := by decide +kernel
theorem dX4_piece_99 : decode cX4_piece 99 = .ok (.invokevirtual 114, 3) := by decide +kernel
theorem dX4_piece_102 : decode cX4_piece 102 = .ok (.ireturn, 1) := by decide +kernel
theorem dX4_piece_103 : decode cX4_piece 103 = .ok (.getstatic 117, 3) := by decide +kernel
theorem dX4_piece_106 : decode cX4_piece 106 = .ok (.aload_n 0, 1) := by decide +kernel
theorem dX4_piece_107 : decode cX4_piece 107 = .ok (.getfield 19, 3) := by decide +kernel
theorem dX4_piece_110 : decode cX4_piece 110 = .ok (.iload_n 1, 1) := by decide +kernel
theorem dX4_piece_111 : decode cX4_piece 111 = .ok (.invokevirtual 108, 3) := by decide +kernel
theorem dX4_piece_114 : decode cX4_piece 114 = .ok (.iaload, 1) := by decide +kernel
theorem dX4_piece_115 : decode cX4_piece 115 = .ok (.ireturn, 1) := by decide +kernel
theorem dX4_piece_116 : decode cX4_piece 116 = .ok (.aload_n 0, 1) := by decide +kernel
theorem dX4_piece_117 : decode cX4_piece 117 = .ok (.getfield 19, 3) := by decide +kernel
theorem dX4_piece_120 : decode cX4_piece 120 = .ok (.iload_n 1, 1) := by decide +kernel
theorem dX4_piece_121 : decode cX4_piece 121 = .ok (.invokevirtual 121, 3) := by decide +kernel
theorem dX4_piece_124 : decode cX4_piece 124 = .ok (.ifCond .eq 7, 3) := by decide +kernel
theorem dX4_piece_127 : decode cX4_piece 127 = .ok (.iconst 1, 1) := by decide +kernel
theorem dX4_piece_128 : decode cX4_piece 128 = .ok (.goto 4, 3) := by decide +kernel
theorem dX4_piece_131 : decode cX4_piece 131 = .ok (.iconst 0, 1) := by decide +kernel
theorem dX4_piece_132 : decode cX4_piece 132 = .ok (.ireturn, 1) := by decide +kernel
theorem dX4_put_0 : decode cX4_put 0 = .ok (.iload_n 1, 1) := by decide +kernel
theorem dX4_put_1 : decode cX4_put 1 = .ok (.invokestatic 102, 3) := by decide +kernel
theorem dX4_put_4 : decode cX4_put 4 = .ok (.ifCond .eq 10, 3) := by decide +kernel
theorem dX4_put_7 : decode cX4_put 7 = .ok (.iload_n 2, 1) := by decide +kernel
theorem dX4_put_8 : decode cX4_put 8 = .ok (.invokestatic 98, 3) := by decide +kernel
theorem dX4_put_11 : decode cX4_put 11 = .ok (.ifCond .ne 5, 3) := by decide +kernel
theorem dX4_put_14 : decode cX4_put 14 = .ok (.iconst (-1), 1) := by decide +kernel
theorem dX4_put_15 : decode cX4_put 15 = .ok (.ireturn, 1) := by decide +kernel
theorem dX4_put_16 : decode cX4_put 16 = .ok (.aload_n 0, 1) := by decide +kernel
theorem dX4_put_17 : decode cX4_put 17 = .ok (.getfield 19, 3) := by decide +kernel
theorem dX4_put_20 : decode cX4_put 20 = .ok (.iload_n 1, 1) := by decide +kernel
theorem dX4_put_21 : decode cX4_put 21 = .ok (.invokevirtual 105, 3) := by decide +kernel
theorem dX4_put_24 : decode cX4_put 24 = .ok (.ifCond .eq 6, 3) := by decide +kernel
theorem dX4_put_27 : decode cX4_put 27 = .ok (.bipush (-4), 2) := by decide +kernel
theorem dX4_put_29 : decode cX4_put 29 = .ok (.ireturn, 1) := by decide +kernel
theorem dX4_put_30 : decode cX4_put 30 = .ok (.aload_n 0, 1) := by decide +kernel
theorem dX4_put_31 : decode cX4_put 31 = .ok (.getfield 19, 3) := by decide +kernel
theorem dX4_put_34 : decode cX4_put 34 = .ok (.iload_n 1, 1) := by decide +kernel
theorem dX4_put_35 : decode cX4_put 35 = .ok (.iload_n 2, 1) := by decide +kernel
theorem dX4_put_36 : decode cX4_put 36 = .ok (.invokevirtual 124, 3) := by decide +kernel
theorem dX4_put_39 : decode cX4_put 39 = .ok (.ifCond .ne 6, 3) := by decide +kernel
theorem dX4_put_42 : decode cX4_put 42 = .ok (.bipush (-3), 2) := by decide +kernel
theorem dX4_put_44 : decode cX4_put 44 = .ok (.ireturn, 1) := by decide +kernel
theorem dX4_put_45 : decode cX4_put 45 = .ok (.aload_n 0, 1) := by decide +kernel
theorem dX4_put_46 : decode cX4_put 46 = .ok (.invokevirtual 128, 3) := by decide +kernel
theorem dX4_put_49 : decode cX4_put 49 = .ok (.aload_n 0, 1) := by decide +kernel
theorem dX4_put_50 : decode cX4_put 50 = .ok (.getfield 19, 3) := by decide +kernel
theorem dX4_put_53 : decode cX4_put 53 = .ok (.iload_n 1, 1) := by decide +kernel
theorem dX4_put_54 : decode cX4_put 54 = .ok (.iload_n 2, 1) := by decide +kernel
theorem dX4_put_55 : decode cX4_put 55 = .ok (.invokevirtual 131, 3) := by decide +kernel
theorem dX4_put_58 : decode cX4_put 58 = .ok (.ireturn, 1) := by decide +kernel
theorem dX4_take_0 : decode cX4_take 0 = .ok (.iload_n 1, 1) := by decide +kernel
theorem dX4_take_1 : decode cX4_take 1 = .ok (.invokestatic 102, 3) := by decide +kernel
theorem dX4_take_4 : decode cX4_take 4 = .ok (.ifCond .ne 5, 3) := by decide +kernel
theorem dX4_take_7 : decode cX4_take 7 = .ok (.iconst (-1), 1) := by decide +kernel
theorem dX4_take_8 : decode cX4_take 8 = .ok (.ireturn, 1) := by decide +kernel
theorem dX4_take_9 : decode cX4_take 9 = .ok (.aload_n 0, 1) := by decide +kernel
theorem dX4_take_10 : decode cX4_take 10 = .ok (.getfield 19, 3) := by decide +kernel
theorem dX4_take_13 : decode cX4_take 13 = .ok (.iload_n 1, 1) := by decide +kernel
theorem dX4_take_14 : decode cX4_take 14 = .ok (.invokevirtual 121, 3) := by decide +kernel
theorem dX4_take_17 : decode cX4_take 17 = .ok (.ifCond .ne 6, 3) := by decide +kernel
theorem dX4_take_20 : decode cX4_take 20 = .ok (.bipush (-3), 2) := by decide +kernel
theorem dX4_take_22 : decode cX4_take 22 = .ok (.ireturn, 1) := by decide +kernel
theorem dX4_take_23 : decode cX4_take 23 = .ok (.aload_n 0, 1) := by decide +kernel
theorem dX4_take_24 : decode cX4_take 24 = .ok (.invokevirtual 128, 3) := by decide +kernel
theorem dX4_take_27 : decode cX4_take 27 = .ok (.aload_n 0, 1) := by decide +kernel
theorem dX4_take_28 : decode cX4_take 28 = .ok (.getfield 19, 3) := by decide +kernel
theorem dX4_take_31 : decode cX4_take 31 = .ok (.iload_n 1, 1) := by decide +kernel
theorem dX4_take_32 : decode cX4_take 32 = .ok (.invokevirtual 135, 3) := by decide +kernel
theorem dX4_take_35 : decode cX4_take 35 = .ok (.iload_n 1, 1) := by decide +kernel
theorem dX4_take_36 : decode cX4_take 36 = .ok (.invokestatic 138, 3) := by decide +kernel
theorem dX4_take_39 : decode cX4_take 39 = .ok (.ireturn, 1) := by decide +kernel
theorem dX4_draught_0 : decode cX4_draught 0 = .ok (.iload_n 1, 1) := by decide +kernel
theorem dX4_draught_1 : decode cX4_draught 1 = .ok (.invokestatic 141, 3) := by decide +kernel
theorem dX4_draught_4 : decode cX4_draught 4 = .ok (.ifCond .ne 5, 3) := by decide +kernel
theorem dX4_draught_7 : decode cX4_draught 7 = .ok (.iconst (-1), 1) := by decide +kernel
theorem dX4_draught_8 : decode cX4_draught 8 = .ok (.ireturn, 1) := by decide +kernel
theorem dX4_draught_9 : decode cX4_draught 9 = .ok (.iload_n 2, 1) := by decide +kernel
theorem dX4_draught_10 : decode cX4_draught 10 = .ok (.invokestatic 144, 3) := by decide +kernel
theorem dX4_draught_13 : decode cX4_draught 13 = .ok (.ifCond .ne 6, 3) := by decide +kernel
theorem dX4_draught_16 : decode cX4_draught 16 = .ok (.bipush (-2), 2) := by decide +kernel
theorem dX4_draught_18 : decode cX4_draught 18 = .ok (.ireturn, 1) := by decide +kernel
theorem dX4_draught_19 : decode cX4_draught 19 = .ok (.aload_n 0, 1) := by decide +kernel
theorem dX4_draught_20 : decode cX4_draught 20 = .ok (.invokevirtual 128, 3) := by decide +kernel
theorem dX4_draught_23 : decode cX4_draught 23 = .ok (.aload_n 0, 1) := by decide +kernel
theorem dX4_draught_24 : decode cX4_draught 24 = .ok (.getfield 19, 3) := by decide +kernel
theorem dX4_draught_27 : decode cX4_draught 27 = .ok (.iload_n 1, 1) := by decide +kernel
theorem dX4_draught_28 : decode cX4_draught 28 = .ok (.iload_n 2, 1) := by decide +kernel
theorem dX4_draught_29 : decode cX4_draught 29 = .ok (.invokevirtual 147, 3) := by decide +kernel
theorem dX4_draught_32 : decode cX4_draught 32 = .ok (.ireturn, 1) := by decide +kernel
theorem dX4_undo_0 : decode cX4_undo 0 = .ok (.aload_n 0, 1) := by decide +kernel
theorem dX4_undo_1 : decode cX4_undo 1 = .ok (.getfield 73, 3) := by decide +kernel
theorem dX4_undo_4 : decode cX4_undo 4 = .ok (.ifCond .ne 6, 3) := by decide +kernel
theorem dX4_undo_7 : decode cX4_undo 7 = .ok (.bipush (-3), 2) := by decide +kernel
theorem dX4_undo_9 : decode cX4_undo 9 = .ok (.ireturn, 1) := by decide +kernel
theorem dX4_undo_10 : decode cX4_undo 10 = .ok (.aload_n 0, 1) := by decide +kernel
theorem dX4_undo_11 : decode cX4_undo 11 = .ok (.dup, 1) := by decide +kernel
theorem dX4_undo_12 : decode cX4_undo 12 = .ok (.getfield 73, 3) := by decide +kernel
theorem dX4_undo_15 : decode cX4_undo 15 = .ok (.iconst 1, 1) := by decide +kernel
theorem dX4_undo_16 : decode cX4_undo 16 = .ok (.isub, 1) := by decide +kernel
theorem dX4_undo_17 : decode cX4_undo 17 = .ok (.putfield 73, 3) := by decide +kernel
theorem dX4_undo_20 : decode cX4_undo 20 = .ok (.aload_n 0, 1) := by decide +kernel
theorem dX4_undo_21 : decode cX4_undo 21 = .ok (.getfield 31, 3) := by decide +kernel
theorem dX4_undo_24 : decode cX4_undo 24 = .ok (.aload_n 0, 1) := by decide +kernel
theorem dX4_undo_25 : decode cX4_undo 25 = .ok (.getfield 73, 3) := by decide +kernel
theorem dX4_undo_28 : decode cX4_undo 28 = .ok (.aload_n 0, 1) := by decide +kernel
theorem dX4_undo_29 : decode cX4_undo 29 = .ok (.getfield 19, 3) := by decide +kernel
theorem dX4_undo_32 : decode cX4_undo 32 = .ok (.invokevirtual 150, 3) := by decide +kernel
theorem dX4_undo_35 : decode cX4_undo 35 = .ok (.aload_n 0, 1) := by decide +kernel
theorem dX4_undo_36 : decode cX4_undo 36 = .ok (.getfield 73, 3) := by decide +kernel
theorem dX4_undo_39 : decode cX4_undo 39 = .ok (.ireturn, 1) := by decide +kernel
theorem dX4_recordAct_0 : decode cX4_recordAct 0 = .ok (.aload_n 0, 1) := by decide +kernel
theorem dX4_recordAct_1 : decode cX4_recordAct 1 = .ok (.getfield 73, 3) := by decide +kernel
theorem dX4_recordAct_4 : decode cX4_recordAct 4 = .ok (.bipush 14, 2) := by decide +kernel
theorem dX4_recordAct_6 : decode cX4_recordAct 6 = .ok (.if_icmp .lt 16, 3) := by decide +kernel
theorem dX4_recordAct_9 : decode cX4_recordAct 9 = .ok (.aload_n 0, 1) := by decide +kernel
theorem dX4_recordAct_10 : decode cX4_recordAct 10 = .ok (.getfield 31, 3) := by decide +kernel
theorem dX4_recordAct_13 : decode cX4_recordAct 13 = .ok (.invokevirtual 154, 3) := by decide +kernel
theorem dX4_recordAct_16 : decode cX4_recordAct 16 = .ok (.aload_n 0, 1) := by decide +kernel
theorem dX4_recordAct_17 : decode cX4_recordAct 17 = .ok (.bipush 13, 2) := by decide +kernel
theorem dX4_recordAct_19 : decode cX4_recordAct 19 = .ok (.putfield 73, 3) := by decide +kernel
theorem dX4_recordAct_22 : decode cX4_recordAct 22 = .ok (.aload_n 0, 1) := by decide +kernel
theorem dX4_recordAct_23 : decode cX4_recordAct 23 = .ok (.getfield 31, 3) := by decide +kernel
theorem dX4_recordAct_26 : decode cX4_recordAct 26 = .ok (.aload_n 0, 1) := by decide +kernel
theorem dX4_recordAct_27 : decode cX4_recordAct 27 = .ok (.getfield 73, 3) := by decide +kernel
theorem dX4_recordAct_30 : decode cX4_recordAct 30 = .ok (.aload_n 0, 1) := by decide +kernel
theorem dX4_recordAct_31 : decode cX4_recordAct 31 = .ok (.getfield 19, 3) := by decide +kernel
theorem dX4_recordAct_34 : decode cX4_recordAct 34 = .ok (.invokevirtual 157, 3) := by decide +kernel
theorem dX4_recordAct_37 : decode cX4_recordAct 37 = .ok (.aload_n 0, 1) := by decide +kernel
theorem dX4_recordAct_38 : decode cX4_recordAct 38 = .ok (.dup, 1) := by decide +kernel
theorem dX4_recordAct_39 : decode cX4_recordAct 39 = .ok (.getfield 73, 3) := by decide +kernel
theorem dX4_recordAct_42 : decode cX4_recordAct 42 = .ok (.iconst 1, 1) := by decide +kernel
theorem dX4_recordAct_43 : decode cX4_recordAct 43 = .ok (.iadd, 1) := by decide +kernel
theorem dX4_recordAct_44 : decode cX4_recordAct 44 = .ok (.putfield 73, 3) := by decide +kernel
theorem dX4_recordAct_47 : decode cX4_recordAct 47 = .ok (.return_, 1) := by decide +kernel
theorem dX4_open_0 : decode cX4_open 0 = .ok (.iload_n 1, 1) := by decide +kernel
theorem dX4_open_1 : decode cX4_open 1 = .ok (.invokestatic 98, 3) := by decide +kernel
theorem dX4_open_4 : decode cX4_open 4 = .ok (.ifCond .ne 5, 3) := by decide +kernel
theorem dX4_open_7 : decode cX4_open 7 = .ok (.iconst (-1), 1) := by decide +kernel
theorem dX4_open_8 : decode cX4_open 8 = .ok (.ireturn, 1) := by decide +kernel
theorem dX4_open_9 : decode cX4_open 9 = .ok (.aload_n 0, 1) := by decide +kernel
theorem dX4_open_10 : decode cX4_open 10 = .ok (.getfield 19, 3) := by decide +kernel
theorem dX4_open_13 : decode cX4_open 13 = .ok (.iload_n 1, 1) := by decide +kernel
theorem dX4_open_14 : decode cX4_open 14 = .ok (.invokevirtual 94, 3) := by decide +kernel
theorem dX4_open_17 : decode cX4_open 17 = .ok (.istore_n 2, 1) := by decide +kernel
theorem dX4_open_18 : decode cX4_open 18 = .ok (.iconst 0, 1) := by decide +kernel
theorem dX4_open_19 : decode cX4_open 19 = .ok (.istore_n 3, 1) := by decide +kernel
theorem dX4_open_20 : decode cX4_open 20 = .ok (.iconst 0, 1) := by decide +kernel
theorem dX4_open_21 : decode cX4_open 21 = .ok (.istore 4, 2) := by decide +kernel
theorem dX4_open_23 : decode cX4_open 23 = .ok (.iload 4, 2) := by decide +kernel
theorem dX4_open_25 : decode cX4_open 25 = .ok (.bipush 16, 2) := by decide +kernel
theorem dX4_open_27 : decode cX4_open 27 = .ok (.if_icmp .ge 37, 3) := by decide +kernel
theorem dX4_open_30 : decode cX4_open 30 = .ok (.aload_n 0, 1) := by decide +kernel
theorem dX4_open_31 : decode cX4_open 31 = .ok (.getfield 19, 3) := by decide +kernel
theorem dX4_open_34 : decode cX4_open 34 = .ok (.iload 4, 2) := by decide +kernel
theorem dX4_open_36 : decode cX4_open 36 = .ok (.invokevirtual 160, 3) := by decide +kernel
theorem dX4_open_39 : decode cX4_open 39 = .ok (.ifCond .eq 19, 3) := by decide +kernel
theorem dX4_open_42 : decode cX4_open 42 = .ok (.iload 4, 2) := by decide +kernel
theorem dX4_open_44 : decode cX4_open 44 = .ok (.invokestatic 138, 3) := by decide +kernel
theorem dX4_open_47 : decode cX4_open 47 = .ok (.iload_n 2, 1) := by decide +kernel
theorem dX4_open_48 : decode cX4_open 48 = .ok (.if_icmp .gt 10, 3) := by decide +kernel
theorem dX4_open_51 : decode cX4_open 51 = .ok (.iload_n 3, 1) := by decide +kernel
theorem dX4_open_52 : decode cX4_open 52 = .ok (.iconst 1, 1) := by decide +kernel
theorem dX4_open_53 : decode cX4_open 53 = .ok (.iload 4, 2) := by decide +kernel
theorem dX4_open_55 : decode cX4_open 55 = .ok (.ishl, 1) := by decide +kernel
theorem dX4_open_56 : decode cX4_open 56 = .ok (.ior, 1) := by decide +kernel
theorem dX4_open_57 : decode cX4_open 57 = .ok (.istore_n 3, 1) := by decide +kernel
theorem dX4_open_58 : decode cX4_open 58 = .ok (.iinc 4 1, 3) := by decide +kernel
theorem dX4_open_61 : decode cX4_open 61 = .ok (.goto (-38), 3) := by decide +kernel
theorem dX4_open_64 : decode cX4_open 64 = .ok (.iload_n 3, 1) := by decide +kernel
theorem dX4_open_65 : decode cX4_open 65 = .ok (.ireturn, 1) := by decide +kernel
theorem dX4_spread_0 : decode cX4_spread 0 = .ok (.iload_n 1, 1) := by decide +kernel
theorem dX4_spread_1 : decode cX4_spread 1 = .ok (.invokestatic 102, 3) := by decide +kernel
theorem dX4_spread_4 : decode cX4_spread 4 = .ok (.ifCond .ne 5, 3) := by decide +kernel
theorem dX4_spread_7 : decode cX4_spread 7 = .ok (.iconst (-1), 1) := by decide +kernel
theorem dX4_spread_8 : decode cX4_spread 8 = .ok (.ireturn, 1) := by decide +kernel
theorem dX4_spread_9 : decode cX4_spread 9 = .ok (.aload_n 0, 1) := by decide +kernel
theorem dX4_spread_10 : decode cX4_spread 10 = .ok (.getfield 19, 3) := by decide +kernel
theorem dX4_spread_13 : decode cX4_spread 13 = .ok (.iload_n 1, 1) := by decide +kernel
theorem dX4_spread_14 : decode cX4_spread 14 = .ok (.invokevirtual 105, 3) := by decide +kernel
theorem dX4_spread_17 : decode cX4_spread 17 = .ok (.ifCond .ne 6, 3) := by decide +kernel
theorem dX4_spread_20 : decode cX4_spread 20 = .ok (.bipush (-3), 2) := by decide +kernel
theorem dX4_spread_22 : decode cX4_spread 22 = .ok (.ireturn, 1) := by decide +kernel
theorem dX4_spread_23 : decode cX4_spread 23 = .ok (.aload_n 0, 1) := by decide +kernel
theorem dX4_spread_24 : decode cX4_spread 24 = .ok (.getfield 19, 3) := by decide +kernel
theorem dX4_spread_27 : decode cX4_spread 27 = .ok (.iconst 1, 1) := by decide +kernel
theorem dX4_spread_28 : decode cX4_spread 28 = .ok (.iload_n 1, 1) := by decide +kernel
theorem dX4_spread_29 : decode cX4_spread 29 = .ok (.ishl, 1) := by decide +kernel
theorem dX4_spread_30 : decode cX4_spread 30 = .ok (.invokevirtual 163, 3) := by decide +kernel
theorem dX4_spread_33 : decode cX4_spread 33 = .ok (.ireturn, 1) := by decide +kernel
theorem dX4_stands_0 : decode cX4_stands 0 = .ok (.iload_n 1, 1) := by decide +kernel
theorem dX4_stands_1 : decode cX4_stands 1 = .ok (.invokestatic 141, 3) := by decide +kernel
theorem dX4_stands_4 : decode cX4_stands 4 = .ok (.ifCond .ne 5, 3) := by decide +kernel
theorem dX4_stands_7 : decode cX4_stands 7 = .ok (.iconst (-1), 1) := by decide +kernel
theorem dX4_stands_8 : decode cX4_stands 8 = .ok (.ireturn, 1) := by decide +kernel
