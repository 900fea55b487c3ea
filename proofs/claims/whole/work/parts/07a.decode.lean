theorem dX0_init_0 : decode cX0_init 0 = .ok (.aload_n 0, 1) := by decide +kernel
theorem dX0_init_1 : decode cX0_init 1 = .ok (.invokespecial 3, 3) := by decide +kernel
theorem dX0_init_4 : decode cX0_init 4 = .ok (.aload_n 0, 1) := by decide +kernel
theorem dX0_init_5 : decode cX0_init 5 = .ok (.iconst 0, 1) := by decide +kernel
theorem dX0_init_6 : decode cX0_init 6 = .ok (.newarray .byte, 2) := by decide +kernel
theorem dX0_init_8 : decode cX0_init 8 = .ok (.putfield 9, 3) := by decide +kernel
theorem dX0_init_11 : decode cX0_init 11 = .ok (.aload_n 0, 1) := by decide +kernel
theorem dX0_init_12 : decode cX0_init 12 = .ok (.iconst 0, 1) := by decide +kernel
theorem dX0_init_13 : decode cX0_init 13 = .ok (.putfield 15, 3) := by decide +kernel
theorem dX0_init_16 : decode cX0_init 16 = .ok (.aload_n 0, 1) := by decide +kernel
theorem dX0_init_17 : decode cX0_init 17 = .ok (.iconst 0, 1) := by decide +kernel
theorem dX0_init_18 : decode cX0_init 18 = .ok (.putfield 19, 3) := by decide +kernel
theorem dX0_init_21 : decode cX0_init 21 = .ok (.return_, 1) := by decide +kernel
theorem dX0_open_0 : decode cX0_open 0 = .ok (.aload_n 0, 1) := by decide +kernel
theorem dX0_open_1 : decode cX0_open 1 = .ok (.aload_n 1, 1) := by decide +kernel
theorem dX0_open_2 : decode cX0_open 2 = .ok (.putfield 9, 3) := by decide +kernel
theorem dX0_open_5 : decode cX0_open 5 = .ok (.aload_n 0, 1) := by decide +kernel
theorem dX0_open_6 : decode cX0_open 6 = .ok (.bipush 8, 2) := by decide +kernel
theorem dX0_open_8 : decode cX0_open 8 = .ok (.iload_n 2, 1) := by decide +kernel
theorem dX0_open_9 : decode cX0_open 9 = .ok (.imul, 1) := by decide +kernel
theorem dX0_open_10 : decode cX0_open 10 = .ok (.putfield 15, 3) := by decide +kernel
theorem dX0_open_13 : decode cX0_open 13 = .ok (.aload_n 0, 1) := by decide +kernel
theorem dX0_open_14 : decode cX0_open 14 = .ok (.bipush 8, 2) := by decide +kernel
theorem dX0_open_16 : decode cX0_open 16 = .ok (.iload_n 2, 1) := by decide +kernel
theorem dX0_open_17 : decode cX0_open 17 = .ok (.iload_n 3, 1) := by decide +kernel
theorem dX0_open_18 : decode cX0_open 18 = .ok (.iadd, 1) := by decide +kernel
theorem dX0_open_19 : decode cX0_open 19 = .ok (.imul, 1) := by decide +kernel
theorem dX0_open_20 : decode cX0_open 20 = .ok (.putfield 19, 3) := by decide +kernel
theorem dX0_open_23 : decode cX0_open 23 = .ok (.return_, 1) := by decide +kernel
theorem dX0_close_0 : decode cX0_close 0 = .ok (.aload_n 0, 1) := by decide +kernel
theorem dX0_close_1 : decode cX0_close 1 = .ok (.aload_n 0, 1) := by decide +kernel
theorem dX0_close_2 : decode cX0_close 2 = .ok (.getfield 19, 3) := by decide +kernel
theorem dX0_close_5 : decode cX0_close 5 = .ok (.putfield 15, 3) := by decide +kernel
theorem dX0_close_8 : decode cX0_close 8 = .ok (.return_, 1) := by decide +kernel
theorem dX0_bit_0 : decode cX0_bit 0 = .ok (.aload_n 0, 1) := by decide +kernel
theorem dX0_bit_1 : decode cX0_bit 1 = .ok (.getfield 15, 3) := by decide +kernel
theorem dX0_bit_4 : decode cX0_bit 4 = .ok (.iconst 3, 1) := by decide +kernel
theorem dX0_bit_5 : decode cX0_bit 5 = .ok (.ishr, 1) := by decide +kernel
theorem dX0_bit_6 : decode cX0_bit 6 = .ok (.istore_n 1, 1) := by decide +kernel
theorem dX0_bit_7 : decode cX0_bit 7 = .ok (.aload_n 0, 1) := by decide +kernel
theorem dX0_bit_8 : decode cX0_bit 8 = .ok (.getfield 15, 3) := by decide +kernel
theorem dX0_bit_11 : decode cX0_bit 11 = .ok (.aload_n 0, 1) := by decide +kernel
theorem dX0_bit_12 : decode cX0_bit 12 = .ok (.getfield 19, 3) := by decide +kernel
theorem dX0_bit_15 : decode cX0_bit 15 = .ok (.if_icmp .ge 16, 3) := by decide +kernel
theorem dX0_bit_18 : decode cX0_bit 18 = .ok (.iload_n 1, 1) := by decide +kernel
theorem dX0_bit_19 : decode cX0_bit 19 = .ok (.ifCond .lt 12, 3) := by decide +kernel
theorem dX0_bit_22 : decode cX0_bit 22 = .ok (.iload_n 1, 1) := by decide +kernel
theorem dX0_bit_23 : decode cX0_bit 23 = .ok (.aload_n 0, 1) := by decide +kernel
theorem dX0_bit_24 : decode cX0_bit 24 = .ok (.getfield 9, 3) := by decide +kernel
theorem dX0_bit_27 : decode cX0_bit 27 = .ok (.arraylength, 1) := by decide +kernel
theorem dX0_bit_28 : decode cX0_bit 28 = .ok (.if_icmp .lt 5, 3) := by decide +kernel
theorem dX0_bit_31 : decode cX0_bit 31 = .ok (.iconst (-1), 1) := by decide +kernel
theorem dX0_bit_32 : decode cX0_bit 32 = .ok (.ireturn, 1) := by decide +kernel
theorem dX0_bit_33 : decode cX0_bit 33 = .ok (.aload_n 0, 1) := by decide +kernel
theorem dX0_bit_34 : decode cX0_bit 34 = .ok (.getfield 9, 3) := by decide +kernel
theorem dX0_bit_37 : decode cX0_bit 37 = .ok (.iload_n 1, 1) := by decide +kernel
theorem dX0_bit_38 : decode cX0_bit 38 = .ok (.baload, 1) := by decide +kernel
theorem dX0_bit_39 : decode cX0_bit 39 = .ok (.aload_n 0, 1) := by decide +kernel
theorem dX0_bit_40 : decode cX0_bit 40 = .ok (.getfield 15, 3) := by decide +kernel
theorem dX0_bit_43 : decode cX0_bit 43 = .ok (.bipush 7, 2) := by decide +kernel
theorem dX0_bit_45 : decode cX0_bit 45 = .ok (.iand, 1) := by decide +kernel
theorem dX0_bit_46 : decode cX0_bit 46 = .ok (.ishr, 1) := by decide +kernel
theorem dX0_bit_47 : decode cX0_bit 47 = .ok (.iconst 1, 1) := by decide +kernel
theorem dX0_bit_48 : decode cX0_bit 48 = .ok (.iand, 1) := by decide +kernel
theorem dX0_bit_49 : decode cX0_bit 49 = .ok (.istore_n 2, 1) := by decide +kernel
theorem dX0_bit_50 : decode cX0_bit 50 = .ok (.aload_n 0, 1) := by decide +kernel
theorem dX0_bit_51 : decode cX0_bit 51 = .ok (.dup, 1) := by decide +kernel
theorem dX0_bit_52 : decode cX0_bit 52 = .ok (.getfield 15, 3) := by decide +kernel
theorem dX0_bit_55 : decode cX0_bit 55 = .ok (.iconst 1, 1) := by decide +kernel
theorem dX0_bit_56 : decode cX0_bit 56 = .ok (.iadd, 1) := by decide +kernel
theorem dX0_bit_57 : decode cX0_bit 57 = .ok (.putfield 15, 3) := by decide +kernel
theorem dX0_bit_60 : decode cX0_bit 60 = .ok (.iload_n 2, 1) := by decide +kernel
theorem dX0_bit_61 : decode cX0_bit 61 = .ok (.ireturn, 1) := by decide +kernel
theorem dX0_number_0 : decode cX0_number 0 = .ok (.iconst 0, 1) := by decide +kernel
theorem dX0_number_1 : decode cX0_number 1 = .ok (.istore_n 2, 1) := by decide +kernel
theorem dX0_number_2 : decode cX0_number 2 = .ok (.iconst 0, 1) := by decide +kernel
theorem dX0_number_3 : decode cX0_number 3 = .ok (.istore_n 3, 1) := by decide +kernel
theorem dX0_number_4 : decode cX0_number 4 = .ok (.iload_n 3, 1) := by decide +kernel
theorem dX0_number_5 : decode cX0_number 5 = .ok (.iload_n 1, 1) := by decide +kernel
theorem dX0_number_6 : decode cX0_number 6 = .ok (.if_icmp .ge 29, 3) := by decide +kernel
theorem dX0_number_9 : decode cX0_number 9 = .ok (.aload_n 0, 1) := by decide +kernel
theorem dX0_number_10 : decode cX0_number 10 = .ok (.invokevirtual 22, 3) := by decide +kernel
theorem dX0_number_13 : decode cX0_number 13 = .ok (.istore 4, 2) := by decide +kernel
theorem dX0_number_15 : decode cX0_number 15 = .ok (.iload 4, 2) := by decide +kernel
theorem dX0_number_17 : decode cX0_number 17 = .ok (.ifCond .ge 5, 3) := by decide +kernel
theorem dX0_number_20 : decode cX0_number 20 = .ok (.iconst (-1), 1) := by decide +kernel
theorem dX0_number_21 : decode cX0_number 21 = .ok (.ireturn, 1) := by decide +kernel
theorem dX0_number_22 : decode cX0_number 22 = .ok (.iload_n 2, 1) := by decide +kernel
theorem dX0_number_23 : decode cX0_number 23 = .ok (.iload 4, 2) := by decide +kernel
theorem dX0_number_25 : decode cX0_number 25 = .ok (.iload_n 3, 1) := by decide +kernel
theorem dX0_number_26 : decode cX0_number 26 = .ok (.ishl, 1) := by decide +kernel
theorem dX0_number_27 : decode cX0_number 27 = .ok (.ior, 1) := by decide +kernel
theorem dX0_number_28 : decode cX0_number 28 = .ok (.istore_n 2, 1) := by decide +kernel
theorem dX0_number_29 : decode cX0_number 29 = .ok (.iinc 3 1, 3) := by decide +kernel
theorem dX0_number_32 : decode cX0_number 32 = .ok (.goto (-28), 3) := by decide +kernel
theorem dX0_number_35 : decode cX0_number 35 = .ok (.iload_n 2, 1) := by decide +kernel
theorem dX0_number_36 : decode cX0_number 36 = .ok (.ireturn, 1) := by decide +kernel
theorem dX1_init_0 : decode cX1_init 0 = .ok (.aload_n 0, 1) := by decide +kernel
theorem dX1_init_1 : decode cX1_init 1 = .ok (.invokespecial 5, 3) := by decide +kernel
theorem dX1_init_4 : decode cX1_init 4 = .ok (.aload_n 0, 1) := by decide +kernel
theorem dX1_init_5 : decode cX1_init 5 = .ok (.iconst 1, 1) := by decide +kernel
theorem dX1_init_6 : decode cX1_init 6 = .ok (.putfield 11, 3) := by decide +kernel
theorem dX1_init_9 : decode cX1_init 9 = .ok (.aload_n 0, 1) := by decide +kernel
theorem dX1_init_10 : decode cX1_init 10 = .ok (.iconst 0, 1) := by decide +kernel
theorem dX1_init_11 : decode cX1_init 11 = .ok (.putfield 15, 3) := by decide +kernel
theorem dX1_init_14 : decode cX1_init 14 = .ok (.aload_n 0, 1) := by decide +kernel
theorem dX1_init_15 : decode cX1_init 15 = .ok (.iconst 1, 1) := by decide +kernel
theorem dX1_init_16 : decode cX1_init 16 = .ok (.putfield 18, 3) := by decide +kernel
theorem dX1_init_19 : decode cX1_init 19 = .ok (.aload_n 0, 1) := by decide +kernel
theorem dX1_init_20 : decode cX1_init 20 = .ok (.bipush 64, 2) := by decide +kernel
theorem dX1_init_22 : decode cX1_init 22 = .ok (.newarray .int, 2) := by decide +kernel
theorem dX1_init_24 : decode cX1_init 24 = .ok (.putfield 21, 3) := by decide +kernel
theorem dX1_init_27 : decode cX1_init 27 = .ok (.aload_n 0, 1) := by decide +kernel
theorem dX1_init_28 : decode cX1_init 28 = .ok (.bipush 64, 2) := by decide +kernel
theorem dX1_init_30 : decode cX1_init 30 = .ok (.newarray .int, 2) := by decide +kernel
theorem dX1_init_32 : decode cX1_init 32 = .ok (.putfield 25, 3) := by decide +kernel
theorem dX1_init_35 : decode cX1_init 35 = .ok (.aload_n 0, 1) := by decide +kernel
theorem dX1_init_36 : decode cX1_init 36 = .ok (.sipush 128, 3) := by decide +kernel
theorem dX1_init_39 : decode cX1_init 39 = .ok (.newarray .int, 2) := by decide +kernel
theorem dX1_init_41 : decode cX1_init 41 = .ok (.putfield 28, 3) := by decide +kernel
theorem dX1_init_44 : decode cX1_init 44 = .ok (.aload_n 0, 1) := by decide +kernel
theorem dX1_init_45 : decode cX1_init 45 = .ok (.bipush 16, 2) := by decide +kernel
theorem dX1_init_47 : decode cX1_init 47 = .ok (.newarray .int, 2) := by decide +kernel
theorem dX1_init_49 : decode cX1_init 49 = .ok (.putfield 31, 3) := by decide +kernel
theorem dX1_init_52 : decode cX1_init 52 = .ok (.return_, 1) := by decide +kernel
theorem dX1_learn_0 : decode cX1_learn 0 = .ok (.aload_n 1, 1) := by decide +kernel
theorem dX1_learn_1 : decode cX1_learn 1 = .ok (.iconst 2, 1) := by decide +kernel
theorem dX1_learn_2 : decode cX1_learn 2 = .ok (.invokevirtual 34, 3) := by decide +kernel
theorem dX1_learn_5 : decode cX1_learn 5 = .ok (.istore_n 2, 1) := by decide +kernel
theorem dX1_learn_6 : decode cX1_learn 6 = .ok (.aload_n 1, 1) := by decide +kernel
theorem dX1_learn_7 : decode cX1_learn 7 = .ok (.bipush 6, 2) := by decide +kernel
theorem dX1_learn_9 : decode cX1_learn 9 = .ok (.invokevirtual 34, 3) := by decide +kernel
theorem dX1_learn_12 : decode cX1_learn 12 = .ok (.istore_n 3, 1) := by decide +kernel
theorem dX1_learn_13 : decode cX1_learn 13 = .ok (.iload_n 3, 1) := by decide +kernel
theorem dX1_learn_14 : decode cX1_learn 14 = .ok (.ifCond .ge 5, 3) := by decide +kernel
theorem dX1_learn_17 : decode cX1_learn 17 = .ok (.iconst 2, 1) := by decide +kernel
theorem dX1_learn_18 : decode cX1_learn 18 = .ok (.ireturn, 1) := by decide +kernel
theorem dX1_learn_19 : decode cX1_learn 19 = .ok (.aload_n 0, 1) := by decide +kernel
theorem dX1_learn_20 : decode cX1_learn 20 = .ok (.iload_n 2, 1) := by decide +kernel
theorem dX1_learn_21 : decode cX1_learn 21 = .ok (.iconst 1, 1) := by decide +kernel
theorem dX1_learn_22 : decode cX1_learn 22 = .ok (.iadd, 1) := by decide +kernel
theorem dX1_learn_23 : decode cX1_learn 23 = .ok (.putfield 11, 3) := by decide +kernel
theorem dX1_learn_26 : decode cX1_learn 26 = .ok (.aload_n 0, 1) := by decide +kernel
theorem dX1_learn_27 : decode cX1_learn 27 = .ok (.iload_n 3, 1) := by decide +kernel
theorem dX1_learn_28 : decode cX1_learn 28 = .ok (.iconst 1, 1) := by decide +kernel
theorem dX1_learn_29 : decode cX1_learn 29 = .ok (.iadd, 1) := by decide +kernel
theorem dX1_learn_30 : decode cX1_learn 30 = .ok (.putfield 15, 3) := by decide +kernel
theorem dX1_learn_33 : decode cX1_learn 33 = .ok (.iconst 0, 1) := by decide +kernel
theorem dX1_learn_34 : decode cX1_learn 34 = .ok (.istore 4, 2) := by decide +kernel
theorem dX1_learn_36 : decode cX1_learn 36 = .ok (.iload 4, 2) := by decide +kernel
theorem dX1_learn_38 : decode cX1_learn 38 = .ok (.aload_n 0, 1) := by decide +kernel
theorem dX1_learn_39 : decode cX1_learn 39 = .ok (.getfield 15, 3) := by decide +kernel
theorem dX1_learn_42 : decode cX1_learn 42 = .ok (.if_icmp .ge 43, 3) := by decide +kernel
theorem dX1_learn_45 : decode cX1_learn 45 = .ok (.iload 4, 2) := by decide +kernel
theorem dX1_learn_47 : decode cX1_learn 47 = .ok (.aload_n 0, 1) := by decide +kernel
theorem dX1_learn_48 : decode cX1_learn 48 = .ok (.getfield 25, 3) := by decide +kernel
theorem dX1_learn_51 : decode cX1_learn 51 = .ok (.arraylength, 1) := by decide +kernel
theorem dX1_learn_52 : decode cX1_learn 52 = .ok (.if_icmp .ge 33, 3) := by decide +kernel
theorem dX1_learn_55 : decode cX1_learn 55 = .ok (.aload_n 0, 1) := by decide +kernel
theorem dX1_learn_56 : decode cX1_learn 56 = .ok (.getfield 25, 3) := by decide +kernel
theorem dX1_learn_59 : decode cX1_learn 59 = .ok (.iload 4, 2) := by decide +kernel
theorem dX1_learn_61 : decode cX1_learn 61 = .ok (.aload_n 1, 1) := by decide +kernel
theorem dX1_learn_62 : decode cX1_learn 62 = .ok (.iconst 4, 1) := by decide +kernel
theorem dX1_learn_63 : decode cX1_learn 63 = .ok (.invokevirtual 34, 3) := by decide +kernel
theorem dX1_learn_66 : decode cX1_learn 66 = .ok (.iastore, 1) := by decide +kernel
theorem dX1_learn_67 : decode cX1_learn 67 = .ok (.aload_n 0, 1) := by decide +kernel
theorem dX1_learn_68 : decode cX1_learn 68 = .ok (.getfield 25, 3) := by decide +kernel
theorem dX1_learn_71 : decode cX1_learn 71 = .ok (.iload 4, 2) := by decide +kernel
theorem dX1_learn_73 : decode cX1_learn 73 = .ok (.iaload, 1) := by decide +kernel
theorem dX1_learn_74 : decode cX1_learn 74 = .ok (.ifCond .ge 5, 3) := by decide +kernel
theorem dX1_learn_77 : decode cX1_learn 77 = .ok (.iconst 2, 1) := by decide +kernel
theorem dX1_learn_78 : decode cX1_learn 78 = .ok (.ireturn, 1) := by decide +kernel
theorem dX1_learn_79 : decode cX1_learn 79 = .ok (.iinc 4 1, 3) := by decide +kernel
theorem dX1_learn_82 : decode cX1_learn 82 = .ok (.goto (-46), 3) := by decide +kernel
theorem dX1_learn_85 : decode cX1_learn 85 = .ok (.aload_n 0, 1) := by decide +kernel
theorem dX1_learn_86 : decode cX1_learn 86 = .ok (.invokevirtual 42, 3) := by decide +kernel
theorem dX1_learn_89 : decode cX1_learn 89 = .ok (.ifCond .ne 5, 3) := by decide +kernel
theorem dX1_learn_92 : decode cX1_learn 92 = .ok (.iconst 4, 1) := by decide +kernel
theorem dX1_learn_93 : decode cX1_learn 93 = .ok (.ireturn, 1) := by decide +kernel
theorem dX1_learn_94 : decode cX1_learn 94 = .ok (.aload_n 0, 1) := by decide +kernel
theorem dX1_learn_95 : decode cX1_learn 95 = .ok (.aload_n 1, 1) := by decide +kernel
theorem dX1_learn_96 : decode cX1_learn 96 = .ok (.invokevirtual 46, 3) := by decide +kernel
theorem dX1_learn_99 : decode cX1_learn 99 = .ok (.ireturn, 1) := by decide +kernel
theorem dX1_learnValues_0 : decode cX1_learnValues 0 = .ok (.aload_n 1, 1) := by decide +kernel
theorem dX1_learnValues_1 : decode cX1_learnValues 1 = .ok (.iconst 1, 1) := by decide +kernel
theorem dX1_learnValues_2 : decode cX1_learnValues 2 = .ok (.invokevirtual 34, 3) := by decide +kernel
theorem dX1_learnValues_5 : decode cX1_learnValues 5 = .ok (.istore_n 2, 1) := by decide +kernel
theorem dX1_learnValues_6 : decode cX1_learnValues 6 = .ok (.iload_n 2, 1) := by decide +kernel
theorem dX1_learnValues_7 : decode cX1_learnValues 7 = .ok (.ifCond .ge 5, 3) := by decide +kernel
theorem dX1_learnValues_10 : decode cX1_learnValues 10 = .ok (.iconst 2, 1) := by decide +kernel
theorem dX1_learnValues_11 : decode cX1_learnValues 11 = .ok (.ireturn, 1) := by decide +kernel
theorem dX1_learnValues_12 : decode cX1_learnValues 12 = .ok (.aload_n 0, 1) := by decide +kernel
theorem dX1_learnValues_13 : decode cX1_learnValues 13 = .ok (.iload_n 2, 1) := by decide +kernel
theorem dX1_learnValues_14 : decode cX1_learnValues 14 = .ok (.iconst 1, 1) := by decide +kernel
theorem dX1_learnValues_15 : decode cX1_learnValues 15 = .ok (.if_icmp .ne 7, 3) := by decide +kernel
theorem dX1_learnValues_18 : decode cX1_learnValues 18 = .ok (.iconst 1, 1) := by decide +kernel
theorem dX1_learnValues_19 : decode cX1_learnValues 19 = .ok (.goto 4, 3) := by decide +kernel
theorem dX1_learnValues_22 : decode cX1_learnValues 22 = .ok (.iconst 0, 1) := by decide +kernel
theorem dX1_learnValues_23 : decode cX1_learnValues 23 = .ok (.putfield 50, 3) := by decide +kernel
theorem dX1_learnValues_26 : decode cX1_learnValues 26 = .ok (.aload_n 0, 1) := by decide +kernel
theorem dX1_learnValues_27 : decode cX1_learnValues 27 = .ok (.getfield 50, 3) := by decide +kernel
theorem dX1_learnValues_30 : decode cX1_learnValues 30 = .ok (.ifCond .ne 5, 3) := by decide +kernel
theorem dX1_learnValues_33 : decode cX1_learnValues 33 = .ok (.iconst 0, 1) := by decide +kernel
theorem dX1_learnValues_34 : decode cX1_learnValues 34 = .ok (.ireturn, 1) := by decide +kernel
theorem dX1_learnValues_35 : decode cX1_learnValues 35 = .ok (.aload_n 1, 1) := by decide +kernel
theorem dX1_learnValues_36 : decode cX1_learnValues 36 = .ok (.bipush 8, 2) := by decide +kernel
theorem dX1_learnValues_38 : decode cX1_learnValues 38 = .ok (.invokevirtual 34, 3) := by decide +kernel
theorem dX1_learnValues_41 : decode cX1_learnValues 41 = .ok (.istore_n 3, 1) := by decide +kernel
theorem dX1_learnValues_42 : decode cX1_learnValues 42 = .ok (.aload_n 0, 1) := by decide +kernel
theorem dX1_learnValues_43 : decode cX1_learnValues 43 = .ok (.aload_n 1, 1) := by decide +kernel
theorem dX1_learnValues_44 : decode cX1_learnValues 44 = .ok (.bipush 8, 2) := by decide +kernel
theorem dX1_learnValues_46 : decode cX1_learnValues 46 = .ok (.invokevirtual 34, 3) := by decide +kernel
theorem dX1_learnValues_49 : decode cX1_learnValues 49 = .ok (.putfield 54, 3) := by decide +kernel
theorem dX1_learnValues_52 : decode cX1_learnValues 52 = .ok (.aload_n 0, 1) := by decide +kernel
theorem dX1_learnValues_53 : decode cX1_learnValues 53 = .ok (.aload_n 1, 1) := by decide +kernel
theorem dX1_learnValues_54 : decode cX1_learnValues 54 = .ok (.iconst 1, 1) := by decide +kernel
theorem dX1_learnValues_55 : decode cX1_learnValues 55 = .ok (.invokevirtual 34, 3) := by decide +kernel
theorem dX1_learnValues_58 : decode cX1_learnValues 58 = .ok (.iconst 1, 1) := by decide +kernel
theorem dX1_learnValues_59 : decode cX1_learnValues 59 = .ok (.if_icmp .ne 7, 3) := by decide +kernel
theorem dX1_learnValues_62 : decode cX1_learnValues 62 = .ok (.iconst 1, 1) := by decide +kernel
theorem dX1_learnValues_63 : decode cX1_learnValues 63 = .ok (.goto 4, 3) := by decide +kernel
theorem dX1_learnValues_66 : decode cX1_learnValues 66 = .ok (.iconst 0, 1) := by decide +kernel
theorem dX1_learnValues_67 : decode cX1_learnValues 67 = .ok (.putfield 57, 3) := by decide +kernel
theorem dX1_learnValues_70 : decode cX1_learnValues 70 = .ok (.aload_n 1, 1) := by decide +kernel
theorem dX1_learnValues_71 : decode cX1_learnValues 71 = .ok (.iconst 3, 1) := by decide +kernel
theorem dX1_learnValues_72 : decode cX1_learnValues 72 = .ok (.invokevirtual 34, 3) := by decide +kernel
theorem dX1_learnValues_75 : decode cX1_learnValues 75 = .ok (.istore 4, 2) := by decide +kernel
theorem dX1_learnValues_77 : decode cX1_learnValues 77 = .ok (.iload 4, 2) := by decide +kernel
theorem dX1_learnValues_79 : decode cX1_learnValues 79 = .ok (.ifCond .ge 5, 3) := by decide +kernel
theorem dX1_learnValues_82 : decode cX1_learnValues 82 = .ok (.iconst 2, 1) := by decide +kernel
theorem dX1_learnValues_83 : decode cX1_learnValues 83 = .ok (.ireturn, 1) := by decide +kernel
theorem dX1_learnValues_84 : decode cX1_learnValues 84 = .ok (.aload_n 0, 1) := by decide +kernel
theorem dX1_learnValues_85 : decode cX1_learnValues 85 = .ok (.iload_n 3, 1) := by decide +kernel
theorem dX1_learnValues_86 : decode cX1_learnValues 86 = .ok (.sipush 128, 3) := by decide +kernel
theorem dX1_learnValues_89 : decode cX1_learnValues 89 = .ok (.if_icmp .ge 7, 3) := by decide +kernel
theorem dX1_learnValues_92 : decode cX1_learnValues 92 = .ok (.iload_n 3, 1) := by decide +kernel
theorem dX1_learnValues_93 : decode cX1_learnValues 93 = .ok (.goto 8, 3) := by decide +kernel
theorem dX1_learnValues_96 : decode cX1_learnValues 96 = .ok (.iload_n 3, 1) := by decide +kernel
theorem dX1_learnValues_97 : decode cX1_learnValues 97 = .ok (.sipush 256, 3) := by decide +kernel
theorem dX1_learnValues_100 : decode cX1_learnValues 100 = .ok (.isub, 1) := by decide +kernel
theorem dX1_learnValues_101 : decode cX1_learnValues 101 = .ok (.putfield 60, 3) := by decide +kernel
theorem dX1_learnValues_104 : decode cX1_learnValues 104 = .ok (.aload_n 0, 1) := by decide +kernel
theorem dX1_learnValues_105 : decode cX1_learnValues 105 = .ok (.aload_n 0, 1) := by decide +kernel
theorem dX1_learnValues_106 : decode cX1_learnValues 106 = .ok (.invokevirtual 63, 3) := by decide +kernel
theorem dX1_learnValues_109 : decode cX1_learnValues 109 = .ok (.putfield 18, 3) := by decide +kernel
theorem dX1_learnValues_112 : decode cX1_learnValues 112 = .ok (.iconst 0, 1) := by decide +kernel
theorem dX1_learnValues_113 : decode cX1_learnValues 113 = .ok (.istore 5, 2) := by decide +kernel
theorem dX1_learnValues_115 : decode cX1_learnValues 115 = .ok (.iload 5, 2) := by decide +kernel
theorem dX1_learnValues_117 : decode cX1_learnValues 117 = .ok (.aload_n 0, 1) := by decide +kernel
theorem dX1_learnValues_118 : decode cX1_learnValues 118 = .ok (.getfield 18, 3) := by decide +kernel
theorem dX1_learnValues_121 : decode cX1_learnValues 121 = .ok (.if_icmp .ge 46, 3) := by decide +kernel
theorem dX1_learnValues_124 : decode cX1_learnValues 124 = .ok (.iload 5, 2) := by decide +kernel
theorem dX1_learnValues_126 : decode cX1_learnValues 126 = .ok (.aload_n 0, 1) := by decide +kernel
theorem dX1_learnValues_127 : decode cX1_learnValues 127 = .ok (.getfield 21, 3) := by decide +kernel
theorem dX1_learnValues_130 : decode cX1_learnValues 130 = .ok (.arraylength, 1) := by decide +kernel
theorem dX1_learnValues_131 : decode cX1_learnValues 131 = .ok (.if_icmp .ge 36, 3) := by decide +kernel
theorem dX1_learnValues_134 : decode cX1_learnValues 134 = .ok (.aload_n 0, 1) := by decide +kernel
theorem dX1_learnValues_135 : decode cX1_learnValues 135 = .ok (.getfield 21, 3) := by decide +kernel
theorem dX1_learnValues_138 : decode cX1_learnValues 138 = .ok (.iload 5, 2) := by decide +kernel
theorem dX1_learnValues_140 : decode cX1_learnValues 140 = .ok (.aload_n 1, 1) := by decide +kernel
theorem dX1_learnValues_141 : decode cX1_learnValues 141 = .ok (.iload 4, 2) := by decide +kernel
theorem dX1_learnValues_143 : decode cX1_learnValues 143 = .ok (.iconst 1, 1) := by decide +kernel
theorem dX1_learnValues_144 : decode cX1_learnValues 144 = .ok (.iadd, 1) := by decide +kernel
theorem dX1_learnValues_145 : decode cX1_learnValues 145 = .ok (.invokevirtual 34, 3) := by decide +kernel
theorem dX1_learnValues_148 : decode cX1_learnValues 148 = .ok (.iastore, 1) := by decide +kernel
theorem dX1_learnValues_149 : decode cX1_learnValues 149 = .ok (.aload_n 0, 1) := by decide +kernel
theorem dX1_learnValues_150 : decode cX1_learnValues 150 = .ok (.getfield 21, 3) := by decide +kernel
theorem dX1_learnValues_153 : decode cX1_learnValues 153 = .ok (.iload 5, 2) := by decide +kernel
theorem dX1_learnValues_155 : decode cX1_learnValues 155 = .ok (.iaload, 1) := by decide +kernel
theorem dX1_learnValues_156 : decode cX1_learnValues 156 = .ok (.ifCond .ge 5, 3) := by decide +kernel
theorem dX1_learnValues_159 : decode cX1_learnValues 159 = .ok (.iconst 2, 1) := by decide +kernel
theorem dX1_learnValues_160 : decode cX1_learnValues 160 = .ok (.ireturn, 1) := by decide +kernel
theorem dX1_learnValues_161 : decode cX1_learnValues 161 = .ok (.iinc 5 1, 3) := by decide +kernel
theorem dX1_learnValues_164 : decode cX1_learnValues 164 = .ok (.goto (-49), 3) := by decide +kernel
theorem dX1_learnValues_167 : decode cX1_learnValues 167 = .ok (.iconst 0, 1) := by decide +kernel
theorem dX1_learnValues_168 : decode cX1_learnValues 168 = .ok (.ireturn, 1) := by decide +kernel
theorem dX1_greatestRoot_0 : decode cX1_greatestRoot 0 = .ok (.iconst 1, 1) := by decide +kernel
theorem dX1_greatestRoot_1 : decode cX1_greatestRoot 1 = .ok (.istore_n 1, 1) := by decide +kernel
theorem dX1_greatestRoot_2 : decode cX1_greatestRoot 2 = .ok (.iload_n 1, 1) := by decide +kernel
theorem dX1_greatestRoot_3 : decode cX1_greatestRoot 3 = .ok (.bipush 64, 2) := by decide +kernel
theorem dX1_greatestRoot_5 : decode cX1_greatestRoot 5 = .ok (.if_icmp .ge 23, 3) := by decide +kernel
theorem dX1_greatestRoot_8 : decode cX1_greatestRoot 8 = .ok (.aload_n 0, 1) := by decide +kernel
theorem dX1_greatestRoot_9 : decode cX1_greatestRoot 9 = .ok (.iload_n 1, 1) := by decide +kernel
theorem dX1_greatestRoot_10 : decode cX1_greatestRoot 10 = .ok (.iconst 1, 1) := by decide +kernel
theorem dX1_greatestRoot_11 : decode cX1_greatestRoot 11 = .ok (.iadd, 1) := by decide +kernel
theorem dX1_greatestRoot_12 : decode cX1_greatestRoot 12 = .ok (.invokevirtual 67, 3) := by decide +kernel
theorem dX1_greatestRoot_15 : decode cX1_greatestRoot 15 = .ok (.aload_n 0, 1) := by decide +kernel
theorem dX1_greatestRoot_16 : decode cX1_greatestRoot 16 = .ok (.getfield 15, 3) := by decide +kernel
theorem dX1_greatestRoot_19 : decode cX1_greatestRoot 19 = .ok (.if_icmp .gt 9, 3) := by decide +kernel
theorem dX1_greatestRoot_22 : decode cX1_greatestRoot 22 = .ok (.iinc 1 1, 3) := by decide +kernel
theorem dX1_greatestRoot_25 : decode cX1_greatestRoot 25 = .ok (.goto (-23), 3) := by decide +kernel
theorem dX1_greatestRoot_28 : decode cX1_greatestRoot 28 = .ok (.iload_n 1, 1) := by decide +kernel
theorem dX1_greatestRoot_29 : decode cX1_greatestRoot 29 = .ok (.ireturn, 1) := by decide +kernel
theorem dX1_power_0 : decode cX1_power 0 = .ok (.iconst 1, 1) := by decide +kernel
theorem dX1_power_1 : decode cX1_power 1 = .ok (.istore_n 2, 1) := by decide +kernel
theorem dX1_power_2 : decode cX1_power 2 = .ok (.iconst 0, 1) := by decide +kernel
theorem dX1_power_3 : decode cX1_power 3 = .ok (.istore_n 3, 1) := by decide +kernel
theorem dX1_power_4 : decode cX1_power 4 = .ok (.iload_n 3, 1) := by decide +kernel
theorem dX1_power_5 : decode cX1_power 5 = .ok (.aload_n 0, 1) := by decide +kernel
theorem dX1_power_6 : decode cX1_power 6 = .ok (.getfield 11, 3) := by decide +kernel
theorem dX1_power_9 : decode cX1_power 9 = .ok (.if_icmp .ge 18, 3) := by decide +kernel
theorem dX1_power_12 : decode cX1_power 12 = .ok (.iload_n 3, 1) := by decide +kernel
theorem dX1_power_13 : decode cX1_power 13 = .ok (.iconst 4, 1) := by decide +kernel
theorem dX1_power_14 : decode cX1_power 14 = .ok (.if_icmp .ge 13, 3) := by decide +kernel
theorem dX1_power_17 : decode cX1_power 17 = .ok (.iload_n 2, 1) := by decide +kernel
theorem dX1_power_18 : decode cX1_power 18 = .ok (.iload_n 1, 1) := by decide +kernel
theorem dX1_power_19 : decode cX1_power 19 = .ok (.imul, 1) := by decide +kernel
theorem dX1_power_20 : decode cX1_power 20 = .ok (.istore_n 2, 1) := by decide +kernel
theorem dX1_power_21 : decode cX1_power 21 = .ok (.iinc 3 1, 3) := by decide +kernel
theorem dX1_power_24 : decode cX1_power 24 = .ok (.goto (-20), 3) := by decide +kernel
theorem dX1_power_27 : decode cX1_power 27 = .ok (.iload_n 2, 1) := by decide +kernel
theorem dX1_power_28 : decode cX1_power 28 = .ok (.ireturn, 1) := by decide +kernel
theorem dX1_growTree_0 : decode cX1_growTree 0 = .ok (.iconst 0, 1) := by decide +kernel
theorem dX1_growTree_1 : decode cX1_growTree 1 = .ok (.istore_n 1, 1) := by decide +kernel
theorem dX1_growTree_2 : decode cX1_growTree 2 = .ok (.iload_n 1, 1) := by decide +kernel
theorem dX1_growTree_3 : decode cX1_growTree 3 = .ok (.aload_n 0, 1) := by decide +kernel
theorem dX1_growTree_4 : decode cX1_growTree 4 = .ok (.getfield 28, 3) := by decide +kernel
theorem dX1_growTree_7 : decode cX1_growTree 7 = .ok (.arraylength, 1) := by decide +kernel
theorem dX1_growTree_8 : decode cX1_growTree 8 = .ok (.if_icmp .ge 16, 3) := by decide +kernel
theorem dX1_growTree_11 : decode cX1_growTree 11 = .ok (.aload_n 0, 1) := by decide +kernel
theorem dX1_growTree_12 : decode cX1_growTree 12 = .ok (.getfield 28, 3) := by decide +kernel
theorem dX1_growTree_15 : decode cX1_growTree 15 = .ok (.iload_n 1, 1) := by decide +kernel
theorem dX1_growTree_16 : decode cX1_growTree 16 = .ok (.iconst 0, 1) := by decide +kernel
theorem dX1_growTree_17 : decode cX1_growTree 17 = .ok (.iastore, 1) := by decide +kernel
theorem dX1_growTree_18 : decode cX1_growTree 18 = .ok (.iinc 1 1, 3) := by decide +kernel
theorem dX1_growTree_21 : decode cX1_growTree 21 = .ok (.goto (-19), 3) := by decide +kernel
theorem dX1_growTree_24 : decode cX1_growTree 24 = .ok (.iconst 0, 1) := by decide +kernel
theorem dX1_growTree_25 : decode cX1_growTree 25 = .ok (.istore_n 1, 1) := by decide +kernel
theorem dX1_growTree_26 : decode cX1_growTree 26 = .ok (.iload_n 1, 1) := by decide +kernel
theorem dX1_growTree_27 : decode cX1_growTree 27 = .ok (.aload_n 0, 1) := by decide +kernel
theorem dX1_growTree_28 : decode cX1_growTree 28 = .ok (.getfield 31, 3) := by decide +kernel
theorem dX1_growTree_31 : decode cX1_growTree 31 = .ok (.arraylength, 1) := by decide +kernel
theorem dX1_growTree_32 : decode cX1_growTree 32 = .ok (.if_icmp .ge 16, 3) := by decide +kernel
theorem dX1_growTree_35 : decode cX1_growTree 35 = .ok (.aload_n 0, 1) := by decide +kernel
theorem dX1_growTree_36 : decode cX1_growTree 36 = .ok (.getfield 31, 3) := by decide +kernel
theorem dX1_growTree_39 : decode cX1_growTree 39 = .ok (.iload_n 1, 1) := by decide +kernel
theorem dX1_growTree_40 : decode cX1_growTree 40 = .ok (.iconst (-1), 1) := by decide +kernel
theorem dX1_growTree_41 : decode cX1_growTree 41 = .ok (.iastore, 1) := by decide +kernel
theorem dX1_growTree_42 : decode cX1_growTree 42 = .ok (.iinc 1 1, 3) := by decide +kernel
theorem dX1_growTree_45 : decode cX1_growTree 45 = .ok (.goto (-19), 3) := by decide +kernel
theorem dX1_growTree_48 : decode cX1_growTree 48 = .ok (.aload_n 0, 1) := by decide +kernel
theorem dX1_growTree_49 : decode cX1_growTree 49 = .ok (.getfield 31, 3) := by decide +kernel
theorem dX1_growTree_52 : decode cX1_growTree 52 = .ok (.iconst 0, 1) := by decide +kernel
theorem dX1_growTree_53 : decode cX1_growTree 53 = .ok (.iconst 0, 1) := by decide +kernel
theorem dX1_growTree_54 : decode cX1_growTree 54 = .ok (.iastore, 1) := by decide +kernel
theorem dX1_growTree_55 : decode cX1_growTree 55 = .ok (.aload_n 0, 1) := by decide +kernel
theorem dX1_growTree_56 : decode cX1_growTree 56 = .ok (.iconst 1, 1) := by decide +kernel
theorem dX1_growTree_57 : decode cX1_growTree 57 = .ok (.putfield 70, 3) := by decide +kernel
theorem dX1_growTree_60 : decode cX1_growTree 60 = .ok (.iconst 0, 1) := by decide +kernel
theorem dX1_growTree_61 : decode cX1_growTree 61 = .ok (.istore_n 1, 1) := by decide +kernel
theorem dX1_growTree_62 : decode cX1_growTree 62 = .ok (.iconst 0, 1) := by decide +kernel
theorem dX1_growTree_63 : decode cX1_growTree 63 = .ok (.istore_n 2, 1) := by decide +kernel
theorem dX1_growTree_64 : decode cX1_growTree 64 = .ok (.iload_n 2, 1) := by decide +kernel
theorem dX1_growTree_65 : decode cX1_growTree 65 = .ok (.aload_n 0, 1) := by decide +kernel
theorem dX1_growTree_66 : decode cX1_growTree 66 = .ok (.getfield 15, 3) := by decide +kernel
theorem dX1_growTree_69 : decode cX1_growTree 69 = .ok (.if_icmp .ge 62, 3) := by decide +kernel
theorem dX1_growTree_72 : decode cX1_growTree 72 = .ok (.iload_n 2, 1) := by decide +kernel
theorem dX1_growTree_73 : decode cX1_growTree 73 = .ok (.aload_n 0, 1) := by decide +kernel
theorem dX1_growTree_74 : decode cX1_growTree 74 = .ok (.getfield 25, 3) := by decide +kernel
theorem dX1_growTree_77 : decode cX1_growTree 77 = .ok (.arraylength, 1) := by decide +kernel
theorem dX1_growTree_78 : decode cX1_growTree 78 = .ok (.if_icmp .ge 53, 3) := by decide +kernel
theorem dX1_growTree_81 : decode cX1_growTree 81 = .ok (.aload_n 0, 1) := by decide +kernel
theorem dX1_growTree_82 : decode cX1_growTree 82 = .ok (.getfield 25, 3) := by decide +kernel
theorem dX1_growTree_85 : decode cX1_growTree 85 = .ok (.iload_n 2, 1) := by decide +kernel
theorem dX1_growTree_86 : decode cX1_growTree 86 = .ok (.iaload, 1) := by decide +kernel
theorem dX1_growTree_87 : decode cX1_growTree 87 = .ok (.ifCond .le 38, 3) := by decide +kernel
theorem dX1_growTree_90 : decode cX1_growTree 90 = .ok (.iinc 1 1, 3) := by decide +kernel
theorem dX1_growTree_93 : decode cX1_growTree 93 = .ok (.aload_n 0, 1) := by decide +kernel
theorem dX1_growTree_94 : decode cX1_growTree 94 = .ok (.aload_n 0, 1) := by decide +kernel
theorem dX1_growTree_95 : decode cX1_growTree 95 = .ok (.getfield 25, 3) := by decide +kernel
theorem dX1_growTree_98 : decode cX1_growTree 98 = .ok (.iload_n 2, 1) := by decide +kernel
theorem dX1_growTree_99 : decode cX1_growTree 99 = .ok (.iaload, 1) := by decide +kernel
theorem dX1_growTree_100 : decode cX1_growTree 100 = .ok (.invokevirtual 73, 3) := by decide +kernel
theorem dX1_growTree_103 : decode cX1_growTree 103 = .ok (.istore_n 3, 1) := by decide +kernel
theorem dX1_growTree_104 : decode cX1_growTree 104 = .ok (.iload_n 3, 1) := by decide +kernel
theorem dX1_growTree_105 : decode cX1_growTree 105 = .ok (.ifCond .lt 18, 3) := by decide +kernel
theorem dX1_growTree_108 : decode cX1_growTree 108 = .ok (.aload_n 0, 1) := by decide +kernel
theorem dX1_growTree_109 : decode cX1_growTree 109 = .ok (.iload_n 2, 1) := by decide +kernel
theorem dX1_growTree_110 : decode cX1_growTree 110 = .ok (.iload_n 3, 1) := by decide +kernel
theorem dX1_growTree_111 : decode cX1_growTree 111 = .ok (.aload_n 0, 1) := by decide +kernel
theorem dX1_growTree_112 : decode cX1_growTree 112 = .ok (.getfield 25, 3) := by decide +kernel
theorem dX1_growTree_115 : decode cX1_growTree 115 = .ok (.iload_n 2, 1) := by decide +kernel
theorem dX1_growTree_116 : decode cX1_growTree 116 = .ok (.iaload, 1) := by decide +kernel
theorem dX1_growTree_117 : decode cX1_growTree 117 = .ok (.invokevirtual 76, 3) := by decide +kernel
theorem dX1_growTree_120 : decode cX1_growTree 120 = .ok (.ifCond .ne 5, 3) := by decide +kernel
theorem dX1_growTree_123 : decode cX1_growTree 123 = .ok (.iconst 0, 1) := by decide +kernel
theorem dX1_growTree_124 : decode cX1_growTree 124 = .ok (.ireturn, 1) := by decide +kernel
theorem dX1_growTree_125 : decode cX1_growTree 125 = .ok (.iinc 2 1, 3) := by decide +kernel
theorem dX1_growTree_128 : decode cX1_growTree 128 = .ok (.goto (-64), 3) := by decide +kernel
theorem dX1_growTree_131 : decode cX1_growTree 131 = .ok (.aload_n 0, 1) := by decide +kernel
theorem dX1_growTree_132 : decode cX1_growTree 132 = .ok (.invokevirtual 80, 3) := by decide +kernel
theorem dX1_growTree_135 : decode cX1_growTree 135 = .ok (.ifCond .ne 17, 3) := by decide +kernel
theorem dX1_growTree_138 : decode cX1_growTree 138 = .ok (.iload_n 1, 1) := by decide +kernel
theorem dX1_growTree_139 : decode cX1_growTree 139 = .ok (.iconst 1, 1) := by decide +kernel
theorem dX1_growTree_140 : decode cX1_growTree 140 = .ok (.if_icmp .ne 16, 3) := by decide +kernel
theorem dX1_growTree_143 : decode cX1_growTree 143 = .ok (.aload_n 0, 1) := by decide +kernel
theorem dX1_growTree_144 : decode cX1_growTree 144 = .ok (.getfield 28, 3) := by decide +kernel
theorem dX1_growTree_147 : decode cX1_growTree 147 = .ok (.iconst 0, 1) := by decide +kernel
theorem dX1_growTree_148 : decode cX1_growTree 148 = .ok (.iaload, 1) := by decide +kernel
theorem dX1_growTree_149 : decode cX1_growTree 149 = .ok (.ifCond .ge 7, 3) := by decide +kernel
theorem dX1_growTree_152 : decode cX1_growTree 152 = .ok (.iconst 1, 1) := by decide +kernel
theorem dX1_growTree_153 : decode cX1_growTree 153 = .ok (.goto 4, 3) := by decide +kernel
theorem dX1_growTree_156 : decode cX1_growTree 156 = .ok (.iconst 0, 1) := by decide +kernel
theorem dX1_growTree_157 : decode cX1_growTree 157 = .ok (.ireturn, 1) := by decide +kernel
theorem dX1_takeLeastWord_0 : decode cX1_takeLeastWord 0 = .ok (.iload_n 1, 1) := by decide +kernel
theorem dX1_takeLeastWord_1 : decode cX1_takeLeastWord 1 = .ok (.istore_n 2, 1) := by decide +kernel
theorem dX1_takeLeastWord_2 : decode cX1_takeLeastWord 2 = .ok (.iload_n 2, 1) := by decide +kernel
theorem dX1_takeLeastWord_3 : decode cX1_takeLeastWord 3 = .ok (.ifCond .le 28, 3) := by decide +kernel
theorem dX1_takeLeastWord_6 : decode cX1_takeLeastWord 6 = .ok (.iload_n 2, 1) := by decide +kernel
theorem dX1_takeLeastWord_7 : decode cX1_takeLeastWord 7 = .ok (.aload_n 0, 1) := by decide +kernel
theorem dX1_takeLeastWord_8 : decode cX1_takeLeastWord 8 = .ok (.getfield 31, 3) := by decide +kernel
theorem dX1_takeLeastWord_11 : decode cX1_takeLeastWord 11 = .ok (.arraylength, 1) := by decide +kernel
theorem dX1_takeLeastWord_12 : decode cX1_takeLeastWord 12 = .ok (.if_icmp .ge 19, 3) := by decide +kernel
theorem dX1_takeLeastWord_15 : decode cX1_takeLeastWord 15 = .ok (.aload_n 0, 1) := by decide +kernel
theorem dX1_takeLeastWord_16 : decode cX1_takeLeastWord 16 = .ok (.getfield 31, 3) := by decide +kernel
theorem dX1_takeLeastWord_19 : decode cX1_takeLeastWord 19 = .ok (.iload_n 2, 1) := by decide +kernel
theorem dX1_takeLeastWord_20 : decode cX1_takeLeastWord 20 = .ok (.iaload, 1) := by decide +kernel
theorem dX1_takeLeastWord_21 : decode cX1_takeLeastWord 21 = .ok (.iconst (-1), 1) := by decide +kernel
theorem dX1_takeLeastWord_22 : decode cX1_takeLeastWord 22 = .ok (.if_icmp .ne 9, 3) := by decide +kernel
theorem dX1_takeLeastWord_25 : decode cX1_takeLeastWord 25 = .ok (.iinc 2 (-1), 3) := by decide +kernel
theorem dX1_takeLeastWord_28 : decode cX1_takeLeastWord 28 = .ok (.goto (-26), 3) := by decide +kernel
theorem dX1_takeLeastWord_31 : decode cX1_takeLeastWord 31 = .ok (.iload_n 2, 1) := by decide +kernel
theorem dX1_takeLeastWord_32 : decode cX1_takeLeastWord 32 = .ok (.ifCond .lt 22, 3) := by decide +kernel
theorem dX1_takeLeastWord_35 : decode cX1_takeLeastWord 35 = .ok (.iload_n 1, 1) := by decide +kernel
theorem dX1_takeLeastWord_36 : decode cX1_takeLeastWord 36 = .ok (.aload_n 0, 1) := by decide +kernel
theorem dX1_takeLeastWord_37 : decode cX1_takeLeastWord 37 = .ok (.getfield 31, 3) := by decide +kernel
theorem dX1_takeLeastWord_40 : decode cX1_takeLeastWord 40 = .ok (.arraylength, 1) := by decide +kernel
theorem dX1_takeLeastWord_41 : decode cX1_takeLeastWord 41 = .ok (.if_icmp .ge 13, 3) := by decide +kernel
theorem dX1_takeLeastWord_44 : decode cX1_takeLeastWord 44 = .ok (.aload_n 0, 1) := by decide +kernel
theorem dX1_takeLeastWord_45 : decode cX1_takeLeastWord 45 = .ok (.getfield 31, 3) := by decide +kernel
theorem dX1_takeLeastWord_48 : decode cX1_takeLeastWord 48 = .ok (.iload_n 2, 1) := by decide +kernel
theorem dX1_takeLeastWord_49 : decode cX1_takeLeastWord 49 = .ok (.iaload, 1) := by decide +kernel
theorem dX1_takeLeastWord_50 : decode cX1_takeLeastWord 50 = .ok (.iconst (-1), 1) := by decide +kernel
theorem dX1_takeLeastWord_51 : decode cX1_takeLeastWord 51 = .ok (.if_icmp .ne 5, 3) := by decide +kernel
theorem dX1_takeLeastWord_54 : decode cX1_takeLeastWord 54 = .ok (.iconst (-1), 1) := by decide +kernel
theorem dX1_takeLeastWord_55 : decode cX1_takeLeastWord 55 = .ok (.ireturn, 1) := by decide +kernel
theorem dX1_takeLeastWord_56 : decode cX1_takeLeastWord 56 = .ok (.aload_n 0, 1) := by decide +kernel
theorem dX1_takeLeastWord_57 : decode cX1_takeLeastWord 57 = .ok (.getfield 31, 3) := by decide +kernel
theorem dX1_takeLeastWord_60 : decode cX1_takeLeastWord 60 = .ok (.iload_n 2, 1) := by decide +kernel
theorem dX1_takeLeastWord_61 : decode cX1_takeLeastWord 61 = .ok (.iaload, 1) := by decide +kernel
theorem dX1_takeLeastWord_62 : decode cX1_takeLeastWord 62 = .ok (.istore_n 3, 1) := by decide +kernel
theorem dX1_takeLeastWord_63 : decode cX1_takeLeastWord 63 = .ok (.aload_n 0, 1) := by decide +kernel
theorem dX1_takeLeastWord_64 : decode cX1_takeLeastWord 64 = .ok (.getfield 31, 3) := by decide +kernel
theorem dX1_takeLeastWord_67 : decode cX1_takeLeastWord 67 = .ok (.iload_n 2, 1) := by decide +kernel
theorem dX1_takeLeastWord_68 : decode cX1_takeLeastWord 68 = .ok (.iconst (-1), 1) := by decide +kernel
theorem dX1_takeLeastWord_69 : decode cX1_takeLeastWord 69 = .ok (.iastore, 1) := by decide +kernel
theorem dX1_takeLeastWord_70 : decode cX1_takeLeastWord 70 = .ok (.iload_n 2, 1) := by decide +kernel
theorem dX1_takeLeastWord_71 : decode cX1_takeLeastWord 71 = .ok (.iconst 1, 1) := by decide +kernel
theorem dX1_takeLeastWord_72 : decode cX1_takeLeastWord 72 = .ok (.iadd, 1) := by decide +kernel
theorem dX1_takeLeastWord_73 : decode cX1_takeLeastWord 73 = .ok (.istore 4, 2) := by decide +kernel
theorem dX1_takeLeastWord_75 : decode cX1_takeLeastWord 75 = .ok (.iload 4, 2) := by decide +kernel
theorem dX1_takeLeastWord_77 : decode cX1_takeLeastWord 77 = .ok (.iload_n 1, 1) := by decide +kernel
theorem dX1_takeLeastWord_78 : decode cX1_takeLeastWord 78 = .ok (.if_icmp .gt 23, 3) := by decide +kernel
theorem dX1_takeLeastWord_81 : decode cX1_takeLeastWord 81 = .ok (.iload_n 3, 1) := by decide +kernel
theorem dX1_takeLeastWord_82 : decode cX1_takeLeastWord 82 = .ok (.iconst 1, 1) := by decide +kernel
theorem dX1_takeLeastWord_83 : decode cX1_takeLeastWord 83 = .ok (.ishl, 1) := by decide +kernel
theorem dX1_takeLeastWord_84 : decode cX1_takeLeastWord 84 = .ok (.istore_n 3, 1) := by decide +kernel
theorem dX1_takeLeastWord_85 : decode cX1_takeLeastWord 85 = .ok (.aload_n 0, 1) := by decide +kernel
theorem dX1_takeLeastWord_86 : decode cX1_takeLeastWord 86 = .ok (.getfield 31, 3) := by decide +kernel
theorem dX1_takeLeastWord_89 : decode cX1_takeLeastWord 89 = .ok (.iload 4, 2) := by decide +kernel
theorem dX1_takeLeastWord_91 : decode cX1_takeLeastWord 91 = .ok (.iload_n 3, 1) := by decide +kernel
theorem dX1_takeLeastWord_92 : decode cX1_takeLeastWord 92 = .ok (.iconst 1, 1) := by decide +kernel
theorem dX1_takeLeastWord_93 : decode cX1_takeLeastWord 93 = .ok (.ior, 1) := by decide +kernel
theorem dX1_takeLeastWord_94 : decode cX1_takeLeastWord 94 = .ok (.iastore, 1) := by decide +kernel
theorem dX1_takeLeastWord_95 : decode cX1_takeLeastWord 95 = .ok (.iinc 4 1, 3) := by decide +kernel
theorem dX1_takeLeastWord_98 : decode cX1_takeLeastWord 98 = .ok (.goto (-23), 3) := by decide +kernel
theorem dX1_takeLeastWord_101 : decode cX1_takeLeastWord 101 = .ok (.iload_n 3, 1) := by decide +kernel
theorem dX1_takeLeastWord_102 : decode cX1_takeLeastWord 102 = .ok (.ireturn, 1) := by decide +kernel
theorem dX1_plant_0 : decode cX1_plant 0 = .ok (.iconst 0, 1) := by decide +kernel
theorem dX1_plant_1 : decode cX1_plant 1 = .ok (.istore 4, 2) := by decide +kernel
theorem dX1_plant_3 : decode cX1_plant 3 = .ok (.iload_n 3, 1) := by decide +kernel
theorem dX1_plant_4 : decode cX1_plant 4 = .ok (.iconst 1, 1) := by decide +kernel
theorem dX1_plant_5 : decode cX1_plant 5 = .ok (.isub, 1) := by decide +kernel
theorem dX1_plant_6 : decode cX1_plant 6 = .ok (.istore 5, 2) := by decide +kernel
theorem dX1_plant_8 : decode cX1_plant 8 = .ok (.iload 5, 2) := by decide +kernel
theorem dX1_plant_10 : decode cX1_plant 10 = .ok (.ifCond .le 79, 3) := by decide +kernel
theorem dX1_plant_13 : decode cX1_plant 13 = .ok (.iconst 2, 1) := by decide +kernel
theorem dX1_plant_14 : decode cX1_plant 14 = .ok (.iload 4, 2) := by decide +kernel
theorem dX1_plant_16 : decode cX1_plant 16 = .ok (.imul, 1) := by decide +kernel
theorem dX1_plant_17 : decode cX1_plant 17 = .ok (.iload_n 2, 1) := by decide +kernel
theorem dX1_plant_18 : decode cX1_plant 18 = .ok (.iload 5, 2) := by decide +kernel
theorem dX1_plant_20 : decode cX1_plant 20 = .ok (.ishr, 1) := by decide +kernel
theorem dX1_plant_21 : decode cX1_plant 21 = .ok (.iconst 1, 1) := by decide +kernel
theorem dX1_plant_22 : decode cX1_plant 22 = .ok (.iand, 1) := by decide +kernel
theorem dX1_plant_23 : decode cX1_plant 23 = .ok (.iadd, 1) := by decide +kernel
theorem dX1_plant_24 : decode cX1_plant 24 = .ok (.istore 6, 2) := by decide +kernel
theorem dX1_plant_26 : decode cX1_plant 26 = .ok (.iload 6, 2) := by decide +kernel
theorem dX1_plant_28 : decode cX1_plant 28 = .ok (.ifCond .lt 13, 3) := by decide +kernel
theorem dX1_plant_31 : decode cX1_plant 31 = .ok (.iload 6, 2) := by decide +kernel
theorem dX1_plant_33 : decode cX1_plant 33 = .ok (.aload_n 0, 1) := by decide +kernel
theorem dX1_plant_34 : decode cX1_plant 34 = .ok (.getfield 28, 3) := by decide +kernel
theorem dX1_plant_37 : decode cX1_plant 37 = .ok (.arraylength, 1) := by decide +kernel
theorem dX1_plant_38 : decode cX1_plant 38 = .ok (.if_icmp .lt 5, 3) := by decide +kernel
theorem dX1_plant_41 : decode cX1_plant 41 = .ok (.iconst 0, 1) := by decide +kernel
theorem dX1_plant_42 : decode cX1_plant 42 = .ok (.ireturn, 1) := by decide +kernel
theorem dX1_plant_43 : decode cX1_plant 43 = .ok (.aload_n 0, 1) := by decide +kernel
theorem dX1_plant_44 : decode cX1_plant 44 = .ok (.getfield 28, 3) := by decide +kernel
theorem dX1_plant_47 : decode cX1_plant 47 = .ok (.iload 6, 2) := by decide +kernel
theorem dX1_plant_49 : decode cX1_plant 49 = .ok (.iaload, 1) := by decide +kernel
theorem dX1_plant_50 : decode cX1_plant 50 = .ok (.ifCond .ne 24, 3) := by decide +kernel
theorem dX1_plant_53 : decode cX1_plant 53 = .ok (.aload_n 0, 1) := by decide +kernel
theorem dX1_plant_54 : decode cX1_plant 54 = .ok (.getfield 28, 3) := by decide +kernel
theorem dX1_plant_57 : decode cX1_plant 57 = .ok (.iload 6, 2) := by decide +kernel
theorem dX1_plant_59 : decode cX1_plant 59 = .ok (.aload_n 0, 1) := by decide +kernel
theorem dX1_plant_60 : decode cX1_plant 60 = .ok (.getfield 70, 3) := by decide +kernel
theorem dX1_plant_63 : decode cX1_plant 63 = .ok (.iastore, 1) := by decide +kernel
theorem dX1_plant_64 : decode cX1_plant 64 = .ok (.aload_n 0, 1) := by decide +kernel
theorem dX1_plant_65 : decode cX1_plant 65 = .ok (.dup, 1) := by decide +kernel
theorem dX1_plant_66 : decode cX1_plant 66 = .ok (.getfield 70, 3) := by decide +kernel
theorem dX1_plant_69 : decode cX1_plant 69 = .ok (.iconst 1, 1) := by decide +kernel
theorem dX1_plant_70 : decode cX1_plant 70 = .ok (.iadd, 1) := by decide +kernel
theorem dX1_plant_71 : decode cX1_plant 71 = .ok (.putfield 70, 3) := by decide +kernel
theorem dX1_plant_74 : decode cX1_plant 74 = .ok (.aload_n 0, 1) := by decide +kernel
theorem dX1_plant_75 : decode cX1_plant 75 = .ok (.getfield 28, 3) := by decide +kernel
theorem dX1_plant_78 : decode cX1_plant 78 = .ok (.iload 6, 2) := by decide +kernel
theorem dX1_plant_80 : decode cX1_plant 80 = .ok (.iaload, 1) := by decide +kernel
theorem dX1_plant_81 : decode cX1_plant 81 = .ok (.istore 4, 2) := by decide +kernel
theorem dX1_plant_83 : decode cX1_plant 83 = .ok (.iinc 5 (-1), 3) := by decide +kernel
theorem dX1_plant_86 : decode cX1_plant 86 = .ok (.goto (-78), 3) := by decide +kernel
theorem dX1_plant_89 : decode cX1_plant 89 = .ok (.iconst 2, 1) := by decide +kernel
theorem dX1_plant_90 : decode cX1_plant 90 = .ok (.iload 4, 2) := by decide +kernel
theorem dX1_plant_92 : decode cX1_plant 92 = .ok (.imul, 1) := by decide +kernel
theorem dX1_plant_93 : decode cX1_plant 93 = .ok (.iload_n 2, 1) := by decide +kernel
theorem dX1_plant_94 : decode cX1_plant 94 = .ok (.iconst 1, 1) := by decide +kernel
theorem dX1_plant_95 : decode cX1_plant 95 = .ok (.iand, 1) := by decide +kernel
theorem dX1_plant_96 : decode cX1_plant 96 = .ok (.iadd, 1) := by decide +kernel
theorem dX1_plant_97 : decode cX1_plant 97 = .ok (.istore 5, 2) := by decide +kernel
theorem dX1_plant_99 : decode cX1_plant 99 = .ok (.iload 5, 2) := by decide +kernel
theorem dX1_plant_101 : decode cX1_plant 101 = .ok (.ifCond .lt 13, 3) := by decide +kernel
theorem dX1_plant_104 : decode cX1_plant 104 = .ok (.iload 5, 2) := by decide +kernel
theorem dX1_plant_106 : decode cX1_plant 106 = .ok (.aload_n 0, 1) := by decide +kernel
theorem dX1_plant_107 : decode cX1_plant 107 = .ok (.getfield 28, 3) := by decide +kernel
theorem dX1_plant_110 : decode cX1_plant 110 = .ok (.arraylength, 1) := by decide +kernel
theorem dX1_plant_111 : decode cX1_plant 111 = .ok (.if_icmp .lt 5, 3) := by decide +kernel
theorem dX1_plant_114 : decode cX1_plant 114 = .ok (.iconst 0, 1) := by decide +kernel
theorem dX1_plant_115 : decode cX1_plant 115 = .ok (.ireturn, 1) := by decide +kernel
theorem dX1_plant_116 : decode cX1_plant 116 = .ok (.aload_n 0, 1) := by decide +kernel
theorem dX1_plant_117 : decode cX1_plant 117 = .ok (.getfield 28, 3) := by decide +kernel
theorem dX1_plant_120 : decode cX1_plant 120 = .ok (.iload 5, 2) := by decide +kernel
theorem dX1_plant_122 : decode cX1_plant 122 = .ok (.iconst (-1), 1) := by decide +kernel
theorem dX1_plant_123 : decode cX1_plant 123 = .ok (.iload_n 1, 1) := by decide +kernel
theorem dX1_plant_124 : decode cX1_plant 124 = .ok (.isub, 1) := by decide +kernel
theorem dX1_plant_125 : decode cX1_plant 125 = .ok (.iastore, 1) := by decide +kernel
theorem dX1_plant_126 : decode cX1_plant 126 = .ok (.iconst 1, 1) := by decide +kernel
theorem dX1_plant_127 : decode cX1_plant 127 = .ok (.ireturn, 1) := by decide +kernel
theorem dX1_nothingIsFree_0 : decode cX1_nothingIsFree 0 = .ok (.iconst 0, 1) := by decide +kernel
theorem dX1_nothingIsFree_1 : decode cX1_nothingIsFree 1 = .ok (.istore_n 1, 1) := by decide +kernel
theorem dX1_nothingIsFree_2 : decode cX1_nothingIsFree 2 = .ok (.iload_n 1, 1) := by decide +kernel
theorem dX1_nothingIsFree_3 : decode cX1_nothingIsFree 3 = .ok (.aload_n 0, 1) := by decide +kernel
theorem dX1_nothingIsFree_4 : decode cX1_nothingIsFree 4 = .ok (.getfield 31, 3) := by decide +kernel
theorem dX1_nothingIsFree_7 : decode cX1_nothingIsFree 7 = .ok (.arraylength, 1) := by decide +kernel
theorem dX1_nothingIsFree_8 : decode cX1_nothingIsFree 8 = .ok (.if_icmp .ge 21, 3) := by decide +kernel
theorem dX1_nothingIsFree_11 : decode cX1_nothingIsFree 11 = .ok (.aload_n 0, 1) := by decide +kernel
theorem dX1_nothingIsFree_12 : decode cX1_nothingIsFree 12 = .ok (.getfield 31, 3) := by decide +kernel
theorem dX1_nothingIsFree_15 : decode cX1_nothingIsFree 15 = .ok (.iload_n 1, 1) := by decide +kernel
theorem dX1_nothingIsFree_16 : decode cX1_nothingIsFree 16 = .ok (.iaload, 1) := by decide +kernel
theorem dX1_nothingIsFree_17 : decode cX1_nothingIsFree 17 = .ok (.iconst (-1), 1) := by decide +kernel
theorem dX1_nothingIsFree_18 : decode cX1_nothingIsFree 18 = .ok (.if_icmp .eq 5, 3) := by decide +kernel
theorem dX1_nothingIsFree_21 : decode cX1_nothingIsFree 21 = .ok (.iconst 0, 1) := by decide +kernel
theorem dX1_nothingIsFree_22 : decode cX1_nothingIsFree 22 = .ok (.ireturn, 1) := by decide +kernel
theorem dX1_nothingIsFree_23 : decode cX1_nothingIsFree 23 = .ok (.iinc 1 1, 3) := by decide +kernel
theorem dX1_nothingIsFree_26 : decode cX1_nothingIsFree 26 = .ok (.goto (-24), 3) := by decide +kernel
theorem dX1_nothingIsFree_29 : decode cX1_nothingIsFree 29 = .ok (.iconst 1, 1) := by decide +kernel
theorem dX1_nothingIsFree_30 : decode cX1_nothingIsFree 30 = .ok (.ireturn, 1) := by decide +kernel
theorem dX1_nextEntry_0 : decode cX1_nextEntry 0 = .ok (.iconst 0, 1) := by decide +kernel
theorem dX1_nextEntry_1 : decode cX1_nextEntry 1 = .ok (.istore_n 2, 1) := by decide +kernel
theorem dX1_nextEntry_2 : decode cX1_nextEntry 2 = .ok (.iconst 0, 1) := by decide +kernel
theorem dX1_nextEntry_3 : decode cX1_nextEntry 3 = .ok (.istore_n 3, 1) := by decide +kernel
theorem dX1_nextEntry_4 : decode cX1_nextEntry 4 = .ok (.iload_n 3, 1) := by decide +kernel
theorem dX1_nextEntry_5 : decode cX1_nextEntry 5 = .ok (.bipush 15, 2) := by decide +kernel
theorem dX1_nextEntry_7 : decode cX1_nextEntry 7 = .ok (.if_icmp .ge 68, 3) := by decide +kernel
theorem dX1_nextEntry_10 : decode cX1_nextEntry 10 = .ok (.aload_n 1, 1) := by decide +kernel
theorem dX1_nextEntry_11 : decode cX1_nextEntry 11 = .ok (.invokevirtual 83, 3) := by decide +kernel
theorem dX1_nextEntry_14 : decode cX1_nextEntry 14 = .ok (.istore 4, 2) := by decide +kernel
theorem dX1_nextEntry_16 : decode cX1_nextEntry 16 = .ok (.iconst 2, 1) := by decide +kernel
theorem dX1_nextEntry_17 : decode cX1_nextEntry 17 = .ok (.iload_n 2, 1) := by decide +kernel
theorem dX1_nextEntry_18 : decode cX1_nextEntry 18 = .ok (.imul, 1) := by decide +kernel
theorem dX1_nextEntry_19 : decode cX1_nextEntry 19 = .ok (.iload 4, 2) := by decide +kernel
theorem dX1_nextEntry_21 : decode cX1_nextEntry 21 = .ok (.iadd, 1) := by decide +kernel
theorem dX1_nextEntry_22 : decode cX1_nextEntry 22 = .ok (.istore 5, 2) := by decide +kernel
theorem dX1_nextEntry_24 : decode cX1_nextEntry 24 = .ok (.iload 4, 2) := by decide +kernel
theorem dX1_nextEntry_26 : decode cX1_nextEntry 26 = .ok (.ifCond .lt 18, 3) := by decide +kernel
theorem dX1_nextEntry_29 : decode cX1_nextEntry 29 = .ok (.iload 5, 2) := by decide +kernel
theorem dX1_nextEntry_31 : decode cX1_nextEntry 31 = .ok (.ifCond .lt 13, 3) := by decide +kernel
theorem dX1_nextEntry_34 : decode cX1_nextEntry 34 = .ok (.iload 5, 2) := by decide +kernel
theorem dX1_nextEntry_36 : decode cX1_nextEntry 36 = .ok (.aload_n 0, 1) := by decide +kernel
theorem dX1_nextEntry_37 : decode cX1_nextEntry 37 = .ok (.getfield 28, 3) := by decide +kernel
theorem dX1_nextEntry_40 : decode cX1_nextEntry 40 = .ok (.arraylength, 1) := by decide +kernel
theorem dX1_nextEntry_41 : decode cX1_nextEntry 41 = .ok (.if_icmp .lt 5, 3) := by decide +kernel
theorem dX1_nextEntry_44 : decode cX1_nextEntry 44 = .ok (.iconst (-1), 1) := by decide +kernel
theorem dX1_nextEntry_45 : decode cX1_nextEntry 45 = .ok (.ireturn, 1) := by decide +kernel
theorem dX1_nextEntry_46 : decode cX1_nextEntry 46 = .ok (.aload_n 0, 1) := by decide +kernel
theorem dX1_nextEntry_47 : decode cX1_nextEntry 47 = .ok (.getfield 28, 3) := by decide +kernel
theorem dX1_nextEntry_50 : decode cX1_nextEntry 50 = .ok (.iload 5, 2) := by decide +kernel
theorem dX1_nextEntry_52 : decode cX1_nextEntry 52 = .ok (.iaload, 1) := by decide +kernel
theorem dX1_nextEntry_53 : decode cX1_nextEntry 53 = .ok (.istore_n 2, 1) := by decide +kernel
theorem dX1_nextEntry_54 : decode cX1_nextEntry 54 = .ok (.iload_n 2, 1) := by decide +kernel
theorem dX1_nextEntry_55 : decode cX1_nextEntry 55 = .ok (.ifCond .ge 7, 3) := by decide +kernel
theorem dX1_nextEntry_58 : decode cX1_nextEntry 58 = .ok (.iconst (-1), 1) := by decide +kernel
theorem dX1_nextEntry_59 : decode cX1_nextEntry 59 = .ok (.iload_n 2, 1) := by decide +kernel
theorem dX1_nextEntry_60 : decode cX1_nextEntry 60 = .ok (.isub, 1) := by decide +kernel
theorem dX1_nextEntry_61 : decode cX1_nextEntry 61 = .ok (.ireturn, 1) := by decide +kernel
theorem dX1_nextEntry_62 : decode cX1_nextEntry 62 = .ok (.iload_n 2, 1) := by decide +kernel
theorem dX1_nextEntry_63 : decode cX1_nextEntry 63 = .ok (.ifCond .ne 6, 3) := by decide +kernel
theorem dX1_nextEntry_66 : decode cX1_nextEntry 66 = .ok (.goto 9, 3) := by decide +kernel
theorem dX1_nextEntry_69 : decode cX1_nextEntry 69 = .ok (.iinc 3 1, 3) := by decide +kernel
theorem dX1_nextEntry_72 : decode cX1_nextEntry 72 = .ok (.goto (-68), 3) := by decide +kernel
theorem dX1_nextEntry_75 : decode cX1_nextEntry 75 = .ok (.aload_n 1, 1) := by decide +kernel
theorem dX1_nextEntry_76 : decode cX1_nextEntry 76 = .ok (.invokevirtual 86, 3) := by decide +kernel
theorem dX1_nextEntry_79 : decode cX1_nextEntry 79 = .ok (.iconst (-1), 1) := by decide +kernel
theorem dX1_nextEntry_80 : decode cX1_nextEntry 80 = .ok (.ireturn, 1) := by decide +kernel
theorem dX1_putValues_0 : decode cX1_putValues 0 = .ok (.iload_n 1, 1) := by decide +kernel
theorem dX1_putValues_1 : decode cX1_putValues 1 = .ok (.istore 4, 2) := by decide +kernel
theorem dX1_putValues_3 : decode cX1_putValues 3 = .ok (.iconst 0, 1) := by decide +kernel
theorem dX1_putValues_4 : decode cX1_putValues 4 = .ok (.istore 5, 2) := by decide +kernel
theorem dX1_putValues_6 : decode cX1_putValues 6 = .ok (.iconst 0, 1) := by decide +kernel
theorem dX1_putValues_7 : decode cX1_putValues 7 = .ok (.istore 6, 2) := by decide +kernel
theorem dX1_putValues_9 : decode cX1_putValues 9 = .ok (.iload 6, 2) := by decide +kernel
theorem dX1_putValues_11 : decode cX1_putValues 11 = .ok (.aload_n 0, 1) := by decide +kernel
theorem dX1_putValues_12 : decode cX1_putValues 12 = .ok (.getfield 11, 3) := by decide +kernel
theorem dX1_putValues_15 : decode cX1_putValues 15 = .ok (.if_icmp .ge 110, 3) := by decide +kernel
theorem dX1_putValues_18 : decode cX1_putValues 18 = .ok (.aload_n 0, 1) := by decide +kernel
theorem dX1_putValues_19 : decode cX1_putValues 19 = .ok (.getfield 18, 3) := by decide +kernel
theorem dX1_putValues_22 : decode cX1_putValues 22 = .ok (.ifCond .le 103, 3) := by decide +kernel
theorem dX1_putValues_25 : decode cX1_putValues 25 = .ok (.iload 4, 2) := by decide +kernel
theorem dX1_putValues_27 : decode cX1_putValues 27 = .ok (.aload_n 0, 1) := by decide +kernel
theorem dX1_putValues_28 : decode cX1_putValues 28 = .ok (.getfield 18, 3) := by decide +kernel
theorem dX1_putValues_31 : decode cX1_putValues 31 = .ok (.irem, 1) := by decide +kernel
theorem dX1_putValues_32 : decode cX1_putValues 32 = .ok (.istore 7, 2) := by decide +kernel
theorem dX1_putValues_34 : decode cX1_putValues 34 = .ok (.iload 4, 2) := by decide +kernel
theorem dX1_putValues_36 : decode cX1_putValues 36 = .ok (.aload_n 0, 1) := by decide +kernel
theorem dX1_putValues_37 : decode cX1_putValues 37 = .ok (.getfield 18, 3) := by decide +kernel
theorem dX1_putValues_40 : decode cX1_putValues 40 = .ok (.idiv, 1) := by decide +kernel
theorem dX1_putValues_41 : decode cX1_putValues 41 = .ok (.istore 4, 2) := by decide +kernel
theorem dX1_putValues_43 : decode cX1_putValues 43 = .ok (.iload_n 3, 1) := by decide +kernel
theorem dX1_putValues_44 : decode cX1_putValues 44 = .ok (.iload 6, 2) := by decide +kernel
theorem dX1_putValues_46 : decode cX1_putValues 46 = .ok (.iadd, 1) := by decide +kernel
theorem dX1_putValues_47 : decode cX1_putValues 47 = .ok (.istore 8, 2) := by decide +kernel
theorem dX1_putValues_49 : decode cX1_putValues 49 = .ok (.iload 7, 2) := by decide +kernel
theorem dX1_putValues_51 : decode cX1_putValues 51 = .ok (.ifCond .lt 68, 3) := by decide +kernel
theorem dX1_putValues_54 : decode cX1_putValues 54 = .ok (.iload 7, 2) := by decide +kernel
theorem dX1_putValues_56 : decode cX1_putValues 56 = .ok (.aload_n 0, 1) := by decide +kernel
theorem dX1_putValues_57 : decode cX1_putValues 57 = .ok (.getfield 21, 3) := by decide +kernel
theorem dX1_putValues_60 : decode cX1_putValues 60 = .ok (.arraylength, 1) := by decide +kernel
theorem dX1_putValues_61 : decode cX1_putValues 61 = .ok (.if_icmp .ge 58, 3) := by decide +kernel
theorem dX1_putValues_64 : decode cX1_putValues 64 = .ok (.iload 8, 2) := by decide +kernel
theorem dX1_putValues_66 : decode cX1_putValues 66 = .ok (.ifCond .lt 53, 3) := by decide +kernel
theorem dX1_putValues_69 : decode cX1_putValues 69 = .ok (.iload 8, 2) := by decide +kernel
theorem dX1_putValues_71 : decode cX1_putValues 71 = .ok (.aload_n 2, 1) := by decide +kernel
theorem dX1_putValues_72 : decode cX1_putValues 72 = .ok (.arraylength, 1) := by decide +kernel
theorem dX1_putValues_73 : decode cX1_putValues 73 = .ok (.if_icmp .ge 46, 3) := by decide +kernel
theorem dX1_putValues_76 : decode cX1_putValues 76 = .ok (.aload_n 0, 1) := by decide +kernel
theorem dX1_putValues_77 : decode cX1_putValues 77 = .ok (.getfield 21, 3) := by decide +kernel
theorem dX1_putValues_80 : decode cX1_putValues 80 = .ok (.iload 7, 2) := by decide +kernel
theorem dX1_putValues_82 : decode cX1_putValues 82 = .ok (.iaload, 1) := by decide +kernel
theorem dX1_putValues_83 : decode cX1_putValues 83 = .ok (.aload_n 0, 1) := by decide +kernel
theorem dX1_putValues_84 : decode cX1_putValues 84 = .ok (.getfield 54, 3) := by decide +kernel
theorem dX1_putValues_87 : decode cX1_putValues 87 = .ok (.imul, 1) := by decide +kernel
theorem dX1_putValues_88 : decode cX1_putValues 88 = .ok (.aload_n 0, 1) := by decide +kernel
theorem dX1_putValues_89 : decode cX1_putValues 89 = .ok (.getfield 60, 3) := by decide +kernel
theorem dX1_putValues_92 : decode cX1_putValues 92 = .ok (.iadd, 1) := by decide +kernel
theorem dX1_putValues_93 : decode cX1_putValues 93 = .ok (.aload_n 0, 1) := by decide +kernel
theorem dX1_putValues_94 : decode cX1_putValues 94 = .ok (.getfield 57, 3) := by decide +kernel
theorem dX1_putValues_97 : decode cX1_putValues 97 = .ok (.ifCond .eq 8, 3) := by decide +kernel
theorem dX1_putValues_100 : decode cX1_putValues 100 = .ok (.iload 5, 2) := by decide +kernel
theorem dX1_putValues_102 : decode cX1_putValues 102 = .ok (.goto 4, 3) := by decide +kernel
theorem dX1_putValues_105 : decode cX1_putValues 105 = .ok (.iconst 0, 1) := by decide +kernel
theorem dX1_putValues_106 : decode cX1_putValues 106 = .ok (.iadd, 1) := by decide +kernel
theorem dX1_putValues_107 : decode cX1_putValues 107 = .ok (.istore 9, 2) := by decide +kernel
theorem dX1_putValues_109 : decode cX1_putValues 109 = .ok (.aload_n 2, 1) := by decide +kernel
theorem dX1_putValues_110 : decode cX1_putValues 110 = .ok (.iload 8, 2) := by decide +kernel
theorem dX1_putValues_112 : decode cX1_putValues 112 = .ok (.iload 9, 2) := by decide +kernel
theorem dX1_putValues_114 : decode cX1_putValues 114 = .ok (.iastore, 1) := by decide +kernel
theorem dX1_putValues_115 : decode cX1_putValues 115 = .ok (.iload 9, 2) := by decide +kernel
theorem dX1_putValues_117 : decode cX1_putValues 117 = .ok (.istore 5, 2) := by decide +kernel
theorem dX1_putValues_119 : decode cX1_putValues 119 = .ok (.iinc 6 1, 3) := by decide +kernel
theorem dX1_putValues_122 : decode cX1_putValues 122 = .ok (.goto (-113), 3) := by decide +kernel
theorem dX1_putValues_125 : decode cX1_putValues 125 = .ok (.return_, 1) := by decide +kernel
theorem dX2_init_0 : decode cX2_init 0 = .ok (.aload_n 0, 1) := by decide +kernel
theorem dX2_init_1 : decode cX2_init 1 = .ok (.invokespecial 1, 3) := by decide +kernel
theorem dX2_init_4 : decode cX2_init 4 = .ok (.aload_n 0, 1) := by decide +kernel
theorem dX2_init_5 : decode cX2_init 5 = .ok (.bipush 17, 2) := by decide +kernel
theorem dX2_init_7 : decode cX2_init 7 = .ok (.newarray .int, 2) := by decide +kernel
theorem dX2_init_9 : decode cX2_init 9 = .ok (.putfield 9, 3) := by decide +kernel
theorem dX2_init_12 : decode cX2_init 12 = .ok (.aload_n 0, 1) := by decide +kernel
theorem dX2_init_13 : decode cX2_init 13 = .ok (.bipush 17, 2) := by decide +kernel
theorem dX2_init_15 : decode cX2_init 15 = .ok (.newarray .boolean, 2) := by decide +kernel
theorem dX2_init_17 : decode cX2_init 17 = .ok (.putfield 15, 3) := by decide +kernel
theorem dX2_init_20 : decode cX2_init 20 = .ok (.return_, 1) := by decide +kernel
theorem dX2_learn_0 : decode cX2_learn 0 = .ok (.aload_n 1, 1) := by decide +kernel
theorem dX2_learn_1 : decode cX2_learn 1 = .ok (.getfield 19, 3) := by decide +kernel
theorem dX2_learn_4 : decode cX2_learn 4 = .ok (.iconst 1, 1) := by decide +kernel
theorem dX2_learn_5 : decode cX2_learn 5 = .ok (.isub, 1) := by decide +kernel
theorem dX2_learn_6 : decode cX2_learn 6 = .ok (.iconst 3, 1) := by decide +kernel
theorem dX2_learn_7 : decode cX2_learn 7 = .ok (.iand, 1) := by decide +kernel
theorem dX2_learn_8 : decode cX2_learn 8 = .ok (.istore_n 3, 1) := by decide +kernel
theorem dX2_learn_9 : decode cX2_learn 9 = .ok (.aload_n 2, 1) := by decide +kernel
theorem dX2_learn_10 : decode cX2_learn 10 = .ok (.getstatic 23, 3) := by decide +kernel
theorem dX2_learn_13 : decode cX2_learn 13 = .ok (.iload_n 3, 1) := by decide +kernel
theorem dX2_learn_14 : decode cX2_learn 14 = .ok (.iaload, 1) := by decide +kernel
theorem dX2_learn_15 : decode cX2_learn 15 = .ok (.invokevirtual 26, 3) := by decide +kernel
theorem dX2_learn_18 : decode cX2_learn 18 = .ok (.istore 4, 2) := by decide +kernel
theorem dX2_learn_20 : decode cX2_learn 20 = .ok (.aload_n 2, 1) := by decide +kernel
theorem dX2_learn_21 : decode cX2_learn 21 = .ok (.getstatic 23, 3) := by decide +kernel
theorem dX2_learn_24 : decode cX2_learn 24 = .ok (.iload_n 3, 1) := by decide +kernel
theorem dX2_learn_25 : decode cX2_learn 25 = .ok (.iaload, 1) := by decide +kernel
theorem dX2_learn_26 : decode cX2_learn 26 = .ok (.invokevirtual 26, 3) := by decide +kernel
theorem dX2_learn_29 : decode cX2_learn 29 = .ok (.istore 5, 2) := by decide +kernel
theorem dX2_learn_31 : decode cX2_learn 31 = .ok (.iload 5, 2) := by decide +kernel
theorem dX2_learn_33 : decode cX2_learn 33 = .ok (.ifCond .ge 5, 3) := by decide +kernel
theorem dX2_learn_36 : decode cX2_learn 36 = .ok (.iconst 0, 1) := by decide +kernel
theorem dX2_learn_37 : decode cX2_learn 37 = .ok (.ireturn, 1) := by decide +kernel
theorem dX2_learn_38 : decode cX2_learn 38 = .ok (.getstatic 32, 3) := by decide +kernel
theorem dX2_learn_41 : decode cX2_learn 41 = .ok (.iload_n 3, 1) := by decide +kernel
theorem dX2_learn_42 : decode cX2_learn 42 = .ok (.iaload, 1) := by decide +kernel
theorem dX2_learn_43 : decode cX2_learn 43 = .ok (.istore 6, 2) := by decide +kernel
theorem dX2_learn_45 : decode cX2_learn 45 = .ok (.aload_n 0, 1) := by decide +kernel
theorem dX2_learn_46 : decode cX2_learn 46 = .ok (.getfield 9, 3) := by decide +kernel
theorem dX2_learn_49 : decode cX2_learn 49 = .ok (.iconst 0, 1) := by decide +kernel
theorem dX2_learn_50 : decode cX2_learn 50 = .ok (.iload 4, 2) := by decide +kernel
theorem dX2_learn_52 : decode cX2_learn 52 = .ok (.iload 6, 2) := by decide +kernel
theorem dX2_learn_54 : decode cX2_learn 54 = .ok (.iconst 1, 1) := by decide +kernel
theorem dX2_learn_55 : decode cX2_learn 55 = .ok (.isub, 1) := by decide +kernel
theorem dX2_learn_56 : decode cX2_learn 56 = .ok (.invokestatic 35, 3) := by decide +kernel
theorem dX2_learn_59 : decode cX2_learn 59 = .ok (.iastore, 1) := by decide +kernel
theorem dX2_learn_60 : decode cX2_learn 60 = .ok (.aload_n 0, 1) := by decide +kernel
theorem dX2_learn_61 : decode cX2_learn 61 = .ok (.getfield 9, 3) := by decide +kernel
theorem dX2_learn_64 : decode cX2_learn 64 = .ok (.iconst 1, 1) := by decide +kernel
theorem dX2_learn_65 : decode cX2_learn 65 = .ok (.iload 5, 2) := by decide +kernel
theorem dX2_learn_67 : decode cX2_learn 67 = .ok (.iload 6, 2) := by decide +kernel
theorem dX2_learn_69 : decode cX2_learn 69 = .ok (.iconst 1, 1) := by decide +kernel
theorem dX2_learn_70 : decode cX2_learn 70 = .ok (.isub, 1) := by decide +kernel
theorem dX2_learn_71 : decode cX2_learn 71 = .ok (.invokestatic 35, 3) := by decide +kernel
theorem dX2_learn_74 : decode cX2_learn 74 = .ok (.iastore, 1) := by decide +kernel
theorem dX2_learn_75 : decode cX2_learn 75 = .ok (.aload_n 0, 1) := by decide +kernel
theorem dX2_learn_76 : decode cX2_learn 76 = .ok (.getfield 15, 3) := by decide +kernel
theorem dX2_learn_79 : decode cX2_learn 79 = .ok (.iconst 0, 1) := by decide +kernel
theorem dX2_learn_80 : decode cX2_learn 80 = .ok (.iconst 1, 1) := by decide +kernel
theorem dX2_learn_81 : decode cX2_learn 81 = .ok (.bastore, 1) := by decide +kernel
theorem dX2_learn_82 : decode cX2_learn 82 = .ok (.aload_n 0, 1) := by decide +kernel
theorem dX2_learn_83 : decode cX2_learn 83 = .ok (.getfield 15, 3) := by decide +kernel
theorem dX2_learn_86 : decode cX2_learn 86 = .ok (.iconst 1, 1) := by decide +kernel
theorem dX2_learn_87 : decode cX2_learn 87 = .ok (.iconst 1, 1) := by decide +kernel
theorem dX2_learn_88 : decode cX2_learn 88 = .ok (.bastore, 1) := by decide +kernel
theorem dX2_learn_89 : decode cX2_learn 89 = .ok (.iconst 2, 1) := by decide +kernel
theorem dX2_learn_90 : decode cX2_learn 90 = .ok (.istore 7, 2) := by decide +kernel
theorem dX2_learn_92 : decode cX2_learn 92 = .ok (.iload 7, 2) := by decide +kernel
theorem dX2_learn_94 : decode cX2_learn 94 = .ok (.aload_n 1, 1) := by decide +kernel
theorem dX2_learn_95 : decode cX2_learn 95 = .ok (.getfield 41, 3) := by decide +kernel
theorem dX2_learn_98 : decode cX2_learn 98 = .ok (.if_icmp .ge 44, 3) := by decide +kernel
theorem dX2_learn_101 : decode cX2_learn 101 = .ok (.iload 7, 2) := by decide +kernel
theorem dX2_learn_103 : decode cX2_learn 103 = .ok (.aload_n 0, 1) := by decide +kernel
theorem dX2_learn_104 : decode cX2_learn 104 = .ok (.getfield 9, 3) := by decide +kernel
theorem dX2_learn_107 : decode cX2_learn 107 = .ok (.arraylength, 1) := by decide +kernel
theorem dX2_learn_108 : decode cX2_learn 108 = .ok (.if_icmp .ge 34, 3) := by decide +kernel
theorem dX2_learn_111 : decode cX2_learn 111 = .ok (.aload_n 1, 1) := by decide +kernel
theorem dX2_learn_112 : decode cX2_learn 112 = .ok (.aload_n 2, 1) := by decide +kernel
theorem dX2_learn_113 : decode cX2_learn 113 = .ok (.invokevirtual 44, 3) := by decide +kernel
theorem dX2_learn_116 : decode cX2_learn 116 = .ok (.istore 8, 2) := by decide +kernel
theorem dX2_learn_118 : decode cX2_learn 118 = .ok (.iload 8, 2) := by decide +kernel
theorem dX2_learn_120 : decode cX2_learn 120 = .ok (.ifCond .ge 5, 3) := by decide +kernel
theorem dX2_learn_123 : decode cX2_learn 123 = .ok (.iconst 0, 1) := by decide +kernel
theorem dX2_learn_124 : decode cX2_learn 124 = .ok (.ireturn, 1) := by decide +kernel
theorem dX2_learn_125 : decode cX2_learn 125 = .ok (.aload_n 0, 1) := by decide +kernel
theorem dX2_learn_126 : decode cX2_learn 126 = .ok (.aload_n 1, 1) := by decide +kernel
theorem dX2_learn_127 : decode cX2_learn 127 = .ok (.iload 7, 2) := by decide +kernel
theorem dX2_learn_129 : decode cX2_learn 129 = .ok (.iload 8, 2) := by decide +kernel
theorem dX2_learn_131 : decode cX2_learn 131 = .ok (.iload 6, 2) := by decide +kernel
theorem dX2_learn_133 : decode cX2_learn 133 = .ok (.invokevirtual 48, 3) := by decide +kernel
theorem dX2_learn_136 : decode cX2_learn 136 = .ok (.iinc 7 1, 3) := by decide +kernel
theorem dX2_learn_139 : decode cX2_learn 139 = .ok (.goto (-47), 3) := by decide +kernel
theorem dX2_learn_142 : decode cX2_learn 142 = .ok (.iconst 1, 1) := by decide +kernel
theorem dX2_learn_143 : decode cX2_learn 143 = .ok (.ireturn, 1) := by decide +kernel
theorem dX2_placePost_0 : decode cX2_placePost 0 = .ok (.aload_n 1, 1) := by decide +kernel
theorem dX2_placePost_1 : decode cX2_placePost 1 = .ok (.getfield 52, 3) := by decide +kernel
theorem dX2_placePost_4 : decode cX2_placePost 4 = .ok (.iload_n 2, 1) := by decide +kernel
theorem dX2_placePost_5 : decode cX2_placePost 5 = .ok (.iaload, 1) := by decide +kernel
theorem dX2_placePost_6 : decode cX2_placePost 6 = .ok (.istore 5, 2) := by decide +kernel
theorem dX2_placePost_8 : decode cX2_placePost 8 = .ok (.aload_n 1, 1) := by decide +kernel
theorem dX2_placePost_9 : decode cX2_placePost 9 = .ok (.getfield 55, 3) := by decide +kernel
theorem dX2_placePost_12 : decode cX2_placePost 12 = .ok (.iload_n 2, 1) := by decide +kernel
theorem dX2_placePost_13 : decode cX2_placePost 13 = .ok (.iaload, 1) := by decide +kernel
theorem dX2_placePost_14 : decode cX2_placePost 14 = .ok (.istore 6, 2) := by decide +kernel
theorem dX2_placePost_16 : decode cX2_placePost 16 = .ok (.iload 5, 2) := by decide +kernel
theorem dX2_placePost_18 : decode cX2_placePost 18 = .ok (.ifCond .lt 20, 3) := by decide +kernel
theorem dX2_placePost_21 : decode cX2_placePost 21 = .ok (.iload 5, 2) := by decide +kernel
theorem dX2_placePost_23 : decode cX2_placePost 23 = .ok (.iload_n 2, 1) := by decide +kernel
theorem dX2_placePost_24 : decode cX2_placePost 24 = .ok (.if_icmp .ge 14, 3) := by decide +kernel
theorem dX2_placePost_27 : decode cX2_placePost 27 = .ok (.iload 6, 2) := by decide +kernel
theorem dX2_placePost_29 : decode cX2_placePost 29 = .ok (.ifCond .lt 9, 3) := by decide +kernel
theorem dX2_placePost_32 : decode cX2_placePost 32 = .ok (.iload 6, 2) := by decide +kernel
theorem dX2_placePost_34 : decode cX2_placePost 34 = .ok (.iload_n 2, 1) := by decide +kernel
theorem dX2_placePost_35 : decode cX2_placePost 35 = .ok (.if_icmp .lt 4, 3) := by decide +kernel
theorem dX2_placePost_38 : decode cX2_placePost 38 = .ok (.return_, 1) := by decide +kernel
theorem dX2_placePost_39 : decode cX2_placePost 39 = .ok (.aload_n 1, 1) := by decide +kernel
theorem dX2_placePost_40 : decode cX2_placePost 40 = .ok (.getfield 58, 3) := by decide +kernel
theorem dX2_placePost_43 : decode cX2_placePost 43 = .ok (.iload 5, 2) := by decide +kernel
theorem dX2_placePost_45 : decode cX2_placePost 45 = .ok (.iaload, 1) := by decide +kernel
theorem dX2_placePost_46 : decode cX2_placePost 46 = .ok (.aload_n 0, 1) := by decide +kernel
theorem dX2_placePost_47 : decode cX2_placePost 47 = .ok (.getfield 9, 3) := by decide +kernel
theorem dX2_placePost_50 : decode cX2_placePost 50 = .ok (.iload 5, 2) := by decide +kernel
theorem dX2_placePost_52 : decode cX2_placePost 52 = .ok (.iaload, 1) := by decide +kernel
theorem dX2_placePost_53 : decode cX2_placePost 53 = .ok (.aload_n 1, 1) := by decide +kernel
theorem dX2_placePost_54 : decode cX2_placePost 54 = .ok (.getfield 58, 3) := by decide +kernel
theorem dX2_placePost_57 : decode cX2_placePost 57 = .ok (.iload 6, 2) := by decide +kernel
theorem dX2_placePost_59 : decode cX2_placePost 59 = .ok (.iaload, 1) := by decide +kernel
theorem dX2_placePost_60 : decode cX2_placePost 60 = .ok (.aload_n 0, 1) := by decide +kernel
theorem dX2_placePost_61 : decode cX2_placePost 61 = .ok (.getfield 9, 3) := by decide +kernel
theorem dX2_placePost_64 : decode cX2_placePost 64 = .ok (.iload 6, 2) := by decide +kernel
theorem dX2_placePost_66 : decode cX2_placePost 66 = .ok (.iaload, 1) := by decide +kernel
theorem dX2_placePost_67 : decode cX2_placePost 67 = .ok (.aload_n 1, 1) := by decide +kernel
theorem dX2_placePost_68 : decode cX2_placePost 68 = .ok (.getfield 58, 3) := by decide +kernel
theorem dX2_placePost_71 : decode cX2_placePost 71 = .ok (.iload_n 2, 1) := by decide +kernel
theorem dX2_placePost_72 : decode cX2_placePost 72 = .ok (.iaload, 1) := by decide +kernel
theorem dX2_placePost_73 : decode cX2_placePost 73 = .ok (.invokestatic 61, 3) := by decide +kernel
theorem dX2_placePost_76 : decode cX2_placePost 76 = .ok (.istore 7, 2) := by decide +kernel
theorem dX2_placePost_78 : decode cX2_placePost 78 = .ok (.aload_n 0, 1) := by decide +kernel
theorem dX2_placePost_79 : decode cX2_placePost 79 = .ok (.getfield 15, 3) := by decide +kernel
theorem dX2_placePost_82 : decode cX2_placePost 82 = .ok (.iload_n 2, 1) := by decide +kernel
theorem dX2_placePost_83 : decode cX2_placePost 83 = .ok (.iload_n 3, 1) := by decide +kernel
theorem dX2_placePost_84 : decode cX2_placePost 84 = .ok (.ifCond .eq 7, 3) := by decide +kernel
theorem dX2_placePost_87 : decode cX2_placePost 87 = .ok (.iconst 1, 1) := by decide +kernel
theorem dX2_placePost_88 : decode cX2_placePost 88 = .ok (.goto 4, 3) := by decide +kernel
theorem dX2_placePost_91 : decode cX2_placePost 91 = .ok (.iconst 0, 1) := by decide +kernel
theorem dX2_placePost_92 : decode cX2_placePost 92 = .ok (.bastore, 1) := by decide +kernel
theorem dX2_placePost_93 : decode cX2_placePost 93 = .ok (.aload_n 0, 1) := by decide +kernel
theorem dX2_placePost_94 : decode cX2_placePost 94 = .ok (.getfield 9, 3) := by decide +kernel
theorem dX2_placePost_97 : decode cX2_placePost 97 = .ok (.iload_n 2, 1) := by decide +kernel
theorem dX2_placePost_98 : decode cX2_placePost 98 = .ok (.iload 7, 2) := by decide +kernel
theorem dX2_placePost_100 : decode cX2_placePost 100 = .ok (.iastore, 1) := by decide +kernel
theorem dX2_placePost_101 : decode cX2_placePost 101 = .ok (.iload_n 3, 1) := by decide +kernel
theorem dX2_placePost_102 : decode cX2_placePost 102 = .ok (.ifCond .eq 44, 3) := by decide +kernel
theorem dX2_placePost_105 : decode cX2_placePost 105 = .ok (.aload_n 0, 1) := by decide +kernel
theorem dX2_placePost_106 : decode cX2_placePost 106 = .ok (.getfield 15, 3) := by decide +kernel
theorem dX2_placePost_109 : decode cX2_placePost 109 = .ok (.iload 5, 2) := by decide +kernel
theorem dX2_placePost_111 : decode cX2_placePost 111 = .ok (.iconst 1, 1) := by decide +kernel
theorem dX2_placePost_112 : decode cX2_placePost 112 = .ok (.bastore, 1) := by decide +kernel
theorem dX2_placePost_113 : decode cX2_placePost 113 = .ok (.aload_n 0, 1) := by decide +kernel
theorem dX2_placePost_114 : decode cX2_placePost 114 = .ok (.getfield 15, 3) := by decide +kernel
theorem dX2_placePost_117 : decode cX2_placePost 117 = .ok (.iload 6, 2) := by decide +kernel
theorem dX2_placePost_119 : decode cX2_placePost 119 = .ok (.iconst 1, 1) := by decide +kernel
theorem dX2_placePost_120 : decode cX2_placePost 120 = .ok (.bastore, 1) := by decide +kernel
theorem dX2_placePost_121 : decode cX2_placePost 121 = .ok (.aload_n 0, 1) := by decide +kernel
theorem dX2_placePost_122 : decode cX2_placePost 122 = .ok (.getfield 9, 3) := by decide +kernel
theorem dX2_placePost_125 : decode cX2_placePost 125 = .ok (.iload_n 2, 1) := by decide +kernel
theorem dX2_placePost_126 : decode cX2_placePost 126 = .ok (.iconst 0, 1) := by decide +kernel
theorem dX2_placePost_127 : decode cX2_placePost 127 = .ok (.iload 4, 2) := by decide +kernel
theorem dX2_placePost_129 : decode cX2_placePost 129 = .ok (.iconst 1, 1) := by decide +kernel
theorem dX2_placePost_130 : decode cX2_placePost 130 = .ok (.isub, 1) := by decide +kernel
theorem dX2_placePost_131 : decode cX2_placePost 131 = .ok (.iload_n 3, 1) := by decide +kernel
theorem dX2_placePost_132 : decode cX2_placePost 132 = .ok (.iload 7, 2) := by decide +kernel
theorem dX2_placePost_134 : decode cX2_placePost 134 = .ok (.iload 4, 2) := by decide +kernel
theorem dX2_placePost_136 : decode cX2_placePost 136 = .ok (.invokestatic 65, 3) := by decide +kernel
theorem dX2_placePost_139 : decode cX2_placePost 139 = .ok (.invokestatic 35, 3) := by decide +kernel
theorem dX2_placePost_142 : decode cX2_placePost 142 = .ok (.invokestatic 69, 3) := by decide +kernel
theorem dX2_placePost_145 : decode cX2_placePost 145 = .ok (.iastore, 1) := by decide +kernel
theorem dX2_placePost_146 : decode cX2_placePost 146 = .ok (.return_, 1) := by decide +kernel
theorem dX2_unfold_0 : decode cX2_unfold 0 = .ok (.iload_n 2, 1) := by decide +kernel
theorem dX2_unfold_1 : decode cX2_unfold 1 = .ok (.iload_n 1, 1) := by decide +kernel
theorem dX2_unfold_2 : decode cX2_unfold 2 = .ok (.isub, 1) := by decide +kernel
theorem dX2_unfold_3 : decode cX2_unfold 3 = .ok (.istore_n 3, 1) := by decide +kernel
theorem dX2_unfold_4 : decode cX2_unfold 4 = .ok (.iload_n 1, 1) := by decide +kernel
theorem dX2_unfold_5 : decode cX2_unfold 5 = .ok (.istore 4, 2) := by decide +kernel
theorem dX2_unfold_7 : decode cX2_unfold 7 = .ok (.iconst 2, 1) := by decide +kernel
theorem dX2_unfold_8 : decode cX2_unfold 8 = .ok (.iload_n 3, 1) := by decide +kernel
theorem dX2_unfold_9 : decode cX2_unfold 9 = .ok (.iload 4, 2) := by decide +kernel
theorem dX2_unfold_11 : decode cX2_unfold 11 = .ok (.invokestatic 35, 3) := by decide +kernel
theorem dX2_unfold_14 : decode cX2_unfold 14 = .ok (.imul, 1) := by decide +kernel
theorem dX2_unfold_15 : decode cX2_unfold 15 = .ok (.istore 5, 2) := by decide +kernel
theorem dX2_unfold_17 : decode cX2_unfold 17 = .ok (.iload_n 0, 1) := by decide +kernel
theorem dX2_unfold_18 : decode cX2_unfold 18 = .ok (.iload 5, 2) := by decide +kernel
theorem dX2_unfold_20 : decode cX2_unfold 20 = .ok (.if_icmp .lt 26, 3) := by decide +kernel
theorem dX2_unfold_23 : decode cX2_unfold 23 = .ok (.iload_n 3, 1) := by decide +kernel
theorem dX2_unfold_24 : decode cX2_unfold 24 = .ok (.iload 4, 2) := by decide +kernel
theorem dX2_unfold_26 : decode cX2_unfold 26 = .ok (.if_icmp .le 12, 3) := by decide +kernel
theorem dX2_unfold_29 : decode cX2_unfold 29 = .ok (.iload_n 1, 1) := by decide +kernel
theorem dX2_unfold_30 : decode cX2_unfold 30 = .ok (.iload_n 0, 1) := by decide +kernel
theorem dX2_unfold_31 : decode cX2_unfold 31 = .ok (.iadd, 1) := by decide +kernel
theorem dX2_unfold_32 : decode cX2_unfold 32 = .ok (.iload 4, 2) := by decide +kernel
theorem dX2_unfold_34 : decode cX2_unfold 34 = .ok (.isub, 1) := by decide +kernel
theorem dX2_unfold_35 : decode cX2_unfold 35 = .ok (.goto 10, 3) := by decide +kernel
theorem dX2_unfold_38 : decode cX2_unfold 38 = .ok (.iload_n 1, 1) := by decide +kernel
theorem dX2_unfold_39 : decode cX2_unfold 39 = .ok (.iload_n 3, 1) := by decide +kernel
theorem dX2_unfold_40 : decode cX2_unfold 40 = .ok (.iadd, 1) := by decide +kernel
theorem dX2_unfold_41 : decode cX2_unfold 41 = .ok (.iload_n 0, 1) := by decide +kernel
theorem dX2_unfold_42 : decode cX2_unfold 42 = .ok (.isub, 1) := by decide +kernel
theorem dX2_unfold_43 : decode cX2_unfold 43 = .ok (.iconst 1, 1) := by decide +kernel
theorem dX2_unfold_44 : decode cX2_unfold 44 = .ok (.isub, 1) := by decide +kernel
theorem dX2_unfold_45 : decode cX2_unfold 45 = .ok (.ireturn, 1) := by decide +kernel
theorem dX2_unfold_46 : decode cX2_unfold 46 = .ok (.iload_n 0, 1) := by decide +kernel
theorem dX2_unfold_47 : decode cX2_unfold 47 = .ok (.iconst 1, 1) := by decide +kernel
theorem dX2_unfold_48 : decode cX2_unfold 48 = .ok (.iand, 1) := by decide +kernel
theorem dX2_unfold_49 : decode cX2_unfold 49 = .ok (.iconst 1, 1) := by decide +kernel
theorem dX2_unfold_50 : decode cX2_unfold 50 = .ok (.if_icmp .ne 13, 3) := by decide +kernel
theorem dX2_unfold_53 : decode cX2_unfold 53 = .ok (.iload_n 1, 1) := by decide +kernel
theorem dX2_unfold_54 : decode cX2_unfold 54 = .ok (.iload_n 0, 1) := by decide +kernel
theorem dX2_unfold_55 : decode cX2_unfold 55 = .ok (.iconst 1, 1) := by decide +kernel
theorem dX2_unfold_56 : decode cX2_unfold 56 = .ok (.iadd, 1) := by decide +kernel
theorem dX2_unfold_57 : decode cX2_unfold 57 = .ok (.iconst 2, 1) := by decide +kernel
theorem dX2_unfold_58 : decode cX2_unfold 58 = .ok (.idiv, 1) := by decide +kernel
theorem dX2_unfold_59 : decode cX2_unfold 59 = .ok (.isub, 1) := by decide +kernel
theorem dX2_unfold_60 : decode cX2_unfold 60 = .ok (.goto 8, 3) := by decide +kernel
theorem dX2_unfold_63 : decode cX2_unfold 63 = .ok (.iload_n 1, 1) := by decide +kernel
theorem dX2_unfold_64 : decode cX2_unfold 64 = .ok (.iload_n 0, 1) := by decide +kernel
theorem dX2_unfold_65 : decode cX2_unfold 65 = .ok (.iconst 2, 1) := by decide +kernel
theorem dX2_unfold_66 : decode cX2_unfold 66 = .ok (.idiv, 1) := by decide +kernel
theorem dX2_unfold_67 : decode cX2_unfold 67 = .ok (.iadd, 1) := by decide +kernel
theorem dX2_unfold_68 : decode cX2_unfold 68 = .ok (.ireturn, 1) := by decide +kernel
theorem dX2_line_0 : decode cX2_line 0 = .ok (.iload_n 2, 1) := by decide +kernel
theorem dX2_line_1 : decode cX2_line 1 = .ok (.iload_n 0, 1) := by decide +kernel
theorem dX2_line_2 : decode cX2_line 2 = .ok (.isub, 1) := by decide +kernel
theorem dX2_line_3 : decode cX2_line 3 = .ok (.istore 5, 2) := by decide +kernel
theorem dX2_line_5 : decode cX2_line 5 = .ok (.iload 5, 2) := by decide +kernel
theorem dX2_line_7 : decode cX2_line 7 = .ok (.ifCond .gt 5, 3) := by decide +kernel
theorem dX2_line_10 : decode cX2_line 10 = .ok (.iload_n 1, 1) := by decide +kernel
theorem dX2_line_11 : decode cX2_line 11 = .ok (.ireturn, 1) := by decide +kernel
theorem dX2_line_12 : decode cX2_line 12 = .ok (.iload_n 3, 1) := by decide +kernel
theorem dX2_line_13 : decode cX2_line 13 = .ok (.iload_n 1, 1) := by decide +kernel
theorem dX2_line_14 : decode cX2_line 14 = .ok (.isub, 1) := by decide +kernel
theorem dX2_line_15 : decode cX2_line 15 = .ok (.invokestatic 72, 3) := by decide +kernel
theorem dX2_line_18 : decode cX2_line 18 = .ok (.iload 4, 2) := by decide +kernel
theorem dX2_line_20 : decode cX2_line 20 = .ok (.iload_n 0, 1) := by decide +kernel
theorem dX2_line_21 : decode cX2_line 21 = .ok (.isub, 1) := by decide +kernel
theorem dX2_line_22 : decode cX2_line 22 = .ok (.imul, 1) := by decide +kernel
theorem dX2_line_23 : decode cX2_line 23 = .ok (.iload 5, 2) := by decide +kernel
theorem dX2_line_25 : decode cX2_line 25 = .ok (.idiv, 1) := by decide +kernel
theorem dX2_line_26 : decode cX2_line 26 = .ok (.istore 6, 2) := by decide +kernel
theorem dX2_line_28 : decode cX2_line 28 = .ok (.iload_n 3, 1) := by decide +kernel
theorem dX2_line_29 : decode cX2_line 29 = .ok (.iload_n 1, 1) := by decide +kernel
theorem dX2_line_30 : decode cX2_line 30 = .ok (.if_icmp .le 10, 3) := by decide +kernel
theorem dX2_line_33 : decode cX2_line 33 = .ok (.iload_n 1, 1) := by decide +kernel
theorem dX2_line_34 : decode cX2_line 34 = .ok (.iload 6, 2) := by decide +kernel
theorem dX2_line_36 : decode cX2_line 36 = .ok (.iadd, 1) := by decide +kernel
theorem dX2_line_37 : decode cX2_line 37 = .ok (.goto 7, 3) := by decide +kernel
theorem dX2_line_40 : decode cX2_line 40 = .ok (.iload_n 1, 1) := by decide +kernel
theorem dX2_line_41 : decode cX2_line 41 = .ok (.iload 6, 2) := by decide +kernel
theorem dX2_line_43 : decode cX2_line 43 = .ok (.isub, 1) := by decide +kernel
theorem dX2_line_44 : decode cX2_line 44 = .ok (.ireturn, 1) := by decide +kernel
theorem dX2_draw_0 : decode cX2_draw 0 = .ok (.iconst 0, 1) := by decide +kernel
theorem dX2_draw_1 : decode cX2_draw 1 = .ok (.istore_n 3, 1) := by decide +kernel
theorem dX2_draw_2 : decode cX2_draw 2 = .ok (.iconst 1, 1) := by decide +kernel
theorem dX2_draw_3 : decode cX2_draw 3 = .ok (.istore 4, 2) := by decide +kernel
theorem dX2_draw_5 : decode cX2_draw 5 = .ok (.iload 4, 2) := by decide +kernel
theorem dX2_draw_7 : decode cX2_draw 7 = .ok (.aload_n 1, 1) := by decide +kernel
theorem dX2_draw_8 : decode cX2_draw 8 = .ok (.getfield 75, 3) := by decide +kernel
theorem dX2_draw_11 : decode cX2_draw 11 = .ok (.arraylength, 1) := by decide +kernel
theorem dX2_draw_12 : decode cX2_draw 12 = .ok (.if_icmp .ge 55, 3) := by decide +kernel
theorem dX2_draw_15 : decode cX2_draw 15 = .ok (.aload_n 1, 1) := by decide +kernel
theorem dX2_draw_16 : decode cX2_draw 16 = .ok (.getfield 75, 3) := by decide +kernel
theorem dX2_draw_19 : decode cX2_draw 19 = .ok (.iload 4, 2) := by decide +kernel
theorem dX2_draw_21 : decode cX2_draw 21 = .ok (.iaload, 1) := by decide +kernel
theorem dX2_draw_22 : decode cX2_draw 22 = .ok (.istore 5, 2) := by decide +kernel
theorem dX2_draw_24 : decode cX2_draw 24 = .ok (.iload 5, 2) := by decide +kernel
theorem dX2_draw_26 : decode cX2_draw 26 = .ok (.ifCond .le 35, 3) := by decide +kernel
theorem dX2_draw_29 : decode cX2_draw 29 = .ok (.iload 5, 2) := by decide +kernel
theorem dX2_draw_31 : decode cX2_draw 31 = .ok (.aload_n 0, 1) := by decide +kernel
theorem dX2_draw_32 : decode cX2_draw 32 = .ok (.getfield 15, 3) := by decide +kernel
theorem dX2_draw_35 : decode cX2_draw 35 = .ok (.arraylength, 1) := by decide +kernel
theorem dX2_draw_36 : decode cX2_draw 36 = .ok (.if_icmp .ge 25, 3) := by decide +kernel
theorem dX2_draw_39 : decode cX2_draw 39 = .ok (.aload_n 0, 1) := by decide +kernel
theorem dX2_draw_40 : decode cX2_draw 40 = .ok (.getfield 15, 3) := by decide +kernel
theorem dX2_draw_43 : decode cX2_draw 43 = .ok (.iload 5, 2) := by decide +kernel
theorem dX2_draw_45 : decode cX2_draw 45 = .ok (.baload, 1) := by decide +kernel
theorem dX2_draw_46 : decode cX2_draw 46 = .ok (.ifCond .eq 15, 3) := by decide +kernel
theorem dX2_draw_49 : decode cX2_draw 49 = .ok (.aload_n 0, 1) := by decide +kernel
theorem dX2_draw_50 : decode cX2_draw 50 = .ok (.aload_n 1, 1) := by decide +kernel
theorem dX2_draw_51 : decode cX2_draw 51 = .ok (.iload_n 3, 1) := by decide +kernel
theorem dX2_draw_52 : decode cX2_draw 52 = .ok (.iload 5, 2) := by decide +kernel
theorem dX2_draw_54 : decode cX2_draw 54 = .ok (.aload_n 2, 1) := by decide +kernel
theorem dX2_draw_55 : decode cX2_draw 55 = .ok (.invokevirtual 78, 3) := by decide +kernel
theorem dX2_draw_58 : decode cX2_draw 58 = .ok (.iload 5, 2) := by decide +kernel
theorem dX2_draw_60 : decode cX2_draw 60 = .ok (.istore_n 3, 1) := by decide +kernel
theorem dX2_draw_61 : decode cX2_draw 61 = .ok (.iinc 4 1, 3) := by decide +kernel
theorem dX2_draw_64 : decode cX2_draw 64 = .ok (.goto (-59), 3) := by decide +kernel
theorem dX2_draw_67 : decode cX2_draw 67 = .ok (.return_, 1) := by decide +kernel
theorem dX2_drawLine_0 : decode cX2_drawLine 0 = .ok (.aload_n 1, 1) := by decide +kernel
theorem dX2_drawLine_1 : decode cX2_drawLine 1 = .ok (.getfield 58, 3) := by decide +kernel
theorem dX2_drawLine_4 : decode cX2_drawLine 4 = .ok (.iload_n 2, 1) := by decide +kernel
theorem dX2_drawLine_5 : decode cX2_drawLine 5 = .ok (.iaload, 1) := by decide +kernel
theorem dX2_drawLine_6 : decode cX2_drawLine 6 = .ok (.istore 5, 2) := by decide +kernel
theorem dX2_drawLine_8 : decode cX2_drawLine 8 = .ok (.aload_n 1, 1) := by decide +kernel
theorem dX2_drawLine_9 : decode cX2_drawLine 9 = .ok (.getfield 58, 3) := by decide +kernel
theorem dX2_drawLine_12 : decode cX2_drawLine 12 = .ok (.iload_n 3, 1) := by decide +kernel
theorem dX2_drawLine_13 : decode cX2_drawLine 13 = .ok (.iaload, 1) := by decide +kernel
theorem dX2_drawLine_14 : decode cX2_drawLine 14 = .ok (.istore 6, 2) := by decide +kernel
theorem dX2_drawLine_16 : decode cX2_drawLine 16 = .ok (.iload 5, 2) := by decide +kernel
theorem dX2_drawLine_18 : decode cX2_drawLine 18 = .ok (.istore 7, 2) := by decide +kernel
theorem dX2_drawLine_20 : decode cX2_drawLine 20 = .ok (.iload 7, 2) := by decide +kernel
theorem dX2_drawLine_22 : decode cX2_drawLine 22 = .ok (.iload 6, 2) := by decide +kernel
theorem dX2_drawLine_24 : decode cX2_drawLine 24 = .ok (.if_icmp .ge 63, 3) := by decide +kernel
theorem dX2_drawLine_27 : decode cX2_drawLine 27 = .ok (.iload 7, 2) := by decide +kernel
theorem dX2_drawLine_29 : decode cX2_drawLine 29 = .ok (.ifCond .lt 58, 3) := by decide +kernel
theorem dX2_drawLine_32 : decode cX2_drawLine 32 = .ok (.iload 7, 2) := by decide +kernel
theorem dX2_drawLine_34 : decode cX2_drawLine 34 = .ok (.aload 4, 2) := by decide +kernel
theorem dX2_drawLine_36 : decode cX2_drawLine 36 = .ok (.arraylength, 1) := by decide +kernel
theorem dX2_drawLine_37 : decode cX2_drawLine 37 = .ok (.if_icmp .ge 50, 3) := by decide +kernel
theorem dX2_drawLine_40 : decode cX2_drawLine 40 = .ok (.iload 5, 2) := by decide +kernel
theorem dX2_drawLine_42 : decode cX2_drawLine 42 = .ok (.aload_n 0, 1) := by decide +kernel
theorem dX2_drawLine_43 : decode cX2_drawLine 43 = .ok (.getfield 9, 3) := by decide +kernel
theorem dX2_drawLine_46 : decode cX2_drawLine 46 = .ok (.iload_n 2, 1) := by decide +kernel
theorem dX2_drawLine_47 : decode cX2_drawLine 47 = .ok (.iaload, 1) := by decide +kernel
theorem dX2_drawLine_48 : decode cX2_drawLine 48 = .ok (.iload 6, 2) := by decide +kernel
theorem dX2_drawLine_50 : decode cX2_drawLine 50 = .ok (.aload_n 0, 1) := by decide +kernel
theorem dX2_drawLine_51 : decode cX2_drawLine 51 = .ok (.getfield 9, 3) := by decide +kernel
theorem dX2_drawLine_54 : decode cX2_drawLine 54 = .ok (.iload_n 3, 1) := by decide +kernel
theorem dX2_drawLine_55 : decode cX2_drawLine 55 = .ok (.iaload, 1) := by decide +kernel
theorem dX2_drawLine_56 : decode cX2_drawLine 56 = .ok (.iload 7, 2) := by decide +kernel
theorem dX2_drawLine_58 : decode cX2_drawLine 58 = .ok (.invokestatic 61, 3) := by decide +kernel
theorem dX2_drawLine_61 : decode cX2_drawLine 61 = .ok (.istore 8, 2) := by decide +kernel
theorem dX2_drawLine_63 : decode cX2_drawLine 63 = .ok (.aload 4, 2) := by decide +kernel
theorem dX2_drawLine_65 : decode cX2_drawLine 65 = .ok (.iload 7, 2) := by decide +kernel
theorem dX2_drawLine_67 : decode cX2_drawLine 67 = .ok (.sipush 255, 3) := by decide +kernel
theorem dX2_drawLine_70 : decode cX2_drawLine 70 = .ok (.iload 8, 2) := by decide +kernel
theorem dX2_drawLine_72 : decode cX2_drawLine 72 = .ok (.aload_n 1, 1) := by decide +kernel
theorem dX2_drawLine_73 : decode cX2_drawLine 73 = .ok (.getfield 19, 3) := by decide +kernel
theorem dX2_drawLine_76 : decode cX2_drawLine 76 = .ok (.imul, 1) := by decide +kernel
theorem dX2_drawLine_77 : decode cX2_drawLine 77 = .ok (.invokestatic 35, 3) := by decide +kernel
theorem dX2_drawLine_80 : decode cX2_drawLine 80 = .ok (.iastore, 1) := by decide +kernel
theorem dX2_drawLine_81 : decode cX2_drawLine 81 = .ok (.iinc 7 1, 3) := by decide +kernel
theorem dX2_drawLine_84 : decode cX2_drawLine 84 = .ok (.goto (-64), 3) := by decide +kernel
theorem dX2_drawLine_87 : decode cX2_drawLine 87 = .ok (.return_, 1) := by decide +kernel
theorem dX3_init_0 : decode cX3_init 0 = .ok (.aload_n 0, 1) := by decide +kernel
theorem dX3_init_1 : decode cX3_init 1 = .ok (.invokespecial 1, 3) := by decide +kernel
theorem dX3_init_4 : decode cX3_init 4 = .ok (.aload_n 0, 1) := by decide +kernel
theorem dX3_init_5 : decode cX3_init 5 = .ok (.bipush 60, 2) := by decide +kernel
theorem dX3_init_7 : decode cX3_init 7 = .ok (.newarray .int, 2) := by decide +kernel
theorem dX3_init_9 : decode cX3_init 9 = .ok (.putfield 9, 3) := by decide +kernel
theorem dX3_init_12 : decode cX3_init 12 = .ok (.aload_n 0, 1) := by decide +kernel
theorem dX3_init_13 : decode cX3_init 13 = .ok (.bipush 60, 2) := by decide +kernel
theorem dX3_init_15 : decode cX3_init 15 = .ok (.newarray .int, 2) := by decide +kernel
theorem dX3_init_17 : decode cX3_init 17 = .ok (.putfield 13, 3) := by decide +kernel
theorem dX3_init_20 : decode cX3_init 20 = .ok (.aload_n 0, 1) := by decide +kernel
theorem dX3_init_21 : decode cX3_init 21 = .ok (.sipush 255, 3) := by decide +kernel
theorem dX3_init_24 : decode cX3_init 24 = .ok (.newarray .int, 2) := by decide +kernel
theorem dX3_init_26 : decode cX3_init 26 = .ok (.putfield 18, 3) := by decide +kernel
theorem dX3_init_29 : decode cX3_init 29 = .ok (.aload_n 0, 1) := by decide +kernel
theorem dX3_init_30 : decode cX3_init 30 = .ok (.invokevirtual 21, 3) := by decide +kernel
theorem dX3_init_33 : decode cX3_init 33 = .ok (.return_, 1) := by decide +kernel
theorem dX3_startOf_0 : decode cX3_startOf 0 = .ok (.iload_n 1, 1) := by decide +kernel
theorem dX3_startOf_1 : decode cX3_startOf 1 = .ok (.ifCond .lt 21, 3) := by decide +kernel
theorem dX3_startOf_4 : decode cX3_startOf 4 = .ok (.iload_n 1, 1) := by decide +kernel
theorem dX3_startOf_5 : decode cX3_startOf 5 = .ok (.aload_n 0, 1) := by decide +kernel
theorem dX3_startOf_6 : decode cX3_startOf 6 = .ok (.getfield 9, 3) := by decide +kernel
theorem dX3_startOf_9 : decode cX3_startOf 9 = .ok (.arraylength, 1) := by decide +kernel
theorem dX3_startOf_10 : decode cX3_startOf 10 = .ok (.if_icmp .ge 12, 3) := by decide +kernel
theorem dX3_startOf_13 : decode cX3_startOf 13 = .ok (.aload_n 0, 1) := by decide +kernel
theorem dX3_startOf_14 : decode cX3_startOf 14 = .ok (.getfield 9, 3) := by decide +kernel
theorem dX3_startOf_17 : decode cX3_startOf 17 = .ok (.iload_n 1, 1) := by decide +kernel
theorem dX3_startOf_18 : decode cX3_startOf 18 = .ok (.iaload, 1) := by decide +kernel
theorem dX3_startOf_19 : decode cX3_startOf 19 = .ok (.goto 4, 3) := by decide +kernel
theorem dX3_startOf_22 : decode cX3_startOf 22 = .ok (.iconst 0, 1) := by decide +kernel
theorem dX3_startOf_23 : decode cX3_startOf 23 = .ok (.ireturn, 1) := by decide +kernel
theorem dX3_lengthOf_0 : decode cX3_lengthOf 0 = .ok (.iload_n 1, 1) := by decide +kernel
theorem dX3_lengthOf_1 : decode cX3_lengthOf 1 = .ok (.ifCond .lt 21, 3) := by decide +kernel
theorem dX3_lengthOf_4 : decode cX3_lengthOf 4 = .ok (.iload_n 1, 1) := by decide +kernel
theorem dX3_lengthOf_5 : decode cX3_lengthOf 5 = .ok (.aload_n 0, 1) := by decide +kernel
theorem dX3_lengthOf_6 : decode cX3_lengthOf 6 = .ok (.getfield 13, 3) := by decide +kernel
theorem dX3_lengthOf_9 : decode cX3_lengthOf 9 = .ok (.arraylength, 1) := by decide +kernel
theorem dX3_lengthOf_10 : decode cX3_lengthOf 10 = .ok (.if_icmp .ge 12, 3) := by decide +kernel
theorem dX3_lengthOf_13 : decode cX3_lengthOf 13 = .ok (.aload_n 0, 1) := by decide +kernel
theorem dX3_lengthOf_14 : decode cX3_lengthOf 14 = .ok (.getfield 13, 3) := by decide +kernel
theorem dX3_lengthOf_17 : decode cX3_lengthOf 17 = .ok (.iload_n 1, 1) := by decide +kernel
theorem dX3_lengthOf_18 : decode cX3_lengthOf 18 = .ok (.iaload, 1) := by decide +kernel
theorem dX3_lengthOf_19 : decode cX3_lengthOf 19 = .ok (.goto 4, 3) := by decide +kernel
theorem dX3_lengthOf_22 : decode cX3_lengthOf 22 = .ok (.iconst 0, 1) := by decide +kernel
theorem dX3_lengthOf_23 : decode cX3_lengthOf 23 = .ok (.ireturn, 1) := by decide +kernel
theorem dX3_gather_0 : decode cX3_gather 0 = .ok (.aload_n 0, 1) := by decide +kernel
theorem dX3_gather_1 : decode cX3_gather 1 = .ok (.invokevirtual 21, 3) := by decide +kernel
theorem dX3_gather_4 : decode cX3_gather 4 = .ok (.iconst 0, 1) := by decide +kernel
theorem dX3_gather_5 : decode cX3_gather 5 = .ok (.istore_n 2, 1) := by decide +kernel
theorem dX3_gather_6 : decode cX3_gather 6 = .ok (.iconst 0, 1) := by decide +kernel
theorem dX3_gather_7 : decode cX3_gather 7 = .ok (.istore_n 3, 1) := by decide +kernel
theorem dX3_gather_8 : decode cX3_gather 8 = .ok (.iload_n 3, 1) := by decide +kernel
theorem dX3_gather_9 : decode cX3_gather 9 = .ok (.sipush 6000, 3) := by decide +kernel
theorem dX3_gather_12 : decode cX3_gather 12 = .ok (.if_icmp .ge 44, 3) := by decide +kernel
theorem dX3_gather_15 : decode cX3_gather 15 = .ok (.iload_n 2, 1) := by decide +kernel
theorem dX3_gather_16 : decode cX3_gather 16 = .ok (.aload_n 1, 1) := by decide +kernel
theorem dX3_gather_17 : decode cX3_gather 17 = .ok (.getfield 24, 3) := by decide +kernel
theorem dX3_gather_20 : decode cX3_gather 20 = .ok (.if_icmp .ge 36, 3) := by decide +kernel
theorem dX3_gather_23 : decode cX3_gather 23 = .ok (.aload_n 1, 1) := by decide +kernel
theorem dX3_gather_24 : decode cX3_gather 24 = .ok (.iload_n 2, 1) := by decide +kernel
theorem dX3_gather_25 : decode cX3_gather 25 = .ok (.invokevirtual 28, 3) := by decide +kernel
theorem dX3_gather_28 : decode cX3_gather 28 = .ok (.istore 4, 2) := by decide +kernel
theorem dX3_gather_30 : decode cX3_gather 30 = .ok (.iload 4, 2) := by decide +kernel
theorem dX3_gather_32 : decode cX3_gather 32 = .ok (.ifCond .le 9, 3) := by decide +kernel
theorem dX3_gather_35 : decode cX3_gather 35 = .ok (.aload_n 0, 1) := by decide +kernel
theorem dX3_gather_36 : decode cX3_gather 36 = .ok (.aload_n 1, 1) := by decide +kernel
theorem dX3_gather_37 : decode cX3_gather 37 = .ok (.iload_n 2, 1) := by decide +kernel
theorem dX3_gather_38 : decode cX3_gather 38 = .ok (.invokevirtual 32, 3) := by decide +kernel
theorem dX3_gather_41 : decode cX3_gather 41 = .ok (.iload_n 2, 1) := by decide +kernel
theorem dX3_gather_42 : decode cX3_gather 42 = .ok (.iconst 1, 1) := by decide +kernel
theorem dX3_gather_43 : decode cX3_gather 43 = .ok (.iload 4, 2) := by decide +kernel
theorem dX3_gather_45 : decode cX3_gather 45 = .ok (.invokestatic 36, 3) := by decide +kernel
theorem dX3_gather_48 : decode cX3_gather 48 = .ok (.iadd, 1) := by decide +kernel
theorem dX3_gather_49 : decode cX3_gather 49 = .ok (.istore_n 2, 1) := by decide +kernel
theorem dX3_gather_50 : decode cX3_gather 50 = .ok (.iinc 3 1, 3) := by decide +kernel
theorem dX3_gather_53 : decode cX3_gather 53 = .ok (.goto (-45), 3) := by decide +kernel
theorem dX3_gather_56 : decode cX3_gather 56 = .ok (.return_, 1) := by decide +kernel
theorem dX3_forget_0 : decode cX3_forget 0 = .ok (.aload_n 0, 1) := by decide +kernel
theorem dX3_forget_1 : decode cX3_forget 1 = .ok (.iconst 0, 1) := by decide +kernel
theorem dX3_forget_2 : decode cX3_forget 2 = .ok (.putfield 42, 3) := by decide +kernel
theorem dX3_forget_5 : decode cX3_forget 5 = .ok (.aload_n 0, 1) := by decide +kernel
theorem dX3_forget_6 : decode cX3_forget 6 = .ok (.iconst 0, 1) := by decide +kernel
theorem dX3_forget_7 : decode cX3_forget 7 = .ok (.putfield 45, 3) := by decide +kernel
theorem dX3_forget_10 : decode cX3_forget 10 = .ok (.aload_n 0, 1) := by decide +kernel
theorem dX3_forget_11 : decode cX3_forget 11 = .ok (.iconst 0, 1) := by decide +kernel
theorem dX3_forget_12 : decode cX3_forget 12 = .ok (.putfield 48, 3) := by decide +kernel
theorem dX3_forget_15 : decode cX3_forget 15 = .ok (.aload_n 0, 1) := by decide +kernel
theorem dX3_forget_16 : decode cX3_forget 16 = .ok (.iconst 0, 1) := by decide +kernel
theorem dX3_forget_17 : decode cX3_forget 17 = .ok (.putfield 51, 3) := by decide +kernel
theorem dX3_forget_20 : decode cX3_forget 20 = .ok (.aload_n 0, 1) := by decide +kernel
theorem dX3_forget_21 : decode cX3_forget 21 = .ok (.iconst 0, 1) := by decide +kernel
theorem dX3_forget_22 : decode cX3_forget 22 = .ok (.putfield 54, 3) := by decide +kernel
theorem dX3_forget_25 : decode cX3_forget 25 = .ok (.aload_n 0, 1) := by decide +kernel
theorem dX3_forget_26 : decode cX3_forget 26 = .ok (.iconst 0, 1) := by decide +kernel
theorem dX3_forget_27 : decode cX3_forget 27 = .ok (.putfield 57, 3) := by decide +kernel
theorem dX3_forget_30 : decode cX3_forget 30 = .ok (.aload_n 0, 1) := by decide +kernel
theorem dX3_forget_31 : decode cX3_forget 31 = .ok (.lconst 0, 1) := by decide +kernel
theorem dX3_forget_32 : decode cX3_forget 32 = .ok (.putfield 61, 3) := by decide +kernel
theorem dX3_forget_35 : decode cX3_forget 35 = .ok (.aload_n 0, 1) := by decide +kernel
theorem dX3_forget_36 : decode cX3_forget 36 = .ok (.iconst 0, 1) := by decide +kernel
theorem dX3_forget_37 : decode cX3_forget 37 = .ok (.putfield 65, 3) := by decide +kernel
theorem dX3_forget_40 : decode cX3_forget 40 = .ok (.aload_n 0, 1) := by decide +kernel
theorem dX3_forget_41 : decode cX3_forget 41 = .ok (.iconst 0, 1) := by decide +kernel
theorem dX3_forget_42 : decode cX3_forget 42 = .ok (.putfield 68, 3) := by decide +kernel
theorem dX3_forget_45 : decode cX3_forget 45 = .ok (.aload_n 0, 1) := by decide +kernel
theorem dX3_forget_46 : decode cX3_forget 46 = .ok (.iconst 0, 1) := by decide +kernel
theorem dX3_forget_47 : decode cX3_forget 47 = .ok (.putfield 71, 3) := by decide +kernel
theorem dX3_forget_50 : decode cX3_forget 50 = .ok (.aload_n 0, 1) := by decide +kernel
theorem dX3_forget_51 : decode cX3_forget 51 = .ok (.iconst 0, 1) := by decide +kernel
theorem dX3_forget_52 : decode cX3_forget 52 = .ok (.putfield 74, 3) := by decide +kernel
theorem dX3_forget_55 : decode cX3_forget 55 = .ok (.return_, 1) := by decide +kernel
theorem dX3_takePage_0 : decode cX3_takePage 0 = .ok (.aload_n 1, 1) := by decide +kernel
theorem dX3_takePage_1 : decode cX3_takePage 1 = .ok (.iload_n 2, 1) := by decide +kernel
theorem dX3_takePage_2 : decode cX3_takePage 2 = .ok (.bipush 14, 2) := by decide +kernel
theorem dX3_takePage_4 : decode cX3_takePage 4 = .ok (.iadd, 1) := by decide +kernel
theorem dX3_takePage_5 : decode cX3_takePage 5 = .ok (.invokevirtual 77, 3) := by decide +kernel
theorem dX3_takePage_8 : decode cX3_takePage 8 = .ok (.istore_n 3, 1) := by decide +kernel
theorem dX3_takePage_9 : decode cX3_takePage 9 = .ok (.aload_n 0, 1) := by decide +kernel
theorem dX3_takePage_10 : decode cX3_takePage 10 = .ok (.getfield 45, 3) := by decide +kernel
theorem dX3_takePage_13 : decode cX3_takePage 13 = .ok (.ifCond .ne 8, 3) := by decide +kernel
theorem dX3_takePage_16 : decode cX3_takePage 16 = .ok (.aload_n 0, 1) := by decide +kernel
theorem dX3_takePage_17 : decode cX3_takePage 17 = .ok (.iload_n 3, 1) := by decide +kernel
theorem dX3_takePage_18 : decode cX3_takePage 18 = .ok (.putfield 65, 3) := by decide +kernel
theorem dX3_takePage_21 : decode cX3_takePage 21 = .ok (.iload_n 3, 1) := by decide +kernel
theorem dX3_takePage_22 : decode cX3_takePage 22 = .ok (.aload_n 0, 1) := by decide +kernel
theorem dX3_takePage_23 : decode cX3_takePage 23 = .ok (.getfield 65, 3) := by decide +kernel
theorem dX3_takePage_26 : decode cX3_takePage 26 = .ok (.if_icmp .eq 14, 3) := by decide +kernel
theorem dX3_takePage_29 : decode cX3_takePage 29 = .ok (.aload_n 0, 1) := by decide +kernel
theorem dX3_takePage_30 : decode cX3_takePage 30 = .ok (.dup, 1) := by decide +kernel
theorem dX3_takePage_31 : decode cX3_takePage 31 = .ok (.getfield 48, 3) := by decide +kernel
theorem dX3_takePage_34 : decode cX3_takePage 34 = .ok (.iconst 1, 1) := by decide +kernel
theorem dX3_takePage_35 : decode cX3_takePage 35 = .ok (.iadd, 1) := by decide +kernel
theorem dX3_takePage_36 : decode cX3_takePage 36 = .ok (.putfield 48, 3) := by decide +kernel
theorem dX3_takePage_39 : decode cX3_takePage 39 = .ok (.return_, 1) := by decide +kernel
theorem dX3_takePage_40 : decode cX3_takePage 40 = .ok (.aload_n 1, 1) := by decide +kernel
theorem dX3_takePage_41 : decode cX3_takePage 41 = .ok (.iload_n 2, 1) := by decide +kernel
theorem dX3_takePage_42 : decode cX3_takePage 42 = .ok (.bipush 18, 2) := by decide +kernel
theorem dX3_takePage_44 : decode cX3_takePage 44 = .ok (.iadd, 1) := by decide +kernel
theorem dX3_takePage_45 : decode cX3_takePage 45 = .ok (.invokevirtual 77, 3) := by decide +kernel
theorem dX3_takePage_48 : decode cX3_takePage 48 = .ok (.istore 4, 2) := by decide +kernel
theorem dX3_takePage_50 : decode cX3_takePage 50 = .ok (.aload_n 1, 1) := by decide +kernel
theorem dX3_takePage_51 : decode cX3_takePage 51 = .ok (.iload_n 2, 1) := by decide +kernel
theorem dX3_takePage_52 : decode cX3_takePage 52 = .ok (.iconst 5, 1) := by decide +kernel
theorem dX3_takePage_53 : decode cX3_takePage 53 = .ok (.iadd, 1) := by decide +kernel
theorem dX3_takePage_54 : decode cX3_takePage 54 = .ok (.invokevirtual 80, 3) := by decide +kernel
theorem dX3_takePage_57 : decode cX3_takePage 57 = .ok (.istore 5, 2) := by decide +kernel
theorem dX3_takePage_59 : decode cX3_takePage 59 = .ok (.iload 5, 2) := by decide +kernel
theorem dX3_takePage_61 : decode cX3_takePage 61 = .ok (.iconst 1, 1) := by decide +kernel
theorem dX3_takePage_62 : decode cX3_takePage 62 = .ok (.iand, 1) := by decide +kernel
theorem dX3_takePage_63 : decode cX3_takePage 63 = .ok (.ifCond .eq 7, 3) := by decide +kernel
theorem dX3_takePage_66 : decode cX3_takePage 66 = .ok (.iconst 1, 1) := by decide +kernel
theorem dX3_takePage_67 : decode cX3_takePage 67 = .ok (.goto 4, 3) := by decide +kernel
theorem dX3_takePage_70 : decode cX3_takePage 70 = .ok (.iconst 0, 1) := by decide +kernel
theorem dX3_takePage_71 : decode cX3_takePage 71 = .ok (.istore 6, 2) := by decide +kernel
theorem dX3_takePage_73 : decode cX3_takePage 73 = .ok (.iload 6, 2) := by decide +kernel
theorem dX3_takePage_75 : decode cX3_takePage 75 = .ok (.ifCond .eq 14, 3) := by decide +kernel
theorem dX3_takePage_78 : decode cX3_takePage 78 = .ok (.iload 4, 2) := by decide +kernel
theorem dX3_takePage_80 : decode cX3_takePage 80 = .ok (.aload_n 0, 1) := by decide +kernel
theorem dX3_takePage_81 : decode cX3_takePage 81 = .ok (.getfield 68, 3) := by decide +kernel
theorem dX3_takePage_84 : decode cX3_takePage 84 = .ok (.iconst 1, 1) := by decide +kernel
theorem dX3_takePage_85 : decode cX3_takePage 85 = .ok (.iadd, 1) := by decide +kernel
theorem dX3_takePage_86 : decode cX3_takePage 86 = .ok (.if_icmp .eq 8, 3) := by decide +kernel
theorem dX3_takePage_89 : decode cX3_takePage 89 = .ok (.aload_n 0, 1) := by decide +kernel
theorem dX3_takePage_90 : decode cX3_takePage 90 = .ok (.iconst 0, 1) := by decide +kernel
theorem dX3_takePage_91 : decode cX3_takePage 91 = .ok (.putfield 74, 3) := by decide +kernel
theorem dX3_takePage_94 : decode cX3_takePage 94 = .ok (.aload_n 0, 1) := by decide +kernel
theorem dX3_takePage_95 : decode cX3_takePage 95 = .ok (.dup, 1) := by decide +kernel
theorem dX3_takePage_96 : decode cX3_takePage 96 = .ok (.getfield 45, 3) := by decide +kernel
theorem dX3_takePage_99 : decode cX3_takePage 99 = .ok (.iconst 1, 1) := by decide +kernel
theorem dX3_takePage_100 : decode cX3_takePage 100 = .ok (.iadd, 1) := by decide +kernel
theorem dX3_takePage_101 : decode cX3_takePage 101 = .ok (.putfield 45, 3) := by decide +kernel
theorem dX3_takePage_104 : decode cX3_takePage 104 = .ok (.aload_n 0, 1) := by decide +kernel
theorem dX3_takePage_105 : decode cX3_takePage 105 = .ok (.iload 4, 2) := by decide +kernel
theorem dX3_takePage_107 : decode cX3_takePage 107 = .ok (.putfield 68, 3) := by decide +kernel
theorem dX3_takePage_110 : decode cX3_takePage 110 = .ok (.aload_n 0, 1) := by decide +kernel
theorem dX3_takePage_111 : decode cX3_takePage 111 = .ok (.iload 5, 2) := by decide +kernel
theorem dX3_takePage_113 : decode cX3_takePage 113 = .ok (.iconst 4, 1) := by decide +kernel
theorem dX3_takePage_114 : decode cX3_takePage 114 = .ok (.iand, 1) := by decide +kernel
theorem dX3_takePage_115 : decode cX3_takePage 115 = .ok (.ifCond .eq 7, 3) := by decide +kernel
theorem dX3_takePage_118 : decode cX3_takePage 118 = .ok (.iconst 1, 1) := by decide +kernel
theorem dX3_takePage_119 : decode cX3_takePage 119 = .ok (.goto 4, 3) := by decide +kernel
theorem dX3_takePage_122 : decode cX3_takePage 122 = .ok (.iconst 0, 1) := by decide +kernel
theorem dX3_takePage_123 : decode cX3_takePage 123 = .ok (.putfield 57, 3) := by decide +kernel
theorem dX3_takePage_126 : decode cX3_takePage 126 = .ok (.aload_n 0, 1) := by decide +kernel
theorem dX3_takePage_127 : decode cX3_takePage 127 = .ok (.aload_n 1, 1) := by decide +kernel
theorem dX3_takePage_128 : decode cX3_takePage 128 = .ok (.iload_n 2, 1) := by decide +kernel
theorem dX3_takePage_129 : decode cX3_takePage 129 = .ok (.bipush 6, 2) := by decide +kernel
theorem dX3_takePage_131 : decode cX3_takePage 131 = .ok (.iadd, 1) := by decide +kernel
theorem dX3_takePage_132 : decode cX3_takePage 132 = .ok (.invokevirtual 83, 3) := by decide +kernel
theorem dX3_takePage_135 : decode cX3_takePage 135 = .ok (.putfield 61, 3) := by decide +kernel
theorem dX3_takePage_138 : decode cX3_takePage 138 = .ok (.aload_n 0, 1) := by decide +kernel
theorem dX3_takePage_139 : decode cX3_takePage 139 = .ok (.aload_n 1, 1) := by decide +kernel
theorem dX3_takePage_140 : decode cX3_takePage 140 = .ok (.iload_n 2, 1) := by decide +kernel
theorem dX3_takePage_141 : decode cX3_takePage 141 = .ok (.iload 6, 2) := by decide +kernel
theorem dX3_takePage_143 : decode cX3_takePage 143 = .ok (.ifCond .eq 14, 3) := by decide +kernel
theorem dX3_takePage_146 : decode cX3_takePage 146 = .ok (.aload_n 0, 1) := by decide +kernel
theorem dX3_takePage_147 : decode cX3_takePage 147 = .ok (.getfield 74, 3) := by decide +kernel
theorem dX3_takePage_150 : decode cX3_takePage 150 = .ok (.ifCond .ne 7, 3) := by decide +kernel
theorem dX3_takePage_153 : decode cX3_takePage 153 = .ok (.iconst 1, 1) := by decide +kernel
theorem dX3_takePage_154 : decode cX3_takePage 154 = .ok (.goto 4, 3) := by decide +kernel
theorem dX3_takePage_157 : decode cX3_takePage 157 = .ok (.iconst 0, 1) := by decide +kernel
theorem dX3_takePage_158 : decode cX3_takePage 158 = .ok (.invokevirtual 87, 3) := by decide +kernel
theorem dX3_takePage_161 : decode cX3_takePage 161 = .ok (.return_, 1) := by decide +kernel
theorem dX3_takeLaces_0 : decode cX3_takeLaces 0 = .ok (.aload_n 1, 1) := by decide +kernel
theorem dX3_takeLaces_1 : decode cX3_takeLaces 1 = .ok (.iload_n 2, 1) := by decide +kernel
theorem dX3_takeLaces_2 : decode cX3_takeLaces 2 = .ok (.bipush 26, 2) := by decide +kernel
theorem dX3_takeLaces_4 : decode cX3_takeLaces 4 = .ok (.iadd, 1) := by decide +kernel
theorem dX3_takeLaces_5 : decode cX3_takeLaces 5 = .ok (.invokevirtual 80, 3) := by decide +kernel
theorem dX3_takeLaces_8 : decode cX3_takeLaces 8 = .ok (.aload_n 0, 1) := by decide +kernel
theorem dX3_takeLaces_9 : decode cX3_takeLaces 9 = .ok (.getfield 18, 3) := by decide +kernel
theorem dX3_takeLaces_12 : decode cX3_takeLaces 12 = .ok (.arraylength, 1) := by decide +kernel
theorem dX3_takeLaces_13 : decode cX3_takeLaces 13 = .ok (.invokestatic 91, 3) := by decide +kernel
theorem dX3_takeLaces_16 : decode cX3_takeLaces 16 = .ok (.istore 4, 2) := by decide +kernel
theorem dX3_takeLaces_18 : decode cX3_takeLaces 18 = .ok (.iconst 0, 1) := by decide +kernel
theorem dX3_takeLaces_19 : decode cX3_takeLaces 19 = .ok (.istore 5, 2) := by decide +kernel
theorem dX3_takeLaces_21 : decode cX3_takeLaces 21 = .ok (.iload 5, 2) := by decide +kernel
theorem dX3_takeLaces_23 : decode cX3_takeLaces 23 = .ok (.iload 4, 2) := by decide +kernel
theorem dX3_takeLaces_25 : decode cX3_takeLaces 25 = .ok (.if_icmp .ge 27, 3) := by decide +kernel
theorem dX3_takeLaces_28 : decode cX3_takeLaces 28 = .ok (.aload_n 0, 1) := by decide +kernel
theorem dX3_takeLaces_29 : decode cX3_takeLaces 29 = .ok (.getfield 18, 3) := by decide +kernel
theorem dX3_takeLaces_32 : decode cX3_takeLaces 32 = .ok (.iload 5, 2) := by decide +kernel
theorem dX3_takeLaces_34 : decode cX3_takeLaces 34 = .ok (.aload_n 1, 1) := by decide +kernel
theorem dX3_takeLaces_35 : decode cX3_takeLaces 35 = .ok (.iload_n 2, 1) := by decide +kernel
theorem dX3_takeLaces_36 : decode cX3_takeLaces 36 = .ok (.bipush 27, 2) := by decide +kernel
theorem dX3_takeLaces_38 : decode cX3_takeLaces 38 = .ok (.iadd, 1) := by decide +kernel
theorem dX3_takeLaces_39 : decode cX3_takeLaces 39 = .ok (.iload 5, 2) := by decide +kernel
theorem dX3_takeLaces_41 : decode cX3_takeLaces 41 = .ok (.iadd, 1) := by decide +kernel
theorem dX3_takeLaces_42 : decode cX3_takeLaces 42 = .ok (.invokevirtual 80, 3) := by decide +kernel
theorem dX3_takeLaces_45 : decode cX3_takeLaces 45 = .ok (.iastore, 1) := by decide +kernel
theorem dX3_takeLaces_46 : decode cX3_takeLaces 46 = .ok (.iinc 5 1, 3) := by decide +kernel
theorem dX3_takeLaces_49 : decode cX3_takeLaces 49 = .ok (.goto (-28), 3) := by decide +kernel
theorem dX3_takeLaces_52 : decode cX3_takeLaces 52 = .ok (.iload_n 3, 1) := by decide +kernel
theorem dX3_takeLaces_53 : decode cX3_takeLaces 53 = .ok (.istore 5, 2) := by decide +kernel
theorem dX3_takeLaces_55 : decode cX3_takeLaces 55 = .ok (.iload_n 2, 1) := by decide +kernel
theorem dX3_takeLaces_56 : decode cX3_takeLaces 56 = .ok (.bipush 27, 2) := by decide +kernel
theorem dX3_takeLaces_58 : decode cX3_takeLaces 58 = .ok (.iadd, 1) := by decide +kernel
theorem dX3_takeLaces_59 : decode cX3_takeLaces 59 = .ok (.iload 4, 2) := by decide +kernel
theorem dX3_takeLaces_61 : decode cX3_takeLaces 61 = .ok (.iadd, 1) := by decide +kernel
theorem dX3_takeLaces_62 : decode cX3_takeLaces 62 = .ok (.istore 6, 2) := by decide +kernel
theorem dX3_takeLaces_64 : decode cX3_takeLaces 64 = .ok (.iconst 0, 1) := by decide +kernel
theorem dX3_takeLaces_65 : decode cX3_takeLaces 65 = .ok (.istore 7, 2) := by decide +kernel
theorem dX3_takeLaces_67 : decode cX3_takeLaces 67 = .ok (.iload 7, 2) := by decide +kernel
theorem dX3_takeLaces_69 : decode cX3_takeLaces 69 = .ok (.iload 4, 2) := by decide +kernel
theorem dX3_takeLaces_71 : decode cX3_takeLaces 71 = .ok (.if_icmp .ge 59, 3) := by decide +kernel
theorem dX3_takeLaces_74 : decode cX3_takeLaces 74 = .ok (.iload 5, 2) := by decide +kernel
theorem dX3_takeLaces_76 : decode cX3_takeLaces 76 = .ok (.ifCond .ne 20, 3) := by decide +kernel
theorem dX3_takeLaces_79 : decode cX3_takeLaces 79 = .ok (.aload_n 0, 1) := by decide +kernel
theorem dX3_takeLaces_80 : decode cX3_takeLaces 80 = .ok (.aload_n 1, 1) := by decide +kernel
theorem dX3_takeLaces_81 : decode cX3_takeLaces 81 = .ok (.iload 6, 2) := by decide +kernel
theorem dX3_takeLaces_83 : decode cX3_takeLaces 83 = .ok (.aload_n 0, 1) := by decide +kernel
theorem dX3_takeLaces_84 : decode cX3_takeLaces 84 = .ok (.getfield 18, 3) := by decide +kernel
theorem dX3_takeLaces_87 : decode cX3_takeLaces 87 = .ok (.iload 7, 2) := by decide +kernel
theorem dX3_takeLaces_89 : decode cX3_takeLaces 89 = .ok (.iaload, 1) := by decide +kernel
theorem dX3_takeLaces_90 : decode cX3_takeLaces 90 = .ok (.invokevirtual 94, 3) := by decide +kernel
theorem dX3_takeLaces_93 : decode cX3_takeLaces 93 = .ok (.goto 19, 3) := by decide +kernel
theorem dX3_takeLaces_96 : decode cX3_takeLaces 96 = .ok (.aload_n 0, 1) := by decide +kernel
theorem dX3_takeLaces_97 : decode cX3_takeLaces 97 = .ok (.getfield 18, 3) := by decide +kernel
theorem dX3_takeLaces_100 : decode cX3_takeLaces 100 = .ok (.iload 7, 2) := by decide +kernel
theorem dX3_takeLaces_102 : decode cX3_takeLaces 102 = .ok (.iaload, 1) := by decide +kernel
theorem dX3_takeLaces_103 : decode cX3_takeLaces 103 = .ok (.sipush 255, 3) := by decide +kernel
theorem dX3_takeLaces_106 : decode cX3_takeLaces 106 = .ok (.if_icmp .ge 6, 3) := by decide +kernel
theorem dX3_takeLaces_109 : decode cX3_takeLaces 109 = .ok (.iconst 0, 1) := by decide +kernel
theorem dX3_takeLaces_110 : decode cX3_takeLaces 110 = .ok (.istore 5, 2) := by decide +kernel
theorem dX3_takeLaces_112 : decode cX3_takeLaces 112 = .ok (.iload 6, 2) := by decide +kernel
theorem dX3_takeLaces_114 : decode cX3_takeLaces 114 = .ok (.aload_n 0, 1) := by decide +kernel
theorem dX3_takeLaces_115 : decode cX3_takeLaces 115 = .ok (.getfield 18, 3) := by decide +kernel
theorem dX3_takeLaces_118 : decode cX3_takeLaces 118 = .ok (.iload 7, 2) := by decide +kernel
theorem dX3_takeLaces_120 : decode cX3_takeLaces 120 = .ok (.iaload, 1) := by decide +kernel
theorem dX3_takeLaces_121 : decode cX3_takeLaces 121 = .ok (.iadd, 1) := by decide +kernel
theorem dX3_takeLaces_122 : decode cX3_takeLaces 122 = .ok (.istore 6, 2) := by decide +kernel
theorem dX3_takeLaces_124 : decode cX3_takeLaces 124 = .ok (.iinc 7 1, 3) := by decide +kernel
theorem dX3_takeLaces_127 : decode cX3_takeLaces 127 = .ok (.goto (-60), 3) := by decide +kernel
theorem dX3_takeLaces_130 : decode cX3_takeLaces 130 = .ok (.return_, 1) := by decide +kernel
theorem dX3_takeLace_0 : decode cX3_takeLace 0 = .ok (.aload_n 0, 1) := by decide +kernel
theorem dX3_takeLace_1 : decode cX3_takeLace 1 = .ok (.getfield 74, 3) := by decide +kernel
theorem dX3_takeLace_4 : decode cX3_takeLace 4 = .ok (.iload_n 3, 1) := by decide +kernel
theorem dX3_takeLace_5 : decode cX3_takeLace 5 = .ok (.iadd, 1) := by decide +kernel
theorem dX3_takeLace_6 : decode cX3_takeLace 6 = .ok (.sipush 2000, 3) := by decide +kernel
theorem dX3_takeLace_9 : decode cX3_takeLace 9 = .ok (.if_icmp .gt 18, 3) := by decide +kernel
theorem dX3_takeLace_12 : decode cX3_takeLace 12 = .ok (.aload_n 1, 1) := by decide +kernel
theorem dX3_takeLace_13 : decode cX3_takeLace 13 = .ok (.iload_n 2, 1) := by decide +kernel
theorem dX3_takeLace_14 : decode cX3_takeLace 14 = .ok (.aload_n 0, 1) := by decide +kernel
theorem dX3_takeLace_15 : decode cX3_takeLace 15 = .ok (.getfield 71, 3) := by decide +kernel
theorem dX3_takeLace_18 : decode cX3_takeLace 18 = .ok (.aload_n 0, 1) := by decide +kernel
theorem dX3_takeLace_19 : decode cX3_takeLace 19 = .ok (.getfield 74, 3) := by decide +kernel
theorem dX3_takeLace_22 : decode cX3_takeLace 22 = .ok (.iadd, 1) := by decide +kernel
theorem dX3_takeLace_23 : decode cX3_takeLace 23 = .ok (.iload_n 3, 1) := by decide +kernel
theorem dX3_takeLace_24 : decode cX3_takeLace 24 = .ok (.invokevirtual 98, 3) := by decide +kernel
theorem dX3_takeLace_27 : decode cX3_takeLace 27 = .ok (.aload_n 0, 1) := by decide +kernel
theorem dX3_takeLace_28 : decode cX3_takeLace 28 = .ok (.dup, 1) := by decide +kernel
theorem dX3_takeLace_29 : decode cX3_takeLace 29 = .ok (.getfield 74, 3) := by decide +kernel
theorem dX3_takeLace_32 : decode cX3_takeLace 32 = .ok (.iload_n 3, 1) := by decide +kernel
theorem dX3_takeLace_33 : decode cX3_takeLace 33 = .ok (.iadd, 1) := by decide +kernel
theorem dX3_takeLace_34 : decode cX3_takeLace 34 = .ok (.putfield 74, 3) := by decide +kernel
theorem dX3_takeLace_37 : decode cX3_takeLace 37 = .ok (.iload_n 3, 1) := by decide +kernel
theorem dX3_takeLace_38 : decode cX3_takeLace 38 = .ok (.sipush 255, 3) := by decide +kernel
theorem dX3_takeLace_41 : decode cX3_takeLace 41 = .ok (.if_icmp .ge 7, 3) := by decide +kernel
theorem dX3_takeLace_44 : decode cX3_takeLace 44 = .ok (.aload_n 0, 1) := by decide +kernel
theorem dX3_takeLace_45 : decode cX3_takeLace 45 = .ok (.invokevirtual 102, 3) := by decide +kernel
theorem dX3_takeLace_48 : decode cX3_takeLace 48 = .ok (.return_, 1) := by decide +kernel
theorem dX3_endPacket_0 : decode cX3_endPacket 0 = .ok (.aload_n 0, 1) := by decide +kernel
theorem dX3_endPacket_1 : decode cX3_endPacket 1 = .ok (.getfield 74, 3) := by decide +kernel
theorem dX3_endPacket_4 : decode cX3_endPacket 4 = .ok (.sipush 2000, 3) := by decide +kernel
theorem dX3_endPacket_7 : decode cX3_endPacket 7 = .ok (.if_icmp .le 16, 3) := by decide +kernel
theorem dX3_endPacket_10 : decode cX3_endPacket 10 = .ok (.aload_n 0, 1) := by decide +kernel
theorem dX3_endPacket_11 : decode cX3_endPacket 11 = .ok (.dup, 1) := by decide +kernel
theorem dX3_endPacket_12 : decode cX3_endPacket 12 = .ok (.getfield 51, 3) := by decide +kernel
theorem dX3_endPacket_15 : decode cX3_endPacket 15 = .ok (.iconst 1, 1) := by decide +kernel
theorem dX3_endPacket_16 : decode cX3_endPacket 16 = .ok (.iadd, 1) := by decide +kernel
theorem dX3_endPacket_17 : decode cX3_endPacket 17 = .ok (.putfield 51, 3) := by decide +kernel
theorem dX3_endPacket_20 : decode cX3_endPacket 20 = .ok (.goto 83, 3) := by decide +kernel
theorem dX3_endPacket_23 : decode cX3_endPacket 23 = .ok (.aload_n 0, 1) := by decide +kernel
theorem dX3_endPacket_24 : decode cX3_endPacket 24 = .ok (.getfield 42, 3) := by decide +kernel
theorem dX3_endPacket_27 : decode cX3_endPacket 27 = .ok (.ifCond .lt 76, 3) := by decide +kernel
theorem dX3_endPacket_30 : decode cX3_endPacket 30 = .ok (.aload_n 0, 1) := by decide +kernel
theorem dX3_endPacket_31 : decode cX3_endPacket 31 = .ok (.getfield 42, 3) := by decide +kernel
theorem dX3_endPacket_34 : decode cX3_endPacket 34 = .ok (.bipush 60, 2) := by decide +kernel
theorem dX3_endPacket_36 : decode cX3_endPacket 36 = .ok (.if_icmp .ge 67, 3) := by decide +kernel
theorem dX3_endPacket_39 : decode cX3_endPacket 39 = .ok (.aload_n 0, 1) := by decide +kernel
theorem dX3_endPacket_40 : decode cX3_endPacket 40 = .ok (.getfield 9, 3) := by decide +kernel
theorem dX3_endPacket_43 : decode cX3_endPacket 43 = .ok (.aload_n 0, 1) := by decide +kernel
theorem dX3_endPacket_44 : decode cX3_endPacket 44 = .ok (.getfield 42, 3) := by decide +kernel
theorem dX3_endPacket_47 : decode cX3_endPacket 47 = .ok (.aload_n 0, 1) := by decide +kernel
theorem dX3_endPacket_48 : decode cX3_endPacket 48 = .ok (.getfield 71, 3) := by decide +kernel
theorem dX3_endPacket_51 : decode cX3_endPacket 51 = .ok (.iastore, 1) := by decide +kernel
theorem dX3_endPacket_52 : decode cX3_endPacket 52 = .ok (.aload_n 0, 1) := by decide +kernel
theorem dX3_endPacket_53 : decode cX3_endPacket 53 = .ok (.getfield 13, 3) := by decide +kernel
theorem dX3_endPacket_56 : decode cX3_endPacket 56 = .ok (.aload_n 0, 1) := by decide +kernel
theorem dX3_endPacket_57 : decode cX3_endPacket 57 = .ok (.getfield 42, 3) := by decide +kernel
theorem dX3_endPacket_60 : decode cX3_endPacket 60 = .ok (.aload_n 0, 1) := by decide +kernel
theorem dX3_endPacket_61 : decode cX3_endPacket 61 = .ok (.getfield 74, 3) := by decide +kernel
theorem dX3_endPacket_64 : decode cX3_endPacket 64 = .ok (.iastore, 1) := by decide +kernel
theorem dX3_endPacket_65 : decode cX3_endPacket 65 = .ok (.aload_n 0, 1) := by decide +kernel
theorem dX3_endPacket_66 : decode cX3_endPacket 66 = .ok (.dup, 1) := by decide +kernel
theorem dX3_endPacket_67 : decode cX3_endPacket 67 = .ok (.getfield 42, 3) := by decide +kernel
theorem dX3_endPacket_70 : decode cX3_endPacket 70 = .ok (.iconst 1, 1) := by decide +kernel
theorem dX3_endPacket_71 : decode cX3_endPacket 71 = .ok (.iadd, 1) := by decide +kernel
theorem dX3_endPacket_72 : decode cX3_endPacket 72 = .ok (.putfield 42, 3) := by decide +kernel
theorem dX3_endPacket_75 : decode cX3_endPacket 75 = .ok (.aload_n 0, 1) := by decide +kernel
theorem dX3_endPacket_76 : decode cX3_endPacket 76 = .ok (.dup, 1) := by decide +kernel
theorem dX3_endPacket_77 : decode cX3_endPacket 77 = .ok (.getfield 71, 3) := by decide +kernel
theorem dX3_endPacket_80 : decode cX3_endPacket 80 = .ok (.aload_n 0, 1) := by decide +kernel
theorem dX3_endPacket_81 : decode cX3_endPacket 81 = .ok (.getfield 74, 3) := by decide +kernel
theorem dX3_endPacket_84 : decode cX3_endPacket 84 = .ok (.iadd, 1) := by decide +kernel
theorem dX3_endPacket_85 : decode cX3_endPacket 85 = .ok (.putfield 71, 3) := by decide +kernel
theorem dX3_endPacket_88 : decode cX3_endPacket 88 = .ok (.aload_n 0, 1) := by decide +kernel
theorem dX3_endPacket_89 : decode cX3_endPacket 89 = .ok (.aload_n 0, 1) := by decide +kernel
theorem dX3_endPacket_90 : decode cX3_endPacket 90 = .ok (.getfield 54, 3) := by decide +kernel
theorem dX3_endPacket_93 : decode cX3_endPacket 93 = .ok (.aload_n 0, 1) := by decide +kernel
theorem dX3_endPacket_94 : decode cX3_endPacket 94 = .ok (.getfield 74, 3) := by decide +kernel
theorem dX3_endPacket_97 : decode cX3_endPacket 97 = .ok (.invokestatic 36, 3) := by decide +kernel
theorem dX3_endPacket_100 : decode cX3_endPacket 100 = .ok (.putfield 54, 3) := by decide +kernel
theorem dX3_endPacket_103 : decode cX3_endPacket 103 = .ok (.aload_n 0, 1) := by decide +kernel
theorem dX3_endPacket_104 : decode cX3_endPacket 104 = .ok (.iconst 0, 1) := by decide +kernel
theorem dX3_endPacket_105 : decode cX3_endPacket 105 = .ok (.putfield 74, 3) := by decide +kernel
theorem dX3_endPacket_108 : decode cX3_endPacket 108 = .ok (.return_, 1) := by decide +kernel
theorem dX4_init_0 : decode cX4_init 0 = .ok (.aload_n 0, 1) := by decide +kernel
theorem dX4_init_1 : decode cX4_init 1 = .ok (.invokespecial 3, 3) := by decide +kernel
theorem dX4_init_4 : decode cX4_init 4 = .ok (.aload_n 0, 1) := by decide +kernel
theorem dX4_init_5 : decode cX4_init 5 = .ok (.bipush 17, 2) := by decide +kernel
theorem dX4_init_7 : decode cX4_init 7 = .ok (.newarray .int, 2) := by decide +kernel
theorem dX4_init_9 : decode cX4_init 9 = .ok (.putfield 11, 3) := by decide +kernel
theorem dX4_init_12 : decode cX4_init 12 = .ok (.aload_n 0, 1) := by decide +kernel
theorem dX4_init_13 : decode cX4_init 13 = .ok (.bipush 17, 2) := by decide +kernel
theorem dX4_init_15 : decode cX4_init 15 = .ok (.newarray .int, 2) := by decide +kernel
theorem dX4_init_17 : decode cX4_init 17 = .ok (.putfield 15, 3) := by decide +kernel
theorem dX4_init_20 : decode cX4_init 20 = .ok (.aload_n 0, 1) := by decide +kernel
theorem dX4_init_21 : decode cX4_init 21 = .ok (.bipush 17, 2) := by decide +kernel
theorem dX4_init_23 : decode cX4_init 23 = .ok (.newarray .int, 2) := by decide +kernel
theorem dX4_init_25 : decode cX4_init 25 = .ok (.putfield 18, 3) := by decide +kernel
theorem dX4_init_28 : decode cX4_init 28 = .ok (.aload_n 0, 1) := by decide +kernel
theorem dX4_init_29 : decode cX4_init 29 = .ok (.bipush 17, 2) := by decide +kernel
theorem dX4_init_31 : decode cX4_init 31 = .ok (.newarray .int, 2) := by decide +kernel
theorem dX4_init_33 : decode cX4_init 33 = .ok (.putfield 21, 3) := by decide +kernel
theorem dX4_init_36 : decode cX4_init 36 = .ok (.aload_n 0, 1) := by decide +kernel
theorem dX4_init_37 : decode cX4_init 37 = .ok (.iconst 4, 1) := by decide +kernel
theorem dX4_init_38 : decode cX4_init 38 = .ok (.newarray .int, 2) := by decide +kernel
theorem dX4_init_40 : decode cX4_init 40 = .ok (.putfield 24, 3) := by decide +kernel
theorem dX4_init_43 : decode cX4_init 43 = .ok (.aload_n 0, 1) := by decide +kernel
theorem dX4_init_44 : decode cX4_init 44 = .ok (.bipush 8, 2) := by decide +kernel
theorem dX4_init_46 : decode cX4_init 46 = .ok (.anewarray 27, 3) := by decide +kernel
theorem dX4_init_49 : decode cX4_init 49 = .ok (.putfield 29, 3) := by decide +kernel
theorem dX4_init_52 : decode cX4_init 52 = .ok (.iconst 0, 1) := by decide +kernel
theorem dX4_init_53 : decode cX4_init 53 = .ok (.istore_n 1, 1) := by decide +kernel
theorem dX4_init_54 : decode cX4_init 54 = .ok (.iload_n 1, 1) := by decide +kernel
theorem dX4_init_55 : decode cX4_init 55 = .ok (.aload_n 0, 1) := by decide +kernel
theorem dX4_init_56 : decode cX4_init 56 = .ok (.getfield 29, 3) := by decide +kernel
theorem dX4_init_59 : decode cX4_init 59 = .ok (.arraylength, 1) := by decide +kernel
theorem dX4_init_60 : decode cX4_init 60 = .ok (.if_icmp .ge 22, 3) := by decide +kernel
theorem dX4_init_63 : decode cX4_init 63 = .ok (.aload_n 0, 1) := by decide +kernel
theorem dX4_init_64 : decode cX4_init 64 = .ok (.getfield 29, 3) := by decide +kernel
theorem dX4_init_67 : decode cX4_init 67 = .ok (.iload_n 1, 1) := by decide +kernel
theorem dX4_init_68 : decode cX4_init 68 = .ok (.new 27, 3) := by decide +kernel
theorem dX4_init_71 : decode cX4_init 71 = .ok (.dup, 1) := by decide +kernel
theorem dX4_init_72 : decode cX4_init 72 = .ok (.invokespecial 33, 3) := by decide +kernel
theorem dX4_init_75 : decode cX4_init 75 = .ok (.aastore, 1) := by decide +kernel
theorem dX4_init_76 : decode cX4_init 76 = .ok (.iinc 1 1, 3) := by decide +kernel
theorem dX4_init_79 : decode cX4_init 79 = .ok (.goto (-25), 3) := by decide +kernel
theorem dX4_init_82 : decode cX4_init 82 = .ok (.aload_n 0, 1) := by decide +kernel
theorem dX4_init_83 : decode cX4_init 83 = .ok (.iconst 1, 1) := by decide +kernel
theorem dX4_init_84 : decode cX4_init 84 = .ok (.putfield 34, 3) := by decide +kernel
theorem dX4_init_87 : decode cX4_init 87 = .ok (.aload_n 0, 1) := by decide +kernel
theorem dX4_init_88 : decode cX4_init 88 = .ok (.iconst 1, 1) := by decide +kernel
theorem dX4_init_89 : decode cX4_init 89 = .ok (.putfield 38, 3) := by decide +kernel
theorem dX4_init_92 : decode cX4_init 92 = .ok (.aload_n 0, 1) := by decide +kernel
theorem dX4_init_93 : decode cX4_init 93 = .ok (.iconst 1, 1) := by decide +kernel
theorem dX4_init_94 : decode cX4_init 94 = .ok (.putfield 41, 3) := by decide +kernel
theorem dX4_init_97 : decode cX4_init 97 = .ok (.aload_n 0, 1) := by decide +kernel
theorem dX4_init_98 : decode cX4_init 98 = .ok (.iconst 1, 1) := by decide +kernel
theorem dX4_init_99 : decode cX4_init 99 = .ok (.putfield 44, 3) := by decide +kernel
theorem dX4_init_102 : decode cX4_init 102 = .ok (.return_, 1) := by decide +kernel
theorem dX4_learn_0 : decode cX4_learn 0 = .ok (.aload_n 1, 1) := by decide +kernel
theorem dX4_learn_1 : decode cX4_learn 1 = .ok (.bipush 8, 2) := by decide +kernel
theorem dX4_learn_3 : decode cX4_learn 3 = .ok (.invokevirtual 47, 3) := by decide +kernel
theorem dX4_learn_6 : decode cX4_learn 6 = .ok (.istore_n 2, 1) := by decide +kernel
theorem dX4_learn_7 : decode cX4_learn 7 = .ok (.iload_n 2, 1) := by decide +kernel
theorem dX4_learn_8 : decode cX4_learn 8 = .ok (.ifCond .ge 5, 3) := by decide +kernel
theorem dX4_learn_11 : decode cX4_learn 11 = .ok (.iconst 2, 1) := by decide +kernel
theorem dX4_learn_12 : decode cX4_learn 12 = .ok (.ireturn, 1) := by decide +kernel
theorem dX4_learn_13 : decode cX4_learn 13 = .ok (.iload_n 2, 1) := by decide +kernel
theorem dX4_learn_14 : decode cX4_learn 14 = .ok (.bipush 86, 2) := by decide +kernel
theorem dX4_learn_16 : decode cX4_learn 16 = .ok (.if_icmp .eq 5, 3) := by decide +kernel
theorem dX4_learn_19 : decode cX4_learn 19 = .ok (.iconst 3, 1) := by decide +kernel
theorem dX4_learn_20 : decode cX4_learn 20 = .ok (.ireturn, 1) := by decide +kernel
theorem dX4_learn_21 : decode cX4_learn 21 = .ok (.aload_n 0, 1) := by decide +kernel
theorem dX4_learn_22 : decode cX4_learn 22 = .ok (.aload_n 1, 1) := by decide +kernel
theorem dX4_learn_23 : decode cX4_learn 23 = .ok (.iconst 1, 1) := by decide +kernel
theorem dX4_learn_24 : decode cX4_learn 24 = .ok (.invokevirtual 47, 3) := by decide +kernel
theorem dX4_learn_27 : decode cX4_learn 27 = .ok (.iconst 1, 1) := by decide +kernel
theorem dX4_learn_28 : decode cX4_learn 28 = .ok (.iadd, 1) := by decide +kernel
theorem dX4_learn_29 : decode cX4_learn 29 = .ok (.putfield 34, 3) := by decide +kernel
theorem dX4_learn_32 : decode cX4_learn 32 = .ok (.aload_n 1, 1) := by decide +kernel
theorem dX4_learn_33 : decode cX4_learn 33 = .ok (.iconst 3, 1) := by decide +kernel
theorem dX4_learn_34 : decode cX4_learn 34 = .ok (.invokevirtual 47, 3) := by decide +kernel
theorem dX4_learn_37 : decode cX4_learn 37 = .ok (.istore_n 3, 1) := by decide +kernel
theorem dX4_learn_38 : decode cX4_learn 38 = .ok (.iload_n 3, 1) := by decide +kernel
theorem dX4_learn_39 : decode cX4_learn 39 = .ok (.ifCond .ge 5, 3) := by decide +kernel
theorem dX4_learn_42 : decode cX4_learn 42 = .ok (.iconst 2, 1) := by decide +kernel
theorem dX4_learn_43 : decode cX4_learn 43 = .ok (.ireturn, 1) := by decide +kernel
theorem dX4_learn_44 : decode cX4_learn 44 = .ok (.aload_n 0, 1) := by decide +kernel
theorem dX4_learn_45 : decode cX4_learn 45 = .ok (.iload_n 3, 1) := by decide +kernel
theorem dX4_learn_46 : decode cX4_learn 46 = .ok (.iconst 1, 1) := by decide +kernel
theorem dX4_learn_47 : decode cX4_learn 47 = .ok (.iadd, 1) := by decide +kernel
theorem dX4_learn_48 : decode cX4_learn 48 = .ok (.putfield 53, 3) := by decide +kernel
theorem dX4_learn_51 : decode cX4_learn 51 = .ok (.iconst 0, 1) := by decide +kernel
theorem dX4_learn_52 : decode cX4_learn 52 = .ok (.istore 4, 2) := by decide +kernel
theorem dX4_learn_54 : decode cX4_learn 54 = .ok (.iconst 0, 1) := by decide +kernel
theorem dX4_learn_55 : decode cX4_learn 55 = .ok (.istore 5, 2) := by decide +kernel
theorem dX4_learn_57 : decode cX4_learn 57 = .ok (.iload 5, 2) := by decide +kernel
theorem dX4_learn_59 : decode cX4_learn 59 = .ok (.aload_n 0, 1) := by decide +kernel
theorem dX4_learn_60 : decode cX4_learn 60 = .ok (.getfield 53, 3) := by decide +kernel
theorem dX4_learn_63 : decode cX4_learn 63 = .ok (.if_icmp .ge 26, 3) := by decide +kernel
theorem dX4_learn_66 : decode cX4_learn 66 = .ok (.iload 4, 2) := by decide +kernel
theorem dX4_learn_68 : decode cX4_learn 68 = .ok (.ifCond .ne 21, 3) := by decide +kernel
theorem dX4_learn_71 : decode cX4_learn 71 = .ok (.aload_n 0, 1) := by decide +kernel
theorem dX4_learn_72 : decode cX4_learn 72 = .ok (.iload 5, 2) := by decide +kernel
theorem dX4_learn_74 : decode cX4_learn 74 = .ok (.invokevirtual 56, 3) := by decide +kernel
theorem dX4_learn_77 : decode cX4_learn 77 = .ok (.aload_n 1, 1) := by decide +kernel
theorem dX4_learn_78 : decode cX4_learn 78 = .ok (.invokevirtual 60, 3) := by decide +kernel
theorem dX4_learn_81 : decode cX4_learn 81 = .ok (.istore 4, 2) := by decide +kernel
theorem dX4_learn_83 : decode cX4_learn 83 = .ok (.iinc 5 1, 3) := by decide +kernel
theorem dX4_learn_86 : decode cX4_learn 86 = .ok (.goto (-29), 3) := by decide +kernel
theorem dX4_learn_89 : decode cX4_learn 89 = .ok (.iload 4, 2) := by decide +kernel
theorem dX4_learn_91 : decode cX4_learn 91 = .ok (.ifCond .ne 10, 3) := by decide +kernel
theorem dX4_learn_94 : decode cX4_learn 94 = .ok (.aload_n 0, 1) := by decide +kernel
theorem dX4_learn_95 : decode cX4_learn 95 = .ok (.aload_n 1, 1) := by decide +kernel
theorem dX4_learn_96 : decode cX4_learn 96 = .ok (.invokevirtual 64, 3) := by decide +kernel
theorem dX4_learn_99 : decode cX4_learn 99 = .ok (.istore 4, 2) := by decide +kernel
theorem dX4_learn_101 : decode cX4_learn 101 = .ok (.iload 4, 2) := by decide +kernel
theorem dX4_learn_103 : decode cX4_learn 103 = .ok (.ifCond .ne 10, 3) := by decide +kernel
theorem dX4_learn_106 : decode cX4_learn 106 = .ok (.aload_n 0, 1) := by decide +kernel
theorem dX4_learn_107 : decode cX4_learn 107 = .ok (.aload_n 1, 1) := by decide +kernel
theorem dX4_learn_108 : decode cX4_learn 108 = .ok (.invokevirtual 67, 3) := by decide +kernel
theorem dX4_learn_111 : decode cX4_learn 111 = .ok (.istore 4, 2) := by decide +kernel
theorem dX4_learn_113 : decode cX4_learn 113 = .ok (.iload 4, 2) := by decide +kernel
theorem dX4_learn_115 : decode cX4_learn 115 = .ok (.ifCond .ne 11, 3) := by decide +kernel
theorem dX4_learn_118 : decode cX4_learn 118 = .ok (.aload_n 0, 1) := by decide +kernel
theorem dX4_learn_119 : decode cX4_learn 119 = .ok (.aload_n 1, 1) := by decide +kernel
theorem dX4_learn_120 : decode cX4_learn 120 = .ok (.invokevirtual 70, 3) := by decide +kernel
theorem dX4_learn_123 : decode cX4_learn 123 = .ok (.goto 5, 3) := by decide +kernel
theorem dX4_learn_126 : decode cX4_learn 126 = .ok (.iload 4, 2) := by decide +kernel
theorem dX4_learn_128 : decode cX4_learn 128 = .ok (.ireturn, 1) := by decide +kernel
theorem dX4_bookOf_0 : decode cX4_bookOf 0 = .ok (.aload_n 0, 1) := by decide +kernel
theorem dX4_bookOf_1 : decode cX4_bookOf 1 = .ok (.getfield 29, 3) := by decide +kernel
theorem dX4_bookOf_4 : decode cX4_bookOf 4 = .ok (.iload_n 1, 1) := by decide +kernel
theorem dX4_bookOf_5 : decode cX4_bookOf 5 = .ok (.bipush 7, 2) := by decide +kernel
theorem dX4_bookOf_7 : decode cX4_bookOf 7 = .ok (.iand, 1) := by decide +kernel
theorem dX4_bookOf_8 : decode cX4_bookOf 8 = .ok (.aaload, 1) := by decide +kernel
theorem dX4_bookOf_9 : decode cX4_bookOf 9 = .ok (.areturn, 1) := by decide +kernel
theorem dX4_learnPosts_0 : decode cX4_learnPosts 0 = .ok (.aload_n 0, 1) := by decide +kernel
theorem dX4_learnPosts_1 : decode cX4_learnPosts 1 = .ok (.aload_n 1, 1) := by decide +kernel
theorem dX4_learnPosts_2 : decode cX4_learnPosts 2 = .ok (.iconst 2, 1) := by decide +kernel
theorem dX4_learnPosts_3 : decode cX4_learnPosts 3 = .ok (.invokevirtual 47, 3) := by decide +kernel
theorem dX4_learnPosts_6 : decode cX4_learnPosts 6 = .ok (.iconst 1, 1) := by decide +kernel
theorem dX4_learnPosts_7 : decode cX4_learnPosts 7 = .ok (.iadd, 1) := by decide +kernel
theorem dX4_learnPosts_8 : decode cX4_learnPosts 8 = .ok (.putfield 38, 3) := by decide +kernel
theorem dX4_learnPosts_11 : decode cX4_learnPosts 11 = .ok (.aload_n 1, 1) := by decide +kernel
theorem dX4_learnPosts_12 : decode cX4_learnPosts 12 = .ok (.iconst 4, 1) := by decide +kernel
theorem dX4_learnPosts_13 : decode cX4_learnPosts 13 = .ok (.invokevirtual 47, 3) := by decide +kernel
theorem dX4_learnPosts_16 : decode cX4_learnPosts 16 = .ok (.istore_n 2, 1) := by decide +kernel
theorem dX4_learnPosts_17 : decode cX4_learnPosts 17 = .ok (.aload_n 0, 1) := by decide +kernel
theorem dX4_learnPosts_18 : decode cX4_learnPosts 18 = .ok (.aload_n 1, 1) := by decide +kernel
theorem dX4_learnPosts_19 : decode cX4_learnPosts 19 = .ok (.iconst 3, 1) := by decide +kernel
theorem dX4_learnPosts_20 : decode cX4_learnPosts 20 = .ok (.invokevirtual 47, 3) := by decide +kernel
theorem dX4_learnPosts_23 : decode cX4_learnPosts 23 = .ok (.putfield 73, 3) := by decide +kernel
theorem dX4_learnPosts_26 : decode cX4_learnPosts 26 = .ok (.aload_n 0, 1) := by decide +kernel
theorem dX4_learnPosts_27 : decode cX4_learnPosts 27 = .ok (.getfield 73, 3) := by decide +kernel
theorem dX4_learnPosts_30 : decode cX4_learnPosts 30 = .ok (.ifCond .ge 5, 3) := by decide +kernel
theorem dX4_learnPosts_33 : decode cX4_learnPosts 33 = .ok (.iconst 2, 1) := by decide +kernel
theorem dX4_learnPosts_34 : decode cX4_learnPosts 34 = .ok (.ireturn, 1) := by decide +kernel
theorem dX4_learnPosts_35 : decode cX4_learnPosts 35 = .ok (.aload_n 0, 1) := by decide +kernel
theorem dX4_learnPosts_36 : decode cX4_learnPosts 36 = .ok (.getfield 73, 3) := by decide +kernel
theorem dX4_learnPosts_39 : decode cX4_learnPosts 39 = .ok (.aload_n 0, 1) := by decide +kernel
theorem dX4_learnPosts_40 : decode cX4_learnPosts 40 = .ok (.getfield 53, 3) := by decide +kernel
theorem dX4_learnPosts_43 : decode cX4_learnPosts 43 = .ok (.if_icmp .lt 5, 3) := by decide +kernel
theorem dX4_learnPosts_46 : decode cX4_learnPosts 46 = .ok (.iconst 5, 1) := by decide +kernel
theorem dX4_learnPosts_47 : decode cX4_learnPosts 47 = .ok (.ireturn, 1) := by decide +kernel
theorem dX4_learnPosts_48 : decode cX4_learnPosts 48 = .ok (.aload_n 0, 1) := by decide +kernel
theorem dX4_learnPosts_49 : decode cX4_learnPosts 49 = .ok (.iconst 0, 1) := by decide +kernel
theorem dX4_learnPosts_50 : decode cX4_learnPosts 50 = .ok (.putfield 76, 3) := by decide +kernel
theorem dX4_learnPosts_53 : decode cX4_learnPosts 53 = .ok (.iconst 0, 1) := by decide +kernel
theorem dX4_learnPosts_54 : decode cX4_learnPosts 54 = .ok (.istore_n 3, 1) := by decide +kernel
theorem dX4_learnPosts_55 : decode cX4_learnPosts 55 = .ok (.iload_n 3, 1) := by decide +kernel
theorem dX4_learnPosts_56 : decode cX4_learnPosts 56 = .ok (.aload_n 0, 1) := by decide +kernel
theorem dX4_learnPosts_57 : decode cX4_learnPosts 57 = .ok (.getfield 21, 3) := by decide +kernel
theorem dX4_learnPosts_60 : decode cX4_learnPosts 60 = .ok (.arraylength, 1) := by decide +kernel
theorem dX4_learnPosts_61 : decode cX4_learnPosts 61 = .ok (.if_icmp .ge 16, 3) := by decide +kernel
theorem dX4_learnPosts_64 : decode cX4_learnPosts 64 = .ok (.aload_n 0, 1) := by decide +kernel
theorem dX4_learnPosts_65 : decode cX4_learnPosts 65 = .ok (.getfield 21, 3) := by decide +kernel
theorem dX4_learnPosts_68 : decode cX4_learnPosts 68 = .ok (.iload_n 3, 1) := by decide +kernel
theorem dX4_learnPosts_69 : decode cX4_learnPosts 69 = .ok (.iconst (-1), 1) := by decide +kernel
theorem dX4_learnPosts_70 : decode cX4_learnPosts 70 = .ok (.iastore, 1) := by decide +kernel
theorem dX4_learnPosts_71 : decode cX4_learnPosts 71 = .ok (.iinc 3 1, 3) := by decide +kernel
theorem dX4_learnPosts_74 : decode cX4_learnPosts 74 = .ok (.goto (-19), 3) := by decide +kernel
theorem dX4_learnPosts_77 : decode cX4_learnPosts 77 = .ok (.aload_n 0, 1) := by decide +kernel
theorem dX4_learnPosts_78 : decode cX4_learnPosts 78 = .ok (.iconst 0, 1) := by decide +kernel
theorem dX4_learnPosts_79 : decode cX4_learnPosts 79 = .ok (.invokevirtual 79, 3) := by decide +kernel
theorem dX4_learnPosts_82 : decode cX4_learnPosts 82 = .ok (.aload_n 0, 1) := by decide +kernel
theorem dX4_learnPosts_83 : decode cX4_learnPosts 83 = .ok (.bipush 16, 2) := by decide +kernel
theorem dX4_learnPosts_85 : decode cX4_learnPosts 85 = .ok (.invokevirtual 79, 3) := by decide +kernel
theorem dX4_learnPosts_88 : decode cX4_learnPosts 88 = .ok (.iconst 0, 1) := by decide +kernel
theorem dX4_learnPosts_89 : decode cX4_learnPosts 89 = .ok (.istore_n 3, 1) := by decide +kernel
theorem dX4_learnPosts_90 : decode cX4_learnPosts 90 = .ok (.iload_n 3, 1) := by decide +kernel
theorem dX4_learnPosts_91 : decode cX4_learnPosts 91 = .ok (.iload_n 2, 1) := by decide +kernel
theorem dX4_learnPosts_92 : decode cX4_learnPosts 92 = .ok (.if_icmp .ge 55, 3) := by decide +kernel
theorem dX4_learnPosts_95 : decode cX4_learnPosts 95 = .ok (.aload_n 1, 1) := by decide +kernel
theorem dX4_learnPosts_96 : decode cX4_learnPosts 96 = .ok (.iconst 5, 1) := by decide +kernel
theorem dX4_learnPosts_97 : decode cX4_learnPosts 97 = .ok (.invokevirtual 47, 3) := by decide +kernel
theorem dX4_learnPosts_100 : decode cX4_learnPosts 100 = .ok (.istore 4, 2) := by decide +kernel
theorem dX4_learnPosts_102 : decode cX4_learnPosts 102 = .ok (.iload 4, 2) := by decide +kernel
theorem dX4_learnPosts_104 : decode cX4_learnPosts 104 = .ok (.ifCond .ge 5, 3) := by decide +kernel
theorem dX4_learnPosts_107 : decode cX4_learnPosts 107 = .ok (.iconst 2, 1) := by decide +kernel
theorem dX4_learnPosts_108 : decode cX4_learnPosts 108 = .ok (.ireturn, 1) := by decide +kernel
theorem dX4_learnPosts_109 : decode cX4_learnPosts 109 = .ok (.iload 4, 2) := by decide +kernel
theorem dX4_learnPosts_111 : decode cX4_learnPosts 111 = .ok (.ifCond .eq 21, 3) := by decide +kernel
theorem dX4_learnPosts_114 : decode cX4_learnPosts 114 = .ok (.iload 4, 2) := by decide +kernel
theorem dX4_learnPosts_116 : decode cX4_learnPosts 116 = .ok (.bipush 16, 2) := by decide +kernel
theorem dX4_learnPosts_118 : decode cX4_learnPosts 118 = .ok (.if_icmp .ge 14, 3) := by decide +kernel
theorem dX4_learnPosts_121 : decode cX4_learnPosts 121 = .ok (.aload_n 0, 1) := by decide +kernel
theorem dX4_learnPosts_122 : decode cX4_learnPosts 122 = .ok (.getfield 21, 3) := by decide +kernel
theorem dX4_learnPosts_125 : decode cX4_learnPosts 125 = .ok (.iload 4, 2) := by decide +kernel
theorem dX4_learnPosts_127 : decode cX4_learnPosts 127 = .ok (.iaload, 1) := by decide +kernel
theorem dX4_learnPosts_128 : decode cX4_learnPosts 128 = .ok (.iconst (-1), 1) := by decide +kernel
theorem dX4_learnPosts_129 : decode cX4_learnPosts 129 = .ok (.if_icmp .eq 6, 3) := by decide +kernel
theorem dX4_learnPosts_132 : decode cX4_learnPosts 132 = .ok (.bipush 6, 2) := by decide +kernel
theorem dX4_learnPosts_134 : decode cX4_learnPosts 134 = .ok (.ireturn, 1) := by decide +kernel
theorem dX4_learnPosts_135 : decode cX4_learnPosts 135 = .ok (.aload_n 0, 1) := by decide +kernel
theorem dX4_learnPosts_136 : decode cX4_learnPosts 136 = .ok (.iload 4, 2) := by decide +kernel
theorem dX4_learnPosts_138 : decode cX4_learnPosts 138 = .ok (.invokevirtual 79, 3) := by decide +kernel
theorem dX4_learnPosts_141 : decode cX4_learnPosts 141 = .ok (.iinc 3 1, 3) := by decide +kernel
theorem dX4_learnPosts_144 : decode cX4_learnPosts 144 = .ok (.goto (-54), 3) := by decide +kernel
theorem dX4_learnPosts_147 : decode cX4_learnPosts 147 = .ok (.iconst 0, 1) := by decide +kernel
theorem dX4_learnPosts_148 : decode cX4_learnPosts 148 = .ok (.ireturn, 1) := by decide +kernel
theorem dX4_addPoint_0 : decode cX4_addPoint 0 = .ok (.iload_n 1, 1) := by decide +kernel
theorem dX4_addPoint_1 : decode cX4_addPoint 1 = .ok (.ifCond .lt 25, 3) := by decide +kernel
theorem dX4_addPoint_4 : decode cX4_addPoint 4 = .ok (.iload_n 1, 1) := by decide +kernel
theorem dX4_addPoint_5 : decode cX4_addPoint 5 = .ok (.bipush 16, 2) := by decide +kernel
theorem dX4_addPoint_7 : decode cX4_addPoint 7 = .ok (.if_icmp .gt 19, 3) := by decide +kernel
theorem dX4_addPoint_10 : decode cX4_addPoint 10 = .ok (.aload_n 0, 1) := by decide +kernel
theorem dX4_addPoint_11 : decode cX4_addPoint 11 = .ok (.getfield 76, 3) := by decide +kernel
theorem dX4_addPoint_14 : decode cX4_addPoint 14 = .ok (.ifCond .lt 12, 3) := by decide +kernel
theorem dX4_addPoint_17 : decode cX4_addPoint 17 = .ok (.aload_n 0, 1) := by decide +kernel
theorem dX4_addPoint_18 : decode cX4_addPoint 18 = .ok (.getfield 76, 3) := by decide +kernel
theorem dX4_addPoint_21 : decode cX4_addPoint 21 = .ok (.bipush 17, 2) := by decide +kernel
theorem dX4_addPoint_23 : decode cX4_addPoint 23 = .ok (.if_icmp .lt 4, 3) := by decide +kernel
theorem dX4_addPoint_26 : decode cX4_addPoint 26 = .ok (.return_, 1) := by decide +kernel
theorem dX4_addPoint_27 : decode cX4_addPoint 27 = .ok (.iconst 0, 1) := by decide +kernel
theorem dX4_addPoint_28 : decode cX4_addPoint 28 = .ok (.istore_n 2, 1) := by decide +kernel
theorem dX4_addPoint_29 : decode cX4_addPoint 29 = .ok (.iconst 1, 1) := by decide +kernel
theorem dX4_addPoint_30 : decode cX4_addPoint 30 = .ok (.istore_n 3, 1) := by decide +kernel
theorem dX4_addPoint_31 : decode cX4_addPoint 31 = .ok (.iconst 0, 1) := by decide +kernel
theorem dX4_addPoint_32 : decode cX4_addPoint 32 = .ok (.istore 4, 2) := by decide +kernel
theorem dX4_addPoint_34 : decode cX4_addPoint 34 = .ok (.iload 4, 2) := by decide +kernel
theorem dX4_addPoint_36 : decode cX4_addPoint 36 = .ok (.aload_n 0, 1) := by decide +kernel
theorem dX4_addPoint_37 : decode cX4_addPoint 37 = .ok (.getfield 76, 3) := by decide +kernel
theorem dX4_addPoint_40 : decode cX4_addPoint 40 = .ok (.if_icmp .ge 69, 3) := by decide +kernel
theorem dX4_addPoint_43 : decode cX4_addPoint 43 = .ok (.aload_n 0, 1) := by decide +kernel
theorem dX4_addPoint_44 : decode cX4_addPoint 44 = .ok (.getfield 11, 3) := by decide +kernel
theorem dX4_addPoint_47 : decode cX4_addPoint 47 = .ok (.iload 4, 2) := by decide +kernel
theorem dX4_addPoint_49 : decode cX4_addPoint 49 = .ok (.iaload, 1) := by decide +kernel
theorem dX4_addPoint_50 : decode cX4_addPoint 50 = .ok (.iload_n 1, 1) := by decide +kernel
theorem dX4_addPoint_51 : decode cX4_addPoint 51 = .ok (.if_icmp .ge 22, 3) := by decide +kernel
theorem dX4_addPoint_54 : decode cX4_addPoint 54 = .ok (.aload_n 0, 1) := by decide +kernel
theorem dX4_addPoint_55 : decode cX4_addPoint 55 = .ok (.getfield 11, 3) := by decide +kernel
theorem dX4_addPoint_58 : decode cX4_addPoint 58 = .ok (.iload 4, 2) := by decide +kernel
theorem dX4_addPoint_60 : decode cX4_addPoint 60 = .ok (.iaload, 1) := by decide +kernel
theorem dX4_addPoint_61 : decode cX4_addPoint 61 = .ok (.aload_n 0, 1) := by decide +kernel
theorem dX4_addPoint_62 : decode cX4_addPoint 62 = .ok (.getfield 11, 3) := by decide +kernel
theorem dX4_addPoint_65 : decode cX4_addPoint 65 = .ok (.iload_n 2, 1) := by decide +kernel
theorem dX4_addPoint_66 : decode cX4_addPoint 66 = .ok (.iaload, 1) := by decide +kernel
theorem dX4_addPoint_67 : decode cX4_addPoint 67 = .ok (.if_icmp .le 6, 3) := by decide +kernel
theorem dX4_addPoint_70 : decode cX4_addPoint 70 = .ok (.iload 4, 2) := by decide +kernel
theorem dX4_addPoint_72 : decode cX4_addPoint 72 = .ok (.istore_n 2, 1) := by decide +kernel
theorem dX4_addPoint_73 : decode cX4_addPoint 73 = .ok (.aload_n 0, 1) := by decide +kernel
theorem dX4_addPoint_74 : decode cX4_addPoint 74 = .ok (.getfield 11, 3) := by decide +kernel
theorem dX4_addPoint_77 : decode cX4_addPoint 77 = .ok (.iload 4, 2) := by decide +kernel
theorem dX4_addPoint_79 : decode cX4_addPoint 79 = .ok (.iaload, 1) := by decide +kernel
theorem dX4_addPoint_80 : decode cX4_addPoint 80 = .ok (.iload_n 1, 1) := by decide +kernel
theorem dX4_addPoint_81 : decode cX4_addPoint 81 = .ok (.if_icmp .le 22, 3) := by decide +kernel
theorem dX4_addPoint_84 : decode cX4_addPoint 84 = .ok (.aload_n 0, 1) := by decide +kernel
theorem dX4_addPoint_85 : decode cX4_addPoint 85 = .ok (.getfield 11, 3) := by decide +kernel
theorem dX4_addPoint_88 : decode cX4_addPoint 88 = .ok (.iload 4, 2) := by decide +kernel
theorem dX4_addPoint_90 : decode cX4_addPoint 90 = .ok (.iaload, 1) := by decide +kernel
theorem dX4_addPoint_91 : decode cX4_addPoint 91 = .ok (.aload_n 0, 1) := by decide +kernel
theorem dX4_addPoint_92 : decode cX4_addPoint 92 = .ok (.getfield 11, 3) := by decide +kernel
theorem dX4_addPoint_95 : decode cX4_addPoint 95 = .ok (.iload_n 3, 1) := by decide +kernel
theorem dX4_addPoint_96 : decode cX4_addPoint 96 = .ok (.iaload, 1) := by decide +kernel
theorem dX4_addPoint_97 : decode cX4_addPoint 97 = .ok (.if_icmp .ge 6, 3) := by decide +kernel
theorem dX4_addPoint_100 : decode cX4_addPoint 100 = .ok (.iload 4, 2) := by decide +kernel
theorem dX4_addPoint_102 : decode cX4_addPoint 102 = .ok (.istore_n 3, 1) := by decide +kernel
theorem dX4_addPoint_103 : decode cX4_addPoint 103 = .ok (.iinc 4 1, 3) := by decide +kernel
theorem dX4_addPoint_106 : decode cX4_addPoint 106 = .ok (.goto (-72), 3) := by decide +kernel
theorem dX4_addPoint_109 : decode cX4_addPoint 109 = .ok (.aload_n 0, 1) := by decide +kernel
theorem dX4_addPoint_110 : decode cX4_addPoint 110 = .ok (.getfield 11, 3) := by decide +kernel
theorem dX4_addPoint_113 : decode cX4_addPoint 113 = .ok (.aload_n 0, 1) := by decide +kernel
theorem dX4_addPoint_114 : decode cX4_addPoint 114 = .ok (.getfield 76, 3) := by decide +kernel
theorem dX4_addPoint_117 : decode cX4_addPoint 117 = .ok (.iload_n 1, 1) := by decide +kernel
theorem dX4_addPoint_118 : decode cX4_addPoint 118 = .ok (.iastore, 1) := by decide +kernel
theorem dX4_addPoint_119 : decode cX4_addPoint 119 = .ok (.aload_n 0, 1) := by decide +kernel
theorem dX4_addPoint_120 : decode cX4_addPoint 120 = .ok (.getfield 15, 3) := by decide +kernel
theorem dX4_addPoint_123 : decode cX4_addPoint 123 = .ok (.aload_n 0, 1) := by decide +kernel
theorem dX4_addPoint_124 : decode cX4_addPoint 124 = .ok (.getfield 76, 3) := by decide +kernel
theorem dX4_addPoint_127 : decode cX4_addPoint 127 = .ok (.iload_n 2, 1) := by decide +kernel
theorem dX4_addPoint_128 : decode cX4_addPoint 128 = .ok (.iastore, 1) := by decide +kernel
theorem dX4_addPoint_129 : decode cX4_addPoint 129 = .ok (.aload_n 0, 1) := by decide +kernel
theorem dX4_addPoint_130 : decode cX4_addPoint 130 = .ok (.getfield 18, 3) := by decide +kernel
theorem dX4_addPoint_133 : decode cX4_addPoint 133 = .ok (.aload_n 0, 1) := by decide +kernel
theorem dX4_addPoint_134 : decode cX4_addPoint 134 = .ok (.getfield 76, 3) := by decide +kernel
theorem dX4_addPoint_137 : decode cX4_addPoint 137 = .ok (.iload_n 3, 1) := by decide +kernel
theorem dX4_addPoint_138 : decode cX4_addPoint 138 = .ok (.iastore, 1) := by decide +kernel
theorem dX4_addPoint_139 : decode cX4_addPoint 139 = .ok (.aload_n 0, 1) := by decide +kernel
theorem dX4_addPoint_140 : decode cX4_addPoint 140 = .ok (.getfield 21, 3) := by decide +kernel
theorem dX4_addPoint_143 : decode cX4_addPoint 143 = .ok (.iload_n 1, 1) := by decide +kernel
theorem dX4_addPoint_144 : decode cX4_addPoint 144 = .ok (.aload_n 0, 1) := by decide +kernel
theorem dX4_addPoint_145 : decode cX4_addPoint 145 = .ok (.getfield 76, 3) := by decide +kernel
theorem dX4_addPoint_148 : decode cX4_addPoint 148 = .ok (.iastore, 1) := by decide +kernel
theorem dX4_addPoint_149 : decode cX4_addPoint 149 = .ok (.aload_n 0, 1) := by decide +kernel
theorem dX4_addPoint_150 : decode cX4_addPoint 150 = .ok (.dup, 1) := by decide +kernel
theorem dX4_addPoint_151 : decode cX4_addPoint 151 = .ok (.getfield 76, 3) := by decide +kernel
theorem dX4_addPoint_154 : decode cX4_addPoint 154 = .ok (.iconst 1, 1) := by decide +kernel
theorem dX4_addPoint_155 : decode cX4_addPoint 155 = .ok (.iadd, 1) := by decide +kernel
theorem dX4_addPoint_156 : decode cX4_addPoint 156 = .ok (.putfield 76, 3) := by decide +kernel
theorem dX4_addPoint_159 : decode cX4_addPoint 159 = .ok (.return_, 1) := by decide +kernel
theorem dX4_learnClasses_0 : decode cX4_learnClasses 0 = .ok (.aload_n 1, 1) := by decide +kernel
theorem dX4_learnClasses_1 : decode cX4_learnClasses 1 = .ok (.iconst 2, 1) := by decide +kernel
theorem dX4_learnClasses_2 : decode cX4_learnClasses 2 = .ok (.invokevirtual 47, 3) := by decide +kernel
theorem dX4_learnClasses_5 : decode cX4_learnClasses 5 = .ok (.istore_n 2, 1) := by decide +kernel
theorem dX4_learnClasses_6 : decode cX4_learnClasses 6 = .ok (.aload_n 0, 1) := by decide +kernel
theorem dX4_learnClasses_7 : decode cX4_learnClasses 7 = .ok (.aload_n 1, 1) := by decide +kernel
theorem dX4_learnClasses_8 : decode cX4_learnClasses 8 = .ok (.iconst 2, 1) := by decide +kernel
theorem dX4_learnClasses_9 : decode cX4_learnClasses 9 = .ok (.invokevirtual 47, 3) := by decide +kernel
theorem dX4_learnClasses_12 : decode cX4_learnClasses 12 = .ok (.iconst 1, 1) := by decide +kernel
theorem dX4_learnClasses_13 : decode cX4_learnClasses 13 = .ok (.iadd, 1) := by decide +kernel
theorem dX4_learnClasses_14 : decode cX4_learnClasses 14 = .ok (.putfield 44, 3) := by decide +kernel
theorem dX4_learnClasses_17 : decode cX4_learnClasses 17 = .ok (.aload_n 0, 1) := by decide +kernel
theorem dX4_learnClasses_18 : decode cX4_learnClasses 18 = .ok (.aload_n 1, 1) := by decide +kernel
theorem dX4_learnClasses_19 : decode cX4_learnClasses 19 = .ok (.iconst 3, 1) := by decide +kernel
theorem dX4_learnClasses_20 : decode cX4_learnClasses 20 = .ok (.invokevirtual 47, 3) := by decide +kernel
theorem dX4_learnClasses_23 : decode cX4_learnClasses 23 = .ok (.putfield 83, 3) := by decide +kernel
theorem dX4_learnClasses_26 : decode cX4_learnClasses 26 = .ok (.aload_n 0, 1) := by decide +kernel
theorem dX4_learnClasses_27 : decode cX4_learnClasses 27 = .ok (.getfield 83, 3) := by decide +kernel
theorem dX4_learnClasses_30 : decode cX4_learnClasses 30 = .ok (.ifCond .ge 5, 3) := by decide +kernel
theorem dX4_learnClasses_33 : decode cX4_learnClasses 33 = .ok (.iconst 2, 1) := by decide +kernel
theorem dX4_learnClasses_34 : decode cX4_learnClasses 34 = .ok (.ireturn, 1) := by decide +kernel
theorem dX4_learnClasses_35 : decode cX4_learnClasses 35 = .ok (.aload_n 0, 1) := by decide +kernel
theorem dX4_learnClasses_36 : decode cX4_learnClasses 36 = .ok (.iconst 1, 1) := by decide +kernel
theorem dX4_learnClasses_37 : decode cX4_learnClasses 37 = .ok (.iload_n 2, 1) := by decide +kernel
theorem dX4_learnClasses_38 : decode cX4_learnClasses 38 = .ok (.ishl, 1) := by decide +kernel
theorem dX4_learnClasses_39 : decode cX4_learnClasses 39 = .ok (.putfield 41, 3) := by decide +kernel
theorem dX4_learnClasses_42 : decode cX4_learnClasses 42 = .ok (.aload_n 0, 1) := by decide +kernel
theorem dX4_learnClasses_43 : decode cX4_learnClasses 43 = .ok (.getfield 83, 3) := by decide +kernel
theorem dX4_learnClasses_46 : decode cX4_learnClasses 46 = .ok (.aload_n 0, 1) := by decide +kernel
theorem dX4_learnClasses_47 : decode cX4_learnClasses 47 = .ok (.getfield 53, 3) := by decide +kernel
theorem dX4_learnClasses_50 : decode cX4_learnClasses 50 = .ok (.if_icmp .lt 5, 3) := by decide +kernel
theorem dX4_learnClasses_53 : decode cX4_learnClasses 53 = .ok (.iconst 5, 1) := by decide +kernel
theorem dX4_learnClasses_54 : decode cX4_learnClasses 54 = .ok (.ireturn, 1) := by decide +kernel
theorem dX4_learnClasses_55 : decode cX4_learnClasses 55 = .ok (.iconst 0, 1) := by decide +kernel
theorem dX4_learnClasses_56 : decode cX4_learnClasses 56 = .ok (.istore_n 3, 1) := by decide +kernel
theorem dX4_learnClasses_57 : decode cX4_learnClasses 57 = .ok (.iconst 0, 1) := by decide +kernel
theorem dX4_learnClasses_58 : decode cX4_learnClasses 58 = .ok (.istore 4, 2) := by decide +kernel
theorem dX4_learnClasses_60 : decode cX4_learnClasses 60 = .ok (.iload 4, 2) := by decide +kernel
theorem dX4_learnClasses_62 : decode cX4_learnClasses 62 = .ok (.aload_n 0, 1) := by decide +kernel
theorem dX4_learnClasses_63 : decode cX4_learnClasses 63 = .ok (.getfield 44, 3) := by decide +kernel
theorem dX4_learnClasses_66 : decode cX4_learnClasses 66 = .ok (.if_icmp .ge 47, 3) := by decide +kernel
theorem dX4_learnClasses_69 : decode cX4_learnClasses 69 = .ok (.iload 4, 2) := by decide +kernel
theorem dX4_learnClasses_71 : decode cX4_learnClasses 71 = .ok (.aload_n 0, 1) := by decide +kernel
theorem dX4_learnClasses_72 : decode cX4_learnClasses 72 = .ok (.getfield 24, 3) := by decide +kernel
theorem dX4_learnClasses_75 : decode cX4_learnClasses 75 = .ok (.arraylength, 1) := by decide +kernel
theorem dX4_learnClasses_76 : decode cX4_learnClasses 76 = .ok (.if_icmp .ge 37, 3) := by decide +kernel
theorem dX4_learnClasses_79 : decode cX4_learnClasses 79 = .ok (.iload_n 3, 1) := by decide +kernel
theorem dX4_learnClasses_80 : decode cX4_learnClasses 80 = .ok (.ifCond .ne 33, 3) := by decide +kernel
theorem dX4_learnClasses_83 : decode cX4_learnClasses 83 = .ok (.aload_n 0, 1) := by decide +kernel
theorem dX4_learnClasses_84 : decode cX4_learnClasses 84 = .ok (.getfield 24, 3) := by decide +kernel
theorem dX4_learnClasses_87 : decode cX4_learnClasses 87 = .ok (.iload 4, 2) := by decide +kernel
theorem dX4_learnClasses_89 : decode cX4_learnClasses 89 = .ok (.aload_n 1, 1) := by decide +kernel
theorem dX4_learnClasses_90 : decode cX4_learnClasses 90 = .ok (.iconst 4, 1) := by decide +kernel
theorem dX4_learnClasses_91 : decode cX4_learnClasses 91 = .ok (.invokevirtual 47, 3) := by decide +kernel
theorem dX4_learnClasses_94 : decode cX4_learnClasses 94 = .ok (.iastore, 1) := by decide +kernel
theorem dX4_learnClasses_95 : decode cX4_learnClasses 95 = .ok (.aload_n 0, 1) := by decide +kernel
theorem dX4_learnClasses_96 : decode cX4_learnClasses 96 = .ok (.aload_n 0, 1) := by decide +kernel
theorem dX4_learnClasses_97 : decode cX4_learnClasses 97 = .ok (.getfield 24, 3) := by decide +kernel
theorem dX4_learnClasses_100 : decode cX4_learnClasses 100 = .ok (.iload 4, 2) := by decide +kernel
theorem dX4_learnClasses_102 : decode cX4_learnClasses 102 = .ok (.iaload, 1) := by decide +kernel
theorem dX4_learnClasses_103 : decode cX4_learnClasses 103 = .ok (.invokevirtual 86, 3) := by decide +kernel
theorem dX4_learnClasses_106 : decode cX4_learnClasses 106 = .ok (.istore_n 3, 1) := by decide +kernel
theorem dX4_learnClasses_107 : decode cX4_learnClasses 107 = .ok (.iinc 4 1, 3) := by decide +kernel
theorem dX4_learnClasses_110 : decode cX4_learnClasses 110 = .ok (.goto (-50), 3) := by decide +kernel
theorem dX4_learnClasses_113 : decode cX4_learnClasses 113 = .ok (.iload_n 3, 1) := by decide +kernel
theorem dX4_learnClasses_114 : decode cX4_learnClasses 114 = .ok (.ireturn, 1) := by decide +kernel
theorem dX4_faultOfClassBook_0 : decode cX4_faultOfClassBook 0 = .ok (.iload_n 1, 1) := by decide +kernel
theorem dX4_faultOfClassBook_1 : decode cX4_faultOfClassBook 1 = .ok (.ifCond .ge 5, 3) := by decide +kernel
theorem dX4_faultOfClassBook_4 : decode cX4_faultOfClassBook 4 = .ok (.iconst 2, 1) := by decide +kernel
theorem dX4_faultOfClassBook_5 : decode cX4_faultOfClassBook 5 = .ok (.ireturn, 1) := by decide +kernel
theorem dX4_faultOfClassBook_6 : decode cX4_faultOfClassBook 6 = .ok (.iload_n 1, 1) := by decide +kernel
theorem dX4_faultOfClassBook_7 : decode cX4_faultOfClassBook 7 = .ok (.bipush 8, 2) := by decide +kernel
theorem dX4_faultOfClassBook_9 : decode cX4_faultOfClassBook 9 = .ok (.if_icmp .lt 5, 3) := by decide +kernel
theorem dX4_faultOfClassBook_12 : decode cX4_faultOfClassBook 12 = .ok (.iconst 0, 1) := by decide +kernel
theorem dX4_faultOfClassBook_13 : decode cX4_faultOfClassBook 13 = .ok (.ireturn, 1) := by decide +kernel
theorem dX4_faultOfClassBook_14 : decode cX4_faultOfClassBook 14 = .ok (.iload_n 1, 1) := by decide +kernel
theorem dX4_faultOfClassBook_15 : decode cX4_faultOfClassBook 15 = .ok (.aload_n 0, 1) := by decide +kernel
theorem dX4_faultOfClassBook_16 : decode cX4_faultOfClassBook 16 = .ok (.getfield 53, 3) := by decide +kernel
theorem dX4_faultOfClassBook_19 : decode cX4_faultOfClassBook 19 = .ok (.if_icmp .lt 5, 3) := by decide +kernel
theorem dX4_faultOfClassBook_22 : decode cX4_faultOfClassBook 22 = .ok (.iconst 5, 1) := by decide +kernel
theorem dX4_faultOfClassBook_23 : decode cX4_faultOfClassBook 23 = .ok (.ireturn, 1) := by decide +kernel
theorem dX4_faultOfClassBook_24 : decode cX4_faultOfClassBook 24 = .ok (.aload_n 0, 1) := by decide +kernel
theorem dX4_faultOfClassBook_25 : decode cX4_faultOfClassBook 25 = .ok (.iload_n 1, 1) := by decide +kernel
theorem dX4_faultOfClassBook_26 : decode cX4_faultOfClassBook 26 = .ok (.invokevirtual 56, 3) := by decide +kernel
theorem dX4_faultOfClassBook_29 : decode cX4_faultOfClassBook 29 = .ok (.astore_n 2, 1) := by decide +kernel
theorem dX4_faultOfClassBook_30 : decode cX4_faultOfClassBook 30 = .ok (.aload_n 2, 1) := by decide +kernel
theorem dX4_faultOfClassBook_31 : decode cX4_faultOfClassBook 31 = .ok (.getfield 89, 3) := by decide +kernel
theorem dX4_faultOfClassBook_34 : decode cX4_faultOfClassBook 34 = .ok (.ifCond .eq 23, 3) := by decide +kernel
theorem dX4_faultOfClassBook_37 : decode cX4_faultOfClassBook 37 = .ok (.aload_n 2, 1) := by decide +kernel
theorem dX4_faultOfClassBook_38 : decode cX4_faultOfClassBook 38 = .ok (.getfield 93, 3) := by decide +kernel
theorem dX4_faultOfClassBook_41 : decode cX4_faultOfClassBook 41 = .ok (.iconst 1, 1) := by decide +kernel
theorem dX4_faultOfClassBook_42 : decode cX4_faultOfClassBook 42 = .ok (.if_icmp .lt 15, 3) := by decide +kernel
theorem dX4_faultOfClassBook_45 : decode cX4_faultOfClassBook 45 = .ok (.aload_n 0, 1) := by decide +kernel
theorem dX4_faultOfClassBook_46 : decode cX4_faultOfClassBook 46 = .ok (.getfield 41, 3) := by decide +kernel
theorem dX4_faultOfClassBook_49 : decode cX4_faultOfClassBook 49 = .ok (.aload_n 2, 1) := by decide +kernel
theorem dX4_faultOfClassBook_50 : decode cX4_faultOfClassBook 50 = .ok (.getfield 93, 3) := by decide +kernel
theorem dX4_faultOfClassBook_53 : decode cX4_faultOfClassBook 53 = .ok (.irem, 1) := by decide +kernel
theorem dX4_faultOfClassBook_54 : decode cX4_faultOfClassBook 54 = .ok (.ifCond .eq 6, 3) := by decide +kernel
theorem dX4_faultOfClassBook_57 : decode cX4_faultOfClassBook 57 = .ok (.bipush 7, 2) := by decide +kernel
theorem dX4_faultOfClassBook_59 : decode cX4_faultOfClassBook 59 = .ok (.ireturn, 1) := by decide +kernel
theorem dX4_faultOfClassBook_60 : decode cX4_faultOfClassBook 60 = .ok (.iconst 0, 1) := by decide +kernel
theorem dX4_faultOfClassBook_61 : decode cX4_faultOfClassBook 61 = .ok (.ireturn, 1) := by decide +kernel
theorem dX4_learnLeaning_0 : decode cX4_learnLeaning 0 = .ok (.aload_n 0, 1) := by decide +kernel
theorem dX4_learnLeaning_1 : decode cX4_learnLeaning 1 = .ok (.iconst 0, 1) := by decide +kernel
theorem dX4_learnLeaning_2 : decode cX4_learnLeaning 2 = .ok (.putfield 96, 3) := by decide +kernel
theorem dX4_learnLeaning_5 : decode cX4_learnLeaning 5 = .ok (.aload_n 0, 1) := by decide +kernel
theorem dX4_learnLeaning_6 : decode cX4_learnLeaning 6 = .ok (.getfield 34, 3) := by decide +kernel
theorem dX4_learnLeaning_9 : decode cX4_learnLeaning 9 = .ok (.iconst 2, 1) := by decide +kernel
theorem dX4_learnLeaning_10 : decode cX4_learnLeaning 10 = .ok (.if_icmp .ne 29, 3) := by decide +kernel
theorem dX4_learnLeaning_13 : decode cX4_learnLeaning 13 = .ok (.aload_n 1, 1) := by decide +kernel
theorem dX4_learnLeaning_14 : decode cX4_learnLeaning 14 = .ok (.iconst 1, 1) := by decide +kernel
theorem dX4_learnLeaning_15 : decode cX4_learnLeaning 15 = .ok (.invokevirtual 47, 3) := by decide +kernel
theorem dX4_learnLeaning_18 : decode cX4_learnLeaning 18 = .ok (.istore_n 2, 1) := by decide +kernel
theorem dX4_learnLeaning_19 : decode cX4_learnLeaning 19 = .ok (.iload_n 2, 1) := by decide +kernel
theorem dX4_learnLeaning_20 : decode cX4_learnLeaning 20 = .ok (.ifCond .ge 5, 3) := by decide +kernel
theorem dX4_learnLeaning_23 : decode cX4_learnLeaning 23 = .ok (.iconst 2, 1) := by decide +kernel
theorem dX4_learnLeaning_24 : decode cX4_learnLeaning 24 = .ok (.ireturn, 1) := by decide +kernel
theorem dX4_learnLeaning_25 : decode cX4_learnLeaning 25 = .ok (.aload_n 0, 1) := by decide +kernel
theorem dX4_learnLeaning_26 : decode cX4_learnLeaning 26 = .ok (.iload_n 2, 1) := by decide +kernel
theorem dX4_learnLeaning_27 : decode cX4_learnLeaning 27 = .ok (.iconst 1, 1) := by decide +kernel
theorem dX4_learnLeaning_28 : decode cX4_learnLeaning 28 = .ok (.if_icmp .ne 7, 3) := by decide +kernel
theorem dX4_learnLeaning_31 : decode cX4_learnLeaning 31 = .ok (.iconst 1, 1) := by decide +kernel
theorem dX4_learnLeaning_32 : decode cX4_learnLeaning 32 = .ok (.goto 4, 3) := by decide +kernel
theorem dX4_learnLeaning_35 : decode cX4_learnLeaning 35 = .ok (.iconst 0, 1) := by decide +kernel
theorem dX4_learnLeaning_36 : decode cX4_learnLeaning 36 = .ok (.putfield 96, 3) := by decide +kernel
theorem dX4_learnLeaning_39 : decode cX4_learnLeaning 39 = .ok (.iconst 0, 1) := by decide +kernel
theorem dX4_learnLeaning_40 : decode cX4_learnLeaning 40 = .ok (.ireturn, 1) := by decide +kernel
theorem dX4_nextPost_0 : decode cX4_nextPost 0 = .ok (.aload_n 0, 1) := by decide +kernel
theorem dX4_nextPost_1 : decode cX4_nextPost 1 = .ok (.aload_n 0, 1) := by decide +kernel
theorem dX4_nextPost_2 : decode cX4_nextPost 2 = .ok (.getfield 73, 3) := by decide +kernel
theorem dX4_nextPost_5 : decode cX4_nextPost 5 = .ok (.invokevirtual 56, 3) := by decide +kernel
theorem dX4_nextPost_8 : decode cX4_nextPost 8 = .ok (.aload_n 1, 1) := by decide +kernel
theorem dX4_nextPost_9 : decode cX4_nextPost 9 = .ok (.invokevirtual 99, 3) := by decide +kernel
theorem dX4_nextPost_12 : decode cX4_nextPost 12 = .ok (.ireturn, 1) := by decide +kernel
theorem dX4_learnNumbers_0 : decode cX4_learnNumbers 0 = .ok (.iconst 0, 1) := by decide +kernel
theorem dX4_learnNumbers_1 : decode cX4_learnNumbers 1 = .ok (.istore_n 3, 1) := by decide +kernel
theorem dX4_learnNumbers_2 : decode cX4_learnNumbers 2 = .ok (.iload_n 3, 1) := by decide +kernel
theorem dX4_learnNumbers_3 : decode cX4_learnNumbers 3 = .ok (.bipush 16, 2) := by decide +kernel
theorem dX4_learnNumbers_5 : decode cX4_learnNumbers 5 = .ok (.if_icmp .ge 98, 3) := by decide +kernel
theorem dX4_learnNumbers_8 : decode cX4_learnNumbers 8 = .ok (.aload_n 0, 1) := by decide +kernel
theorem dX4_learnNumbers_9 : decode cX4_learnNumbers 9 = .ok (.aload_n 0, 1) := by decide +kernel
theorem dX4_learnNumbers_10 : decode cX4_learnNumbers 10 = .ok (.getfield 83, 3) := by decide +kernel
theorem dX4_learnNumbers_13 : decode cX4_learnNumbers 13 = .ok (.invokevirtual 56, 3) := by decide +kernel
theorem dX4_learnNumbers_16 : decode cX4_learnNumbers 16 = .ok (.aload_n 1, 1) := by decide +kernel
theorem dX4_learnNumbers_17 : decode cX4_learnNumbers 17 = .ok (.invokevirtual 99, 3) := by decide +kernel
theorem dX4_learnNumbers_20 : decode cX4_learnNumbers 20 = .ok (.istore 4, 2) := by decide +kernel
theorem dX4_learnNumbers_22 : decode cX4_learnNumbers 22 = .ok (.iload 4, 2) := by decide +kernel
theorem dX4_learnNumbers_24 : decode cX4_learnNumbers 24 = .ok (.ifCond .lt 11, 3) := by decide +kernel
theorem dX4_learnNumbers_27 : decode cX4_learnNumbers 27 = .ok (.aload_n 0, 1) := by decide +kernel
theorem dX4_learnNumbers_28 : decode cX4_learnNumbers 28 = .ok (.getfield 44, 3) := by decide +kernel
theorem dX4_learnNumbers_31 : decode cX4_learnNumbers 31 = .ok (.iconst 1, 1) := by decide +kernel
theorem dX4_learnNumbers_32 : decode cX4_learnNumbers 32 = .ok (.if_icmp .ge 4, 3) := by decide +kernel
theorem dX4_learnNumbers_35 : decode cX4_learnNumbers 35 = .ok (.return_, 1) := by decide +kernel
theorem dX4_learnNumbers_36 : decode cX4_learnNumbers 36 = .ok (.iload 4, 2) := by decide +kernel
theorem dX4_learnNumbers_38 : decode cX4_learnNumbers 38 = .ok (.aload_n 0, 1) := by decide +kernel
theorem dX4_learnNumbers_39 : decode cX4_learnNumbers 39 = .ok (.getfield 44, 3) := by decide +kernel
theorem dX4_learnNumbers_42 : decode cX4_learnNumbers 42 = .ok (.irem, 1) := by decide +kernel
theorem dX4_learnNumbers_43 : decode cX4_learnNumbers 43 = .ok (.istore 5, 2) := by decide +kernel
theorem dX4_learnNumbers_45 : decode cX4_learnNumbers 45 = .ok (.iload 5, 2) := by decide +kernel
theorem dX4_learnNumbers_47 : decode cX4_learnNumbers 47 = .ok (.aload_n 0, 1) := by decide +kernel
theorem dX4_learnNumbers_48 : decode cX4_learnNumbers 48 = .ok (.getfield 24, 3) := by decide +kernel
theorem dX4_learnNumbers_51 : decode cX4_learnNumbers 51 = .ok (.arraylength, 1) := by decide +kernel
theorem dX4_learnNumbers_52 : decode cX4_learnNumbers 52 = .ok (.if_icmp .ge 13, 3) := by decide +kernel
theorem dX4_learnNumbers_55 : decode cX4_learnNumbers 55 = .ok (.aload_n 0, 1) := by decide +kernel
theorem dX4_learnNumbers_56 : decode cX4_learnNumbers 56 = .ok (.getfield 24, 3) := by decide +kernel
theorem dX4_learnNumbers_59 : decode cX4_learnNumbers 59 = .ok (.iload 5, 2) := by decide +kernel
theorem dX4_learnNumbers_61 : decode cX4_learnNumbers 61 = .ok (.iaload, 1) := by decide +kernel
theorem dX4_learnNumbers_62 : decode cX4_learnNumbers 62 = .ok (.goto 5, 3) := by decide +kernel
theorem dX4_learnNumbers_65 : decode cX4_learnNumbers 65 = .ok (.bipush 8, 2) := by decide +kernel
theorem dX4_learnNumbers_67 : decode cX4_learnNumbers 67 = .ok (.istore 6, 2) := by decide +kernel
theorem dX4_learnNumbers_69 : decode cX4_learnNumbers 69 = .ok (.iload 6, 2) := by decide +kernel
theorem dX4_learnNumbers_71 : decode cX4_learnNumbers 71 = .ok (.bipush 8, 2) := by decide +kernel
theorem dX4_learnNumbers_73 : decode cX4_learnNumbers 73 = .ok (.if_icmp .ge 16, 3) := by decide +kernel
theorem dX4_learnNumbers_76 : decode cX4_learnNumbers 76 = .ok (.aload_n 0, 1) := by decide +kernel
theorem dX4_learnNumbers_77 : decode cX4_learnNumbers 77 = .ok (.aload_n 1, 1) := by decide +kernel
theorem dX4_learnNumbers_78 : decode cX4_learnNumbers 78 = .ok (.aload_n 0, 1) := by decide +kernel
theorem dX4_learnNumbers_79 : decode cX4_learnNumbers 79 = .ok (.iload 6, 2) := by decide +kernel
theorem dX4_learnNumbers_81 : decode cX4_learnNumbers 81 = .ok (.invokevirtual 56, 3) := by decide +kernel
theorem dX4_learnNumbers_84 : decode cX4_learnNumbers 84 = .ok (.aload_n 2, 1) := by decide +kernel
theorem dX4_learnNumbers_85 : decode cX4_learnNumbers 85 = .ok (.iload_n 3, 1) := by decide +kernel
theorem dX4_learnNumbers_86 : decode cX4_learnNumbers 86 = .ok (.invokevirtual 102, 3) := by decide +kernel
theorem dX4_learnNumbers_89 : decode cX4_learnNumbers 89 = .ok (.iload_n 3, 1) := by decide +kernel
theorem dX4_learnNumbers_90 : decode cX4_learnNumbers 90 = .ok (.iconst 1, 1) := by decide +kernel
theorem dX4_learnNumbers_91 : decode cX4_learnNumbers 91 = .ok (.aload_n 0, 1) := by decide +kernel
theorem dX4_learnNumbers_92 : decode cX4_learnNumbers 92 = .ok (.getfield 41, 3) := by decide +kernel
theorem dX4_learnNumbers_95 : decode cX4_learnNumbers 95 = .ok (.invokestatic 106, 3) := by decide +kernel
theorem dX4_learnNumbers_98 : decode cX4_learnNumbers 98 = .ok (.iadd, 1) := by decide +kernel
theorem dX4_learnNumbers_99 : decode cX4_learnNumbers 99 = .ok (.istore_n 3, 1) := by decide +kernel
theorem dX4_learnNumbers_100 : decode cX4_learnNumbers 100 = .ok (.goto (-98), 3) := by decide +kernel
theorem dX4_learnNumbers_103 : decode cX4_learnNumbers 103 = .ok (.return_, 1) := by decide +kernel
theorem dX4_learnPart_0 : decode cX4_learnPart 0 = .ok (.iconst 0, 1) := by decide +kernel
theorem dX4_learnPart_1 : decode cX4_learnPart 1 = .ok (.istore 5, 2) := by decide +kernel
theorem dX4_learnPart_3 : decode cX4_learnPart 3 = .ok (.iload 5, 2) := by decide +kernel
theorem dX4_learnPart_5 : decode cX4_learnPart 5 = .ok (.aload_n 0, 1) := by decide +kernel
theorem dX4_learnPart_6 : decode cX4_learnPart 6 = .ok (.getfield 41, 3) := by decide +kernel
theorem dX4_learnPart_9 : decode cX4_learnPart 9 = .ok (.if_icmp .ge 44, 3) := by decide +kernel
theorem dX4_learnPart_12 : decode cX4_learnPart 12 = .ok (.aload_n 2, 1) := by decide +kernel
theorem dX4_learnPart_13 : decode cX4_learnPart 13 = .ok (.aload_n 1, 1) := by decide +kernel
theorem dX4_learnPart_14 : decode cX4_learnPart 14 = .ok (.invokevirtual 99, 3) := by decide +kernel
theorem dX4_learnPart_17 : decode cX4_learnPart 17 = .ok (.istore 6, 2) := by decide +kernel
theorem dX4_learnPart_19 : decode cX4_learnPart 19 = .ok (.iload 6, 2) := by decide +kernel
theorem dX4_learnPart_21 : decode cX4_learnPart 21 = .ok (.ifCond .ge 4, 3) := by decide +kernel
theorem dX4_learnPart_24 : decode cX4_learnPart 24 = .ok (.return_, 1) := by decide +kernel
theorem dX4_learnPart_25 : decode cX4_learnPart 25 = .ok (.aload_n 2, 1) := by decide +kernel
theorem dX4_learnPart_26 : decode cX4_learnPart 26 = .ok (.iload 6, 2) := by decide +kernel
theorem dX4_learnPart_28 : decode cX4_learnPart 28 = .ok (.aload_n 3, 1) := by decide +kernel
theorem dX4_learnPart_29 : decode cX4_learnPart 29 = .ok (.iload 4, 2) := by decide +kernel
theorem dX4_learnPart_31 : decode cX4_learnPart 31 = .ok (.iload 5, 2) := by decide +kernel
theorem dX4_learnPart_33 : decode cX4_learnPart 33 = .ok (.iadd, 1) := by decide +kernel
theorem dX4_learnPart_34 : decode cX4_learnPart 34 = .ok (.invokevirtual 112, 3) := by decide +kernel
theorem dX4_learnPart_37 : decode cX4_learnPart 37 = .ok (.iload 5, 2) := by decide +kernel
theorem dX4_learnPart_39 : decode cX4_learnPart 39 = .ok (.iconst 1, 1) := by decide +kernel
theorem dX4_learnPart_40 : decode cX4_learnPart 40 = .ok (.aload_n 2, 1) := by decide +kernel
theorem dX4_learnPart_41 : decode cX4_learnPart 41 = .ok (.getfield 93, 3) := by decide +kernel
theorem dX4_learnPart_44 : decode cX4_learnPart 44 = .ok (.invokestatic 106, 3) := by decide +kernel
theorem dX4_learnPart_47 : decode cX4_learnPart 47 = .ok (.iadd, 1) := by decide +kernel
theorem dX4_learnPart_48 : decode cX4_learnPart 48 = .ok (.istore 5, 2) := by decide +kernel
theorem dX4_learnPart_50 : decode cX4_learnPart 50 = .ok (.goto (-47), 3) := by decide +kernel
theorem dX4_learnPart_53 : decode cX4_learnPart 53 = .ok (.return_, 1) := by decide +kernel
