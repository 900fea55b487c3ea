theorem dX5_init_0 : decode cX5_init 0 = .ok (.aload_n 0, 1) := by decide +kernel
theorem dX5_init_1 : decode cX5_init 1 = .ok (.invokespecial 3, 3) := by decide +kernel
theorem dX5_init_4 : decode cX5_init 4 = .ok (.aload_n 0, 1) := by decide +kernel
theorem dX5_init_5 : decode cX5_init 5 = .ok (.bipush 32, 2) := by decide +kernel
theorem dX5_init_7 : decode cX5_init 7 = .ok (.newarray .long, 2) := by decide +kernel
theorem dX5_init_9 : decode cX5_init 9 = .ok (.putfield 9, 3) := by decide +kernel
theorem dX5_init_12 : decode cX5_init 12 = .ok (.aload_n 0, 1) := by decide +kernel
theorem dX5_init_13 : decode cX5_init 13 = .ok (.bipush 16, 2) := by decide +kernel
theorem dX5_init_15 : decode cX5_init 15 = .ok (.newarray .long, 2) := by decide +kernel
theorem dX5_init_17 : decode cX5_init 17 = .ok (.putfield 15, 3) := by decide +kernel
theorem dX5_init_20 : decode cX5_init 20 = .ok (.aload_n 0, 1) := by decide +kernel
theorem dX5_init_21 : decode cX5_init 21 = .ok (.sipush 256, 3) := by decide +kernel
theorem dX5_init_24 : decode cX5_init 24 = .ok (.newarray .int, 2) := by decide +kernel
theorem dX5_init_26 : decode cX5_init 26 = .ok (.putfield 18, 3) := by decide +kernel
theorem dX5_init_29 : decode cX5_init 29 = .ok (.aload_n 0, 1) := by decide +kernel
theorem dX5_init_30 : decode cX5_init 30 = .ok (.getfield 18, 3) := by decide +kernel
theorem dX5_init_33 : decode cX5_init 33 = .ok (.sipush 255, 3) := by decide +kernel
theorem dX5_init_36 : decode cX5_init 36 = .ok (.ldc 22, 2) := by decide +kernel
theorem dX5_init_38 : decode cX5_init 38 = .ok (.iastore, 1) := by decide +kernel
theorem dX5_init_39 : decode cX5_init 39 = .ok (.sipush 254, 3) := by decide +kernel
theorem dX5_init_42 : decode cX5_init 42 = .ok (.istore_n 1, 1) := by decide +kernel
theorem dX5_init_43 : decode cX5_init 43 = .ok (.iload_n 1, 1) := by decide +kernel
theorem dX5_init_44 : decode cX5_init 44 = .ok (.ifCond .lt 34, 3) := by decide +kernel
theorem dX5_init_47 : decode cX5_init 47 = .ok (.aload_n 0, 1) := by decide +kernel
theorem dX5_init_48 : decode cX5_init 48 = .ok (.getfield 18, 3) := by decide +kernel
theorem dX5_init_51 : decode cX5_init 51 = .ok (.iload_n 1, 1) := by decide +kernel
theorem dX5_init_52 : decode cX5_init 52 = .ok (.sipush 15391, 3) := by decide +kernel
theorem dX5_init_55 : decode cX5_init 55 = .ok (.aload_n 0, 1) := by decide +kernel
theorem dX5_init_56 : decode cX5_init 56 = .ok (.getfield 18, 3) := by decide +kernel
theorem dX5_init_59 : decode cX5_init 59 = .ok (.iload_n 1, 1) := by decide +kernel
theorem dX5_init_60 : decode cX5_init 60 = .ok (.iconst 1, 1) := by decide +kernel
theorem dX5_init_61 : decode cX5_init 61 = .ok (.iadd, 1) := by decide +kernel
theorem dX5_init_62 : decode cX5_init 62 = .ok (.iaload, 1) := by decide +kernel
theorem dX5_init_63 : decode cX5_init 63 = .ok (.imul, 1) := by decide +kernel
theorem dX5_init_64 : decode cX5_init 64 = .ok (.sipush 8192, 3) := by decide +kernel
theorem dX5_init_67 : decode cX5_init 67 = .ok (.iadd, 1) := by decide +kernel
theorem dX5_init_68 : decode cX5_init 68 = .ok (.bipush 14, 2) := by decide +kernel
theorem dX5_init_70 : decode cX5_init 70 = .ok (.ishr, 1) := by decide +kernel
theorem dX5_init_71 : decode cX5_init 71 = .ok (.iastore, 1) := by decide +kernel
theorem dX5_init_72 : decode cX5_init 72 = .ok (.iinc 1 (-1), 3) := by decide +kernel
theorem dX5_init_75 : decode cX5_init 75 = .ok (.goto (-32), 3) := by decide +kernel
theorem dX5_init_78 : decode cX5_init 78 = .ok (.aload_n 0, 1) := by decide +kernel
theorem dX5_init_79 : decode cX5_init 79 = .ok (.sipush 128, 3) := by decide +kernel
theorem dX5_init_82 : decode cX5_init 82 = .ok (.newarray .int, 2) := by decide +kernel
theorem dX5_init_84 : decode cX5_init 84 = .ok (.putfield 23, 3) := by decide +kernel
theorem dX5_init_87 : decode cX5_init 87 = .ok (.iconst 0, 1) := by decide +kernel
theorem dX5_init_88 : decode cX5_init 88 = .ok (.istore_n 1, 1) := by decide +kernel
theorem dX5_init_89 : decode cX5_init 89 = .ok (.iload_n 1, 1) := by decide +kernel
theorem dX5_init_90 : decode cX5_init 90 = .ok (.sipush 128, 3) := by decide +kernel
theorem dX5_init_93 : decode cX5_init 93 = .ok (.if_icmp .ge 19, 3) := by decide +kernel
theorem dX5_init_96 : decode cX5_init 96 = .ok (.aload_n 0, 1) := by decide +kernel
theorem dX5_init_97 : decode cX5_init 97 = .ok (.getfield 23, 3) := by decide +kernel
theorem dX5_init_100 : decode cX5_init 100 = .ok (.iload_n 1, 1) := by decide +kernel
theorem dX5_init_101 : decode cX5_init 101 = .ok (.iload_n 1, 1) := by decide +kernel
theorem dX5_init_102 : decode cX5_init 102 = .ok (.invokestatic 26, 3) := by decide +kernel
theorem dX5_init_105 : decode cX5_init 105 = .ok (.iastore, 1) := by decide +kernel
theorem dX5_init_106 : decode cX5_init 106 = .ok (.iinc 1 1, 3) := by decide +kernel
theorem dX5_init_109 : decode cX5_init 109 = .ok (.goto (-20), 3) := by decide +kernel
theorem dX5_init_112 : decode cX5_init 112 = .ok (.return_, 1) := by decide +kernel
theorem dX5_cosine_0 : decode cX5_cosine 0 = .ok (.iload_n 0, 1) := by decide +kernel
theorem dX5_cosine_1 : decode cX5_cosine 1 = .ok (.sipush 128, 3) := by decide +kernel
theorem dX5_cosine_4 : decode cX5_cosine 4 = .ok (.iload_n 0, 1) := by decide +kernel
theorem dX5_cosine_5 : decode cX5_cosine 5 = .ok (.isub, 1) := by decide +kernel
theorem dX5_cosine_6 : decode cX5_cosine 6 = .ok (.invokestatic 30, 3) := by decide +kernel
theorem dX5_cosine_9 : decode cX5_cosine 9 = .ok (.istore_n 1, 1) := by decide +kernel
theorem dX5_cosine_10 : decode cX5_cosine 10 = .ok (.iload_n 1, 1) := by decide +kernel
theorem dX5_cosine_11 : decode cX5_cosine 11 = .ok (.ifCond .lt 9, 3) := by decide +kernel
theorem dX5_cosine_14 : decode cX5_cosine 14 = .ok (.iload_n 1, 1) := by decide +kernel
theorem dX5_cosine_15 : decode cX5_cosine 15 = .ok (.bipush 64, 2) := by decide +kernel
theorem dX5_cosine_17 : decode cX5_cosine 17 = .ok (.if_icmp .le 5, 3) := by decide +kernel
theorem dX5_cosine_20 : decode cX5_cosine 20 = .ok (.iconst 0, 1) := by decide +kernel
theorem dX5_cosine_21 : decode cX5_cosine 21 = .ok (.ireturn, 1) := by decide +kernel
theorem dX5_cosine_22 : decode cX5_cosine 22 = .ok (.iload_n 1, 1) := by decide +kernel
theorem dX5_cosine_23 : decode cX5_cosine 23 = .ok (.bipush 32, 2) := by decide +kernel
theorem dX5_cosine_25 : decode cX5_cosine 25 = .ok (.if_icmp .gt 11, 3) := by decide +kernel
theorem dX5_cosine_28 : decode cX5_cosine 28 = .ok (.getstatic 36, 3) := by decide +kernel
theorem dX5_cosine_31 : decode cX5_cosine 31 = .ok (.iload_n 1, 1) := by decide +kernel
theorem dX5_cosine_32 : decode cX5_cosine 32 = .ok (.iaload, 1) := by decide +kernel
theorem dX5_cosine_33 : decode cX5_cosine 33 = .ok (.goto 12, 3) := by decide +kernel
theorem dX5_cosine_36 : decode cX5_cosine 36 = .ok (.getstatic 36, 3) := by decide +kernel
theorem dX5_cosine_39 : decode cX5_cosine 39 = .ok (.bipush 64, 2) := by decide +kernel
theorem dX5_cosine_41 : decode cX5_cosine 41 = .ok (.iload_n 1, 1) := by decide +kernel
theorem dX5_cosine_42 : decode cX5_cosine 42 = .ok (.isub, 1) := by decide +kernel
theorem dX5_cosine_43 : decode cX5_cosine 43 = .ok (.iaload, 1) := by decide +kernel
theorem dX5_cosine_44 : decode cX5_cosine 44 = .ok (.ineg, 1) := by decide +kernel
theorem dX5_cosine_45 : decode cX5_cosine 45 = .ok (.ireturn, 1) := by decide +kernel
theorem dX5_add_0 : decode cX5_add 0 = .ok (.iconst 0, 1) := by decide +kernel
theorem dX5_add_1 : decode cX5_add 1 = .ok (.istore_n 2, 1) := by decide +kernel
theorem dX5_add_2 : decode cX5_add 2 = .ok (.iload_n 2, 1) := by decide +kernel
theorem dX5_add_3 : decode cX5_add 3 = .ok (.aload_n 0, 1) := by decide +kernel
theorem dX5_add_4 : decode cX5_add 4 = .ok (.getfield 15, 3) := by decide +kernel
theorem dX5_add_7 : decode cX5_add 7 = .ok (.arraylength, 1) := by decide +kernel
theorem dX5_add_8 : decode cX5_add 8 = .ok (.if_icmp .ge 73, 3) := by decide +kernel
theorem dX5_add_11 : decode cX5_add 11 = .ok (.iload_n 2, 1) := by decide +kernel
theorem dX5_add_12 : decode cX5_add 12 = .ok (.aload_n 1, 1) := by decide +kernel
theorem dX5_add_13 : decode cX5_add 13 = .ok (.getfield 39, 3) := by decide +kernel
theorem dX5_add_16 : decode cX5_add 16 = .ok (.arraylength, 1) := by decide +kernel
theorem dX5_add_17 : decode cX5_add 17 = .ok (.if_icmp .ge 64, 3) := by decide +kernel
theorem dX5_add_20 : decode cX5_add 20 = .ok (.iload_n 2, 1) := by decide +kernel
theorem dX5_add_21 : decode cX5_add 21 = .ok (.aload_n 1, 1) := by decide +kernel
theorem dX5_add_22 : decode cX5_add 22 = .ok (.getfield 44, 3) := by decide +kernel
theorem dX5_add_25 : decode cX5_add 25 = .ok (.arraylength, 1) := by decide +kernel
theorem dX5_add_26 : decode cX5_add 26 = .ok (.if_icmp .ge 55, 3) := by decide +kernel
theorem dX5_add_29 : decode cX5_add 29 = .ok (.aload_n 1, 1) := by decide +kernel
theorem dX5_add_30 : decode cX5_add 30 = .ok (.getfield 47, 3) := by decide +kernel
theorem dX5_add_33 : decode cX5_add 33 = .ok (.ifCond .eq 7, 3) := by decide +kernel
theorem dX5_add_36 : decode cX5_add 36 = .ok (.lconst 0, 1) := by decide +kernel
theorem dX5_add_37 : decode cX5_add 37 = .ok (.goto 19, 3) := by decide +kernel
theorem dX5_add_40 : decode cX5_add 40 = .ok (.aload_n 0, 1) := by decide +kernel
theorem dX5_add_41 : decode cX5_add 41 = .ok (.getfield 18, 3) := by decide +kernel
theorem dX5_add_44 : decode cX5_add 44 = .ok (.aload_n 1, 1) := by decide +kernel
theorem dX5_add_45 : decode cX5_add 45 = .ok (.getfield 44, 3) := by decide +kernel
theorem dX5_add_48 : decode cX5_add 48 = .ok (.iload_n 2, 1) := by decide +kernel
theorem dX5_add_49 : decode cX5_add 49 = .ok (.iaload, 1) := by decide +kernel
theorem dX5_add_50 : decode cX5_add 50 = .ok (.sipush 255, 3) := by decide +kernel
theorem dX5_add_53 : decode cX5_add 53 = .ok (.iand, 1) := by decide +kernel
theorem dX5_add_54 : decode cX5_add 54 = .ok (.iaload, 1) := by decide +kernel
theorem dX5_add_55 : decode cX5_add 55 = .ok (.i2l, 1) := by decide +kernel
theorem dX5_add_56 : decode cX5_add 56 = .ok (.lstore_n 3, 1) := by decide +kernel
theorem dX5_add_57 : decode cX5_add 57 = .ok (.aload_n 0, 1) := by decide +kernel
theorem dX5_add_58 : decode cX5_add 58 = .ok (.getfield 15, 3) := by decide +kernel
theorem dX5_add_61 : decode cX5_add 61 = .ok (.iload_n 2, 1) := by decide +kernel
theorem dX5_add_62 : decode cX5_add 62 = .ok (.aload_n 1, 1) := by decide +kernel
theorem dX5_add_63 : decode cX5_add 63 = .ok (.getfield 39, 3) := by decide +kernel
theorem dX5_add_66 : decode cX5_add 66 = .ok (.iload_n 2, 1) := by decide +kernel
theorem dX5_add_67 : decode cX5_add 67 = .ok (.iaload, 1) := by decide +kernel
theorem dX5_add_68 : decode cX5_add 68 = .ok (.i2l, 1) := by decide +kernel
theorem dX5_add_69 : decode cX5_add 69 = .ok (.lload_n 3, 1) := by decide +kernel
theorem dX5_add_70 : decode cX5_add 70 = .ok (.lmul, 1) := by decide +kernel
theorem dX5_add_71 : decode cX5_add 71 = .ok (.bipush 8, 2) := by decide +kernel
theorem dX5_add_73 : decode cX5_add 73 = .ok (.lshr, 1) := by decide +kernel
theorem dX5_add_74 : decode cX5_add 74 = .ok (.lastore, 1) := by decide +kernel
theorem dX5_add_75 : decode cX5_add 75 = .ok (.iinc 2 1, 3) := by decide +kernel
theorem dX5_add_78 : decode cX5_add 78 = .ok (.goto (-76), 3) := by decide +kernel
theorem dX5_add_81 : decode cX5_add 81 = .ok (.iconst 0, 1) := by decide +kernel
theorem dX5_add_82 : decode cX5_add 82 = .ok (.istore_n 2, 1) := by decide +kernel
theorem dX5_add_83 : decode cX5_add 83 = .ok (.iload_n 2, 1) := by decide +kernel
theorem dX5_add_84 : decode cX5_add 84 = .ok (.aload_n 0, 1) := by decide +kernel
theorem dX5_add_85 : decode cX5_add 85 = .ok (.getfield 9, 3) := by decide +kernel
theorem dX5_add_88 : decode cX5_add 88 = .ok (.arraylength, 1) := by decide +kernel
theorem dX5_add_89 : decode cX5_add 89 = .ok (.if_icmp .ge 57, 3) := by decide +kernel
theorem dX5_add_92 : decode cX5_add 92 = .ok (.iload_n 2, 1) := by decide +kernel
theorem dX5_add_93 : decode cX5_add 93 = .ok (.bipush 16, 2) := by decide +kernel
theorem dX5_add_95 : decode cX5_add 95 = .ok (.if_icmp .ge 7, 3) := by decide +kernel
theorem dX5_add_98 : decode cX5_add 98 = .ok (.iload_n 2, 1) := by decide +kernel
theorem dX5_add_99 : decode cX5_add 99 = .ok (.goto 7, 3) := by decide +kernel
theorem dX5_add_102 : decode cX5_add 102 = .ok (.bipush 31, 2) := by decide +kernel
theorem dX5_add_104 : decode cX5_add 104 = .ok (.iload_n 2, 1) := by decide +kernel
theorem dX5_add_105 : decode cX5_add 105 = .ok (.isub, 1) := by decide +kernel
theorem dX5_add_106 : decode cX5_add 106 = .ok (.istore_n 3, 1) := by decide +kernel
theorem dX5_add_107 : decode cX5_add 107 = .ok (.iload_n 3, 1) := by decide +kernel
theorem dX5_add_108 : decode cX5_add 108 = .ok (.ifCond .lt 32, 3) := by decide +kernel
theorem dX5_add_111 : decode cX5_add 111 = .ok (.iload_n 3, 1) := by decide +kernel
theorem dX5_add_112 : decode cX5_add 112 = .ok (.getstatic 51, 3) := by decide +kernel
theorem dX5_add_115 : decode cX5_add 115 = .ok (.arraylength, 1) := by decide +kernel
theorem dX5_add_116 : decode cX5_add 116 = .ok (.if_icmp .ge 24, 3) := by decide +kernel
theorem dX5_add_119 : decode cX5_add 119 = .ok (.aload_n 0, 1) := by decide +kernel
theorem dX5_add_120 : decode cX5_add 120 = .ok (.getfield 9, 3) := by decide +kernel
theorem dX5_add_123 : decode cX5_add 123 = .ok (.iload_n 2, 1) := by decide +kernel
theorem dX5_add_124 : decode cX5_add 124 = .ok (.aload_n 0, 1) := by decide +kernel
theorem dX5_add_125 : decode cX5_add 125 = .ok (.iload_n 2, 1) := by decide +kernel
theorem dX5_add_126 : decode cX5_add 126 = .ok (.invokevirtual 54, 3) := by decide +kernel
theorem dX5_add_129 : decode cX5_add 129 = .ok (.getstatic 51, 3) := by decide +kernel
theorem dX5_add_132 : decode cX5_add 132 = .ok (.iload_n 3, 1) := by decide +kernel
theorem dX5_add_133 : decode cX5_add 133 = .ok (.iaload, 1) := by decide +kernel
theorem dX5_add_134 : decode cX5_add 134 = .ok (.i2l, 1) := by decide +kernel
theorem dX5_add_135 : decode cX5_add 135 = .ok (.lmul, 1) := by decide +kernel
theorem dX5_add_136 : decode cX5_add 136 = .ok (.bipush 12, 2) := by decide +kernel
theorem dX5_add_138 : decode cX5_add 138 = .ok (.lshr, 1) := by decide +kernel
theorem dX5_add_139 : decode cX5_add 139 = .ok (.lastore, 1) := by decide +kernel
theorem dX5_add_140 : decode cX5_add 140 = .ok (.iinc 2 1, 3) := by decide +kernel
theorem dX5_add_143 : decode cX5_add 143 = .ok (.goto (-60), 3) := by decide +kernel
theorem dX5_add_146 : decode cX5_add 146 = .ok (.return_, 1) := by decide +kernel
theorem dX5_cosineSum_0 : decode cX5_cosineSum 0 = .ok (.ldc2_w 58, 3) := by decide +kernel
theorem dX5_cosineSum_3 : decode cX5_cosineSum 3 = .ok (.lstore_n 2, 1) := by decide +kernel
theorem dX5_cosineSum_4 : decode cX5_cosineSum 4 = .ok (.iconst 0, 1) := by decide +kernel
theorem dX5_cosineSum_5 : decode cX5_cosineSum 5 = .ok (.istore 4, 2) := by decide +kernel
theorem dX5_cosineSum_7 : decode cX5_cosineSum 7 = .ok (.iload 4, 2) := by decide +kernel
theorem dX5_cosineSum_9 : decode cX5_cosineSum 9 = .ok (.aload_n 0, 1) := by decide +kernel
theorem dX5_cosineSum_10 : decode cX5_cosineSum 10 = .ok (.getfield 15, 3) := by decide +kernel
theorem dX5_cosineSum_13 : decode cX5_cosineSum 13 = .ok (.arraylength, 1) := by decide +kernel
theorem dX5_cosineSum_14 : decode cX5_cosineSum 14 = .ok (.if_icmp .ge 46, 3) := by decide +kernel
theorem dX5_cosineSum_17 : decode cX5_cosineSum 17 = .ok (.iconst 2, 1) := by decide +kernel
theorem dX5_cosineSum_18 : decode cX5_cosineSum 18 = .ok (.iload_n 1, 1) := by decide +kernel
theorem dX5_cosineSum_19 : decode cX5_cosineSum 19 = .ok (.imul, 1) := by decide +kernel
theorem dX5_cosineSum_20 : decode cX5_cosineSum 20 = .ok (.bipush 17, 2) := by decide +kernel
theorem dX5_cosineSum_22 : decode cX5_cosineSum 22 = .ok (.iadd, 1) := by decide +kernel
theorem dX5_cosineSum_23 : decode cX5_cosineSum 23 = .ok (.iconst 2, 1) := by decide +kernel
theorem dX5_cosineSum_24 : decode cX5_cosineSum 24 = .ok (.iload 4, 2) := by decide +kernel
theorem dX5_cosineSum_26 : decode cX5_cosineSum 26 = .ok (.imul, 1) := by decide +kernel
theorem dX5_cosineSum_27 : decode cX5_cosineSum 27 = .ok (.iconst 1, 1) := by decide +kernel
theorem dX5_cosineSum_28 : decode cX5_cosineSum 28 = .ok (.iadd, 1) := by decide +kernel
theorem dX5_cosineSum_29 : decode cX5_cosineSum 29 = .ok (.imul, 1) := by decide +kernel
theorem dX5_cosineSum_30 : decode cX5_cosineSum 30 = .ok (.istore 5, 2) := by decide +kernel
theorem dX5_cosineSum_32 : decode cX5_cosineSum 32 = .ok (.lload_n 2, 1) := by decide +kernel
theorem dX5_cosineSum_33 : decode cX5_cosineSum 33 = .ok (.aload_n 0, 1) := by decide +kernel
theorem dX5_cosineSum_34 : decode cX5_cosineSum 34 = .ok (.getfield 15, 3) := by decide +kernel
theorem dX5_cosineSum_37 : decode cX5_cosineSum 37 = .ok (.iload 4, 2) := by decide +kernel
theorem dX5_cosineSum_39 : decode cX5_cosineSum 39 = .ok (.laload, 1) := by decide +kernel
theorem dX5_cosineSum_40 : decode cX5_cosineSum 40 = .ok (.aload_n 0, 1) := by decide +kernel
theorem dX5_cosineSum_41 : decode cX5_cosineSum 41 = .ok (.getfield 23, 3) := by decide +kernel
theorem dX5_cosineSum_44 : decode cX5_cosineSum 44 = .ok (.iload 5, 2) := by decide +kernel
theorem dX5_cosineSum_46 : decode cX5_cosineSum 46 = .ok (.bipush 127, 2) := by decide +kernel
theorem dX5_cosineSum_48 : decode cX5_cosineSum 48 = .ok (.iand, 1) := by decide +kernel
theorem dX5_cosineSum_49 : decode cX5_cosineSum 49 = .ok (.iaload, 1) := by decide +kernel
theorem dX5_cosineSum_50 : decode cX5_cosineSum 50 = .ok (.i2l, 1) := by decide +kernel
theorem dX5_cosineSum_51 : decode cX5_cosineSum 51 = .ok (.lmul, 1) := by decide +kernel
theorem dX5_cosineSum_52 : decode cX5_cosineSum 52 = .ok (.ladd, 1) := by decide +kernel
theorem dX5_cosineSum_53 : decode cX5_cosineSum 53 = .ok (.lstore_n 2, 1) := by decide +kernel
theorem dX5_cosineSum_54 : decode cX5_cosineSum 54 = .ok (.iinc 4 1, 3) := by decide +kernel
theorem dX5_cosineSum_57 : decode cX5_cosineSum 57 = .ok (.goto (-50), 3) := by decide +kernel
theorem dX5_cosineSum_60 : decode cX5_cosineSum 60 = .ok (.lload_n 2, 1) := by decide +kernel
theorem dX5_cosineSum_61 : decode cX5_cosineSum 61 = .ok (.bipush 12, 2) := by decide +kernel
theorem dX5_cosineSum_63 : decode cX5_cosineSum 63 = .ok (.lshr, 1) := by decide +kernel
theorem dX5_cosineSum_64 : decode cX5_cosineSum 64 = .ok (.lreturn, 1) := by decide +kernel
theorem dX6_init_0 : decode cX6_init 0 = .ok (.aload_n 0, 1) := by decide +kernel
theorem dX6_init_1 : decode cX6_init 1 = .ok (.invokespecial 1, 3) := by decide +kernel
theorem dX6_init_4 : decode cX6_init 4 = .ok (.aload_n 0, 1) := by decide +kernel
theorem dX6_init_5 : decode cX6_init 5 = .ok (.sipush 6000, 3) := by decide +kernel
theorem dX6_init_8 : decode cX6_init 8 = .ok (.newarray .byte, 2) := by decide +kernel
theorem dX6_init_10 : decode cX6_init 10 = .ok (.putfield 9, 3) := by decide +kernel
theorem dX6_init_13 : decode cX6_init 13 = .ok (.aload_n 0, 1) := by decide +kernel
theorem dX6_init_14 : decode cX6_init 14 = .ok (.iconst 0, 1) := by decide +kernel
theorem dX6_init_15 : decode cX6_init 15 = .ok (.putfield 13, 3) := by decide +kernel
theorem dX6_init_18 : decode cX6_init 18 = .ok (.return_, 1) := by decide +kernel
theorem dX6_byteAt_0 : decode cX6_byteAt 0 = .ok (.iload_n 1, 1) := by decide +kernel
theorem dX6_byteAt_1 : decode cX6_byteAt 1 = .ok (.ifCond .lt 33, 3) := by decide +kernel
theorem dX6_byteAt_4 : decode cX6_byteAt 4 = .ok (.iload_n 1, 1) := by decide +kernel
theorem dX6_byteAt_5 : decode cX6_byteAt 5 = .ok (.aload_n 0, 1) := by decide +kernel
theorem dX6_byteAt_6 : decode cX6_byteAt 6 = .ok (.getfield 13, 3) := by decide +kernel
theorem dX6_byteAt_9 : decode cX6_byteAt 9 = .ok (.if_icmp .ge 25, 3) := by decide +kernel
theorem dX6_byteAt_12 : decode cX6_byteAt 12 = .ok (.iload_n 1, 1) := by decide +kernel
theorem dX6_byteAt_13 : decode cX6_byteAt 13 = .ok (.aload_n 0, 1) := by decide +kernel
theorem dX6_byteAt_14 : decode cX6_byteAt 14 = .ok (.getfield 9, 3) := by decide +kernel
theorem dX6_byteAt_17 : decode cX6_byteAt 17 = .ok (.arraylength, 1) := by decide +kernel
theorem dX6_byteAt_18 : decode cX6_byteAt 18 = .ok (.if_icmp .ge 16, 3) := by decide +kernel
theorem dX6_byteAt_21 : decode cX6_byteAt 21 = .ok (.aload_n 0, 1) := by decide +kernel
theorem dX6_byteAt_22 : decode cX6_byteAt 22 = .ok (.getfield 9, 3) := by decide +kernel
theorem dX6_byteAt_25 : decode cX6_byteAt 25 = .ok (.iload_n 1, 1) := by decide +kernel
theorem dX6_byteAt_26 : decode cX6_byteAt 26 = .ok (.baload, 1) := by decide +kernel
theorem dX6_byteAt_27 : decode cX6_byteAt 27 = .ok (.sipush 255, 3) := by decide +kernel
theorem dX6_byteAt_30 : decode cX6_byteAt 30 = .ok (.iand, 1) := by decide +kernel
theorem dX6_byteAt_31 : decode cX6_byteAt 31 = .ok (.goto 4, 3) := by decide +kernel
theorem dX6_byteAt_34 : decode cX6_byteAt 34 = .ok (.iconst 0, 1) := by decide +kernel
theorem dX6_byteAt_35 : decode cX6_byteAt 35 = .ok (.ireturn, 1) := by decide +kernel
theorem dX6_setByte_0 : decode cX6_setByte 0 = .ok (.iload_n 1, 1) := by decide +kernel
theorem dX6_setByte_1 : decode cX6_setByte 1 = .ok (.ifCond .lt 20, 3) := by decide +kernel
theorem dX6_setByte_4 : decode cX6_setByte 4 = .ok (.iload_n 1, 1) := by decide +kernel
theorem dX6_setByte_5 : decode cX6_setByte 5 = .ok (.aload_n 0, 1) := by decide +kernel
theorem dX6_setByte_6 : decode cX6_setByte 6 = .ok (.getfield 9, 3) := by decide +kernel
theorem dX6_setByte_9 : decode cX6_setByte 9 = .ok (.arraylength, 1) := by decide +kernel
theorem dX6_setByte_10 : decode cX6_setByte 10 = .ok (.if_icmp .ge 11, 3) := by decide +kernel
theorem dX6_setByte_13 : decode cX6_setByte 13 = .ok (.aload_n 0, 1) := by decide +kernel
theorem dX6_setByte_14 : decode cX6_setByte 14 = .ok (.getfield 9, 3) := by decide +kernel
theorem dX6_setByte_17 : decode cX6_setByte 17 = .ok (.iload_n 1, 1) := by decide +kernel
theorem dX6_setByte_18 : decode cX6_setByte 18 = .ok (.iload_n 2, 1) := by decide +kernel
theorem dX6_setByte_19 : decode cX6_setByte 19 = .ok (.i2b, 1) := by decide +kernel
theorem dX6_setByte_20 : decode cX6_setByte 20 = .ok (.bastore, 1) := by decide +kernel
theorem dX6_setByte_21 : decode cX6_setByte 21 = .ok (.return_, 1) := by decide +kernel
theorem dX6_putHighestFirst_0 : decode cX6_putHighestFirst 0 = .ok (.bipush 24, 2) := by decide +kernel
theorem dX6_putHighestFirst_2 : decode cX6_putHighestFirst 2 = .ok (.istore_n 2, 1) := by decide +kernel
theorem dX6_putHighestFirst_3 : decode cX6_putHighestFirst 3 = .ok (.iload_n 2, 1) := by decide +kernel
theorem dX6_putHighestFirst_4 : decode cX6_putHighestFirst 4 = .ok (.ifCond .lt 30, 3) := by decide +kernel
theorem dX6_putHighestFirst_7 : decode cX6_putHighestFirst 7 = .ok (.aload_n 0, 1) := by decide +kernel
theorem dX6_putHighestFirst_8 : decode cX6_putHighestFirst 8 = .ok (.aload_n 0, 1) := by decide +kernel
theorem dX6_putHighestFirst_9 : decode cX6_putHighestFirst 9 = .ok (.getfield 13, 3) := by decide +kernel
theorem dX6_putHighestFirst_12 : decode cX6_putHighestFirst 12 = .ok (.iload_n 1, 1) := by decide +kernel
theorem dX6_putHighestFirst_13 : decode cX6_putHighestFirst 13 = .ok (.iload_n 2, 1) := by decide +kernel
theorem dX6_putHighestFirst_14 : decode cX6_putHighestFirst 14 = .ok (.iushr, 1) := by decide +kernel
theorem dX6_putHighestFirst_15 : decode cX6_putHighestFirst 15 = .ok (.invokevirtual 17, 3) := by decide +kernel
theorem dX6_putHighestFirst_18 : decode cX6_putHighestFirst 18 = .ok (.aload_n 0, 1) := by decide +kernel
theorem dX6_putHighestFirst_19 : decode cX6_putHighestFirst 19 = .ok (.dup, 1) := by decide +kernel
theorem dX6_putHighestFirst_20 : decode cX6_putHighestFirst 20 = .ok (.getfield 13, 3) := by decide +kernel
theorem dX6_putHighestFirst_23 : decode cX6_putHighestFirst 23 = .ok (.iconst 1, 1) := by decide +kernel
theorem dX6_putHighestFirst_24 : decode cX6_putHighestFirst 24 = .ok (.iadd, 1) := by decide +kernel
theorem dX6_putHighestFirst_25 : decode cX6_putHighestFirst 25 = .ok (.putfield 13, 3) := by decide +kernel
theorem dX6_putHighestFirst_28 : decode cX6_putHighestFirst 28 = .ok (.iinc 2 (-8), 3) := by decide +kernel
theorem dX6_putHighestFirst_31 : decode cX6_putHighestFirst 31 = .ok (.goto (-28), 3) := by decide +kernel
theorem dX6_putHighestFirst_34 : decode cX6_putHighestFirst 34 = .ok (.return_, 1) := by decide +kernel
theorem dX6_writeFour_0 : decode cX6_writeFour 0 = .ok (.iconst 0, 1) := by decide +kernel
theorem dX6_writeFour_1 : decode cX6_writeFour 1 = .ok (.istore_n 3, 1) := by decide +kernel
theorem dX6_writeFour_2 : decode cX6_writeFour 2 = .ok (.iload_n 3, 1) := by decide +kernel
theorem dX6_writeFour_3 : decode cX6_writeFour 3 = .ok (.iconst 4, 1) := by decide +kernel
theorem dX6_writeFour_4 : decode cX6_writeFour 4 = .ok (.if_icmp .ge 22, 3) := by decide +kernel
theorem dX6_writeFour_7 : decode cX6_writeFour 7 = .ok (.aload_n 0, 1) := by decide +kernel
theorem dX6_writeFour_8 : decode cX6_writeFour 8 = .ok (.iload_n 1, 1) := by decide +kernel
theorem dX6_writeFour_9 : decode cX6_writeFour 9 = .ok (.iload_n 3, 1) := by decide +kernel
theorem dX6_writeFour_10 : decode cX6_writeFour 10 = .ok (.iadd, 1) := by decide +kernel
theorem dX6_writeFour_11 : decode cX6_writeFour 11 = .ok (.iload_n 2, 1) := by decide +kernel
theorem dX6_writeFour_12 : decode cX6_writeFour 12 = .ok (.bipush 8, 2) := by decide +kernel
theorem dX6_writeFour_14 : decode cX6_writeFour 14 = .ok (.iload_n 3, 1) := by decide +kernel
theorem dX6_writeFour_15 : decode cX6_writeFour 15 = .ok (.imul, 1) := by decide +kernel
theorem dX6_writeFour_16 : decode cX6_writeFour 16 = .ok (.iushr, 1) := by decide +kernel
theorem dX6_writeFour_17 : decode cX6_writeFour 17 = .ok (.invokevirtual 17, 3) := by decide +kernel
theorem dX6_writeFour_20 : decode cX6_writeFour 20 = .ok (.iinc 3 1, 3) := by decide +kernel
theorem dX6_writeFour_23 : decode cX6_writeFour 23 = .ok (.goto (-21), 3) := by decide +kernel
theorem dX6_writeFour_26 : decode cX6_writeFour 26 = .ok (.return_, 1) := by decide +kernel
theorem dX6_fourAt_0 : decode cX6_fourAt 0 = .ok (.iconst 0, 1) := by decide +kernel
theorem dX6_fourAt_1 : decode cX6_fourAt 1 = .ok (.istore_n 2, 1) := by decide +kernel
theorem dX6_fourAt_2 : decode cX6_fourAt 2 = .ok (.iconst 3, 1) := by decide +kernel
theorem dX6_fourAt_3 : decode cX6_fourAt 3 = .ok (.istore_n 3, 1) := by decide +kernel
theorem dX6_fourAt_4 : decode cX6_fourAt 4 = .ok (.iload_n 3, 1) := by decide +kernel
theorem dX6_fourAt_5 : decode cX6_fourAt 5 = .ok (.ifCond .lt 22, 3) := by decide +kernel
theorem dX6_fourAt_8 : decode cX6_fourAt 8 = .ok (.iload_n 2, 1) := by decide +kernel
theorem dX6_fourAt_9 : decode cX6_fourAt 9 = .ok (.bipush 8, 2) := by decide +kernel
theorem dX6_fourAt_11 : decode cX6_fourAt 11 = .ok (.ishl, 1) := by decide +kernel
theorem dX6_fourAt_12 : decode cX6_fourAt 12 = .ok (.aload_n 0, 1) := by decide +kernel
theorem dX6_fourAt_13 : decode cX6_fourAt 13 = .ok (.iload_n 1, 1) := by decide +kernel
theorem dX6_fourAt_14 : decode cX6_fourAt 14 = .ok (.iload_n 3, 1) := by decide +kernel
theorem dX6_fourAt_15 : decode cX6_fourAt 15 = .ok (.iadd, 1) := by decide +kernel
theorem dX6_fourAt_16 : decode cX6_fourAt 16 = .ok (.invokevirtual 21, 3) := by decide +kernel
theorem dX6_fourAt_19 : decode cX6_fourAt 19 = .ok (.ior, 1) := by decide +kernel
theorem dX6_fourAt_20 : decode cX6_fourAt 20 = .ok (.istore_n 2, 1) := by decide +kernel
theorem dX6_fourAt_21 : decode cX6_fourAt 21 = .ok (.iinc 3 (-1), 3) := by decide +kernel
theorem dX6_fourAt_24 : decode cX6_fourAt 24 = .ok (.goto (-20), 3) := by decide +kernel
theorem dX6_fourAt_27 : decode cX6_fourAt 27 = .ok (.iload_n 2, 1) := by decide +kernel
theorem dX6_fourAt_28 : decode cX6_fourAt 28 = .ok (.ireturn, 1) := by decide +kernel
theorem dX6_eightAt_0 : decode cX6_eightAt 0 = .ok (.aload_n 0, 1) := by decide +kernel
theorem dX6_eightAt_1 : decode cX6_eightAt 1 = .ok (.iload_n 1, 1) := by decide +kernel
theorem dX6_eightAt_2 : decode cX6_eightAt 2 = .ok (.invokevirtual 25, 3) := by decide +kernel
theorem dX6_eightAt_5 : decode cX6_eightAt 5 = .ok (.i2l, 1) := by decide +kernel
theorem dX6_eightAt_6 : decode cX6_eightAt 6 = .ok (.ldc2_w 28, 3) := by decide +kernel
theorem dX6_eightAt_9 : decode cX6_eightAt 9 = .ok (.land, 1) := by decide +kernel
theorem dX6_eightAt_10 : decode cX6_eightAt 10 = .ok (.lstore_n 2, 1) := by decide +kernel
theorem dX6_eightAt_11 : decode cX6_eightAt 11 = .ok (.aload_n 0, 1) := by decide +kernel
theorem dX6_eightAt_12 : decode cX6_eightAt 12 = .ok (.iload_n 1, 1) := by decide +kernel
theorem dX6_eightAt_13 : decode cX6_eightAt 13 = .ok (.iconst 4, 1) := by decide +kernel
theorem dX6_eightAt_14 : decode cX6_eightAt 14 = .ok (.iadd, 1) := by decide +kernel
theorem dX6_eightAt_15 : decode cX6_eightAt 15 = .ok (.invokevirtual 25, 3) := by decide +kernel
theorem dX6_eightAt_18 : decode cX6_eightAt 18 = .ok (.i2l, 1) := by decide +kernel
theorem dX6_eightAt_19 : decode cX6_eightAt 19 = .ok (.bipush 32, 2) := by decide +kernel
theorem dX6_eightAt_21 : decode cX6_eightAt 21 = .ok (.lshl, 1) := by decide +kernel
theorem dX6_eightAt_22 : decode cX6_eightAt 22 = .ok (.lload_n 2, 1) := by decide +kernel
theorem dX6_eightAt_23 : decode cX6_eightAt 23 = .ok (.lor, 1) := by decide +kernel
theorem dX6_eightAt_24 : decode cX6_eightAt 24 = .ok (.lreturn, 1) := by decide +kernel
theorem dX6_openGap_0 : decode cX6_openGap 0 = .ok (.aload_n 0, 1) := by decide +kernel
theorem dX6_openGap_1 : decode cX6_openGap 1 = .ok (.getfield 13, 3) := by decide +kernel
theorem dX6_openGap_4 : decode cX6_openGap 4 = .ok (.iload_n 1, 1) := by decide +kernel
theorem dX6_openGap_5 : decode cX6_openGap 5 = .ok (.isub, 1) := by decide +kernel
theorem dX6_openGap_6 : decode cX6_openGap 6 = .ok (.istore_n 3, 1) := by decide +kernel
theorem dX6_openGap_7 : decode cX6_openGap 7 = .ok (.iload_n 1, 1) := by decide +kernel
theorem dX6_openGap_8 : decode cX6_openGap 8 = .ok (.ifCond .lt 25, 3) := by decide +kernel
theorem dX6_openGap_11 : decode cX6_openGap 11 = .ok (.iload_n 3, 1) := by decide +kernel
theorem dX6_openGap_12 : decode cX6_openGap 12 = .ok (.ifCond .lt 21, 3) := by decide +kernel
theorem dX6_openGap_15 : decode cX6_openGap 15 = .ok (.iload_n 2, 1) := by decide +kernel
theorem dX6_openGap_16 : decode cX6_openGap 16 = .ok (.ifCond .lt 17, 3) := by decide +kernel
theorem dX6_openGap_19 : decode cX6_openGap 19 = .ok (.aload_n 0, 1) := by decide +kernel
theorem dX6_openGap_20 : decode cX6_openGap 20 = .ok (.getfield 13, 3) := by decide +kernel
theorem dX6_openGap_23 : decode cX6_openGap 23 = .ok (.iload_n 2, 1) := by decide +kernel
theorem dX6_openGap_24 : decode cX6_openGap 24 = .ok (.iadd, 1) := by decide +kernel
theorem dX6_openGap_25 : decode cX6_openGap 25 = .ok (.aload_n 0, 1) := by decide +kernel
theorem dX6_openGap_26 : decode cX6_openGap 26 = .ok (.getfield 9, 3) := by decide +kernel
theorem dX6_openGap_29 : decode cX6_openGap 29 = .ok (.arraylength, 1) := by decide +kernel
theorem dX6_openGap_30 : decode cX6_openGap 30 = .ok (.if_icmp .le 4, 3) := by decide +kernel
theorem dX6_openGap_33 : decode cX6_openGap 33 = .ok (.return_, 1) := by decide +kernel
theorem dX6_openGap_34 : decode cX6_openGap 34 = .ok (.aload_n 0, 1) := by decide +kernel
theorem dX6_openGap_35 : decode cX6_openGap 35 = .ok (.getfield 9, 3) := by decide +kernel
theorem dX6_openGap_38 : decode cX6_openGap 38 = .ok (.iload_n 1, 1) := by decide +kernel
theorem dX6_openGap_39 : decode cX6_openGap 39 = .ok (.aload_n 0, 1) := by decide +kernel
theorem dX6_openGap_40 : decode cX6_openGap 40 = .ok (.getfield 9, 3) := by decide +kernel
theorem dX6_openGap_43 : decode cX6_openGap 43 = .ok (.iload_n 1, 1) := by decide +kernel
theorem dX6_openGap_44 : decode cX6_openGap 44 = .ok (.iload_n 2, 1) := by decide +kernel
theorem dX6_openGap_45 : decode cX6_openGap 45 = .ok (.iadd, 1) := by decide +kernel
theorem dX6_openGap_46 : decode cX6_openGap 46 = .ok (.iload_n 3, 1) := by decide +kernel
theorem dX6_openGap_47 : decode cX6_openGap 47 = .ok (.invokestatic 30, 3) := by decide +kernel
theorem dX6_openGap_50 : decode cX6_openGap 50 = .ok (.aload_n 0, 1) := by decide +kernel
theorem dX6_openGap_51 : decode cX6_openGap 51 = .ok (.dup, 1) := by decide +kernel
theorem dX6_openGap_52 : decode cX6_openGap 52 = .ok (.getfield 13, 3) := by decide +kernel
theorem dX6_openGap_55 : decode cX6_openGap 55 = .ok (.iload_n 2, 1) := by decide +kernel
theorem dX6_openGap_56 : decode cX6_openGap 56 = .ok (.iadd, 1) := by decide +kernel
theorem dX6_openGap_57 : decode cX6_openGap 57 = .ok (.putfield 13, 3) := by decide +kernel
theorem dX6_openGap_60 : decode cX6_openGap 60 = .ok (.return_, 1) := by decide +kernel
theorem dX6_moveBack_0 : decode cX6_moveBack 0 = .ok (.iload_n 1, 1) := by decide +kernel
theorem dX6_moveBack_1 : decode cX6_moveBack 1 = .ok (.ifCond .lt 33, 3) := by decide +kernel
theorem dX6_moveBack_4 : decode cX6_moveBack 4 = .ok (.iload_n 2, 1) := by decide +kernel
theorem dX6_moveBack_5 : decode cX6_moveBack 5 = .ok (.ifCond .lt 29, 3) := by decide +kernel
theorem dX6_moveBack_8 : decode cX6_moveBack 8 = .ok (.iload_n 3, 1) := by decide +kernel
theorem dX6_moveBack_9 : decode cX6_moveBack 9 = .ok (.ifCond .lt 25, 3) := by decide +kernel
theorem dX6_moveBack_12 : decode cX6_moveBack 12 = .ok (.iload_n 1, 1) := by decide +kernel
theorem dX6_moveBack_13 : decode cX6_moveBack 13 = .ok (.iload_n 3, 1) := by decide +kernel
theorem dX6_moveBack_14 : decode cX6_moveBack 14 = .ok (.iadd, 1) := by decide +kernel
theorem dX6_moveBack_15 : decode cX6_moveBack 15 = .ok (.aload_n 0, 1) := by decide +kernel
theorem dX6_moveBack_16 : decode cX6_moveBack 16 = .ok (.getfield 9, 3) := by decide +kernel
theorem dX6_moveBack_19 : decode cX6_moveBack 19 = .ok (.arraylength, 1) := by decide +kernel
theorem dX6_moveBack_20 : decode cX6_moveBack 20 = .ok (.if_icmp .gt 14, 3) := by decide +kernel
theorem dX6_moveBack_23 : decode cX6_moveBack 23 = .ok (.iload_n 2, 1) := by decide +kernel
theorem dX6_moveBack_24 : decode cX6_moveBack 24 = .ok (.iload_n 3, 1) := by decide +kernel
theorem dX6_moveBack_25 : decode cX6_moveBack 25 = .ok (.iadd, 1) := by decide +kernel
theorem dX6_moveBack_26 : decode cX6_moveBack 26 = .ok (.aload_n 0, 1) := by decide +kernel
theorem dX6_moveBack_27 : decode cX6_moveBack 27 = .ok (.getfield 9, 3) := by decide +kernel
theorem dX6_moveBack_30 : decode cX6_moveBack 30 = .ok (.arraylength, 1) := by decide +kernel
theorem dX6_moveBack_31 : decode cX6_moveBack 31 = .ok (.if_icmp .le 4, 3) := by decide +kernel
theorem dX6_moveBack_34 : decode cX6_moveBack 34 = .ok (.return_, 1) := by decide +kernel
theorem dX6_moveBack_35 : decode cX6_moveBack 35 = .ok (.aload_n 0, 1) := by decide +kernel
theorem dX6_moveBack_36 : decode cX6_moveBack 36 = .ok (.getfield 9, 3) := by decide +kernel
theorem dX6_moveBack_39 : decode cX6_moveBack 39 = .ok (.iload_n 1, 1) := by decide +kernel
theorem dX6_moveBack_40 : decode cX6_moveBack 40 = .ok (.aload_n 0, 1) := by decide +kernel
theorem dX6_moveBack_41 : decode cX6_moveBack 41 = .ok (.getfield 9, 3) := by decide +kernel
theorem dX6_moveBack_44 : decode cX6_moveBack 44 = .ok (.iload_n 2, 1) := by decide +kernel
theorem dX6_moveBack_45 : decode cX6_moveBack 45 = .ok (.iload_n 3, 1) := by decide +kernel
theorem dX6_moveBack_46 : decode cX6_moveBack 46 = .ok (.invokestatic 30, 3) := by decide +kernel
theorem dX6_moveBack_49 : decode cX6_moveBack 49 = .ok (.return_, 1) := by decide +kernel
theorem dX6_writeHead_0 : decode cX6_writeHead 0 = .ok (.aload_n 0, 1) := by decide +kernel
theorem dX6_writeHead_1 : decode cX6_writeHead 1 = .ok (.iload_n 1, 1) := by decide +kernel
theorem dX6_writeHead_2 : decode cX6_writeHead 2 = .ok (.bipush 79, 2) := by decide +kernel
theorem dX6_writeHead_4 : decode cX6_writeHead 4 = .ok (.invokevirtual 17, 3) := by decide +kernel
theorem dX6_writeHead_7 : decode cX6_writeHead 7 = .ok (.aload_n 0, 1) := by decide +kernel
theorem dX6_writeHead_8 : decode cX6_writeHead 8 = .ok (.iload_n 1, 1) := by decide +kernel
theorem dX6_writeHead_9 : decode cX6_writeHead 9 = .ok (.iconst 1, 1) := by decide +kernel
theorem dX6_writeHead_10 : decode cX6_writeHead 10 = .ok (.iadd, 1) := by decide +kernel
theorem dX6_writeHead_11 : decode cX6_writeHead 11 = .ok (.bipush 103, 2) := by decide +kernel
theorem dX6_writeHead_13 : decode cX6_writeHead 13 = .ok (.invokevirtual 17, 3) := by decide +kernel
theorem dX6_writeHead_16 : decode cX6_writeHead 16 = .ok (.aload_n 0, 1) := by decide +kernel
theorem dX6_writeHead_17 : decode cX6_writeHead 17 = .ok (.iload_n 1, 1) := by decide +kernel
theorem dX6_writeHead_18 : decode cX6_writeHead 18 = .ok (.iconst 2, 1) := by decide +kernel
theorem dX6_writeHead_19 : decode cX6_writeHead 19 = .ok (.iadd, 1) := by decide +kernel
theorem dX6_writeHead_20 : decode cX6_writeHead 20 = .ok (.bipush 103, 2) := by decide +kernel
theorem dX6_writeHead_22 : decode cX6_writeHead 22 = .ok (.invokevirtual 17, 3) := by decide +kernel
theorem dX6_writeHead_25 : decode cX6_writeHead 25 = .ok (.aload_n 0, 1) := by decide +kernel
theorem dX6_writeHead_26 : decode cX6_writeHead 26 = .ok (.iload_n 1, 1) := by decide +kernel
theorem dX6_writeHead_27 : decode cX6_writeHead 27 = .ok (.iconst 3, 1) := by decide +kernel
theorem dX6_writeHead_28 : decode cX6_writeHead 28 = .ok (.iadd, 1) := by decide +kernel
theorem dX6_writeHead_29 : decode cX6_writeHead 29 = .ok (.bipush 83, 2) := by decide +kernel
theorem dX6_writeHead_31 : decode cX6_writeHead 31 = .ok (.invokevirtual 17, 3) := by decide +kernel
theorem dX6_writeHead_34 : decode cX6_writeHead 34 = .ok (.aload_n 0, 1) := by decide +kernel
theorem dX6_writeHead_35 : decode cX6_writeHead 35 = .ok (.iload_n 1, 1) := by decide +kernel
theorem dX6_writeHead_36 : decode cX6_writeHead 36 = .ok (.iconst 4, 1) := by decide +kernel
theorem dX6_writeHead_37 : decode cX6_writeHead 37 = .ok (.iadd, 1) := by decide +kernel
theorem dX6_writeHead_38 : decode cX6_writeHead 38 = .ok (.iconst 0, 1) := by decide +kernel
theorem dX6_writeHead_39 : decode cX6_writeHead 39 = .ok (.invokevirtual 17, 3) := by decide +kernel
theorem dX6_writeHead_42 : decode cX6_writeHead 42 = .ok (.aload_n 0, 1) := by decide +kernel
theorem dX6_writeHead_43 : decode cX6_writeHead 43 = .ok (.iload_n 1, 1) := by decide +kernel
theorem dX6_writeHead_44 : decode cX6_writeHead 44 = .ok (.iconst 5, 1) := by decide +kernel
theorem dX6_writeHead_45 : decode cX6_writeHead 45 = .ok (.iadd, 1) := by decide +kernel
theorem dX6_writeHead_46 : decode cX6_writeHead 46 = .ok (.iload_n 2, 1) := by decide +kernel
theorem dX6_writeHead_47 : decode cX6_writeHead 47 = .ok (.invokevirtual 17, 3) := by decide +kernel
theorem dX6_writeHead_50 : decode cX6_writeHead 50 = .ok (.aload_n 0, 1) := by decide +kernel
theorem dX6_writeHead_51 : decode cX6_writeHead 51 = .ok (.iload_n 1, 1) := by decide +kernel
theorem dX6_writeHead_52 : decode cX6_writeHead 52 = .ok (.bipush 6, 2) := by decide +kernel
theorem dX6_writeHead_54 : decode cX6_writeHead 54 = .ok (.iadd, 1) := by decide +kernel
theorem dX6_writeHead_55 : decode cX6_writeHead 55 = .ok (.lload_n 3, 1) := by decide +kernel
theorem dX6_writeHead_56 : decode cX6_writeHead 56 = .ok (.l2i, 1) := by decide +kernel
theorem dX6_writeHead_57 : decode cX6_writeHead 57 = .ok (.invokevirtual 36, 3) := by decide +kernel
theorem dX6_writeHead_60 : decode cX6_writeHead 60 = .ok (.aload_n 0, 1) := by decide +kernel
theorem dX6_writeHead_61 : decode cX6_writeHead 61 = .ok (.iload_n 1, 1) := by decide +kernel
theorem dX6_writeHead_62 : decode cX6_writeHead 62 = .ok (.bipush 6, 2) := by decide +kernel
theorem dX6_writeHead_64 : decode cX6_writeHead 64 = .ok (.iadd, 1) := by decide +kernel
theorem dX6_writeHead_65 : decode cX6_writeHead 65 = .ok (.iconst 4, 1) := by decide +kernel
theorem dX6_writeHead_66 : decode cX6_writeHead 66 = .ok (.iadd, 1) := by decide +kernel
theorem dX6_writeHead_67 : decode cX6_writeHead 67 = .ok (.lload_n 3, 1) := by decide +kernel
theorem dX6_writeHead_68 : decode cX6_writeHead 68 = .ok (.bipush 32, 2) := by decide +kernel
theorem dX6_writeHead_70 : decode cX6_writeHead 70 = .ok (.lushr, 1) := by decide +kernel
theorem dX6_writeHead_71 : decode cX6_writeHead 71 = .ok (.l2i, 1) := by decide +kernel
theorem dX6_writeHead_72 : decode cX6_writeHead 72 = .ok (.invokevirtual 36, 3) := by decide +kernel
theorem dX6_writeHead_75 : decode cX6_writeHead 75 = .ok (.aload_n 0, 1) := by decide +kernel
theorem dX6_writeHead_76 : decode cX6_writeHead 76 = .ok (.iload_n 1, 1) := by decide +kernel
theorem dX6_writeHead_77 : decode cX6_writeHead 77 = .ok (.bipush 14, 2) := by decide +kernel
theorem dX6_writeHead_79 : decode cX6_writeHead 79 = .ok (.iadd, 1) := by decide +kernel
theorem dX6_writeHead_80 : decode cX6_writeHead 80 = .ok (.iload 5, 2) := by decide +kernel
theorem dX6_writeHead_82 : decode cX6_writeHead 82 = .ok (.invokevirtual 36, 3) := by decide +kernel
theorem dX6_writeHead_85 : decode cX6_writeHead 85 = .ok (.aload_n 0, 1) := by decide +kernel
theorem dX6_writeHead_86 : decode cX6_writeHead 86 = .ok (.iload_n 1, 1) := by decide +kernel
theorem dX6_writeHead_87 : decode cX6_writeHead 87 = .ok (.bipush 18, 2) := by decide +kernel
theorem dX6_writeHead_89 : decode cX6_writeHead 89 = .ok (.iadd, 1) := by decide +kernel
theorem dX6_writeHead_90 : decode cX6_writeHead 90 = .ok (.iload 6, 2) := by decide +kernel
theorem dX6_writeHead_92 : decode cX6_writeHead 92 = .ok (.invokevirtual 36, 3) := by decide +kernel
theorem dX6_writeHead_95 : decode cX6_writeHead 95 = .ok (.aload_n 0, 1) := by decide +kernel
theorem dX6_writeHead_96 : decode cX6_writeHead 96 = .ok (.iload_n 1, 1) := by decide +kernel
theorem dX6_writeHead_97 : decode cX6_writeHead 97 = .ok (.bipush 22, 2) := by decide +kernel
theorem dX6_writeHead_99 : decode cX6_writeHead 99 = .ok (.iadd, 1) := by decide +kernel
theorem dX6_writeHead_100 : decode cX6_writeHead 100 = .ok (.iconst 0, 1) := by decide +kernel
theorem dX6_writeHead_101 : decode cX6_writeHead 101 = .ok (.invokevirtual 36, 3) := by decide +kernel
theorem dX6_writeHead_104 : decode cX6_writeHead 104 = .ok (.return_, 1) := by decide +kernel
theorem dX6_writeLaces_0 : decode cX6_writeLaces 0 = .ok (.aload_n 0, 1) := by decide +kernel
theorem dX6_writeLaces_1 : decode cX6_writeLaces 1 = .ok (.iload_n 1, 1) := by decide +kernel
theorem dX6_writeLaces_2 : decode cX6_writeLaces 2 = .ok (.bipush 26, 2) := by decide +kernel
theorem dX6_writeLaces_4 : decode cX6_writeLaces 4 = .ok (.iadd, 1) := by decide +kernel
theorem dX6_writeLaces_5 : decode cX6_writeLaces 5 = .ok (.iload_n 2, 1) := by decide +kernel
theorem dX6_writeLaces_6 : decode cX6_writeLaces 6 = .ok (.invokevirtual 17, 3) := by decide +kernel
theorem dX6_writeLaces_9 : decode cX6_writeLaces 9 = .ok (.iconst 0, 1) := by decide +kernel
theorem dX6_writeLaces_10 : decode cX6_writeLaces 10 = .ok (.istore 4, 2) := by decide +kernel
theorem dX6_writeLaces_12 : decode cX6_writeLaces 12 = .ok (.iload 4, 2) := by decide +kernel
theorem dX6_writeLaces_14 : decode cX6_writeLaces 14 = .ok (.iload_n 2, 1) := by decide +kernel
theorem dX6_writeLaces_15 : decode cX6_writeLaces 15 = .ok (.if_icmp .ge 35, 3) := by decide +kernel
theorem dX6_writeLaces_18 : decode cX6_writeLaces 18 = .ok (.aload_n 0, 1) := by decide +kernel
theorem dX6_writeLaces_19 : decode cX6_writeLaces 19 = .ok (.iload_n 1, 1) := by decide +kernel
theorem dX6_writeLaces_20 : decode cX6_writeLaces 20 = .ok (.bipush 27, 2) := by decide +kernel
theorem dX6_writeLaces_22 : decode cX6_writeLaces 22 = .ok (.iadd, 1) := by decide +kernel
theorem dX6_writeLaces_23 : decode cX6_writeLaces 23 = .ok (.iload 4, 2) := by decide +kernel
theorem dX6_writeLaces_25 : decode cX6_writeLaces 25 = .ok (.iadd, 1) := by decide +kernel
theorem dX6_writeLaces_26 : decode cX6_writeLaces 26 = .ok (.iload 4, 2) := by decide +kernel
theorem dX6_writeLaces_28 : decode cX6_writeLaces 28 = .ok (.iload_n 2, 1) := by decide +kernel
theorem dX6_writeLaces_29 : decode cX6_writeLaces 29 = .ok (.iconst 1, 1) := by decide +kernel
theorem dX6_writeLaces_30 : decode cX6_writeLaces 30 = .ok (.isub, 1) := by decide +kernel
theorem dX6_writeLaces_31 : decode cX6_writeLaces 31 = .ok (.if_icmp .ne 7, 3) := by decide +kernel
theorem dX6_writeLaces_34 : decode cX6_writeLaces 34 = .ok (.iload_n 3, 1) := by decide +kernel
theorem dX6_writeLaces_35 : decode cX6_writeLaces 35 = .ok (.goto 6, 3) := by decide +kernel
theorem dX6_writeLaces_38 : decode cX6_writeLaces 38 = .ok (.sipush 255, 3) := by decide +kernel
theorem dX6_writeLaces_41 : decode cX6_writeLaces 41 = .ok (.invokevirtual 17, 3) := by decide +kernel
theorem dX6_writeLaces_44 : decode cX6_writeLaces 44 = .ok (.iinc 4 1, 3) := by decide +kernel
theorem dX6_writeLaces_47 : decode cX6_writeLaces 47 = .ok (.goto (-35), 3) := by decide +kernel
theorem dX6_writeLaces_50 : decode cX6_writeLaces 50 = .ok (.return_, 1) := by decide +kernel
theorem dX6_rightPageAt_0 : decode cX6_rightPageAt 0 = .ok (.aload_n 0, 1) := by decide +kernel
theorem dX6_rightPageAt_1 : decode cX6_rightPageAt 1 = .ok (.iload_n 1, 1) := by decide +kernel
theorem dX6_rightPageAt_2 : decode cX6_rightPageAt 2 = .ok (.invokevirtual 39, 3) := by decide +kernel
theorem dX6_rightPageAt_5 : decode cX6_rightPageAt 5 = .ok (.ifCond .eq 14, 3) := by decide +kernel
theorem dX6_rightPageAt_8 : decode cX6_rightPageAt 8 = .ok (.iload_n 1, 1) := by decide +kernel
theorem dX6_rightPageAt_9 : decode cX6_rightPageAt 9 = .ok (.bipush 27, 2) := by decide +kernel
theorem dX6_rightPageAt_11 : decode cX6_rightPageAt 11 = .ok (.iadd, 1) := by decide +kernel
theorem dX6_rightPageAt_12 : decode cX6_rightPageAt 12 = .ok (.aload_n 0, 1) := by decide +kernel
theorem dX6_rightPageAt_13 : decode cX6_rightPageAt 13 = .ok (.getfield 13, 3) := by decide +kernel
theorem dX6_rightPageAt_16 : decode cX6_rightPageAt 16 = .ok (.if_icmp .le 5, 3) := by decide +kernel
theorem dX6_rightPageAt_19 : decode cX6_rightPageAt 19 = .ok (.iconst 0, 1) := by decide +kernel
theorem dX6_rightPageAt_20 : decode cX6_rightPageAt 20 = .ok (.ireturn, 1) := by decide +kernel
theorem dX6_rightPageAt_21 : decode cX6_rightPageAt 21 = .ok (.aload_n 0, 1) := by decide +kernel
theorem dX6_rightPageAt_22 : decode cX6_rightPageAt 22 = .ok (.iload_n 1, 1) := by decide +kernel
theorem dX6_rightPageAt_23 : decode cX6_rightPageAt 23 = .ok (.bipush 26, 2) := by decide +kernel
theorem dX6_rightPageAt_25 : decode cX6_rightPageAt 25 = .ok (.iadd, 1) := by decide +kernel
theorem dX6_rightPageAt_26 : decode cX6_rightPageAt 26 = .ok (.invokevirtual 21, 3) := by decide +kernel
theorem dX6_rightPageAt_29 : decode cX6_rightPageAt 29 = .ok (.istore_n 2, 1) := by decide +kernel
theorem dX6_rightPageAt_30 : decode cX6_rightPageAt 30 = .ok (.bipush 27, 2) := by decide +kernel
theorem dX6_rightPageAt_32 : decode cX6_rightPageAt 32 = .ok (.iload_n 2, 1) := by decide +kernel
theorem dX6_rightPageAt_33 : decode cX6_rightPageAt 33 = .ok (.iadd, 1) := by decide +kernel
theorem dX6_rightPageAt_34 : decode cX6_rightPageAt 34 = .ok (.istore_n 3, 1) := by decide +kernel
theorem dX6_rightPageAt_35 : decode cX6_rightPageAt 35 = .ok (.iload_n 1, 1) := by decide +kernel
theorem dX6_rightPageAt_36 : decode cX6_rightPageAt 36 = .ok (.iload_n 3, 1) := by decide +kernel
theorem dX6_rightPageAt_37 : decode cX6_rightPageAt 37 = .ok (.iadd, 1) := by decide +kernel
theorem dX6_rightPageAt_38 : decode cX6_rightPageAt 38 = .ok (.aload_n 0, 1) := by decide +kernel
theorem dX6_rightPageAt_39 : decode cX6_rightPageAt 39 = .ok (.getfield 13, 3) := by decide +kernel
theorem dX6_rightPageAt_42 : decode cX6_rightPageAt 42 = .ok (.if_icmp .le 5, 3) := by decide +kernel
theorem dX6_rightPageAt_45 : decode cX6_rightPageAt 45 = .ok (.iconst 0, 1) := by decide +kernel
theorem dX6_rightPageAt_46 : decode cX6_rightPageAt 46 = .ok (.ireturn, 1) := by decide +kernel
theorem dX6_rightPageAt_47 : decode cX6_rightPageAt 47 = .ok (.iconst 0, 1) := by decide +kernel
theorem dX6_rightPageAt_48 : decode cX6_rightPageAt 48 = .ok (.istore 4, 2) := by decide +kernel
theorem dX6_rightPageAt_50 : decode cX6_rightPageAt 50 = .ok (.iload 4, 2) := by decide +kernel
theorem dX6_rightPageAt_52 : decode cX6_rightPageAt 52 = .ok (.iload_n 2, 1) := by decide +kernel
theorem dX6_rightPageAt_53 : decode cX6_rightPageAt 53 = .ok (.if_icmp .ge 23, 3) := by decide +kernel
theorem dX6_rightPageAt_56 : decode cX6_rightPageAt 56 = .ok (.iload_n 3, 1) := by decide +kernel
theorem dX6_rightPageAt_57 : decode cX6_rightPageAt 57 = .ok (.aload_n 0, 1) := by decide +kernel
theorem dX6_rightPageAt_58 : decode cX6_rightPageAt 58 = .ok (.iload_n 1, 1) := by decide +kernel
theorem dX6_rightPageAt_59 : decode cX6_rightPageAt 59 = .ok (.bipush 27, 2) := by decide +kernel
theorem dX6_rightPageAt_61 : decode cX6_rightPageAt 61 = .ok (.iadd, 1) := by decide +kernel
theorem dX6_rightPageAt_62 : decode cX6_rightPageAt 62 = .ok (.iload 4, 2) := by decide +kernel
theorem dX6_rightPageAt_64 : decode cX6_rightPageAt 64 = .ok (.iadd, 1) := by decide +kernel
theorem dX6_rightPageAt_65 : decode cX6_rightPageAt 65 = .ok (.invokevirtual 21, 3) := by decide +kernel
theorem dX6_rightPageAt_68 : decode cX6_rightPageAt 68 = .ok (.iadd, 1) := by decide +kernel
theorem dX6_rightPageAt_69 : decode cX6_rightPageAt 69 = .ok (.istore_n 3, 1) := by decide +kernel
theorem dX6_rightPageAt_70 : decode cX6_rightPageAt 70 = .ok (.iinc 4 1, 3) := by decide +kernel
theorem dX6_rightPageAt_73 : decode cX6_rightPageAt 73 = .ok (.goto (-23), 3) := by decide +kernel
theorem dX6_rightPageAt_76 : decode cX6_rightPageAt 76 = .ok (.iload_n 1, 1) := by decide +kernel
theorem dX6_rightPageAt_77 : decode cX6_rightPageAt 77 = .ok (.iload_n 3, 1) := by decide +kernel
theorem dX6_rightPageAt_78 : decode cX6_rightPageAt 78 = .ok (.iadd, 1) := by decide +kernel
theorem dX6_rightPageAt_79 : decode cX6_rightPageAt 79 = .ok (.aload_n 0, 1) := by decide +kernel
theorem dX6_rightPageAt_80 : decode cX6_rightPageAt 80 = .ok (.getfield 13, 3) := by decide +kernel
theorem dX6_rightPageAt_83 : decode cX6_rightPageAt 83 = .ok (.if_icmp .gt 22, 3) := by decide +kernel
theorem dX6_rightPageAt_86 : decode cX6_rightPageAt 86 = .ok (.aload_n 0, 1) := by decide +kernel
theorem dX6_rightPageAt_87 : decode cX6_rightPageAt 87 = .ok (.iload_n 1, 1) := by decide +kernel
theorem dX6_rightPageAt_88 : decode cX6_rightPageAt 88 = .ok (.iload_n 1, 1) := by decide +kernel
theorem dX6_rightPageAt_89 : decode cX6_rightPageAt 89 = .ok (.iload_n 3, 1) := by decide +kernel
theorem dX6_rightPageAt_90 : decode cX6_rightPageAt 90 = .ok (.iadd, 1) := by decide +kernel
theorem dX6_rightPageAt_91 : decode cX6_rightPageAt 91 = .ok (.invokevirtual 43, 3) := by decide +kernel
theorem dX6_rightPageAt_94 : decode cX6_rightPageAt 94 = .ok (.aload_n 0, 1) := by decide +kernel
theorem dX6_rightPageAt_95 : decode cX6_rightPageAt 95 = .ok (.iload_n 1, 1) := by decide +kernel
theorem dX6_rightPageAt_96 : decode cX6_rightPageAt 96 = .ok (.bipush 22, 2) := by decide +kernel
theorem dX6_rightPageAt_98 : decode cX6_rightPageAt 98 = .ok (.iadd, 1) := by decide +kernel
theorem dX6_rightPageAt_99 : decode cX6_rightPageAt 99 = .ok (.invokevirtual 25, 3) := by decide +kernel
theorem dX6_rightPageAt_102 : decode cX6_rightPageAt 102 = .ok (.if_icmp .eq 5, 3) := by decide +kernel
theorem dX6_rightPageAt_105 : decode cX6_rightPageAt 105 = .ok (.iconst 0, 1) := by decide +kernel
theorem dX6_rightPageAt_106 : decode cX6_rightPageAt 106 = .ok (.ireturn, 1) := by decide +kernel
theorem dX6_rightPageAt_107 : decode cX6_rightPageAt 107 = .ok (.iload_n 3, 1) := by decide +kernel
theorem dX6_rightPageAt_108 : decode cX6_rightPageAt 108 = .ok (.ireturn, 1) := by decide +kernel
theorem dX6_hasMarkAt_0 : decode cX6_hasMarkAt 0 = .ok (.aload_n 0, 1) := by decide +kernel
theorem dX6_hasMarkAt_1 : decode cX6_hasMarkAt 1 = .ok (.iload_n 1, 1) := by decide +kernel
theorem dX6_hasMarkAt_2 : decode cX6_hasMarkAt 2 = .ok (.invokevirtual 21, 3) := by decide +kernel
theorem dX6_hasMarkAt_5 : decode cX6_hasMarkAt 5 = .ok (.bipush 79, 2) := by decide +kernel
theorem dX6_hasMarkAt_7 : decode cX6_hasMarkAt 7 = .ok (.if_icmp .ne 53, 3) := by decide +kernel
theorem dX6_hasMarkAt_10 : decode cX6_hasMarkAt 10 = .ok (.aload_n 0, 1) := by decide +kernel
theorem dX6_hasMarkAt_11 : decode cX6_hasMarkAt 11 = .ok (.iload_n 1, 1) := by decide +kernel
theorem dX6_hasMarkAt_12 : decode cX6_hasMarkAt 12 = .ok (.iconst 1, 1) := by decide +kernel
theorem dX6_hasMarkAt_13 : decode cX6_hasMarkAt 13 = .ok (.iadd, 1) := by decide +kernel
theorem dX6_hasMarkAt_14 : decode cX6_hasMarkAt 14 = .ok (.invokevirtual 21, 3) := by decide +kernel
theorem dX6_hasMarkAt_17 : decode cX6_hasMarkAt 17 = .ok (.bipush 103, 2) := by decide +kernel
theorem dX6_hasMarkAt_19 : decode cX6_hasMarkAt 19 = .ok (.if_icmp .ne 41, 3) := by decide +kernel
theorem dX6_hasMarkAt_22 : decode cX6_hasMarkAt 22 = .ok (.aload_n 0, 1) := by decide +kernel
theorem dX6_hasMarkAt_23 : decode cX6_hasMarkAt 23 = .ok (.iload_n 1, 1) := by decide +kernel
theorem dX6_hasMarkAt_24 : decode cX6_hasMarkAt 24 = .ok (.iconst 2, 1) := by decide +kernel
theorem dX6_hasMarkAt_25 : decode cX6_hasMarkAt 25 = .ok (.iadd, 1) := by decide +kernel
theorem dX6_hasMarkAt_26 : decode cX6_hasMarkAt 26 = .ok (.invokevirtual 21, 3) := by decide +kernel
theorem dX6_hasMarkAt_29 : decode cX6_hasMarkAt 29 = .ok (.bipush 103, 2) := by decide +kernel
theorem dX6_hasMarkAt_31 : decode cX6_hasMarkAt 31 = .ok (.if_icmp .ne 29, 3) := by decide +kernel
theorem dX6_hasMarkAt_34 : decode cX6_hasMarkAt 34 = .ok (.aload_n 0, 1) := by decide +kernel
theorem dX6_hasMarkAt_35 : decode cX6_hasMarkAt 35 = .ok (.iload_n 1, 1) := by decide +kernel
theorem dX6_hasMarkAt_36 : decode cX6_hasMarkAt 36 = .ok (.iconst 3, 1) := by decide +kernel
theorem dX6_hasMarkAt_37 : decode cX6_hasMarkAt 37 = .ok (.iadd, 1) := by decide +kernel
theorem dX6_hasMarkAt_38 : decode cX6_hasMarkAt 38 = .ok (.invokevirtual 21, 3) := by decide +kernel
theorem dX6_hasMarkAt_41 : decode cX6_hasMarkAt 41 = .ok (.bipush 83, 2) := by decide +kernel
theorem dX6_hasMarkAt_43 : decode cX6_hasMarkAt 43 = .ok (.if_icmp .ne 17, 3) := by decide +kernel
theorem dX6_hasMarkAt_46 : decode cX6_hasMarkAt 46 = .ok (.aload_n 0, 1) := by decide +kernel
theorem dX6_hasMarkAt_47 : decode cX6_hasMarkAt 47 = .ok (.iload_n 1, 1) := by decide +kernel
theorem dX6_hasMarkAt_48 : decode cX6_hasMarkAt 48 = .ok (.iconst 4, 1) := by decide +kernel
theorem dX6_hasMarkAt_49 : decode cX6_hasMarkAt 49 = .ok (.iadd, 1) := by decide +kernel
theorem dX6_hasMarkAt_50 : decode cX6_hasMarkAt 50 = .ok (.invokevirtual 21, 3) := by decide +kernel
theorem dX6_hasMarkAt_53 : decode cX6_hasMarkAt 53 = .ok (.ifCond .ne 7, 3) := by decide +kernel
theorem dX6_hasMarkAt_56 : decode cX6_hasMarkAt 56 = .ok (.iconst 1, 1) := by decide +kernel
theorem dX6_hasMarkAt_57 : decode cX6_hasMarkAt 57 = .ok (.goto 4, 3) := by decide +kernel
theorem dX6_hasMarkAt_60 : decode cX6_hasMarkAt 60 = .ok (.iconst 0, 1) := by decide +kernel
theorem dX6_hasMarkAt_61 : decode cX6_hasMarkAt 61 = .ok (.ireturn, 1) := by decide +kernel
theorem dX6_crc_0 : decode cX6_crc 0 = .ok (.aload_n 0, 1) := by decide +kernel
theorem dX6_crc_1 : decode cX6_crc 1 = .ok (.iconst 0, 1) := by decide +kernel
theorem dX6_crc_2 : decode cX6_crc 2 = .ok (.iload_n 1, 1) := by decide +kernel
theorem dX6_crc_3 : decode cX6_crc 3 = .ok (.iload_n 1, 1) := by decide +kernel
theorem dX6_crc_4 : decode cX6_crc 4 = .ok (.bipush 22, 2) := by decide +kernel
theorem dX6_crc_6 : decode cX6_crc 6 = .ok (.iadd, 1) := by decide +kernel
theorem dX6_crc_7 : decode cX6_crc 7 = .ok (.invokevirtual 47, 3) := by decide +kernel
theorem dX6_crc_10 : decode cX6_crc 10 = .ok (.istore_n 3, 1) := by decide +kernel
theorem dX6_crc_11 : decode cX6_crc 11 = .ok (.iconst 0, 1) := by decide +kernel
theorem dX6_crc_12 : decode cX6_crc 12 = .ok (.istore 4, 2) := by decide +kernel
theorem dX6_crc_14 : decode cX6_crc 14 = .ok (.iload 4, 2) := by decide +kernel
theorem dX6_crc_16 : decode cX6_crc 16 = .ok (.iconst 4, 1) := by decide +kernel
theorem dX6_crc_17 : decode cX6_crc 17 = .ok (.if_icmp .ge 14, 3) := by decide +kernel
theorem dX6_crc_20 : decode cX6_crc 20 = .ok (.iload_n 3, 1) := by decide +kernel
theorem dX6_crc_21 : decode cX6_crc 21 = .ok (.invokestatic 51, 3) := by decide +kernel
theorem dX6_crc_24 : decode cX6_crc 24 = .ok (.istore_n 3, 1) := by decide +kernel
theorem dX6_crc_25 : decode cX6_crc 25 = .ok (.iinc 4 1, 3) := by decide +kernel
theorem dX6_crc_28 : decode cX6_crc 28 = .ok (.goto (-14), 3) := by decide +kernel
theorem dX6_crc_31 : decode cX6_crc 31 = .ok (.aload_n 0, 1) := by decide +kernel
theorem dX6_crc_32 : decode cX6_crc 32 = .ok (.iload_n 3, 1) := by decide +kernel
theorem dX6_crc_33 : decode cX6_crc 33 = .ok (.iload_n 1, 1) := by decide +kernel
theorem dX6_crc_34 : decode cX6_crc 34 = .ok (.bipush 22, 2) := by decide +kernel
theorem dX6_crc_36 : decode cX6_crc 36 = .ok (.iadd, 1) := by decide +kernel
theorem dX6_crc_37 : decode cX6_crc 37 = .ok (.iconst 4, 1) := by decide +kernel
theorem dX6_crc_38 : decode cX6_crc 38 = .ok (.iadd, 1) := by decide +kernel
theorem dX6_crc_39 : decode cX6_crc 39 = .ok (.iload_n 2, 1) := by decide +kernel
theorem dX6_crc_40 : decode cX6_crc 40 = .ok (.invokevirtual 47, 3) := by decide +kernel
theorem dX6_crc_43 : decode cX6_crc 43 = .ok (.ireturn, 1) := by decide +kernel
theorem dX6_crcOn_0 : decode cX6_crcOn 0 = .ok (.iload_n 1, 1) := by decide +kernel
theorem dX6_crcOn_1 : decode cX6_crcOn 1 = .ok (.istore 4, 2) := by decide +kernel
theorem dX6_crcOn_3 : decode cX6_crcOn 3 = .ok (.iconst 0, 1) := by decide +kernel
theorem dX6_crcOn_4 : decode cX6_crcOn 4 = .ok (.iload_n 2, 1) := by decide +kernel
theorem dX6_crcOn_5 : decode cX6_crcOn 5 = .ok (.invokestatic 54, 3) := by decide +kernel
theorem dX6_crcOn_8 : decode cX6_crcOn 8 = .ok (.istore 5, 2) := by decide +kernel
theorem dX6_crcOn_10 : decode cX6_crcOn 10 = .ok (.iload 5, 2) := by decide +kernel
theorem dX6_crcOn_12 : decode cX6_crcOn 12 = .ok (.iload_n 3, 1) := by decide +kernel
theorem dX6_crcOn_13 : decode cX6_crcOn 13 = .ok (.if_icmp .ge 37, 3) := by decide +kernel
theorem dX6_crcOn_16 : decode cX6_crcOn 16 = .ok (.iload 5, 2) := by decide +kernel
theorem dX6_crcOn_18 : decode cX6_crcOn 18 = .ok (.aload_n 0, 1) := by decide +kernel
theorem dX6_crcOn_19 : decode cX6_crcOn 19 = .ok (.getfield 9, 3) := by decide +kernel
theorem dX6_crcOn_22 : decode cX6_crcOn 22 = .ok (.arraylength, 1) := by decide +kernel
theorem dX6_crcOn_23 : decode cX6_crcOn 23 = .ok (.if_icmp .ge 27, 3) := by decide +kernel
theorem dX6_crcOn_26 : decode cX6_crcOn 26 = .ok (.iload 4, 2) := by decide +kernel
theorem dX6_crcOn_28 : decode cX6_crcOn 28 = .ok (.aload_n 0, 1) := by decide +kernel
theorem dX6_crcOn_29 : decode cX6_crcOn 29 = .ok (.getfield 9, 3) := by decide +kernel
theorem dX6_crcOn_32 : decode cX6_crcOn 32 = .ok (.iload 5, 2) := by decide +kernel
theorem dX6_crcOn_34 : decode cX6_crcOn 34 = .ok (.baload, 1) := by decide +kernel
theorem dX6_crcOn_35 : decode cX6_crcOn 35 = .ok (.bipush 24, 2) := by decide +kernel
theorem dX6_crcOn_37 : decode cX6_crcOn 37 = .ok (.ishl, 1) := by decide +kernel
theorem dX6_crcOn_38 : decode cX6_crcOn 38 = .ok (.ixor, 1) := by decide +kernel
theorem dX6_crcOn_39 : decode cX6_crcOn 39 = .ok (.invokestatic 51, 3) := by decide +kernel
theorem dX6_crcOn_42 : decode cX6_crcOn 42 = .ok (.istore 4, 2) := by decide +kernel
theorem dX6_crcOn_44 : decode cX6_crcOn 44 = .ok (.iinc 5 1, 3) := by decide +kernel
theorem dX6_crcOn_47 : decode cX6_crcOn 47 = .ok (.goto (-37), 3) := by decide +kernel
theorem dX6_crcOn_50 : decode cX6_crcOn 50 = .ok (.iload 4, 2) := by decide +kernel
theorem dX6_crcOn_52 : decode cX6_crcOn 52 = .ok (.ireturn, 1) := by decide +kernel
theorem dX6_turned_0 : decode cX6_turned 0 = .ok (.iload_n 0, 1) := by decide +kernel
theorem dX6_turned_1 : decode cX6_turned 1 = .ok (.iconst 4, 1) := by decide +kernel
theorem dX6_turned_2 : decode cX6_turned 2 = .ok (.ishl, 1) := by decide +kernel
theorem dX6_turned_3 : decode cX6_turned 3 = .ok (.getstatic 59, 3) := by decide +kernel
theorem dX6_turned_6 : decode cX6_turned 6 = .ok (.iload_n 0, 1) := by decide +kernel
theorem dX6_turned_7 : decode cX6_turned 7 = .ok (.bipush 28, 2) := by decide +kernel
theorem dX6_turned_9 : decode cX6_turned 9 = .ok (.iushr, 1) := by decide +kernel
theorem dX6_turned_10 : decode cX6_turned 10 = .ok (.iaload, 1) := by decide +kernel
theorem dX6_turned_11 : decode cX6_turned 11 = .ok (.ixor, 1) := by decide +kernel
theorem dX6_turned_12 : decode cX6_turned 12 = .ok (.istore_n 1, 1) := by decide +kernel
theorem dX6_turned_13 : decode cX6_turned 13 = .ok (.iload_n 1, 1) := by decide +kernel
theorem dX6_turned_14 : decode cX6_turned 14 = .ok (.iconst 4, 1) := by decide +kernel
theorem dX6_turned_15 : decode cX6_turned 15 = .ok (.ishl, 1) := by decide +kernel
theorem dX6_turned_16 : decode cX6_turned 16 = .ok (.getstatic 59, 3) := by decide +kernel
theorem dX6_turned_19 : decode cX6_turned 19 = .ok (.iload_n 1, 1) := by decide +kernel
theorem dX6_turned_20 : decode cX6_turned 20 = .ok (.bipush 28, 2) := by decide +kernel
theorem dX6_turned_22 : decode cX6_turned 22 = .ok (.iushr, 1) := by decide +kernel
theorem dX6_turned_23 : decode cX6_turned 23 = .ok (.iaload, 1) := by decide +kernel
theorem dX6_turned_24 : decode cX6_turned 24 = .ok (.ixor, 1) := by decide +kernel
theorem dX6_turned_25 : decode cX6_turned 25 = .ok (.ireturn, 1) := by decide +kernel
theorem dX7_init_0 : decode cX7_init 0 = .ok (.aload_n 0, 1) := by decide +kernel
theorem dX7_init_1 : decode cX7_init 1 = .ok (.invokespecial 3, 3) := by decide +kernel
theorem dX7_init_4 : decode cX7_init 4 = .ok (.aload_n 0, 1) := by decide +kernel
theorem dX7_init_5 : decode cX7_init 5 = .ok (.iconst 1, 1) := by decide +kernel
theorem dX7_init_6 : decode cX7_init 6 = .ok (.putfield 9, 3) := by decide +kernel
theorem dX7_init_9 : decode cX7_init 9 = .ok (.aload_n 0, 1) := by decide +kernel
theorem dX7_init_10 : decode cX7_init 10 = .ok (.bipush 16, 2) := by decide +kernel
theorem dX7_init_12 : decode cX7_init 12 = .ok (.newarray .int, 2) := by decide +kernel
theorem dX7_init_14 : decode cX7_init 14 = .ok (.putfield 15, 3) := by decide +kernel
theorem dX7_init_17 : decode cX7_init 17 = .ok (.aload_n 0, 1) := by decide +kernel
theorem dX7_init_18 : decode cX7_init 18 = .ok (.bipush 16, 2) := by decide +kernel
theorem dX7_init_20 : decode cX7_init 20 = .ok (.newarray .int, 2) := by decide +kernel
theorem dX7_init_22 : decode cX7_init 22 = .ok (.putfield 19, 3) := by decide +kernel
theorem dX7_init_25 : decode cX7_init 25 = .ok (.aload_n 0, 1) := by decide +kernel
theorem dX7_init_26 : decode cX7_init 26 = .ok (.bipush 16, 2) := by decide +kernel
theorem dX7_init_28 : decode cX7_init 28 = .ok (.newarray .long, 2) := by decide +kernel
theorem dX7_init_30 : decode cX7_init 30 = .ok (.putfield 22, 3) := by decide +kernel
theorem dX7_init_33 : decode cX7_init 33 = .ok (.aload_n 0, 1) := by decide +kernel
theorem dX7_init_34 : decode cX7_init 34 = .ok (.sipush 928, 3) := by decide +kernel
theorem dX7_init_37 : decode cX7_init 37 = .ok (.newarray .int, 2) := by decide +kernel
theorem dX7_init_39 : decode cX7_init 39 = .ok (.putfield 28, 3) := by decide +kernel
theorem dX7_init_42 : decode cX7_init 42 = .ok (.return_, 1) := by decide +kernel
theorem dX7_clearNumbers_0 : decode cX7_clearNumbers 0 = .ok (.iconst 0, 1) := by decide +kernel
theorem dX7_clearNumbers_1 : decode cX7_clearNumbers 1 = .ok (.istore_n 1, 1) := by decide +kernel
theorem dX7_clearNumbers_2 : decode cX7_clearNumbers 2 = .ok (.iload_n 1, 1) := by decide +kernel
theorem dX7_clearNumbers_3 : decode cX7_clearNumbers 3 = .ok (.aload_n 0, 1) := by decide +kernel
theorem dX7_clearNumbers_4 : decode cX7_clearNumbers 4 = .ok (.getfield 19, 3) := by decide +kernel
theorem dX7_clearNumbers_7 : decode cX7_clearNumbers 7 = .ok (.arraylength, 1) := by decide +kernel
theorem dX7_clearNumbers_8 : decode cX7_clearNumbers 8 = .ok (.if_icmp .ge 16, 3) := by decide +kernel
theorem dX7_clearNumbers_11 : decode cX7_clearNumbers 11 = .ok (.aload_n 0, 1) := by decide +kernel
theorem dX7_clearNumbers_12 : decode cX7_clearNumbers 12 = .ok (.getfield 19, 3) := by decide +kernel
theorem dX7_clearNumbers_15 : decode cX7_clearNumbers 15 = .ok (.iload_n 1, 1) := by decide +kernel
theorem dX7_clearNumbers_16 : decode cX7_clearNumbers 16 = .ok (.iconst 0, 1) := by decide +kernel
theorem dX7_clearNumbers_17 : decode cX7_clearNumbers 17 = .ok (.iastore, 1) := by decide +kernel
theorem dX7_clearNumbers_18 : decode cX7_clearNumbers 18 = .ok (.iinc 1 1, 3) := by decide +kernel
theorem dX7_clearNumbers_21 : decode cX7_clearNumbers 21 = .ok (.goto (-19), 3) := by decide +kernel
theorem dX7_clearNumbers_24 : decode cX7_clearNumbers 24 = .ok (.return_, 1) := by decide +kernel
theorem dX7_sampleAt_0 : decode cX7_sampleAt 0 = .ok (.iload_n 1, 1) := by decide +kernel
theorem dX7_sampleAt_1 : decode cX7_sampleAt 1 = .ok (.ifCond .lt 21, 3) := by decide +kernel
theorem dX7_sampleAt_4 : decode cX7_sampleAt 4 = .ok (.iload_n 1, 1) := by decide +kernel
theorem dX7_sampleAt_5 : decode cX7_sampleAt 5 = .ok (.aload_n 0, 1) := by decide +kernel
theorem dX7_sampleAt_6 : decode cX7_sampleAt 6 = .ok (.getfield 28, 3) := by decide +kernel
theorem dX7_sampleAt_9 : decode cX7_sampleAt 9 = .ok (.arraylength, 1) := by decide +kernel
theorem dX7_sampleAt_10 : decode cX7_sampleAt 10 = .ok (.if_icmp .ge 12, 3) := by decide +kernel
theorem dX7_sampleAt_13 : decode cX7_sampleAt 13 = .ok (.aload_n 0, 1) := by decide +kernel
theorem dX7_sampleAt_14 : decode cX7_sampleAt 14 = .ok (.getfield 28, 3) := by decide +kernel
theorem dX7_sampleAt_17 : decode cX7_sampleAt 17 = .ok (.iload_n 1, 1) := by decide +kernel
theorem dX7_sampleAt_18 : decode cX7_sampleAt 18 = .ok (.iaload, 1) := by decide +kernel
theorem dX7_sampleAt_19 : decode cX7_sampleAt 19 = .ok (.goto 4, 3) := by decide +kernel
theorem dX7_sampleAt_22 : decode cX7_sampleAt 22 = .ok (.iconst 0, 1) := by decide +kernel
theorem dX7_sampleAt_23 : decode cX7_sampleAt 23 = .ok (.ireturn, 1) := by decide +kernel
theorem dX7_putSamples_0 : decode cX7_putSamples 0 = .ok (.iconst 0, 1) := by decide +kernel
theorem dX7_putSamples_1 : decode cX7_putSamples 1 = .ok (.istore_n 3, 1) := by decide +kernel
theorem dX7_putSamples_2 : decode cX7_putSamples 2 = .ok (.iload_n 3, 1) := by decide +kernel
theorem dX7_putSamples_3 : decode cX7_putSamples 3 = .ok (.aload_n 0, 1) := by decide +kernel
theorem dX7_putSamples_4 : decode cX7_putSamples 4 = .ok (.getfield 22, 3) := by decide +kernel
theorem dX7_putSamples_7 : decode cX7_putSamples 7 = .ok (.arraylength, 1) := by decide +kernel
theorem dX7_putSamples_8 : decode cX7_putSamples 8 = .ok (.if_icmp .ge 72, 3) := by decide +kernel
theorem dX7_putSamples_11 : decode cX7_putSamples 11 = .ok (.iload_n 3, 1) := by decide +kernel
theorem dX7_putSamples_12 : decode cX7_putSamples 12 = .ok (.aload_n 2, 1) := by decide +kernel
theorem dX7_putSamples_13 : decode cX7_putSamples 13 = .ok (.arraylength, 1) := by decide +kernel
theorem dX7_putSamples_14 : decode cX7_putSamples 14 = .ok (.if_icmp .ge 66, 3) := by decide +kernel
theorem dX7_putSamples_17 : decode cX7_putSamples 17 = .ok (.aload_n 0, 1) := by decide +kernel
theorem dX7_putSamples_18 : decode cX7_putSamples 18 = .ok (.getfield 22, 3) := by decide +kernel
theorem dX7_putSamples_21 : decode cX7_putSamples 21 = .ok (.iload_n 3, 1) := by decide +kernel
theorem dX7_putSamples_22 : decode cX7_putSamples 22 = .ok (.laload, 1) := by decide +kernel
theorem dX7_putSamples_23 : decode cX7_putSamples 23 = .ok (.aload_n 2, 1) := by decide +kernel
theorem dX7_putSamples_24 : decode cX7_putSamples 24 = .ok (.iload_n 3, 1) := by decide +kernel
theorem dX7_putSamples_25 : decode cX7_putSamples 25 = .ok (.laload, 1) := by decide +kernel
theorem dX7_putSamples_26 : decode cX7_putSamples 26 = .ok (.ladd, 1) := by decide +kernel
theorem dX7_putSamples_27 : decode cX7_putSamples 27 = .ok (.bipush 8, 2) := by decide +kernel
theorem dX7_putSamples_29 : decode cX7_putSamples 29 = .ok (.lshr, 1) := by decide +kernel
theorem dX7_putSamples_30 : decode cX7_putSamples 30 = .ok (.lstore 4, 2) := by decide +kernel
theorem dX7_putSamples_32 : decode cX7_putSamples 32 = .ok (.iload_n 1, 1) := by decide +kernel
theorem dX7_putSamples_33 : decode cX7_putSamples 33 = .ok (.iload_n 3, 1) := by decide +kernel
theorem dX7_putSamples_34 : decode cX7_putSamples 34 = .ok (.iadd, 1) := by decide +kernel
theorem dX7_putSamples_35 : decode cX7_putSamples 35 = .ok (.istore 6, 2) := by decide +kernel
theorem dX7_putSamples_37 : decode cX7_putSamples 37 = .ok (.iload 6, 2) := by decide +kernel
theorem dX7_putSamples_39 : decode cX7_putSamples 39 = .ok (.ifCond .lt 35, 3) := by decide +kernel
theorem dX7_putSamples_42 : decode cX7_putSamples 42 = .ok (.iload 6, 2) := by decide +kernel
theorem dX7_putSamples_44 : decode cX7_putSamples 44 = .ok (.aload_n 0, 1) := by decide +kernel
theorem dX7_putSamples_45 : decode cX7_putSamples 45 = .ok (.getfield 28, 3) := by decide +kernel
theorem dX7_putSamples_48 : decode cX7_putSamples 48 = .ok (.arraylength, 1) := by decide +kernel
theorem dX7_putSamples_49 : decode cX7_putSamples 49 = .ok (.if_icmp .ge 25, 3) := by decide +kernel
theorem dX7_putSamples_52 : decode cX7_putSamples 52 = .ok (.aload_n 0, 1) := by decide +kernel
theorem dX7_putSamples_53 : decode cX7_putSamples 53 = .ok (.getfield 28, 3) := by decide +kernel
theorem dX7_putSamples_56 : decode cX7_putSamples 56 = .ok (.iload 6, 2) := by decide +kernel
theorem dX7_putSamples_58 : decode cX7_putSamples 58 = .ok (.ldc2_w 31, 3) := by decide +kernel
theorem dX7_putSamples_61 : decode cX7_putSamples 61 = .ok (.ldc2_w 33, 3) := by decide +kernel
theorem dX7_putSamples_64 : decode cX7_putSamples 64 = .ok (.lload 4, 2) := by decide +kernel
theorem dX7_putSamples_66 : decode cX7_putSamples 66 = .ok (.invokestatic 35, 3) := by decide +kernel
theorem dX7_putSamples_69 : decode cX7_putSamples 69 = .ok (.invokestatic 41, 3) := by decide +kernel
theorem dX7_putSamples_72 : decode cX7_putSamples 72 = .ok (.l2i, 1) := by decide +kernel
theorem dX7_putSamples_73 : decode cX7_putSamples 73 = .ok (.iastore, 1) := by decide +kernel
theorem dX7_putSamples_74 : decode cX7_putSamples 74 = .ok (.iinc 3 1, 3) := by decide +kernel
theorem dX7_putSamples_77 : decode cX7_putSamples 77 = .ok (.goto (-75), 3) := by decide +kernel
theorem dX7_putSamples_80 : decode cX7_putSamples 80 = .ok (.return_, 1) := by decide +kernel
theorem dX7_keepSecondHalf_0 : decode cX7_keepSecondHalf 0 = .ok (.iconst 0, 1) := by decide +kernel
theorem dX7_keepSecondHalf_1 : decode cX7_keepSecondHalf 1 = .ok (.istore_n 2, 1) := by decide +kernel
theorem dX7_keepSecondHalf_2 : decode cX7_keepSecondHalf 2 = .ok (.iload_n 2, 1) := by decide +kernel
theorem dX7_keepSecondHalf_3 : decode cX7_keepSecondHalf 3 = .ok (.aload_n 0, 1) := by decide +kernel
theorem dX7_keepSecondHalf_4 : decode cX7_keepSecondHalf 4 = .ok (.getfield 22, 3) := by decide +kernel
theorem dX7_keepSecondHalf_7 : decode cX7_keepSecondHalf 7 = .ok (.arraylength, 1) := by decide +kernel
theorem dX7_keepSecondHalf_8 : decode cX7_keepSecondHalf 8 = .ok (.if_icmp .ge 30, 3) := by decide +kernel
theorem dX7_keepSecondHalf_11 : decode cX7_keepSecondHalf 11 = .ok (.bipush 16, 2) := by decide +kernel
theorem dX7_keepSecondHalf_13 : decode cX7_keepSecondHalf 13 = .ok (.iload_n 2, 1) := by decide +kernel
theorem dX7_keepSecondHalf_14 : decode cX7_keepSecondHalf 14 = .ok (.iadd, 1) := by decide +kernel
theorem dX7_keepSecondHalf_15 : decode cX7_keepSecondHalf 15 = .ok (.aload_n 1, 1) := by decide +kernel
theorem dX7_keepSecondHalf_16 : decode cX7_keepSecondHalf 16 = .ok (.arraylength, 1) := by decide +kernel
theorem dX7_keepSecondHalf_17 : decode cX7_keepSecondHalf 17 = .ok (.if_icmp .ge 21, 3) := by decide +kernel
theorem dX7_keepSecondHalf_20 : decode cX7_keepSecondHalf 20 = .ok (.aload_n 0, 1) := by decide +kernel
theorem dX7_keepSecondHalf_21 : decode cX7_keepSecondHalf 21 = .ok (.getfield 22, 3) := by decide +kernel
theorem dX7_keepSecondHalf_24 : decode cX7_keepSecondHalf 24 = .ok (.iload_n 2, 1) := by decide +kernel
theorem dX7_keepSecondHalf_25 : decode cX7_keepSecondHalf 25 = .ok (.aload_n 1, 1) := by decide +kernel
theorem dX7_keepSecondHalf_26 : decode cX7_keepSecondHalf 26 = .ok (.bipush 16, 2) := by decide +kernel
theorem dX7_keepSecondHalf_28 : decode cX7_keepSecondHalf 28 = .ok (.iload_n 2, 1) := by decide +kernel
theorem dX7_keepSecondHalf_29 : decode cX7_keepSecondHalf 29 = .ok (.iadd, 1) := by decide +kernel
theorem dX7_keepSecondHalf_30 : decode cX7_keepSecondHalf 30 = .ok (.laload, 1) := by decide +kernel
theorem dX7_keepSecondHalf_31 : decode cX7_keepSecondHalf 31 = .ok (.lastore, 1) := by decide +kernel
theorem dX7_keepSecondHalf_32 : decode cX7_keepSecondHalf 32 = .ok (.iinc 2 1, 3) := by decide +kernel
theorem dX7_keepSecondHalf_35 : decode cX7_keepSecondHalf 35 = .ok (.goto (-33), 3) := by decide +kernel
theorem dX7_keepSecondHalf_38 : decode cX7_keepSecondHalf 38 = .ok (.return_, 1) := by decide +kernel
theorem dX8_init_0 : decode cX8_init 0 = .ok (.aload_n 0, 1) := by decide +kernel
theorem dX8_init_1 : decode cX8_init 1 = .ok (.invokespecial 1, 3) := by decide +kernel
theorem dX8_init_4 : decode cX8_init 4 = .ok (.aload_n 0, 1) := by decide +kernel
theorem dX8_init_5 : decode cX8_init 5 = .ok (.new 7, 3) := by decide +kernel
theorem dX8_init_8 : decode cX8_init 8 = .ok (.dup, 1) := by decide +kernel
theorem dX8_init_9 : decode cX8_init 9 = .ok (.invokespecial 9, 3) := by decide +kernel
theorem dX8_init_12 : decode cX8_init 12 = .ok (.putfield 10, 3) := by decide +kernel
theorem dX8_init_15 : decode cX8_init 15 = .ok (.aload_n 0, 1) := by decide +kernel
theorem dX8_init_16 : decode cX8_init 16 = .ok (.new 16, 3) := by decide +kernel
theorem dX8_init_19 : decode cX8_init 19 = .ok (.dup, 1) := by decide +kernel
theorem dX8_init_20 : decode cX8_init 20 = .ok (.invokespecial 18, 3) := by decide +kernel
theorem dX8_init_23 : decode cX8_init 23 = .ok (.putfield 19, 3) := by decide +kernel
theorem dX8_init_26 : decode cX8_init 26 = .ok (.aload_n 0, 1) := by decide +kernel
theorem dX8_init_27 : decode cX8_init 27 = .ok (.new 23, 3) := by decide +kernel
theorem dX8_init_30 : decode cX8_init 30 = .ok (.dup, 1) := by decide +kernel
theorem dX8_init_31 : decode cX8_init 31 = .ok (.invokespecial 25, 3) := by decide +kernel
theorem dX8_init_34 : decode cX8_init 34 = .ok (.putfield 26, 3) := by decide +kernel
theorem dX8_init_37 : decode cX8_init 37 = .ok (.aload_n 0, 1) := by decide +kernel
theorem dX8_init_38 : decode cX8_init 38 = .ok (.new 30, 3) := by decide +kernel
theorem dX8_init_41 : decode cX8_init 41 = .ok (.dup, 1) := by decide +kernel
theorem dX8_init_42 : decode cX8_init 42 = .ok (.invokespecial 32, 3) := by decide +kernel
theorem dX8_init_45 : decode cX8_init 45 = .ok (.putfield 33, 3) := by decide +kernel
theorem dX8_init_48 : decode cX8_init 48 = .ok (.aload_n 0, 1) := by decide +kernel
theorem dX8_init_49 : decode cX8_init 49 = .ok (.new 37, 3) := by decide +kernel
theorem dX8_init_52 : decode cX8_init 52 = .ok (.dup, 1) := by decide +kernel
theorem dX8_init_53 : decode cX8_init 53 = .ok (.invokespecial 39, 3) := by decide +kernel
theorem dX8_init_56 : decode cX8_init 56 = .ok (.putfield 40, 3) := by decide +kernel
theorem dX8_init_59 : decode cX8_init 59 = .ok (.aload_n 0, 1) := by decide +kernel
theorem dX8_init_60 : decode cX8_init 60 = .ok (.new 44, 3) := by decide +kernel
theorem dX8_init_63 : decode cX8_init 63 = .ok (.dup, 1) := by decide +kernel
theorem dX8_init_64 : decode cX8_init 64 = .ok (.invokespecial 46, 3) := by decide +kernel
theorem dX8_init_67 : decode cX8_init 67 = .ok (.putfield 47, 3) := by decide +kernel
theorem dX8_init_70 : decode cX8_init 70 = .ok (.aload_n 0, 1) := by decide +kernel
theorem dX8_init_71 : decode cX8_init 71 = .ok (.iconst 2, 1) := by decide +kernel
theorem dX8_init_72 : decode cX8_init 72 = .ok (.anewarray 51, 3) := by decide +kernel
theorem dX8_init_75 : decode cX8_init 75 = .ok (.putfield 53, 3) := by decide +kernel
theorem dX8_init_78 : decode cX8_init 78 = .ok (.iconst 0, 1) := by decide +kernel
theorem dX8_init_79 : decode cX8_init 79 = .ok (.istore_n 1, 1) := by decide +kernel
theorem dX8_init_80 : decode cX8_init 80 = .ok (.iload_n 1, 1) := by decide +kernel
theorem dX8_init_81 : decode cX8_init 81 = .ok (.aload_n 0, 1) := by decide +kernel
theorem dX8_init_82 : decode cX8_init 82 = .ok (.getfield 53, 3) := by decide +kernel
theorem dX8_init_85 : decode cX8_init 85 = .ok (.arraylength, 1) := by decide +kernel
theorem dX8_init_86 : decode cX8_init 86 = .ok (.if_icmp .ge 22, 3) := by decide +kernel
theorem dX8_init_89 : decode cX8_init 89 = .ok (.aload_n 0, 1) := by decide +kernel
theorem dX8_init_90 : decode cX8_init 90 = .ok (.getfield 53, 3) := by decide +kernel
theorem dX8_init_93 : decode cX8_init 93 = .ok (.iload_n 1, 1) := by decide +kernel
theorem dX8_init_94 : decode cX8_init 94 = .ok (.new 51, 3) := by decide +kernel
theorem dX8_init_97 : decode cX8_init 97 = .ok (.dup, 1) := by decide +kernel
theorem dX8_init_98 : decode cX8_init 98 = .ok (.invokespecial 57, 3) := by decide +kernel
theorem dX8_init_101 : decode cX8_init 101 = .ok (.aastore, 1) := by decide +kernel
theorem dX8_init_102 : decode cX8_init 102 = .ok (.iinc 1 1, 3) := by decide +kernel
theorem dX8_init_105 : decode cX8_init 105 = .ok (.goto (-25), 3) := by decide +kernel
theorem dX8_init_108 : decode cX8_init 108 = .ok (.aload_n 0, 1) := by decide +kernel
theorem dX8_init_109 : decode cX8_init 109 = .ok (.iconst 0, 1) := by decide +kernel
theorem dX8_init_110 : decode cX8_init 110 = .ok (.putfield 58, 3) := by decide +kernel
theorem dX8_init_113 : decode cX8_init 113 = .ok (.aload_n 0, 1) := by decide +kernel
theorem dX8_init_114 : decode cX8_init 114 = .ok (.iconst 0, 1) := by decide +kernel
theorem dX8_init_115 : decode cX8_init 115 = .ok (.putfield 62, 3) := by decide +kernel
theorem dX8_init_118 : decode cX8_init 118 = .ok (.aload_n 0, 1) := by decide +kernel
theorem dX8_init_119 : decode cX8_init 119 = .ok (.iconst 0, 1) := by decide +kernel
theorem dX8_init_120 : decode cX8_init 120 = .ok (.putfield 65, 3) := by decide +kernel
theorem dX8_init_123 : decode cX8_init 123 = .ok (.aload_n 0, 1) := by decide +kernel
theorem dX8_init_124 : decode cX8_init 124 = .ok (.iconst 0, 1) := by decide +kernel
theorem dX8_init_125 : decode cX8_init 125 = .ok (.putfield 68, 3) := by decide +kernel
theorem dX8_init_128 : decode cX8_init 128 = .ok (.return_, 1) := by decide +kernel
theorem dX8_feed_0 : decode cX8_feed 0 = .ok (.aload_n 0, 1) := by decide +kernel
theorem dX8_feed_1 : decode cX8_feed 1 = .ok (.getfield 10, 3) := by decide +kernel
theorem dX8_feed_4 : decode cX8_feed 4 = .ok (.getfield 71, 3) := by decide +kernel
theorem dX8_feed_7 : decode cX8_feed 7 = .ok (.bipush 20, 2) := by decide +kernel
theorem dX8_feed_9 : decode cX8_feed 9 = .ok (.iadd, 1) := by decide +kernel
theorem dX8_feed_10 : decode cX8_feed 10 = .ok (.sipush 6000, 3) := by decide +kernel
theorem dX8_feed_13 : decode cX8_feed 13 = .ok (.if_icmp .le 5, 3) := by decide +kernel
theorem dX8_feed_16 : decode cX8_feed 16 = .ok (.iconst (-1), 1) := by decide +kernel
theorem dX8_feed_17 : decode cX8_feed 17 = .ok (.ireturn, 1) := by decide +kernel
theorem dX8_feed_18 : decode cX8_feed 18 = .ok (.aload_n 0, 1) := by decide +kernel
theorem dX8_feed_19 : decode cX8_feed 19 = .ok (.getfield 10, 3) := by decide +kernel
theorem dX8_feed_22 : decode cX8_feed 22 = .ok (.iload_n 1, 1) := by decide +kernel
theorem dX8_feed_23 : decode cX8_feed 23 = .ok (.invokevirtual 74, 3) := by decide +kernel
theorem dX8_feed_26 : decode cX8_feed 26 = .ok (.aload_n 0, 1) := by decide +kernel
theorem dX8_feed_27 : decode cX8_feed 27 = .ok (.getfield 10, 3) := by decide +kernel
theorem dX8_feed_30 : decode cX8_feed 30 = .ok (.iload_n 2, 1) := by decide +kernel
theorem dX8_feed_31 : decode cX8_feed 31 = .ok (.invokevirtual 74, 3) := by decide +kernel
theorem dX8_feed_34 : decode cX8_feed 34 = .ok (.aload_n 0, 1) := by decide +kernel
theorem dX8_feed_35 : decode cX8_feed 35 = .ok (.getfield 10, 3) := by decide +kernel
theorem dX8_feed_38 : decode cX8_feed 38 = .ok (.iload_n 3, 1) := by decide +kernel
theorem dX8_feed_39 : decode cX8_feed 39 = .ok (.invokevirtual 74, 3) := by decide +kernel
theorem dX8_feed_42 : decode cX8_feed 42 = .ok (.aload_n 0, 1) := by decide +kernel
theorem dX8_feed_43 : decode cX8_feed 43 = .ok (.getfield 10, 3) := by decide +kernel
theorem dX8_feed_46 : decode cX8_feed 46 = .ok (.iload 4, 2) := by decide +kernel
theorem dX8_feed_48 : decode cX8_feed 48 = .ok (.invokevirtual 74, 3) := by decide +kernel
theorem dX8_feed_51 : decode cX8_feed 51 = .ok (.aload_n 0, 1) := by decide +kernel
theorem dX8_feed_52 : decode cX8_feed 52 = .ok (.getfield 10, 3) := by decide +kernel
theorem dX8_feed_55 : decode cX8_feed 55 = .ok (.iload 5, 2) := by decide +kernel
theorem dX8_feed_57 : decode cX8_feed 57 = .ok (.invokevirtual 74, 3) := by decide +kernel
theorem dX8_feed_60 : decode cX8_feed 60 = .ok (.aload_n 0, 1) := by decide +kernel
theorem dX8_feed_61 : decode cX8_feed 61 = .ok (.getfield 10, 3) := by decide +kernel
theorem dX8_feed_64 : decode cX8_feed 64 = .ok (.getfield 71, 3) := by decide +kernel
theorem dX8_feed_67 : decode cX8_feed 67 = .ok (.ireturn, 1) := by decide +kernel
theorem dX8_end_0 : decode cX8_end 0 = .ok (.iload_n 1, 1) := by decide +kernel
theorem dX8_end_1 : decode cX8_end 1 = .ok (.ifCond .lt 14, 3) := by decide +kernel
theorem dX8_end_4 : decode cX8_end 4 = .ok (.iload_n 1, 1) := by decide +kernel
theorem dX8_end_5 : decode cX8_end 5 = .ok (.aload_n 0, 1) := by decide +kernel
theorem dX8_end_6 : decode cX8_end 6 = .ok (.getfield 10, 3) := by decide +kernel
theorem dX8_end_9 : decode cX8_end 9 = .ok (.getfield 71, 3) := by decide +kernel
theorem dX8_end_12 : decode cX8_end 12 = .ok (.if_icmp .le 5, 3) := by decide +kernel
theorem dX8_end_15 : decode cX8_end 15 = .ok (.iconst 0, 1) := by decide +kernel
theorem dX8_end_16 : decode cX8_end 16 = .ok (.ireturn, 1) := by decide +kernel
theorem dX8_end_17 : decode cX8_end 17 = .ok (.aload_n 0, 1) := by decide +kernel
theorem dX8_end_18 : decode cX8_end 18 = .ok (.getfield 10, 3) := by decide +kernel
theorem dX8_end_21 : decode cX8_end 21 = .ok (.iload_n 1, 1) := by decide +kernel
theorem dX8_end_22 : decode cX8_end 22 = .ok (.putfield 71, 3) := by decide +kernel
theorem dX8_end_25 : decode cX8_end 25 = .ok (.iconst 1, 1) := by decide +kernel
theorem dX8_end_26 : decode cX8_end 26 = .ok (.ireturn, 1) := by decide +kernel
theorem dX8_harm_0 : decode cX8_harm 0 = .ok (.iload_n 1, 1) := by decide +kernel
theorem dX8_harm_1 : decode cX8_harm 1 = .ok (.ifCond .lt 14, 3) := by decide +kernel
theorem dX8_harm_4 : decode cX8_harm 4 = .ok (.iload_n 1, 1) := by decide +kernel
theorem dX8_harm_5 : decode cX8_harm 5 = .ok (.aload_n 0, 1) := by decide +kernel
theorem dX8_harm_6 : decode cX8_harm 6 = .ok (.getfield 10, 3) := by decide +kernel
theorem dX8_harm_9 : decode cX8_harm 9 = .ok (.getfield 71, 3) := by decide +kernel
theorem dX8_harm_12 : decode cX8_harm 12 = .ok (.if_icmp .lt 5, 3) := by decide +kernel
theorem dX8_harm_15 : decode cX8_harm 15 = .ok (.iconst 0, 1) := by decide +kernel
theorem dX8_harm_16 : decode cX8_harm 16 = .ok (.ireturn, 1) := by decide +kernel
theorem dX8_harm_17 : decode cX8_harm 17 = .ok (.aload_n 0, 1) := by decide +kernel
theorem dX8_harm_18 : decode cX8_harm 18 = .ok (.getfield 10, 3) := by decide +kernel
theorem dX8_harm_21 : decode cX8_harm 21 = .ok (.iload_n 1, 1) := by decide +kernel
theorem dX8_harm_22 : decode cX8_harm 22 = .ok (.aload_n 0, 1) := by decide +kernel
theorem dX8_harm_23 : decode cX8_harm 23 = .ok (.getfield 10, 3) := by decide +kernel
theorem dX8_harm_26 : decode cX8_harm 26 = .ok (.iload_n 1, 1) := by decide +kernel
theorem dX8_harm_27 : decode cX8_harm 27 = .ok (.invokevirtual 78, 3) := by decide +kernel
theorem dX8_harm_30 : decode cX8_harm 30 = .ok (.iload_n 2, 1) := by decide +kernel
theorem dX8_harm_31 : decode cX8_harm 31 = .ok (.ixor, 1) := by decide +kernel
theorem dX8_harm_32 : decode cX8_harm 32 = .ok (.invokevirtual 82, 3) := by decide +kernel
theorem dX8_harm_35 : decode cX8_harm 35 = .ok (.iconst 1, 1) := by decide +kernel
theorem dX8_harm_36 : decode cX8_harm 36 = .ok (.ireturn, 1) := by decide +kernel
theorem dX8_page_0 : decode cX8_page 0 = .ok (.iload_n 1, 1) := by decide +kernel
theorem dX8_page_1 : decode cX8_page 1 = .ok (.ifCond .lt 14, 3) := by decide +kernel
theorem dX8_page_4 : decode cX8_page 4 = .ok (.iload_n 1, 1) := by decide +kernel
theorem dX8_page_5 : decode cX8_page 5 = .ok (.aload_n 0, 1) := by decide +kernel
theorem dX8_page_6 : decode cX8_page 6 = .ok (.getfield 10, 3) := by decide +kernel
theorem dX8_page_9 : decode cX8_page 9 = .ok (.getfield 71, 3) := by decide +kernel
theorem dX8_page_12 : decode cX8_page 12 = .ok (.if_icmp .le 5, 3) := by decide +kernel
theorem dX8_page_15 : decode cX8_page 15 = .ok (.iconst (-1), 1) := by decide +kernel
theorem dX8_page_16 : decode cX8_page 16 = .ok (.ireturn, 1) := by decide +kernel
theorem dX8_page_17 : decode cX8_page 17 = .ok (.aload_n 0, 1) := by decide +kernel
theorem dX8_page_18 : decode cX8_page 18 = .ok (.getfield 10, 3) := by decide +kernel
theorem dX8_page_21 : decode cX8_page 21 = .ok (.getfield 71, 3) := by decide +kernel
theorem dX8_page_24 : decode cX8_page 24 = .ok (.iload_n 1, 1) := by decide +kernel
theorem dX8_page_25 : decode cX8_page 25 = .ok (.isub, 1) := by decide +kernel
theorem dX8_page_26 : decode cX8_page 26 = .ok (.istore 8, 2) := by decide +kernel
theorem dX8_page_28 : decode cX8_page 28 = .ok (.iload 8, 2) := by decide +kernel
theorem dX8_page_30 : decode cX8_page 30 = .ok (.sipush 255, 3) := by decide +kernel
theorem dX8_page_33 : decode cX8_page 33 = .ok (.irem, 1) := by decide +kernel
theorem dX8_page_34 : decode cX8_page 34 = .ok (.istore 9, 2) := by decide +kernel
theorem dX8_page_36 : decode cX8_page 36 = .ok (.iload 7, 2) := by decide +kernel
theorem dX8_page_38 : decode cX8_page 38 = .ok (.ifCond .eq 10, 3) := by decide +kernel
theorem dX8_page_41 : decode cX8_page 41 = .ok (.iload 9, 2) := by decide +kernel
theorem dX8_page_43 : decode cX8_page 43 = .ok (.ifCond .eq 5, 3) := by decide +kernel
theorem dX8_page_46 : decode cX8_page 46 = .ok (.iconst (-1), 1) := by decide +kernel
theorem dX8_page_47 : decode cX8_page 47 = .ok (.ireturn, 1) := by decide +kernel
theorem dX8_page_48 : decode cX8_page 48 = .ok (.iload 8, 2) := by decide +kernel
theorem dX8_page_50 : decode cX8_page 50 = .ok (.sipush 255, 3) := by decide +kernel
theorem dX8_page_53 : decode cX8_page 53 = .ok (.idiv, 1) := by decide +kernel
theorem dX8_page_54 : decode cX8_page 54 = .ok (.iload 7, 2) := by decide +kernel
theorem dX8_page_56 : decode cX8_page 56 = .ok (.ifCond .eq 7, 3) := by decide +kernel
theorem dX8_page_59 : decode cX8_page 59 = .ok (.iconst 0, 1) := by decide +kernel
theorem dX8_page_60 : decode cX8_page 60 = .ok (.goto 4, 3) := by decide +kernel
theorem dX8_page_63 : decode cX8_page 63 = .ok (.iconst 1, 1) := by decide +kernel
theorem dX8_page_64 : decode cX8_page 64 = .ok (.iadd, 1) := by decide +kernel
theorem dX8_page_65 : decode cX8_page 65 = .ok (.istore 10, 2) := by decide +kernel
theorem dX8_page_67 : decode cX8_page 67 = .ok (.iload 10, 2) := by decide +kernel
theorem dX8_page_69 : decode cX8_page 69 = .ok (.sipush 255, 3) := by decide +kernel
theorem dX8_page_72 : decode cX8_page 72 = .ok (.if_icmp .gt 22, 3) := by decide +kernel
theorem dX8_page_75 : decode cX8_page 75 = .ok (.aload_n 0, 1) := by decide +kernel
theorem dX8_page_76 : decode cX8_page 76 = .ok (.getfield 10, 3) := by decide +kernel
theorem dX8_page_79 : decode cX8_page 79 = .ok (.getfield 71, 3) := by decide +kernel
theorem dX8_page_82 : decode cX8_page 82 = .ok (.bipush 27, 2) := by decide +kernel
theorem dX8_page_84 : decode cX8_page 84 = .ok (.iadd, 1) := by decide +kernel
theorem dX8_page_85 : decode cX8_page 85 = .ok (.iload 10, 2) := by decide +kernel
theorem dX8_page_87 : decode cX8_page 87 = .ok (.iadd, 1) := by decide +kernel
theorem dX8_page_88 : decode cX8_page 88 = .ok (.sipush 6000, 3) := by decide +kernel
theorem dX8_page_91 : decode cX8_page 91 = .ok (.if_icmp .le 5, 3) := by decide +kernel
theorem dX8_page_94 : decode cX8_page 94 = .ok (.iconst (-1), 1) := by decide +kernel
theorem dX8_page_95 : decode cX8_page 95 = .ok (.ireturn, 1) := by decide +kernel
theorem dX8_page_96 : decode cX8_page 96 = .ok (.aload_n 0, 1) := by decide +kernel
theorem dX8_page_97 : decode cX8_page 97 = .ok (.getfield 10, 3) := by decide +kernel
theorem dX8_page_100 : decode cX8_page 100 = .ok (.iload_n 1, 1) := by decide +kernel
theorem dX8_page_101 : decode cX8_page 101 = .ok (.bipush 27, 2) := by decide +kernel
theorem dX8_page_103 : decode cX8_page 103 = .ok (.iload 10, 2) := by decide +kernel
theorem dX8_page_105 : decode cX8_page 105 = .ok (.iadd, 1) := by decide +kernel
theorem dX8_page_106 : decode cX8_page 106 = .ok (.invokevirtual 86, 3) := by decide +kernel
theorem dX8_page_109 : decode cX8_page 109 = .ok (.aload_n 0, 1) := by decide +kernel
theorem dX8_page_110 : decode cX8_page 110 = .ok (.getfield 10, 3) := by decide +kernel
theorem dX8_page_113 : decode cX8_page 113 = .ok (.iload_n 1, 1) := by decide +kernel
theorem dX8_page_114 : decode cX8_page 114 = .ok (.iload_n 2, 1) := by decide +kernel
theorem dX8_page_115 : decode cX8_page 115 = .ok (.lload_n 3, 1) := by decide +kernel
theorem dX8_page_116 : decode cX8_page 116 = .ok (.iload 5, 2) := by decide +kernel
theorem dX8_page_118 : decode cX8_page 118 = .ok (.iload 6, 2) := by decide +kernel
theorem dX8_page_120 : decode cX8_page 120 = .ok (.invokevirtual 89, 3) := by decide +kernel
theorem dX8_page_123 : decode cX8_page 123 = .ok (.aload_n 0, 1) := by decide +kernel
theorem dX8_page_124 : decode cX8_page 124 = .ok (.getfield 10, 3) := by decide +kernel
theorem dX8_page_127 : decode cX8_page 127 = .ok (.iload_n 1, 1) := by decide +kernel
theorem dX8_page_128 : decode cX8_page 128 = .ok (.iload 10, 2) := by decide +kernel
theorem dX8_page_130 : decode cX8_page 130 = .ok (.iload 7, 2) := by decide +kernel
theorem dX8_page_132 : decode cX8_page 132 = .ok (.ifCond .eq 9, 3) := by decide +kernel
theorem dX8_page_135 : decode cX8_page 135 = .ok (.sipush 255, 3) := by decide +kernel
theorem dX8_page_138 : decode cX8_page 138 = .ok (.goto 5, 3) := by decide +kernel
theorem dX8_page_141 : decode cX8_page 141 = .ok (.iload 9, 2) := by decide +kernel
theorem dX8_page_143 : decode cX8_page 143 = .ok (.invokevirtual 93, 3) := by decide +kernel
theorem dX8_page_146 : decode cX8_page 146 = .ok (.aload_n 0, 1) := by decide +kernel
theorem dX8_page_147 : decode cX8_page 147 = .ok (.getfield 10, 3) := by decide +kernel
theorem dX8_page_150 : decode cX8_page 150 = .ok (.iload_n 1, 1) := by decide +kernel
theorem dX8_page_151 : decode cX8_page 151 = .ok (.bipush 22, 2) := by decide +kernel
theorem dX8_page_153 : decode cX8_page 153 = .ok (.iadd, 1) := by decide +kernel
theorem dX8_page_154 : decode cX8_page 154 = .ok (.aload_n 0, 1) := by decide +kernel
theorem dX8_page_155 : decode cX8_page 155 = .ok (.getfield 10, 3) := by decide +kernel
theorem dX8_page_158 : decode cX8_page 158 = .ok (.iload_n 1, 1) := by decide +kernel
theorem dX8_page_159 : decode cX8_page 159 = .ok (.aload_n 0, 1) := by decide +kernel
theorem dX8_page_160 : decode cX8_page 160 = .ok (.getfield 10, 3) := by decide +kernel
theorem dX8_page_163 : decode cX8_page 163 = .ok (.getfield 71, 3) := by decide +kernel
theorem dX8_page_166 : decode cX8_page 166 = .ok (.invokevirtual 97, 3) := by decide +kernel
theorem dX8_page_169 : decode cX8_page 169 = .ok (.invokevirtual 101, 3) := by decide +kernel
theorem dX8_page_172 : decode cX8_page 172 = .ok (.aload_n 0, 1) := by decide +kernel
theorem dX8_page_173 : decode cX8_page 173 = .ok (.getfield 10, 3) := by decide +kernel
theorem dX8_page_176 : decode cX8_page 176 = .ok (.getfield 71, 3) := by decide +kernel
theorem dX8_page_179 : decode cX8_page 179 = .ok (.ireturn, 1) := by decide +kernel
theorem dX8_read_0 : decode cX8_read 0 = .ok (.aload_n 0, 1) := by decide +kernel
theorem dX8_read_1 : decode cX8_read 1 = .ok (.iconst 0, 1) := by decide +kernel
theorem dX8_read_2 : decode cX8_read 2 = .ok (.putfield 58, 3) := by decide +kernel
theorem dX8_read_5 : decode cX8_read 5 = .ok (.aload_n 0, 1) := by decide +kernel
theorem dX8_read_6 : decode cX8_read 6 = .ok (.iconst 0, 1) := by decide +kernel
theorem dX8_read_7 : decode cX8_read 7 = .ok (.putfield 62, 3) := by decide +kernel
theorem dX8_read_10 : decode cX8_read 10 = .ok (.aload_n 0, 1) := by decide +kernel
theorem dX8_read_11 : decode cX8_read 11 = .ok (.iconst 0, 1) := by decide +kernel
theorem dX8_read_12 : decode cX8_read 12 = .ok (.putfield 65, 3) := by decide +kernel
theorem dX8_read_15 : decode cX8_read 15 = .ok (.aload_n 0, 1) := by decide +kernel
theorem dX8_read_16 : decode cX8_read 16 = .ok (.iconst 0, 1) := by decide +kernel
theorem dX8_read_17 : decode cX8_read 17 = .ok (.putfield 68, 3) := by decide +kernel
theorem dX8_read_20 : decode cX8_read 20 = .ok (.aload_n 0, 1) := by decide +kernel
theorem dX8_read_21 : decode cX8_read 21 = .ok (.getfield 19, 3) := by decide +kernel
theorem dX8_read_24 : decode cX8_read 24 = .ok (.aload_n 0, 1) := by decide +kernel
theorem dX8_read_25 : decode cX8_read 25 = .ok (.getfield 10, 3) := by decide +kernel
theorem dX8_read_28 : decode cX8_read 28 = .ok (.invokevirtual 104, 3) := by decide +kernel
theorem dX8_read_31 : decode cX8_read 31 = .ok (.aload_n 0, 1) := by decide +kernel
theorem dX8_read_32 : decode cX8_read 32 = .ok (.getfield 10, 3) := by decide +kernel
theorem dX8_read_35 : decode cX8_read 35 = .ok (.iconst 0, 1) := by decide +kernel
theorem dX8_read_36 : decode cX8_read 36 = .ok (.putfield 71, 3) := by decide +kernel
theorem dX8_read_39 : decode cX8_read 39 = .ok (.aload_n 0, 1) := by decide +kernel
theorem dX8_read_40 : decode cX8_read 40 = .ok (.invokevirtual 108, 3) := by decide +kernel
theorem dX8_read_43 : decode cX8_read 43 = .ok (.istore_n 1, 1) := by decide +kernel
theorem dX8_read_44 : decode cX8_read 44 = .ok (.iload_n 1, 1) := by decide +kernel
theorem dX8_read_45 : decode cX8_read 45 = .ok (.ifCond .eq 6, 3) := by decide +kernel
theorem dX8_read_48 : decode cX8_read 48 = .ok (.iload_n 1, 1) := by decide +kernel
theorem dX8_read_49 : decode cX8_read 49 = .ok (.ineg, 1) := by decide +kernel
theorem dX8_read_50 : decode cX8_read 50 = .ok (.ireturn, 1) := by decide +kernel
theorem dX8_read_51 : decode cX8_read 51 = .ok (.aload_n 0, 1) := by decide +kernel
theorem dX8_read_52 : decode cX8_read 52 = .ok (.aload_n 0, 1) := by decide +kernel
theorem dX8_read_53 : decode cX8_read 53 = .ok (.getfield 33, 3) := by decide +kernel
theorem dX8_read_56 : decode cX8_read 56 = .ok (.getfield 112, 3) := by decide +kernel
theorem dX8_read_59 : decode cX8_read 59 = .ok (.putfield 58, 3) := by decide +kernel
theorem dX8_read_62 : decode cX8_read 62 = .ok (.aload_n 0, 1) := by decide +kernel
theorem dX8_read_63 : decode cX8_read 63 = .ok (.invokevirtual 113, 3) := by decide +kernel
theorem dX8_read_66 : decode cX8_read 66 = .ok (.aload_n 0, 1) := by decide +kernel
theorem dX8_read_67 : decode cX8_read 67 = .ok (.aload_n 0, 1) := by decide +kernel
theorem dX8_read_68 : decode cX8_read 68 = .ok (.iconst 0, 1) := by decide +kernel
theorem dX8_read_69 : decode cX8_read 69 = .ok (.aload_n 0, 1) := by decide +kernel
theorem dX8_read_70 : decode cX8_read 70 = .ok (.getfield 65, 3) := by decide +kernel
theorem dX8_read_73 : decode cX8_read 73 = .ok (.iconst 1, 1) := by decide +kernel
theorem dX8_read_74 : decode cX8_read 74 = .ok (.isub, 1) := by decide +kernel
theorem dX8_read_75 : decode cX8_read 75 = .ok (.invokestatic 116, 3) := by decide +kernel
theorem dX8_read_78 : decode cX8_read 78 = .ok (.bipush 16, 2) := by decide +kernel
theorem dX8_read_80 : decode cX8_read 80 = .ok (.imul, 1) := by decide +kernel
theorem dX8_read_81 : decode cX8_read 81 = .ok (.invokevirtual 121, 3) := by decide +kernel
theorem dX8_read_84 : decode cX8_read 84 = .ok (.putfield 62, 3) := by decide +kernel
theorem dX8_read_87 : decode cX8_read 87 = .ok (.aload_n 0, 1) := by decide +kernel
theorem dX8_read_88 : decode cX8_read 88 = .ok (.getfield 62, 3) := by decide +kernel
theorem dX8_read_91 : decode cX8_read 91 = .ok (.ireturn, 1) := by decide +kernel
theorem dX8_sample_0 : decode cX8_sample 0 = .ok (.aload_n 0, 1) := by decide +kernel
theorem dX8_sample_1 : decode cX8_sample 1 = .ok (.iload_n 1, 1) := by decide +kernel
theorem dX8_sample_2 : decode cX8_sample 2 = .ok (.invokevirtual 124, 3) := by decide +kernel
theorem dX8_sample_5 : decode cX8_sample 5 = .ok (.ifCond .eq 15, 3) := by decide +kernel
theorem dX8_sample_8 : decode cX8_sample 8 = .ok (.iload_n 2, 1) := by decide +kernel
theorem dX8_sample_9 : decode cX8_sample 9 = .ok (.ifCond .lt 11, 3) := by decide +kernel
theorem dX8_sample_12 : decode cX8_sample 12 = .ok (.iload_n 2, 1) := by decide +kernel
theorem dX8_sample_13 : decode cX8_sample 13 = .ok (.aload_n 0, 1) := by decide +kernel
theorem dX8_sample_14 : decode cX8_sample 14 = .ok (.getfield 62, 3) := by decide +kernel
theorem dX8_sample_17 : decode cX8_sample 17 = .ok (.if_icmp .lt 5, 3) := by decide +kernel
theorem dX8_sample_20 : decode cX8_sample 20 = .ok (.iconst 0, 1) := by decide +kernel
theorem dX8_sample_21 : decode cX8_sample 21 = .ok (.ireturn, 1) := by decide +kernel
theorem dX8_sample_22 : decode cX8_sample 22 = .ok (.aload_n 0, 1) := by decide +kernel
theorem dX8_sample_23 : decode cX8_sample 23 = .ok (.getfield 53, 3) := by decide +kernel
theorem dX8_sample_26 : decode cX8_sample 26 = .ok (.iload_n 1, 1) := by decide +kernel
theorem dX8_sample_27 : decode cX8_sample 27 = .ok (.aaload, 1) := by decide +kernel
theorem dX8_sample_28 : decode cX8_sample 28 = .ok (.iload_n 2, 1) := by decide +kernel
theorem dX8_sample_29 : decode cX8_sample 29 = .ok (.invokevirtual 128, 3) := by decide +kernel
theorem dX8_sample_32 : decode cX8_sample 32 = .ok (.ireturn, 1) := by decide +kernel
theorem dX8_look_0 : decode cX8_look 0 = .ok (.iload_n 1, 1) := by decide +kernel
theorem dX8_look_1 : decode cX8_look 1 = .ok (.tableswitch 102 0 7 #[47, 55, 63, 71, 76, 81, 86, 94], 47) := by decide +kernel
theorem dX8_look_48 : decode cX8_look 48 = .ok (.aload_n 0, 1) := by decide +kernel
theorem dX8_look_49 : decode cX8_look 49 = .ok (.getfield 19, 3) := by decide +kernel
theorem dX8_look_52 : decode cX8_look 52 = .ok (.getfield 131, 3) := by decide +kernel
theorem dX8_look_55 : decode cX8_look 55 = .ok (.ireturn, 1) := by decide +kernel
theorem dX8_look_56 : decode cX8_look 56 = .ok (.aload_n 0, 1) := by decide +kernel
theorem dX8_look_57 : decode cX8_look 57 = .ok (.getfield 19, 3) := by decide +kernel
theorem dX8_look_60 : decode cX8_look 60 = .ok (.getfield 134, 3) := by decide +kernel
theorem dX8_look_63 : decode cX8_look 63 = .ok (.ireturn, 1) := by decide +kernel
theorem dX8_look_64 : decode cX8_look 64 = .ok (.aload_n 0, 1) := by decide +kernel
theorem dX8_look_65 : decode cX8_look 65 = .ok (.getfield 19, 3) := by decide +kernel
theorem dX8_look_68 : decode cX8_look 68 = .ok (.getfield 137, 3) := by decide +kernel
theorem dX8_look_71 : decode cX8_look 71 = .ok (.ireturn, 1) := by decide +kernel
theorem dX8_look_72 : decode cX8_look 72 = .ok (.aload_n 0, 1) := by decide +kernel
theorem dX8_look_73 : decode cX8_look 73 = .ok (.getfield 65, 3) := by decide +kernel
theorem dX8_look_76 : decode cX8_look 76 = .ok (.ireturn, 1) := by decide +kernel
theorem dX8_look_77 : decode cX8_look 77 = .ok (.aload_n 0, 1) := by decide +kernel
theorem dX8_look_78 : decode cX8_look 78 = .ok (.getfield 68, 3) := by decide +kernel
theorem dX8_look_81 : decode cX8_look 81 = .ok (.ireturn, 1) := by decide +kernel
theorem dX8_look_82 : decode cX8_look 82 = .ok (.aload_n 0, 1) := by decide +kernel
theorem dX8_look_83 : decode cX8_look 83 = .ok (.getfield 58, 3) := by decide +kernel
theorem dX8_look_86 : decode cX8_look 86 = .ok (.ireturn, 1) := by decide +kernel
theorem dX8_look_87 : decode cX8_look 87 = .ok (.aload_n 0, 1) := by decide +kernel
theorem dX8_look_88 : decode cX8_look 88 = .ok (.getfield 19, 3) := by decide +kernel
theorem dX8_look_91 : decode cX8_look 91 = .ok (.getfield 140, 3) := by decide +kernel
theorem dX8_look_94 : decode cX8_look 94 = .ok (.ireturn, 1) := by decide +kernel
theorem dX8_look_95 : decode cX8_look 95 = .ok (.aload_n 0, 1) := by decide +kernel
theorem dX8_look_96 : decode cX8_look 96 = .ok (.getfield 19, 3) := by decide +kernel
theorem dX8_look_99 : decode cX8_look 99 = .ok (.getfield 143, 3) := by decide +kernel
theorem dX8_look_102 : decode cX8_look 102 = .ok (.ireturn, 1) := by decide +kernel
theorem dX8_look_103 : decode cX8_look 103 = .ok (.iconst (-1), 1) := by decide +kernel
theorem dX8_look_104 : decode cX8_look 104 = .ok (.ireturn, 1) := by decide +kernel
theorem dX8_sum_0 : decode cX8_sum 0 = .ok (.aload_n 0, 1) := by decide +kernel
theorem dX8_sum_1 : decode cX8_sum 1 = .ok (.iload_n 1, 1) := by decide +kernel
theorem dX8_sum_2 : decode cX8_sum 2 = .ok (.invokevirtual 124, 3) := by decide +kernel
theorem dX8_sum_5 : decode cX8_sum 5 = .ok (.ifCond .ne 5, 3) := by decide +kernel
theorem dX8_sum_8 : decode cX8_sum 8 = .ok (.iconst 0, 1) := by decide +kernel
theorem dX8_sum_9 : decode cX8_sum 9 = .ok (.ireturn, 1) := by decide +kernel
theorem dX8_sum_10 : decode cX8_sum 10 = .ok (.iconst 0, 1) := by decide +kernel
theorem dX8_sum_11 : decode cX8_sum 11 = .ok (.istore_n 2, 1) := by decide +kernel
theorem dX8_sum_12 : decode cX8_sum 12 = .ok (.iconst 0, 1) := by decide +kernel
theorem dX8_sum_13 : decode cX8_sum 13 = .ok (.istore_n 3, 1) := by decide +kernel
theorem dX8_sum_14 : decode cX8_sum 14 = .ok (.iload_n 3, 1) := by decide +kernel
theorem dX8_sum_15 : decode cX8_sum 15 = .ok (.aload_n 0, 1) := by decide +kernel
theorem dX8_sum_16 : decode cX8_sum 16 = .ok (.getfield 62, 3) := by decide +kernel
theorem dX8_sum_19 : decode cX8_sum 19 = .ok (.if_icmp .ge 26, 3) := by decide +kernel
theorem dX8_sum_22 : decode cX8_sum 22 = .ok (.iload_n 2, 1) := by decide +kernel
theorem dX8_sum_23 : decode cX8_sum 23 = .ok (.aload_n 0, 1) := by decide +kernel
theorem dX8_sum_24 : decode cX8_sum 24 = .ok (.getfield 53, 3) := by decide +kernel
theorem dX8_sum_27 : decode cX8_sum 27 = .ok (.iload_n 1, 1) := by decide +kernel
theorem dX8_sum_28 : decode cX8_sum 28 = .ok (.aaload, 1) := by decide +kernel
theorem dX8_sum_29 : decode cX8_sum 29 = .ok (.iload_n 3, 1) := by decide +kernel
theorem dX8_sum_30 : decode cX8_sum 30 = .ok (.invokevirtual 128, 3) := by decide +kernel
theorem dX8_sum_33 : decode cX8_sum 33 = .ok (.iconst 1, 1) := by decide +kernel
theorem dX8_sum_34 : decode cX8_sum 34 = .ok (.iload_n 3, 1) := by decide +kernel
theorem dX8_sum_35 : decode cX8_sum 35 = .ok (.iadd, 1) := by decide +kernel
theorem dX8_sum_36 : decode cX8_sum 36 = .ok (.imul, 1) := by decide +kernel
theorem dX8_sum_37 : decode cX8_sum 37 = .ok (.iadd, 1) := by decide +kernel
theorem dX8_sum_38 : decode cX8_sum 38 = .ok (.istore_n 2, 1) := by decide +kernel
theorem dX8_sum_39 : decode cX8_sum 39 = .ok (.iinc 3 1, 3) := by decide +kernel
theorem dX8_sum_42 : decode cX8_sum 42 = .ok (.goto (-28), 3) := by decide +kernel
theorem dX8_sum_45 : decode cX8_sum 45 = .ok (.iload_n 2, 1) := by decide +kernel
theorem dX8_sum_46 : decode cX8_sum 46 = .ok (.ireturn, 1) := by decide +kernel
theorem dX8_taped_0 : decode cX8_taped 0 = .ok (.aload_n 0, 1) := by decide +kernel
theorem dX8_taped_1 : decode cX8_taped 1 = .ok (.getfield 10, 3) := by decide +kernel
theorem dX8_taped_4 : decode cX8_taped 4 = .ok (.getfield 71, 3) := by decide +kernel
theorem dX8_taped_7 : decode cX8_taped 7 = .ok (.ireturn, 1) := by decide +kernel
theorem dX8_hasVoice_0 : decode cX8_hasVoice 0 = .ok (.iload_n 1, 1) := by decide +kernel
theorem dX8_hasVoice_1 : decode cX8_hasVoice 1 = .ok (.ifCond .lt 24, 3) := by decide +kernel
theorem dX8_hasVoice_4 : decode cX8_hasVoice 4 = .ok (.iload_n 1, 1) := by decide +kernel
theorem dX8_hasVoice_5 : decode cX8_hasVoice 5 = .ok (.aload_n 0, 1) := by decide +kernel
theorem dX8_hasVoice_6 : decode cX8_hasVoice 6 = .ok (.getfield 58, 3) := by decide +kernel
theorem dX8_hasVoice_9 : decode cX8_hasVoice 9 = .ok (.if_icmp .ge 16, 3) := by decide +kernel
theorem dX8_hasVoice_12 : decode cX8_hasVoice 12 = .ok (.iload_n 1, 1) := by decide +kernel
theorem dX8_hasVoice_13 : decode cX8_hasVoice 13 = .ok (.aload_n 0, 1) := by decide +kernel
theorem dX8_hasVoice_14 : decode cX8_hasVoice 14 = .ok (.getfield 53, 3) := by decide +kernel
theorem dX8_hasVoice_17 : decode cX8_hasVoice 17 = .ok (.arraylength, 1) := by decide +kernel
theorem dX8_hasVoice_18 : decode cX8_hasVoice 18 = .ok (.if_icmp .ge 7, 3) := by decide +kernel
theorem dX8_hasVoice_21 : decode cX8_hasVoice 21 = .ok (.iconst 1, 1) := by decide +kernel
theorem dX8_hasVoice_22 : decode cX8_hasVoice 22 = .ok (.goto 4, 3) := by decide +kernel
theorem dX8_hasVoice_25 : decode cX8_hasVoice 25 = .ok (.iconst 0, 1) := by decide +kernel
theorem dX8_hasVoice_26 : decode cX8_hasVoice 26 = .ok (.ireturn, 1) := by decide +kernel
theorem dX8_learnSetup_0 : decode cX8_learnSetup 0 = .ok (.aload_n 0, 1) := by decide +kernel
theorem dX8_learnSetup_1 : decode cX8_learnSetup 1 = .ok (.getfield 19, 3) := by decide +kernel
theorem dX8_learnSetup_4 : decode cX8_learnSetup 4 = .ok (.getfield 137, 3) := by decide +kernel
theorem dX8_learnSetup_7 : decode cX8_learnSetup 7 = .ok (.ifCond .ne 5, 3) := by decide +kernel
theorem dX8_learnSetup_10 : decode cX8_learnSetup 10 = .ok (.iconst 1, 1) := by decide +kernel
theorem dX8_learnSetup_11 : decode cX8_learnSetup 11 = .ok (.ireturn, 1) := by decide +kernel
theorem dX8_learnSetup_12 : decode cX8_learnSetup 12 = .ok (.aload_n 0, 1) := by decide +kernel
theorem dX8_learnSetup_13 : decode cX8_learnSetup 13 = .ok (.getfield 26, 3) := by decide +kernel
theorem dX8_learnSetup_16 : decode cX8_learnSetup 16 = .ok (.aload_n 0, 1) := by decide +kernel
theorem dX8_learnSetup_17 : decode cX8_learnSetup 17 = .ok (.getfield 10, 3) := by decide +kernel
theorem dX8_learnSetup_20 : decode cX8_learnSetup 20 = .ok (.getfield 146, 3) := by decide +kernel
theorem dX8_learnSetup_23 : decode cX8_learnSetup 23 = .ok (.aload_n 0, 1) := by decide +kernel
theorem dX8_learnSetup_24 : decode cX8_learnSetup 24 = .ok (.getfield 19, 3) := by decide +kernel
theorem dX8_learnSetup_27 : decode cX8_learnSetup 27 = .ok (.iconst 0, 1) := by decide +kernel
theorem dX8_learnSetup_28 : decode cX8_learnSetup 28 = .ok (.invokevirtual 150, 3) := by decide +kernel
theorem dX8_learnSetup_31 : decode cX8_learnSetup 31 = .ok (.aload_n 0, 1) := by decide +kernel
theorem dX8_learnSetup_32 : decode cX8_learnSetup 32 = .ok (.getfield 19, 3) := by decide +kernel
theorem dX8_learnSetup_35 : decode cX8_learnSetup 35 = .ok (.iconst 0, 1) := by decide +kernel
theorem dX8_learnSetup_36 : decode cX8_learnSetup 36 = .ok (.invokevirtual 153, 3) := by decide +kernel
theorem dX8_learnSetup_39 : decode cX8_learnSetup 39 = .ok (.invokevirtual 156, 3) := by decide +kernel
theorem dX8_learnSetup_42 : decode cX8_learnSetup 42 = .ok (.aload_n 0, 1) := by decide +kernel
theorem dX8_learnSetup_43 : decode cX8_learnSetup 43 = .ok (.getfield 33, 3) := by decide +kernel
theorem dX8_learnSetup_46 : decode cX8_learnSetup 46 = .ok (.aload_n 0, 1) := by decide +kernel
theorem dX8_learnSetup_47 : decode cX8_learnSetup 47 = .ok (.getfield 26, 3) := by decide +kernel
theorem dX8_learnSetup_50 : decode cX8_learnSetup 50 = .ok (.invokevirtual 160, 3) := by decide +kernel
theorem dX8_learnSetup_53 : decode cX8_learnSetup 53 = .ok (.ireturn, 1) := by decide +kernel
theorem dX8_playSounds_0 : decode cX8_playSounds 0 = .ok (.iconst 1, 1) := by decide +kernel
theorem dX8_playSounds_1 : decode cX8_playSounds 1 = .ok (.istore_n 1, 1) := by decide +kernel
theorem dX8_playSounds_2 : decode cX8_playSounds 2 = .ok (.iload_n 1, 1) := by decide +kernel
theorem dX8_playSounds_3 : decode cX8_playSounds 3 = .ok (.aload_n 0, 1) := by decide +kernel
theorem dX8_playSounds_4 : decode cX8_playSounds 4 = .ok (.getfield 19, 3) := by decide +kernel
theorem dX8_playSounds_7 : decode cX8_playSounds 7 = .ok (.getfield 137, 3) := by decide +kernel
theorem dX8_playSounds_10 : decode cX8_playSounds 10 = .ok (.if_icmp .ge 77, 3) := by decide +kernel
theorem dX8_playSounds_13 : decode cX8_playSounds 13 = .ok (.aload_n 0, 1) := by decide +kernel
theorem dX8_playSounds_14 : decode cX8_playSounds 14 = .ok (.getfield 26, 3) := by decide +kernel
theorem dX8_playSounds_17 : decode cX8_playSounds 17 = .ok (.aload_n 0, 1) := by decide +kernel
theorem dX8_playSounds_18 : decode cX8_playSounds 18 = .ok (.getfield 10, 3) := by decide +kernel
theorem dX8_playSounds_21 : decode cX8_playSounds 21 = .ok (.getfield 146, 3) := by decide +kernel
theorem dX8_playSounds_24 : decode cX8_playSounds 24 = .ok (.aload_n 0, 1) := by decide +kernel
theorem dX8_playSounds_25 : decode cX8_playSounds 25 = .ok (.getfield 19, 3) := by decide +kernel
theorem dX8_playSounds_28 : decode cX8_playSounds 28 = .ok (.iload_n 1, 1) := by decide +kernel
theorem dX8_playSounds_29 : decode cX8_playSounds 29 = .ok (.invokevirtual 150, 3) := by decide +kernel
theorem dX8_playSounds_32 : decode cX8_playSounds 32 = .ok (.aload_n 0, 1) := by decide +kernel
theorem dX8_playSounds_33 : decode cX8_playSounds 33 = .ok (.getfield 19, 3) := by decide +kernel
theorem dX8_playSounds_36 : decode cX8_playSounds 36 = .ok (.iload_n 1, 1) := by decide +kernel
theorem dX8_playSounds_37 : decode cX8_playSounds 37 = .ok (.invokevirtual 153, 3) := by decide +kernel
theorem dX8_playSounds_40 : decode cX8_playSounds 40 = .ok (.invokevirtual 156, 3) := by decide +kernel
theorem dX8_playSounds_43 : decode cX8_playSounds 43 = .ok (.aload_n 0, 1) := by decide +kernel
theorem dX8_playSounds_44 : decode cX8_playSounds 44 = .ok (.invokevirtual 164, 3) := by decide +kernel
theorem dX8_playSounds_47 : decode cX8_playSounds 47 = .ok (.ifCond .eq 24, 3) := by decide +kernel
theorem dX8_playSounds_50 : decode cX8_playSounds 50 = .ok (.aload_n 0, 1) := by decide +kernel
theorem dX8_playSounds_51 : decode cX8_playSounds 51 = .ok (.invokevirtual 168, 3) := by decide +kernel
theorem dX8_playSounds_54 : decode cX8_playSounds 54 = .ok (.aload_n 0, 1) := by decide +kernel
theorem dX8_playSounds_55 : decode cX8_playSounds 55 = .ok (.invokevirtual 171, 3) := by decide +kernel
theorem dX8_playSounds_58 : decode cX8_playSounds 58 = .ok (.aload_n 0, 1) := by decide +kernel
theorem dX8_playSounds_59 : decode cX8_playSounds 59 = .ok (.dup, 1) := by decide +kernel
theorem dX8_playSounds_60 : decode cX8_playSounds 60 = .ok (.getfield 65, 3) := by decide +kernel
theorem dX8_playSounds_63 : decode cX8_playSounds 63 = .ok (.iconst 1, 1) := by decide +kernel
theorem dX8_playSounds_64 : decode cX8_playSounds 64 = .ok (.iadd, 1) := by decide +kernel
theorem dX8_playSounds_65 : decode cX8_playSounds 65 = .ok (.putfield 65, 3) := by decide +kernel
theorem dX8_playSounds_68 : decode cX8_playSounds 68 = .ok (.goto 13, 3) := by decide +kernel
theorem dX8_playSounds_71 : decode cX8_playSounds 71 = .ok (.aload_n 0, 1) := by decide +kernel
theorem dX8_playSounds_72 : decode cX8_playSounds 72 = .ok (.dup, 1) := by decide +kernel
theorem dX8_playSounds_73 : decode cX8_playSounds 73 = .ok (.getfield 68, 3) := by decide +kernel
theorem dX8_playSounds_76 : decode cX8_playSounds 76 = .ok (.iconst 1, 1) := by decide +kernel
theorem dX8_playSounds_77 : decode cX8_playSounds 77 = .ok (.iadd, 1) := by decide +kernel
theorem dX8_playSounds_78 : decode cX8_playSounds 78 = .ok (.putfield 68, 3) := by decide +kernel
theorem dX8_playSounds_81 : decode cX8_playSounds 81 = .ok (.iinc 1 1, 3) := by decide +kernel
theorem dX8_playSounds_84 : decode cX8_playSounds 84 = .ok (.goto (-82), 3) := by decide +kernel
theorem dX8_playSounds_87 : decode cX8_playSounds 87 = .ok (.return_, 1) := by decide +kernel
theorem dX8_learnCurves_0 : decode cX8_learnCurves 0 = .ok (.iconst 0, 1) := by decide +kernel
theorem dX8_learnCurves_1 : decode cX8_learnCurves 1 = .ok (.istore_n 1, 1) := by decide +kernel
theorem dX8_learnCurves_2 : decode cX8_learnCurves 2 = .ok (.iload_n 1, 1) := by decide +kernel
theorem dX8_learnCurves_3 : decode cX8_learnCurves 3 = .ok (.aload_n 0, 1) := by decide +kernel
theorem dX8_learnCurves_4 : decode cX8_learnCurves 4 = .ok (.getfield 58, 3) := by decide +kernel
theorem dX8_learnCurves_7 : decode cX8_learnCurves 7 = .ok (.if_icmp .ge 94, 3) := by decide +kernel
theorem dX8_learnCurves_10 : decode cX8_learnCurves 10 = .ok (.iload_n 1, 1) := by decide +kernel
theorem dX8_learnCurves_11 : decode cX8_learnCurves 11 = .ok (.aload_n 0, 1) := by decide +kernel
theorem dX8_learnCurves_12 : decode cX8_learnCurves 12 = .ok (.getfield 53, 3) := by decide +kernel
theorem dX8_learnCurves_15 : decode cX8_learnCurves 15 = .ok (.arraylength, 1) := by decide +kernel
theorem dX8_learnCurves_16 : decode cX8_learnCurves 16 = .ok (.if_icmp .ge 85, 3) := by decide +kernel
theorem dX8_learnCurves_19 : decode cX8_learnCurves 19 = .ok (.aload_n 0, 1) := by decide +kernel
theorem dX8_learnCurves_20 : decode cX8_learnCurves 20 = .ok (.getfield 53, 3) := by decide +kernel
theorem dX8_learnCurves_23 : decode cX8_learnCurves 23 = .ok (.iload_n 1, 1) := by decide +kernel
theorem dX8_learnCurves_24 : decode cX8_learnCurves 24 = .ok (.aaload, 1) := by decide +kernel
theorem dX8_learnCurves_25 : decode cX8_learnCurves 25 = .ok (.astore_n 2, 1) := by decide +kernel
theorem dX8_learnCurves_26 : decode cX8_learnCurves 26 = .ok (.aload_n 0, 1) := by decide +kernel
theorem dX8_learnCurves_27 : decode cX8_learnCurves 27 = .ok (.getfield 26, 3) := by decide +kernel
theorem dX8_learnCurves_30 : decode cX8_learnCurves 30 = .ok (.invokevirtual 174, 3) := by decide +kernel
theorem dX8_learnCurves_33 : decode cX8_learnCurves 33 = .ok (.istore_n 3, 1) := by decide +kernel
theorem dX8_learnCurves_34 : decode cX8_learnCurves 34 = .ok (.iload_n 3, 1) := by decide +kernel
theorem dX8_learnCurves_35 : decode cX8_learnCurves 35 = .ok (.ifCond .ge 5, 3) := by decide +kernel
theorem dX8_learnCurves_38 : decode cX8_learnCurves 38 = .ok (.iconst 0, 1) := by decide +kernel
theorem dX8_learnCurves_39 : decode cX8_learnCurves 39 = .ok (.ireturn, 1) := by decide +kernel
theorem dX8_learnCurves_40 : decode cX8_learnCurves 40 = .ok (.aload_n 2, 1) := by decide +kernel
theorem dX8_learnCurves_41 : decode cX8_learnCurves 41 = .ok (.iload_n 3, 1) := by decide +kernel
theorem dX8_learnCurves_42 : decode cX8_learnCurves 42 = .ok (.ifCond .ne 7, 3) := by decide +kernel
theorem dX8_learnCurves_45 : decode cX8_learnCurves 45 = .ok (.iconst 1, 1) := by decide +kernel
theorem dX8_learnCurves_46 : decode cX8_learnCurves 46 = .ok (.goto 4, 3) := by decide +kernel
theorem dX8_learnCurves_49 : decode cX8_learnCurves 49 = .ok (.iconst 0, 1) := by decide +kernel
theorem dX8_learnCurves_50 : decode cX8_learnCurves 50 = .ok (.putfield 177, 3) := by decide +kernel
theorem dX8_learnCurves_53 : decode cX8_learnCurves 53 = .ok (.aload_n 2, 1) := by decide +kernel
theorem dX8_learnCurves_54 : decode cX8_learnCurves 54 = .ok (.getfield 177, 3) := by decide +kernel
theorem dX8_learnCurves_57 : decode cX8_learnCurves 57 = .ok (.ifCond .ne 38, 3) := by decide +kernel
theorem dX8_learnCurves_60 : decode cX8_learnCurves 60 = .ok (.aload_n 0, 1) := by decide +kernel
theorem dX8_learnCurves_61 : decode cX8_learnCurves 61 = .ok (.getfield 40, 3) := by decide +kernel
theorem dX8_learnCurves_64 : decode cX8_learnCurves 64 = .ok (.aload_n 0, 1) := by decide +kernel
theorem dX8_learnCurves_65 : decode cX8_learnCurves 65 = .ok (.getfield 33, 3) := by decide +kernel
theorem dX8_learnCurves_68 : decode cX8_learnCurves 68 = .ok (.aload_n 0, 1) := by decide +kernel
theorem dX8_learnCurves_69 : decode cX8_learnCurves 69 = .ok (.getfield 26, 3) := by decide +kernel
theorem dX8_learnCurves_72 : decode cX8_learnCurves 72 = .ok (.invokevirtual 181, 3) := by decide +kernel
theorem dX8_learnCurves_75 : decode cX8_learnCurves 75 = .ok (.ifCond .ne 5, 3) := by decide +kernel
theorem dX8_learnCurves_78 : decode cX8_learnCurves 78 = .ok (.iconst 0, 1) := by decide +kernel
theorem dX8_learnCurves_79 : decode cX8_learnCurves 79 = .ok (.ireturn, 1) := by decide +kernel
theorem dX8_learnCurves_80 : decode cX8_learnCurves 80 = .ok (.aload_n 0, 1) := by decide +kernel
theorem dX8_learnCurves_81 : decode cX8_learnCurves 81 = .ok (.getfield 40, 3) := by decide +kernel
theorem dX8_learnCurves_84 : decode cX8_learnCurves 84 = .ok (.aload_n 0, 1) := by decide +kernel
theorem dX8_learnCurves_85 : decode cX8_learnCurves 85 = .ok (.getfield 33, 3) := by decide +kernel
theorem dX8_learnCurves_88 : decode cX8_learnCurves 88 = .ok (.aload_n 2, 1) := by decide +kernel
theorem dX8_learnCurves_89 : decode cX8_learnCurves 89 = .ok (.getfield 184, 3) := by decide +kernel
theorem dX8_learnCurves_92 : decode cX8_learnCurves 92 = .ok (.invokevirtual 188, 3) := by decide +kernel
theorem dX8_learnCurves_95 : decode cX8_learnCurves 95 = .ok (.iinc 1 1, 3) := by decide +kernel
theorem dX8_learnCurves_98 : decode cX8_learnCurves 98 = .ok (.goto (-96), 3) := by decide +kernel
theorem dX8_learnCurves_101 : decode cX8_learnCurves 101 = .ok (.iconst 1, 1) := by decide +kernel
theorem dX8_learnCurves_102 : decode cX8_learnCurves 102 = .ok (.ireturn, 1) := by decide +kernel
theorem dX8_learnRests_0 : decode cX8_learnRests 0 = .ok (.aload_n 0, 1) := by decide +kernel
theorem dX8_learnRests_1 : decode cX8_learnRests 1 = .ok (.getfield 33, 3) := by decide +kernel
theorem dX8_learnRests_4 : decode cX8_learnRests 4 = .ok (.getfield 192, 3) := by decide +kernel
theorem dX8_learnRests_7 : decode cX8_learnRests 7 = .ok (.istore_n 1, 1) := by decide +kernel
theorem dX8_learnRests_8 : decode cX8_learnRests 8 = .ok (.aload_n 0, 1) := by decide +kernel
theorem dX8_learnRests_9 : decode cX8_learnRests 9 = .ok (.getfield 53, 3) := by decide +kernel
theorem dX8_learnRests_12 : decode cX8_learnRests 12 = .ok (.iconst 0, 1) := by decide +kernel
theorem dX8_learnRests_13 : decode cX8_learnRests 13 = .ok (.aaload, 1) := by decide +kernel
theorem dX8_learnRests_14 : decode cX8_learnRests 14 = .ok (.getfield 177, 3) := by decide +kernel
theorem dX8_learnRests_17 : decode cX8_learnRests 17 = .ok (.ifCond .eq 15, 3) := by decide +kernel
theorem dX8_learnRests_20 : decode cX8_learnRests 20 = .ok (.aload_n 0, 1) := by decide +kernel
theorem dX8_learnRests_21 : decode cX8_learnRests 21 = .ok (.getfield 53, 3) := by decide +kernel
theorem dX8_learnRests_24 : decode cX8_learnRests 24 = .ok (.iconst 1, 1) := by decide +kernel
theorem dX8_learnRests_25 : decode cX8_learnRests 25 = .ok (.aaload, 1) := by decide +kernel
theorem dX8_learnRests_26 : decode cX8_learnRests 26 = .ok (.getfield 177, 3) := by decide +kernel
theorem dX8_learnRests_29 : decode cX8_learnRests 29 = .ok (.ifCond .ne 7, 3) := by decide +kernel
theorem dX8_learnRests_32 : decode cX8_learnRests 32 = .ok (.iconst 1, 1) := by decide +kernel
theorem dX8_learnRests_33 : decode cX8_learnRests 33 = .ok (.goto 4, 3) := by decide +kernel
theorem dX8_learnRests_36 : decode cX8_learnRests 36 = .ok (.iconst 0, 1) := by decide +kernel
theorem dX8_learnRests_37 : decode cX8_learnRests 37 = .ok (.istore_n 2, 1) := by decide +kernel
theorem dX8_learnRests_38 : decode cX8_learnRests 38 = .ok (.iconst 0, 1) := by decide +kernel
theorem dX8_learnRests_39 : decode cX8_learnRests 39 = .ok (.istore_n 3, 1) := by decide +kernel
theorem dX8_learnRests_40 : decode cX8_learnRests 40 = .ok (.iload_n 3, 1) := by decide +kernel
theorem dX8_learnRests_41 : decode cX8_learnRests 41 = .ok (.aload_n 0, 1) := by decide +kernel
theorem dX8_learnRests_42 : decode cX8_learnRests 42 = .ok (.getfield 58, 3) := by decide +kernel
theorem dX8_learnRests_45 : decode cX8_learnRests 45 = .ok (.if_icmp .ge 27, 3) := by decide +kernel
theorem dX8_learnRests_48 : decode cX8_learnRests 48 = .ok (.iload_n 3, 1) := by decide +kernel
theorem dX8_learnRests_49 : decode cX8_learnRests 49 = .ok (.aload_n 0, 1) := by decide +kernel
theorem dX8_learnRests_50 : decode cX8_learnRests 50 = .ok (.getfield 53, 3) := by decide +kernel
theorem dX8_learnRests_53 : decode cX8_learnRests 53 = .ok (.arraylength, 1) := by decide +kernel
theorem dX8_learnRests_54 : decode cX8_learnRests 54 = .ok (.if_icmp .ge 18, 3) := by decide +kernel
theorem dX8_learnRests_57 : decode cX8_learnRests 57 = .ok (.aload_n 0, 1) := by decide +kernel
theorem dX8_learnRests_58 : decode cX8_learnRests 58 = .ok (.getfield 53, 3) := by decide +kernel
theorem dX8_learnRests_61 : decode cX8_learnRests 61 = .ok (.iload_n 3, 1) := by decide +kernel
theorem dX8_learnRests_62 : decode cX8_learnRests 62 = .ok (.aaload, 1) := by decide +kernel
theorem dX8_learnRests_63 : decode cX8_learnRests 63 = .ok (.invokevirtual 195, 3) := by decide +kernel
theorem dX8_learnRests_66 : decode cX8_learnRests 66 = .ok (.iinc 3 1, 3) := by decide +kernel
theorem dX8_learnRests_69 : decode cX8_learnRests 69 = .ok (.goto (-29), 3) := by decide +kernel
theorem dX8_learnRests_72 : decode cX8_learnRests 72 = .ok (.iconst 0, 1) := by decide +kernel
theorem dX8_learnRests_73 : decode cX8_learnRests 73 = .ok (.istore_n 3, 1) := by decide +kernel
theorem dX8_learnRests_74 : decode cX8_learnRests 74 = .ok (.iload_n 3, 1) := by decide +kernel
theorem dX8_learnRests_75 : decode cX8_learnRests 75 = .ok (.aload_n 0, 1) := by decide +kernel
theorem dX8_learnRests_76 : decode cX8_learnRests 76 = .ok (.getfield 58, 3) := by decide +kernel
theorem dX8_learnRests_79 : decode cX8_learnRests 79 = .ok (.if_icmp .ge 70, 3) := by decide +kernel
theorem dX8_learnRests_82 : decode cX8_learnRests 82 = .ok (.iload_n 3, 1) := by decide +kernel
theorem dX8_learnRests_83 : decode cX8_learnRests 83 = .ok (.aload_n 0, 1) := by decide +kernel
theorem dX8_learnRests_84 : decode cX8_learnRests 84 = .ok (.getfield 53, 3) := by decide +kernel
theorem dX8_learnRests_87 : decode cX8_learnRests 87 = .ok (.arraylength, 1) := by decide +kernel
theorem dX8_learnRests_88 : decode cX8_learnRests 88 = .ok (.if_icmp .ge 61, 3) := by decide +kernel
theorem dX8_learnRests_91 : decode cX8_learnRests 91 = .ok (.iload_n 1, 1) := by decide +kernel
theorem dX8_learnRests_92 : decode cX8_learnRests 92 = .ok (.ifCond .eq 7, 3) := by decide +kernel
theorem dX8_learnRests_95 : decode cX8_learnRests 95 = .ok (.iload_n 2, 1) := by decide +kernel
theorem dX8_learnRests_96 : decode cX8_learnRests 96 = .ok (.goto 20, 3) := by decide +kernel
theorem dX8_learnRests_99 : decode cX8_learnRests 99 = .ok (.aload_n 0, 1) := by decide +kernel
theorem dX8_learnRests_100 : decode cX8_learnRests 100 = .ok (.getfield 53, 3) := by decide +kernel
theorem dX8_learnRests_103 : decode cX8_learnRests 103 = .ok (.iload_n 3, 1) := by decide +kernel
theorem dX8_learnRests_104 : decode cX8_learnRests 104 = .ok (.aaload, 1) := by decide +kernel
theorem dX8_learnRests_105 : decode cX8_learnRests 105 = .ok (.getfield 177, 3) := by decide +kernel
theorem dX8_learnRests_108 : decode cX8_learnRests 108 = .ok (.ifCond .ne 7, 3) := by decide +kernel
theorem dX8_learnRests_111 : decode cX8_learnRests 111 = .ok (.iconst 1, 1) := by decide +kernel
theorem dX8_learnRests_112 : decode cX8_learnRests 112 = .ok (.goto 4, 3) := by decide +kernel
theorem dX8_learnRests_115 : decode cX8_learnRests 115 = .ok (.iconst 0, 1) := by decide +kernel
theorem dX8_learnRests_116 : decode cX8_learnRests 116 = .ok (.istore 4, 2) := by decide +kernel
theorem dX8_learnRests_118 : decode cX8_learnRests 118 = .ok (.iload 4, 2) := by decide +kernel
theorem dX8_learnRests_120 : decode cX8_learnRests 120 = .ok (.ifCond .eq 23, 3) := by decide +kernel
theorem dX8_learnRests_123 : decode cX8_learnRests 123 = .ok (.aload_n 0, 1) := by decide +kernel
theorem dX8_learnRests_124 : decode cX8_learnRests 124 = .ok (.getfield 33, 3) := by decide +kernel
theorem dX8_learnRests_127 : decode cX8_learnRests 127 = .ok (.aload_n 0, 1) := by decide +kernel
theorem dX8_learnRests_128 : decode cX8_learnRests 128 = .ok (.getfield 26, 3) := by decide +kernel
theorem dX8_learnRests_131 : decode cX8_learnRests 131 = .ok (.aload_n 0, 1) := by decide +kernel
theorem dX8_learnRests_132 : decode cX8_learnRests 132 = .ok (.getfield 53, 3) := by decide +kernel
theorem dX8_learnRests_135 : decode cX8_learnRests 135 = .ok (.iload_n 3, 1) := by decide +kernel
theorem dX8_learnRests_136 : decode cX8_learnRests 136 = .ok (.aaload, 1) := by decide +kernel
theorem dX8_learnRests_137 : decode cX8_learnRests 137 = .ok (.getfield 198, 3) := by decide +kernel
theorem dX8_learnRests_140 : decode cX8_learnRests 140 = .ok (.invokevirtual 201, 3) := by decide +kernel
theorem dX8_learnRests_143 : decode cX8_learnRests 143 = .ok (.iinc 3 1, 3) := by decide +kernel
theorem dX8_learnRests_146 : decode cX8_learnRests 146 = .ok (.goto (-72), 3) := by decide +kernel
theorem dX8_learnRests_149 : decode cX8_learnRests 149 = .ok (.iload_n 1, 1) := by decide +kernel
theorem dX8_learnRests_150 : decode cX8_learnRests 150 = .ok (.ifCond .eq 28, 3) := by decide +kernel
theorem dX8_learnRests_153 : decode cX8_learnRests 153 = .ok (.iload_n 2, 1) := by decide +kernel
theorem dX8_learnRests_154 : decode cX8_learnRests 154 = .ok (.ifCond .eq 24, 3) := by decide +kernel
theorem dX8_learnRests_157 : decode cX8_learnRests 157 = .ok (.aload_n 0, 1) := by decide +kernel
theorem dX8_learnRests_158 : decode cX8_learnRests 158 = .ok (.getfield 53, 3) := by decide +kernel
theorem dX8_learnRests_161 : decode cX8_learnRests 161 = .ok (.iconst 0, 1) := by decide +kernel
theorem dX8_learnRests_162 : decode cX8_learnRests 162 = .ok (.aaload, 1) := by decide +kernel
theorem dX8_learnRests_163 : decode cX8_learnRests 163 = .ok (.getfield 198, 3) := by decide +kernel
theorem dX8_learnRests_166 : decode cX8_learnRests 166 = .ok (.aload_n 0, 1) := by decide +kernel
theorem dX8_learnRests_167 : decode cX8_learnRests 167 = .ok (.getfield 53, 3) := by decide +kernel
theorem dX8_learnRests_170 : decode cX8_learnRests 170 = .ok (.iconst 1, 1) := by decide +kernel
theorem dX8_learnRests_171 : decode cX8_learnRests 171 = .ok (.aaload, 1) := by decide +kernel
theorem dX8_learnRests_172 : decode cX8_learnRests 172 = .ok (.getfield 198, 3) := by decide +kernel
theorem dX8_learnRests_175 : decode cX8_learnRests 175 = .ok (.invokestatic 205, 3) := by decide +kernel
theorem dX8_learnRests_178 : decode cX8_learnRests 178 = .ok (.return_, 1) := by decide +kernel
theorem dX8_straighten_0 : decode cX8_straighten 0 = .ok (.iconst 0, 1) := by decide +kernel
theorem dX8_straighten_1 : decode cX8_straighten 1 = .ok (.istore_n 2, 1) := by decide +kernel
theorem dX8_straighten_2 : decode cX8_straighten 2 = .ok (.iload_n 2, 1) := by decide +kernel
theorem dX8_straighten_3 : decode cX8_straighten 3 = .ok (.aload_n 0, 1) := by decide +kernel
theorem dX8_straighten_4 : decode cX8_straighten 4 = .ok (.arraylength, 1) := by decide +kernel
theorem dX8_straighten_5 : decode cX8_straighten 5 = .ok (.if_icmp .ge 95, 3) := by decide +kernel
theorem dX8_straighten_8 : decode cX8_straighten 8 = .ok (.iload_n 2, 1) := by decide +kernel
theorem dX8_straighten_9 : decode cX8_straighten 9 = .ok (.aload_n 1, 1) := by decide +kernel
theorem dX8_straighten_10 : decode cX8_straighten 10 = .ok (.arraylength, 1) := by decide +kernel
theorem dX8_straighten_11 : decode cX8_straighten 11 = .ok (.if_icmp .ge 89, 3) := by decide +kernel
theorem dX8_straighten_14 : decode cX8_straighten 14 = .ok (.aload_n 0, 1) := by decide +kernel
theorem dX8_straighten_15 : decode cX8_straighten 15 = .ok (.iload_n 2, 1) := by decide +kernel
theorem dX8_straighten_16 : decode cX8_straighten 16 = .ok (.iaload, 1) := by decide +kernel
theorem dX8_straighten_17 : decode cX8_straighten 17 = .ok (.istore_n 3, 1) := by decide +kernel
theorem dX8_straighten_18 : decode cX8_straighten 18 = .ok (.aload_n 1, 1) := by decide +kernel
theorem dX8_straighten_19 : decode cX8_straighten 19 = .ok (.iload_n 2, 1) := by decide +kernel
theorem dX8_straighten_20 : decode cX8_straighten 20 = .ok (.iaload, 1) := by decide +kernel
theorem dX8_straighten_21 : decode cX8_straighten 21 = .ok (.istore 4, 2) := by decide +kernel
theorem dX8_straighten_23 : decode cX8_straighten 23 = .ok (.iload_n 3, 1) := by decide +kernel
theorem dX8_straighten_24 : decode cX8_straighten 24 = .ok (.ifCond .le 38, 3) := by decide +kernel
theorem dX8_straighten_27 : decode cX8_straighten 27 = .ok (.aload_n 0, 1) := by decide +kernel
theorem dX8_straighten_28 : decode cX8_straighten 28 = .ok (.iload_n 2, 1) := by decide +kernel
theorem dX8_straighten_29 : decode cX8_straighten 29 = .ok (.iload 4, 2) := by decide +kernel
theorem dX8_straighten_31 : decode cX8_straighten 31 = .ok (.ifCond .le 7, 3) := by decide +kernel
theorem dX8_straighten_34 : decode cX8_straighten 34 = .ok (.iload_n 3, 1) := by decide +kernel
theorem dX8_straighten_35 : decode cX8_straighten 35 = .ok (.goto 7, 3) := by decide +kernel
theorem dX8_straighten_38 : decode cX8_straighten 38 = .ok (.iload_n 3, 1) := by decide +kernel
theorem dX8_straighten_39 : decode cX8_straighten 39 = .ok (.iload 4, 2) := by decide +kernel
theorem dX8_straighten_41 : decode cX8_straighten 41 = .ok (.iadd, 1) := by decide +kernel
theorem dX8_straighten_42 : decode cX8_straighten 42 = .ok (.iastore, 1) := by decide +kernel
theorem dX8_straighten_43 : decode cX8_straighten 43 = .ok (.aload_n 1, 1) := by decide +kernel
theorem dX8_straighten_44 : decode cX8_straighten 44 = .ok (.iload_n 2, 1) := by decide +kernel
theorem dX8_straighten_45 : decode cX8_straighten 45 = .ok (.iload 4, 2) := by decide +kernel
theorem dX8_straighten_47 : decode cX8_straighten 47 = .ok (.ifCond .le 10, 3) := by decide +kernel
theorem dX8_straighten_50 : decode cX8_straighten 50 = .ok (.iload_n 3, 1) := by decide +kernel
theorem dX8_straighten_51 : decode cX8_straighten 51 = .ok (.iload 4, 2) := by decide +kernel
theorem dX8_straighten_53 : decode cX8_straighten 53 = .ok (.isub, 1) := by decide +kernel
theorem dX8_straighten_54 : decode cX8_straighten 54 = .ok (.goto 4, 3) := by decide +kernel
theorem dX8_straighten_57 : decode cX8_straighten 57 = .ok (.iload_n 3, 1) := by decide +kernel
theorem dX8_straighten_58 : decode cX8_straighten 58 = .ok (.iastore, 1) := by decide +kernel
theorem dX8_straighten_59 : decode cX8_straighten 59 = .ok (.goto 35, 3) := by decide +kernel
theorem dX8_straighten_62 : decode cX8_straighten 62 = .ok (.aload_n 0, 1) := by decide +kernel
theorem dX8_straighten_63 : decode cX8_straighten 63 = .ok (.iload_n 2, 1) := by decide +kernel
theorem dX8_straighten_64 : decode cX8_straighten 64 = .ok (.iload 4, 2) := by decide +kernel
theorem dX8_straighten_66 : decode cX8_straighten 66 = .ok (.ifCond .le 7, 3) := by decide +kernel
theorem dX8_straighten_69 : decode cX8_straighten 69 = .ok (.iload_n 3, 1) := by decide +kernel
theorem dX8_straighten_70 : decode cX8_straighten 70 = .ok (.goto 7, 3) := by decide +kernel
theorem dX8_straighten_73 : decode cX8_straighten 73 = .ok (.iload_n 3, 1) := by decide +kernel
theorem dX8_straighten_74 : decode cX8_straighten 74 = .ok (.iload 4, 2) := by decide +kernel
theorem dX8_straighten_76 : decode cX8_straighten 76 = .ok (.isub, 1) := by decide +kernel
theorem dX8_straighten_77 : decode cX8_straighten 77 = .ok (.iastore, 1) := by decide +kernel
theorem dX8_straighten_78 : decode cX8_straighten 78 = .ok (.aload_n 1, 1) := by decide +kernel
theorem dX8_straighten_79 : decode cX8_straighten 79 = .ok (.iload_n 2, 1) := by decide +kernel
theorem dX8_straighten_80 : decode cX8_straighten 80 = .ok (.iload 4, 2) := by decide +kernel
theorem dX8_straighten_82 : decode cX8_straighten 82 = .ok (.ifCond .le 10, 3) := by decide +kernel
theorem dX8_straighten_85 : decode cX8_straighten 85 = .ok (.iload_n 3, 1) := by decide +kernel
theorem dX8_straighten_86 : decode cX8_straighten 86 = .ok (.iload 4, 2) := by decide +kernel
theorem dX8_straighten_88 : decode cX8_straighten 88 = .ok (.iadd, 1) := by decide +kernel
theorem dX8_straighten_89 : decode cX8_straighten 89 = .ok (.goto 4, 3) := by decide +kernel
theorem dX8_straighten_92 : decode cX8_straighten 92 = .ok (.iload_n 3, 1) := by decide +kernel
theorem dX8_straighten_93 : decode cX8_straighten 93 = .ok (.iastore, 1) := by decide +kernel
theorem dX8_straighten_94 : decode cX8_straighten 94 = .ok (.iinc 2 1, 3) := by decide +kernel
theorem dX8_straighten_97 : decode cX8_straighten 97 = .ok (.goto (-95), 3) := by decide +kernel
theorem dX8_straighten_100 : decode cX8_straighten 100 = .ok (.return_, 1) := by decide +kernel
theorem dX8_layHalves_0 : decode cX8_layHalves 0 = .ok (.iconst 0, 1) := by decide +kernel
theorem dX8_layHalves_1 : decode cX8_layHalves 1 = .ok (.istore_n 1, 1) := by decide +kernel
theorem dX8_layHalves_2 : decode cX8_layHalves 2 = .ok (.iload_n 1, 1) := by decide +kernel
theorem dX8_layHalves_3 : decode cX8_layHalves 3 = .ok (.aload_n 0, 1) := by decide +kernel
theorem dX8_layHalves_4 : decode cX8_layHalves 4 = .ok (.getfield 58, 3) := by decide +kernel
theorem dX8_layHalves_7 : decode cX8_layHalves 7 = .ok (.if_icmp .ge 79, 3) := by decide +kernel
theorem dX8_layHalves_10 : decode cX8_layHalves 10 = .ok (.iload_n 1, 1) := by decide +kernel
theorem dX8_layHalves_11 : decode cX8_layHalves 11 = .ok (.aload_n 0, 1) := by decide +kernel
theorem dX8_layHalves_12 : decode cX8_layHalves 12 = .ok (.getfield 53, 3) := by decide +kernel
theorem dX8_layHalves_15 : decode cX8_layHalves 15 = .ok (.arraylength, 1) := by decide +kernel
theorem dX8_layHalves_16 : decode cX8_layHalves 16 = .ok (.if_icmp .ge 70, 3) := by decide +kernel
theorem dX8_layHalves_19 : decode cX8_layHalves 19 = .ok (.aload_n 0, 1) := by decide +kernel
theorem dX8_layHalves_20 : decode cX8_layHalves 20 = .ok (.getfield 47, 3) := by decide +kernel
theorem dX8_layHalves_23 : decode cX8_layHalves 23 = .ok (.aload_n 0, 1) := by decide +kernel
theorem dX8_layHalves_24 : decode cX8_layHalves 24 = .ok (.getfield 53, 3) := by decide +kernel
theorem dX8_layHalves_27 : decode cX8_layHalves 27 = .ok (.iload_n 1, 1) := by decide +kernel
theorem dX8_layHalves_28 : decode cX8_layHalves 28 = .ok (.aaload, 1) := by decide +kernel
theorem dX8_layHalves_29 : decode cX8_layHalves 29 = .ok (.invokevirtual 209, 3) := by decide +kernel
theorem dX8_layHalves_32 : decode cX8_layHalves 32 = .ok (.aload_n 0, 1) := by decide +kernel
theorem dX8_layHalves_33 : decode cX8_layHalves 33 = .ok (.getfield 65, 3) := by decide +kernel
theorem dX8_layHalves_36 : decode cX8_layHalves 36 = .ok (.ifCond .le 28, 3) := by decide +kernel
theorem dX8_layHalves_39 : decode cX8_layHalves 39 = .ok (.aload_n 0, 1) := by decide +kernel
theorem dX8_layHalves_40 : decode cX8_layHalves 40 = .ok (.getfield 53, 3) := by decide +kernel
theorem dX8_layHalves_43 : decode cX8_layHalves 43 = .ok (.iload_n 1, 1) := by decide +kernel
theorem dX8_layHalves_44 : decode cX8_layHalves 44 = .ok (.aaload, 1) := by decide +kernel
theorem dX8_layHalves_45 : decode cX8_layHalves 45 = .ok (.aload_n 0, 1) := by decide +kernel
theorem dX8_layHalves_46 : decode cX8_layHalves 46 = .ok (.getfield 65, 3) := by decide +kernel
theorem dX8_layHalves_49 : decode cX8_layHalves 49 = .ok (.iconst 1, 1) := by decide +kernel
theorem dX8_layHalves_50 : decode cX8_layHalves 50 = .ok (.isub, 1) := by decide +kernel
theorem dX8_layHalves_51 : decode cX8_layHalves 51 = .ok (.bipush 16, 2) := by decide +kernel
theorem dX8_layHalves_53 : decode cX8_layHalves 53 = .ok (.imul, 1) := by decide +kernel
theorem dX8_layHalves_54 : decode cX8_layHalves 54 = .ok (.aload_n 0, 1) := by decide +kernel
theorem dX8_layHalves_55 : decode cX8_layHalves 55 = .ok (.getfield 47, 3) := by decide +kernel
theorem dX8_layHalves_58 : decode cX8_layHalves 58 = .ok (.getfield 213, 3) := by decide +kernel
theorem dX8_layHalves_61 : decode cX8_layHalves 61 = .ok (.invokevirtual 217, 3) := by decide +kernel
theorem dX8_layHalves_64 : decode cX8_layHalves 64 = .ok (.aload_n 0, 1) := by decide +kernel
theorem dX8_layHalves_65 : decode cX8_layHalves 65 = .ok (.getfield 53, 3) := by decide +kernel
theorem dX8_layHalves_68 : decode cX8_layHalves 68 = .ok (.iload_n 1, 1) := by decide +kernel
theorem dX8_layHalves_69 : decode cX8_layHalves 69 = .ok (.aaload, 1) := by decide +kernel
theorem dX8_layHalves_70 : decode cX8_layHalves 70 = .ok (.aload_n 0, 1) := by decide +kernel
theorem dX8_layHalves_71 : decode cX8_layHalves 71 = .ok (.getfield 47, 3) := by decide +kernel
theorem dX8_layHalves_74 : decode cX8_layHalves 74 = .ok (.getfield 213, 3) := by decide +kernel
theorem dX8_layHalves_77 : decode cX8_layHalves 77 = .ok (.invokevirtual 221, 3) := by decide +kernel
theorem dX8_layHalves_80 : decode cX8_layHalves 80 = .ok (.iinc 1 1, 3) := by decide +kernel
theorem dX8_layHalves_83 : decode cX8_layHalves 83 = .ok (.goto (-81), 3) := by decide +kernel
theorem dX8_layHalves_86 : decode cX8_layHalves 86 = .ok (.return_, 1) := by decide +kernel
theorem dX8_cutWhereTold_0 : decode cX8_cutWhereTold 0 = .ok (.aload_n 0, 1) := by decide +kernel
theorem dX8_cutWhereTold_1 : decode cX8_cutWhereTold 1 = .ok (.getfield 19, 3) := by decide +kernel
theorem dX8_cutWhereTold_4 : decode cX8_cutWhereTold 4 = .ok (.getfield 225, 3) := by decide +kernel
theorem dX8_cutWhereTold_7 : decode cX8_cutWhereTold 7 = .ok (.ifCond .eq 37, 3) := by decide +kernel
theorem dX8_cutWhereTold_10 : decode cX8_cutWhereTold 10 = .ok (.aload_n 0, 1) := by decide +kernel
theorem dX8_cutWhereTold_11 : decode cX8_cutWhereTold 11 = .ok (.getfield 19, 3) := by decide +kernel
theorem dX8_cutWhereTold_14 : decode cX8_cutWhereTold 14 = .ok (.getfield 228, 3) := by decide +kernel
theorem dX8_cutWhereTold_17 : decode cX8_cutWhereTold 17 = .ok (.lconst 0, 1) := by decide +kernel
theorem dX8_cutWhereTold_18 : decode cX8_cutWhereTold 18 = .ok (.lcmp, 1) := by decide +kernel
theorem dX8_cutWhereTold_19 : decode cX8_cutWhereTold 19 = .ok (.ifCond .lt 25, 3) := by decide +kernel
theorem dX8_cutWhereTold_22 : decode cX8_cutWhereTold 22 = .ok (.aload_n 0, 1) := by decide +kernel
theorem dX8_cutWhereTold_23 : decode cX8_cutWhereTold 23 = .ok (.getfield 19, 3) := by decide +kernel
theorem dX8_cutWhereTold_26 : decode cX8_cutWhereTold 26 = .ok (.getfield 228, 3) := by decide +kernel
theorem dX8_cutWhereTold_29 : decode cX8_cutWhereTold 29 = .ok (.iload_n 1, 1) := by decide +kernel
theorem dX8_cutWhereTold_30 : decode cX8_cutWhereTold 30 = .ok (.i2l, 1) := by decide +kernel
theorem dX8_cutWhereTold_31 : decode cX8_cutWhereTold 31 = .ok (.lcmp, 1) := by decide +kernel
theorem dX8_cutWhereTold_32 : decode cX8_cutWhereTold 32 = .ok (.ifCond .ge 12, 3) := by decide +kernel
theorem dX8_cutWhereTold_35 : decode cX8_cutWhereTold 35 = .ok (.aload_n 0, 1) := by decide +kernel
theorem dX8_cutWhereTold_36 : decode cX8_cutWhereTold 36 = .ok (.getfield 19, 3) := by decide +kernel
theorem dX8_cutWhereTold_39 : decode cX8_cutWhereTold 39 = .ok (.getfield 228, 3) := by decide +kernel
theorem dX8_cutWhereTold_42 : decode cX8_cutWhereTold 42 = .ok (.l2i, 1) := by decide +kernel
theorem dX8_cutWhereTold_43 : decode cX8_cutWhereTold 43 = .ok (.ireturn, 1) := by decide +kernel
theorem dX8_cutWhereTold_44 : decode cX8_cutWhereTold 44 = .ok (.iload_n 1, 1) := by decide +kernel
theorem dX8_cutWhereTold_45 : decode cX8_cutWhereTold 45 = .ok (.ireturn, 1) := by decide +kernel
