theorem dX0_has_0 : decode cX0_has 0 = .ok (.iload_n 0, 1) := by decide +kernel
theorem dX0_has_1 : decode cX0_has 1 = .ok (.iload_n 1, 1) := by decide +kernel
theorem dX0_has_2 : decode cX0_has 2 = .ok (.ishr, 1) := by decide +kernel
theorem dX0_has_3 : decode cX0_has 3 = .ok (.iconst 1, 1) := by decide +kernel
theorem dX0_has_4 : decode cX0_has 4 = .ok (.iand, 1) := by decide +kernel
theorem dX0_has_5 : decode cX0_has 5 = .ok (.iconst 1, 1) := by decide +kernel
theorem dX0_has_6 : decode cX0_has 6 = .ok (.if_icmp .ne 7, 3) := by decide +kernel
theorem dX0_has_9 : decode cX0_has 9 = .ok (.iconst 1, 1) := by decide +kernel
theorem dX0_has_10 : decode cX0_has 10 = .ok (.goto 4, 3) := by decide +kernel
theorem dX0_has_13 : decode cX0_has 13 = .ok (.iconst 0, 1) := by decide +kernel
theorem dX0_has_14 : decode cX0_has 14 = .ok (.ireturn, 1) := by decide +kernel
theorem dX0_lowest_0 : decode cX0_lowest 0 = .ok (.iload_n 0, 1) := by decide +kernel
theorem dX0_lowest_1 : decode cX0_lowest 1 = .ok (.iload_n 0, 1) := by decide +kernel
theorem dX0_lowest_2 : decode cX0_lowest 2 = .ok (.ineg, 1) := by decide +kernel
theorem dX0_lowest_3 : decode cX0_lowest 3 = .ok (.iand, 1) := by decide +kernel
theorem dX0_lowest_4 : decode cX0_lowest 4 = .ok (.ireturn, 1) := by decide +kernel
theorem dX0_indexOf_0 : decode cX0_indexOf 0 = .ok (.iload_n 0, 1) := by decide +kernel
theorem dX0_indexOf_1 : decode cX0_indexOf 1 = .ok (.invokestatic 7, 3) := by decide +kernel
theorem dX0_indexOf_4 : decode cX0_indexOf 4 = .ok (.iconst 1, 1) := by decide +kernel
theorem dX0_indexOf_5 : decode cX0_indexOf 5 = .ok (.isub, 1) := by decide +kernel
theorem dX0_indexOf_6 : decode cX0_indexOf 6 = .ok (.invokestatic 13, 3) := by decide +kernel
theorem dX0_indexOf_9 : decode cX0_indexOf 9 = .ok (.ireturn, 1) := by decide +kernel
theorem dX0_nextInRing_0 : decode cX0_nextInRing 0 = .ok (.iload_n 1, 1) := by decide +kernel
theorem dX0_nextInRing_1 : decode cX0_nextInRing 1 = .ok (.ifCond .ge 8, 3) := by decide +kernel
theorem dX0_nextInRing_4 : decode cX0_nextInRing 4 = .ok (.iload_n 0, 1) := by decide +kernel
theorem dX0_nextInRing_5 : decode cX0_nextInRing 5 = .ok (.invokestatic 7, 3) := by decide +kernel
theorem dX0_nextInRing_8 : decode cX0_nextInRing 8 = .ok (.ireturn, 1) := by decide +kernel
theorem dX0_nextInRing_9 : decode cX0_nextInRing 9 = .ok (.iload_n 0, 1) := by decide +kernel
theorem dX0_nextInRing_10 : decode cX0_nextInRing 10 = .ok (.iload_n 1, 1) := by decide +kernel
theorem dX0_nextInRing_11 : decode cX0_nextInRing 11 = .ok (.iconst 1, 1) := by decide +kernel
theorem dX0_nextInRing_12 : decode cX0_nextInRing 12 = .ok (.iadd, 1) := by decide +kernel
theorem dX0_nextInRing_13 : decode cX0_nextInRing 13 = .ok (.ishr, 1) := by decide +kernel
theorem dX0_nextInRing_14 : decode cX0_nextInRing 14 = .ok (.iload_n 1, 1) := by decide +kernel
theorem dX0_nextInRing_15 : decode cX0_nextInRing 15 = .ok (.iconst 1, 1) := by decide +kernel
theorem dX0_nextInRing_16 : decode cX0_nextInRing 16 = .ok (.iadd, 1) := by decide +kernel
theorem dX0_nextInRing_17 : decode cX0_nextInRing 17 = .ok (.ishl, 1) := by decide +kernel
theorem dX0_nextInRing_18 : decode cX0_nextInRing 18 = .ok (.istore_n 3, 1) := by decide +kernel
theorem dX0_nextInRing_19 : decode cX0_nextInRing 19 = .ok (.iload_n 1, 1) := by decide +kernel
theorem dX0_nextInRing_20 : decode cX0_nextInRing 20 = .ok (.iload_n 2, 1) := by decide +kernel
theorem dX0_nextInRing_21 : decode cX0_nextInRing 21 = .ok (.if_icmp .ge 14, 3) := by decide +kernel
theorem dX0_nextInRing_24 : decode cX0_nextInRing 24 = .ok (.iload_n 3, 1) := by decide +kernel
theorem dX0_nextInRing_25 : decode cX0_nextInRing 25 = .ok (.ifCond .eq 10, 3) := by decide +kernel
theorem dX0_nextInRing_28 : decode cX0_nextInRing 28 = .ok (.iload_n 3, 1) := by decide +kernel
theorem dX0_nextInRing_29 : decode cX0_nextInRing 29 = .ok (.invokestatic 7, 3) := by decide +kernel
theorem dX0_nextInRing_32 : decode cX0_nextInRing 32 = .ok (.goto 7, 3) := by decide +kernel
theorem dX0_nextInRing_35 : decode cX0_nextInRing 35 = .ok (.iload_n 0, 1) := by decide +kernel
theorem dX0_nextInRing_36 : decode cX0_nextInRing 36 = .ok (.invokestatic 7, 3) := by decide +kernel
theorem dX0_nextInRing_39 : decode cX0_nextInRing 39 = .ok (.ireturn, 1) := by decide +kernel
theorem dX0_drawn_0 : decode cX0_drawn 0 = .ok (.iload_n 0, 1) := by decide +kernel
theorem dX0_drawn_1 : decode cX0_drawn 1 = .ok (.invokestatic 13, 3) := by decide +kernel
theorem dX0_drawn_4 : decode cX0_drawn 4 = .ok (.istore_n 2, 1) := by decide +kernel
theorem dX0_drawn_5 : decode cX0_drawn 5 = .ok (.iload_n 2, 1) := by decide +kernel
theorem dX0_drawn_6 : decode cX0_drawn 6 = .ok (.ifCond .ne 5, 3) := by decide +kernel
theorem dX0_drawn_9 : decode cX0_drawn 9 = .ok (.iconst 0, 1) := by decide +kernel
theorem dX0_drawn_10 : decode cX0_drawn 10 = .ok (.ireturn, 1) := by decide +kernel
theorem dX0_drawn_11 : decode cX0_drawn 11 = .ok (.iload_n 0, 1) := by decide +kernel
theorem dX0_drawn_12 : decode cX0_drawn 12 = .ok (.istore_n 3, 1) := by decide +kernel
theorem dX0_drawn_13 : decode cX0_drawn 13 = .ok (.iload_n 1, 1) := by decide +kernel
theorem dX0_drawn_14 : decode cX0_drawn 14 = .ok (.iload_n 2, 1) := by decide +kernel
theorem dX0_drawn_15 : decode cX0_drawn 15 = .ok (.irem, 1) := by decide +kernel
theorem dX0_drawn_16 : decode cX0_drawn 16 = .ok (.istore 4, 2) := by decide +kernel
theorem dX0_drawn_18 : decode cX0_drawn 18 = .ok (.iload 4, 2) := by decide +kernel
theorem dX0_drawn_20 : decode cX0_drawn 20 = .ok (.ifCond .le 16, 3) := by decide +kernel
theorem dX0_drawn_23 : decode cX0_drawn 23 = .ok (.iload_n 3, 1) := by decide +kernel
theorem dX0_drawn_24 : decode cX0_drawn 24 = .ok (.iload_n 3, 1) := by decide +kernel
theorem dX0_drawn_25 : decode cX0_drawn 25 = .ok (.invokestatic 7, 3) := by decide +kernel
theorem dX0_drawn_28 : decode cX0_drawn 28 = .ok (.isub, 1) := by decide +kernel
theorem dX0_drawn_29 : decode cX0_drawn 29 = .ok (.istore_n 3, 1) := by decide +kernel
theorem dX0_drawn_30 : decode cX0_drawn 30 = .ok (.iinc 4 (-1), 3) := by decide +kernel
theorem dX0_drawn_33 : decode cX0_drawn 33 = .ok (.goto (-15), 3) := by decide +kernel
theorem dX0_drawn_36 : decode cX0_drawn 36 = .ok (.iload_n 3, 1) := by decide +kernel
theorem dX0_drawn_37 : decode cX0_drawn 37 = .ok (.invokestatic 7, 3) := by decide +kernel
theorem dX0_drawn_40 : decode cX0_drawn 40 = .ok (.ireturn, 1) := by decide +kernel
theorem dX1_init_0 : decode cX1_init 0 = .ok (.aload_n 0, 1) := by decide +kernel
theorem dX1_init_1 : decode cX1_init 1 = .ok (.invokespecial 3, 3) := by decide +kernel
theorem dX1_init_4 : decode cX1_init 4 = .ok (.aload_n 0, 1) := by decide +kernel
theorem dX1_init_5 : decode cX1_init 5 = .ok (.bipush 6, 2) := by decide +kernel
theorem dX1_init_7 : decode cX1_init 7 = .ok (.newarray .int, 2) := by decide +kernel
theorem dX1_init_9 : decode cX1_init 9 = .ok (.putfield 9, 3) := by decide +kernel
theorem dX1_init_12 : decode cX1_init 12 = .ok (.aload_n 0, 1) := by decide +kernel
theorem dX1_init_13 : decode cX1_init 13 = .ok (.bipush 6, 2) := by decide +kernel
theorem dX1_init_15 : decode cX1_init 15 = .ok (.newarray .int, 2) := by decide +kernel
theorem dX1_init_17 : decode cX1_init 17 = .ok (.putfield 15, 3) := by decide +kernel
theorem dX1_init_20 : decode cX1_init 20 = .ok (.return_, 1) := by decide +kernel
theorem dX1_begin_0 : decode cX1_begin 0 = .ok (.iload_n 1, 1) := by decide +kernel
theorem dX1_begin_1 : decode cX1_begin 1 = .ok (.iconst 1, 1) := by decide +kernel
theorem dX1_begin_2 : decode cX1_begin 2 = .ok (.if_icmp .lt 30, 3) := by decide +kernel
theorem dX1_begin_5 : decode cX1_begin 5 = .ok (.iload_n 1, 1) := by decide +kernel
theorem dX1_begin_6 : decode cX1_begin 6 = .ok (.iconst 4, 1) := by decide +kernel
theorem dX1_begin_7 : decode cX1_begin 7 = .ok (.if_icmp .gt 25, 3) := by decide +kernel
theorem dX1_begin_10 : decode cX1_begin 10 = .ok (.iload_n 2, 1) := by decide +kernel
theorem dX1_begin_11 : decode cX1_begin 11 = .ok (.iconst 2, 1) := by decide +kernel
theorem dX1_begin_12 : decode cX1_begin 12 = .ok (.if_icmp .lt 20, 3) := by decide +kernel
theorem dX1_begin_15 : decode cX1_begin 15 = .ok (.iload_n 2, 1) := by decide +kernel
theorem dX1_begin_16 : decode cX1_begin 16 = .ok (.bipush 6, 2) := by decide +kernel
theorem dX1_begin_18 : decode cX1_begin 18 = .ok (.if_icmp .gt 14, 3) := by decide +kernel
theorem dX1_begin_21 : decode cX1_begin 21 = .ok (.iload_n 3, 1) := by decide +kernel
theorem dX1_begin_22 : decode cX1_begin 22 = .ok (.iconst 2, 1) := by decide +kernel
theorem dX1_begin_23 : decode cX1_begin 23 = .ok (.if_icmp .lt 9, 3) := by decide +kernel
theorem dX1_begin_26 : decode cX1_begin 26 = .ok (.iload_n 3, 1) := by decide +kernel
theorem dX1_begin_27 : decode cX1_begin 27 = .ok (.bipush 7, 2) := by decide +kernel
theorem dX1_begin_29 : decode cX1_begin 29 = .ok (.if_icmp .le 5, 3) := by decide +kernel
theorem dX1_begin_32 : decode cX1_begin 32 = .ok (.iconst 0, 1) := by decide +kernel
theorem dX1_begin_33 : decode cX1_begin 33 = .ok (.ireturn, 1) := by decide +kernel
theorem dX1_begin_34 : decode cX1_begin 34 = .ok (.iload_n 1, 1) := by decide +kernel
theorem dX1_begin_35 : decode cX1_begin 35 = .ok (.iconst 2, 1) := by decide +kernel
theorem dX1_begin_36 : decode cX1_begin 36 = .ok (.if_icmp .ne 10, 3) := by decide +kernel
theorem dX1_begin_39 : decode cX1_begin 39 = .ok (.iload_n 3, 1) := by decide +kernel
theorem dX1_begin_40 : decode cX1_begin 40 = .ok (.iload_n 2, 1) := by decide +kernel
theorem dX1_begin_41 : decode cX1_begin 41 = .ok (.iconst 1, 1) := by decide +kernel
theorem dX1_begin_42 : decode cX1_begin 42 = .ok (.iadd, 1) := by decide +kernel
theorem dX1_begin_43 : decode cX1_begin 43 = .ok (.if_icmp .ne 13, 3) := by decide +kernel
theorem dX1_begin_46 : decode cX1_begin 46 = .ok (.iload_n 1, 1) := by decide +kernel
theorem dX1_begin_47 : decode cX1_begin 47 = .ok (.iconst 3, 1) := by decide +kernel
theorem dX1_begin_48 : decode cX1_begin 48 = .ok (.if_icmp .ne 10, 3) := by decide +kernel
theorem dX1_begin_51 : decode cX1_begin 51 = .ok (.iload_n 3, 1) := by decide +kernel
theorem dX1_begin_52 : decode cX1_begin 52 = .ok (.iload_n 2, 1) := by decide +kernel
theorem dX1_begin_53 : decode cX1_begin 53 = .ok (.if_icmp .ge 5, 3) := by decide +kernel
theorem dX1_begin_56 : decode cX1_begin 56 = .ok (.iconst 0, 1) := by decide +kernel
theorem dX1_begin_57 : decode cX1_begin 57 = .ok (.ireturn, 1) := by decide +kernel
theorem dX1_begin_58 : decode cX1_begin 58 = .ok (.iconst 1, 1) := by decide +kernel
theorem dX1_begin_59 : decode cX1_begin 59 = .ok (.istore 4, 2) := by decide +kernel
theorem dX1_begin_61 : decode cX1_begin 61 = .ok (.iconst 0, 1) := by decide +kernel
theorem dX1_begin_62 : decode cX1_begin 62 = .ok (.istore 5, 2) := by decide +kernel
theorem dX1_begin_64 : decode cX1_begin 64 = .ok (.iload 5, 2) := by decide +kernel
theorem dX1_begin_66 : decode cX1_begin 66 = .ok (.iload_n 2, 1) := by decide +kernel
theorem dX1_begin_67 : decode cX1_begin 67 = .ok (.if_icmp .ge 36, 3) := by decide +kernel
theorem dX1_begin_70 : decode cX1_begin 70 = .ok (.aload_n 0, 1) := by decide +kernel
theorem dX1_begin_71 : decode cX1_begin 71 = .ok (.getfield 9, 3) := by decide +kernel
theorem dX1_begin_74 : decode cX1_begin 74 = .ok (.iload 5, 2) := by decide +kernel
theorem dX1_begin_76 : decode cX1_begin 76 = .ok (.iconst 0, 1) := by decide +kernel
theorem dX1_begin_77 : decode cX1_begin 77 = .ok (.invokestatic 18, 3) := by decide +kernel
theorem dX1_begin_80 : decode cX1_begin 80 = .ok (.aload_n 0, 1) := by decide +kernel
theorem dX1_begin_81 : decode cX1_begin 81 = .ok (.getfield 15, 3) := by decide +kernel
theorem dX1_begin_84 : decode cX1_begin 84 = .ok (.iload 5, 2) := by decide +kernel
theorem dX1_begin_86 : decode cX1_begin 86 = .ok (.iload 4, 2) := by decide +kernel
theorem dX1_begin_88 : decode cX1_begin 88 = .ok (.invokestatic 18, 3) := by decide +kernel
theorem dX1_begin_91 : decode cX1_begin 91 = .ok (.iload 4, 2) := by decide +kernel
theorem dX1_begin_93 : decode cX1_begin 93 = .ok (.iload_n 3, 1) := by decide +kernel
theorem dX1_begin_94 : decode cX1_begin 94 = .ok (.imul, 1) := by decide +kernel
theorem dX1_begin_95 : decode cX1_begin 95 = .ok (.istore 4, 2) := by decide +kernel
theorem dX1_begin_97 : decode cX1_begin 97 = .ok (.iinc 5 1, 3) := by decide +kernel
theorem dX1_begin_100 : decode cX1_begin 100 = .ok (.goto (-36), 3) := by decide +kernel
theorem dX1_begin_103 : decode cX1_begin 103 = .ok (.aload_n 0, 1) := by decide +kernel
theorem dX1_begin_104 : decode cX1_begin 104 = .ok (.iload_n 1, 1) := by decide +kernel
theorem dX1_begin_105 : decode cX1_begin 105 = .ok (.putfield 24, 3) := by decide +kernel
theorem dX1_begin_108 : decode cX1_begin 108 = .ok (.aload_n 0, 1) := by decide +kernel
theorem dX1_begin_109 : decode cX1_begin 109 = .ok (.iload_n 2, 1) := by decide +kernel
theorem dX1_begin_110 : decode cX1_begin 110 = .ok (.putfield 28, 3) := by decide +kernel
theorem dX1_begin_113 : decode cX1_begin 113 = .ok (.aload_n 0, 1) := by decide +kernel
theorem dX1_begin_114 : decode cX1_begin 114 = .ok (.iload_n 3, 1) := by decide +kernel
theorem dX1_begin_115 : decode cX1_begin 115 = .ok (.putfield 31, 3) := by decide +kernel
theorem dX1_begin_118 : decode cX1_begin 118 = .ok (.aload_n 0, 1) := by decide +kernel
theorem dX1_begin_119 : decode cX1_begin 119 = .ok (.iload 4, 2) := by decide +kernel
theorem dX1_begin_121 : decode cX1_begin 121 = .ok (.putfield 34, 3) := by decide +kernel
theorem dX1_begin_124 : decode cX1_begin 124 = .ok (.aload_n 0, 1) := by decide +kernel
theorem dX1_begin_125 : decode cX1_begin 125 = .ok (.iconst 0, 1) := by decide +kernel
theorem dX1_begin_126 : decode cX1_begin 126 = .ok (.putfield 37, 3) := by decide +kernel
theorem dX1_begin_129 : decode cX1_begin 129 = .ok (.aload_n 0, 1) := by decide +kernel
theorem dX1_begin_130 : decode cX1_begin 130 = .ok (.iconst 0, 1) := by decide +kernel
theorem dX1_begin_131 : decode cX1_begin 131 = .ok (.putfield 40, 3) := by decide +kernel
theorem dX1_begin_134 : decode cX1_begin 134 = .ok (.iload 4, 2) := by decide +kernel
theorem dX1_begin_136 : decode cX1_begin 136 = .ok (.sipush 4096, 3) := by decide +kernel
theorem dX1_begin_139 : decode cX1_begin 139 = .ok (.if_icmp .gt 7, 3) := by decide +kernel
theorem dX1_begin_142 : decode cX1_begin 142 = .ok (.iconst 1, 1) := by decide +kernel
theorem dX1_begin_143 : decode cX1_begin 143 = .ok (.goto 4, 3) := by decide +kernel
theorem dX1_begin_146 : decode cX1_begin 146 = .ok (.iconst 0, 1) := by decide +kernel
theorem dX1_begin_147 : decode cX1_begin 147 = .ok (.ireturn, 1) := by decide +kernel
theorem dX1_addWire_0 : decode cX1_addWire 0 = .ok (.aload_n 0, 1) := by decide +kernel
theorem dX1_addWire_1 : decode cX1_addWire 1 = .ok (.getfield 24, 3) := by decide +kernel
theorem dX1_addWire_4 : decode cX1_addWire 4 = .ok (.iconst 1, 1) := by decide +kernel
theorem dX1_addWire_5 : decode cX1_addWire 5 = .ok (.if_icmp .eq 33, 3) := by decide +kernel
theorem dX1_addWire_8 : decode cX1_addWire 8 = .ok (.aload_n 0, 1) := by decide +kernel
theorem dX1_addWire_9 : decode cX1_addWire 9 = .ok (.iload_n 1, 1) := by decide +kernel
theorem dX1_addWire_10 : decode cX1_addWire 10 = .ok (.invokevirtual 43, 3) := by decide +kernel
theorem dX1_addWire_13 : decode cX1_addWire 13 = .ok (.ifCond .eq 25, 3) := by decide +kernel
theorem dX1_addWire_16 : decode cX1_addWire 16 = .ok (.aload_n 0, 1) := by decide +kernel
theorem dX1_addWire_17 : decode cX1_addWire 17 = .ok (.iload_n 2, 1) := by decide +kernel
theorem dX1_addWire_18 : decode cX1_addWire 18 = .ok (.invokevirtual 43, 3) := by decide +kernel
theorem dX1_addWire_21 : decode cX1_addWire 21 = .ok (.ifCond .eq 17, 3) := by decide +kernel
theorem dX1_addWire_24 : decode cX1_addWire 24 = .ok (.iload_n 1, 1) := by decide +kernel
theorem dX1_addWire_25 : decode cX1_addWire 25 = .ok (.iload_n 2, 1) := by decide +kernel
theorem dX1_addWire_26 : decode cX1_addWire 26 = .ok (.if_icmp .eq 12, 3) := by decide +kernel
theorem dX1_addWire_29 : decode cX1_addWire 29 = .ok (.aload_n 0, 1) := by decide +kernel
theorem dX1_addWire_30 : decode cX1_addWire 30 = .ok (.iload_n 1, 1) := by decide +kernel
theorem dX1_addWire_31 : decode cX1_addWire 31 = .ok (.iload_n 2, 1) := by decide +kernel
theorem dX1_addWire_32 : decode cX1_addWire 32 = .ok (.invokevirtual 47, 3) := by decide +kernel
theorem dX1_addWire_35 : decode cX1_addWire 35 = .ok (.ifCond .eq 5, 3) := by decide +kernel
theorem dX1_addWire_38 : decode cX1_addWire 38 = .ok (.iconst 0, 1) := by decide +kernel
theorem dX1_addWire_39 : decode cX1_addWire 39 = .ok (.ireturn, 1) := by decide +kernel
theorem dX1_addWire_40 : decode cX1_addWire 40 = .ok (.aload_n 0, 1) := by decide +kernel
theorem dX1_addWire_41 : decode cX1_addWire 41 = .ok (.getfield 9, 3) := by decide +kernel
theorem dX1_addWire_44 : decode cX1_addWire 44 = .ok (.iload_n 1, 1) := by decide +kernel
theorem dX1_addWire_45 : decode cX1_addWire 45 = .ok (.aload_n 0, 1) := by decide +kernel
theorem dX1_addWire_46 : decode cX1_addWire 46 = .ok (.getfield 9, 3) := by decide +kernel
theorem dX1_addWire_49 : decode cX1_addWire 49 = .ok (.iload_n 1, 1) := by decide +kernel
theorem dX1_addWire_50 : decode cX1_addWire 50 = .ok (.invokestatic 51, 3) := by decide +kernel
theorem dX1_addWire_53 : decode cX1_addWire 53 = .ok (.iconst 1, 1) := by decide +kernel
theorem dX1_addWire_54 : decode cX1_addWire 54 = .ok (.iload_n 2, 1) := by decide +kernel
theorem dX1_addWire_55 : decode cX1_addWire 55 = .ok (.ishl, 1) := by decide +kernel
theorem dX1_addWire_56 : decode cX1_addWire 56 = .ok (.ior, 1) := by decide +kernel
theorem dX1_addWire_57 : decode cX1_addWire 57 = .ok (.invokestatic 18, 3) := by decide +kernel
theorem dX1_addWire_60 : decode cX1_addWire 60 = .ok (.aload_n 0, 1) := by decide +kernel
theorem dX1_addWire_61 : decode cX1_addWire 61 = .ok (.getfield 9, 3) := by decide +kernel
theorem dX1_addWire_64 : decode cX1_addWire 64 = .ok (.iload_n 2, 1) := by decide +kernel
theorem dX1_addWire_65 : decode cX1_addWire 65 = .ok (.aload_n 0, 1) := by decide +kernel
theorem dX1_addWire_66 : decode cX1_addWire 66 = .ok (.getfield 9, 3) := by decide +kernel
theorem dX1_addWire_69 : decode cX1_addWire 69 = .ok (.iload_n 2, 1) := by decide +kernel
theorem dX1_addWire_70 : decode cX1_addWire 70 = .ok (.invokestatic 51, 3) := by decide +kernel
theorem dX1_addWire_73 : decode cX1_addWire 73 = .ok (.iconst 1, 1) := by decide +kernel
theorem dX1_addWire_74 : decode cX1_addWire 74 = .ok (.iload_n 1, 1) := by decide +kernel
theorem dX1_addWire_75 : decode cX1_addWire 75 = .ok (.ishl, 1) := by decide +kernel
theorem dX1_addWire_76 : decode cX1_addWire 76 = .ok (.ior, 1) := by decide +kernel
theorem dX1_addWire_77 : decode cX1_addWire 77 = .ok (.invokestatic 18, 3) := by decide +kernel
theorem dX1_addWire_80 : decode cX1_addWire 80 = .ok (.aload_n 0, 1) := by decide +kernel
theorem dX1_addWire_81 : decode cX1_addWire 81 = .ok (.dup, 1) := by decide +kernel
theorem dX1_addWire_82 : decode cX1_addWire 82 = .ok (.getfield 37, 3) := by decide +kernel
theorem dX1_addWire_85 : decode cX1_addWire 85 = .ok (.iconst 1, 1) := by decide +kernel
theorem dX1_addWire_86 : decode cX1_addWire 86 = .ok (.iadd, 1) := by decide +kernel
theorem dX1_addWire_87 : decode cX1_addWire 87 = .ok (.putfield 37, 3) := by decide +kernel
theorem dX1_addWire_90 : decode cX1_addWire 90 = .ok (.iconst 1, 1) := by decide +kernel
theorem dX1_addWire_91 : decode cX1_addWire 91 = .ok (.ireturn, 1) := by decide +kernel
theorem dX1_startWith_0 : decode cX1_startWith 0 = .ok (.aload_n 0, 1) := by decide +kernel
theorem dX1_startWith_1 : decode cX1_startWith 1 = .ok (.iload_n 1, 1) := by decide +kernel
theorem dX1_startWith_2 : decode cX1_startWith 2 = .ok (.invokevirtual 43, 3) := by decide +kernel
theorem dX1_startWith_5 : decode cX1_startWith 5 = .ok (.ifCond .eq 11, 3) := by decide +kernel
theorem dX1_startWith_8 : decode cX1_startWith 8 = .ok (.aload_n 0, 1) := by decide +kernel
theorem dX1_startWith_9 : decode cX1_startWith 9 = .ok (.iload_n 2, 1) := by decide +kernel
theorem dX1_startWith_10 : decode cX1_startWith 10 = .ok (.invokevirtual 55, 3) := by decide +kernel
theorem dX1_startWith_13 : decode cX1_startWith 13 = .ok (.ifCond .ne 5, 3) := by decide +kernel
theorem dX1_startWith_16 : decode cX1_startWith 16 = .ok (.iconst 0, 1) := by decide +kernel
theorem dX1_startWith_17 : decode cX1_startWith 17 = .ok (.ireturn, 1) := by decide +kernel
theorem dX1_startWith_18 : decode cX1_startWith 18 = .ok (.aload_n 0, 1) := by decide +kernel
theorem dX1_startWith_19 : decode cX1_startWith 19 = .ok (.aload_n 0, 1) := by decide +kernel
theorem dX1_startWith_20 : decode cX1_startWith 20 = .ok (.aload_n 0, 1) := by decide +kernel
theorem dX1_startWith_21 : decode cX1_startWith 21 = .ok (.getfield 40, 3) := by decide +kernel
theorem dX1_startWith_24 : decode cX1_startWith 24 = .ok (.iload_n 1, 1) := by decide +kernel
theorem dX1_startWith_25 : decode cX1_startWith 25 = .ok (.iload_n 2, 1) := by decide +kernel
theorem dX1_startWith_26 : decode cX1_startWith 26 = .ok (.invokevirtual 58, 3) := by decide +kernel
theorem dX1_startWith_29 : decode cX1_startWith 29 = .ok (.putfield 40, 3) := by decide +kernel
theorem dX1_startWith_32 : decode cX1_startWith 32 = .ok (.iconst 1, 1) := by decide +kernel
theorem dX1_startWith_33 : decode cX1_startWith 33 = .ok (.ireturn, 1) := by decide +kernel
theorem dX1_hasColoursEnough_0 : decode cX1_hasColoursEnough 0 = .ok (.iconst 0, 1) := by decide +kernel
theorem dX1_hasColoursEnough_1 : decode cX1_hasColoursEnough 1 = .ok (.istore_n 1, 1) := by decide +kernel
theorem dX1_hasColoursEnough_2 : decode cX1_hasColoursEnough 2 = .ok (.aload_n 0, 1) := by decide +kernel
theorem dX1_hasColoursEnough_3 : decode cX1_hasColoursEnough 3 = .ok (.getfield 24, 3) := by decide +kernel
theorem dX1_hasColoursEnough_6 : decode cX1_hasColoursEnough 6 = .ok (.iconst 4, 1) := by decide +kernel
theorem dX1_hasColoursEnough_7 : decode cX1_hasColoursEnough 7 = .ok (.if_icmp .ne 37, 3) := by decide +kernel
theorem dX1_hasColoursEnough_10 : decode cX1_hasColoursEnough 10 = .ok (.iload_n 1, 1) := by decide +kernel
theorem dX1_hasColoursEnough_11 : decode cX1_hasColoursEnough 11 = .ok (.aload_n 0, 1) := by decide +kernel
theorem dX1_hasColoursEnough_12 : decode cX1_hasColoursEnough 12 = .ok (.getfield 28, 3) := by decide +kernel
theorem dX1_hasColoursEnough_15 : decode cX1_hasColoursEnough 15 = .ok (.if_icmp .ge 29, 3) := by decide +kernel
theorem dX1_hasColoursEnough_18 : decode cX1_hasColoursEnough 18 = .ok (.aload_n 0, 1) := by decide +kernel
theorem dX1_hasColoursEnough_19 : decode cX1_hasColoursEnough 19 = .ok (.getfield 9, 3) := by decide +kernel
theorem dX1_hasColoursEnough_22 : decode cX1_hasColoursEnough 22 = .ok (.iload_n 1, 1) := by decide +kernel
theorem dX1_hasColoursEnough_23 : decode cX1_hasColoursEnough 23 = .ok (.invokestatic 51, 3) := by decide +kernel
theorem dX1_hasColoursEnough_26 : decode cX1_hasColoursEnough 26 = .ok (.invokestatic 62, 3) := by decide +kernel
theorem dX1_hasColoursEnough_29 : decode cX1_hasColoursEnough 29 = .ok (.aload_n 0, 1) := by decide +kernel
theorem dX1_hasColoursEnough_30 : decode cX1_hasColoursEnough 30 = .ok (.getfield 31, 3) := by decide +kernel
theorem dX1_hasColoursEnough_33 : decode cX1_hasColoursEnough 33 = .ok (.if_icmp .lt 5, 3) := by decide +kernel
theorem dX1_hasColoursEnough_36 : decode cX1_hasColoursEnough 36 = .ok (.iconst 0, 1) := by decide +kernel
theorem dX1_hasColoursEnough_37 : decode cX1_hasColoursEnough 37 = .ok (.ireturn, 1) := by decide +kernel
theorem dX1_hasColoursEnough_38 : decode cX1_hasColoursEnough 38 = .ok (.iinc 1 1, 3) := by decide +kernel
theorem dX1_hasColoursEnough_41 : decode cX1_hasColoursEnough 41 = .ok (.goto (-39), 3) := by decide +kernel
theorem dX1_hasColoursEnough_44 : decode cX1_hasColoursEnough 44 = .ok (.iconst 1, 1) := by decide +kernel
theorem dX1_hasColoursEnough_45 : decode cX1_hasColoursEnough 45 = .ok (.ireturn, 1) := by decide +kernel
theorem dX1_copyFrom_0 : decode cX1_copyFrom 0 = .ok (.aload_n 0, 1) := by decide +kernel
theorem dX1_copyFrom_1 : decode cX1_copyFrom 1 = .ok (.aload_n 1, 1) := by decide +kernel
theorem dX1_copyFrom_2 : decode cX1_copyFrom 2 = .ok (.getfield 24, 3) := by decide +kernel
theorem dX1_copyFrom_5 : decode cX1_copyFrom 5 = .ok (.putfield 24, 3) := by decide +kernel
theorem dX1_copyFrom_8 : decode cX1_copyFrom 8 = .ok (.aload_n 0, 1) := by decide +kernel
theorem dX1_copyFrom_9 : decode cX1_copyFrom 9 = .ok (.aload_n 1, 1) := by decide +kernel
theorem dX1_copyFrom_10 : decode cX1_copyFrom 10 = .ok (.getfield 28, 3) := by decide +kernel
theorem dX1_copyFrom_13 : decode cX1_copyFrom 13 = .ok (.putfield 28, 3) := by decide +kernel
theorem dX1_copyFrom_16 : decode cX1_copyFrom 16 = .ok (.aload_n 0, 1) := by decide +kernel
theorem dX1_copyFrom_17 : decode cX1_copyFrom 17 = .ok (.aload_n 1, 1) := by decide +kernel
theorem dX1_copyFrom_18 : decode cX1_copyFrom 18 = .ok (.getfield 31, 3) := by decide +kernel
theorem dX1_copyFrom_21 : decode cX1_copyFrom 21 = .ok (.putfield 31, 3) := by decide +kernel
theorem dX1_copyFrom_24 : decode cX1_copyFrom 24 = .ok (.aload_n 0, 1) := by decide +kernel
theorem dX1_copyFrom_25 : decode cX1_copyFrom 25 = .ok (.aload_n 1, 1) := by decide +kernel
theorem dX1_copyFrom_26 : decode cX1_copyFrom 26 = .ok (.getfield 34, 3) := by decide +kernel
theorem dX1_copyFrom_29 : decode cX1_copyFrom 29 = .ok (.putfield 34, 3) := by decide +kernel
theorem dX1_copyFrom_32 : decode cX1_copyFrom 32 = .ok (.aload_n 0, 1) := by decide +kernel
theorem dX1_copyFrom_33 : decode cX1_copyFrom 33 = .ok (.aload_n 1, 1) := by decide +kernel
theorem dX1_copyFrom_34 : decode cX1_copyFrom 34 = .ok (.getfield 37, 3) := by decide +kernel
theorem dX1_copyFrom_37 : decode cX1_copyFrom 37 = .ok (.putfield 37, 3) := by decide +kernel
theorem dX1_copyFrom_40 : decode cX1_copyFrom 40 = .ok (.aload_n 0, 1) := by decide +kernel
theorem dX1_copyFrom_41 : decode cX1_copyFrom 41 = .ok (.aload_n 1, 1) := by decide +kernel
theorem dX1_copyFrom_42 : decode cX1_copyFrom 42 = .ok (.getfield 40, 3) := by decide +kernel
theorem dX1_copyFrom_45 : decode cX1_copyFrom 45 = .ok (.putfield 40, 3) := by decide +kernel
theorem dX1_copyFrom_48 : decode cX1_copyFrom 48 = .ok (.iconst 0, 1) := by decide +kernel
theorem dX1_copyFrom_49 : decode cX1_copyFrom 49 = .ok (.istore_n 2, 1) := by decide +kernel
theorem dX1_copyFrom_50 : decode cX1_copyFrom 50 = .ok (.iload_n 2, 1) := by decide +kernel
theorem dX1_copyFrom_51 : decode cX1_copyFrom 51 = .ok (.bipush 6, 2) := by decide +kernel
theorem dX1_copyFrom_53 : decode cX1_copyFrom 53 = .ok (.if_icmp .ge 41, 3) := by decide +kernel
theorem dX1_copyFrom_56 : decode cX1_copyFrom 56 = .ok (.aload_n 0, 1) := by decide +kernel
theorem dX1_copyFrom_57 : decode cX1_copyFrom 57 = .ok (.getfield 9, 3) := by decide +kernel
theorem dX1_copyFrom_60 : decode cX1_copyFrom 60 = .ok (.iload_n 2, 1) := by decide +kernel
theorem dX1_copyFrom_61 : decode cX1_copyFrom 61 = .ok (.aload_n 1, 1) := by decide +kernel
theorem dX1_copyFrom_62 : decode cX1_copyFrom 62 = .ok (.getfield 9, 3) := by decide +kernel
theorem dX1_copyFrom_65 : decode cX1_copyFrom 65 = .ok (.iload_n 2, 1) := by decide +kernel
theorem dX1_copyFrom_66 : decode cX1_copyFrom 66 = .ok (.invokestatic 51, 3) := by decide +kernel
theorem dX1_copyFrom_69 : decode cX1_copyFrom 69 = .ok (.invokestatic 18, 3) := by decide +kernel
theorem dX1_copyFrom_72 : decode cX1_copyFrom 72 = .ok (.aload_n 0, 1) := by decide +kernel
theorem dX1_copyFrom_73 : decode cX1_copyFrom 73 = .ok (.getfield 15, 3) := by decide +kernel
theorem dX1_copyFrom_76 : decode cX1_copyFrom 76 = .ok (.iload_n 2, 1) := by decide +kernel
theorem dX1_copyFrom_77 : decode cX1_copyFrom 77 = .ok (.aload_n 1, 1) := by decide +kernel
theorem dX1_copyFrom_78 : decode cX1_copyFrom 78 = .ok (.getfield 15, 3) := by decide +kernel
theorem dX1_copyFrom_81 : decode cX1_copyFrom 81 = .ok (.iload_n 2, 1) := by decide +kernel
theorem dX1_copyFrom_82 : decode cX1_copyFrom 82 = .ok (.invokestatic 51, 3) := by decide +kernel
theorem dX1_copyFrom_85 : decode cX1_copyFrom 85 = .ok (.invokestatic 18, 3) := by decide +kernel
theorem dX1_copyFrom_88 : decode cX1_copyFrom 88 = .ok (.iinc 2 1, 3) := by decide +kernel
theorem dX1_copyFrom_91 : decode cX1_copyFrom 91 = .ok (.goto (-41), 3) := by decide +kernel
theorem dX1_copyFrom_94 : decode cX1_copyFrom 94 = .ok (.return_, 1) := by decide +kernel
theorem dX1_hasMachine_0 : decode cX1_hasMachine 0 = .ok (.iload_n 1, 1) := by decide +kernel
theorem dX1_hasMachine_1 : decode cX1_hasMachine 1 = .ok (.ifCond .lt 15, 3) := by decide +kernel
theorem dX1_hasMachine_4 : decode cX1_hasMachine 4 = .ok (.iload_n 1, 1) := by decide +kernel
theorem dX1_hasMachine_5 : decode cX1_hasMachine 5 = .ok (.aload_n 0, 1) := by decide +kernel
theorem dX1_hasMachine_6 : decode cX1_hasMachine 6 = .ok (.getfield 28, 3) := by decide +kernel
theorem dX1_hasMachine_9 : decode cX1_hasMachine 9 = .ok (.if_icmp .ge 7, 3) := by decide +kernel
theorem dX1_hasMachine_12 : decode cX1_hasMachine 12 = .ok (.iconst 1, 1) := by decide +kernel
theorem dX1_hasMachine_13 : decode cX1_hasMachine 13 = .ok (.goto 4, 3) := by decide +kernel
theorem dX1_hasMachine_16 : decode cX1_hasMachine 16 = .ok (.iconst 0, 1) := by decide +kernel
theorem dX1_hasMachine_17 : decode cX1_hasMachine 17 = .ok (.ireturn, 1) := by decide +kernel
theorem dX1_hasValue_0 : decode cX1_hasValue 0 = .ok (.iload_n 1, 1) := by decide +kernel
theorem dX1_hasValue_1 : decode cX1_hasValue 1 = .ok (.ifCond .lt 15, 3) := by decide +kernel
theorem dX1_hasValue_4 : decode cX1_hasValue 4 = .ok (.iload_n 1, 1) := by decide +kernel
theorem dX1_hasValue_5 : decode cX1_hasValue 5 = .ok (.aload_n 0, 1) := by decide +kernel
theorem dX1_hasValue_6 : decode cX1_hasValue 6 = .ok (.getfield 31, 3) := by decide +kernel
theorem dX1_hasValue_9 : decode cX1_hasValue 9 = .ok (.if_icmp .ge 7, 3) := by decide +kernel
theorem dX1_hasValue_12 : decode cX1_hasValue 12 = .ok (.iconst 1, 1) := by decide +kernel
theorem dX1_hasValue_13 : decode cX1_hasValue 13 = .ok (.goto 4, 3) := by decide +kernel
theorem dX1_hasValue_16 : decode cX1_hasValue 16 = .ok (.iconst 0, 1) := by decide +kernel
theorem dX1_hasValue_17 : decode cX1_hasValue 17 = .ok (.ireturn, 1) := by decide +kernel
theorem dX1_hasState_0 : decode cX1_hasState 0 = .ok (.iload_n 1, 1) := by decide +kernel
theorem dX1_hasState_1 : decode cX1_hasState 1 = .ok (.ifCond .lt 15, 3) := by decide +kernel
theorem dX1_hasState_4 : decode cX1_hasState 4 = .ok (.iload_n 1, 1) := by decide +kernel
theorem dX1_hasState_5 : decode cX1_hasState 5 = .ok (.aload_n 0, 1) := by decide +kernel
theorem dX1_hasState_6 : decode cX1_hasState 6 = .ok (.getfield 34, 3) := by decide +kernel
theorem dX1_hasState_9 : decode cX1_hasState 9 = .ok (.if_icmp .ge 7, 3) := by decide +kernel
theorem dX1_hasState_12 : decode cX1_hasState 12 = .ok (.iconst 1, 1) := by decide +kernel
theorem dX1_hasState_13 : decode cX1_hasState 13 = .ok (.goto 4, 3) := by decide +kernel
theorem dX1_hasState_16 : decode cX1_hasState 16 = .ok (.iconst 0, 1) := by decide +kernel
theorem dX1_hasState_17 : decode cX1_hasState 17 = .ok (.ireturn, 1) := by decide +kernel
theorem dX1_valueAt_0 : decode cX1_valueAt 0 = .ok (.iload_n 2, 1) := by decide +kernel
theorem dX1_valueAt_1 : decode cX1_valueAt 1 = .ok (.ifCond .lt 28, 3) := by decide +kernel
theorem dX1_valueAt_4 : decode cX1_valueAt 4 = .ok (.iload_n 2, 1) := by decide +kernel
theorem dX1_valueAt_5 : decode cX1_valueAt 5 = .ok (.aload_n 0, 1) := by decide +kernel
theorem dX1_valueAt_6 : decode cX1_valueAt 6 = .ok (.getfield 15, 3) := by decide +kernel
theorem dX1_valueAt_9 : decode cX1_valueAt 9 = .ok (.arraylength, 1) := by decide +kernel
theorem dX1_valueAt_10 : decode cX1_valueAt 10 = .ok (.if_icmp .ge 19, 3) := by decide +kernel
theorem dX1_valueAt_13 : decode cX1_valueAt 13 = .ok (.aload_n 0, 1) := by decide +kernel
theorem dX1_valueAt_14 : decode cX1_valueAt 14 = .ok (.getfield 15, 3) := by decide +kernel
theorem dX1_valueAt_17 : decode cX1_valueAt 17 = .ok (.iload_n 2, 1) := by decide +kernel
theorem dX1_valueAt_18 : decode cX1_valueAt 18 = .ok (.iaload, 1) := by decide +kernel
theorem dX1_valueAt_19 : decode cX1_valueAt 19 = .ok (.ifCond .le 10, 3) := by decide +kernel
theorem dX1_valueAt_22 : decode cX1_valueAt 22 = .ok (.aload_n 0, 1) := by decide +kernel
theorem dX1_valueAt_23 : decode cX1_valueAt 23 = .ok (.getfield 31, 3) := by decide +kernel
theorem dX1_valueAt_26 : decode cX1_valueAt 26 = .ok (.ifCond .gt 5, 3) := by decide +kernel
theorem dX1_valueAt_29 : decode cX1_valueAt 29 = .ok (.iconst 0, 1) := by decide +kernel
theorem dX1_valueAt_30 : decode cX1_valueAt 30 = .ok (.ireturn, 1) := by decide +kernel
theorem dX1_valueAt_31 : decode cX1_valueAt 31 = .ok (.iload_n 1, 1) := by decide +kernel
theorem dX1_valueAt_32 : decode cX1_valueAt 32 = .ok (.aload_n 0, 1) := by decide +kernel
theorem dX1_valueAt_33 : decode cX1_valueAt 33 = .ok (.getfield 15, 3) := by decide +kernel
theorem dX1_valueAt_36 : decode cX1_valueAt 36 = .ok (.iload_n 2, 1) := by decide +kernel
theorem dX1_valueAt_37 : decode cX1_valueAt 37 = .ok (.iaload, 1) := by decide +kernel
theorem dX1_valueAt_38 : decode cX1_valueAt 38 = .ok (.idiv, 1) := by decide +kernel
theorem dX1_valueAt_39 : decode cX1_valueAt 39 = .ok (.aload_n 0, 1) := by decide +kernel
theorem dX1_valueAt_40 : decode cX1_valueAt 40 = .ok (.getfield 31, 3) := by decide +kernel
theorem dX1_valueAt_43 : decode cX1_valueAt 43 = .ok (.irem, 1) := by decide +kernel
theorem dX1_valueAt_44 : decode cX1_valueAt 44 = .ok (.ireturn, 1) := by decide +kernel
theorem dX1_withValue_0 : decode cX1_withValue 0 = .ok (.iload_n 1, 1) := by decide +kernel
theorem dX1_withValue_1 : decode cX1_withValue 1 = .ok (.iload_n 3, 1) := by decide +kernel
theorem dX1_withValue_2 : decode cX1_withValue 2 = .ok (.aload_n 0, 1) := by decide +kernel
theorem dX1_withValue_3 : decode cX1_withValue 3 = .ok (.iload_n 1, 1) := by decide +kernel
theorem dX1_withValue_4 : decode cX1_withValue 4 = .ok (.iload_n 2, 1) := by decide +kernel
theorem dX1_withValue_5 : decode cX1_withValue 5 = .ok (.invokevirtual 68, 3) := by decide +kernel
theorem dX1_withValue_8 : decode cX1_withValue 8 = .ok (.isub, 1) := by decide +kernel
theorem dX1_withValue_9 : decode cX1_withValue 9 = .ok (.aload_n 0, 1) := by decide +kernel
theorem dX1_withValue_10 : decode cX1_withValue 10 = .ok (.getfield 15, 3) := by decide +kernel
theorem dX1_withValue_13 : decode cX1_withValue 13 = .ok (.iload_n 2, 1) := by decide +kernel
theorem dX1_withValue_14 : decode cX1_withValue 14 = .ok (.invokestatic 51, 3) := by decide +kernel
theorem dX1_withValue_17 : decode cX1_withValue 17 = .ok (.imul, 1) := by decide +kernel
theorem dX1_withValue_18 : decode cX1_withValue 18 = .ok (.iadd, 1) := by decide +kernel
theorem dX1_withValue_19 : decode cX1_withValue 19 = .ok (.ireturn, 1) := by decide +kernel
theorem dX1_isLinked_0 : decode cX1_isLinked 0 = .ok (.iload_n 1, 1) := by decide +kernel
theorem dX1_isLinked_1 : decode cX1_isLinked 1 = .ok (.ifCond .lt 30, 3) := by decide +kernel
theorem dX1_isLinked_4 : decode cX1_isLinked 4 = .ok (.iload_n 1, 1) := by decide +kernel
theorem dX1_isLinked_5 : decode cX1_isLinked 5 = .ok (.aload_n 0, 1) := by decide +kernel
theorem dX1_isLinked_6 : decode cX1_isLinked 6 = .ok (.getfield 9, 3) := by decide +kernel
theorem dX1_isLinked_9 : decode cX1_isLinked 9 = .ok (.arraylength, 1) := by decide +kernel
theorem dX1_isLinked_10 : decode cX1_isLinked 10 = .ok (.if_icmp .ge 21, 3) := by decide +kernel
theorem dX1_isLinked_13 : decode cX1_isLinked 13 = .ok (.aload_n 0, 1) := by decide +kernel
theorem dX1_isLinked_14 : decode cX1_isLinked 14 = .ok (.getfield 9, 3) := by decide +kernel
theorem dX1_isLinked_17 : decode cX1_isLinked 17 = .ok (.iload_n 1, 1) := by decide +kernel
theorem dX1_isLinked_18 : decode cX1_isLinked 18 = .ok (.iaload, 1) := by decide +kernel
theorem dX1_isLinked_19 : decode cX1_isLinked 19 = .ok (.iload_n 2, 1) := by decide +kernel
theorem dX1_isLinked_20 : decode cX1_isLinked 20 = .ok (.ishr, 1) := by decide +kernel
theorem dX1_isLinked_21 : decode cX1_isLinked 21 = .ok (.iconst 1, 1) := by decide +kernel
theorem dX1_isLinked_22 : decode cX1_isLinked 22 = .ok (.iand, 1) := by decide +kernel
theorem dX1_isLinked_23 : decode cX1_isLinked 23 = .ok (.iconst 1, 1) := by decide +kernel
theorem dX1_isLinked_24 : decode cX1_isLinked 24 = .ok (.if_icmp .ne 7, 3) := by decide +kernel
theorem dX1_isLinked_27 : decode cX1_isLinked 27 = .ok (.iconst 1, 1) := by decide +kernel
theorem dX1_isLinked_28 : decode cX1_isLinked 28 = .ok (.goto 4, 3) := by decide +kernel
theorem dX1_isLinked_31 : decode cX1_isLinked 31 = .ok (.iconst 0, 1) := by decide +kernel
theorem dX1_isLinked_32 : decode cX1_isLinked 32 = .ok (.ireturn, 1) := by decide +kernel
theorem dX1_aheadOf_0 : decode cX1_aheadOf 0 = .ok (.iload_n 1, 1) := by decide +kernel
theorem dX1_aheadOf_1 : decode cX1_aheadOf 1 = .ok (.ifCond .ne 12, 3) := by decide +kernel
theorem dX1_aheadOf_4 : decode cX1_aheadOf 4 = .ok (.aload_n 0, 1) := by decide +kernel
theorem dX1_aheadOf_5 : decode cX1_aheadOf 5 = .ok (.getfield 28, 3) := by decide +kernel
theorem dX1_aheadOf_8 : decode cX1_aheadOf 8 = .ok (.iconst 1, 1) := by decide +kernel
theorem dX1_aheadOf_9 : decode cX1_aheadOf 9 = .ok (.isub, 1) := by decide +kernel
theorem dX1_aheadOf_10 : decode cX1_aheadOf 10 = .ok (.goto 6, 3) := by decide +kernel
theorem dX1_aheadOf_13 : decode cX1_aheadOf 13 = .ok (.iload_n 1, 1) := by decide +kernel
theorem dX1_aheadOf_14 : decode cX1_aheadOf 14 = .ok (.iconst 1, 1) := by decide +kernel
theorem dX1_aheadOf_15 : decode cX1_aheadOf 15 = .ok (.isub, 1) := by decide +kernel
theorem dX1_aheadOf_16 : decode cX1_aheadOf 16 = .ok (.ireturn, 1) := by decide +kernel
theorem dX1_sees_0 : decode cX1_sees 0 = .ok (.aload_n 0, 1) := by decide +kernel
theorem dX1_sees_1 : decode cX1_sees 1 = .ok (.getfield 24, 3) := by decide +kernel
theorem dX1_sees_4 : decode cX1_sees 4 = .ok (.iconst 1, 1) := by decide +kernel
theorem dX1_sees_5 : decode cX1_sees 5 = .ok (.if_icmp .ne 20, 3) := by decide +kernel
theorem dX1_sees_8 : decode cX1_sees 8 = .ok (.aload_n 0, 1) := by decide +kernel
theorem dX1_sees_9 : decode cX1_sees 9 = .ok (.iload_n 1, 1) := by decide +kernel
theorem dX1_sees_10 : decode cX1_sees 10 = .ok (.invokevirtual 72, 3) := by decide +kernel
theorem dX1_sees_13 : decode cX1_sees 13 = .ok (.iload_n 2, 1) := by decide +kernel
theorem dX1_sees_14 : decode cX1_sees 14 = .ok (.if_icmp .ne 7, 3) := by decide +kernel
theorem dX1_sees_17 : decode cX1_sees 17 = .ok (.iconst 1, 1) := by decide +kernel
theorem dX1_sees_18 : decode cX1_sees 18 = .ok (.goto 13, 3) := by decide +kernel
theorem dX1_sees_21 : decode cX1_sees 21 = .ok (.iconst 0, 1) := by decide +kernel
theorem dX1_sees_22 : decode cX1_sees 22 = .ok (.goto 9, 3) := by decide +kernel
theorem dX1_sees_25 : decode cX1_sees 25 = .ok (.aload_n 0, 1) := by decide +kernel
theorem dX1_sees_26 : decode cX1_sees 26 = .ok (.iload_n 1, 1) := by decide +kernel
theorem dX1_sees_27 : decode cX1_sees 27 = .ok (.iload_n 2, 1) := by decide +kernel
theorem dX1_sees_28 : decode cX1_sees 28 = .ok (.invokevirtual 47, 3) := by decide +kernel
theorem dX1_sees_31 : decode cX1_sees 31 = .ok (.ireturn, 1) := by decide +kernel
theorem dX1_wants_0 : decode cX1_wants 0 = .ok (.aload_n 0, 1) := by decide +kernel
theorem dX1_wants_1 : decode cX1_wants 1 = .ok (.getfield 24, 3) := by decide +kernel
theorem dX1_wants_4 : decode cX1_wants 4 = .ok (.tableswitch 49 1 3 #[28, 35, 42], 28) := by decide +kernel
theorem dX1_wants_32 : decode cX1_wants 32 = .ok (.aload_n 0, 1) := by decide +kernel
theorem dX1_wants_33 : decode cX1_wants 33 = .ok (.iload_n 1, 1) := by decide +kernel
theorem dX1_wants_34 : decode cX1_wants 34 = .ok (.iload_n 2, 1) := by decide +kernel
theorem dX1_wants_35 : decode cX1_wants 35 = .ok (.invokevirtual 75, 3) := by decide +kernel
theorem dX1_wants_38 : decode cX1_wants 38 = .ok (.ireturn, 1) := by decide +kernel
theorem dX1_wants_39 : decode cX1_wants 39 = .ok (.aload_n 0, 1) := by decide +kernel
theorem dX1_wants_40 : decode cX1_wants 40 = .ok (.iload_n 1, 1) := by decide +kernel
theorem dX1_wants_41 : decode cX1_wants 41 = .ok (.iload_n 2, 1) := by decide +kernel
theorem dX1_wants_42 : decode cX1_wants 42 = .ok (.invokevirtual 78, 3) := by decide +kernel
theorem dX1_wants_45 : decode cX1_wants 45 = .ok (.ireturn, 1) := by decide +kernel
theorem dX1_wants_46 : decode cX1_wants 46 = .ok (.aload_n 0, 1) := by decide +kernel
theorem dX1_wants_47 : decode cX1_wants 47 = .ok (.iload_n 1, 1) := by decide +kernel
theorem dX1_wants_48 : decode cX1_wants 48 = .ok (.iload_n 2, 1) := by decide +kernel
theorem dX1_wants_49 : decode cX1_wants 49 = .ok (.invokevirtual 81, 3) := by decide +kernel
theorem dX1_wants_52 : decode cX1_wants 52 = .ok (.ireturn, 1) := by decide +kernel
theorem dX1_wants_53 : decode cX1_wants 53 = .ok (.aload_n 0, 1) := by decide +kernel
theorem dX1_wants_54 : decode cX1_wants 54 = .ok (.iload_n 1, 1) := by decide +kernel
theorem dX1_wants_55 : decode cX1_wants 55 = .ok (.iload_n 2, 1) := by decide +kernel
theorem dX1_wants_56 : decode cX1_wants 56 = .ok (.invokevirtual 84, 3) := by decide +kernel
theorem dX1_wants_59 : decode cX1_wants 59 = .ok (.ireturn, 1) := by decide +kernel
theorem dX1_counterWants_0 : decode cX1_counterWants 0 = .ok (.aload_n 0, 1) := by decide +kernel
theorem dX1_counterWants_1 : decode cX1_counterWants 1 = .ok (.iload_n 1, 1) := by decide +kernel
theorem dX1_counterWants_2 : decode cX1_counterWants 2 = .ok (.aload_n 0, 1) := by decide +kernel
theorem dX1_counterWants_3 : decode cX1_counterWants 3 = .ok (.iload_n 2, 1) := by decide +kernel
theorem dX1_counterWants_4 : decode cX1_counterWants 4 = .ok (.invokevirtual 72, 3) := by decide +kernel
theorem dX1_counterWants_7 : decode cX1_counterWants 7 = .ok (.invokevirtual 68, 3) := by decide +kernel
theorem dX1_counterWants_10 : decode cX1_counterWants 10 = .ok (.istore_n 3, 1) := by decide +kernel
theorem dX1_counterWants_11 : decode cX1_counterWants 11 = .ok (.iload_n 2, 1) := by decide +kernel
theorem dX1_counterWants_12 : decode cX1_counterWants 12 = .ok (.ifCond .eq 5, 3) := by decide +kernel
theorem dX1_counterWants_15 : decode cX1_counterWants 15 = .ok (.iload_n 3, 1) := by decide +kernel
theorem dX1_counterWants_16 : decode cX1_counterWants 16 = .ok (.ireturn, 1) := by decide +kernel
theorem dX1_counterWants_17 : decode cX1_counterWants 17 = .ok (.aload_n 0, 1) := by decide +kernel
theorem dX1_counterWants_18 : decode cX1_counterWants 18 = .ok (.iload_n 1, 1) := by decide +kernel
theorem dX1_counterWants_19 : decode cX1_counterWants 19 = .ok (.iload_n 2, 1) := by decide +kernel
theorem dX1_counterWants_20 : decode cX1_counterWants 20 = .ok (.invokevirtual 68, 3) := by decide +kernel
theorem dX1_counterWants_23 : decode cX1_counterWants 23 = .ok (.istore 4, 2) := by decide +kernel
theorem dX1_counterWants_25 : decode cX1_counterWants 25 = .ok (.iload 4, 2) := by decide +kernel
theorem dX1_counterWants_27 : decode cX1_counterWants 27 = .ok (.iload_n 3, 1) := by decide +kernel
theorem dX1_counterWants_28 : decode cX1_counterWants 28 = .ok (.if_icmp .eq 6, 3) := by decide +kernel
theorem dX1_counterWants_31 : decode cX1_counterWants 31 = .ok (.iload 4, 2) := by decide +kernel
theorem dX1_counterWants_33 : decode cX1_counterWants 33 = .ok (.ireturn, 1) := by decide +kernel
theorem dX1_counterWants_34 : decode cX1_counterWants 34 = .ok (.iload 4, 2) := by decide +kernel
theorem dX1_counterWants_36 : decode cX1_counterWants 36 = .ok (.iconst 1, 1) := by decide +kernel
theorem dX1_counterWants_37 : decode cX1_counterWants 37 = .ok (.iadd, 1) := by decide +kernel
theorem dX1_counterWants_38 : decode cX1_counterWants 38 = .ok (.aload_n 0, 1) := by decide +kernel
theorem dX1_counterWants_39 : decode cX1_counterWants 39 = .ok (.getfield 31, 3) := by decide +kernel
theorem dX1_counterWants_42 : decode cX1_counterWants 42 = .ok (.if_icmp .ge 10, 3) := by decide +kernel
theorem dX1_counterWants_45 : decode cX1_counterWants 45 = .ok (.iload 4, 2) := by decide +kernel
theorem dX1_counterWants_47 : decode cX1_counterWants 47 = .ok (.iconst 1, 1) := by decide +kernel
theorem dX1_counterWants_48 : decode cX1_counterWants 48 = .ok (.iadd, 1) := by decide +kernel
theorem dX1_counterWants_49 : decode cX1_counterWants 49 = .ok (.goto 4, 3) := by decide +kernel
theorem dX1_counterWants_52 : decode cX1_counterWants 52 = .ok (.iconst 0, 1) := by decide +kernel
theorem dX1_counterWants_53 : decode cX1_counterWants 53 = .ok (.ireturn, 1) := by decide +kernel
theorem dX1_pointerWants_0 : decode cX1_pointerWants 0 = .ok (.aload_n 0, 1) := by decide +kernel
theorem dX1_pointerWants_1 : decode cX1_pointerWants 1 = .ok (.iload_n 1, 1) := by decide +kernel
theorem dX1_pointerWants_2 : decode cX1_pointerWants 2 = .ok (.iload_n 2, 1) := by decide +kernel
theorem dX1_pointerWants_3 : decode cX1_pointerWants 3 = .ok (.invokevirtual 68, 3) := by decide +kernel
theorem dX1_pointerWants_6 : decode cX1_pointerWants 6 = .ok (.istore_n 3, 1) := by decide +kernel
theorem dX1_pointerWants_7 : decode cX1_pointerWants 7 = .ok (.iload_n 3, 1) := by decide +kernel
theorem dX1_pointerWants_8 : decode cX1_pointerWants 8 = .ok (.ifCond .ne 51, 3) := by decide +kernel
theorem dX1_pointerWants_11 : decode cX1_pointerWants 11 = .ok (.aload_n 0, 1) := by decide +kernel
theorem dX1_pointerWants_12 : decode cX1_pointerWants 12 = .ok (.iload_n 1, 1) := by decide +kernel
theorem dX1_pointerWants_13 : decode cX1_pointerWants 13 = .ok (.iload_n 2, 1) := by decide +kernel
theorem dX1_pointerWants_14 : decode cX1_pointerWants 14 = .ok (.iload_n 2, 1) := by decide +kernel
theorem dX1_pointerWants_15 : decode cX1_pointerWants 15 = .ok (.iconst 1, 1) := by decide +kernel
theorem dX1_pointerWants_16 : decode cX1_pointerWants 16 = .ok (.iadd, 1) := by decide +kernel
theorem dX1_pointerWants_17 : decode cX1_pointerWants 17 = .ok (.invokevirtual 87, 3) := by decide +kernel
theorem dX1_pointerWants_20 : decode cX1_pointerWants 20 = .ok (.istore 4, 2) := by decide +kernel
theorem dX1_pointerWants_22 : decode cX1_pointerWants 22 = .ok (.iload 4, 2) := by decide +kernel
theorem dX1_pointerWants_24 : decode cX1_pointerWants 24 = .ok (.bipush (-4), 2) := by decide +kernel
theorem dX1_pointerWants_26 : decode cX1_pointerWants 26 = .ok (.if_icmp .eq 8, 3) := by decide +kernel
theorem dX1_pointerWants_29 : decode cX1_pointerWants 29 = .ok (.iload 4, 2) := by decide +kernel
theorem dX1_pointerWants_31 : decode cX1_pointerWants 31 = .ok (.goto 10, 3) := by decide +kernel
theorem dX1_pointerWants_34 : decode cX1_pointerWants 34 = .ok (.aload_n 0, 1) := by decide +kernel
theorem dX1_pointerWants_35 : decode cX1_pointerWants 35 = .ok (.iload_n 1, 1) := by decide +kernel
theorem dX1_pointerWants_36 : decode cX1_pointerWants 36 = .ok (.iload_n 2, 1) := by decide +kernel
theorem dX1_pointerWants_37 : decode cX1_pointerWants 37 = .ok (.iconst 0, 1) := by decide +kernel
theorem dX1_pointerWants_38 : decode cX1_pointerWants 38 = .ok (.invokevirtual 87, 3) := by decide +kernel
theorem dX1_pointerWants_41 : decode cX1_pointerWants 41 = .ok (.istore 5, 2) := by decide +kernel
theorem dX1_pointerWants_43 : decode cX1_pointerWants 43 = .ok (.iload 5, 2) := by decide +kernel
theorem dX1_pointerWants_45 : decode cX1_pointerWants 45 = .ok (.bipush (-4), 2) := by decide +kernel
theorem dX1_pointerWants_47 : decode cX1_pointerWants 47 = .ok (.if_icmp .eq 10, 3) := by decide +kernel
theorem dX1_pointerWants_50 : decode cX1_pointerWants 50 = .ok (.iload 5, 2) := by decide +kernel
theorem dX1_pointerWants_52 : decode cX1_pointerWants 52 = .ok (.iconst 1, 1) := by decide +kernel
theorem dX1_pointerWants_53 : decode cX1_pointerWants 53 = .ok (.iadd, 1) := by decide +kernel
theorem dX1_pointerWants_54 : decode cX1_pointerWants 54 = .ok (.goto 4, 3) := by decide +kernel
theorem dX1_pointerWants_57 : decode cX1_pointerWants 57 = .ok (.iload_n 3, 1) := by decide +kernel
theorem dX1_pointerWants_58 : decode cX1_pointerWants 58 = .ok (.ireturn, 1) := by decide +kernel
theorem dX1_pointerWants_59 : decode cX1_pointerWants 59 = .ok (.aload_n 0, 1) := by decide +kernel
theorem dX1_pointerWants_60 : decode cX1_pointerWants 60 = .ok (.iload_n 2, 1) := by decide +kernel
theorem dX1_pointerWants_61 : decode cX1_pointerWants 61 = .ok (.iload_n 3, 1) := by decide +kernel
theorem dX1_pointerWants_62 : decode cX1_pointerWants 62 = .ok (.iconst 1, 1) := by decide +kernel
theorem dX1_pointerWants_63 : decode cX1_pointerWants 63 = .ok (.isub, 1) := by decide +kernel
theorem dX1_pointerWants_64 : decode cX1_pointerWants 64 = .ok (.invokevirtual 47, 3) := by decide +kernel
theorem dX1_pointerWants_67 : decode cX1_pointerWants 67 = .ok (.ifCond .ne 5, 3) := by decide +kernel
theorem dX1_pointerWants_70 : decode cX1_pointerWants 70 = .ok (.iconst 0, 1) := by decide +kernel
theorem dX1_pointerWants_71 : decode cX1_pointerWants 71 = .ok (.ireturn, 1) := by decide +kernel
theorem dX1_pointerWants_72 : decode cX1_pointerWants 72 = .ok (.aload_n 0, 1) := by decide +kernel
theorem dX1_pointerWants_73 : decode cX1_pointerWants 73 = .ok (.iload_n 1, 1) := by decide +kernel
theorem dX1_pointerWants_74 : decode cX1_pointerWants 74 = .ok (.iload_n 3, 1) := by decide +kernel
theorem dX1_pointerWants_75 : decode cX1_pointerWants 75 = .ok (.iconst 1, 1) := by decide +kernel
theorem dX1_pointerWants_76 : decode cX1_pointerWants 76 = .ok (.isub, 1) := by decide +kernel
theorem dX1_pointerWants_77 : decode cX1_pointerWants 77 = .ok (.invokevirtual 68, 3) := by decide +kernel
theorem dX1_pointerWants_80 : decode cX1_pointerWants 80 = .ok (.istore 4, 2) := by decide +kernel
theorem dX1_pointerWants_82 : decode cX1_pointerWants 82 = .ok (.iload 4, 2) := by decide +kernel
theorem dX1_pointerWants_84 : decode cX1_pointerWants 84 = .ok (.ifCond .eq 11, 3) := by decide +kernel
theorem dX1_pointerWants_87 : decode cX1_pointerWants 87 = .ok (.iload 4, 2) := by decide +kernel
theorem dX1_pointerWants_89 : decode cX1_pointerWants 89 = .ok (.iload_n 2, 1) := by decide +kernel
theorem dX1_pointerWants_90 : decode cX1_pointerWants 90 = .ok (.iconst 1, 1) := by decide +kernel
theorem dX1_pointerWants_91 : decode cX1_pointerWants 91 = .ok (.iadd, 1) := by decide +kernel
theorem dX1_pointerWants_92 : decode cX1_pointerWants 92 = .ok (.if_icmp .ne 7, 3) := by decide +kernel
theorem dX1_pointerWants_95 : decode cX1_pointerWants 95 = .ok (.iload_n 3, 1) := by decide +kernel
theorem dX1_pointerWants_96 : decode cX1_pointerWants 96 = .ok (.goto 4, 3) := by decide +kernel
theorem dX1_pointerWants_99 : decode cX1_pointerWants 99 = .ok (.iconst 0, 1) := by decide +kernel
theorem dX1_pointerWants_100 : decode cX1_pointerWants 100 = .ok (.ireturn, 1) := by decide +kernel
theorem dX1_distanceWants_0 : decode cX1_distanceWants 0 = .ok (.iload_n 2, 1) := by decide +kernel
theorem dX1_distanceWants_1 : decode cX1_distanceWants 1 = .ok (.ifCond .ne 5, 3) := by decide +kernel
theorem dX1_distanceWants_4 : decode cX1_distanceWants 4 = .ok (.iconst 0, 1) := by decide +kernel
theorem dX1_distanceWants_5 : decode cX1_distanceWants 5 = .ok (.ireturn, 1) := by decide +kernel
theorem dX1_distanceWants_6 : decode cX1_distanceWants 6 = .ok (.aload_n 0, 1) := by decide +kernel
theorem dX1_distanceWants_7 : decode cX1_distanceWants 7 = .ok (.getfield 31, 3) := by decide +kernel
theorem dX1_distanceWants_10 : decode cX1_distanceWants 10 = .ok (.iconst 1, 1) := by decide +kernel
theorem dX1_distanceWants_11 : decode cX1_distanceWants 11 = .ok (.isub, 1) := by decide +kernel
theorem dX1_distanceWants_12 : decode cX1_distanceWants 12 = .ok (.istore_n 3, 1) := by decide +kernel
theorem dX1_distanceWants_13 : decode cX1_distanceWants 13 = .ok (.iconst 0, 1) := by decide +kernel
theorem dX1_distanceWants_14 : decode cX1_distanceWants 14 = .ok (.istore 4, 2) := by decide +kernel
theorem dX1_distanceWants_16 : decode cX1_distanceWants 16 = .ok (.iload 4, 2) := by decide +kernel
theorem dX1_distanceWants_18 : decode cX1_distanceWants 18 = .ok (.aload_n 0, 1) := by decide +kernel
theorem dX1_distanceWants_19 : decode cX1_distanceWants 19 = .ok (.getfield 28, 3) := by decide +kernel
theorem dX1_distanceWants_22 : decode cX1_distanceWants 22 = .ok (.if_icmp .ge 33, 3) := by decide +kernel
theorem dX1_distanceWants_25 : decode cX1_distanceWants 25 = .ok (.aload_n 0, 1) := by decide +kernel
theorem dX1_distanceWants_26 : decode cX1_distanceWants 26 = .ok (.iload_n 2, 1) := by decide +kernel
theorem dX1_distanceWants_27 : decode cX1_distanceWants 27 = .ok (.iload 4, 2) := by decide +kernel
theorem dX1_distanceWants_29 : decode cX1_distanceWants 29 = .ok (.invokevirtual 47, 3) := by decide +kernel
theorem dX1_distanceWants_32 : decode cX1_distanceWants 32 = .ok (.ifCond .eq 17, 3) := by decide +kernel
theorem dX1_distanceWants_35 : decode cX1_distanceWants 35 = .ok (.iload_n 3, 1) := by decide +kernel
theorem dX1_distanceWants_36 : decode cX1_distanceWants 36 = .ok (.aload_n 0, 1) := by decide +kernel
theorem dX1_distanceWants_37 : decode cX1_distanceWants 37 = .ok (.iload_n 1, 1) := by decide +kernel
theorem dX1_distanceWants_38 : decode cX1_distanceWants 38 = .ok (.iload 4, 2) := by decide +kernel
theorem dX1_distanceWants_40 : decode cX1_distanceWants 40 = .ok (.invokevirtual 68, 3) := by decide +kernel
theorem dX1_distanceWants_43 : decode cX1_distanceWants 43 = .ok (.iconst 1, 1) := by decide +kernel
theorem dX1_distanceWants_44 : decode cX1_distanceWants 44 = .ok (.iadd, 1) := by decide +kernel
theorem dX1_distanceWants_45 : decode cX1_distanceWants 45 = .ok (.invokestatic 90, 3) := by decide +kernel
theorem dX1_distanceWants_48 : decode cX1_distanceWants 48 = .ok (.istore_n 3, 1) := by decide +kernel
theorem dX1_distanceWants_49 : decode cX1_distanceWants 49 = .ok (.iinc 4 1, 3) := by decide +kernel
theorem dX1_distanceWants_52 : decode cX1_distanceWants 52 = .ok (.goto (-36), 3) := by decide +kernel
theorem dX1_distanceWants_55 : decode cX1_distanceWants 55 = .ok (.iload_n 3, 1) := by decide +kernel
theorem dX1_distanceWants_56 : decode cX1_distanceWants 56 = .ok (.ireturn, 1) := by decide +kernel
theorem dX1_colourWants_0 : decode cX1_colourWants 0 = .ok (.iconst 0, 1) := by decide +kernel
theorem dX1_colourWants_1 : decode cX1_colourWants 1 = .ok (.istore_n 3, 1) := by decide +kernel
theorem dX1_colourWants_2 : decode cX1_colourWants 2 = .ok (.iconst 0, 1) := by decide +kernel
theorem dX1_colourWants_3 : decode cX1_colourWants 3 = .ok (.istore 4, 2) := by decide +kernel
theorem dX1_colourWants_5 : decode cX1_colourWants 5 = .ok (.iload 4, 2) := by decide +kernel
theorem dX1_colourWants_7 : decode cX1_colourWants 7 = .ok (.aload_n 0, 1) := by decide +kernel
theorem dX1_colourWants_8 : decode cX1_colourWants 8 = .ok (.getfield 28, 3) := by decide +kernel
theorem dX1_colourWants_11 : decode cX1_colourWants 11 = .ok (.if_icmp .ge 31, 3) := by decide +kernel
theorem dX1_colourWants_14 : decode cX1_colourWants 14 = .ok (.aload_n 0, 1) := by decide +kernel
theorem dX1_colourWants_15 : decode cX1_colourWants 15 = .ok (.iload_n 2, 1) := by decide +kernel
theorem dX1_colourWants_16 : decode cX1_colourWants 16 = .ok (.iload 4, 2) := by decide +kernel
theorem dX1_colourWants_18 : decode cX1_colourWants 18 = .ok (.invokevirtual 47, 3) := by decide +kernel
theorem dX1_colourWants_21 : decode cX1_colourWants 21 = .ok (.ifCond .eq 15, 3) := by decide +kernel
theorem dX1_colourWants_24 : decode cX1_colourWants 24 = .ok (.iload_n 3, 1) := by decide +kernel
theorem dX1_colourWants_25 : decode cX1_colourWants 25 = .ok (.iconst 1, 1) := by decide +kernel
theorem dX1_colourWants_26 : decode cX1_colourWants 26 = .ok (.aload_n 0, 1) := by decide +kernel
theorem dX1_colourWants_27 : decode cX1_colourWants 27 = .ok (.iload_n 1, 1) := by decide +kernel
theorem dX1_colourWants_28 : decode cX1_colourWants 28 = .ok (.iload 4, 2) := by decide +kernel
theorem dX1_colourWants_30 : decode cX1_colourWants 30 = .ok (.invokevirtual 68, 3) := by decide +kernel
theorem dX1_colourWants_33 : decode cX1_colourWants 33 = .ok (.ishl, 1) := by decide +kernel
theorem dX1_colourWants_34 : decode cX1_colourWants 34 = .ok (.ior, 1) := by decide +kernel
theorem dX1_colourWants_35 : decode cX1_colourWants 35 = .ok (.istore_n 3, 1) := by decide +kernel
theorem dX1_colourWants_36 : decode cX1_colourWants 36 = .ok (.iinc 4 1, 3) := by decide +kernel
theorem dX1_colourWants_39 : decode cX1_colourWants 39 = .ok (.goto (-34), 3) := by decide +kernel
theorem dX1_colourWants_42 : decode cX1_colourWants 42 = .ok (.aload_n 0, 1) := by decide +kernel
theorem dX1_colourWants_43 : decode cX1_colourWants 43 = .ok (.iload_n 1, 1) := by decide +kernel
theorem dX1_colourWants_44 : decode cX1_colourWants 44 = .ok (.iload_n 2, 1) := by decide +kernel
theorem dX1_colourWants_45 : decode cX1_colourWants 45 = .ok (.invokevirtual 68, 3) := by decide +kernel
theorem dX1_colourWants_48 : decode cX1_colourWants 48 = .ok (.istore 4, 2) := by decide +kernel
theorem dX1_colourWants_50 : decode cX1_colourWants 50 = .ok (.iload_n 3, 1) := by decide +kernel
theorem dX1_colourWants_51 : decode cX1_colourWants 51 = .ok (.iload 4, 2) := by decide +kernel
theorem dX1_colourWants_53 : decode cX1_colourWants 53 = .ok (.invokestatic 95, 3) := by decide +kernel
theorem dX1_colourWants_56 : decode cX1_colourWants 56 = .ok (.ifCond .eq 12, 3) := by decide +kernel
theorem dX1_colourWants_59 : decode cX1_colourWants 59 = .ok (.iload_n 3, 1) := by decide +kernel
theorem dX1_colourWants_60 : decode cX1_colourWants 60 = .ok (.iconst (-1), 1) := by decide +kernel
theorem dX1_colourWants_61 : decode cX1_colourWants 61 = .ok (.ixor, 1) := by decide +kernel
theorem dX1_colourWants_62 : decode cX1_colourWants 62 = .ok (.invokestatic 100, 3) := by decide +kernel
theorem dX1_colourWants_65 : decode cX1_colourWants 65 = .ok (.goto 5, 3) := by decide +kernel
theorem dX1_colourWants_68 : decode cX1_colourWants 68 = .ok (.iload 4, 2) := by decide +kernel
theorem dX1_colourWants_70 : decode cX1_colourWants 70 = .ok (.ireturn, 1) := by decide +kernel
theorem dX1_lowestLinkedWith_0 : decode cX1_lowestLinkedWith 0 = .ok (.iconst 0, 1) := by decide +kernel
theorem dX1_lowestLinkedWith_1 : decode cX1_lowestLinkedWith 1 = .ok (.istore 4, 2) := by decide +kernel
theorem dX1_lowestLinkedWith_3 : decode cX1_lowestLinkedWith 3 = .ok (.iload 4, 2) := by decide +kernel
theorem dX1_lowestLinkedWith_5 : decode cX1_lowestLinkedWith 5 = .ok (.aload_n 0, 1) := by decide +kernel
theorem dX1_lowestLinkedWith_6 : decode cX1_lowestLinkedWith 6 = .ok (.getfield 28, 3) := by decide +kernel
theorem dX1_lowestLinkedWith_9 : decode cX1_lowestLinkedWith 9 = .ok (.if_icmp .ge 33, 3) := by decide +kernel
theorem dX1_lowestLinkedWith_12 : decode cX1_lowestLinkedWith 12 = .ok (.aload_n 0, 1) := by decide +kernel
theorem dX1_lowestLinkedWith_13 : decode cX1_lowestLinkedWith 13 = .ok (.iload_n 2, 1) := by decide +kernel
theorem dX1_lowestLinkedWith_14 : decode cX1_lowestLinkedWith 14 = .ok (.iload 4, 2) := by decide +kernel
theorem dX1_lowestLinkedWith_16 : decode cX1_lowestLinkedWith 16 = .ok (.invokevirtual 47, 3) := by decide +kernel
theorem dX1_lowestLinkedWith_19 : decode cX1_lowestLinkedWith 19 = .ok (.ifCond .eq 17, 3) := by decide +kernel
theorem dX1_lowestLinkedWith_22 : decode cX1_lowestLinkedWith 22 = .ok (.aload_n 0, 1) := by decide +kernel
theorem dX1_lowestLinkedWith_23 : decode cX1_lowestLinkedWith 23 = .ok (.iload_n 1, 1) := by decide +kernel
theorem dX1_lowestLinkedWith_24 : decode cX1_lowestLinkedWith 24 = .ok (.iload 4, 2) := by decide +kernel
theorem dX1_lowestLinkedWith_26 : decode cX1_lowestLinkedWith 26 = .ok (.invokevirtual 68, 3) := by decide +kernel
theorem dX1_lowestLinkedWith_29 : decode cX1_lowestLinkedWith 29 = .ok (.iload_n 3, 1) := by decide +kernel
theorem dX1_lowestLinkedWith_30 : decode cX1_lowestLinkedWith 30 = .ok (.if_icmp .ne 6, 3) := by decide +kernel
theorem dX1_lowestLinkedWith_33 : decode cX1_lowestLinkedWith 33 = .ok (.iload 4, 2) := by decide +kernel
theorem dX1_lowestLinkedWith_35 : decode cX1_lowestLinkedWith 35 = .ok (.ireturn, 1) := by decide +kernel
theorem dX1_lowestLinkedWith_36 : decode cX1_lowestLinkedWith 36 = .ok (.iinc 4 1, 3) := by decide +kernel
theorem dX1_lowestLinkedWith_39 : decode cX1_lowestLinkedWith 39 = .ok (.goto (-36), 3) := by decide +kernel
theorem dX1_lowestLinkedWith_42 : decode cX1_lowestLinkedWith 42 = .ok (.bipush (-4), 2) := by decide +kernel
theorem dX1_lowestLinkedWith_44 : decode cX1_lowestLinkedWith 44 = .ok (.ireturn, 1) := by decide +kernel
theorem dX1_ruleOf_0 : decode cX1_ruleOf 0 = .ok (.aload_n 0, 1) := by decide +kernel
theorem dX1_ruleOf_1 : decode cX1_ruleOf 1 = .ok (.iload_n 1, 1) := by decide +kernel
theorem dX1_ruleOf_2 : decode cX1_ruleOf 2 = .ok (.iload_n 2, 1) := by decide +kernel
theorem dX1_ruleOf_3 : decode cX1_ruleOf 3 = .ok (.invokevirtual 68, 3) := by decide +kernel
theorem dX1_ruleOf_6 : decode cX1_ruleOf 6 = .ok (.istore_n 3, 1) := by decide +kernel
theorem dX1_ruleOf_7 : decode cX1_ruleOf 7 = .ok (.aload_n 0, 1) := by decide +kernel
theorem dX1_ruleOf_8 : decode cX1_ruleOf 8 = .ok (.iload_n 1, 1) := by decide +kernel
theorem dX1_ruleOf_9 : decode cX1_ruleOf 9 = .ok (.iload_n 2, 1) := by decide +kernel
theorem dX1_ruleOf_10 : decode cX1_ruleOf 10 = .ok (.invokevirtual 103, 3) := by decide +kernel
theorem dX1_ruleOf_13 : decode cX1_ruleOf 13 = .ok (.istore 4, 2) := by decide +kernel
theorem dX1_ruleOf_15 : decode cX1_ruleOf 15 = .ok (.iload 4, 2) := by decide +kernel
theorem dX1_ruleOf_17 : decode cX1_ruleOf 17 = .ok (.iload_n 3, 1) := by decide +kernel
theorem dX1_ruleOf_18 : decode cX1_ruleOf 18 = .ok (.if_icmp .ne 5, 3) := by decide +kernel
theorem dX1_ruleOf_21 : decode cX1_ruleOf 21 = .ok (.iconst 0, 1) := by decide +kernel
theorem dX1_ruleOf_22 : decode cX1_ruleOf 22 = .ok (.ireturn, 1) := by decide +kernel
theorem dX1_ruleOf_23 : decode cX1_ruleOf 23 = .ok (.aload_n 0, 1) := by decide +kernel
theorem dX1_ruleOf_24 : decode cX1_ruleOf 24 = .ok (.getfield 24, 3) := by decide +kernel
theorem dX1_ruleOf_27 : decode cX1_ruleOf 27 = .ok (.iconst 2, 1) := by decide +kernel
theorem dX1_ruleOf_28 : decode cX1_ruleOf 28 = .ok (.if_icmp .eq 5, 3) := by decide +kernel
theorem dX1_ruleOf_31 : decode cX1_ruleOf 31 = .ok (.iconst 1, 1) := by decide +kernel
theorem dX1_ruleOf_32 : decode cX1_ruleOf 32 = .ok (.ireturn, 1) := by decide +kernel
theorem dX1_ruleOf_33 : decode cX1_ruleOf 33 = .ok (.iload_n 3, 1) := by decide +kernel
theorem dX1_ruleOf_34 : decode cX1_ruleOf 34 = .ok (.ifCond .eq 5, 3) := by decide +kernel
theorem dX1_ruleOf_37 : decode cX1_ruleOf 37 = .ok (.iconst 3, 1) := by decide +kernel
theorem dX1_ruleOf_38 : decode cX1_ruleOf 38 = .ok (.ireturn, 1) := by decide +kernel
theorem dX1_ruleOf_39 : decode cX1_ruleOf 39 = .ok (.aload_n 0, 1) := by decide +kernel
theorem dX1_ruleOf_40 : decode cX1_ruleOf 40 = .ok (.iload_n 1, 1) := by decide +kernel
theorem dX1_ruleOf_41 : decode cX1_ruleOf 41 = .ok (.iload 4, 2) := by decide +kernel
theorem dX1_ruleOf_43 : decode cX1_ruleOf 43 = .ok (.iconst 1, 1) := by decide +kernel
theorem dX1_ruleOf_44 : decode cX1_ruleOf 44 = .ok (.isub, 1) := by decide +kernel
theorem dX1_ruleOf_45 : decode cX1_ruleOf 45 = .ok (.invokevirtual 68, 3) := by decide +kernel
theorem dX1_ruleOf_48 : decode cX1_ruleOf 48 = .ok (.iload_n 2, 1) := by decide +kernel
theorem dX1_ruleOf_49 : decode cX1_ruleOf 49 = .ok (.iconst 1, 1) := by decide +kernel
theorem dX1_ruleOf_50 : decode cX1_ruleOf 50 = .ok (.iadd, 1) := by decide +kernel
theorem dX1_ruleOf_51 : decode cX1_ruleOf 51 = .ok (.if_icmp .ne 7, 3) := by decide +kernel
theorem dX1_ruleOf_54 : decode cX1_ruleOf 54 = .ok (.iconst 1, 1) := by decide +kernel
theorem dX1_ruleOf_55 : decode cX1_ruleOf 55 = .ok (.goto 4, 3) := by decide +kernel
theorem dX1_ruleOf_58 : decode cX1_ruleOf 58 = .ok (.iconst 2, 1) := by decide +kernel
theorem dX1_ruleOf_59 : decode cX1_ruleOf 59 = .ok (.ireturn, 1) := by decide +kernel
theorem dX1_whoMay_0 : decode cX1_whoMay 0 = .ok (.iconst 0, 1) := by decide +kernel
theorem dX1_whoMay_1 : decode cX1_whoMay 1 = .ok (.istore_n 2, 1) := by decide +kernel
theorem dX1_whoMay_2 : decode cX1_whoMay 2 = .ok (.iconst 0, 1) := by decide +kernel
theorem dX1_whoMay_3 : decode cX1_whoMay 3 = .ok (.istore_n 3, 1) := by decide +kernel
theorem dX1_whoMay_4 : decode cX1_whoMay 4 = .ok (.iload_n 3, 1) := by decide +kernel
theorem dX1_whoMay_5 : decode cX1_whoMay 5 = .ok (.aload_n 0, 1) := by decide +kernel
theorem dX1_whoMay_6 : decode cX1_whoMay 6 = .ok (.getfield 28, 3) := by decide +kernel
theorem dX1_whoMay_9 : decode cX1_whoMay 9 = .ok (.if_icmp .ge 30, 3) := by decide +kernel
theorem dX1_whoMay_12 : decode cX1_whoMay 12 = .ok (.aload_n 0, 1) := by decide +kernel
theorem dX1_whoMay_13 : decode cX1_whoMay 13 = .ok (.iload_n 1, 1) := by decide +kernel
theorem dX1_whoMay_14 : decode cX1_whoMay 14 = .ok (.iload_n 3, 1) := by decide +kernel
theorem dX1_whoMay_15 : decode cX1_whoMay 15 = .ok (.invokevirtual 103, 3) := by decide +kernel
theorem dX1_whoMay_18 : decode cX1_whoMay 18 = .ok (.aload_n 0, 1) := by decide +kernel
theorem dX1_whoMay_19 : decode cX1_whoMay 19 = .ok (.iload_n 1, 1) := by decide +kernel
theorem dX1_whoMay_20 : decode cX1_whoMay 20 = .ok (.iload_n 3, 1) := by decide +kernel
theorem dX1_whoMay_21 : decode cX1_whoMay 21 = .ok (.invokevirtual 68, 3) := by decide +kernel
theorem dX1_whoMay_24 : decode cX1_whoMay 24 = .ok (.if_icmp .eq 9, 3) := by decide +kernel
theorem dX1_whoMay_27 : decode cX1_whoMay 27 = .ok (.iload_n 2, 1) := by decide +kernel
theorem dX1_whoMay_28 : decode cX1_whoMay 28 = .ok (.iconst 1, 1) := by decide +kernel
theorem dX1_whoMay_29 : decode cX1_whoMay 29 = .ok (.iload_n 3, 1) := by decide +kernel
theorem dX1_whoMay_30 : decode cX1_whoMay 30 = .ok (.ishl, 1) := by decide +kernel
theorem dX1_whoMay_31 : decode cX1_whoMay 31 = .ok (.ior, 1) := by decide +kernel
theorem dX1_whoMay_32 : decode cX1_whoMay 32 = .ok (.istore_n 2, 1) := by decide +kernel
theorem dX1_whoMay_33 : decode cX1_whoMay 33 = .ok (.iinc 3 1, 3) := by decide +kernel
theorem dX1_whoMay_36 : decode cX1_whoMay 36 = .ok (.goto (-32), 3) := by decide +kernel
theorem dX1_whoMay_39 : decode cX1_whoMay 39 = .ok (.iload_n 2, 1) := by decide +kernel
theorem dX1_whoMay_40 : decode cX1_whoMay 40 = .ok (.ireturn, 1) := by decide +kernel
theorem dX1_isLegal_0 : decode cX1_isLegal 0 = .ok (.aload_n 0, 1) := by decide +kernel
theorem dX1_isLegal_1 : decode cX1_isLegal 1 = .ok (.iload_n 1, 1) := by decide +kernel
theorem dX1_isLegal_2 : decode cX1_isLegal 2 = .ok (.invokevirtual 106, 3) := by decide +kernel
theorem dX1_isLegal_5 : decode cX1_isLegal 5 = .ok (.istore_n 2, 1) := by decide +kernel
theorem dX1_isLegal_6 : decode cX1_isLegal 6 = .ok (.aload_n 0, 1) := by decide +kernel
theorem dX1_isLegal_7 : decode cX1_isLegal 7 = .ok (.getfield 24, 3) := by decide +kernel
theorem dX1_isLegal_10 : decode cX1_isLegal 10 = .ok (.iconst 1, 1) := by decide +kernel
theorem dX1_isLegal_11 : decode cX1_isLegal 11 = .ok (.if_icmp .ne 19, 3) := by decide +kernel
theorem dX1_isLegal_14 : decode cX1_isLegal 14 = .ok (.iload_n 2, 1) := by decide +kernel
theorem dX1_isLegal_15 : decode cX1_isLegal 15 = .ok (.invokestatic 62, 3) := by decide +kernel
theorem dX1_isLegal_18 : decode cX1_isLegal 18 = .ok (.iconst 1, 1) := by decide +kernel
theorem dX1_isLegal_19 : decode cX1_isLegal 19 = .ok (.if_icmp .ne 7, 3) := by decide +kernel
theorem dX1_isLegal_22 : decode cX1_isLegal 22 = .ok (.iconst 1, 1) := by decide +kernel
theorem dX1_isLegal_23 : decode cX1_isLegal 23 = .ok (.goto 16, 3) := by decide +kernel
theorem dX1_isLegal_26 : decode cX1_isLegal 26 = .ok (.iconst 0, 1) := by decide +kernel
theorem dX1_isLegal_27 : decode cX1_isLegal 27 = .ok (.goto 12, 3) := by decide +kernel
theorem dX1_isLegal_30 : decode cX1_isLegal 30 = .ok (.iload_n 2, 1) := by decide +kernel
theorem dX1_isLegal_31 : decode cX1_isLegal 31 = .ok (.ifCond .ne 7, 3) := by decide +kernel
theorem dX1_isLegal_34 : decode cX1_isLegal 34 = .ok (.iconst 1, 1) := by decide +kernel
theorem dX1_isLegal_35 : decode cX1_isLegal 35 = .ok (.goto 4, 3) := by decide +kernel
theorem dX1_isLegal_38 : decode cX1_isLegal 38 = .ok (.iconst 0, 1) := by decide +kernel
theorem dX1_isLegal_39 : decode cX1_isLegal 39 = .ok (.ireturn, 1) := by decide +kernel
theorem dX1_moved_0 : decode cX1_moved 0 = .ok (.iload_n 1, 1) := by decide +kernel
theorem dX1_moved_1 : decode cX1_moved 1 = .ok (.istore_n 3, 1) := by decide +kernel
theorem dX1_moved_2 : decode cX1_moved 2 = .ok (.iconst 0, 1) := by decide +kernel
theorem dX1_moved_3 : decode cX1_moved 3 = .ok (.istore 4, 2) := by decide +kernel
theorem dX1_moved_5 : decode cX1_moved 5 = .ok (.iload 4, 2) := by decide +kernel
theorem dX1_moved_7 : decode cX1_moved 7 = .ok (.aload_n 0, 1) := by decide +kernel
theorem dX1_moved_8 : decode cX1_moved 8 = .ok (.getfield 28, 3) := by decide +kernel
theorem dX1_moved_11 : decode cX1_moved 11 = .ok (.if_icmp .ge 33, 3) := by decide +kernel
theorem dX1_moved_14 : decode cX1_moved 14 = .ok (.iload_n 2, 1) := by decide +kernel
theorem dX1_moved_15 : decode cX1_moved 15 = .ok (.iload 4, 2) := by decide +kernel
theorem dX1_moved_17 : decode cX1_moved 17 = .ok (.invokestatic 95, 3) := by decide +kernel
theorem dX1_moved_20 : decode cX1_moved 20 = .ok (.ifCond .eq 18, 3) := by decide +kernel
theorem dX1_moved_23 : decode cX1_moved 23 = .ok (.aload_n 0, 1) := by decide +kernel
theorem dX1_moved_24 : decode cX1_moved 24 = .ok (.iload_n 3, 1) := by decide +kernel
theorem dX1_moved_25 : decode cX1_moved 25 = .ok (.iload 4, 2) := by decide +kernel
theorem dX1_moved_27 : decode cX1_moved 27 = .ok (.aload_n 0, 1) := by decide +kernel
theorem dX1_moved_28 : decode cX1_moved 28 = .ok (.iload_n 1, 1) := by decide +kernel
theorem dX1_moved_29 : decode cX1_moved 29 = .ok (.iload 4, 2) := by decide +kernel
theorem dX1_moved_31 : decode cX1_moved 31 = .ok (.invokevirtual 103, 3) := by decide +kernel
theorem dX1_moved_34 : decode cX1_moved 34 = .ok (.invokevirtual 58, 3) := by decide +kernel
theorem dX1_moved_37 : decode cX1_moved 37 = .ok (.istore_n 3, 1) := by decide +kernel
theorem dX1_moved_38 : decode cX1_moved 38 = .ok (.iinc 4 1, 3) := by decide +kernel
theorem dX1_moved_41 : decode cX1_moved 41 = .ok (.goto (-36), 3) := by decide +kernel
theorem dX1_moved_44 : decode cX1_moved 44 = .ok (.iload_n 3, 1) := by decide +kernel
theorem dX1_moved_45 : decode cX1_moved 45 = .ok (.ireturn, 1) := by decide +kernel
theorem dX1_struck_0 : decode cX1_struck 0 = .ok (.aload_n 0, 1) := by decide +kernel
theorem dX1_struck_1 : decode cX1_struck 1 = .ok (.getfield 28, 3) := by decide +kernel
theorem dX1_struck_4 : decode cX1_struck 4 = .ok (.ifCond .le 10, 3) := by decide +kernel
theorem dX1_struck_7 : decode cX1_struck 7 = .ok (.aload_n 0, 1) := by decide +kernel
theorem dX1_struck_8 : decode cX1_struck 8 = .ok (.getfield 31, 3) := by decide +kernel
theorem dX1_struck_11 : decode cX1_struck 11 = .ok (.ifCond .gt 5, 3) := by decide +kernel
theorem dX1_struck_14 : decode cX1_struck 14 = .ok (.iload_n 1, 1) := by decide +kernel
theorem dX1_struck_15 : decode cX1_struck 15 = .ok (.ireturn, 1) := by decide +kernel
theorem dX1_struck_16 : decode cX1_struck 16 = .ok (.aload_n 0, 1) := by decide +kernel
theorem dX1_struck_17 : decode cX1_struck 17 = .ok (.iload_n 1, 1) := by decide +kernel
theorem dX1_struck_18 : decode cX1_struck 18 = .ok (.iload_n 2, 1) := by decide +kernel
theorem dX1_struck_19 : decode cX1_struck 19 = .ok (.bipush 8, 2) := by decide +kernel
theorem dX1_struck_21 : decode cX1_struck 21 = .ok (.idiv, 1) := by decide +kernel
theorem dX1_struck_22 : decode cX1_struck 22 = .ok (.aload_n 0, 1) := by decide +kernel
theorem dX1_struck_23 : decode cX1_struck 23 = .ok (.getfield 28, 3) := by decide +kernel
theorem dX1_struck_26 : decode cX1_struck 26 = .ok (.irem, 1) := by decide +kernel
theorem dX1_struck_27 : decode cX1_struck 27 = .ok (.iload_n 2, 1) := by decide +kernel
theorem dX1_struck_28 : decode cX1_struck 28 = .ok (.bipush 64, 2) := by decide +kernel
theorem dX1_struck_30 : decode cX1_struck 30 = .ok (.idiv, 1) := by decide +kernel
theorem dX1_struck_31 : decode cX1_struck 31 = .ok (.aload_n 0, 1) := by decide +kernel
theorem dX1_struck_32 : decode cX1_struck 32 = .ok (.getfield 31, 3) := by decide +kernel
theorem dX1_struck_35 : decode cX1_struck 35 = .ok (.irem, 1) := by decide +kernel
theorem dX1_struck_36 : decode cX1_struck 36 = .ok (.invokevirtual 58, 3) := by decide +kernel
theorem dX1_struck_39 : decode cX1_struck 39 = .ok (.ireturn, 1) := by decide +kernel
theorem dX1_matchOf_0 : decode cX1_matchOf 0 = .ok (.aload_n 0, 1) := by decide +kernel
theorem dX1_matchOf_1 : decode cX1_matchOf 1 = .ok (.iload_n 1, 1) := by decide +kernel
theorem dX1_matchOf_2 : decode cX1_matchOf 2 = .ok (.iload_n 2, 1) := by decide +kernel
theorem dX1_matchOf_3 : decode cX1_matchOf 3 = .ok (.invokevirtual 68, 3) := by decide +kernel
theorem dX1_matchOf_6 : decode cX1_matchOf 6 = .ok (.iconst 1, 1) := by decide +kernel
theorem dX1_matchOf_7 : decode cX1_matchOf 7 = .ok (.isub, 1) := by decide +kernel
theorem dX1_matchOf_8 : decode cX1_matchOf 8 = .ok (.istore_n 3, 1) := by decide +kernel
theorem dX1_matchOf_9 : decode cX1_matchOf 9 = .ok (.aload_n 0, 1) := by decide +kernel
theorem dX1_matchOf_10 : decode cX1_matchOf 10 = .ok (.iload_n 3, 1) := by decide +kernel
theorem dX1_matchOf_11 : decode cX1_matchOf 11 = .ok (.invokevirtual 43, 3) := by decide +kernel
theorem dX1_matchOf_14 : decode cX1_matchOf 14 = .ok (.ifCond .eq 28, 3) := by decide +kernel
theorem dX1_matchOf_17 : decode cX1_matchOf 17 = .ok (.aload_n 0, 1) := by decide +kernel
theorem dX1_matchOf_18 : decode cX1_matchOf 18 = .ok (.iload_n 2, 1) := by decide +kernel
theorem dX1_matchOf_19 : decode cX1_matchOf 19 = .ok (.iload_n 3, 1) := by decide +kernel
theorem dX1_matchOf_20 : decode cX1_matchOf 20 = .ok (.invokevirtual 47, 3) := by decide +kernel
theorem dX1_matchOf_23 : decode cX1_matchOf 23 = .ok (.ifCond .eq 19, 3) := by decide +kernel
theorem dX1_matchOf_26 : decode cX1_matchOf 26 = .ok (.aload_n 0, 1) := by decide +kernel
theorem dX1_matchOf_27 : decode cX1_matchOf 27 = .ok (.iload_n 1, 1) := by decide +kernel
theorem dX1_matchOf_28 : decode cX1_matchOf 28 = .ok (.iload_n 3, 1) := by decide +kernel
theorem dX1_matchOf_29 : decode cX1_matchOf 29 = .ok (.invokevirtual 68, 3) := by decide +kernel
theorem dX1_matchOf_32 : decode cX1_matchOf 32 = .ok (.iload_n 2, 1) := by decide +kernel
theorem dX1_matchOf_33 : decode cX1_matchOf 33 = .ok (.iconst 1, 1) := by decide +kernel
theorem dX1_matchOf_34 : decode cX1_matchOf 34 = .ok (.iadd, 1) := by decide +kernel
theorem dX1_matchOf_35 : decode cX1_matchOf 35 = .ok (.if_icmp .ne 7, 3) := by decide +kernel
theorem dX1_matchOf_38 : decode cX1_matchOf 38 = .ok (.iconst 1, 1) := by decide +kernel
theorem dX1_matchOf_39 : decode cX1_matchOf 39 = .ok (.goto 4, 3) := by decide +kernel
theorem dX1_matchOf_42 : decode cX1_matchOf 42 = .ok (.iconst 0, 1) := by decide +kernel
theorem dX1_matchOf_43 : decode cX1_matchOf 43 = .ok (.istore 4, 2) := by decide +kernel
theorem dX1_matchOf_45 : decode cX1_matchOf 45 = .ok (.iload 4, 2) := by decide +kernel
theorem dX1_matchOf_47 : decode cX1_matchOf 47 = .ok (.ifCond .eq 7, 3) := by decide +kernel
theorem dX1_matchOf_50 : decode cX1_matchOf 50 = .ok (.iload_n 3, 1) := by decide +kernel
theorem dX1_matchOf_51 : decode cX1_matchOf 51 = .ok (.goto 5, 3) := by decide +kernel
theorem dX1_matchOf_54 : decode cX1_matchOf 54 = .ok (.bipush (-4), 2) := by decide +kernel
theorem dX1_matchOf_56 : decode cX1_matchOf 56 = .ok (.ireturn, 1) := by decide +kernel
theorem dX1_parentOf_0 : decode cX1_parentOf 0 = .ok (.aload_n 0, 1) := by decide +kernel
theorem dX1_parentOf_1 : decode cX1_parentOf 1 = .ok (.iload_n 1, 1) := by decide +kernel
theorem dX1_parentOf_2 : decode cX1_parentOf 2 = .ok (.iload_n 2, 1) := by decide +kernel
theorem dX1_parentOf_3 : decode cX1_parentOf 3 = .ok (.aload_n 0, 1) := by decide +kernel
theorem dX1_parentOf_4 : decode cX1_parentOf 4 = .ok (.iload_n 1, 1) := by decide +kernel
theorem dX1_parentOf_5 : decode cX1_parentOf 5 = .ok (.iload_n 2, 1) := by decide +kernel
theorem dX1_parentOf_6 : decode cX1_parentOf 6 = .ok (.invokevirtual 68, 3) := by decide +kernel
theorem dX1_parentOf_9 : decode cX1_parentOf 9 = .ok (.iconst 1, 1) := by decide +kernel
theorem dX1_parentOf_10 : decode cX1_parentOf 10 = .ok (.isub, 1) := by decide +kernel
theorem dX1_parentOf_11 : decode cX1_parentOf 11 = .ok (.invokevirtual 87, 3) := by decide +kernel
theorem dX1_parentOf_14 : decode cX1_parentOf 14 = .ok (.ireturn, 1) := by decide +kernel
theorem dX2_init_0 : decode cX2_init 0 = .ok (.aload_n 0, 1) := by decide +kernel
theorem dX2_init_1 : decode cX2_init 1 = .ok (.invokespecial 3, 3) := by decide +kernel
theorem dX2_init_4 : decode cX2_init 4 = .ok (.aload_n 0, 1) := by decide +kernel
theorem dX2_init_5 : decode cX2_init 5 = .ok (.bipush 6, 2) := by decide +kernel
theorem dX2_init_7 : decode cX2_init 7 = .ok (.newarray .int, 2) := by decide +kernel
theorem dX2_init_9 : decode cX2_init 9 = .ok (.putfield 9, 3) := by decide +kernel
theorem dX2_init_12 : decode cX2_init 12 = .ok (.aload_n 0, 1) := by decide +kernel
theorem dX2_init_13 : decode cX2_init 13 = .ok (.bipush 6, 2) := by decide +kernel
theorem dX2_init_15 : decode cX2_init 15 = .ok (.newarray .int, 2) := by decide +kernel
theorem dX2_init_17 : decode cX2_init 17 = .ok (.putfield 15, 3) := by decide +kernel
theorem dX2_init_20 : decode cX2_init 20 = .ok (.return_, 1) := by decide +kernel
theorem dX2_size_0 : decode cX2_size 0 = .ok (.aload_n 0, 1) := by decide +kernel
theorem dX2_size_1 : decode cX2_size 1 = .ok (.getfield 18, 3) := by decide +kernel
theorem dX2_size_4 : decode cX2_size 4 = .ok (.ireturn, 1) := by decide +kernel
theorem dX2_clear_0 : decode cX2_clear 0 = .ok (.aload_n 0, 1) := by decide +kernel
theorem dX2_clear_1 : decode cX2_clear 1 = .ok (.iconst 0, 1) := by decide +kernel
theorem dX2_clear_2 : decode cX2_clear 2 = .ok (.putfield 18, 3) := by decide +kernel
theorem dX2_clear_5 : decode cX2_clear 5 = .ok (.return_, 1) := by decide +kernel
theorem dX2_keep_0 : decode cX2_keep 0 = .ok (.aload_n 0, 1) := by decide +kernel
theorem dX2_keep_1 : decode cX2_keep 1 = .ok (.getfield 18, 3) := by decide +kernel
theorem dX2_keep_4 : decode cX2_keep 4 = .ok (.bipush 6, 2) := by decide +kernel
theorem dX2_keep_6 : decode cX2_keep 6 = .ok (.if_icmp .lt 7, 3) := by decide +kernel
theorem dX2_keep_9 : decode cX2_keep 9 = .ok (.aload_n 0, 1) := by decide +kernel
theorem dX2_keep_10 : decode cX2_keep 10 = .ok (.invokevirtual 22, 3) := by decide +kernel
theorem dX2_keep_13 : decode cX2_keep 13 = .ok (.aload_n 0, 1) := by decide +kernel
theorem dX2_keep_14 : decode cX2_keep 14 = .ok (.getfield 9, 3) := by decide +kernel
theorem dX2_keep_17 : decode cX2_keep 17 = .ok (.aload_n 0, 1) := by decide +kernel
theorem dX2_keep_18 : decode cX2_keep 18 = .ok (.getfield 18, 3) := by decide +kernel
theorem dX2_keep_21 : decode cX2_keep 21 = .ok (.iload_n 1, 1) := by decide +kernel
theorem dX2_keep_22 : decode cX2_keep 22 = .ok (.invokestatic 25, 3) := by decide +kernel
theorem dX2_keep_25 : decode cX2_keep 25 = .ok (.aload_n 0, 1) := by decide +kernel
theorem dX2_keep_26 : decode cX2_keep 26 = .ok (.getfield 15, 3) := by decide +kernel
theorem dX2_keep_29 : decode cX2_keep 29 = .ok (.aload_n 0, 1) := by decide +kernel
theorem dX2_keep_30 : decode cX2_keep 30 = .ok (.getfield 18, 3) := by decide +kernel
theorem dX2_keep_33 : decode cX2_keep 33 = .ok (.iload_n 2, 1) := by decide +kernel
theorem dX2_keep_34 : decode cX2_keep 34 = .ok (.invokestatic 25, 3) := by decide +kernel
theorem dX2_keep_37 : decode cX2_keep 37 = .ok (.aload_n 0, 1) := by decide +kernel
theorem dX2_keep_38 : decode cX2_keep 38 = .ok (.dup, 1) := by decide +kernel
theorem dX2_keep_39 : decode cX2_keep 39 = .ok (.getfield 18, 3) := by decide +kernel
theorem dX2_keep_42 : decode cX2_keep 42 = .ok (.iconst 1, 1) := by decide +kernel
theorem dX2_keep_43 : decode cX2_keep 43 = .ok (.iadd, 1) := by decide +kernel
theorem dX2_keep_44 : decode cX2_keep 44 = .ok (.putfield 18, 3) := by decide +kernel
theorem dX2_keep_47 : decode cX2_keep 47 = .ok (.return_, 1) := by decide +kernel
theorem dX2_forgetOldest_0 : decode cX2_forgetOldest 0 = .ok (.iconst 1, 1) := by decide +kernel
theorem dX2_forgetOldest_1 : decode cX2_forgetOldest 1 = .ok (.istore_n 1, 1) := by decide +kernel
theorem dX2_forgetOldest_2 : decode cX2_forgetOldest 2 = .ok (.iload_n 1, 1) := by decide +kernel
theorem dX2_forgetOldest_3 : decode cX2_forgetOldest 3 = .ok (.aload_n 0, 1) := by decide +kernel
theorem dX2_forgetOldest_4 : decode cX2_forgetOldest 4 = .ok (.getfield 18, 3) := by decide +kernel
theorem dX2_forgetOldest_7 : decode cX2_forgetOldest 7 = .ok (.if_icmp .ge 45, 3) := by decide +kernel
theorem dX2_forgetOldest_10 : decode cX2_forgetOldest 10 = .ok (.aload_n 0, 1) := by decide +kernel
theorem dX2_forgetOldest_11 : decode cX2_forgetOldest 11 = .ok (.getfield 9, 3) := by decide +kernel
theorem dX2_forgetOldest_14 : decode cX2_forgetOldest 14 = .ok (.iload_n 1, 1) := by decide +kernel
theorem dX2_forgetOldest_15 : decode cX2_forgetOldest 15 = .ok (.iconst 1, 1) := by decide +kernel
theorem dX2_forgetOldest_16 : decode cX2_forgetOldest 16 = .ok (.isub, 1) := by decide +kernel
theorem dX2_forgetOldest_17 : decode cX2_forgetOldest 17 = .ok (.aload_n 0, 1) := by decide +kernel
theorem dX2_forgetOldest_18 : decode cX2_forgetOldest 18 = .ok (.getfield 9, 3) := by decide +kernel
theorem dX2_forgetOldest_21 : decode cX2_forgetOldest 21 = .ok (.iload_n 1, 1) := by decide +kernel
theorem dX2_forgetOldest_22 : decode cX2_forgetOldest 22 = .ok (.invokestatic 31, 3) := by decide +kernel
theorem dX2_forgetOldest_25 : decode cX2_forgetOldest 25 = .ok (.invokestatic 25, 3) := by decide +kernel
theorem dX2_forgetOldest_28 : decode cX2_forgetOldest 28 = .ok (.aload_n 0, 1) := by decide +kernel
theorem dX2_forgetOldest_29 : decode cX2_forgetOldest 29 = .ok (.getfield 15, 3) := by decide +kernel
theorem dX2_forgetOldest_32 : decode cX2_forgetOldest 32 = .ok (.iload_n 1, 1) := by decide +kernel
theorem dX2_forgetOldest_33 : decode cX2_forgetOldest 33 = .ok (.iconst 1, 1) := by decide +kernel
theorem dX2_forgetOldest_34 : decode cX2_forgetOldest 34 = .ok (.isub, 1) := by decide +kernel
theorem dX2_forgetOldest_35 : decode cX2_forgetOldest 35 = .ok (.aload_n 0, 1) := by decide +kernel
theorem dX2_forgetOldest_36 : decode cX2_forgetOldest 36 = .ok (.getfield 15, 3) := by decide +kernel
theorem dX2_forgetOldest_39 : decode cX2_forgetOldest 39 = .ok (.iload_n 1, 1) := by decide +kernel
theorem dX2_forgetOldest_40 : decode cX2_forgetOldest 40 = .ok (.invokestatic 31, 3) := by decide +kernel
theorem dX2_forgetOldest_43 : decode cX2_forgetOldest 43 = .ok (.invokestatic 25, 3) := by decide +kernel
theorem dX2_forgetOldest_46 : decode cX2_forgetOldest 46 = .ok (.iinc 1 1, 3) := by decide +kernel
theorem dX2_forgetOldest_49 : decode cX2_forgetOldest 49 = .ok (.goto (-47), 3) := by decide +kernel
theorem dX2_forgetOldest_52 : decode cX2_forgetOldest 52 = .ok (.aload_n 0, 1) := by decide +kernel
theorem dX2_forgetOldest_53 : decode cX2_forgetOldest 53 = .ok (.dup, 1) := by decide +kernel
theorem dX2_forgetOldest_54 : decode cX2_forgetOldest 54 = .ok (.getfield 18, 3) := by decide +kernel
theorem dX2_forgetOldest_57 : decode cX2_forgetOldest 57 = .ok (.iconst 1, 1) := by decide +kernel
theorem dX2_forgetOldest_58 : decode cX2_forgetOldest 58 = .ok (.isub, 1) := by decide +kernel
theorem dX2_forgetOldest_59 : decode cX2_forgetOldest 59 = .ok (.putfield 18, 3) := by decide +kernel
theorem dX2_forgetOldest_62 : decode cX2_forgetOldest 62 = .ok (.return_, 1) := by decide +kernel
theorem dX2_lastState_0 : decode cX2_lastState 0 = .ok (.aload_n 0, 1) := by decide +kernel
theorem dX2_lastState_1 : decode cX2_lastState 1 = .ok (.getfield 9, 3) := by decide +kernel
theorem dX2_lastState_4 : decode cX2_lastState 4 = .ok (.aload_n 0, 1) := by decide +kernel
theorem dX2_lastState_5 : decode cX2_lastState 5 = .ok (.getfield 18, 3) := by decide +kernel
theorem dX2_lastState_8 : decode cX2_lastState 8 = .ok (.iconst 1, 1) := by decide +kernel
theorem dX2_lastState_9 : decode cX2_lastState 9 = .ok (.isub, 1) := by decide +kernel
theorem dX2_lastState_10 : decode cX2_lastState 10 = .ok (.invokestatic 31, 3) := by decide +kernel
theorem dX2_lastState_13 : decode cX2_lastState 13 = .ok (.ireturn, 1) := by decide +kernel
theorem dX2_lastMover_0 : decode cX2_lastMover 0 = .ok (.aload_n 0, 1) := by decide +kernel
theorem dX2_lastMover_1 : decode cX2_lastMover 1 = .ok (.getfield 15, 3) := by decide +kernel
theorem dX2_lastMover_4 : decode cX2_lastMover 4 = .ok (.aload_n 0, 1) := by decide +kernel
theorem dX2_lastMover_5 : decode cX2_lastMover 5 = .ok (.getfield 18, 3) := by decide +kernel
theorem dX2_lastMover_8 : decode cX2_lastMover 8 = .ok (.iconst 1, 1) := by decide +kernel
theorem dX2_lastMover_9 : decode cX2_lastMover 9 = .ok (.isub, 1) := by decide +kernel
theorem dX2_lastMover_10 : decode cX2_lastMover 10 = .ok (.invokestatic 31, 3) := by decide +kernel
theorem dX2_lastMover_13 : decode cX2_lastMover 13 = .ok (.ireturn, 1) := by decide +kernel
theorem dX2_drop_0 : decode cX2_drop 0 = .ok (.aload_n 0, 1) := by decide +kernel
theorem dX2_drop_1 : decode cX2_drop 1 = .ok (.getfield 18, 3) := by decide +kernel
theorem dX2_drop_4 : decode cX2_drop 4 = .ok (.ifCond .le 13, 3) := by decide +kernel
theorem dX2_drop_7 : decode cX2_drop 7 = .ok (.aload_n 0, 1) := by decide +kernel
theorem dX2_drop_8 : decode cX2_drop 8 = .ok (.dup, 1) := by decide +kernel
theorem dX2_drop_9 : decode cX2_drop 9 = .ok (.getfield 18, 3) := by decide +kernel
theorem dX2_drop_12 : decode cX2_drop 12 = .ok (.iconst 1, 1) := by decide +kernel
theorem dX2_drop_13 : decode cX2_drop 13 = .ok (.isub, 1) := by decide +kernel
theorem dX2_drop_14 : decode cX2_drop 14 = .ok (.putfield 18, 3) := by decide +kernel
theorem dX2_drop_17 : decode cX2_drop 17 = .ok (.return_, 1) := by decide +kernel
theorem dX3_at_0 : decode cX3_at 0 = .ok (.iload_n 1, 1) := by decide +kernel
theorem dX3_at_1 : decode cX3_at 1 = .ok (.ifCond .lt 15, 3) := by decide +kernel
theorem dX3_at_4 : decode cX3_at 4 = .ok (.iload_n 1, 1) := by decide +kernel
theorem dX3_at_5 : decode cX3_at 5 = .ok (.aload_n 0, 1) := by decide +kernel
theorem dX3_at_6 : decode cX3_at 6 = .ok (.arraylength, 1) := by decide +kernel
theorem dX3_at_7 : decode cX3_at 7 = .ok (.if_icmp .ge 9, 3) := by decide +kernel
theorem dX3_at_10 : decode cX3_at 10 = .ok (.aload_n 0, 1) := by decide +kernel
theorem dX3_at_11 : decode cX3_at 11 = .ok (.iload_n 1, 1) := by decide +kernel
theorem dX3_at_12 : decode cX3_at 12 = .ok (.iaload, 1) := by decide +kernel
theorem dX3_at_13 : decode cX3_at 13 = .ok (.goto 4, 3) := by decide +kernel
theorem dX3_at_16 : decode cX3_at 16 = .ok (.iconst 0, 1) := by decide +kernel
theorem dX3_at_17 : decode cX3_at 17 = .ok (.ireturn, 1) := by decide +kernel
theorem dX3_put_0 : decode cX3_put 0 = .ok (.iload_n 1, 1) := by decide +kernel
theorem dX3_put_1 : decode cX3_put 1 = .ok (.ifCond .lt 13, 3) := by decide +kernel
theorem dX3_put_4 : decode cX3_put 4 = .ok (.iload_n 1, 1) := by decide +kernel
theorem dX3_put_5 : decode cX3_put 5 = .ok (.aload_n 0, 1) := by decide +kernel
theorem dX3_put_6 : decode cX3_put 6 = .ok (.arraylength, 1) := by decide +kernel
theorem dX3_put_7 : decode cX3_put 7 = .ok (.if_icmp .ge 7, 3) := by decide +kernel
theorem dX3_put_10 : decode cX3_put 10 = .ok (.aload_n 0, 1) := by decide +kernel
theorem dX3_put_11 : decode cX3_put 11 = .ok (.iload_n 1, 1) := by decide +kernel
theorem dX3_put_12 : decode cX3_put 12 = .ok (.iload_n 2, 1) := by decide +kernel
theorem dX3_put_13 : decode cX3_put 13 = .ok (.iastore, 1) := by decide +kernel
theorem dX3_put_14 : decode cX3_put 14 = .ok (.return_, 1) := by decide +kernel
theorem dX4_init_0 : decode cX4_init 0 = .ok (.aload_n 0, 1) := by decide +kernel
theorem dX4_init_1 : decode cX4_init 1 = .ok (.invokespecial 3, 3) := by decide +kernel
theorem dX4_init_4 : decode cX4_init 4 = .ok (.aload_n 0, 1) := by decide +kernel
theorem dX4_init_5 : decode cX4_init 5 = .ok (.sipush 4096, 3) := by decide +kernel
theorem dX4_init_8 : decode cX4_init 8 = .ok (.newarray .int, 2) := by decide +kernel
theorem dX4_init_10 : decode cX4_init 10 = .ok (.putfield 9, 3) := by decide +kernel
theorem dX4_init_13 : decode cX4_init 13 = .ok (.aload_n 0, 1) := by decide +kernel
theorem dX4_init_14 : decode cX4_init 14 = .ok (.sipush 4096, 3) := by decide +kernel
theorem dX4_init_17 : decode cX4_init 17 = .ok (.newarray .int, 2) := by decide +kernel
theorem dX4_init_19 : decode cX4_init 19 = .ok (.putfield 15, 3) := by decide +kernel
theorem dX4_init_22 : decode cX4_init 22 = .ok (.aload_n 0, 1) := by decide +kernel
theorem dX4_init_23 : decode cX4_init 23 = .ok (.sipush 4096, 3) := by decide +kernel
theorem dX4_init_26 : decode cX4_init 26 = .ok (.newarray .int, 2) := by decide +kernel
theorem dX4_init_28 : decode cX4_init 28 = .ok (.putfield 18, 3) := by decide +kernel
theorem dX4_init_31 : decode cX4_init 31 = .ok (.aload_n 0, 1) := by decide +kernel
theorem dX4_init_32 : decode cX4_init 32 = .ok (.sipush 4096, 3) := by decide +kernel
theorem dX4_init_35 : decode cX4_init 35 = .ok (.newarray .int, 2) := by decide +kernel
theorem dX4_init_37 : decode cX4_init 37 = .ok (.putfield 21, 3) := by decide +kernel
theorem dX4_init_40 : decode cX4_init 40 = .ok (.aload_n 0, 1) := by decide +kernel
theorem dX4_init_41 : decode cX4_init 41 = .ok (.sipush 4096, 3) := by decide +kernel
theorem dX4_init_44 : decode cX4_init 44 = .ok (.newarray .int, 2) := by decide +kernel
theorem dX4_init_46 : decode cX4_init 46 = .ok (.putfield 24, 3) := by decide +kernel
theorem dX4_init_49 : decode cX4_init 49 = .ok (.aload_n 0, 1) := by decide +kernel
theorem dX4_init_50 : decode cX4_init 50 = .ok (.sipush 4096, 3) := by decide +kernel
theorem dX4_init_53 : decode cX4_init 53 = .ok (.newarray .int, 2) := by decide +kernel
theorem dX4_init_55 : decode cX4_init 55 = .ok (.putfield 27, 3) := by decide +kernel
theorem dX4_init_58 : decode cX4_init 58 = .ok (.return_, 1) := by decide +kernel
theorem dX4_forget_0 : decode cX4_forget 0 = .ok (.aload_n 0, 1) := by decide +kernel
theorem dX4_forget_1 : decode cX4_forget 1 = .ok (.iconst 0, 1) := by decide +kernel
theorem dX4_forget_2 : decode cX4_forget 2 = .ok (.putfield 30, 3) := by decide +kernel
theorem dX4_forget_5 : decode cX4_forget 5 = .ok (.return_, 1) := by decide +kernel
theorem dX4_make_0 : decode cX4_make 0 = .ok (.aload_n 0, 1) := by decide +kernel
theorem dX4_make_1 : decode cX4_make 1 = .ok (.getfield 30, 3) := by decide +kernel
theorem dX4_make_4 : decode cX4_make 4 = .ok (.ifCond .eq 4, 3) := by decide +kernel
theorem dX4_make_7 : decode cX4_make 7 = .ok (.return_, 1) := by decide +kernel
theorem dX4_make_8 : decode cX4_make 8 = .ok (.aload_n 0, 1) := by decide +kernel
theorem dX4_make_9 : decode cX4_make 9 = .ok (.iconst 1, 1) := by decide +kernel
theorem dX4_make_10 : decode cX4_make 10 = .ok (.putfield 30, 3) := by decide +kernel
theorem dX4_make_13 : decode cX4_make 13 = .ok (.aload_n 0, 1) := by decide +kernel
theorem dX4_make_14 : decode cX4_make 14 = .ok (.aload_n 1, 1) := by decide +kernel
theorem dX4_make_15 : decode cX4_make 15 = .ok (.getfield 34, 3) := by decide +kernel
theorem dX4_make_18 : decode cX4_make 18 = .ok (.sipush 4096, 3) := by decide +kernel
theorem dX4_make_21 : decode cX4_make 21 = .ok (.invokestatic 40, 3) := by decide +kernel
theorem dX4_make_24 : decode cX4_make 24 = .ok (.putfield 46, 3) := by decide +kernel
theorem dX4_make_27 : decode cX4_make 27 = .ok (.iconst 0, 1) := by decide +kernel
theorem dX4_make_28 : decode cX4_make 28 = .ok (.istore_n 2, 1) := by decide +kernel
theorem dX4_make_29 : decode cX4_make 29 = .ok (.iload_n 2, 1) := by decide +kernel
theorem dX4_make_30 : decode cX4_make 30 = .ok (.aload_n 0, 1) := by decide +kernel
theorem dX4_make_31 : decode cX4_make 31 = .ok (.getfield 46, 3) := by decide +kernel
theorem dX4_make_34 : decode cX4_make 34 = .ok (.if_icmp .ge 15, 3) := by decide +kernel
theorem dX4_make_37 : decode cX4_make 37 = .ok (.aload_n 0, 1) := by decide +kernel
theorem dX4_make_38 : decode cX4_make 38 = .ok (.aload_n 1, 1) := by decide +kernel
theorem dX4_make_39 : decode cX4_make 39 = .ok (.iload_n 2, 1) := by decide +kernel
theorem dX4_make_40 : decode cX4_make 40 = .ok (.invokevirtual 47, 3) := by decide +kernel
theorem dX4_make_43 : decode cX4_make 43 = .ok (.iinc 2 1, 3) := by decide +kernel
theorem dX4_make_46 : decode cX4_make 46 = .ok (.goto (-17), 3) := by decide +kernel
theorem dX4_make_49 : decode cX4_make 49 = .ok (.aload_n 0, 1) := by decide +kernel
theorem dX4_make_50 : decode cX4_make 50 = .ok (.aload_n 1, 1) := by decide +kernel
theorem dX4_make_51 : decode cX4_make 51 = .ok (.aload_n 0, 1) := by decide +kernel
theorem dX4_make_52 : decode cX4_make 52 = .ok (.getfield 18, 3) := by decide +kernel
theorem dX4_make_55 : decode cX4_make 55 = .ok (.iconst 0, 1) := by decide +kernel
theorem dX4_make_56 : decode cX4_make 56 = .ok (.invokevirtual 51, 3) := by decide +kernel
theorem dX4_make_59 : decode cX4_make 59 = .ok (.aload_n 0, 1) := by decide +kernel
theorem dX4_make_60 : decode cX4_make 60 = .ok (.aload_n 1, 1) := by decide +kernel
theorem dX4_make_61 : decode cX4_make 61 = .ok (.aload_n 0, 1) := by decide +kernel
theorem dX4_make_62 : decode cX4_make 62 = .ok (.getfield 21, 3) := by decide +kernel
theorem dX4_make_65 : decode cX4_make 65 = .ok (.iconst 1, 1) := by decide +kernel
theorem dX4_make_66 : decode cX4_make 66 = .ok (.invokevirtual 51, 3) := by decide +kernel
theorem dX4_make_69 : decode cX4_make 69 = .ok (.aload_n 0, 1) := by decide +kernel
theorem dX4_make_70 : decode cX4_make 70 = .ok (.aload_n 1, 1) := by decide +kernel
theorem dX4_make_71 : decode cX4_make 71 = .ok (.aload_n 0, 1) := by decide +kernel
theorem dX4_make_72 : decode cX4_make 72 = .ok (.getfield 24, 3) := by decide +kernel
theorem dX4_make_75 : decode cX4_make 75 = .ok (.iconst 2, 1) := by decide +kernel
theorem dX4_make_76 : decode cX4_make 76 = .ok (.invokevirtual 51, 3) := by decide +kernel
theorem dX4_make_79 : decode cX4_make 79 = .ok (.return_, 1) := by decide +kernel
theorem dX4_noteMoves_0 : decode cX4_noteMoves 0 = .ok (.iconst 0, 1) := by decide +kernel
theorem dX4_noteMoves_1 : decode cX4_noteMoves 1 = .ok (.istore_n 3, 1) := by decide +kernel
theorem dX4_noteMoves_2 : decode cX4_noteMoves 2 = .ok (.iconst 0, 1) := by decide +kernel
theorem dX4_noteMoves_3 : decode cX4_noteMoves 3 = .ok (.istore 4, 2) := by decide +kernel
theorem dX4_noteMoves_5 : decode cX4_noteMoves 5 = .ok (.iconst 0, 1) := by decide +kernel
theorem dX4_noteMoves_6 : decode cX4_noteMoves 6 = .ok (.istore 5, 2) := by decide +kernel
theorem dX4_noteMoves_8 : decode cX4_noteMoves 8 = .ok (.iload 5, 2) := by decide +kernel
theorem dX4_noteMoves_10 : decode cX4_noteMoves 10 = .ok (.aload_n 1, 1) := by decide +kernel
theorem dX4_noteMoves_11 : decode cX4_noteMoves 11 = .ok (.getfield 55, 3) := by decide +kernel
theorem dX4_noteMoves_14 : decode cX4_noteMoves 14 = .ok (.if_icmp .ge 50, 3) := by decide +kernel
theorem dX4_noteMoves_17 : decode cX4_noteMoves 17 = .ok (.aload_n 1, 1) := by decide +kernel
theorem dX4_noteMoves_18 : decode cX4_noteMoves 18 = .ok (.iload_n 2, 1) := by decide +kernel
theorem dX4_noteMoves_19 : decode cX4_noteMoves 19 = .ok (.iload 5, 2) := by decide +kernel
theorem dX4_noteMoves_21 : decode cX4_noteMoves 21 = .ok (.invokevirtual 58, 3) := by decide +kernel
theorem dX4_noteMoves_24 : decode cX4_noteMoves 24 = .ok (.istore 6, 2) := by decide +kernel
theorem dX4_noteMoves_26 : decode cX4_noteMoves 26 = .ok (.iload_n 3, 1) := by decide +kernel
theorem dX4_noteMoves_27 : decode cX4_noteMoves 27 = .ok (.iload 6, 2) := by decide +kernel
theorem dX4_noteMoves_29 : decode cX4_noteMoves 29 = .ok (.iconst 3, 1) := by decide +kernel
theorem dX4_noteMoves_30 : decode cX4_noteMoves 30 = .ok (.iload 5, 2) := by decide +kernel
theorem dX4_noteMoves_32 : decode cX4_noteMoves 32 = .ok (.imul, 1) := by decide +kernel
theorem dX4_noteMoves_33 : decode cX4_noteMoves 33 = .ok (.ishl, 1) := by decide +kernel
theorem dX4_noteMoves_34 : decode cX4_noteMoves 34 = .ok (.ior, 1) := by decide +kernel
theorem dX4_noteMoves_35 : decode cX4_noteMoves 35 = .ok (.istore_n 3, 1) := by decide +kernel
theorem dX4_noteMoves_36 : decode cX4_noteMoves 36 = .ok (.iload 4, 2) := by decide +kernel
theorem dX4_noteMoves_38 : decode cX4_noteMoves 38 = .ok (.iload 6, 2) := by decide +kernel
theorem dX4_noteMoves_40 : decode cX4_noteMoves 40 = .ok (.aload_n 1, 1) := by decide +kernel
theorem dX4_noteMoves_41 : decode cX4_noteMoves 41 = .ok (.iload_n 2, 1) := by decide +kernel
theorem dX4_noteMoves_42 : decode cX4_noteMoves 42 = .ok (.iload 5, 2) := by decide +kernel
theorem dX4_noteMoves_44 : decode cX4_noteMoves 44 = .ok (.invokevirtual 61, 3) := by decide +kernel
theorem dX4_noteMoves_47 : decode cX4_noteMoves 47 = .ok (.if_icmp .eq 7, 3) := by decide +kernel
theorem dX4_noteMoves_50 : decode cX4_noteMoves 50 = .ok (.iconst 1, 1) := by decide +kernel
theorem dX4_noteMoves_51 : decode cX4_noteMoves 51 = .ok (.goto 4, 3) := by decide +kernel
theorem dX4_noteMoves_54 : decode cX4_noteMoves 54 = .ok (.iconst 0, 1) := by decide +kernel
theorem dX4_noteMoves_55 : decode cX4_noteMoves 55 = .ok (.iadd, 1) := by decide +kernel
theorem dX4_noteMoves_56 : decode cX4_noteMoves 56 = .ok (.istore 4, 2) := by decide +kernel
theorem dX4_noteMoves_58 : decode cX4_noteMoves 58 = .ok (.iinc 5 1, 3) := by decide +kernel
theorem dX4_noteMoves_61 : decode cX4_noteMoves 61 = .ok (.goto (-53), 3) := by decide +kernel
theorem dX4_noteMoves_64 : decode cX4_noteMoves 64 = .ok (.aload_n 0, 1) := by decide +kernel
theorem dX4_noteMoves_65 : decode cX4_noteMoves 65 = .ok (.getfield 9, 3) := by decide +kernel
theorem dX4_noteMoves_68 : decode cX4_noteMoves 68 = .ok (.iload_n 2, 1) := by decide +kernel
theorem dX4_noteMoves_69 : decode cX4_noteMoves 69 = .ok (.iload_n 3, 1) := by decide +kernel
theorem dX4_noteMoves_70 : decode cX4_noteMoves 70 = .ok (.invokestatic 64, 3) := by decide +kernel
theorem dX4_noteMoves_73 : decode cX4_noteMoves 73 = .ok (.aload_n 0, 1) := by decide +kernel
theorem dX4_noteMoves_74 : decode cX4_noteMoves 74 = .ok (.getfield 15, 3) := by decide +kernel
theorem dX4_noteMoves_77 : decode cX4_noteMoves 77 = .ok (.iload_n 2, 1) := by decide +kernel
theorem dX4_noteMoves_78 : decode cX4_noteMoves 78 = .ok (.iload 4, 2) := by decide +kernel
theorem dX4_noteMoves_80 : decode cX4_noteMoves 80 = .ok (.invokestatic 64, 3) := by decide +kernel
theorem dX4_noteMoves_83 : decode cX4_noteMoves 83 = .ok (.iload 4, 2) := by decide +kernel
theorem dX4_noteMoves_85 : decode cX4_noteMoves 85 = .ok (.aload_n 1, 1) := by decide +kernel
theorem dX4_noteMoves_86 : decode cX4_noteMoves 86 = .ok (.getfield 70, 3) := by decide +kernel
theorem dX4_noteMoves_89 : decode cX4_noteMoves 89 = .ok (.iconst 1, 1) := by decide +kernel
theorem dX4_noteMoves_90 : decode cX4_noteMoves 90 = .ok (.if_icmp .ne 7, 3) := by decide +kernel
theorem dX4_noteMoves_93 : decode cX4_noteMoves 93 = .ok (.iconst 1, 1) := by decide +kernel
theorem dX4_noteMoves_94 : decode cX4_noteMoves 94 = .ok (.goto 4, 3) := by decide +kernel
theorem dX4_noteMoves_97 : decode cX4_noteMoves 97 = .ok (.iconst 0, 1) := by decide +kernel
theorem dX4_noteMoves_98 : decode cX4_noteMoves 98 = .ok (.if_icmp .ne 7, 3) := by decide +kernel
theorem dX4_noteMoves_101 : decode cX4_noteMoves 101 = .ok (.iconst 1, 1) := by decide +kernel
theorem dX4_noteMoves_102 : decode cX4_noteMoves 102 = .ok (.goto 4, 3) := by decide +kernel
theorem dX4_noteMoves_105 : decode cX4_noteMoves 105 = .ok (.iconst 0, 1) := by decide +kernel
theorem dX4_noteMoves_106 : decode cX4_noteMoves 106 = .ok (.istore 5, 2) := by decide +kernel
theorem dX4_noteMoves_108 : decode cX4_noteMoves 108 = .ok (.aload_n 0, 1) := by decide +kernel
theorem dX4_noteMoves_109 : decode cX4_noteMoves 109 = .ok (.getfield 18, 3) := by decide +kernel
theorem dX4_noteMoves_112 : decode cX4_noteMoves 112 = .ok (.iload_n 2, 1) := by decide +kernel
theorem dX4_noteMoves_113 : decode cX4_noteMoves 113 = .ok (.iload 5, 2) := by decide +kernel
theorem dX4_noteMoves_115 : decode cX4_noteMoves 115 = .ok (.ifCond .eq 7, 3) := by decide +kernel
theorem dX4_noteMoves_118 : decode cX4_noteMoves 118 = .ok (.iconst 0, 1) := by decide +kernel
theorem dX4_noteMoves_119 : decode cX4_noteMoves 119 = .ok (.goto 5, 3) := by decide +kernel
theorem dX4_noteMoves_122 : decode cX4_noteMoves 122 = .ok (.bipush (-5), 2) := by decide +kernel
theorem dX4_noteMoves_124 : decode cX4_noteMoves 124 = .ok (.invokestatic 64, 3) := by decide +kernel
theorem dX4_noteMoves_127 : decode cX4_noteMoves 127 = .ok (.aload_n 0, 1) := by decide +kernel
theorem dX4_noteMoves_128 : decode cX4_noteMoves 128 = .ok (.getfield 21, 3) := by decide +kernel
theorem dX4_noteMoves_131 : decode cX4_noteMoves 131 = .ok (.iload_n 2, 1) := by decide +kernel
theorem dX4_noteMoves_132 : decode cX4_noteMoves 132 = .ok (.iload 5, 2) := by decide +kernel
theorem dX4_noteMoves_134 : decode cX4_noteMoves 134 = .ok (.ifCond .eq 7, 3) := by decide +kernel
theorem dX4_noteMoves_137 : decode cX4_noteMoves 137 = .ok (.iconst 0, 1) := by decide +kernel
theorem dX4_noteMoves_138 : decode cX4_noteMoves 138 = .ok (.goto 5, 3) := by decide +kernel
theorem dX4_noteMoves_141 : decode cX4_noteMoves 141 = .ok (.bipush (-5), 2) := by decide +kernel
theorem dX4_noteMoves_143 : decode cX4_noteMoves 143 = .ok (.invokestatic 64, 3) := by decide +kernel
theorem dX4_noteMoves_146 : decode cX4_noteMoves 146 = .ok (.aload_n 0, 1) := by decide +kernel
theorem dX4_noteMoves_147 : decode cX4_noteMoves 147 = .ok (.getfield 24, 3) := by decide +kernel
theorem dX4_noteMoves_150 : decode cX4_noteMoves 150 = .ok (.iload_n 2, 1) := by decide +kernel
theorem dX4_noteMoves_151 : decode cX4_noteMoves 151 = .ok (.iload 5, 2) := by decide +kernel
theorem dX4_noteMoves_153 : decode cX4_noteMoves 153 = .ok (.ifCond .eq 7, 3) := by decide +kernel
theorem dX4_noteMoves_156 : decode cX4_noteMoves 156 = .ok (.iconst 0, 1) := by decide +kernel
theorem dX4_noteMoves_157 : decode cX4_noteMoves 157 = .ok (.goto 5, 3) := by decide +kernel
theorem dX4_noteMoves_160 : decode cX4_noteMoves 160 = .ok (.bipush (-4), 2) := by decide +kernel
theorem dX4_noteMoves_162 : decode cX4_noteMoves 162 = .ok (.invokestatic 64, 3) := by decide +kernel
theorem dX4_noteMoves_165 : decode cX4_noteMoves 165 = .ok (.return_, 1) := by decide +kernel
theorem dX4_spread_0 : decode cX4_spread 0 = .ok (.iconst 0, 1) := by decide +kernel
theorem dX4_spread_1 : decode cX4_spread 1 = .ok (.istore 4, 2) := by decide +kernel
theorem dX4_spread_3 : decode cX4_spread 3 = .ok (.iconst 0, 1) := by decide +kernel
theorem dX4_spread_4 : decode cX4_spread 4 = .ok (.istore 5, 2) := by decide +kernel
theorem dX4_spread_6 : decode cX4_spread 6 = .ok (.iload 5, 2) := by decide +kernel
theorem dX4_spread_8 : decode cX4_spread 8 = .ok (.aload_n 0, 1) := by decide +kernel
theorem dX4_spread_9 : decode cX4_spread 9 = .ok (.getfield 46, 3) := by decide +kernel
theorem dX4_spread_12 : decode cX4_spread 12 = .ok (.if_icmp .ge 32, 3) := by decide +kernel
theorem dX4_spread_15 : decode cX4_spread 15 = .ok (.aload_n 2, 1) := by decide +kernel
theorem dX4_spread_16 : decode cX4_spread 16 = .ok (.iload 5, 2) := by decide +kernel
theorem dX4_spread_18 : decode cX4_spread 18 = .ok (.invokestatic 73, 3) := by decide +kernel
theorem dX4_spread_21 : decode cX4_spread 21 = .ok (.ifCond .ne 17, 3) := by decide +kernel
theorem dX4_spread_24 : decode cX4_spread 24 = .ok (.aload_n 0, 1) := by decide +kernel
theorem dX4_spread_25 : decode cX4_spread 25 = .ok (.getfield 27, 3) := by decide +kernel
theorem dX4_spread_28 : decode cX4_spread 28 = .ok (.iload 4, 2) := by decide +kernel
theorem dX4_spread_30 : decode cX4_spread 30 = .ok (.iload 5, 2) := by decide +kernel
theorem dX4_spread_32 : decode cX4_spread 32 = .ok (.invokestatic 64, 3) := by decide +kernel
theorem dX4_spread_35 : decode cX4_spread 35 = .ok (.iinc 4 1, 3) := by decide +kernel
theorem dX4_spread_38 : decode cX4_spread 38 = .ok (.iinc 5 1, 3) := by decide +kernel
theorem dX4_spread_41 : decode cX4_spread 41 = .ok (.goto (-35), 3) := by decide +kernel
theorem dX4_spread_44 : decode cX4_spread 44 = .ok (.iconst 0, 1) := by decide +kernel
theorem dX4_spread_45 : decode cX4_spread 45 = .ok (.istore 5, 2) := by decide +kernel
theorem dX4_spread_47 : decode cX4_spread 47 = .ok (.iload 5, 2) := by decide +kernel
theorem dX4_spread_49 : decode cX4_spread 49 = .ok (.iload 4, 2) := by decide +kernel
theorem dX4_spread_51 : decode cX4_spread 51 = .ok (.if_icmp .ge 61, 3) := by decide +kernel
theorem dX4_spread_54 : decode cX4_spread 54 = .ok (.iload 5, 2) := by decide +kernel
theorem dX4_spread_56 : decode cX4_spread 56 = .ok (.sipush 4096, 3) := by decide +kernel
theorem dX4_spread_59 : decode cX4_spread 59 = .ok (.if_icmp .ge 53, 3) := by decide +kernel
theorem dX4_spread_62 : decode cX4_spread 62 = .ok (.aload_n 0, 1) := by decide +kernel
theorem dX4_spread_63 : decode cX4_spread 63 = .ok (.getfield 27, 3) := by decide +kernel
theorem dX4_spread_66 : decode cX4_spread 66 = .ok (.iload 5, 2) := by decide +kernel
theorem dX4_spread_68 : decode cX4_spread 68 = .ok (.invokestatic 73, 3) := by decide +kernel
theorem dX4_spread_71 : decode cX4_spread 71 = .ok (.istore 6, 2) := by decide +kernel
theorem dX4_spread_73 : decode cX4_spread 73 = .ok (.iconst 0, 1) := by decide +kernel
theorem dX4_spread_74 : decode cX4_spread 74 = .ok (.istore 7, 2) := by decide +kernel
theorem dX4_spread_76 : decode cX4_spread 76 = .ok (.iload 7, 2) := by decide +kernel
theorem dX4_spread_78 : decode cX4_spread 78 = .ok (.aload_n 1, 1) := by decide +kernel
theorem dX4_spread_79 : decode cX4_spread 79 = .ok (.getfield 55, 3) := by decide +kernel
theorem dX4_spread_82 : decode cX4_spread 82 = .ok (.if_icmp .ge 24, 3) := by decide +kernel
theorem dX4_spread_85 : decode cX4_spread 85 = .ok (.aload_n 0, 1) := by decide +kernel
theorem dX4_spread_86 : decode cX4_spread 86 = .ok (.aload_n 1, 1) := by decide +kernel
theorem dX4_spread_87 : decode cX4_spread 87 = .ok (.aload_n 2, 1) := by decide +kernel
theorem dX4_spread_88 : decode cX4_spread 88 = .ok (.iload_n 3, 1) := by decide +kernel
theorem dX4_spread_89 : decode cX4_spread 89 = .ok (.iload 6, 2) := by decide +kernel
theorem dX4_spread_91 : decode cX4_spread 91 = .ok (.iload 7, 2) := by decide +kernel
theorem dX4_spread_93 : decode cX4_spread 93 = .ok (.iload 4, 2) := by decide +kernel
theorem dX4_spread_95 : decode cX4_spread 95 = .ok (.invokevirtual 77, 3) := by decide +kernel
theorem dX4_spread_98 : decode cX4_spread 98 = .ok (.istore 4, 2) := by decide +kernel
theorem dX4_spread_100 : decode cX4_spread 100 = .ok (.iinc 7 1, 3) := by decide +kernel
theorem dX4_spread_103 : decode cX4_spread 103 = .ok (.goto (-27), 3) := by decide +kernel
theorem dX4_spread_106 : decode cX4_spread 106 = .ok (.iinc 5 1, 3) := by decide +kernel
theorem dX4_spread_109 : decode cX4_spread 109 = .ok (.goto (-62), 3) := by decide +kernel
theorem dX4_spread_112 : decode cX4_spread 112 = .ok (.return_, 1) := by decide +kernel
theorem dX4_spreadBy_0 : decode cX4_spreadBy 0 = .ok (.iload 6, 2) := by decide +kernel
theorem dX4_spreadBy_2 : decode cX4_spreadBy 2 = .ok (.istore 7, 2) := by decide +kernel
theorem dX4_spreadBy_4 : decode cX4_spreadBy 4 = .ok (.aload_n 2, 1) := by decide +kernel
theorem dX4_spreadBy_5 : decode cX4_spreadBy 5 = .ok (.iload 4, 2) := by decide +kernel
theorem dX4_spreadBy_7 : decode cX4_spreadBy 7 = .ok (.invokestatic 73, 3) := by decide +kernel
theorem dX4_spreadBy_10 : decode cX4_spreadBy 10 = .ok (.iconst 1, 1) := by decide +kernel
theorem dX4_spreadBy_11 : decode cX4_spreadBy 11 = .ok (.iadd, 1) := by decide +kernel
theorem dX4_spreadBy_12 : decode cX4_spreadBy 12 = .ok (.istore 8, 2) := by decide +kernel
theorem dX4_spreadBy_14 : decode cX4_spreadBy 14 = .ok (.aload_n 1, 1) := by decide +kernel
theorem dX4_spreadBy_15 : decode cX4_spreadBy 15 = .ok (.iload 4, 2) := by decide +kernel
theorem dX4_spreadBy_17 : decode cX4_spreadBy 17 = .ok (.iload 5, 2) := by decide +kernel
theorem dX4_spreadBy_19 : decode cX4_spreadBy 19 = .ok (.invokevirtual 61, 3) := by decide +kernel
theorem dX4_spreadBy_22 : decode cX4_spreadBy 22 = .ok (.istore 9, 2) := by decide +kernel
theorem dX4_spreadBy_24 : decode cX4_spreadBy 24 = .ok (.iconst 0, 1) := by decide +kernel
theorem dX4_spreadBy_25 : decode cX4_spreadBy 25 = .ok (.istore 10, 2) := by decide +kernel
theorem dX4_spreadBy_27 : decode cX4_spreadBy 27 = .ok (.iload 10, 2) := by decide +kernel
theorem dX4_spreadBy_29 : decode cX4_spreadBy 29 = .ok (.aload_n 1, 1) := by decide +kernel
theorem dX4_spreadBy_30 : decode cX4_spreadBy 30 = .ok (.getfield 81, 3) := by decide +kernel
theorem dX4_spreadBy_33 : decode cX4_spreadBy 33 = .ok (.if_icmp .ge 73, 3) := by decide +kernel
theorem dX4_spreadBy_36 : decode cX4_spreadBy 36 = .ok (.aload_n 1, 1) := by decide +kernel
theorem dX4_spreadBy_37 : decode cX4_spreadBy 37 = .ok (.iload 4, 2) := by decide +kernel
theorem dX4_spreadBy_39 : decode cX4_spreadBy 39 = .ok (.iload 5, 2) := by decide +kernel
theorem dX4_spreadBy_41 : decode cX4_spreadBy 41 = .ok (.iload 10, 2) := by decide +kernel
theorem dX4_spreadBy_43 : decode cX4_spreadBy 43 = .ok (.invokevirtual 84, 3) := by decide +kernel
theorem dX4_spreadBy_46 : decode cX4_spreadBy 46 = .ok (.istore 11, 2) := by decide +kernel
theorem dX4_spreadBy_48 : decode cX4_spreadBy 48 = .ok (.iload 10, 2) := by decide +kernel
theorem dX4_spreadBy_50 : decode cX4_spreadBy 50 = .ok (.iload 9, 2) := by decide +kernel
theorem dX4_spreadBy_52 : decode cX4_spreadBy 52 = .ok (.if_icmp .eq 48, 3) := by decide +kernel
theorem dX4_spreadBy_55 : decode cX4_spreadBy 55 = .ok (.aload_n 2, 1) := by decide +kernel
theorem dX4_spreadBy_56 : decode cX4_spreadBy 56 = .ok (.iload 11, 2) := by decide +kernel
theorem dX4_spreadBy_58 : decode cX4_spreadBy 58 = .ok (.invokestatic 73, 3) := by decide +kernel
theorem dX4_spreadBy_61 : decode cX4_spreadBy 61 = .ok (.ifCond .ge 39, 3) := by decide +kernel
theorem dX4_spreadBy_64 : decode cX4_spreadBy 64 = .ok (.aload_n 0, 1) := by decide +kernel
theorem dX4_spreadBy_65 : decode cX4_spreadBy 65 = .ok (.iload_n 3, 1) := by decide +kernel
theorem dX4_spreadBy_66 : decode cX4_spreadBy 66 = .ok (.iload 11, 2) := by decide +kernel
theorem dX4_spreadBy_68 : decode cX4_spreadBy 68 = .ok (.iload 5, 2) := by decide +kernel
theorem dX4_spreadBy_70 : decode cX4_spreadBy 70 = .ok (.iload 9, 2) := by decide +kernel
theorem dX4_spreadBy_72 : decode cX4_spreadBy 72 = .ok (.invokevirtual 88, 3) := by decide +kernel
theorem dX4_spreadBy_75 : decode cX4_spreadBy 75 = .ok (.ifCond .eq 25, 3) := by decide +kernel
theorem dX4_spreadBy_78 : decode cX4_spreadBy 78 = .ok (.aload_n 2, 1) := by decide +kernel
theorem dX4_spreadBy_79 : decode cX4_spreadBy 79 = .ok (.iload 11, 2) := by decide +kernel
theorem dX4_spreadBy_81 : decode cX4_spreadBy 81 = .ok (.iload 8, 2) := by decide +kernel
theorem dX4_spreadBy_83 : decode cX4_spreadBy 83 = .ok (.invokestatic 64, 3) := by decide +kernel
theorem dX4_spreadBy_86 : decode cX4_spreadBy 86 = .ok (.aload_n 0, 1) := by decide +kernel
theorem dX4_spreadBy_87 : decode cX4_spreadBy 87 = .ok (.getfield 27, 3) := by decide +kernel
theorem dX4_spreadBy_90 : decode cX4_spreadBy 90 = .ok (.iload 7, 2) := by decide +kernel
theorem dX4_spreadBy_92 : decode cX4_spreadBy 92 = .ok (.iload 11, 2) := by decide +kernel
theorem dX4_spreadBy_94 : decode cX4_spreadBy 94 = .ok (.invokestatic 64, 3) := by decide +kernel
theorem dX4_spreadBy_97 : decode cX4_spreadBy 97 = .ok (.iinc 7 1, 3) := by decide +kernel
theorem dX4_spreadBy_100 : decode cX4_spreadBy 100 = .ok (.iinc 10 1, 3) := by decide +kernel
theorem dX4_spreadBy_103 : decode cX4_spreadBy 103 = .ok (.goto (-76), 3) := by decide +kernel
theorem dX4_spreadBy_106 : decode cX4_spreadBy 106 = .ok (.iload 7, 2) := by decide +kernel
theorem dX4_spreadBy_108 : decode cX4_spreadBy 108 = .ok (.ireturn, 1) := by decide +kernel
theorem dX4_reaches_0 : decode cX4_reaches 0 = .ok (.iload_n 1, 1) := by decide +kernel
theorem dX4_reaches_1 : decode cX4_reaches 1 = .ok (.iconst 2, 1) := by decide +kernel
theorem dX4_reaches_2 : decode cX4_reaches 2 = .ok (.if_icmp .ne 5, 3) := by decide +kernel
theorem dX4_reaches_5 : decode cX4_reaches 5 = .ok (.iconst 1, 1) := by decide +kernel
theorem dX4_reaches_6 : decode cX4_reaches 6 = .ok (.ireturn, 1) := by decide +kernel
theorem dX4_reaches_7 : decode cX4_reaches 7 = .ok (.aload_n 0, 1) := by decide +kernel
theorem dX4_reaches_8 : decode cX4_reaches 8 = .ok (.iload_n 2, 1) := by decide +kernel
theorem dX4_reaches_9 : decode cX4_reaches 9 = .ok (.iload_n 3, 1) := by decide +kernel
theorem dX4_reaches_10 : decode cX4_reaches 10 = .ok (.invokevirtual 92, 3) := by decide +kernel
theorem dX4_reaches_13 : decode cX4_reaches 13 = .ok (.iload 4, 2) := by decide +kernel
theorem dX4_reaches_15 : decode cX4_reaches 15 = .ok (.if_icmp .eq 5, 3) := by decide +kernel
theorem dX4_reaches_18 : decode cX4_reaches 18 = .ok (.iconst 0, 1) := by decide +kernel
theorem dX4_reaches_19 : decode cX4_reaches 19 = .ok (.ireturn, 1) := by decide +kernel
theorem dX4_reaches_20 : decode cX4_reaches 20 = .ok (.iload_n 1, 1) := by decide +kernel
theorem dX4_reaches_21 : decode cX4_reaches 21 = .ok (.iconst 1, 1) := by decide +kernel
theorem dX4_reaches_22 : decode cX4_reaches 22 = .ok (.if_icmp .ne 5, 3) := by decide +kernel
theorem dX4_reaches_25 : decode cX4_reaches 25 = .ok (.iconst 1, 1) := by decide +kernel
theorem dX4_reaches_26 : decode cX4_reaches 26 = .ok (.ireturn, 1) := by decide +kernel
theorem dX4_reaches_27 : decode cX4_reaches 27 = .ok (.aload_n 0, 1) := by decide +kernel
theorem dX4_reaches_28 : decode cX4_reaches 28 = .ok (.getfield 15, 3) := by decide +kernel
theorem dX4_reaches_31 : decode cX4_reaches 31 = .ok (.iload_n 2, 1) := by decide +kernel
theorem dX4_reaches_32 : decode cX4_reaches 32 = .ok (.invokestatic 73, 3) := by decide +kernel
theorem dX4_reaches_35 : decode cX4_reaches 35 = .ok (.iconst 1, 1) := by decide +kernel
theorem dX4_reaches_36 : decode cX4_reaches 36 = .ok (.isub, 1) := by decide +kernel
theorem dX4_reaches_37 : decode cX4_reaches 37 = .ok (.istore 5, 2) := by decide +kernel
theorem dX4_reaches_39 : decode cX4_reaches 39 = .ok (.aload_n 0, 1) := by decide +kernel
theorem dX4_reaches_40 : decode cX4_reaches 40 = .ok (.getfield 15, 3) := by decide +kernel
theorem dX4_reaches_43 : decode cX4_reaches 43 = .ok (.iload_n 2, 1) := by decide +kernel
theorem dX4_reaches_44 : decode cX4_reaches 44 = .ok (.iload 5, 2) := by decide +kernel
theorem dX4_reaches_46 : decode cX4_reaches 46 = .ok (.invokestatic 64, 3) := by decide +kernel
theorem dX4_reaches_49 : decode cX4_reaches 49 = .ok (.iload 5, 2) := by decide +kernel
theorem dX4_reaches_51 : decode cX4_reaches 51 = .ok (.ifCond .ne 7, 3) := by decide +kernel
theorem dX4_reaches_54 : decode cX4_reaches 54 = .ok (.iconst 1, 1) := by decide +kernel
theorem dX4_reaches_55 : decode cX4_reaches 55 = .ok (.goto 4, 3) := by decide +kernel
theorem dX4_reaches_58 : decode cX4_reaches 58 = .ok (.iconst 0, 1) := by decide +kernel
theorem dX4_reaches_59 : decode cX4_reaches 59 = .ok (.ireturn, 1) := by decide +kernel
theorem dX4_clearedSpare_0 : decode cX4_clearedSpare 0 = .ok (.aload_n 0, 1) := by decide +kernel
theorem dX4_clearedSpare_1 : decode cX4_clearedSpare 1 = .ok (.getfield 27, 3) := by decide +kernel
theorem dX4_clearedSpare_4 : decode cX4_clearedSpare 4 = .ok (.iconst (-1), 1) := by decide +kernel
theorem dX4_clearedSpare_5 : decode cX4_clearedSpare 5 = .ok (.invokestatic 95, 3) := by decide +kernel
theorem dX4_clearedSpare_8 : decode cX4_clearedSpare 8 = .ok (.aload_n 0, 1) := by decide +kernel
theorem dX4_clearedSpare_9 : decode cX4_clearedSpare 9 = .ok (.getfield 27, 3) := by decide +kernel
theorem dX4_clearedSpare_12 : decode cX4_clearedSpare 12 = .ok (.areturn, 1) := by decide +kernel
theorem dX4_wantedBy_0 : decode cX4_wantedBy 0 = .ok (.aload_n 0, 1) := by decide +kernel
theorem dX4_wantedBy_1 : decode cX4_wantedBy 1 = .ok (.getfield 9, 3) := by decide +kernel
theorem dX4_wantedBy_4 : decode cX4_wantedBy 4 = .ok (.iload_n 1, 1) := by decide +kernel
theorem dX4_wantedBy_5 : decode cX4_wantedBy 5 = .ok (.invokestatic 73, 3) := by decide +kernel
theorem dX4_wantedBy_8 : decode cX4_wantedBy 8 = .ok (.iconst 3, 1) := by decide +kernel
theorem dX4_wantedBy_9 : decode cX4_wantedBy 9 = .ok (.iload_n 2, 1) := by decide +kernel
theorem dX4_wantedBy_10 : decode cX4_wantedBy 10 = .ok (.imul, 1) := by decide +kernel
theorem dX4_wantedBy_11 : decode cX4_wantedBy 11 = .ok (.ishr, 1) := by decide +kernel
theorem dX4_wantedBy_12 : decode cX4_wantedBy 12 = .ok (.bipush 7, 2) := by decide +kernel
theorem dX4_wantedBy_14 : decode cX4_wantedBy 14 = .ok (.iand, 1) := by decide +kernel
theorem dX4_wantedBy_15 : decode cX4_wantedBy 15 = .ok (.ireturn, 1) := by decide +kernel
theorem dX4_behind_0 : decode cX4_behind 0 = .ok (.aload_n 1, 1) := by decide +kernel
theorem dX4_behind_1 : decode cX4_behind 1 = .ok (.iload_n 2, 1) := by decide +kernel
theorem dX4_behind_2 : decode cX4_behind 2 = .ok (.iload_n 3, 1) := by decide +kernel
theorem dX4_behind_3 : decode cX4_behind 3 = .ok (.aload_n 0, 1) := by decide +kernel
theorem dX4_behind_4 : decode cX4_behind 4 = .ok (.iload_n 2, 1) := by decide +kernel
theorem dX4_behind_5 : decode cX4_behind 5 = .ok (.iload_n 3, 1) := by decide +kernel
theorem dX4_behind_6 : decode cX4_behind 6 = .ok (.invokevirtual 92, 3) := by decide +kernel
theorem dX4_behind_9 : decode cX4_behind 9 = .ok (.invokevirtual 84, 3) := by decide +kernel
theorem dX4_behind_12 : decode cX4_behind 12 = .ok (.ireturn, 1) := by decide +kernel
theorem dX4_rankOf_0 : decode cX4_rankOf 0 = .ok (.iload_n 0, 1) := by decide +kernel
theorem dX4_rankOf_1 : decode cX4_rankOf 1 = .ok (.bipush (-5), 2) := by decide +kernel
theorem dX4_rankOf_3 : decode cX4_rankOf 3 = .ok (.if_icmp .ne 8, 3) := by decide +kernel
theorem dX4_rankOf_6 : decode cX4_rankOf 6 = .ok (.ldc 103, 2) := by decide +kernel
theorem dX4_rankOf_8 : decode cX4_rankOf 8 = .ok (.goto 4, 3) := by decide +kernel
theorem dX4_rankOf_11 : decode cX4_rankOf 11 = .ok (.iload_n 0, 1) := by decide +kernel
theorem dX4_rankOf_12 : decode cX4_rankOf 12 = .ok (.ireturn, 1) := by decide +kernel
theorem dX4_worstOf_0 : decode cX4_worstOf 0 = .ok (.aload_n 0, 1) := by decide +kernel
theorem dX4_worstOf_1 : decode cX4_worstOf 1 = .ok (.getfield 18, 3) := by decide +kernel
theorem dX4_worstOf_4 : decode cX4_worstOf 4 = .ok (.iload_n 1, 1) := by decide +kernel
theorem dX4_worstOf_5 : decode cX4_worstOf 5 = .ok (.invokestatic 73, 3) := by decide +kernel
theorem dX4_worstOf_8 : decode cX4_worstOf 8 = .ok (.ireturn, 1) := by decide +kernel
theorem dX4_bestOf_0 : decode cX4_bestOf 0 = .ok (.aload_n 0, 1) := by decide +kernel
theorem dX4_bestOf_1 : decode cX4_bestOf 1 = .ok (.getfield 21, 3) := by decide +kernel
theorem dX4_bestOf_4 : decode cX4_bestOf 4 = .ok (.iload_n 1, 1) := by decide +kernel
theorem dX4_bestOf_5 : decode cX4_bestOf 5 = .ok (.invokestatic 73, 3) := by decide +kernel
theorem dX4_bestOf_8 : decode cX4_bestOf 8 = .ok (.ireturn, 1) := by decide +kernel
theorem dX4_hitsOf_0 : decode cX4_hitsOf 0 = .ok (.aload_n 0, 1) := by decide +kernel
theorem dX4_hitsOf_1 : decode cX4_hitsOf 1 = .ok (.getfield 24, 3) := by decide +kernel
theorem dX4_hitsOf_4 : decode cX4_hitsOf 4 = .ok (.iload_n 1, 1) := by decide +kernel
theorem dX4_hitsOf_5 : decode cX4_hitsOf 5 = .ok (.invokestatic 73, 3) := by decide +kernel
theorem dX4_hitsOf_8 : decode cX4_hitsOf 8 = .ok (.ireturn, 1) := by decide +kernel
theorem dX4_legalStates_0 : decode cX4_legalStates 0 = .ok (.aload_n 0, 1) := by decide +kernel
theorem dX4_legalStates_1 : decode cX4_legalStates 1 = .ok (.aload_n 0, 1) := by decide +kernel
theorem dX4_legalStates_2 : decode cX4_legalStates 2 = .ok (.getfield 18, 3) := by decide +kernel
theorem dX4_legalStates_5 : decode cX4_legalStates 5 = .ok (.iconst 0, 1) := by decide +kernel
theorem dX4_legalStates_6 : decode cX4_legalStates 6 = .ok (.invokevirtual 104, 3) := by decide +kernel
theorem dX4_legalStates_9 : decode cX4_legalStates 9 = .ok (.ireturn, 1) := by decide +kernel
theorem dX4_endlessStates_0 : decode cX4_endlessStates 0 = .ok (.aload_n 0, 1) := by decide +kernel
theorem dX4_endlessStates_1 : decode cX4_endlessStates 1 = .ok (.aload_n 0, 1) := by decide +kernel
theorem dX4_endlessStates_2 : decode cX4_endlessStates 2 = .ok (.getfield 18, 3) := by decide +kernel
theorem dX4_endlessStates_5 : decode cX4_endlessStates 5 = .ok (.bipush (-5), 2) := by decide +kernel
theorem dX4_endlessStates_7 : decode cX4_endlessStates 7 = .ok (.invokevirtual 104, 3) := by decide +kernel
theorem dX4_endlessStates_10 : decode cX4_endlessStates 10 = .ok (.ireturn, 1) := by decide +kernel
theorem dX4_countOf_0 : decode cX4_countOf 0 = .ok (.iconst 0, 1) := by decide +kernel
theorem dX4_countOf_1 : decode cX4_countOf 1 = .ok (.istore_n 3, 1) := by decide +kernel
theorem dX4_countOf_2 : decode cX4_countOf 2 = .ok (.iconst 0, 1) := by decide +kernel
theorem dX4_countOf_3 : decode cX4_countOf 3 = .ok (.istore 4, 2) := by decide +kernel
theorem dX4_countOf_5 : decode cX4_countOf 5 = .ok (.iload 4, 2) := by decide +kernel
theorem dX4_countOf_7 : decode cX4_countOf 7 = .ok (.aload_n 0, 1) := by decide +kernel
theorem dX4_countOf_8 : decode cX4_countOf 8 = .ok (.getfield 46, 3) := by decide +kernel
theorem dX4_countOf_11 : decode cX4_countOf 11 = .ok (.if_icmp .ge 27, 3) := by decide +kernel
theorem dX4_countOf_14 : decode cX4_countOf 14 = .ok (.iload_n 3, 1) := by decide +kernel
theorem dX4_countOf_15 : decode cX4_countOf 15 = .ok (.aload_n 1, 1) := by decide +kernel
theorem dX4_countOf_16 : decode cX4_countOf 16 = .ok (.iload 4, 2) := by decide +kernel
theorem dX4_countOf_18 : decode cX4_countOf 18 = .ok (.invokestatic 73, 3) := by decide +kernel
theorem dX4_countOf_21 : decode cX4_countOf 21 = .ok (.iload_n 2, 1) := by decide +kernel
theorem dX4_countOf_22 : decode cX4_countOf 22 = .ok (.if_icmp .ne 7, 3) := by decide +kernel
theorem dX4_countOf_25 : decode cX4_countOf 25 = .ok (.iconst 1, 1) := by decide +kernel
theorem dX4_countOf_26 : decode cX4_countOf 26 = .ok (.goto 4, 3) := by decide +kernel
theorem dX4_countOf_29 : decode cX4_countOf 29 = .ok (.iconst 0, 1) := by decide +kernel
theorem dX4_countOf_30 : decode cX4_countOf 30 = .ok (.iadd, 1) := by decide +kernel
theorem dX4_countOf_31 : decode cX4_countOf 31 = .ok (.istore_n 3, 1) := by decide +kernel
theorem dX4_countOf_32 : decode cX4_countOf 32 = .ok (.iinc 4 1, 3) := by decide +kernel
theorem dX4_countOf_35 : decode cX4_countOf 35 = .ok (.goto (-30), 3) := by decide +kernel
theorem dX4_countOf_38 : decode cX4_countOf 38 = .ok (.iload_n 3, 1) := by decide +kernel
theorem dX4_countOf_39 : decode cX4_countOf 39 = .ok (.ireturn, 1) := by decide +kernel
theorem dX4_greatestWorst_0 : decode cX4_greatestWorst 0 = .ok (.aload_n 0, 1) := by decide +kernel
theorem dX4_greatestWorst_1 : decode cX4_greatestWorst 1 = .ok (.aload_n 0, 1) := by decide +kernel
theorem dX4_greatestWorst_2 : decode cX4_greatestWorst 2 = .ok (.getfield 18, 3) := by decide +kernel
theorem dX4_greatestWorst_5 : decode cX4_greatestWorst 5 = .ok (.invokevirtual 107, 3) := by decide +kernel
theorem dX4_greatestWorst_8 : decode cX4_greatestWorst 8 = .ok (.ireturn, 1) := by decide +kernel
theorem dX4_greatestBest_0 : decode cX4_greatestBest 0 = .ok (.aload_n 0, 1) := by decide +kernel
theorem dX4_greatestBest_1 : decode cX4_greatestBest 1 = .ok (.aload_n 0, 1) := by decide +kernel
theorem dX4_greatestBest_2 : decode cX4_greatestBest 2 = .ok (.getfield 21, 3) := by decide +kernel
theorem dX4_greatestBest_5 : decode cX4_greatestBest 5 = .ok (.invokevirtual 107, 3) := by decide +kernel
theorem dX4_greatestBest_8 : decode cX4_greatestBest 8 = .ok (.ireturn, 1) := by decide +kernel
theorem dX4_greatestOf_0 : decode cX4_greatestOf 0 = .ok (.iconst (-1), 1) := by decide +kernel
theorem dX4_greatestOf_1 : decode cX4_greatestOf 1 = .ok (.istore_n 2, 1) := by decide +kernel
theorem dX4_greatestOf_2 : decode cX4_greatestOf 2 = .ok (.iconst 0, 1) := by decide +kernel
theorem dX4_greatestOf_3 : decode cX4_greatestOf 3 = .ok (.istore_n 3, 1) := by decide +kernel
theorem dX4_greatestOf_4 : decode cX4_greatestOf 4 = .ok (.iload_n 3, 1) := by decide +kernel
theorem dX4_greatestOf_5 : decode cX4_greatestOf 5 = .ok (.aload_n 0, 1) := by decide +kernel
theorem dX4_greatestOf_6 : decode cX4_greatestOf 6 = .ok (.getfield 46, 3) := by decide +kernel
theorem dX4_greatestOf_9 : decode cX4_greatestOf 9 = .ok (.if_icmp .ge 19, 3) := by decide +kernel
theorem dX4_greatestOf_12 : decode cX4_greatestOf 12 = .ok (.iload_n 2, 1) := by decide +kernel
theorem dX4_greatestOf_13 : decode cX4_greatestOf 13 = .ok (.aload_n 1, 1) := by decide +kernel
theorem dX4_greatestOf_14 : decode cX4_greatestOf 14 = .ok (.iload_n 3, 1) := by decide +kernel
theorem dX4_greatestOf_15 : decode cX4_greatestOf 15 = .ok (.invokestatic 73, 3) := by decide +kernel
theorem dX4_greatestOf_18 : decode cX4_greatestOf 18 = .ok (.invokestatic 111, 3) := by decide +kernel
theorem dX4_greatestOf_21 : decode cX4_greatestOf 21 = .ok (.istore_n 2, 1) := by decide +kernel
theorem dX4_greatestOf_22 : decode cX4_greatestOf 22 = .ok (.iinc 3 1, 3) := by decide +kernel
theorem dX4_greatestOf_25 : decode cX4_greatestOf 25 = .ok (.goto (-21), 3) := by decide +kernel
theorem dX4_greatestOf_28 : decode cX4_greatestOf 28 = .ok (.iload_n 2, 1) := by decide +kernel
theorem dX4_greatestOf_29 : decode cX4_greatestOf 29 = .ok (.ifCond .ge 8, 3) := by decide +kernel
theorem dX4_greatestOf_32 : decode cX4_greatestOf 32 = .ok (.bipush (-4), 2) := by decide +kernel
theorem dX4_greatestOf_34 : decode cX4_greatestOf 34 = .ok (.goto 4, 3) := by decide +kernel
theorem dX4_greatestOf_37 : decode cX4_greatestOf 37 = .ok (.iload_n 2, 1) := by decide +kernel
theorem dX4_greatestOf_38 : decode cX4_greatestOf 38 = .ok (.ireturn, 1) := by decide +kernel
theorem dX4_lowestOfGreatestWorst_0 : decode cX4_lowestOfGreatestWorst 0 = .ok (.aload_n 0, 1) := by decide +kernel
theorem dX4_lowestOfGreatestWorst_1 : decode cX4_lowestOfGreatestWorst 1 = .ok (.invokevirtual 114, 3) := by decide +kernel
theorem dX4_lowestOfGreatestWorst_4 : decode cX4_lowestOfGreatestWorst 4 = .ok (.istore_n 1, 1) := by decide +kernel
theorem dX4_lowestOfGreatestWorst_5 : decode cX4_lowestOfGreatestWorst 5 = .ok (.iconst 0, 1) := by decide +kernel
theorem dX4_lowestOfGreatestWorst_6 : decode cX4_lowestOfGreatestWorst 6 = .ok (.istore_n 2, 1) := by decide +kernel
theorem dX4_lowestOfGreatestWorst_7 : decode cX4_lowestOfGreatestWorst 7 = .ok (.iload_n 1, 1) := by decide +kernel
theorem dX4_lowestOfGreatestWorst_8 : decode cX4_lowestOfGreatestWorst 8 = .ok (.bipush (-4), 2) := by decide +kernel
theorem dX4_lowestOfGreatestWorst_10 : decode cX4_lowestOfGreatestWorst 10 = .ok (.if_icmp .eq 28, 3) := by decide +kernel
theorem dX4_lowestOfGreatestWorst_13 : decode cX4_lowestOfGreatestWorst 13 = .ok (.iload_n 2, 1) := by decide +kernel
theorem dX4_lowestOfGreatestWorst_14 : decode cX4_lowestOfGreatestWorst 14 = .ok (.aload_n 0, 1) := by decide +kernel
theorem dX4_lowestOfGreatestWorst_15 : decode cX4_lowestOfGreatestWorst 15 = .ok (.getfield 46, 3) := by decide +kernel
theorem dX4_lowestOfGreatestWorst_18 : decode cX4_lowestOfGreatestWorst 18 = .ok (.if_icmp .ge 20, 3) := by decide +kernel
theorem dX4_lowestOfGreatestWorst_21 : decode cX4_lowestOfGreatestWorst 21 = .ok (.aload_n 0, 1) := by decide +kernel
theorem dX4_lowestOfGreatestWorst_22 : decode cX4_lowestOfGreatestWorst 22 = .ok (.iload_n 2, 1) := by decide +kernel
theorem dX4_lowestOfGreatestWorst_23 : decode cX4_lowestOfGreatestWorst 23 = .ok (.invokevirtual 118, 3) := by decide +kernel
theorem dX4_lowestOfGreatestWorst_26 : decode cX4_lowestOfGreatestWorst 26 = .ok (.iload_n 1, 1) := by decide +kernel
theorem dX4_lowestOfGreatestWorst_27 : decode cX4_lowestOfGreatestWorst 27 = .ok (.if_icmp .ne 5, 3) := by decide +kernel
theorem dX4_lowestOfGreatestWorst_30 : decode cX4_lowestOfGreatestWorst 30 = .ok (.iload_n 2, 1) := by decide +kernel
theorem dX4_lowestOfGreatestWorst_31 : decode cX4_lowestOfGreatestWorst 31 = .ok (.ireturn, 1) := by decide +kernel
theorem dX4_lowestOfGreatestWorst_32 : decode cX4_lowestOfGreatestWorst 32 = .ok (.iinc 2 1, 3) := by decide +kernel
theorem dX4_lowestOfGreatestWorst_35 : decode cX4_lowestOfGreatestWorst 35 = .ok (.goto (-28), 3) := by decide +kernel
theorem dX4_lowestOfGreatestWorst_38 : decode cX4_lowestOfGreatestWorst 38 = .ok (.bipush (-4), 2) := by decide +kernel
theorem dX4_lowestOfGreatestWorst_40 : decode cX4_lowestOfGreatestWorst 40 = .ok (.ireturn, 1) := by decide +kernel
theorem dX4_sumOfWorsts_0 : decode cX4_sumOfWorsts 0 = .ok (.iconst 0, 1) := by decide +kernel
theorem dX4_sumOfWorsts_1 : decode cX4_sumOfWorsts 1 = .ok (.istore_n 1, 1) := by decide +kernel
theorem dX4_sumOfWorsts_2 : decode cX4_sumOfWorsts 2 = .ok (.iconst 0, 1) := by decide +kernel
theorem dX4_sumOfWorsts_3 : decode cX4_sumOfWorsts 3 = .ok (.istore_n 2, 1) := by decide +kernel
theorem dX4_sumOfWorsts_4 : decode cX4_sumOfWorsts 4 = .ok (.iload_n 2, 1) := by decide +kernel
theorem dX4_sumOfWorsts_5 : decode cX4_sumOfWorsts 5 = .ok (.aload_n 0, 1) := by decide +kernel
theorem dX4_sumOfWorsts_6 : decode cX4_sumOfWorsts 6 = .ok (.getfield 46, 3) := by decide +kernel
theorem dX4_sumOfWorsts_9 : decode cX4_sumOfWorsts 9 = .ok (.if_icmp .ge 21, 3) := by decide +kernel
theorem dX4_sumOfWorsts_12 : decode cX4_sumOfWorsts 12 = .ok (.iload_n 1, 1) := by decide +kernel
theorem dX4_sumOfWorsts_13 : decode cX4_sumOfWorsts 13 = .ok (.iconst 0, 1) := by decide +kernel
theorem dX4_sumOfWorsts_14 : decode cX4_sumOfWorsts 14 = .ok (.aload_n 0, 1) := by decide +kernel
theorem dX4_sumOfWorsts_15 : decode cX4_sumOfWorsts 15 = .ok (.iload_n 2, 1) := by decide +kernel
theorem dX4_sumOfWorsts_16 : decode cX4_sumOfWorsts 16 = .ok (.invokevirtual 118, 3) := by decide +kernel
theorem dX4_sumOfWorsts_19 : decode cX4_sumOfWorsts 19 = .ok (.invokestatic 111, 3) := by decide +kernel
theorem dX4_sumOfWorsts_22 : decode cX4_sumOfWorsts 22 = .ok (.iadd, 1) := by decide +kernel
theorem dX4_sumOfWorsts_23 : decode cX4_sumOfWorsts 23 = .ok (.istore_n 1, 1) := by decide +kernel
theorem dX4_sumOfWorsts_24 : decode cX4_sumOfWorsts 24 = .ok (.iinc 2 1, 3) := by decide +kernel
theorem dX4_sumOfWorsts_27 : decode cX4_sumOfWorsts 27 = .ok (.goto (-23), 3) := by decide +kernel
theorem dX4_sumOfWorsts_30 : decode cX4_sumOfWorsts 30 = .ok (.iload_n 1, 1) := by decide +kernel
theorem dX4_sumOfWorsts_31 : decode cX4_sumOfWorsts 31 = .ok (.ireturn, 1) := by decide +kernel
theorem dX4_movesOutOfLegal_0 : decode cX4_movesOutOfLegal 0 = .ok (.iconst 0, 1) := by decide +kernel
theorem dX4_movesOutOfLegal_1 : decode cX4_movesOutOfLegal 1 = .ok (.istore_n 2, 1) := by decide +kernel
theorem dX4_movesOutOfLegal_2 : decode cX4_movesOutOfLegal 2 = .ok (.iconst 0, 1) := by decide +kernel
theorem dX4_movesOutOfLegal_3 : decode cX4_movesOutOfLegal 3 = .ok (.istore_n 3, 1) := by decide +kernel
theorem dX4_movesOutOfLegal_4 : decode cX4_movesOutOfLegal 4 = .ok (.iload_n 3, 1) := by decide +kernel
theorem dX4_movesOutOfLegal_5 : decode cX4_movesOutOfLegal 5 = .ok (.aload_n 0, 1) := by decide +kernel
theorem dX4_movesOutOfLegal_6 : decode cX4_movesOutOfLegal 6 = .ok (.getfield 46, 3) := by decide +kernel
theorem dX4_movesOutOfLegal_9 : decode cX4_movesOutOfLegal 9 = .ok (.if_icmp .ge 26, 3) := by decide +kernel
theorem dX4_movesOutOfLegal_12 : decode cX4_movesOutOfLegal 12 = .ok (.aload_n 0, 1) := by decide +kernel
theorem dX4_movesOutOfLegal_13 : decode cX4_movesOutOfLegal 13 = .ok (.iload_n 3, 1) := by decide +kernel
theorem dX4_movesOutOfLegal_14 : decode cX4_movesOutOfLegal 14 = .ok (.invokevirtual 118, 3) := by decide +kernel
theorem dX4_movesOutOfLegal_17 : decode cX4_movesOutOfLegal 17 = .ok (.ifCond .ne 12, 3) := by decide +kernel
theorem dX4_movesOutOfLegal_20 : decode cX4_movesOutOfLegal 20 = .ok (.iload_n 2, 1) := by decide +kernel
theorem dX4_movesOutOfLegal_21 : decode cX4_movesOutOfLegal 21 = .ok (.aload_n 0, 1) := by decide +kernel
theorem dX4_movesOutOfLegal_22 : decode cX4_movesOutOfLegal 22 = .ok (.aload_n 1, 1) := by decide +kernel
theorem dX4_movesOutOfLegal_23 : decode cX4_movesOutOfLegal 23 = .ok (.iload_n 3, 1) := by decide +kernel
theorem dX4_movesOutOfLegal_24 : decode cX4_movesOutOfLegal 24 = .ok (.invokevirtual 122, 3) := by decide +kernel
theorem dX4_movesOutOfLegal_27 : decode cX4_movesOutOfLegal 27 = .ok (.iadd, 1) := by decide +kernel
theorem dX4_movesOutOfLegal_28 : decode cX4_movesOutOfLegal 28 = .ok (.istore_n 2, 1) := by decide +kernel
theorem dX4_movesOutOfLegal_29 : decode cX4_movesOutOfLegal 29 = .ok (.iinc 3 1, 3) := by decide +kernel
theorem dX4_movesOutOfLegal_32 : decode cX4_movesOutOfLegal 32 = .ok (.goto (-28), 3) := by decide +kernel
theorem dX4_movesOutOfLegal_35 : decode cX4_movesOutOfLegal 35 = .ok (.iload_n 2, 1) := by decide +kernel
theorem dX4_movesOutOfLegal_36 : decode cX4_movesOutOfLegal 36 = .ok (.ireturn, 1) := by decide +kernel
theorem dX4_movesOutOf_0 : decode cX4_movesOutOf 0 = .ok (.iconst 0, 1) := by decide +kernel
theorem dX4_movesOutOf_1 : decode cX4_movesOutOf 1 = .ok (.istore_n 3, 1) := by decide +kernel
theorem dX4_movesOutOf_2 : decode cX4_movesOutOf 2 = .ok (.iconst 0, 1) := by decide +kernel
theorem dX4_movesOutOf_3 : decode cX4_movesOutOf 3 = .ok (.istore 4, 2) := by decide +kernel
theorem dX4_movesOutOf_5 : decode cX4_movesOutOf 5 = .ok (.iload 4, 2) := by decide +kernel
theorem dX4_movesOutOf_7 : decode cX4_movesOutOf 7 = .ok (.aload_n 1, 1) := by decide +kernel
theorem dX4_movesOutOf_8 : decode cX4_movesOutOf 8 = .ok (.getfield 55, 3) := by decide +kernel
theorem dX4_movesOutOf_11 : decode cX4_movesOutOf 11 = .ok (.if_icmp .ge 32, 3) := by decide +kernel
theorem dX4_movesOutOf_14 : decode cX4_movesOutOf 14 = .ok (.iload_n 3, 1) := by decide +kernel
theorem dX4_movesOutOf_15 : decode cX4_movesOutOf 15 = .ok (.aload_n 0, 1) := by decide +kernel
theorem dX4_movesOutOf_16 : decode cX4_movesOutOf 16 = .ok (.aload_n 0, 1) := by decide +kernel
theorem dX4_movesOutOf_17 : decode cX4_movesOutOf 17 = .ok (.aload_n 1, 1) := by decide +kernel
theorem dX4_movesOutOf_18 : decode cX4_movesOutOf 18 = .ok (.iload_n 2, 1) := by decide +kernel
theorem dX4_movesOutOf_19 : decode cX4_movesOutOf 19 = .ok (.iload 4, 2) := by decide +kernel
theorem dX4_movesOutOf_21 : decode cX4_movesOutOf 21 = .ok (.invokevirtual 126, 3) := by decide +kernel
theorem dX4_movesOutOf_24 : decode cX4_movesOutOf 24 = .ok (.invokevirtual 118, 3) := by decide +kernel
theorem dX4_movesOutOf_27 : decode cX4_movesOutOf 27 = .ok (.ifCond .eq 7, 3) := by decide +kernel
theorem dX4_movesOutOf_30 : decode cX4_movesOutOf 30 = .ok (.iconst 1, 1) := by decide +kernel
theorem dX4_movesOutOf_31 : decode cX4_movesOutOf 31 = .ok (.goto 4, 3) := by decide +kernel
theorem dX4_movesOutOf_34 : decode cX4_movesOutOf 34 = .ok (.iconst 0, 1) := by decide +kernel
theorem dX4_movesOutOf_35 : decode cX4_movesOutOf 35 = .ok (.iadd, 1) := by decide +kernel
theorem dX4_movesOutOf_36 : decode cX4_movesOutOf 36 = .ok (.istore_n 3, 1) := by decide +kernel
theorem dX4_movesOutOf_37 : decode cX4_movesOutOf 37 = .ok (.iinc 4 1, 3) := by decide +kernel
theorem dX4_movesOutOf_40 : decode cX4_movesOutOf 40 = .ok (.goto (-35), 3) := by decide +kernel
theorem dX4_movesOutOf_43 : decode cX4_movesOutOf 43 = .ok (.iload_n 3, 1) := by decide +kernel
theorem dX4_movesOutOf_44 : decode cX4_movesOutOf 44 = .ok (.ireturn, 1) := by decide +kernel
theorem dX4_statesWithin_0 : decode cX4_statesWithin 0 = .ok (.iconst 0, 1) := by decide +kernel
theorem dX4_statesWithin_1 : decode cX4_statesWithin 1 = .ok (.istore_n 2, 1) := by decide +kernel
theorem dX4_statesWithin_2 : decode cX4_statesWithin 2 = .ok (.iconst 0, 1) := by decide +kernel
theorem dX4_statesWithin_3 : decode cX4_statesWithin 3 = .ok (.istore_n 3, 1) := by decide +kernel
theorem dX4_statesWithin_4 : decode cX4_statesWithin 4 = .ok (.iload_n 3, 1) := by decide +kernel
theorem dX4_statesWithin_5 : decode cX4_statesWithin 5 = .ok (.aload_n 0, 1) := by decide +kernel
theorem dX4_statesWithin_6 : decode cX4_statesWithin 6 = .ok (.getfield 46, 3) := by decide +kernel
theorem dX4_statesWithin_9 : decode cX4_statesWithin 9 = .ok (.if_icmp .ge 26, 3) := by decide +kernel
theorem dX4_statesWithin_12 : decode cX4_statesWithin 12 = .ok (.iload_n 2, 1) := by decide +kernel
theorem dX4_statesWithin_13 : decode cX4_statesWithin 13 = .ok (.aload_n 0, 1) := by decide +kernel
theorem dX4_statesWithin_14 : decode cX4_statesWithin 14 = .ok (.iload_n 3, 1) := by decide +kernel
theorem dX4_statesWithin_15 : decode cX4_statesWithin 15 = .ok (.iload_n 1, 1) := by decide +kernel
theorem dX4_statesWithin_16 : decode cX4_statesWithin 16 = .ok (.invokevirtual 130, 3) := by decide +kernel
theorem dX4_statesWithin_19 : decode cX4_statesWithin 19 = .ok (.ifCond .eq 7, 3) := by decide +kernel
theorem dX4_statesWithin_22 : decode cX4_statesWithin 22 = .ok (.iconst 1, 1) := by decide +kernel
theorem dX4_statesWithin_23 : decode cX4_statesWithin 23 = .ok (.goto 4, 3) := by decide +kernel
theorem dX4_statesWithin_26 : decode cX4_statesWithin 26 = .ok (.iconst 0, 1) := by decide +kernel
theorem dX4_statesWithin_27 : decode cX4_statesWithin 27 = .ok (.iadd, 1) := by decide +kernel
theorem dX4_statesWithin_28 : decode cX4_statesWithin 28 = .ok (.istore_n 2, 1) := by decide +kernel
theorem dX4_statesWithin_29 : decode cX4_statesWithin 29 = .ok (.iinc 3 1, 3) := by decide +kernel
theorem dX4_statesWithin_32 : decode cX4_statesWithin 32 = .ok (.goto (-28), 3) := by decide +kernel
theorem dX4_statesWithin_35 : decode cX4_statesWithin 35 = .ok (.iload_n 2, 1) := by decide +kernel
theorem dX4_statesWithin_36 : decode cX4_statesWithin 36 = .ok (.ireturn, 1) := by decide +kernel
theorem dX4_greatestWorstWithin_0 : decode cX4_greatestWorstWithin 0 = .ok (.iconst 0, 1) := by decide +kernel
theorem dX4_greatestWorstWithin_1 : decode cX4_greatestWorstWithin 1 = .ok (.istore_n 2, 1) := by decide +kernel
theorem dX4_greatestWorstWithin_2 : decode cX4_greatestWorstWithin 2 = .ok (.iconst 0, 1) := by decide +kernel
theorem dX4_greatestWorstWithin_3 : decode cX4_greatestWorstWithin 3 = .ok (.istore_n 3, 1) := by decide +kernel
theorem dX4_greatestWorstWithin_4 : decode cX4_greatestWorstWithin 4 = .ok (.iload_n 3, 1) := by decide +kernel
theorem dX4_greatestWorstWithin_5 : decode cX4_greatestWorstWithin 5 = .ok (.aload_n 0, 1) := by decide +kernel
theorem dX4_greatestWorstWithin_6 : decode cX4_greatestWorstWithin 6 = .ok (.getfield 46, 3) := by decide +kernel
theorem dX4_greatestWorstWithin_9 : decode cX4_greatestWorstWithin 9 = .ok (.if_icmp .ge 31, 3) := by decide +kernel
theorem dX4_greatestWorstWithin_12 : decode cX4_greatestWorstWithin 12 = .ok (.aload_n 0, 1) := by decide +kernel
theorem dX4_greatestWorstWithin_13 : decode cX4_greatestWorstWithin 13 = .ok (.iload_n 3, 1) := by decide +kernel
theorem dX4_greatestWorstWithin_14 : decode cX4_greatestWorstWithin 14 = .ok (.iload_n 1, 1) := by decide +kernel
theorem dX4_greatestWorstWithin_15 : decode cX4_greatestWorstWithin 15 = .ok (.invokevirtual 130, 3) := by decide +kernel
theorem dX4_greatestWorstWithin_18 : decode cX4_greatestWorstWithin 18 = .ok (.ifCond .eq 16, 3) := by decide +kernel
theorem dX4_greatestWorstWithin_21 : decode cX4_greatestWorstWithin 21 = .ok (.iload_n 2, 1) := by decide +kernel
theorem dX4_greatestWorstWithin_22 : decode cX4_greatestWorstWithin 22 = .ok (.aload_n 0, 1) := by decide +kernel
theorem dX4_greatestWorstWithin_23 : decode cX4_greatestWorstWithin 23 = .ok (.iload_n 3, 1) := by decide +kernel
theorem dX4_greatestWorstWithin_24 : decode cX4_greatestWorstWithin 24 = .ok (.invokevirtual 118, 3) := by decide +kernel
theorem dX4_greatestWorstWithin_27 : decode cX4_greatestWorstWithin 27 = .ok (.invokestatic 134, 3) := by decide +kernel
theorem dX4_greatestWorstWithin_30 : decode cX4_greatestWorstWithin 30 = .ok (.invokestatic 111, 3) := by decide +kernel
theorem dX4_greatestWorstWithin_33 : decode cX4_greatestWorstWithin 33 = .ok (.istore_n 2, 1) := by decide +kernel
theorem dX4_greatestWorstWithin_34 : decode cX4_greatestWorstWithin 34 = .ok (.iinc 3 1, 3) := by decide +kernel
theorem dX4_greatestWorstWithin_37 : decode cX4_greatestWorstWithin 37 = .ok (.goto (-33), 3) := by decide +kernel
theorem dX4_greatestWorstWithin_40 : decode cX4_greatestWorstWithin 40 = .ok (.iload_n 2, 1) := by decide +kernel
theorem dX4_greatestWorstWithin_41 : decode cX4_greatestWorstWithin 41 = .ok (.ldc 103, 2) := by decide +kernel
theorem dX4_greatestWorstWithin_43 : decode cX4_greatestWorstWithin 43 = .ok (.if_icmp .ne 8, 3) := by decide +kernel
theorem dX4_greatestWorstWithin_46 : decode cX4_greatestWorstWithin 46 = .ok (.bipush (-5), 2) := by decide +kernel
theorem dX4_greatestWorstWithin_48 : decode cX4_greatestWorstWithin 48 = .ok (.goto 4, 3) := by decide +kernel
theorem dX4_greatestWorstWithin_51 : decode cX4_greatestWorstWithin 51 = .ok (.iload_n 2, 1) := by decide +kernel
theorem dX4_greatestWorstWithin_52 : decode cX4_greatestWorstWithin 52 = .ok (.ireturn, 1) := by decide +kernel
theorem dX4_isWithin_0 : decode cX4_isWithin 0 = .ok (.aload_n 0, 1) := by decide +kernel
theorem dX4_isWithin_1 : decode cX4_isWithin 1 = .ok (.iload_n 1, 1) := by decide +kernel
theorem dX4_isWithin_2 : decode cX4_isWithin 2 = .ok (.invokevirtual 137, 3) := by decide +kernel
theorem dX4_isWithin_5 : decode cX4_isWithin 5 = .ok (.ifCond .lt 16, 3) := by decide +kernel
theorem dX4_isWithin_8 : decode cX4_isWithin 8 = .ok (.aload_n 0, 1) := by decide +kernel
theorem dX4_isWithin_9 : decode cX4_isWithin 9 = .ok (.iload_n 1, 1) := by decide +kernel
theorem dX4_isWithin_10 : decode cX4_isWithin 10 = .ok (.invokevirtual 137, 3) := by decide +kernel
theorem dX4_isWithin_13 : decode cX4_isWithin 13 = .ok (.iload_n 2, 1) := by decide +kernel
theorem dX4_isWithin_14 : decode cX4_isWithin 14 = .ok (.if_icmp .gt 7, 3) := by decide +kernel
theorem dX4_isWithin_17 : decode cX4_isWithin 17 = .ok (.iconst 1, 1) := by decide +kernel
theorem dX4_isWithin_18 : decode cX4_isWithin 18 = .ok (.goto 4, 3) := by decide +kernel
theorem dX4_isWithin_21 : decode cX4_isWithin 21 = .ok (.iconst 0, 1) := by decide +kernel
theorem dX4_isWithin_22 : decode cX4_isWithin 22 = .ok (.ireturn, 1) := by decide +kernel
theorem dX5_init_0 : decode cX5_init 0 = .ok (.aload_n 0, 1) := by decide +kernel
theorem dX5_init_1 : decode cX5_init 1 = .ok (.invokespecial 3, 3) := by decide +kernel
theorem dX5_init_4 : decode cX5_init 4 = .ok (.aload_n 0, 1) := by decide +kernel
theorem dX5_init_5 : decode cX5_init 5 = .ok (.sipush 200, 3) := by decide +kernel
theorem dX5_init_8 : decode cX5_init 8 = .ok (.newarray .int, 2) := by decide +kernel
theorem dX5_init_10 : decode cX5_init 10 = .ok (.putfield 9, 3) := by decide +kernel
theorem dX5_init_13 : decode cX5_init 13 = .ok (.return_, 1) := by decide +kernel
theorem dX5_length_0 : decode cX5_length 0 = .ok (.aload_n 0, 1) := by decide +kernel
theorem dX5_length_1 : decode cX5_length 1 = .ok (.getfield 15, 3) := by decide +kernel
theorem dX5_length_4 : decode cX5_length 4 = .ok (.ireturn, 1) := by decide +kernel
theorem dX5_clear_0 : decode cX5_clear 0 = .ok (.aload_n 0, 1) := by decide +kernel
theorem dX5_clear_1 : decode cX5_clear 1 = .ok (.iconst 0, 1) := by decide +kernel
theorem dX5_clear_2 : decode cX5_clear 2 = .ok (.putfield 15, 3) := by decide +kernel
theorem dX5_clear_5 : decode cX5_clear 5 = .ok (.return_, 1) := by decide +kernel
theorem dX5_append_0 : decode cX5_append 0 = .ok (.aload_n 0, 1) := by decide +kernel
theorem dX5_append_1 : decode cX5_append 1 = .ok (.getfield 15, 3) := by decide +kernel
theorem dX5_append_4 : decode cX5_append 4 = .ok (.sipush 200, 3) := by decide +kernel
theorem dX5_append_7 : decode cX5_append 7 = .ok (.if_icmp .lt 5, 3) := by decide +kernel
theorem dX5_append_10 : decode cX5_append 10 = .ok (.iconst 0, 1) := by decide +kernel
theorem dX5_append_11 : decode cX5_append 11 = .ok (.ireturn, 1) := by decide +kernel
theorem dX5_append_12 : decode cX5_append 12 = .ok (.aload_n 0, 1) := by decide +kernel
theorem dX5_append_13 : decode cX5_append 13 = .ok (.getfield 9, 3) := by decide +kernel
theorem dX5_append_16 : decode cX5_append 16 = .ok (.aload_n 0, 1) := by decide +kernel
theorem dX5_append_17 : decode cX5_append 17 = .ok (.getfield 15, 3) := by decide +kernel
theorem dX5_append_20 : decode cX5_append 20 = .ok (.iload_n 1, 1) := by decide +kernel
theorem dX5_append_21 : decode cX5_append 21 = .ok (.invokestatic 19, 3) := by decide +kernel
theorem dX5_append_24 : decode cX5_append 24 = .ok (.aload_n 0, 1) := by decide +kernel
theorem dX5_append_25 : decode cX5_append 25 = .ok (.dup, 1) := by decide +kernel
theorem dX5_append_26 : decode cX5_append 26 = .ok (.getfield 15, 3) := by decide +kernel
theorem dX5_append_29 : decode cX5_append 29 = .ok (.iconst 1, 1) := by decide +kernel
theorem dX5_append_30 : decode cX5_append 30 = .ok (.iadd, 1) := by decide +kernel
theorem dX5_append_31 : decode cX5_append 31 = .ok (.putfield 15, 3) := by decide +kernel
theorem dX5_append_34 : decode cX5_append 34 = .ok (.iconst 1, 1) := by decide +kernel
theorem dX5_append_35 : decode cX5_append 35 = .ok (.ireturn, 1) := by decide +kernel
theorem dX5_readInto_0 : decode cX5_readInto 0 = .ok (.iconst 0, 1) := by decide +kernel
theorem dX5_readInto_1 : decode cX5_readInto 1 = .ok (.istore_n 2, 1) := by decide +kernel
theorem dX5_readInto_2 : decode cX5_readInto 2 = .ok (.iconst 0, 1) := by decide +kernel
theorem dX5_readInto_3 : decode cX5_readInto 3 = .ok (.istore_n 3, 1) := by decide +kernel
theorem dX5_readInto_4 : decode cX5_readInto 4 = .ok (.iload_n 3, 1) := by decide +kernel
theorem dX5_readInto_5 : decode cX5_readInto 5 = .ok (.sipush 200, 3) := by decide +kernel
theorem dX5_readInto_8 : decode cX5_readInto 8 = .ok (.if_icmp .ge 46, 3) := by decide +kernel
theorem dX5_readInto_11 : decode cX5_readInto 11 = .ok (.iload_n 2, 1) := by decide +kernel
theorem dX5_readInto_12 : decode cX5_readInto 12 = .ok (.aload_n 0, 1) := by decide +kernel
theorem dX5_readInto_13 : decode cX5_readInto 13 = .ok (.getfield 15, 3) := by decide +kernel
theorem dX5_readInto_16 : decode cX5_readInto 16 = .ok (.if_icmp .ge 38, 3) := by decide +kernel
theorem dX5_readInto_19 : decode cX5_readInto 19 = .ok (.aload_n 0, 1) := by decide +kernel
theorem dX5_readInto_20 : decode cX5_readInto 20 = .ok (.iload_n 2, 1) := by decide +kernel
theorem dX5_readInto_21 : decode cX5_readInto 21 = .ok (.aload_n 1, 1) := by decide +kernel
theorem dX5_readInto_22 : decode cX5_readInto 22 = .ok (.invokevirtual 25, 3) := by decide +kernel
theorem dX5_readInto_25 : decode cX5_readInto 25 = .ok (.ifCond .ne 5, 3) := by decide +kernel
theorem dX5_readInto_28 : decode cX5_readInto 28 = .ok (.iload_n 2, 1) := by decide +kernel
theorem dX5_readInto_29 : decode cX5_readInto 29 = .ok (.ireturn, 1) := by decide +kernel
theorem dX5_readInto_30 : decode cX5_readInto 30 = .ok (.iload_n 2, 1) := by decide +kernel
theorem dX5_readInto_31 : decode cX5_readInto 31 = .ok (.aload_n 0, 1) := by decide +kernel
theorem dX5_readInto_32 : decode cX5_readInto 32 = .ok (.iload_n 2, 1) := by decide +kernel
theorem dX5_readInto_33 : decode cX5_readInto 33 = .ok (.invokevirtual 29, 3) := by decide +kernel
theorem dX5_readInto_36 : decode cX5_readInto 36 = .ok (.bipush 103, 2) := by decide +kernel
theorem dX5_readInto_38 : decode cX5_readInto 38 = .ok (.if_icmp .ne 7, 3) := by decide +kernel
theorem dX5_readInto_41 : decode cX5_readInto 41 = .ok (.iconst 5, 1) := by decide +kernel
theorem dX5_readInto_42 : decode cX5_readInto 42 = .ok (.goto 4, 3) := by decide +kernel
theorem dX5_readInto_45 : decode cX5_readInto 45 = .ok (.iconst 4, 1) := by decide +kernel
theorem dX5_readInto_46 : decode cX5_readInto 46 = .ok (.iadd, 1) := by decide +kernel
theorem dX5_readInto_47 : decode cX5_readInto 47 = .ok (.istore_n 2, 1) := by decide +kernel
theorem dX5_readInto_48 : decode cX5_readInto 48 = .ok (.iinc 3 1, 3) := by decide +kernel
theorem dX5_readInto_51 : decode cX5_readInto 51 = .ok (.goto (-47), 3) := by decide +kernel
theorem dX5_readInto_54 : decode cX5_readInto 54 = .ok (.bipush (-4), 2) := by decide +kernel
theorem dX5_readInto_56 : decode cX5_readInto 56 = .ok (.ireturn, 1) := by decide +kernel
theorem dX5_readItem_0 : decode cX5_readItem 0 = .ok (.aload_n 0, 1) := by decide +kernel
theorem dX5_readItem_1 : decode cX5_readItem 1 = .ok (.iload_n 1, 1) := by decide +kernel
theorem dX5_readItem_2 : decode cX5_readItem 2 = .ok (.iconst 1, 1) := by decide +kernel
theorem dX5_readItem_3 : decode cX5_readItem 3 = .ok (.iadd, 1) := by decide +kernel
theorem dX5_readItem_4 : decode cX5_readItem 4 = .ok (.invokevirtual 33, 3) := by decide +kernel
theorem dX5_readItem_7 : decode cX5_readItem 7 = .ok (.istore_n 3, 1) := by decide +kernel
theorem dX5_readItem_8 : decode cX5_readItem 8 = .ok (.aload_n 0, 1) := by decide +kernel
theorem dX5_readItem_9 : decode cX5_readItem 9 = .ok (.iload_n 1, 1) := by decide +kernel
theorem dX5_readItem_10 : decode cX5_readItem 10 = .ok (.iconst 2, 1) := by decide +kernel
theorem dX5_readItem_11 : decode cX5_readItem 11 = .ok (.iadd, 1) := by decide +kernel
theorem dX5_readItem_12 : decode cX5_readItem 12 = .ok (.invokevirtual 33, 3) := by decide +kernel
theorem dX5_readItem_15 : decode cX5_readItem 15 = .ok (.istore 4, 2) := by decide +kernel
theorem dX5_readItem_17 : decode cX5_readItem 17 = .ok (.aload_n 0, 1) := by decide +kernel
theorem dX5_readItem_18 : decode cX5_readItem 18 = .ok (.iload_n 1, 1) := by decide +kernel
theorem dX5_readItem_19 : decode cX5_readItem 19 = .ok (.invokevirtual 29, 3) := by decide +kernel
theorem dX5_readItem_22 : decode cX5_readItem 22 = .ok (.istore 5, 2) := by decide +kernel
theorem dX5_readItem_24 : decode cX5_readItem 24 = .ok (.iload 5, 2) := by decide +kernel
theorem dX5_readItem_26 : decode cX5_readItem 26 = .ok (.bipush 103, 2) := by decide +kernel
theorem dX5_readItem_28 : decode cX5_readItem 28 = .ok (.if_icmp .ne 42, 3) := by decide +kernel
theorem dX5_readItem_31 : decode cX5_readItem 31 = .ok (.iload_n 1, 1) := by decide +kernel
theorem dX5_readItem_32 : decode cX5_readItem 32 = .ok (.ifCond .ne 36, 3) := by decide +kernel
theorem dX5_readItem_35 : decode cX5_readItem 35 = .ok (.aload_n 0, 1) := by decide +kernel
theorem dX5_readItem_36 : decode cX5_readItem 36 = .ok (.iload_n 1, 1) := by decide +kernel
theorem dX5_readItem_37 : decode cX5_readItem 37 = .ok (.iconst 4, 1) := by decide +kernel
theorem dX5_readItem_38 : decode cX5_readItem 38 = .ok (.iadd, 1) := by decide +kernel
theorem dX5_readItem_39 : decode cX5_readItem 39 = .ok (.invokevirtual 29, 3) := by decide +kernel
theorem dX5_readItem_42 : decode cX5_readItem 42 = .ok (.bipush 59, 2) := by decide +kernel
theorem dX5_readItem_44 : decode cX5_readItem 44 = .ok (.if_icmp .ne 24, 3) := by decide +kernel
theorem dX5_readItem_47 : decode cX5_readItem 47 = .ok (.aload_n 2, 1) := by decide +kernel
theorem dX5_readItem_48 : decode cX5_readItem 48 = .ok (.iload_n 3, 1) := by decide +kernel
theorem dX5_readItem_49 : decode cX5_readItem 49 = .ok (.iload 4, 2) := by decide +kernel
theorem dX5_readItem_51 : decode cX5_readItem 51 = .ok (.aload_n 0, 1) := by decide +kernel
theorem dX5_readItem_52 : decode cX5_readItem 52 = .ok (.iload_n 1, 1) := by decide +kernel
theorem dX5_readItem_53 : decode cX5_readItem 53 = .ok (.iconst 3, 1) := by decide +kernel
theorem dX5_readItem_54 : decode cX5_readItem 54 = .ok (.iadd, 1) := by decide +kernel
theorem dX5_readItem_55 : decode cX5_readItem 55 = .ok (.invokevirtual 33, 3) := by decide +kernel
theorem dX5_readItem_58 : decode cX5_readItem 58 = .ok (.invokevirtual 36, 3) := by decide +kernel
theorem dX5_readItem_61 : decode cX5_readItem 61 = .ok (.ifCond .eq 7, 3) := by decide +kernel
theorem dX5_readItem_64 : decode cX5_readItem 64 = .ok (.iconst 1, 1) := by decide +kernel
theorem dX5_readItem_65 : decode cX5_readItem 65 = .ok (.goto 4, 3) := by decide +kernel
theorem dX5_readItem_68 : decode cX5_readItem 68 = .ok (.iconst 0, 1) := by decide +kernel
theorem dX5_readItem_69 : decode cX5_readItem 69 = .ok (.ireturn, 1) := by decide +kernel
theorem dX5_readItem_70 : decode cX5_readItem 70 = .ok (.iload_n 1, 1) := by decide +kernel
theorem dX5_readItem_71 : decode cX5_readItem 71 = .ok (.ifCond .eq 15, 3) := by decide +kernel
theorem dX5_readItem_74 : decode cX5_readItem 74 = .ok (.aload_n 0, 1) := by decide +kernel
theorem dX5_readItem_75 : decode cX5_readItem 75 = .ok (.iload_n 1, 1) := by decide +kernel
theorem dX5_readItem_76 : decode cX5_readItem 76 = .ok (.iconst 3, 1) := by decide +kernel
theorem dX5_readItem_77 : decode cX5_readItem 77 = .ok (.iadd, 1) := by decide +kernel
theorem dX5_readItem_78 : decode cX5_readItem 78 = .ok (.invokevirtual 29, 3) := by decide +kernel
theorem dX5_readItem_81 : decode cX5_readItem 81 = .ok (.bipush 59, 2) := by decide +kernel
theorem dX5_readItem_83 : decode cX5_readItem 83 = .ok (.if_icmp .eq 5, 3) := by decide +kernel
theorem dX5_readItem_86 : decode cX5_readItem 86 = .ok (.iconst 0, 1) := by decide +kernel
theorem dX5_readItem_87 : decode cX5_readItem 87 = .ok (.ireturn, 1) := by decide +kernel
theorem dX5_readItem_88 : decode cX5_readItem 88 = .ok (.iload 5, 2) := by decide +kernel
theorem dX5_readItem_90 : decode cX5_readItem 90 = .ok (.bipush 101, 2) := by decide +kernel
theorem dX5_readItem_92 : decode cX5_readItem 92 = .ok (.if_icmp .ne 11, 3) := by decide +kernel
theorem dX5_readItem_95 : decode cX5_readItem 95 = .ok (.aload_n 2, 1) := by decide +kernel
theorem dX5_readItem_96 : decode cX5_readItem 96 = .ok (.iload_n 3, 1) := by decide +kernel
theorem dX5_readItem_97 : decode cX5_readItem 97 = .ok (.iload 4, 2) := by decide +kernel
theorem dX5_readItem_99 : decode cX5_readItem 99 = .ok (.invokevirtual 42, 3) := by decide +kernel
theorem dX5_readItem_102 : decode cX5_readItem 102 = .ok (.ireturn, 1) := by decide +kernel
theorem dX5_readItem_103 : decode cX5_readItem 103 = .ok (.iload 5, 2) := by decide +kernel
theorem dX5_readItem_105 : decode cX5_readItem 105 = .ok (.bipush 120, 2) := by decide +kernel
theorem dX5_readItem_107 : decode cX5_readItem 107 = .ok (.if_icmp .ne 17, 3) := by decide +kernel
theorem dX5_readItem_110 : decode cX5_readItem 110 = .ok (.aload_n 2, 1) := by decide +kernel
theorem dX5_readItem_111 : decode cX5_readItem 111 = .ok (.iload_n 3, 1) := by decide +kernel
theorem dX5_readItem_112 : decode cX5_readItem 112 = .ok (.iload 4, 2) := by decide +kernel
theorem dX5_readItem_114 : decode cX5_readItem 114 = .ok (.invokevirtual 46, 3) := by decide +kernel
theorem dX5_readItem_117 : decode cX5_readItem 117 = .ok (.ifCond .eq 7, 3) := by decide +kernel
theorem dX5_readItem_120 : decode cX5_readItem 120 = .ok (.iconst 1, 1) := by decide +kernel
theorem dX5_readItem_121 : decode cX5_readItem 121 = .ok (.goto 4, 3) := by decide +kernel
theorem dX5_readItem_124 : decode cX5_readItem 124 = .ok (.iconst 0, 1) := by decide +kernel
theorem dX5_readItem_125 : decode cX5_readItem 125 = .ok (.ireturn, 1) := by decide +kernel
theorem dX5_letterAt_0 : decode cX5_letterAt 0 = .ok (.iload_n 1, 1) := by decide +kernel
theorem dX5_letterAt_1 : decode cX5_letterAt 1 = .ok (.ifCond .lt 22, 3) := by decide +kernel
theorem dX5_letterAt_4 : decode cX5_letterAt 4 = .ok (.iload_n 1, 1) := by decide +kernel
theorem dX5_letterAt_5 : decode cX5_letterAt 5 = .ok (.aload_n 0, 1) := by decide +kernel
theorem dX5_letterAt_6 : decode cX5_letterAt 6 = .ok (.getfield 15, 3) := by decide +kernel
theorem dX5_letterAt_9 : decode cX5_letterAt 9 = .ok (.if_icmp .ge 14, 3) := by decide +kernel
theorem dX5_letterAt_12 : decode cX5_letterAt 12 = .ok (.aload_n 0, 1) := by decide +kernel
theorem dX5_letterAt_13 : decode cX5_letterAt 13 = .ok (.getfield 9, 3) := by decide +kernel
theorem dX5_letterAt_16 : decode cX5_letterAt 16 = .ok (.iload_n 1, 1) := by decide +kernel
theorem dX5_letterAt_17 : decode cX5_letterAt 17 = .ok (.invokestatic 49, 3) := by decide +kernel
theorem dX5_letterAt_20 : decode cX5_letterAt 20 = .ok (.goto 4, 3) := by decide +kernel
theorem dX5_letterAt_23 : decode cX5_letterAt 23 = .ok (.iconst 0, 1) := by decide +kernel
theorem dX5_letterAt_24 : decode cX5_letterAt 24 = .ok (.ireturn, 1) := by decide +kernel
theorem dX5_figureAt_0 : decode cX5_figureAt 0 = .ok (.aload_n 0, 1) := by decide +kernel
theorem dX5_figureAt_1 : decode cX5_figureAt 1 = .ok (.iload_n 1, 1) := by decide +kernel
theorem dX5_figureAt_2 : decode cX5_figureAt 2 = .ok (.invokevirtual 29, 3) := by decide +kernel
theorem dX5_figureAt_5 : decode cX5_figureAt 5 = .ok (.istore_n 2, 1) := by decide +kernel
theorem dX5_figureAt_6 : decode cX5_figureAt 6 = .ok (.iload_n 2, 1) := by decide +kernel
theorem dX5_figureAt_7 : decode cX5_figureAt 7 = .ok (.bipush 48, 2) := by decide +kernel
theorem dX5_figureAt_9 : decode cX5_figureAt 9 = .ok (.if_icmp .lt 16, 3) := by decide +kernel
theorem dX5_figureAt_12 : decode cX5_figureAt 12 = .ok (.iload_n 2, 1) := by decide +kernel
theorem dX5_figureAt_13 : decode cX5_figureAt 13 = .ok (.bipush 57, 2) := by decide +kernel
theorem dX5_figureAt_15 : decode cX5_figureAt 15 = .ok (.if_icmp .gt 10, 3) := by decide +kernel
theorem dX5_figureAt_18 : decode cX5_figureAt 18 = .ok (.iload_n 2, 1) := by decide +kernel
theorem dX5_figureAt_19 : decode cX5_figureAt 19 = .ok (.bipush 48, 2) := by decide +kernel
theorem dX5_figureAt_21 : decode cX5_figureAt 21 = .ok (.isub, 1) := by decide +kernel
theorem dX5_figureAt_22 : decode cX5_figureAt 22 = .ok (.goto 4, 3) := by decide +kernel
theorem dX5_figureAt_25 : decode cX5_figureAt 25 = .ok (.iconst (-1), 1) := by decide +kernel
theorem dX5_figureAt_26 : decode cX5_figureAt 26 = .ok (.ireturn, 1) := by decide +kernel
theorem dX6_init_0 : decode cX6_init 0 = .ok (.aload_n 0, 1) := by decide +kernel
theorem dX6_init_1 : decode cX6_init 1 = .ok (.invokespecial 1, 3) := by decide +kernel
theorem dX6_init_4 : decode cX6_init 4 = .ok (.aload_n 0, 1) := by decide +kernel
theorem dX6_init_5 : decode cX6_init 5 = .ok (.new 7, 3) := by decide +kernel
theorem dX6_init_8 : decode cX6_init 8 = .ok (.dup, 1) := by decide +kernel
theorem dX6_init_9 : decode cX6_init 9 = .ok (.invokespecial 9, 3) := by decide +kernel
theorem dX6_init_12 : decode cX6_init 12 = .ok (.putfield 10, 3) := by decide +kernel
theorem dX6_init_15 : decode cX6_init 15 = .ok (.aload_n 0, 1) := by decide +kernel
theorem dX6_init_16 : decode cX6_init 16 = .ok (.new 16, 3) := by decide +kernel
theorem dX6_init_19 : decode cX6_init 19 = .ok (.dup, 1) := by decide +kernel
theorem dX6_init_20 : decode cX6_init 20 = .ok (.invokespecial 18, 3) := by decide +kernel
theorem dX6_init_23 : decode cX6_init 23 = .ok (.putfield 19, 3) := by decide +kernel
theorem dX6_init_26 : decode cX6_init 26 = .ok (.aload_n 0, 1) := by decide +kernel
theorem dX6_init_27 : decode cX6_init 27 = .ok (.new 16, 3) := by decide +kernel
theorem dX6_init_30 : decode cX6_init 30 = .ok (.dup, 1) := by decide +kernel
theorem dX6_init_31 : decode cX6_init 31 = .ok (.invokespecial 18, 3) := by decide +kernel
theorem dX6_init_34 : decode cX6_init 34 = .ok (.putfield 23, 3) := by decide +kernel
theorem dX6_init_37 : decode cX6_init 37 = .ok (.aload_n 0, 1) := by decide +kernel
theorem dX6_init_38 : decode cX6_init 38 = .ok (.new 26, 3) := by decide +kernel
theorem dX6_init_41 : decode cX6_init 41 = .ok (.dup, 1) := by decide +kernel
theorem dX6_init_42 : decode cX6_init 42 = .ok (.invokespecial 28, 3) := by decide +kernel
theorem dX6_init_45 : decode cX6_init 45 = .ok (.putfield 29, 3) := by decide +kernel
theorem dX6_init_48 : decode cX6_init 48 = .ok (.aload_n 0, 1) := by decide +kernel
theorem dX6_init_49 : decode cX6_init 49 = .ok (.new 33, 3) := by decide +kernel
theorem dX6_init_52 : decode cX6_init 52 = .ok (.dup, 1) := by decide +kernel
theorem dX6_init_53 : decode cX6_init 53 = .ok (.invokespecial 35, 3) := by decide +kernel
theorem dX6_init_56 : decode cX6_init 56 = .ok (.putfield 36, 3) := by decide +kernel
theorem dX6_init_59 : decode cX6_init 59 = .ok (.iconst 0, 1) := by decide +kernel
theorem dX6_init_60 : decode cX6_init 60 = .ok (.istore_n 1, 1) := by decide +kernel
theorem dX6_init_61 : decode cX6_init 61 = .ok (.iload_n 1, 1) := by decide +kernel
theorem dX6_init_62 : decode cX6_init 62 = .ok (.ldc 40, 2) := by decide +kernel
theorem dX6_init_64 : decode cX6_init 64 = .ok (.invokevirtual 42, 3) := by decide +kernel
theorem dX6_init_67 : decode cX6_init 67 = .ok (.if_icmp .ge 23, 3) := by decide +kernel
theorem dX6_init_70 : decode cX6_init 70 = .ok (.aload_n 0, 1) := by decide +kernel
theorem dX6_init_71 : decode cX6_init 71 = .ok (.getfield 10, 3) := by decide +kernel
theorem dX6_init_74 : decode cX6_init 74 = .ok (.ldc 40, 2) := by decide +kernel
theorem dX6_init_76 : decode cX6_init 76 = .ok (.iload_n 1, 1) := by decide +kernel
theorem dX6_init_77 : decode cX6_init 77 = .ok (.invokevirtual 48, 3) := by decide +kernel
theorem dX6_init_80 : decode cX6_init 80 = .ok (.invokevirtual 52, 3) := by decide +kernel
theorem dX6_init_83 : decode cX6_init 83 = .ok (.pop, 1) := by decide +kernel
theorem dX6_init_84 : decode cX6_init 84 = .ok (.iinc 1 1, 3) := by decide +kernel
theorem dX6_init_87 : decode cX6_init 87 = .ok (.goto (-26), 3) := by decide +kernel
theorem dX6_init_90 : decode cX6_init 90 = .ok (.aload_n 0, 1) := by decide +kernel
theorem dX6_init_91 : decode cX6_init 91 = .ok (.getfield 10, 3) := by decide +kernel
theorem dX6_init_94 : decode cX6_init 94 = .ok (.aload_n 0, 1) := by decide +kernel
theorem dX6_init_95 : decode cX6_init 95 = .ok (.getfield 23, 3) := by decide +kernel
theorem dX6_init_98 : decode cX6_init 98 = .ok (.invokevirtual 56, 3) := by decide +kernel
theorem dX6_init_101 : decode cX6_init 101 = .ok (.pop, 1) := by decide +kernel
theorem dX6_init_102 : decode cX6_init 102 = .ok (.aload_n 0, 1) := by decide +kernel
theorem dX6_init_103 : decode cX6_init 103 = .ok (.invokevirtual 60, 3) := by decide +kernel
theorem dX6_init_106 : decode cX6_init 106 = .ok (.aload_n 0, 1) := by decide +kernel
theorem dX6_init_107 : decode cX6_init 107 = .ok (.getfield 10, 3) := by decide +kernel
theorem dX6_init_110 : decode cX6_init 110 = .ok (.invokevirtual 63, 3) := by decide +kernel
theorem dX6_init_113 : decode cX6_init 113 = .ok (.return_, 1) := by decide +kernel
theorem dX6_write_0 : decode cX6_write 0 = .ok (.iload_n 1, 1) := by decide +kernel
theorem dX6_write_1 : decode cX6_write 1 = .ok (.bipush 32, 2) := by decide +kernel
theorem dX6_write_3 : decode cX6_write 3 = .ok (.if_icmp .lt 9, 3) := by decide +kernel
theorem dX6_write_6 : decode cX6_write 6 = .ok (.iload_n 1, 1) := by decide +kernel
theorem dX6_write_7 : decode cX6_write 7 = .ok (.bipush 126, 2) := by decide +kernel
theorem dX6_write_9 : decode cX6_write 9 = .ok (.if_icmp .le 5, 3) := by decide +kernel
theorem dX6_write_12 : decode cX6_write 12 = .ok (.iconst (-1), 1) := by decide +kernel
theorem dX6_write_13 : decode cX6_write 13 = .ok (.ireturn, 1) := by decide +kernel
theorem dX6_write_14 : decode cX6_write 14 = .ok (.aload_n 0, 1) := by decide +kernel
theorem dX6_write_15 : decode cX6_write 15 = .ok (.getfield 10, 3) := by decide +kernel
theorem dX6_write_18 : decode cX6_write 18 = .ok (.iload_n 1, 1) := by decide +kernel
theorem dX6_write_19 : decode cX6_write 19 = .ok (.invokevirtual 52, 3) := by decide +kernel
theorem dX6_write_22 : decode cX6_write 22 = .ok (.ifCond .eq 13, 3) := by decide +kernel
theorem dX6_write_25 : decode cX6_write 25 = .ok (.aload_n 0, 1) := by decide +kernel
theorem dX6_write_26 : decode cX6_write 26 = .ok (.getfield 10, 3) := by decide +kernel
theorem dX6_write_29 : decode cX6_write 29 = .ok (.invokevirtual 66, 3) := by decide +kernel
theorem dX6_write_32 : decode cX6_write 32 = .ok (.goto 5, 3) := by decide +kernel
theorem dX6_write_35 : decode cX6_write 35 = .ok (.bipush (-3), 2) := by decide +kernel
theorem dX6_write_37 : decode cX6_write 37 = .ok (.ireturn, 1) := by decide +kernel
theorem dX6_wipe_0 : decode cX6_wipe 0 = .ok (.aload_n 0, 1) := by decide +kernel
theorem dX6_wipe_1 : decode cX6_wipe 1 = .ok (.getfield 10, 3) := by decide +kernel
theorem dX6_wipe_4 : decode cX6_wipe 4 = .ok (.invokevirtual 66, 3) := by decide +kernel
theorem dX6_wipe_7 : decode cX6_wipe 7 = .ok (.istore_n 1, 1) := by decide +kernel
theorem dX6_wipe_8 : decode cX6_wipe 8 = .ok (.aload_n 0, 1) := by decide +kernel
theorem dX6_wipe_9 : decode cX6_wipe 9 = .ok (.getfield 10, 3) := by decide +kernel
theorem dX6_wipe_12 : decode cX6_wipe 12 = .ok (.invokevirtual 63, 3) := by decide +kernel
theorem dX6_wipe_15 : decode cX6_wipe 15 = .ok (.iload_n 1, 1) := by decide +kernel
theorem dX6_wipe_16 : decode cX6_wipe 16 = .ok (.ireturn, 1) := by decide +kernel
theorem dX6_fault_0 : decode cX6_fault 0 = .ok (.aload_n 0, 1) := by decide +kernel
theorem dX6_fault_1 : decode cX6_fault 1 = .ok (.getfield 10, 3) := by decide +kernel
theorem dX6_fault_4 : decode cX6_fault 4 = .ok (.aload_n 0, 1) := by decide +kernel
theorem dX6_fault_5 : decode cX6_fault 5 = .ok (.getfield 23, 3) := by decide +kernel
theorem dX6_fault_8 : decode cX6_fault 8 = .ok (.invokevirtual 56, 3) := by decide +kernel
theorem dX6_fault_11 : decode cX6_fault 11 = .ok (.ireturn, 1) := by decide +kernel
theorem dX6_lay_0 : decode cX6_lay 0 = .ok (.aload_n 0, 1) := by decide +kernel
theorem dX6_lay_1 : decode cX6_lay 1 = .ok (.getfield 10, 3) := by decide +kernel
theorem dX6_lay_4 : decode cX6_lay 4 = .ok (.invokevirtual 66, 3) := by decide +kernel
theorem dX6_lay_7 : decode cX6_lay 7 = .ok (.ifCond .eq 29, 3) := by decide +kernel
theorem dX6_lay_10 : decode cX6_lay 10 = .ok (.aload_n 0, 1) := by decide +kernel
theorem dX6_lay_11 : decode cX6_lay 11 = .ok (.getfield 10, 3) := by decide +kernel
theorem dX6_lay_14 : decode cX6_lay 14 = .ok (.aload_n 0, 1) := by decide +kernel
theorem dX6_lay_15 : decode cX6_lay 15 = .ok (.getfield 23, 3) := by decide +kernel
theorem dX6_lay_18 : decode cX6_lay 18 = .ok (.invokevirtual 56, 3) := by decide +kernel
theorem dX6_lay_21 : decode cX6_lay 21 = .ok (.bipush (-4), 2) := by decide +kernel
theorem dX6_lay_23 : decode cX6_lay 23 = .ok (.if_icmp .ne 13, 3) := by decide +kernel
theorem dX6_lay_26 : decode cX6_lay 26 = .ok (.aload_n 0, 1) := by decide +kernel
theorem dX6_lay_27 : decode cX6_lay 27 = .ok (.getfield 23, 3) := by decide +kernel
theorem dX6_lay_30 : decode cX6_lay 30 = .ok (.invokevirtual 67, 3) := by decide +kernel
theorem dX6_lay_33 : decode cX6_lay 33 = .ok (.ifCond .ne 6, 3) := by decide +kernel
theorem dX6_lay_36 : decode cX6_lay 36 = .ok (.bipush (-2), 2) := by decide +kernel
theorem dX6_lay_38 : decode cX6_lay 38 = .ok (.ireturn, 1) := by decide +kernel
theorem dX6_lay_39 : decode cX6_lay 39 = .ok (.aload_n 0, 1) := by decide +kernel
theorem dX6_lay_40 : decode cX6_lay 40 = .ok (.invokevirtual 60, 3) := by decide +kernel
theorem dX6_lay_43 : decode cX6_lay 43 = .ok (.aload_n 0, 1) := by decide +kernel
theorem dX6_lay_44 : decode cX6_lay 44 = .ok (.getfield 19, 3) := by decide +kernel
theorem dX6_lay_47 : decode cX6_lay 47 = .ok (.getfield 71, 3) := by decide +kernel
theorem dX6_lay_50 : decode cX6_lay 50 = .ok (.ireturn, 1) := by decide +kernel
theorem dX6_takeDraft_0 : decode cX6_takeDraft 0 = .ok (.aload_n 0, 1) := by decide +kernel
theorem dX6_takeDraft_1 : decode cX6_takeDraft 1 = .ok (.getfield 19, 3) := by decide +kernel
theorem dX6_takeDraft_4 : decode cX6_takeDraft 4 = .ok (.aload_n 0, 1) := by decide +kernel
theorem dX6_takeDraft_5 : decode cX6_takeDraft 5 = .ok (.getfield 23, 3) := by decide +kernel
theorem dX6_takeDraft_8 : decode cX6_takeDraft 8 = .ok (.invokevirtual 75, 3) := by decide +kernel
theorem dX6_takeDraft_11 : decode cX6_takeDraft 11 = .ok (.aload_n 0, 1) := by decide +kernel
theorem dX6_takeDraft_12 : decode cX6_takeDraft 12 = .ok (.aload_n 0, 1) := by decide +kernel
theorem dX6_takeDraft_13 : decode cX6_takeDraft 13 = .ok (.getfield 19, 3) := by decide +kernel
theorem dX6_takeDraft_16 : decode cX6_takeDraft 16 = .ok (.getfield 79, 3) := by decide +kernel
theorem dX6_takeDraft_19 : decode cX6_takeDraft 19 = .ok (.putfield 82, 3) := by decide +kernel
theorem dX6_takeDraft_22 : decode cX6_takeDraft 22 = .ok (.aload_n 0, 1) := by decide +kernel
theorem dX6_takeDraft_23 : decode cX6_takeDraft 23 = .ok (.bipush (-4), 2) := by decide +kernel
theorem dX6_takeDraft_25 : decode cX6_takeDraft 25 = .ok (.putfield 85, 3) := by decide +kernel
theorem dX6_takeDraft_28 : decode cX6_takeDraft 28 = .ok (.aload_n 0, 1) := by decide +kernel
theorem dX6_takeDraft_29 : decode cX6_takeDraft 29 = .ok (.getfield 36, 3) := by decide +kernel
theorem dX6_takeDraft_32 : decode cX6_takeDraft 32 = .ok (.invokevirtual 88, 3) := by decide +kernel
theorem dX6_takeDraft_35 : decode cX6_takeDraft 35 = .ok (.aload_n 0, 1) := by decide +kernel
theorem dX6_takeDraft_36 : decode cX6_takeDraft 36 = .ok (.getfield 29, 3) := by decide +kernel
theorem dX6_takeDraft_39 : decode cX6_takeDraft 39 = .ok (.invokevirtual 89, 3) := by decide +kernel
theorem dX6_takeDraft_42 : decode cX6_takeDraft 42 = .ok (.return_, 1) := by decide +kernel
theorem dX6_value_0 : decode cX6_value 0 = .ok (.aload_n 0, 1) := by decide +kernel
theorem dX6_value_1 : decode cX6_value 1 = .ok (.getfield 19, 3) := by decide +kernel
theorem dX6_value_4 : decode cX6_value 4 = .ok (.iload_n 1, 1) := by decide +kernel
theorem dX6_value_5 : decode cX6_value 5 = .ok (.invokevirtual 92, 3) := by decide +kernel
theorem dX6_value_8 : decode cX6_value 8 = .ok (.ifCond .eq 18, 3) := by decide +kernel
theorem dX6_value_11 : decode cX6_value 11 = .ok (.aload_n 0, 1) := by decide +kernel
theorem dX6_value_12 : decode cX6_value 12 = .ok (.getfield 19, 3) := by decide +kernel
theorem dX6_value_15 : decode cX6_value 15 = .ok (.aload_n 0, 1) := by decide +kernel
theorem dX6_value_16 : decode cX6_value 16 = .ok (.getfield 82, 3) := by decide +kernel
theorem dX6_value_19 : decode cX6_value 19 = .ok (.iload_n 1, 1) := by decide +kernel
theorem dX6_value_20 : decode cX6_value 20 = .ok (.invokevirtual 95, 3) := by decide +kernel
theorem dX6_value_23 : decode cX6_value 23 = .ok (.goto 4, 3) := by decide +kernel
theorem dX6_value_26 : decode cX6_value 26 = .ok (.iconst (-1), 1) := by decide +kernel
theorem dX6_value_27 : decode cX6_value 27 = .ok (.ireturn, 1) := by decide +kernel
theorem dX6_hit_0 : decode cX6_hit 0 = .ok (.aload_n 0, 1) := by decide +kernel
theorem dX6_hit_1 : decode cX6_hit 1 = .ok (.getfield 19, 3) := by decide +kernel
theorem dX6_hit_4 : decode cX6_hit 4 = .ok (.iload_n 1, 1) := by decide +kernel
theorem dX6_hit_5 : decode cX6_hit 5 = .ok (.invokevirtual 92, 3) := by decide +kernel
theorem dX6_hit_8 : decode cX6_hit 8 = .ok (.ifCond .eq 14, 3) := by decide +kernel
theorem dX6_hit_11 : decode cX6_hit 11 = .ok (.aload_n 0, 1) := by decide +kernel
theorem dX6_hit_12 : decode cX6_hit 12 = .ok (.getfield 19, 3) := by decide +kernel
theorem dX6_hit_15 : decode cX6_hit 15 = .ok (.iload_n 2, 1) := by decide +kernel
theorem dX6_hit_16 : decode cX6_hit 16 = .ok (.invokevirtual 99, 3) := by decide +kernel
theorem dX6_hit_19 : decode cX6_hit 19 = .ok (.ifCond .ne 5, 3) := by decide +kernel
theorem dX6_hit_22 : decode cX6_hit 22 = .ok (.iconst (-1), 1) := by decide +kernel
theorem dX6_hit_23 : decode cX6_hit 23 = .ok (.ireturn, 1) := by decide +kernel
theorem dX6_hit_24 : decode cX6_hit 24 = .ok (.aload_n 0, 1) := by decide +kernel
theorem dX6_hit_25 : decode cX6_hit 25 = .ok (.getfield 19, 3) := by decide +kernel
theorem dX6_hit_28 : decode cX6_hit 28 = .ok (.aload_n 0, 1) := by decide +kernel
theorem dX6_hit_29 : decode cX6_hit 29 = .ok (.getfield 82, 3) := by decide +kernel
theorem dX6_hit_32 : decode cX6_hit 32 = .ok (.iload_n 1, 1) := by decide +kernel
theorem dX6_hit_33 : decode cX6_hit 33 = .ok (.invokevirtual 95, 3) := by decide +kernel
theorem dX6_hit_36 : decode cX6_hit 36 = .ok (.istore_n 3, 1) := by decide +kernel
theorem dX6_hit_37 : decode cX6_hit 37 = .ok (.iload_n 3, 1) := by decide +kernel
theorem dX6_hit_38 : decode cX6_hit 38 = .ok (.iload_n 2, 1) := by decide +kernel
theorem dX6_hit_39 : decode cX6_hit 39 = .ok (.if_icmp .ne 6, 3) := by decide +kernel
theorem dX6_hit_42 : decode cX6_hit 42 = .ok (.bipush (-2), 2) := by decide +kernel
theorem dX6_hit_44 : decode cX6_hit 44 = .ok (.ireturn, 1) := by decide +kernel
theorem dX6_hit_45 : decode cX6_hit 45 = .ok (.aload_n 0, 1) := by decide +kernel
theorem dX6_hit_46 : decode cX6_hit 46 = .ok (.aload_n 0, 1) := by decide +kernel
theorem dX6_hit_47 : decode cX6_hit 47 = .ok (.getfield 19, 3) := by decide +kernel
theorem dX6_hit_50 : decode cX6_hit 50 = .ok (.aload_n 0, 1) := by decide +kernel
theorem dX6_hit_51 : decode cX6_hit 51 = .ok (.getfield 82, 3) := by decide +kernel
theorem dX6_hit_54 : decode cX6_hit 54 = .ok (.iload_n 1, 1) := by decide +kernel
theorem dX6_hit_55 : decode cX6_hit 55 = .ok (.iload_n 2, 1) := by decide +kernel
theorem dX6_hit_56 : decode cX6_hit 56 = .ok (.invokevirtual 102, 3) := by decide +kernel
theorem dX6_hit_59 : decode cX6_hit 59 = .ok (.invokevirtual 106, 3) := by decide +kernel
theorem dX6_hit_62 : decode cX6_hit 62 = .ok (.iload_n 3, 1) := by decide +kernel
theorem dX6_hit_63 : decode cX6_hit 63 = .ok (.ireturn, 1) := by decide +kernel
theorem dX6_code_0 : decode cX6_code 0 = .ok (.aload_n 0, 1) := by decide +kernel
theorem dX6_code_1 : decode cX6_code 1 = .ok (.getfield 82, 3) := by decide +kernel
theorem dX6_code_4 : decode cX6_code 4 = .ok (.ireturn, 1) := by decide +kernel
theorem dX6_turn_0 : decode cX6_turn 0 = .ok (.aload_n 0, 1) := by decide +kernel
theorem dX6_turn_1 : decode cX6_turn 1 = .ok (.getfield 19, 3) := by decide +kernel
theorem dX6_turn_4 : decode cX6_turn 4 = .ok (.iload_n 1, 1) := by decide +kernel
theorem dX6_turn_5 : decode cX6_turn 5 = .ok (.invokevirtual 110, 3) := by decide +kernel
theorem dX6_turn_8 : decode cX6_turn 8 = .ok (.ifCond .ne 5, 3) := by decide +kernel
theorem dX6_turn_11 : decode cX6_turn 11 = .ok (.iconst (-1), 1) := by decide +kernel
theorem dX6_turn_12 : decode cX6_turn 12 = .ok (.ireturn, 1) := by decide +kernel
theorem dX6_turn_13 : decode cX6_turn 13 = .ok (.aload_n 0, 1) := by decide +kernel
theorem dX6_turn_14 : decode cX6_turn 14 = .ok (.getfield 82, 3) := by decide +kernel
theorem dX6_turn_17 : decode cX6_turn 17 = .ok (.istore_n 2, 1) := by decide +kernel
theorem dX6_turn_18 : decode cX6_turn 18 = .ok (.iload_n 2, 1) := by decide +kernel
theorem dX6_turn_19 : decode cX6_turn 19 = .ok (.iload_n 1, 1) := by decide +kernel
theorem dX6_turn_20 : decode cX6_turn 20 = .ok (.if_icmp .ne 6, 3) := by decide +kernel
theorem dX6_turn_23 : decode cX6_turn 23 = .ok (.bipush (-2), 2) := by decide +kernel
theorem dX6_turn_25 : decode cX6_turn 25 = .ok (.ireturn, 1) := by decide +kernel
theorem dX6_turn_26 : decode cX6_turn 26 = .ok (.aload_n 0, 1) := by decide +kernel
theorem dX6_turn_27 : decode cX6_turn 27 = .ok (.iload_n 1, 1) := by decide +kernel
theorem dX6_turn_28 : decode cX6_turn 28 = .ok (.invokevirtual 106, 3) := by decide +kernel
theorem dX6_turn_31 : decode cX6_turn 31 = .ok (.iload_n 2, 1) := by decide +kernel
theorem dX6_turn_32 : decode cX6_turn 32 = .ok (.ireturn, 1) := by decide +kernel
theorem dX6_wired_0 : decode cX6_wired 0 = .ok (.aload_n 0, 1) := by decide +kernel
theorem dX6_wired_1 : decode cX6_wired 1 = .ok (.getfield 19, 3) := by decide +kernel
theorem dX6_wired_4 : decode cX6_wired 4 = .ok (.iload_n 1, 1) := by decide +kernel
theorem dX6_wired_5 : decode cX6_wired 5 = .ok (.invokevirtual 92, 3) := by decide +kernel
theorem dX6_wired_8 : decode cX6_wired 8 = .ok (.ifCond .eq 19, 3) := by decide +kernel
theorem dX6_wired_11 : decode cX6_wired 11 = .ok (.aload_n 0, 1) := by decide +kernel
theorem dX6_wired_12 : decode cX6_wired 12 = .ok (.getfield 19, 3) := by decide +kernel
theorem dX6_wired_15 : decode cX6_wired 15 = .ok (.iload_n 2, 1) := by decide +kernel
theorem dX6_wired_16 : decode cX6_wired 16 = .ok (.invokevirtual 92, 3) := by decide +kernel
theorem dX6_wired_19 : decode cX6_wired 19 = .ok (.ifCond .eq 8, 3) := by decide +kernel
theorem dX6_wired_22 : decode cX6_wired 22 = .ok (.iload_n 1, 1) := by decide +kernel
theorem dX6_wired_23 : decode cX6_wired 23 = .ok (.iload_n 2, 1) := by decide +kernel
theorem dX6_wired_24 : decode cX6_wired 24 = .ok (.if_icmp .ne 5, 3) := by decide +kernel
theorem dX6_wired_27 : decode cX6_wired 27 = .ok (.iconst (-1), 1) := by decide +kernel
theorem dX6_wired_28 : decode cX6_wired 28 = .ok (.ireturn, 1) := by decide +kernel
theorem dX6_wired_29 : decode cX6_wired 29 = .ok (.aload_n 0, 1) := by decide +kernel
theorem dX6_wired_30 : decode cX6_wired 30 = .ok (.getfield 19, 3) := by decide +kernel
theorem dX6_wired_33 : decode cX6_wired 33 = .ok (.iload_n 1, 1) := by decide +kernel
theorem dX6_wired_34 : decode cX6_wired 34 = .ok (.iload_n 2, 1) := by decide +kernel
theorem dX6_wired_35 : decode cX6_wired 35 = .ok (.invokevirtual 113, 3) := by decide +kernel
theorem dX6_wired_38 : decode cX6_wired 38 = .ok (.ifCond .ne 15, 3) := by decide +kernel
theorem dX6_wired_41 : decode cX6_wired 41 = .ok (.aload_n 0, 1) := by decide +kernel
theorem dX6_wired_42 : decode cX6_wired 42 = .ok (.getfield 19, 3) := by decide +kernel
theorem dX6_wired_45 : decode cX6_wired 45 = .ok (.iload_n 2, 1) := by decide +kernel
theorem dX6_wired_46 : decode cX6_wired 46 = .ok (.iload_n 1, 1) := by decide +kernel
theorem dX6_wired_47 : decode cX6_wired 47 = .ok (.invokevirtual 113, 3) := by decide +kernel
theorem dX6_wired_50 : decode cX6_wired 50 = .ok (.ifCond .eq 7, 3) := by decide +kernel
theorem dX6_wired_53 : decode cX6_wired 53 = .ok (.iconst 1, 1) := by decide +kernel
theorem dX6_wired_54 : decode cX6_wired 54 = .ok (.goto 4, 3) := by decide +kernel
theorem dX6_wired_57 : decode cX6_wired 57 = .ok (.iconst 0, 1) := by decide +kernel
theorem dX6_wired_58 : decode cX6_wired 58 = .ok (.ireturn, 1) := by decide +kernel
theorem dX6_may_0 : decode cX6_may 0 = .ok (.aload_n 0, 1) := by decide +kernel
theorem dX6_may_1 : decode cX6_may 1 = .ok (.getfield 19, 3) := by decide +kernel
theorem dX6_may_4 : decode cX6_may 4 = .ok (.iload_n 1, 1) := by decide +kernel
theorem dX6_may_5 : decode cX6_may 5 = .ok (.invokevirtual 92, 3) := by decide +kernel
theorem dX6_may_8 : decode cX6_may 8 = .ok (.ifCond .eq 18, 3) := by decide +kernel
theorem dX6_may_11 : decode cX6_may 11 = .ok (.aload_n 0, 1) := by decide +kernel
theorem dX6_may_12 : decode cX6_may 12 = .ok (.getfield 19, 3) := by decide +kernel
theorem dX6_may_15 : decode cX6_may 15 = .ok (.aload_n 0, 1) := by decide +kernel
theorem dX6_may_16 : decode cX6_may 16 = .ok (.getfield 82, 3) := by decide +kernel
theorem dX6_may_19 : decode cX6_may 19 = .ok (.iload_n 1, 1) := by decide +kernel
theorem dX6_may_20 : decode cX6_may 20 = .ok (.invokevirtual 117, 3) := by decide +kernel
theorem dX6_may_23 : decode cX6_may 23 = .ok (.goto 4, 3) := by decide +kernel
theorem dX6_may_26 : decode cX6_may 26 = .ok (.iconst (-1), 1) := by decide +kernel
theorem dX6_may_27 : decode cX6_may 27 = .ok (.ireturn, 1) := by decide +kernel
theorem dX6_becomes_0 : decode cX6_becomes 0 = .ok (.aload_n 0, 1) := by decide +kernel
theorem dX6_becomes_1 : decode cX6_becomes 1 = .ok (.getfield 19, 3) := by decide +kernel
theorem dX6_becomes_4 : decode cX6_becomes 4 = .ok (.iload_n 1, 1) := by decide +kernel
theorem dX6_becomes_5 : decode cX6_becomes 5 = .ok (.invokevirtual 92, 3) := by decide +kernel
theorem dX6_becomes_8 : decode cX6_becomes 8 = .ok (.ifCond .ne 5, 3) := by decide +kernel
theorem dX6_becomes_11 : decode cX6_becomes 11 = .ok (.iconst (-1), 1) := by decide +kernel
theorem dX6_becomes_12 : decode cX6_becomes 12 = .ok (.ireturn, 1) := by decide +kernel
theorem dX6_becomes_13 : decode cX6_becomes 13 = .ok (.aload_n 0, 1) := by decide +kernel
theorem dX6_becomes_14 : decode cX6_becomes 14 = .ok (.getfield 19, 3) := by decide +kernel
theorem dX6_becomes_17 : decode cX6_becomes 17 = .ok (.aload_n 0, 1) := by decide +kernel
theorem dX6_becomes_18 : decode cX6_becomes 18 = .ok (.getfield 82, 3) := by decide +kernel
theorem dX6_becomes_21 : decode cX6_becomes 21 = .ok (.iload_n 1, 1) := by decide +kernel
theorem dX6_becomes_22 : decode cX6_becomes 22 = .ok (.invokevirtual 117, 3) := by decide +kernel
theorem dX6_becomes_25 : decode cX6_becomes 25 = .ok (.ifCond .ne 8, 3) := by decide +kernel
theorem dX6_becomes_28 : decode cX6_becomes 28 = .ok (.bipush (-4), 2) := by decide +kernel
theorem dX6_becomes_30 : decode cX6_becomes 30 = .ok (.goto 15, 3) := by decide +kernel
theorem dX6_becomes_33 : decode cX6_becomes 33 = .ok (.aload_n 0, 1) := by decide +kernel
theorem dX6_becomes_34 : decode cX6_becomes 34 = .ok (.getfield 19, 3) := by decide +kernel
theorem dX6_becomes_37 : decode cX6_becomes 37 = .ok (.aload_n 0, 1) := by decide +kernel
theorem dX6_becomes_38 : decode cX6_becomes 38 = .ok (.getfield 82, 3) := by decide +kernel
theorem dX6_becomes_41 : decode cX6_becomes 41 = .ok (.iload_n 1, 1) := by decide +kernel
theorem dX6_becomes_42 : decode cX6_becomes 42 = .ok (.invokevirtual 120, 3) := by decide +kernel
theorem dX6_becomes_45 : decode cX6_becomes 45 = .ok (.ireturn, 1) := by decide +kernel
theorem dX6_move_0 : decode cX6_move 0 = .ok (.aload_n 0, 1) := by decide +kernel
theorem dX6_move_1 : decode cX6_move 1 = .ok (.getfield 19, 3) := by decide +kernel
theorem dX6_move_4 : decode cX6_move 4 = .ok (.iload_n 1, 1) := by decide +kernel
theorem dX6_move_5 : decode cX6_move 5 = .ok (.invokevirtual 92, 3) := by decide +kernel
theorem dX6_move_8 : decode cX6_move 8 = .ok (.ifCond .ne 5, 3) := by decide +kernel
theorem dX6_move_11 : decode cX6_move 11 = .ok (.iconst (-1), 1) := by decide +kernel
theorem dX6_move_12 : decode cX6_move 12 = .ok (.ireturn, 1) := by decide +kernel
theorem dX6_move_13 : decode cX6_move 13 = .ok (.aload_n 0, 1) := by decide +kernel
theorem dX6_move_14 : decode cX6_move 14 = .ok (.getfield 19, 3) := by decide +kernel
theorem dX6_move_17 : decode cX6_move 17 = .ok (.aload_n 0, 1) := by decide +kernel
theorem dX6_move_18 : decode cX6_move 18 = .ok (.getfield 82, 3) := by decide +kernel
theorem dX6_move_21 : decode cX6_move 21 = .ok (.iload_n 1, 1) := by decide +kernel
theorem dX6_move_22 : decode cX6_move 22 = .ok (.invokevirtual 117, 3) := by decide +kernel
theorem dX6_move_25 : decode cX6_move 25 = .ok (.ifCond .ne 6, 3) := by decide +kernel
theorem dX6_move_28 : decode cX6_move 28 = .ok (.bipush (-2), 2) := by decide +kernel
theorem dX6_move_30 : decode cX6_move 30 = .ok (.ireturn, 1) := by decide +kernel
theorem dX6_move_31 : decode cX6_move 31 = .ok (.aload_n 0, 1) := by decide +kernel
theorem dX6_move_32 : decode cX6_move 32 = .ok (.getfield 19, 3) := by decide +kernel
theorem dX6_move_35 : decode cX6_move 35 = .ok (.aload_n 0, 1) := by decide +kernel
theorem dX6_move_36 : decode cX6_move 36 = .ok (.getfield 82, 3) := by decide +kernel
theorem dX6_move_39 : decode cX6_move 39 = .ok (.iload_n 1, 1) := by decide +kernel
theorem dX6_move_40 : decode cX6_move 40 = .ok (.invokevirtual 120, 3) := by decide +kernel
theorem dX6_move_43 : decode cX6_move 43 = .ok (.istore_n 2, 1) := by decide +kernel
theorem dX6_move_44 : decode cX6_move 44 = .ok (.aload_n 0, 1) := by decide +kernel
theorem dX6_move_45 : decode cX6_move 45 = .ok (.aload_n 0, 1) := by decide +kernel
theorem dX6_move_46 : decode cX6_move 46 = .ok (.getfield 19, 3) := by decide +kernel
theorem dX6_move_49 : decode cX6_move 49 = .ok (.aload_n 0, 1) := by decide +kernel
theorem dX6_move_50 : decode cX6_move 50 = .ok (.getfield 82, 3) := by decide +kernel
theorem dX6_move_53 : decode cX6_move 53 = .ok (.iload_n 1, 1) := by decide +kernel
theorem dX6_move_54 : decode cX6_move 54 = .ok (.iload_n 2, 1) := by decide +kernel
theorem dX6_move_55 : decode cX6_move 55 = .ok (.invokevirtual 102, 3) := by decide +kernel
theorem dX6_move_58 : decode cX6_move 58 = .ok (.invokevirtual 106, 3) := by decide +kernel
theorem dX6_move_61 : decode cX6_move 61 = .ok (.iload_n 2, 1) := by decide +kernel
theorem dX6_move_62 : decode cX6_move 62 = .ok (.ireturn, 1) := by decide +kernel
theorem dX6_tokens_0 : decode cX6_tokens 0 = .ok (.aload_n 0, 1) := by decide +kernel
theorem dX6_tokens_1 : decode cX6_tokens 1 = .ok (.getfield 19, 3) := by decide +kernel
theorem dX6_tokens_4 : decode cX6_tokens 4 = .ok (.aload_n 0, 1) := by decide +kernel
theorem dX6_tokens_5 : decode cX6_tokens 5 = .ok (.getfield 82, 3) := by decide +kernel
theorem dX6_tokens_8 : decode cX6_tokens 8 = .ok (.invokevirtual 123, 3) := by decide +kernel
theorem dX6_tokens_11 : decode cX6_tokens 11 = .ok (.ireturn, 1) := by decide +kernel
theorem dX6_legal_0 : decode cX6_legal 0 = .ok (.aload_n 0, 1) := by decide +kernel
theorem dX6_legal_1 : decode cX6_legal 1 = .ok (.getfield 19, 3) := by decide +kernel
theorem dX6_legal_4 : decode cX6_legal 4 = .ok (.aload_n 0, 1) := by decide +kernel
theorem dX6_legal_5 : decode cX6_legal 5 = .ok (.getfield 82, 3) := by decide +kernel
theorem dX6_legal_8 : decode cX6_legal 8 = .ok (.invokevirtual 127, 3) := by decide +kernel
theorem dX6_legal_11 : decode cX6_legal 11 = .ok (.ifCond .eq 7, 3) := by decide +kernel
theorem dX6_legal_14 : decode cX6_legal 14 = .ok (.iconst 1, 1) := by decide +kernel
theorem dX6_legal_15 : decode cX6_legal 15 = .ok (.goto 4, 3) := by decide +kernel
theorem dX6_legal_18 : decode cX6_legal 18 = .ok (.iconst 0, 1) := by decide +kernel
theorem dX6_legal_19 : decode cX6_legal 19 = .ok (.ireturn, 1) := by decide +kernel
theorem dX6_mate_0 : decode cX6_mate 0 = .ok (.aload_n 0, 1) := by decide +kernel
theorem dX6_mate_1 : decode cX6_mate 1 = .ok (.getfield 19, 3) := by decide +kernel
theorem dX6_mate_4 : decode cX6_mate 4 = .ok (.iload_n 1, 1) := by decide +kernel
theorem dX6_mate_5 : decode cX6_mate 5 = .ok (.invokevirtual 92, 3) := by decide +kernel
theorem dX6_mate_8 : decode cX6_mate 8 = .ok (.ifCond .ne 5, 3) := by decide +kernel
theorem dX6_mate_11 : decode cX6_mate 11 = .ok (.iconst (-1), 1) := by decide +kernel
theorem dX6_mate_12 : decode cX6_mate 12 = .ok (.ireturn, 1) := by decide +kernel
theorem dX6_mate_13 : decode cX6_mate 13 = .ok (.aload_n 0, 1) := by decide +kernel
theorem dX6_mate_14 : decode cX6_mate 14 = .ok (.getfield 19, 3) := by decide +kernel
theorem dX6_mate_17 : decode cX6_mate 17 = .ok (.getfield 130, 3) := by decide +kernel
theorem dX6_mate_20 : decode cX6_mate 20 = .ok (.iconst 2, 1) := by decide +kernel
theorem dX6_mate_21 : decode cX6_mate 21 = .ok (.if_icmp .ne 16, 3) := by decide +kernel
theorem dX6_mate_24 : decode cX6_mate 24 = .ok (.aload_n 0, 1) := by decide +kernel
theorem dX6_mate_25 : decode cX6_mate 25 = .ok (.getfield 19, 3) := by decide +kernel
theorem dX6_mate_28 : decode cX6_mate 28 = .ok (.aload_n 0, 1) := by decide +kernel
theorem dX6_mate_29 : decode cX6_mate 29 = .ok (.getfield 82, 3) := by decide +kernel
theorem dX6_mate_32 : decode cX6_mate 32 = .ok (.iload_n 1, 1) := by decide +kernel
theorem dX6_mate_33 : decode cX6_mate 33 = .ok (.invokevirtual 133, 3) := by decide +kernel
theorem dX6_mate_36 : decode cX6_mate 36 = .ok (.ireturn, 1) := by decide +kernel
theorem dX6_mate_37 : decode cX6_mate 37 = .ok (.aload_n 0, 1) := by decide +kernel
theorem dX6_mate_38 : decode cX6_mate 38 = .ok (.getfield 19, 3) := by decide +kernel
theorem dX6_mate_41 : decode cX6_mate 41 = .ok (.getfield 130, 3) := by decide +kernel
theorem dX6_mate_44 : decode cX6_mate 44 = .ok (.iconst 3, 1) := by decide +kernel
theorem dX6_mate_45 : decode cX6_mate 45 = .ok (.if_icmp .ne 18, 3) := by decide +kernel
theorem dX6_mate_48 : decode cX6_mate 48 = .ok (.aload_n 0, 1) := by decide +kernel
theorem dX6_mate_49 : decode cX6_mate 49 = .ok (.getfield 19, 3) := by decide +kernel
theorem dX6_mate_52 : decode cX6_mate 52 = .ok (.aload_n 0, 1) := by decide +kernel
theorem dX6_mate_53 : decode cX6_mate 53 = .ok (.getfield 82, 3) := by decide +kernel
theorem dX6_mate_56 : decode cX6_mate 56 = .ok (.iload_n 1, 1) := by decide +kernel
theorem dX6_mate_57 : decode cX6_mate 57 = .ok (.invokevirtual 136, 3) := by decide +kernel
theorem dX6_mate_60 : decode cX6_mate 60 = .ok (.goto 5, 3) := by decide +kernel
theorem dX6_mate_63 : decode cX6_mate 63 = .ok (.bipush (-2), 2) := by decide +kernel
theorem dX6_mate_65 : decode cX6_mate 65 = .ok (.ireturn, 1) := by decide +kernel
theorem dX6_undo_0 : decode cX6_undo 0 = .ok (.aload_n 0, 1) := by decide +kernel
theorem dX6_undo_1 : decode cX6_undo 1 = .ok (.getfield 36, 3) := by decide +kernel
theorem dX6_undo_4 : decode cX6_undo 4 = .ok (.invokevirtual 139, 3) := by decide +kernel
theorem dX6_undo_7 : decode cX6_undo 7 = .ok (.ifCond .ne 6, 3) := by decide +kernel
theorem dX6_undo_10 : decode cX6_undo 10 = .ok (.bipush (-2), 2) := by decide +kernel
theorem dX6_undo_12 : decode cX6_undo 12 = .ok (.ireturn, 1) := by decide +kernel
theorem dX6_undo_13 : decode cX6_undo 13 = .ok (.aload_n 0, 1) := by decide +kernel
theorem dX6_undo_14 : decode cX6_undo 14 = .ok (.aload_n 0, 1) := by decide +kernel
theorem dX6_undo_15 : decode cX6_undo 15 = .ok (.getfield 36, 3) := by decide +kernel
theorem dX6_undo_18 : decode cX6_undo 18 = .ok (.invokevirtual 142, 3) := by decide +kernel
theorem dX6_undo_21 : decode cX6_undo 21 = .ok (.putfield 82, 3) := by decide +kernel
theorem dX6_undo_24 : decode cX6_undo 24 = .ok (.aload_n 0, 1) := by decide +kernel
theorem dX6_undo_25 : decode cX6_undo 25 = .ok (.aload_n 0, 1) := by decide +kernel
theorem dX6_undo_26 : decode cX6_undo 26 = .ok (.getfield 36, 3) := by decide +kernel
theorem dX6_undo_29 : decode cX6_undo 29 = .ok (.invokevirtual 145, 3) := by decide +kernel
theorem dX6_undo_32 : decode cX6_undo 32 = .ok (.putfield 85, 3) := by decide +kernel
theorem dX6_undo_35 : decode cX6_undo 35 = .ok (.aload_n 0, 1) := by decide +kernel
theorem dX6_undo_36 : decode cX6_undo 36 = .ok (.getfield 36, 3) := by decide +kernel
theorem dX6_undo_39 : decode cX6_undo 39 = .ok (.invokevirtual 148, 3) := by decide +kernel
theorem dX6_undo_42 : decode cX6_undo 42 = .ok (.aload_n 0, 1) := by decide +kernel
theorem dX6_undo_43 : decode cX6_undo 43 = .ok (.getfield 36, 3) := by decide +kernel
theorem dX6_undo_46 : decode cX6_undo 46 = .ok (.invokevirtual 139, 3) := by decide +kernel
theorem dX6_undo_49 : decode cX6_undo 49 = .ok (.ireturn, 1) := by decide +kernel
theorem dX6_change_0 : decode cX6_change 0 = .ok (.aload_n 0, 1) := by decide +kernel
theorem dX6_change_1 : decode cX6_change 1 = .ok (.getfield 36, 3) := by decide +kernel
theorem dX6_change_4 : decode cX6_change 4 = .ok (.aload_n 0, 1) := by decide +kernel
theorem dX6_change_5 : decode cX6_change 5 = .ok (.getfield 82, 3) := by decide +kernel
theorem dX6_change_8 : decode cX6_change 8 = .ok (.aload_n 0, 1) := by decide +kernel
theorem dX6_change_9 : decode cX6_change 9 = .ok (.getfield 85, 3) := by decide +kernel
theorem dX6_change_12 : decode cX6_change 12 = .ok (.invokevirtual 151, 3) := by decide +kernel
theorem dX6_change_15 : decode cX6_change 15 = .ok (.aload_n 0, 1) := by decide +kernel
theorem dX6_change_16 : decode cX6_change 16 = .ok (.iload_n 1, 1) := by decide +kernel
theorem dX6_change_17 : decode cX6_change 17 = .ok (.putfield 82, 3) := by decide +kernel
theorem dX6_change_20 : decode cX6_change 20 = .ok (.return_, 1) := by decide +kernel
theorem dX6_run_0 : decode cX6_run 0 = .ok (.iload_n 1, 1) := by decide +kernel
theorem dX6_run_1 : decode cX6_run 1 = .ok (.ifCond .lt 31, 3) := by decide +kernel
theorem dX6_run_4 : decode cX6_run 4 = .ok (.iload_n 1, 1) := by decide +kernel
theorem dX6_run_5 : decode cX6_run 5 = .ok (.iconst 4, 1) := by decide +kernel
theorem dX6_run_6 : decode cX6_run 6 = .ok (.if_icmp .gt 26, 3) := by decide +kernel
theorem dX6_run_9 : decode cX6_run 9 = .ok (.iload_n 2, 1) := by decide +kernel
theorem dX6_run_10 : decode cX6_run 10 = .ok (.ifCond .lt 22, 3) := by decide +kernel
theorem dX6_run_13 : decode cX6_run 13 = .ok (.iload_n 2, 1) := by decide +kernel
theorem dX6_run_14 : decode cX6_run 14 = .ok (.sipush 9999, 3) := by decide +kernel
theorem dX6_run_17 : decode cX6_run 17 = .ok (.if_icmp .gt 15, 3) := by decide +kernel
theorem dX6_run_20 : decode cX6_run 20 = .ok (.iload_n 3, 1) := by decide +kernel
theorem dX6_run_21 : decode cX6_run 21 = .ok (.iconst 1, 1) := by decide +kernel
theorem dX6_run_22 : decode cX6_run 22 = .ok (.if_icmp .lt 10, 3) := by decide +kernel
theorem dX6_run_25 : decode cX6_run 25 = .ok (.iload_n 3, 1) := by decide +kernel
theorem dX6_run_26 : decode cX6_run 26 = .ok (.sipush 300, 3) := by decide +kernel
theorem dX6_run_29 : decode cX6_run 29 = .ok (.if_icmp .le 5, 3) := by decide +kernel
theorem dX6_run_32 : decode cX6_run 32 = .ok (.iconst (-1), 1) := by decide +kernel
theorem dX6_run_33 : decode cX6_run 33 = .ok (.ireturn, 1) := by decide +kernel
theorem dX6_run_34 : decode cX6_run 34 = .ok (.iload_n 1, 1) := by decide +kernel
theorem dX6_run_35 : decode cX6_run 35 = .ok (.iconst 4, 1) := by decide +kernel
theorem dX6_run_36 : decode cX6_run 36 = .ok (.if_icmp .ne 14, 3) := by decide +kernel
theorem dX6_run_39 : decode cX6_run 39 = .ok (.aload_n 0, 1) := by decide +kernel
theorem dX6_run_40 : decode cX6_run 40 = .ok (.getfield 29, 3) := by decide +kernel
theorem dX6_run_43 : decode cX6_run 43 = .ok (.aload_n 0, 1) := by decide +kernel
theorem dX6_run_44 : decode cX6_run 44 = .ok (.getfield 19, 3) := by decide +kernel
theorem dX6_run_47 : decode cX6_run 47 = .ok (.invokevirtual 155, 3) := by decide +kernel
theorem dX6_run_50 : decode cX6_run 50 = .ok (.aload_n 0, 1) := by decide +kernel
theorem dX6_run_51 : decode cX6_run 51 = .ok (.getfield 82, 3) := by decide +kernel
theorem dX6_run_54 : decode cX6_run 54 = .ok (.istore 4, 2) := by decide +kernel
theorem dX6_run_56 : decode cX6_run 56 = .ok (.aload_n 0, 1) := by decide +kernel
theorem dX6_run_57 : decode cX6_run 57 = .ok (.getfield 85, 3) := by decide +kernel
theorem dX6_run_60 : decode cX6_run 60 = .ok (.istore 5, 2) := by decide +kernel
theorem dX6_run_62 : decode cX6_run 62 = .ok (.iconst 0, 1) := by decide +kernel
theorem dX6_run_63 : decode cX6_run 63 = .ok (.istore 6, 2) := by decide +kernel
theorem dX6_run_65 : decode cX6_run 65 = .ok (.iconst 0, 1) := by decide +kernel
theorem dX6_run_66 : decode cX6_run 66 = .ok (.istore 7, 2) := by decide +kernel
theorem dX6_run_68 : decode cX6_run 68 = .ok (.iload 7, 2) := by decide +kernel
theorem dX6_run_70 : decode cX6_run 70 = .ok (.iload_n 3, 1) := by decide +kernel
theorem dX6_run_71 : decode cX6_run 71 = .ok (.if_icmp .ge 76, 3) := by decide +kernel
theorem dX6_run_74 : decode cX6_run 74 = .ok (.aload_n 0, 1) := by decide +kernel
theorem dX6_run_75 : decode cX6_run 75 = .ok (.getfield 19, 3) := by decide +kernel
theorem dX6_run_78 : decode cX6_run 78 = .ok (.iload 4, 2) := by decide +kernel
theorem dX6_run_80 : decode cX6_run 80 = .ok (.invokevirtual 127, 3) := by decide +kernel
theorem dX6_run_83 : decode cX6_run 83 = .ok (.ifCond .ne 64, 3) := by decide +kernel
theorem dX6_run_86 : decode cX6_run 86 = .ok (.aload_n 0, 1) := by decide +kernel
theorem dX6_run_87 : decode cX6_run 87 = .ok (.getfield 19, 3) := by decide +kernel
theorem dX6_run_90 : decode cX6_run 90 = .ok (.iload 4, 2) := by decide +kernel
theorem dX6_run_92 : decode cX6_run 92 = .ok (.invokevirtual 123, 3) := by decide +kernel
theorem dX6_run_95 : decode cX6_run 95 = .ok (.ifCond .eq 52, 3) := by decide +kernel
theorem dX6_run_98 : decode cX6_run 98 = .ok (.aload_n 0, 1) := by decide +kernel
theorem dX6_run_99 : decode cX6_run 99 = .ok (.iload_n 1, 1) := by decide +kernel
theorem dX6_run_100 : decode cX6_run 100 = .ok (.iload 4, 2) := by decide +kernel
theorem dX6_run_102 : decode cX6_run 102 = .ok (.iload 5, 2) := by decide +kernel
theorem dX6_run_104 : decode cX6_run 104 = .ok (.iload_n 2, 1) := by decide +kernel
theorem dX6_run_105 : decode cX6_run 105 = .ok (.iload 7, 2) := by decide +kernel
theorem dX6_run_107 : decode cX6_run 107 = .ok (.invokestatic 158, 3) := by decide +kernel
theorem dX6_run_110 : decode cX6_run 110 = .ok (.invokevirtual 161, 3) := by decide +kernel
theorem dX6_run_113 : decode cX6_run 113 = .ok (.istore 8, 2) := by decide +kernel
theorem dX6_run_115 : decode cX6_run 115 = .ok (.iload_n 1, 1) := by decide +kernel
theorem dX6_run_116 : decode cX6_run 116 = .ok (.iload 5, 2) := by decide +kernel
theorem dX6_run_118 : decode cX6_run 118 = .ok (.iload 8, 2) := by decide +kernel
theorem dX6_run_120 : decode cX6_run 120 = .ok (.invokestatic 165, 3) := by decide +kernel
theorem dX6_run_123 : decode cX6_run 123 = .ok (.istore 5, 2) := by decide +kernel
theorem dX6_run_125 : decode cX6_run 125 = .ok (.aload_n 0, 1) := by decide +kernel
theorem dX6_run_126 : decode cX6_run 126 = .ok (.getfield 19, 3) := by decide +kernel
theorem dX6_run_129 : decode cX6_run 129 = .ok (.iload 4, 2) := by decide +kernel
theorem dX6_run_131 : decode cX6_run 131 = .ok (.iload 8, 2) := by decide +kernel
theorem dX6_run_133 : decode cX6_run 133 = .ok (.invokevirtual 168, 3) := by decide +kernel
theorem dX6_run_136 : decode cX6_run 136 = .ok (.istore 4, 2) := by decide +kernel
theorem dX6_run_138 : decode cX6_run 138 = .ok (.iinc 6 1, 3) := by decide +kernel
theorem dX6_run_141 : decode cX6_run 141 = .ok (.iinc 7 1, 3) := by decide +kernel
theorem dX6_run_144 : decode cX6_run 144 = .ok (.goto (-76), 3) := by decide +kernel
theorem dX6_run_147 : decode cX6_run 147 = .ok (.iload 6, 2) := by decide +kernel
theorem dX6_run_149 : decode cX6_run 149 = .ok (.ifCond .le 15, 3) := by decide +kernel
theorem dX6_run_152 : decode cX6_run 152 = .ok (.aload_n 0, 1) := by decide +kernel
theorem dX6_run_153 : decode cX6_run 153 = .ok (.iload 4, 2) := by decide +kernel
theorem dX6_run_155 : decode cX6_run 155 = .ok (.invokevirtual 106, 3) := by decide +kernel
theorem dX6_run_158 : decode cX6_run 158 = .ok (.aload_n 0, 1) := by decide +kernel
theorem dX6_run_159 : decode cX6_run 159 = .ok (.iload 5, 2) := by decide +kernel
theorem dX6_run_161 : decode cX6_run 161 = .ok (.putfield 85, 3) := by decide +kernel
theorem dX6_run_164 : decode cX6_run 164 = .ok (.iload 6, 2) := by decide +kernel
theorem dX6_run_166 : decode cX6_run 166 = .ok (.ireturn, 1) := by decide +kernel
theorem dX6_next_0 : decode cX6_next 0 = .ok (.iload_n 1, 1) := by decide +kernel
theorem dX6_next_1 : decode cX6_next 1 = .ok (.ifCond .lt 13, 3) := by decide +kernel
theorem dX6_next_4 : decode cX6_next 4 = .ok (.iload_n 1, 1) := by decide +kernel
theorem dX6_next_5 : decode cX6_next 5 = .ok (.iconst 4, 1) := by decide +kernel
theorem dX6_next_6 : decode cX6_next 6 = .ok (.if_icmp .gt 8, 3) := by decide +kernel
theorem dX6_next_9 : decode cX6_next 9 = .ok (.iload_n 1, 1) := by decide +kernel
theorem dX6_next_10 : decode cX6_next 10 = .ok (.iconst 3, 1) := by decide +kernel
theorem dX6_next_11 : decode cX6_next 11 = .ok (.if_icmp .ne 5, 3) := by decide +kernel
theorem dX6_next_14 : decode cX6_next 14 = .ok (.iconst (-1), 1) := by decide +kernel
theorem dX6_next_15 : decode cX6_next 15 = .ok (.ireturn, 1) := by decide +kernel
theorem dX6_next_16 : decode cX6_next 16 = .ok (.iload_n 1, 1) := by decide +kernel
theorem dX6_next_17 : decode cX6_next 17 = .ok (.iconst 4, 1) := by decide +kernel
theorem dX6_next_18 : decode cX6_next 18 = .ok (.if_icmp .ne 14, 3) := by decide +kernel
theorem dX6_next_21 : decode cX6_next 21 = .ok (.aload_n 0, 1) := by decide +kernel
theorem dX6_next_22 : decode cX6_next 22 = .ok (.getfield 29, 3) := by decide +kernel
theorem dX6_next_25 : decode cX6_next 25 = .ok (.aload_n 0, 1) := by decide +kernel
theorem dX6_next_26 : decode cX6_next 26 = .ok (.getfield 19, 3) := by decide +kernel
theorem dX6_next_29 : decode cX6_next 29 = .ok (.invokevirtual 155, 3) := by decide +kernel
theorem dX6_next_32 : decode cX6_next 32 = .ok (.aload_n 0, 1) := by decide +kernel
theorem dX6_next_33 : decode cX6_next 33 = .ok (.iload_n 1, 1) := by decide +kernel
theorem dX6_next_34 : decode cX6_next 34 = .ok (.aload_n 0, 1) := by decide +kernel
theorem dX6_next_35 : decode cX6_next 35 = .ok (.getfield 82, 3) := by decide +kernel
theorem dX6_next_38 : decode cX6_next 38 = .ok (.aload_n 0, 1) := by decide +kernel
theorem dX6_next_39 : decode cX6_next 39 = .ok (.getfield 85, 3) := by decide +kernel
theorem dX6_next_42 : decode cX6_next 42 = .ok (.iconst 0, 1) := by decide +kernel
theorem dX6_next_43 : decode cX6_next 43 = .ok (.invokevirtual 161, 3) := by decide +kernel
theorem dX6_next_46 : decode cX6_next 46 = .ok (.ireturn, 1) := by decide +kernel
theorem dX6_loop_0 : decode cX6_loop 0 = .ok (.iload_n 1, 1) := by decide +kernel
theorem dX6_loop_1 : decode cX6_loop 1 = .ok (.ifCond .eq 13, 3) := by decide +kernel
theorem dX6_loop_4 : decode cX6_loop 4 = .ok (.iload_n 1, 1) := by decide +kernel
theorem dX6_loop_5 : decode cX6_loop 5 = .ok (.iconst 2, 1) := by decide +kernel
theorem dX6_loop_6 : decode cX6_loop 6 = .ok (.if_icmp .eq 8, 3) := by decide +kernel
theorem dX6_loop_9 : decode cX6_loop 9 = .ok (.iload_n 1, 1) := by decide +kernel
theorem dX6_loop_10 : decode cX6_loop 10 = .ok (.iconst 4, 1) := by decide +kernel
theorem dX6_loop_11 : decode cX6_loop 11 = .ok (.if_icmp .ne 12, 3) := by decide +kernel
theorem dX6_loop_14 : decode cX6_loop 14 = .ok (.iload_n 2, 1) := by decide +kernel
theorem dX6_loop_15 : decode cX6_loop 15 = .ok (.ifCond .lt 8, 3) := by decide +kernel
theorem dX6_loop_18 : decode cX6_loop 18 = .ok (.iload_n 2, 1) := by decide +kernel
theorem dX6_loop_19 : decode cX6_loop 19 = .ok (.iconst 1, 1) := by decide +kernel
theorem dX6_loop_20 : decode cX6_loop 20 = .ok (.if_icmp .le 5, 3) := by decide +kernel
theorem dX6_loop_23 : decode cX6_loop 23 = .ok (.iconst (-1), 1) := by decide +kernel
theorem dX6_loop_24 : decode cX6_loop 24 = .ok (.ireturn, 1) := by decide +kernel
theorem dX6_loop_25 : decode cX6_loop 25 = .ok (.iload_n 1, 1) := by decide +kernel
theorem dX6_loop_26 : decode cX6_loop 26 = .ok (.iconst 4, 1) := by decide +kernel
theorem dX6_loop_27 : decode cX6_loop 27 = .ok (.if_icmp .ne 14, 3) := by decide +kernel
theorem dX6_loop_30 : decode cX6_loop 30 = .ok (.aload_n 0, 1) := by decide +kernel
theorem dX6_loop_31 : decode cX6_loop 31 = .ok (.getfield 29, 3) := by decide +kernel
theorem dX6_loop_34 : decode cX6_loop 34 = .ok (.aload_n 0, 1) := by decide +kernel
theorem dX6_loop_35 : decode cX6_loop 35 = .ok (.getfield 19, 3) := by decide +kernel
theorem dX6_loop_38 : decode cX6_loop 38 = .ok (.invokevirtual 155, 3) := by decide +kernel
theorem dX6_loop_41 : decode cX6_loop 41 = .ok (.aload_n 0, 1) := by decide +kernel
theorem dX6_loop_42 : decode cX6_loop 42 = .ok (.getfield 29, 3) := by decide +kernel
theorem dX6_loop_45 : decode cX6_loop 45 = .ok (.invokevirtual 171, 3) := by decide +kernel
theorem dX6_loop_48 : decode cX6_loop 48 = .ok (.astore_n 3, 1) := by decide +kernel
theorem dX6_loop_49 : decode cX6_loop 49 = .ok (.aload_n 0, 1) := by decide +kernel
theorem dX6_loop_50 : decode cX6_loop 50 = .ok (.getfield 82, 3) := by decide +kernel
theorem dX6_loop_53 : decode cX6_loop 53 = .ok (.istore 4, 2) := by decide +kernel
theorem dX6_loop_55 : decode cX6_loop 55 = .ok (.iconst 0, 1) := by decide +kernel
theorem dX6_loop_56 : decode cX6_loop 56 = .ok (.istore 5, 2) := by decide +kernel
theorem dX6_loop_58 : decode cX6_loop 58 = .ok (.iload 5, 2) := by decide +kernel
theorem dX6_loop_60 : decode cX6_loop 60 = .ok (.aload_n 0, 1) := by decide +kernel
theorem dX6_loop_61 : decode cX6_loop 61 = .ok (.getfield 19, 3) := by decide +kernel
theorem dX6_loop_64 : decode cX6_loop 64 = .ok (.getfield 71, 3) := by decide +kernel
theorem dX6_loop_67 : decode cX6_loop 67 = .ok (.if_icmp .gt 66, 3) := by decide +kernel
theorem dX6_loop_70 : decode cX6_loop 70 = .ok (.aload_n 3, 1) := by decide +kernel
theorem dX6_loop_71 : decode cX6_loop 71 = .ok (.iload 4, 2) := by decide +kernel
theorem dX6_loop_73 : decode cX6_loop 73 = .ok (.invokestatic 175, 3) := by decide +kernel
theorem dX6_loop_76 : decode cX6_loop 76 = .ok (.istore 6, 2) := by decide +kernel
theorem dX6_loop_78 : decode cX6_loop 78 = .ok (.iload 6, 2) := by decide +kernel
theorem dX6_loop_80 : decode cX6_loop 80 = .ok (.ifCond .lt 18, 3) := by decide +kernel
theorem dX6_loop_83 : decode cX6_loop 83 = .ok (.iload_n 2, 1) := by decide +kernel
theorem dX6_loop_84 : decode cX6_loop 84 = .ok (.ifCond .ne 8, 3) := by decide +kernel
theorem dX6_loop_87 : decode cX6_loop 87 = .ok (.iload 6, 2) := by decide +kernel
theorem dX6_loop_89 : decode cX6_loop 89 = .ok (.goto 8, 3) := by decide +kernel
theorem dX6_loop_92 : decode cX6_loop 92 = .ok (.iload 5, 2) := by decide +kernel
theorem dX6_loop_94 : decode cX6_loop 94 = .ok (.iload 6, 2) := by decide +kernel
theorem dX6_loop_96 : decode cX6_loop 96 = .ok (.isub, 1) := by decide +kernel
theorem dX6_loop_97 : decode cX6_loop 97 = .ok (.ireturn, 1) := by decide +kernel
theorem dX6_loop_98 : decode cX6_loop 98 = .ok (.aload_n 3, 1) := by decide +kernel
theorem dX6_loop_99 : decode cX6_loop 99 = .ok (.iload 4, 2) := by decide +kernel
theorem dX6_loop_101 : decode cX6_loop 101 = .ok (.iload 5, 2) := by decide +kernel
theorem dX6_loop_103 : decode cX6_loop 103 = .ok (.invokestatic 181, 3) := by decide +kernel
theorem dX6_loop_106 : decode cX6_loop 106 = .ok (.aload_n 0, 1) := by decide +kernel
theorem dX6_loop_107 : decode cX6_loop 107 = .ok (.getfield 19, 3) := by decide +kernel
theorem dX6_loop_110 : decode cX6_loop 110 = .ok (.iload 4, 2) := by decide +kernel
theorem dX6_loop_112 : decode cX6_loop 112 = .ok (.aload_n 0, 1) := by decide +kernel
theorem dX6_loop_113 : decode cX6_loop 113 = .ok (.iload_n 1, 1) := by decide +kernel
theorem dX6_loop_114 : decode cX6_loop 114 = .ok (.iload 4, 2) := by decide +kernel
theorem dX6_loop_116 : decode cX6_loop 116 = .ok (.bipush (-4), 2) := by decide +kernel
theorem dX6_loop_118 : decode cX6_loop 118 = .ok (.iconst 0, 1) := by decide +kernel
theorem dX6_loop_119 : decode cX6_loop 119 = .ok (.invokevirtual 161, 3) := by decide +kernel
theorem dX6_loop_122 : decode cX6_loop 122 = .ok (.invokevirtual 168, 3) := by decide +kernel
theorem dX6_loop_125 : decode cX6_loop 125 = .ok (.istore 4, 2) := by decide +kernel
theorem dX6_loop_127 : decode cX6_loop 127 = .ok (.iinc 5 1, 3) := by decide +kernel
theorem dX6_loop_130 : decode cX6_loop 130 = .ok (.goto (-72), 3) := by decide +kernel
theorem dX6_loop_133 : decode cX6_loop 133 = .ok (.iconst (-1), 1) := by decide +kernel
theorem dX6_loop_134 : decode cX6_loop 134 = .ok (.ireturn, 1) := by decide +kernel
theorem dX6_storm_0 : decode cX6_storm 0 = .ok (.iload_n 1, 1) := by decide +kernel
theorem dX6_storm_1 : decode cX6_storm 1 = .ok (.ifCond .lt 42, 3) := by decide +kernel
theorem dX6_storm_4 : decode cX6_storm 4 = .ok (.iload_n 1, 1) := by decide +kernel
theorem dX6_storm_5 : decode cX6_storm 5 = .ok (.iconst 2, 1) := by decide +kernel
theorem dX6_storm_6 : decode cX6_storm 6 = .ok (.if_icmp .gt 37, 3) := by decide +kernel
theorem dX6_storm_9 : decode cX6_storm 9 = .ok (.iload_n 2, 1) := by decide +kernel
theorem dX6_storm_10 : decode cX6_storm 10 = .ok (.ifCond .lt 33, 3) := by decide +kernel
theorem dX6_storm_13 : decode cX6_storm 13 = .ok (.iload_n 2, 1) := by decide +kernel
theorem dX6_storm_14 : decode cX6_storm 14 = .ok (.sipush 9999, 3) := by decide +kernel
theorem dX6_storm_17 : decode cX6_storm 17 = .ok (.if_icmp .gt 26, 3) := by decide +kernel
theorem dX6_storm_20 : decode cX6_storm 20 = .ok (.iload_n 3, 1) := by decide +kernel
theorem dX6_storm_21 : decode cX6_storm 21 = .ok (.iconst 1, 1) := by decide +kernel
theorem dX6_storm_22 : decode cX6_storm 22 = .ok (.if_icmp .lt 21, 3) := by decide +kernel
theorem dX6_storm_25 : decode cX6_storm 25 = .ok (.iload_n 3, 1) := by decide +kernel
theorem dX6_storm_26 : decode cX6_storm 26 = .ok (.sipush 200, 3) := by decide +kernel
theorem dX6_storm_29 : decode cX6_storm 29 = .ok (.if_icmp .gt 14, 3) := by decide +kernel
theorem dX6_storm_32 : decode cX6_storm 32 = .ok (.iload 4, 2) := by decide +kernel
theorem dX6_storm_34 : decode cX6_storm 34 = .ok (.ifCond .lt 9, 3) := by decide +kernel
theorem dX6_storm_37 : decode cX6_storm 37 = .ok (.iload 4, 2) := by decide +kernel
theorem dX6_storm_39 : decode cX6_storm 39 = .ok (.iconst 2, 1) := by decide +kernel
theorem dX6_storm_40 : decode cX6_storm 40 = .ok (.if_icmp .le 5, 3) := by decide +kernel
theorem dX6_storm_43 : decode cX6_storm 43 = .ok (.iconst (-1), 1) := by decide +kernel
theorem dX6_storm_44 : decode cX6_storm 44 = .ok (.ireturn, 1) := by decide +kernel
theorem dX6_storm_45 : decode cX6_storm 45 = .ok (.aload_n 0, 1) := by decide +kernel
theorem dX6_storm_46 : decode cX6_storm 46 = .ok (.getfield 82, 3) := by decide +kernel
theorem dX6_storm_49 : decode cX6_storm 49 = .ok (.istore 5, 2) := by decide +kernel
theorem dX6_storm_51 : decode cX6_storm 51 = .ok (.aload_n 0, 1) := by decide +kernel
theorem dX6_storm_52 : decode cX6_storm 52 = .ok (.getfield 85, 3) := by decide +kernel
theorem dX6_storm_55 : decode cX6_storm 55 = .ok (.istore 6, 2) := by decide +kernel
theorem dX6_storm_57 : decode cX6_storm 57 = .ok (.iconst 0, 1) := by decide +kernel
theorem dX6_storm_58 : decode cX6_storm 58 = .ok (.istore 7, 2) := by decide +kernel
theorem dX6_storm_60 : decode cX6_storm 60 = .ok (.iconst 0, 1) := by decide +kernel
theorem dX6_storm_61 : decode cX6_storm 61 = .ok (.istore 8, 2) := by decide +kernel
theorem dX6_storm_63 : decode cX6_storm 63 = .ok (.iconst 0, 1) := by decide +kernel
theorem dX6_storm_64 : decode cX6_storm 64 = .ok (.istore 9, 2) := by decide +kernel
theorem dX6_storm_66 : decode cX6_storm 66 = .ok (.iconst 0, 1) := by decide +kernel
theorem dX6_storm_67 : decode cX6_storm 67 = .ok (.istore 10, 2) := by decide +kernel
theorem dX6_storm_69 : decode cX6_storm 69 = .ok (.iload 10, 2) := by decide +kernel
theorem dX6_storm_71 : decode cX6_storm 71 = .ok (.iload_n 3, 1) := by decide +kernel
theorem dX6_storm_72 : decode cX6_storm 72 = .ok (.if_icmp .ge 127, 3) := by decide +kernel
theorem dX6_storm_75 : decode cX6_storm 75 = .ok (.iload_n 2, 1) := by decide +kernel
theorem dX6_storm_76 : decode cX6_storm 76 = .ok (.iload 10, 2) := by decide +kernel
theorem dX6_storm_78 : decode cX6_storm 78 = .ok (.invokestatic 158, 3) := by decide +kernel
theorem dX6_storm_81 : decode cX6_storm 81 = .ok (.istore 11, 2) := by decide +kernel
theorem dX6_storm_83 : decode cX6_storm 83 = .ok (.iload 11, 2) := by decide +kernel
theorem dX6_storm_85 : decode cX6_storm 85 = .ok (.bipush 8, 2) := by decide +kernel
theorem dX6_storm_87 : decode cX6_storm 87 = .ok (.irem, 1) := by decide +kernel
theorem dX6_storm_88 : decode cX6_storm 88 = .ok (.ifCond .ne 19, 3) := by decide +kernel
theorem dX6_storm_91 : decode cX6_storm 91 = .ok (.aload_n 0, 1) := by decide +kernel
theorem dX6_storm_92 : decode cX6_storm 92 = .ok (.getfield 19, 3) := by decide +kernel
theorem dX6_storm_95 : decode cX6_storm 95 = .ok (.iload 5, 2) := by decide +kernel
theorem dX6_storm_97 : decode cX6_storm 97 = .ok (.iload 11, 2) := by decide +kernel
theorem dX6_storm_99 : decode cX6_storm 99 = .ok (.invokevirtual 185, 3) := by decide +kernel
theorem dX6_storm_102 : decode cX6_storm 102 = .ok (.istore 5, 2) := by decide +kernel
theorem dX6_storm_104 : decode cX6_storm 104 = .ok (.goto 39, 3) := by decide +kernel
theorem dX6_storm_107 : decode cX6_storm 107 = .ok (.aload_n 0, 1) := by decide +kernel
theorem dX6_storm_108 : decode cX6_storm 108 = .ok (.iload_n 1, 1) := by decide +kernel
theorem dX6_storm_109 : decode cX6_storm 109 = .ok (.iload 5, 2) := by decide +kernel
theorem dX6_storm_111 : decode cX6_storm 111 = .ok (.iload 6, 2) := by decide +kernel
theorem dX6_storm_113 : decode cX6_storm 113 = .ok (.iload 11, 2) := by decide +kernel
theorem dX6_storm_115 : decode cX6_storm 115 = .ok (.invokevirtual 161, 3) := by decide +kernel
theorem dX6_storm_118 : decode cX6_storm 118 = .ok (.istore 12, 2) := by decide +kernel
theorem dX6_storm_120 : decode cX6_storm 120 = .ok (.iload_n 1, 1) := by decide +kernel
theorem dX6_storm_121 : decode cX6_storm 121 = .ok (.iload 6, 2) := by decide +kernel
theorem dX6_storm_123 : decode cX6_storm 123 = .ok (.iload 12, 2) := by decide +kernel
theorem dX6_storm_125 : decode cX6_storm 125 = .ok (.invokestatic 165, 3) := by decide +kernel
theorem dX6_storm_128 : decode cX6_storm 128 = .ok (.istore 6, 2) := by decide +kernel
theorem dX6_storm_130 : decode cX6_storm 130 = .ok (.aload_n 0, 1) := by decide +kernel
theorem dX6_storm_131 : decode cX6_storm 131 = .ok (.getfield 19, 3) := by decide +kernel
theorem dX6_storm_134 : decode cX6_storm 134 = .ok (.iload 5, 2) := by decide +kernel
theorem dX6_storm_136 : decode cX6_storm 136 = .ok (.iload 12, 2) := by decide +kernel
theorem dX6_storm_138 : decode cX6_storm 138 = .ok (.invokevirtual 168, 3) := by decide +kernel
theorem dX6_storm_141 : decode cX6_storm 141 = .ok (.istore 5, 2) := by decide +kernel
theorem dX6_storm_143 : decode cX6_storm 143 = .ok (.aload_n 0, 1) := by decide +kernel
theorem dX6_storm_144 : decode cX6_storm 144 = .ok (.getfield 19, 3) := by decide +kernel
theorem dX6_storm_147 : decode cX6_storm 147 = .ok (.iload 5, 2) := by decide +kernel
theorem dX6_storm_149 : decode cX6_storm 149 = .ok (.invokevirtual 127, 3) := by decide +kernel
theorem dX6_storm_152 : decode cX6_storm 152 = .ok (.istore 12, 2) := by decide +kernel
theorem dX6_storm_154 : decode cX6_storm 154 = .ok (.iload 7, 2) := by decide +kernel
theorem dX6_storm_156 : decode cX6_storm 156 = .ok (.iload 12, 2) := by decide +kernel
theorem dX6_storm_158 : decode cX6_storm 158 = .ok (.ifCond .eq 7, 3) := by decide +kernel
theorem dX6_storm_161 : decode cX6_storm 161 = .ok (.iconst 1, 1) := by decide +kernel
theorem dX6_storm_162 : decode cX6_storm 162 = .ok (.goto 4, 3) := by decide +kernel
theorem dX6_storm_165 : decode cX6_storm 165 = .ok (.iconst 0, 1) := by decide +kernel
theorem dX6_storm_166 : decode cX6_storm 166 = .ok (.iadd, 1) := by decide +kernel
theorem dX6_storm_167 : decode cX6_storm 167 = .ok (.istore 7, 2) := by decide +kernel
theorem dX6_storm_169 : decode cX6_storm 169 = .ok (.iload 12, 2) := by decide +kernel
theorem dX6_storm_171 : decode cX6_storm 171 = .ok (.ifCond .eq 7, 3) := by decide +kernel
theorem dX6_storm_174 : decode cX6_storm 174 = .ok (.iconst 0, 1) := by decide +kernel
theorem dX6_storm_175 : decode cX6_storm 175 = .ok (.goto 7, 3) := by decide +kernel
theorem dX6_storm_178 : decode cX6_storm 178 = .ok (.iload 8, 2) := by decide +kernel
theorem dX6_storm_180 : decode cX6_storm 180 = .ok (.iconst 1, 1) := by decide +kernel
theorem dX6_storm_181 : decode cX6_storm 181 = .ok (.iadd, 1) := by decide +kernel
theorem dX6_storm_182 : decode cX6_storm 182 = .ok (.istore 8, 2) := by decide +kernel
theorem dX6_storm_184 : decode cX6_storm 184 = .ok (.iload 9, 2) := by decide +kernel
theorem dX6_storm_186 : decode cX6_storm 186 = .ok (.iload 8, 2) := by decide +kernel
theorem dX6_storm_188 : decode cX6_storm 188 = .ok (.invokestatic 188, 3) := by decide +kernel
theorem dX6_storm_191 : decode cX6_storm 191 = .ok (.istore 9, 2) := by decide +kernel
theorem dX6_storm_193 : decode cX6_storm 193 = .ok (.iinc 10 1, 3) := by decide +kernel
theorem dX6_storm_196 : decode cX6_storm 196 = .ok (.goto (-127), 3) := by decide +kernel
theorem dX6_storm_199 : decode cX6_storm 199 = .ok (.iload 4, 2) := by decide +kernel
theorem dX6_storm_201 : decode cX6_storm 201 = .ok (.ifCond .ne 6, 3) := by decide +kernel
theorem dX6_storm_204 : decode cX6_storm 204 = .ok (.iload 7, 2) := by decide +kernel
theorem dX6_storm_206 : decode cX6_storm 206 = .ok (.ireturn, 1) := by decide +kernel
theorem dX6_storm_207 : decode cX6_storm 207 = .ok (.iload 4, 2) := by decide +kernel
theorem dX6_storm_209 : decode cX6_storm 209 = .ok (.iconst 1, 1) := by decide +kernel
theorem dX6_storm_210 : decode cX6_storm 210 = .ok (.if_icmp .ne 8, 3) := by decide +kernel
theorem dX6_storm_213 : decode cX6_storm 213 = .ok (.iload 5, 2) := by decide +kernel
theorem dX6_storm_215 : decode cX6_storm 215 = .ok (.goto 5, 3) := by decide +kernel
theorem dX6_storm_218 : decode cX6_storm 218 = .ok (.iload 9, 2) := by decide +kernel
theorem dX6_storm_220 : decode cX6_storm 220 = .ok (.ireturn, 1) := by decide +kernel
theorem dX6_drawOf_0 : decode cX6_drawOf 0 = .ok (.ldc2_w 193, 3) := by decide +kernel
theorem dX6_drawOf_3 : decode cX6_drawOf 3 = .ok (.iload_n 0, 1) := by decide +kernel
theorem dX6_drawOf_4 : decode cX6_drawOf 4 = .ok (.i2l, 1) := by decide +kernel
theorem dX6_drawOf_5 : decode cX6_drawOf 5 = .ok (.lmul, 1) := by decide +kernel
theorem dX6_drawOf_6 : decode cX6_drawOf 6 = .ok (.ldc2_w 195, 3) := by decide +kernel
theorem dX6_drawOf_9 : decode cX6_drawOf 9 = .ok (.iload_n 1, 1) := by decide +kernel
theorem dX6_drawOf_10 : decode cX6_drawOf 10 = .ok (.i2l, 1) := by decide +kernel
theorem dX6_drawOf_11 : decode cX6_drawOf 11 = .ok (.lmul, 1) := by decide +kernel
theorem dX6_drawOf_12 : decode cX6_drawOf 12 = .ok (.ladd, 1) := by decide +kernel
theorem dX6_drawOf_13 : decode cX6_drawOf 13 = .ok (.lconst 1, 1) := by decide +kernel
theorem dX6_drawOf_14 : decode cX6_drawOf 14 = .ok (.ladd, 1) := by decide +kernel
theorem dX6_drawOf_15 : decode cX6_drawOf 15 = .ok (.lstore_n 2, 1) := by decide +kernel
theorem dX6_drawOf_16 : decode cX6_drawOf 16 = .ok (.lload_n 2, 1) := by decide +kernel
theorem dX6_drawOf_17 : decode cX6_drawOf 17 = .ok (.lload_n 2, 1) := by decide +kernel
theorem dX6_drawOf_18 : decode cX6_drawOf 18 = .ok (.lmul, 1) := by decide +kernel
theorem dX6_drawOf_19 : decode cX6_drawOf 19 = .ok (.ldc2_w 197, 3) := by decide +kernel
theorem dX6_drawOf_22 : decode cX6_drawOf 22 = .ok (.lrem, 1) := by decide +kernel
theorem dX6_drawOf_23 : decode cX6_drawOf 23 = .ok (.l2i, 1) := by decide +kernel
theorem dX6_drawOf_24 : decode cX6_drawOf 24 = .ok (.ireturn, 1) := by decide +kernel
theorem dX6_moversOf_0 : decode cX6_moversOf 0 = .ok (.aload_n 0, 1) := by decide +kernel
theorem dX6_moversOf_1 : decode cX6_moversOf 1 = .ok (.getfield 19, 3) := by decide +kernel
theorem dX6_moversOf_4 : decode cX6_moversOf 4 = .ok (.iload_n 2, 1) := by decide +kernel
theorem dX6_moversOf_5 : decode cX6_moversOf 5 = .ok (.invokevirtual 123, 3) := by decide +kernel
theorem dX6_moversOf_8 : decode cX6_moversOf 8 = .ok (.istore 5, 2) := by decide +kernel
theorem dX6_moversOf_10 : decode cX6_moversOf 10 = .ok (.iload_n 1, 1) := by decide +kernel
theorem dX6_moversOf_11 : decode cX6_moversOf 11 = .ok (.tableswitch 60 0 3 #[29, 35, 49, 52], 29) := by decide +kernel
theorem dX6_moversOf_40 : decode cX6_moversOf 40 = .ok (.iload 5, 2) := by decide +kernel
theorem dX6_moversOf_42 : decode cX6_moversOf 42 = .ok (.invokestatic 199, 3) := by decide +kernel
theorem dX6_moversOf_45 : decode cX6_moversOf 45 = .ok (.ireturn, 1) := by decide +kernel
theorem dX6_moversOf_46 : decode cX6_moversOf 46 = .ok (.iload 5, 2) := by decide +kernel
theorem dX6_moversOf_48 : decode cX6_moversOf 48 = .ok (.iload_n 3, 1) := by decide +kernel
theorem dX6_moversOf_49 : decode cX6_moversOf 49 = .ok (.aload_n 0, 1) := by decide +kernel
theorem dX6_moversOf_50 : decode cX6_moversOf 50 = .ok (.getfield 19, 3) := by decide +kernel
theorem dX6_moversOf_53 : decode cX6_moversOf 53 = .ok (.getfield 204, 3) := by decide +kernel
theorem dX6_moversOf_56 : decode cX6_moversOf 56 = .ok (.invokestatic 207, 3) := by decide +kernel
theorem dX6_moversOf_59 : decode cX6_moversOf 59 = .ok (.ireturn, 1) := by decide +kernel
theorem dX6_moversOf_60 : decode cX6_moversOf 60 = .ok (.iload 5, 2) := by decide +kernel
theorem dX6_moversOf_62 : decode cX6_moversOf 62 = .ok (.ireturn, 1) := by decide +kernel
theorem dX6_moversOf_63 : decode cX6_moversOf 63 = .ok (.iload 5, 2) := by decide +kernel
theorem dX6_moversOf_65 : decode cX6_moversOf 65 = .ok (.iload 4, 2) := by decide +kernel
theorem dX6_moversOf_67 : decode cX6_moversOf 67 = .ok (.invokestatic 210, 3) := by decide +kernel
theorem dX6_moversOf_70 : decode cX6_moversOf 70 = .ok (.ireturn, 1) := by decide +kernel
theorem dX6_moversOf_71 : decode cX6_moversOf 71 = .ok (.aload_n 0, 1) := by decide +kernel
theorem dX6_moversOf_72 : decode cX6_moversOf 72 = .ok (.iload_n 2, 1) := by decide +kernel
theorem dX6_moversOf_73 : decode cX6_moversOf 73 = .ok (.iload 5, 2) := by decide +kernel
theorem dX6_moversOf_75 : decode cX6_moversOf 75 = .ok (.invokevirtual 213, 3) := by decide +kernel
theorem dX6_moversOf_78 : decode cX6_moversOf 78 = .ok (.ireturn, 1) := by decide +kernel
theorem dX6_cruellest_0 : decode cX6_cruellest 0 = .ok (.iconst 0, 1) := by decide +kernel
theorem dX6_cruellest_1 : decode cX6_cruellest 1 = .ok (.istore_n 3, 1) := by decide +kernel
theorem dX6_cruellest_2 : decode cX6_cruellest 2 = .ok (.iconst (-1), 1) := by decide +kernel
theorem dX6_cruellest_3 : decode cX6_cruellest 3 = .ok (.istore 4, 2) := by decide +kernel
theorem dX6_cruellest_5 : decode cX6_cruellest 5 = .ok (.iconst 0, 1) := by decide +kernel
theorem dX6_cruellest_6 : decode cX6_cruellest 6 = .ok (.istore 5, 2) := by decide +kernel
theorem dX6_cruellest_8 : decode cX6_cruellest 8 = .ok (.iload 5, 2) := by decide +kernel
theorem dX6_cruellest_10 : decode cX6_cruellest 10 = .ok (.aload_n 0, 1) := by decide +kernel
theorem dX6_cruellest_11 : decode cX6_cruellest 11 = .ok (.getfield 19, 3) := by decide +kernel
theorem dX6_cruellest_14 : decode cX6_cruellest 14 = .ok (.getfield 204, 3) := by decide +kernel
theorem dX6_cruellest_17 : decode cX6_cruellest 17 = .ok (.if_icmp .ge 60, 3) := by decide +kernel
theorem dX6_cruellest_20 : decode cX6_cruellest 20 = .ok (.iload_n 2, 1) := by decide +kernel
theorem dX6_cruellest_21 : decode cX6_cruellest 21 = .ok (.iload 5, 2) := by decide +kernel
theorem dX6_cruellest_23 : decode cX6_cruellest 23 = .ok (.invokestatic 216, 3) := by decide +kernel
theorem dX6_cruellest_26 : decode cX6_cruellest 26 = .ok (.ifCond .eq 45, 3) := by decide +kernel
theorem dX6_cruellest_29 : decode cX6_cruellest 29 = .ok (.aload_n 0, 1) := by decide +kernel
theorem dX6_cruellest_30 : decode cX6_cruellest 30 = .ok (.getfield 29, 3) := by decide +kernel
theorem dX6_cruellest_33 : decode cX6_cruellest 33 = .ok (.aload_n 0, 1) := by decide +kernel
theorem dX6_cruellest_34 : decode cX6_cruellest 34 = .ok (.getfield 29, 3) := by decide +kernel
theorem dX6_cruellest_37 : decode cX6_cruellest 37 = .ok (.aload_n 0, 1) := by decide +kernel
theorem dX6_cruellest_38 : decode cX6_cruellest 38 = .ok (.getfield 19, 3) := by decide +kernel
theorem dX6_cruellest_41 : decode cX6_cruellest 41 = .ok (.iload_n 1, 1) := by decide +kernel
theorem dX6_cruellest_42 : decode cX6_cruellest 42 = .ok (.iload 5, 2) := by decide +kernel
theorem dX6_cruellest_44 : decode cX6_cruellest 44 = .ok (.invokevirtual 219, 3) := by decide +kernel
theorem dX6_cruellest_47 : decode cX6_cruellest 47 = .ok (.invokevirtual 223, 3) := by decide +kernel
theorem dX6_cruellest_50 : decode cX6_cruellest 50 = .ok (.invokestatic 226, 3) := by decide +kernel
theorem dX6_cruellest_53 : decode cX6_cruellest 53 = .ok (.istore 6, 2) := by decide +kernel
theorem dX6_cruellest_55 : decode cX6_cruellest 55 = .ok (.iload 6, 2) := by decide +kernel
theorem dX6_cruellest_57 : decode cX6_cruellest 57 = .ok (.iload 4, 2) := by decide +kernel
theorem dX6_cruellest_59 : decode cX6_cruellest 59 = .ok (.if_icmp .le 12, 3) := by decide +kernel
theorem dX6_cruellest_62 : decode cX6_cruellest 62 = .ok (.iload 6, 2) := by decide +kernel
theorem dX6_cruellest_64 : decode cX6_cruellest 64 = .ok (.istore 4, 2) := by decide +kernel
theorem dX6_cruellest_66 : decode cX6_cruellest 66 = .ok (.iconst 1, 1) := by decide +kernel
theorem dX6_cruellest_67 : decode cX6_cruellest 67 = .ok (.iload 5, 2) := by decide +kernel
theorem dX6_cruellest_69 : decode cX6_cruellest 69 = .ok (.ishl, 1) := by decide +kernel
theorem dX6_cruellest_70 : decode cX6_cruellest 70 = .ok (.istore_n 3, 1) := by decide +kernel
theorem dX6_cruellest_71 : decode cX6_cruellest 71 = .ok (.iinc 5 1, 3) := by decide +kernel
theorem dX6_cruellest_74 : decode cX6_cruellest 74 = .ok (.goto (-66), 3) := by decide +kernel
theorem dX6_cruellest_77 : decode cX6_cruellest 77 = .ok (.iload_n 3, 1) := by decide +kernel
theorem dX6_cruellest_78 : decode cX6_cruellest 78 = .ok (.ireturn, 1) := by decide +kernel
theorem dX6_lastBehind_0 : decode cX6_lastBehind 0 = .ok (.iload_n 0, 1) := by decide +kernel
theorem dX6_lastBehind_1 : decode cX6_lastBehind 1 = .ok (.iconst 1, 1) := by decide +kernel
theorem dX6_lastBehind_2 : decode cX6_lastBehind 2 = .ok (.if_icmp .ne 14, 3) := by decide +kernel
theorem dX6_lastBehind_5 : decode cX6_lastBehind 5 = .ok (.iload_n 2, 1) := by decide +kernel
theorem dX6_lastBehind_6 : decode cX6_lastBehind 6 = .ok (.ifCond .eq 10, 3) := by decide +kernel
theorem dX6_lastBehind_9 : decode cX6_lastBehind 9 = .ok (.iload_n 2, 1) := by decide +kernel
theorem dX6_lastBehind_10 : decode cX6_lastBehind 10 = .ok (.invokestatic 229, 3) := by decide +kernel
theorem dX6_lastBehind_13 : decode cX6_lastBehind 13 = .ok (.goto 4, 3) := by decide +kernel
theorem dX6_lastBehind_16 : decode cX6_lastBehind 16 = .ok (.iload_n 1, 1) := by decide +kernel
theorem dX6_lastBehind_17 : decode cX6_lastBehind 17 = .ok (.ireturn, 1) := by decide +kernel
theorem dX6_state_0 : decode cX6_state 0 = .ok (.aload_n 0, 1) := by decide +kernel
theorem dX6_state_1 : decode cX6_state 1 = .ok (.getfield 19, 3) := by decide +kernel
theorem dX6_state_4 : decode cX6_state 4 = .ok (.iload_n 1, 1) := by decide +kernel
theorem dX6_state_5 : decode cX6_state 5 = .ok (.invokevirtual 110, 3) := by decide +kernel
theorem dX6_state_8 : decode cX6_state 8 = .ok (.ifCond .eq 12, 3) := by decide +kernel
theorem dX6_state_11 : decode cX6_state 11 = .ok (.iload_n 2, 1) := by decide +kernel
theorem dX6_state_12 : decode cX6_state 12 = .ok (.ifCond .lt 8, 3) := by decide +kernel
theorem dX6_state_15 : decode cX6_state 15 = .ok (.iload_n 2, 1) := by decide +kernel
theorem dX6_state_16 : decode cX6_state 16 = .ok (.iconst 3, 1) := by decide +kernel
theorem dX6_state_17 : decode cX6_state 17 = .ok (.if_icmp .le 5, 3) := by decide +kernel
theorem dX6_state_20 : decode cX6_state 20 = .ok (.iconst (-1), 1) := by decide +kernel
theorem dX6_state_21 : decode cX6_state 21 = .ok (.ireturn, 1) := by decide +kernel
theorem dX6_state_22 : decode cX6_state 22 = .ok (.iload_n 2, 1) := by decide +kernel
theorem dX6_state_23 : decode cX6_state 23 = .ok (.iconst 3, 1) := by decide +kernel
theorem dX6_state_24 : decode cX6_state 24 = .ok (.if_icmp .ne 20, 3) := by decide +kernel
theorem dX6_state_27 : decode cX6_state 27 = .ok (.aload_n 0, 1) := by decide +kernel
theorem dX6_state_28 : decode cX6_state 28 = .ok (.getfield 19, 3) := by decide +kernel
theorem dX6_state_31 : decode cX6_state 31 = .ok (.iload_n 1, 1) := by decide +kernel
theorem dX6_state_32 : decode cX6_state 32 = .ok (.invokevirtual 127, 3) := by decide +kernel
theorem dX6_state_35 : decode cX6_state 35 = .ok (.ifCond .eq 7, 3) := by decide +kernel
theorem dX6_state_38 : decode cX6_state 38 = .ok (.iconst 1, 1) := by decide +kernel
theorem dX6_state_39 : decode cX6_state 39 = .ok (.goto 4, 3) := by decide +kernel
theorem dX6_state_42 : decode cX6_state 42 = .ok (.iconst 0, 1) := by decide +kernel
theorem dX6_state_43 : decode cX6_state 43 = .ok (.ireturn, 1) := by decide +kernel
theorem dX6_state_44 : decode cX6_state 44 = .ok (.aload_n 0, 1) := by decide +kernel
theorem dX6_state_45 : decode cX6_state 45 = .ok (.getfield 29, 3) := by decide +kernel
theorem dX6_state_48 : decode cX6_state 48 = .ok (.aload_n 0, 1) := by decide +kernel
theorem dX6_state_49 : decode cX6_state 49 = .ok (.getfield 19, 3) := by decide +kernel
theorem dX6_state_52 : decode cX6_state 52 = .ok (.invokevirtual 155, 3) := by decide +kernel
theorem dX6_state_55 : decode cX6_state 55 = .ok (.iload_n 2, 1) := by decide +kernel
theorem dX6_state_56 : decode cX6_state 56 = .ok (.iconst 2, 1) := by decide +kernel
theorem dX6_state_57 : decode cX6_state 57 = .ok (.if_icmp .ne 12, 3) := by decide +kernel
theorem dX6_state_60 : decode cX6_state 60 = .ok (.aload_n 0, 1) := by decide +kernel
theorem dX6_state_61 : decode cX6_state 61 = .ok (.getfield 29, 3) := by decide +kernel
theorem dX6_state_64 : decode cX6_state 64 = .ok (.iload_n 1, 1) := by decide +kernel
theorem dX6_state_65 : decode cX6_state 65 = .ok (.invokevirtual 232, 3) := by decide +kernel
theorem dX6_state_68 : decode cX6_state 68 = .ok (.ireturn, 1) := by decide +kernel
theorem dX6_state_69 : decode cX6_state 69 = .ok (.iload_n 2, 1) := by decide +kernel
theorem dX6_state_70 : decode cX6_state 70 = .ok (.ifCond .ne 14, 3) := by decide +kernel
theorem dX6_state_73 : decode cX6_state 73 = .ok (.aload_n 0, 1) := by decide +kernel
theorem dX6_state_74 : decode cX6_state 74 = .ok (.getfield 29, 3) := by decide +kernel
theorem dX6_state_77 : decode cX6_state 77 = .ok (.iload_n 1, 1) := by decide +kernel
theorem dX6_state_78 : decode cX6_state 78 = .ok (.invokevirtual 223, 3) := by decide +kernel
theorem dX6_state_81 : decode cX6_state 81 = .ok (.goto 11, 3) := by decide +kernel
theorem dX6_state_84 : decode cX6_state 84 = .ok (.aload_n 0, 1) := by decide +kernel
theorem dX6_state_85 : decode cX6_state 85 = .ok (.getfield 29, 3) := by decide +kernel
theorem dX6_state_88 : decode cX6_state 88 = .ok (.iload_n 1, 1) := by decide +kernel
theorem dX6_state_89 : decode cX6_state 89 = .ok (.invokevirtual 235, 3) := by decide +kernel
theorem dX6_state_92 : decode cX6_state 92 = .ok (.ireturn, 1) := by decide +kernel
theorem dX6_all_0 : decode cX6_all 0 = .ok (.iload_n 1, 1) := by decide +kernel
theorem dX6_all_1 : decode cX6_all 1 = .ok (.ifCond .lt 9, 3) := by decide +kernel
theorem dX6_all_4 : decode cX6_all 4 = .ok (.iload_n 1, 1) := by decide +kernel
theorem dX6_all_5 : decode cX6_all 5 = .ok (.bipush 6, 2) := by decide +kernel
theorem dX6_all_7 : decode cX6_all 7 = .ok (.if_icmp .le 5, 3) := by decide +kernel
theorem dX6_all_10 : decode cX6_all 10 = .ok (.iconst (-1), 1) := by decide +kernel
theorem dX6_all_11 : decode cX6_all 11 = .ok (.ireturn, 1) := by decide +kernel
theorem dX6_all_12 : decode cX6_all 12 = .ok (.aload_n 0, 1) := by decide +kernel
theorem dX6_all_13 : decode cX6_all 13 = .ok (.getfield 29, 3) := by decide +kernel
theorem dX6_all_16 : decode cX6_all 16 = .ok (.aload_n 0, 1) := by decide +kernel
theorem dX6_all_17 : decode cX6_all 17 = .ok (.getfield 19, 3) := by decide +kernel
theorem dX6_all_20 : decode cX6_all 20 = .ok (.invokevirtual 155, 3) := by decide +kernel
theorem dX6_all_23 : decode cX6_all 23 = .ok (.iload_n 1, 1) := by decide +kernel
theorem dX6_all_24 : decode cX6_all 24 = .ok (.tableswitch 92 0 5 #[40, 48, 56, 64, 72, 84], 40) := by decide +kernel
theorem dX6_all_64 : decode cX6_all 64 = .ok (.aload_n 0, 1) := by decide +kernel
theorem dX6_all_65 : decode cX6_all 65 = .ok (.getfield 29, 3) := by decide +kernel
theorem dX6_all_68 : decode cX6_all 68 = .ok (.invokevirtual 238, 3) := by decide +kernel
theorem dX6_all_71 : decode cX6_all 71 = .ok (.ireturn, 1) := by decide +kernel
theorem dX6_all_72 : decode cX6_all 72 = .ok (.aload_n 0, 1) := by decide +kernel
theorem dX6_all_73 : decode cX6_all 73 = .ok (.getfield 29, 3) := by decide +kernel
theorem dX6_all_76 : decode cX6_all 76 = .ok (.invokevirtual 241, 3) := by decide +kernel
theorem dX6_all_79 : decode cX6_all 79 = .ok (.ireturn, 1) := by decide +kernel
theorem dX6_all_80 : decode cX6_all 80 = .ok (.aload_n 0, 1) := by decide +kernel
theorem dX6_all_81 : decode cX6_all 81 = .ok (.getfield 29, 3) := by decide +kernel
theorem dX6_all_84 : decode cX6_all 84 = .ok (.invokevirtual 244, 3) := by decide +kernel
theorem dX6_all_87 : decode cX6_all 87 = .ok (.ireturn, 1) := by decide +kernel
theorem dX6_all_88 : decode cX6_all 88 = .ok (.aload_n 0, 1) := by decide +kernel
theorem dX6_all_89 : decode cX6_all 89 = .ok (.getfield 29, 3) := by decide +kernel
theorem dX6_all_92 : decode cX6_all 92 = .ok (.invokevirtual 247, 3) := by decide +kernel
theorem dX6_all_95 : decode cX6_all 95 = .ok (.ireturn, 1) := by decide +kernel
theorem dX6_all_96 : decode cX6_all 96 = .ok (.aload_n 0, 1) := by decide +kernel
theorem dX6_all_97 : decode cX6_all 97 = .ok (.getfield 29, 3) := by decide +kernel
theorem dX6_all_100 : decode cX6_all 100 = .ok (.aload_n 0, 1) := by decide +kernel
theorem dX6_all_101 : decode cX6_all 101 = .ok (.getfield 19, 3) := by decide +kernel
theorem dX6_all_104 : decode cX6_all 104 = .ok (.invokevirtual 250, 3) := by decide +kernel
theorem dX6_all_107 : decode cX6_all 107 = .ok (.ireturn, 1) := by decide +kernel
theorem dX6_all_108 : decode cX6_all 108 = .ok (.aload_n 0, 1) := by decide +kernel
theorem dX6_all_109 : decode cX6_all 109 = .ok (.getfield 29, 3) := by decide +kernel
theorem dX6_all_112 : decode cX6_all 112 = .ok (.invokevirtual 253, 3) := by decide +kernel
theorem dX6_all_115 : decode cX6_all 115 = .ok (.ireturn, 1) := by decide +kernel
theorem dX6_all_116 : decode cX6_all 116 = .ok (.aload_n 0, 1) := by decide +kernel
theorem dX6_all_117 : decode cX6_all 117 = .ok (.getfield 29, 3) := by decide +kernel
theorem dX6_all_120 : decode cX6_all 120 = .ok (.invokevirtual 256, 3) := by decide +kernel
theorem dX6_all_123 : decode cX6_all 123 = .ok (.ireturn, 1) := by decide +kernel
theorem dX6_within_0 : decode cX6_within 0 = .ok (.iload_n 1, 1) := by decide +kernel
theorem dX6_within_1 : decode cX6_within 1 = .ok (.ifCond .lt 23, 3) := by decide +kernel
theorem dX6_within_4 : decode cX6_within 4 = .ok (.iload_n 1, 1) := by decide +kernel
theorem dX6_within_5 : decode cX6_within 5 = .ok (.aload_n 0, 1) := by decide +kernel
theorem dX6_within_6 : decode cX6_within 6 = .ok (.getfield 19, 3) := by decide +kernel
theorem dX6_within_9 : decode cX6_within 9 = .ok (.getfield 204, 3) := by decide +kernel
theorem dX6_within_12 : decode cX6_within 12 = .ok (.if_icmp .gt 12, 3) := by decide +kernel
theorem dX6_within_15 : decode cX6_within 15 = .ok (.iload_n 2, 1) := by decide +kernel
theorem dX6_within_16 : decode cX6_within 16 = .ok (.ifCond .lt 8, 3) := by decide +kernel
theorem dX6_within_19 : decode cX6_within 19 = .ok (.iload_n 2, 1) := by decide +kernel
theorem dX6_within_20 : decode cX6_within 20 = .ok (.iconst 1, 1) := by decide +kernel
theorem dX6_within_21 : decode cX6_within 21 = .ok (.if_icmp .le 5, 3) := by decide +kernel
theorem dX6_within_24 : decode cX6_within 24 = .ok (.iconst (-1), 1) := by decide +kernel
theorem dX6_within_25 : decode cX6_within 25 = .ok (.ireturn, 1) := by decide +kernel
theorem dX6_within_26 : decode cX6_within 26 = .ok (.aload_n 0, 1) := by decide +kernel
theorem dX6_within_27 : decode cX6_within 27 = .ok (.getfield 29, 3) := by decide +kernel
theorem dX6_within_30 : decode cX6_within 30 = .ok (.aload_n 0, 1) := by decide +kernel
theorem dX6_within_31 : decode cX6_within 31 = .ok (.getfield 19, 3) := by decide +kernel
theorem dX6_within_34 : decode cX6_within 34 = .ok (.invokevirtual 155, 3) := by decide +kernel
theorem dX6_within_37 : decode cX6_within 37 = .ok (.aload_n 0, 1) := by decide +kernel
theorem dX6_within_38 : decode cX6_within 38 = .ok (.getfield 29, 3) := by decide +kernel
theorem dX6_within_41 : decode cX6_within 41 = .ok (.iload_n 1, 1) := by decide +kernel
theorem dX6_within_42 : decode cX6_within 42 = .ok (.invokevirtual 259, 3) := by decide +kernel
theorem dX6_within_45 : decode cX6_within 45 = .ok (.istore_n 3, 1) := by decide +kernel
theorem dX6_within_46 : decode cX6_within 46 = .ok (.iload_n 3, 1) := by decide +kernel
theorem dX6_within_47 : decode cX6_within 47 = .ok (.ifCond .ne 6, 3) := by decide +kernel
theorem dX6_within_50 : decode cX6_within 50 = .ok (.bipush (-4), 2) := by decide +kernel
theorem dX6_within_52 : decode cX6_within 52 = .ok (.ireturn, 1) := by decide +kernel
theorem dX6_within_53 : decode cX6_within 53 = .ok (.iload_n 2, 1) := by decide +kernel
theorem dX6_within_54 : decode cX6_within 54 = .ok (.ifCond .ne 14, 3) := by decide +kernel
theorem dX6_within_57 : decode cX6_within 57 = .ok (.aload_n 0, 1) := by decide +kernel
theorem dX6_within_58 : decode cX6_within 58 = .ok (.getfield 29, 3) := by decide +kernel
theorem dX6_within_61 : decode cX6_within 61 = .ok (.iload_n 1, 1) := by decide +kernel
theorem dX6_within_62 : decode cX6_within 62 = .ok (.invokevirtual 262, 3) := by decide +kernel
theorem dX6_within_65 : decode cX6_within 65 = .ok (.goto 4, 3) := by decide +kernel
theorem dX6_within_68 : decode cX6_within 68 = .ok (.iload_n 3, 1) := by decide +kernel
theorem dX6_within_69 : decode cX6_within 69 = .ok (.ireturn, 1) := by decide +kernel
theorem dX6_count_0 : decode cX6_count 0 = .ok (.iload_n 1, 1) := by decide +kernel
theorem dX6_count_1 : decode cX6_count 1 = .ok (.tableswitch 108 0 7 #[47, 55, 63, 71, 79, 87, 95, 103], 47) := by decide +kernel
theorem dX6_count_48 : decode cX6_count 48 = .ok (.aload_n 0, 1) := by decide +kernel
theorem dX6_count_49 : decode cX6_count 49 = .ok (.getfield 19, 3) := by decide +kernel
theorem dX6_count_52 : decode cX6_count 52 = .ok (.getfield 130, 3) := by decide +kernel
theorem dX6_count_55 : decode cX6_count 55 = .ok (.ireturn, 1) := by decide +kernel
theorem dX6_count_56 : decode cX6_count 56 = .ok (.aload_n 0, 1) := by decide +kernel
theorem dX6_count_57 : decode cX6_count 57 = .ok (.getfield 19, 3) := by decide +kernel
theorem dX6_count_60 : decode cX6_count 60 = .ok (.getfield 204, 3) := by decide +kernel
theorem dX6_count_63 : decode cX6_count 63 = .ok (.ireturn, 1) := by decide +kernel
theorem dX6_count_64 : decode cX6_count 64 = .ok (.aload_n 0, 1) := by decide +kernel
theorem dX6_count_65 : decode cX6_count 65 = .ok (.getfield 19, 3) := by decide +kernel
theorem dX6_count_68 : decode cX6_count 68 = .ok (.getfield 265, 3) := by decide +kernel
theorem dX6_count_71 : decode cX6_count 71 = .ok (.ireturn, 1) := by decide +kernel
theorem dX6_count_72 : decode cX6_count 72 = .ok (.aload_n 0, 1) := by decide +kernel
theorem dX6_count_73 : decode cX6_count 73 = .ok (.getfield 19, 3) := by decide +kernel
theorem dX6_count_76 : decode cX6_count 76 = .ok (.getfield 268, 3) := by decide +kernel
theorem dX6_count_79 : decode cX6_count 79 = .ok (.ireturn, 1) := by decide +kernel
theorem dX6_count_80 : decode cX6_count 80 = .ok (.aload_n 0, 1) := by decide +kernel
theorem dX6_count_81 : decode cX6_count 81 = .ok (.getfield 19, 3) := by decide +kernel
theorem dX6_count_84 : decode cX6_count 84 = .ok (.getfield 71, 3) := by decide +kernel
theorem dX6_count_87 : decode cX6_count 87 = .ok (.ireturn, 1) := by decide +kernel
theorem dX6_count_88 : decode cX6_count 88 = .ok (.aload_n 0, 1) := by decide +kernel
theorem dX6_count_89 : decode cX6_count 89 = .ok (.getfield 36, 3) := by decide +kernel
theorem dX6_count_92 : decode cX6_count 92 = .ok (.invokevirtual 139, 3) := by decide +kernel
theorem dX6_count_95 : decode cX6_count 95 = .ok (.ireturn, 1) := by decide +kernel
theorem dX6_count_96 : decode cX6_count 96 = .ok (.aload_n 0, 1) := by decide +kernel
theorem dX6_count_97 : decode cX6_count 97 = .ok (.getfield 10, 3) := by decide +kernel
theorem dX6_count_100 : decode cX6_count 100 = .ok (.invokevirtual 66, 3) := by decide +kernel
theorem dX6_count_103 : decode cX6_count 103 = .ok (.ireturn, 1) := by decide +kernel
theorem dX6_count_104 : decode cX6_count 104 = .ok (.aload_n 0, 1) := by decide +kernel
theorem dX6_count_105 : decode cX6_count 105 = .ok (.getfield 85, 3) := by decide +kernel
theorem dX6_count_108 : decode cX6_count 108 = .ok (.ireturn, 1) := by decide +kernel
theorem dX6_count_109 : decode cX6_count 109 = .ok (.iconst (-1), 1) := by decide +kernel
theorem dX6_count_110 : decode cX6_count 110 = .ok (.ireturn, 1) := by decide +kernel
theorem dX7_init_0 : decode cX7_init 0 = .ok (.aload_n 0, 1) := by decide +kernel
theorem dX7_init_1 : decode cX7_init 1 = .ok (.invokespecial 1, 3) := by decide +kernel
theorem dX7_init_4 : decode cX7_init 4 = .ok (.aload_n 0, 1) := by decide +kernel
theorem dX7_init_5 : decode cX7_init 5 = .ok (.sipush 200, 3) := by decide +kernel
theorem dX7_init_8 : decode cX7_init 8 = .ok (.newarray .int, 2) := by decide +kernel
theorem dX7_init_10 : decode cX7_init 10 = .ok (.putfield 7, 3) := by decide +kernel
theorem dX7_init_13 : decode cX7_init 13 = .ok (.aload_n 0, 1) := by decide +kernel
theorem dX7_init_14 : decode cX7_init 14 = .ok (.bipush 36, 2) := by decide +kernel
theorem dX7_init_16 : decode cX7_init 16 = .ok (.newarray .int, 2) := by decide +kernel
theorem dX7_init_18 : decode cX7_init 18 = .ok (.putfield 13, 3) := by decide +kernel
theorem dX7_init_21 : decode cX7_init 21 = .ok (.aload_n 0, 1) := by decide +kernel
theorem dX7_init_22 : decode cX7_init 22 = .ok (.bipush 6, 2) := by decide +kernel
theorem dX7_init_24 : decode cX7_init 24 = .ok (.newarray .int, 2) := by decide +kernel
theorem dX7_init_26 : decode cX7_init 26 = .ok (.putfield 16, 3) := by decide +kernel
theorem dX7_init_29 : decode cX7_init 29 = .ok (.aload_n 0, 1) := by decide +kernel
theorem dX7_init_30 : decode cX7_init 30 = .ok (.bipush 6, 2) := by decide +kernel
theorem dX7_init_32 : decode cX7_init 32 = .ok (.newarray .int, 2) := by decide +kernel
theorem dX7_init_34 : decode cX7_init 34 = .ok (.putfield 19, 3) := by decide +kernel
theorem dX7_init_37 : decode cX7_init 37 = .ok (.aload_n 0, 1) := by decide +kernel
theorem dX7_init_38 : decode cX7_init 38 = .ok (.bipush 36, 2) := by decide +kernel
theorem dX7_init_40 : decode cX7_init 40 = .ok (.newarray .int, 2) := by decide +kernel
theorem dX7_init_42 : decode cX7_init 42 = .ok (.putfield 22, 3) := by decide +kernel
theorem dX7_init_45 : decode cX7_init 45 = .ok (.aload_n 0, 1) := by decide +kernel
theorem dX7_init_46 : decode cX7_init 46 = .ok (.bipush 6, 2) := by decide +kernel
theorem dX7_init_48 : decode cX7_init 48 = .ok (.newarray .int, 2) := by decide +kernel
theorem dX7_init_50 : decode cX7_init 50 = .ok (.putfield 25, 3) := by decide +kernel
theorem dX7_init_53 : decode cX7_init 53 = .ok (.aload_n 0, 1) := by decide +kernel
theorem dX7_init_54 : decode cX7_init 54 = .ok (.bipush 6, 2) := by decide +kernel
theorem dX7_init_56 : decode cX7_init 56 = .ok (.newarray .int, 2) := by decide +kernel
theorem dX7_init_58 : decode cX7_init 58 = .ok (.putfield 28, 3) := by decide +kernel
theorem dX7_init_61 : decode cX7_init 61 = .ok (.aload_n 0, 1) := by decide +kernel
theorem dX7_init_62 : decode cX7_init 62 = .ok (.bipush 6, 2) := by decide +kernel
theorem dX7_init_64 : decode cX7_init 64 = .ok (.newarray .int, 2) := by decide +kernel
theorem dX7_init_66 : decode cX7_init 66 = .ok (.putfield 31, 3) := by decide +kernel
theorem dX7_init_69 : decode cX7_init 69 = .ok (.aload_n 0, 1) := by decide +kernel
theorem dX7_init_70 : decode cX7_init 70 = .ok (.sipush 4096, 3) := by decide +kernel
theorem dX7_init_73 : decode cX7_init 73 = .ok (.newarray .int, 2) := by decide +kernel
theorem dX7_init_75 : decode cX7_init 75 = .ok (.putfield 34, 3) := by decide +kernel
theorem dX7_init_78 : decode cX7_init 78 = .ok (.aload_n 0, 1) := by decide +kernel
theorem dX7_init_79 : decode cX7_init 79 = .ok (.sipush 4096, 3) := by decide +kernel
theorem dX7_init_82 : decode cX7_init 82 = .ok (.newarray .int, 2) := by decide +kernel
theorem dX7_init_84 : decode cX7_init 84 = .ok (.putfield 37, 3) := by decide +kernel
theorem dX7_init_87 : decode cX7_init 87 = .ok (.aload_n 0, 1) := by decide +kernel
theorem dX7_init_88 : decode cX7_init 88 = .ok (.sipush 4096, 3) := by decide +kernel
theorem dX7_init_91 : decode cX7_init 91 = .ok (.newarray .int, 2) := by decide +kernel
theorem dX7_init_93 : decode cX7_init 93 = .ok (.putfield 40, 3) := by decide +kernel
theorem dX7_init_96 : decode cX7_init 96 = .ok (.aload_n 0, 1) := by decide +kernel
theorem dX7_init_97 : decode cX7_init 97 = .ok (.bipush 6, 2) := by decide +kernel
theorem dX7_init_99 : decode cX7_init 99 = .ok (.newarray .int, 2) := by decide +kernel
theorem dX7_init_101 : decode cX7_init 101 = .ok (.putfield 43, 3) := by decide +kernel
theorem dX7_init_104 : decode cX7_init 104 = .ok (.aload_n 0, 1) := by decide +kernel
theorem dX7_init_105 : decode cX7_init 105 = .ok (.bipush 6, 2) := by decide +kernel
theorem dX7_init_107 : decode cX7_init 107 = .ok (.newarray .int, 2) := by decide +kernel
theorem dX7_init_109 : decode cX7_init 109 = .ok (.putfield 46, 3) := by decide +kernel
theorem dX7_init_112 : decode cX7_init 112 = .ok (.aload_n 0, 1) := by decide +kernel
theorem dX7_init_113 : decode cX7_init 113 = .ok (.iconst 1, 1) := by decide +kernel
theorem dX7_init_114 : decode cX7_init 114 = .ok (.putfield 49, 3) := by decide +kernel
theorem dX7_init_117 : decode cX7_init 117 = .ok (.aload_n 0, 1) := by decide +kernel
theorem dX7_init_118 : decode cX7_init 118 = .ok (.iconst 4, 1) := by decide +kernel
theorem dX7_init_119 : decode cX7_init 119 = .ok (.putfield 53, 3) := by decide +kernel
theorem dX7_init_122 : decode cX7_init 122 = .ok (.aload_n 0, 1) := by decide +kernel
theorem dX7_init_123 : decode cX7_init 123 = .ok (.iconst 5, 1) := by decide +kernel
theorem dX7_init_124 : decode cX7_init 124 = .ok (.putfield 56, 3) := by decide +kernel
theorem dX7_init_127 : decode cX7_init 127 = .ok (.aload_n 0, 1) := by decide +kernel
theorem dX7_init_128 : decode cX7_init 128 = .ok (.invokevirtual 59, 3) := by decide +kernel
theorem dX7_init_131 : decode cX7_init 131 = .ok (.aload_n 0, 1) := by decide +kernel
theorem dX7_init_132 : decode cX7_init 132 = .ok (.getfield 19, 3) := by decide +kernel
theorem dX7_init_135 : decode cX7_init 135 = .ok (.iconst 0, 1) := by decide +kernel
theorem dX7_init_136 : decode cX7_init 136 = .ok (.iconst 3, 1) := by decide +kernel
theorem dX7_init_137 : decode cX7_init 137 = .ok (.iastore, 1) := by decide +kernel
theorem dX7_init_138 : decode cX7_init 138 = .ok (.aload_n 0, 1) := by decide +kernel
theorem dX7_init_139 : decode cX7_init 139 = .ok (.getfield 19, 3) := by decide +kernel
theorem dX7_init_142 : decode cX7_init 142 = .ok (.iconst 1, 1) := by decide +kernel
theorem dX7_init_143 : decode cX7_init 143 = .ok (.iconst 1, 1) := by decide +kernel
theorem dX7_init_144 : decode cX7_init 144 = .ok (.iastore, 1) := by decide +kernel
theorem dX7_init_145 : decode cX7_init 145 = .ok (.aload_n 0, 1) := by decide +kernel
theorem dX7_init_146 : decode cX7_init 146 = .ok (.getfield 19, 3) := by decide +kernel
theorem dX7_init_149 : decode cX7_init 149 = .ok (.iconst 2, 1) := by decide +kernel
theorem dX7_init_150 : decode cX7_init 150 = .ok (.iconst 4, 1) := by decide +kernel
theorem dX7_init_151 : decode cX7_init 151 = .ok (.iastore, 1) := by decide +kernel
theorem dX7_init_152 : decode cX7_init 152 = .ok (.aload_n 0, 1) := by decide +kernel
theorem dX7_init_153 : decode cX7_init 153 = .ok (.getfield 19, 3) := by decide +kernel
theorem dX7_init_156 : decode cX7_init 156 = .ok (.iconst 3, 1) := by decide +kernel
theorem dX7_init_157 : decode cX7_init 157 = .ok (.iconst 2, 1) := by decide +kernel
theorem dX7_init_158 : decode cX7_init 158 = .ok (.iastore, 1) := by decide +kernel
theorem dX7_init_159 : decode cX7_init 159 = .ok (.return_, 1) := by decide +kernel
theorem dX7_begins_0 : decode cX7_begins 0 = .ok (.aload_n 0, 1) := by decide +kernel
theorem dX7_begins_1 : decode cX7_begins 1 = .ok (.iconst 1, 1) := by decide +kernel
theorem dX7_begins_2 : decode cX7_begins 2 = .ok (.putfield 62, 3) := by decide +kernel
theorem dX7_begins_5 : decode cX7_begins 5 = .ok (.iconst 0, 1) := by decide +kernel
theorem dX7_begins_6 : decode cX7_begins 6 = .ok (.istore_n 1, 1) := by decide +kernel
theorem dX7_begins_7 : decode cX7_begins 7 = .ok (.iload_n 1, 1) := by decide +kernel
theorem dX7_begins_8 : decode cX7_begins 8 = .ok (.aload_n 0, 1) := by decide +kernel
theorem dX7_begins_9 : decode cX7_begins 9 = .ok (.getfield 53, 3) := by decide +kernel
theorem dX7_begins_12 : decode cX7_begins 12 = .ok (.if_icmp .ge 32, 3) := by decide +kernel
theorem dX7_begins_15 : decode cX7_begins 15 = .ok (.aload_n 0, 1) := by decide +kernel
theorem dX7_begins_16 : decode cX7_begins 16 = .ok (.getfield 16, 3) := by decide +kernel
theorem dX7_begins_19 : decode cX7_begins 19 = .ok (.iload_n 1, 1) := by decide +kernel
theorem dX7_begins_20 : decode cX7_begins 20 = .ok (.aload_n 0, 1) := by decide +kernel
theorem dX7_begins_21 : decode cX7_begins 21 = .ok (.getfield 62, 3) := by decide +kernel
theorem dX7_begins_24 : decode cX7_begins 24 = .ok (.iastore, 1) := by decide +kernel
theorem dX7_begins_25 : decode cX7_begins 25 = .ok (.aload_n 0, 1) := by decide +kernel
theorem dX7_begins_26 : decode cX7_begins 26 = .ok (.dup, 1) := by decide +kernel
theorem dX7_begins_27 : decode cX7_begins 27 = .ok (.getfield 62, 3) := by decide +kernel
theorem dX7_begins_30 : decode cX7_begins 30 = .ok (.aload_n 0, 1) := by decide +kernel
theorem dX7_begins_31 : decode cX7_begins 31 = .ok (.getfield 56, 3) := by decide +kernel
theorem dX7_begins_34 : decode cX7_begins 34 = .ok (.imul, 1) := by decide +kernel
theorem dX7_begins_35 : decode cX7_begins 35 = .ok (.putfield 62, 3) := by decide +kernel
theorem dX7_begins_38 : decode cX7_begins 38 = .ok (.iinc 1 1, 3) := by decide +kernel
theorem dX7_begins_41 : decode cX7_begins 41 = .ok (.goto (-34), 3) := by decide +kernel
theorem dX7_begins_44 : decode cX7_begins 44 = .ok (.aload_n 0, 1) := by decide +kernel
theorem dX7_begins_45 : decode cX7_begins 45 = .ok (.bipush (-4), 2) := by decide +kernel
theorem dX7_begins_47 : decode cX7_begins 47 = .ok (.putfield 65, 3) := by decide +kernel
theorem dX7_begins_50 : decode cX7_begins 50 = .ok (.aload_n 0, 1) := by decide +kernel
theorem dX7_begins_51 : decode cX7_begins 51 = .ok (.iconst 0, 1) := by decide +kernel
theorem dX7_begins_52 : decode cX7_begins 52 = .ok (.putfield 68, 3) := by decide +kernel
theorem dX7_begins_55 : decode cX7_begins 55 = .ok (.aload_n 0, 1) := by decide +kernel
theorem dX7_begins_56 : decode cX7_begins 56 = .ok (.iconst 0, 1) := by decide +kernel
theorem dX7_begins_57 : decode cX7_begins 57 = .ok (.putfield 71, 3) := by decide +kernel
theorem dX7_begins_60 : decode cX7_begins 60 = .ok (.return_, 1) := by decide +kernel
theorem dX7_isIn_0 : decode cX7_isIn 0 = .ok (.iload_n 0, 1) := by decide +kernel
theorem dX7_isIn_1 : decode cX7_isIn 1 = .ok (.iload_n 1, 1) := by decide +kernel
theorem dX7_isIn_2 : decode cX7_isIn 2 = .ok (.if_icmp .lt 12, 3) := by decide +kernel
theorem dX7_isIn_5 : decode cX7_isIn 5 = .ok (.iload_n 0, 1) := by decide +kernel
theorem dX7_isIn_6 : decode cX7_isIn 6 = .ok (.iload_n 2, 1) := by decide +kernel
theorem dX7_isIn_7 : decode cX7_isIn 7 = .ok (.if_icmp .gt 7, 3) := by decide +kernel
theorem dX7_isIn_10 : decode cX7_isIn 10 = .ok (.iconst 1, 1) := by decide +kernel
theorem dX7_isIn_11 : decode cX7_isIn 11 = .ok (.goto 4, 3) := by decide +kernel
theorem dX7_isIn_14 : decode cX7_isIn 14 = .ok (.iconst 0, 1) := by decide +kernel
theorem dX7_isIn_15 : decode cX7_isIn 15 = .ok (.ireturn, 1) := by decide +kernel
theorem dX7_letterAt_0 : decode cX7_letterAt 0 = .ok (.iload_n 1, 1) := by decide +kernel
theorem dX7_letterAt_1 : decode cX7_letterAt 1 = .ok (.aload_n 0, 1) := by decide +kernel
theorem dX7_letterAt_2 : decode cX7_letterAt 2 = .ok (.getfield 75, 3) := by decide +kernel
theorem dX7_letterAt_5 : decode cX7_letterAt 5 = .ok (.if_icmp .ge 12, 3) := by decide +kernel
theorem dX7_letterAt_8 : decode cX7_letterAt 8 = .ok (.aload_n 0, 1) := by decide +kernel
theorem dX7_letterAt_9 : decode cX7_letterAt 9 = .ok (.getfield 7, 3) := by decide +kernel
theorem dX7_letterAt_12 : decode cX7_letterAt 12 = .ok (.iload_n 1, 1) := by decide +kernel
theorem dX7_letterAt_13 : decode cX7_letterAt 13 = .ok (.iaload, 1) := by decide +kernel
theorem dX7_letterAt_14 : decode cX7_letterAt 14 = .ok (.goto 4, 3) := by decide +kernel
theorem dX7_letterAt_17 : decode cX7_letterAt 17 = .ok (.iconst 0, 1) := by decide +kernel
theorem dX7_letterAt_18 : decode cX7_letterAt 18 = .ok (.ireturn, 1) := by decide +kernel
theorem dX7_figure_0 : decode cX7_figure 0 = .ok (.aload_n 0, 1) := by decide +kernel
theorem dX7_figure_1 : decode cX7_figure 1 = .ok (.iload_n 1, 1) := by decide +kernel
theorem dX7_figure_2 : decode cX7_figure 2 = .ok (.invokevirtual 78, 3) := by decide +kernel
theorem dX7_figure_5 : decode cX7_figure 5 = .ok (.istore_n 2, 1) := by decide +kernel
theorem dX7_figure_6 : decode cX7_figure 6 = .ok (.iload_n 2, 1) := by decide +kernel
theorem dX7_figure_7 : decode cX7_figure 7 = .ok (.bipush 48, 2) := by decide +kernel
theorem dX7_figure_9 : decode cX7_figure 9 = .ok (.if_icmp .lt 16, 3) := by decide +kernel
theorem dX7_figure_12 : decode cX7_figure 12 = .ok (.iload_n 2, 1) := by decide +kernel
theorem dX7_figure_13 : decode cX7_figure 13 = .ok (.bipush 57, 2) := by decide +kernel
theorem dX7_figure_15 : decode cX7_figure 15 = .ok (.if_icmp .gt 10, 3) := by decide +kernel
theorem dX7_figure_18 : decode cX7_figure 18 = .ok (.iload_n 2, 1) := by decide +kernel
theorem dX7_figure_19 : decode cX7_figure 19 = .ok (.bipush 48, 2) := by decide +kernel
theorem dX7_figure_21 : decode cX7_figure 21 = .ok (.isub, 1) := by decide +kernel
theorem dX7_figure_22 : decode cX7_figure 22 = .ok (.goto 4, 3) := by decide +kernel
theorem dX7_figure_25 : decode cX7_figure 25 = .ok (.iconst (-1), 1) := by decide +kernel
theorem dX7_figure_26 : decode cX7_figure 26 = .ok (.ireturn, 1) := by decide +kernel
theorem dX7_readsNet_0 : decode cX7_readsNet 0 = .ok (.aload_n 0, 1) := by decide +kernel
theorem dX7_readsNet_1 : decode cX7_readsNet 1 = .ok (.iload_n 1, 1) := by decide +kernel
theorem dX7_readsNet_2 : decode cX7_readsNet 2 = .ok (.invokevirtual 82, 3) := by decide +kernel
theorem dX7_readsNet_5 : decode cX7_readsNet 5 = .ok (.istore_n 2, 1) := by decide +kernel
theorem dX7_readsNet_6 : decode cX7_readsNet 6 = .ok (.aload_n 0, 1) := by decide +kernel
theorem dX7_readsNet_7 : decode cX7_readsNet 7 = .ok (.iload_n 1, 1) := by decide +kernel
theorem dX7_readsNet_8 : decode cX7_readsNet 8 = .ok (.iconst 1, 1) := by decide +kernel
theorem dX7_readsNet_9 : decode cX7_readsNet 9 = .ok (.iadd, 1) := by decide +kernel
theorem dX7_readsNet_10 : decode cX7_readsNet 10 = .ok (.invokevirtual 82, 3) := by decide +kernel
theorem dX7_readsNet_13 : decode cX7_readsNet 13 = .ok (.istore_n 3, 1) := by decide +kernel
theorem dX7_readsNet_14 : decode cX7_readsNet 14 = .ok (.aload_n 0, 1) := by decide +kernel
theorem dX7_readsNet_15 : decode cX7_readsNet 15 = .ok (.iload_n 1, 1) := by decide +kernel
theorem dX7_readsNet_16 : decode cX7_readsNet 16 = .ok (.iconst 2, 1) := by decide +kernel
theorem dX7_readsNet_17 : decode cX7_readsNet 17 = .ok (.iadd, 1) := by decide +kernel
theorem dX7_readsNet_18 : decode cX7_readsNet 18 = .ok (.invokevirtual 82, 3) := by decide +kernel
theorem dX7_readsNet_21 : decode cX7_readsNet 21 = .ok (.istore 4, 2) := by decide +kernel
theorem dX7_readsNet_23 : decode cX7_readsNet 23 = .ok (.aload_n 0, 1) := by decide +kernel
theorem dX7_readsNet_24 : decode cX7_readsNet 24 = .ok (.getfield 85, 3) := by decide +kernel
theorem dX7_readsNet_27 : decode cX7_readsNet 27 = .ok (.ifCond .gt 33, 3) := by decide +kernel
theorem dX7_readsNet_30 : decode cX7_readsNet 30 = .ok (.iload_n 2, 1) := by decide +kernel
theorem dX7_readsNet_31 : decode cX7_readsNet 31 = .ok (.iconst 1, 1) := by decide +kernel
theorem dX7_readsNet_32 : decode cX7_readsNet 32 = .ok (.iconst 4, 1) := by decide +kernel
theorem dX7_readsNet_33 : decode cX7_readsNet 33 = .ok (.invokestatic 88, 3) := by decide +kernel
theorem dX7_readsNet_36 : decode cX7_readsNet 36 = .ok (.ifCond .eq 24, 3) := by decide +kernel
theorem dX7_readsNet_39 : decode cX7_readsNet 39 = .ok (.iload_n 3, 1) := by decide +kernel
theorem dX7_readsNet_40 : decode cX7_readsNet 40 = .ok (.iconst 2, 1) := by decide +kernel
theorem dX7_readsNet_41 : decode cX7_readsNet 41 = .ok (.bipush 6, 2) := by decide +kernel
theorem dX7_readsNet_43 : decode cX7_readsNet 43 = .ok (.invokestatic 88, 3) := by decide +kernel
theorem dX7_readsNet_46 : decode cX7_readsNet 46 = .ok (.ifCond .eq 14, 3) := by decide +kernel
theorem dX7_readsNet_49 : decode cX7_readsNet 49 = .ok (.iload 4, 2) := by decide +kernel
theorem dX7_readsNet_51 : decode cX7_readsNet 51 = .ok (.iconst 2, 1) := by decide +kernel
theorem dX7_readsNet_52 : decode cX7_readsNet 52 = .ok (.bipush 7, 2) := by decide +kernel
theorem dX7_readsNet_54 : decode cX7_readsNet 54 = .ok (.invokestatic 88, 3) := by decide +kernel
theorem dX7_readsNet_57 : decode cX7_readsNet 57 = .ok (.ifCond .ne 5, 3) := by decide +kernel
theorem dX7_readsNet_60 : decode cX7_readsNet 60 = .ok (.iconst 0, 1) := by decide +kernel
theorem dX7_readsNet_61 : decode cX7_readsNet 61 = .ok (.ireturn, 1) := by decide +kernel
theorem dX7_readsNet_62 : decode cX7_readsNet 62 = .ok (.iconst 1, 1) := by decide +kernel
theorem dX7_readsNet_63 : decode cX7_readsNet 63 = .ok (.istore 5, 2) := by decide +kernel
theorem dX7_readsNet_65 : decode cX7_readsNet 65 = .ok (.iconst 0, 1) := by decide +kernel
theorem dX7_readsNet_66 : decode cX7_readsNet 66 = .ok (.istore 6, 2) := by decide +kernel
theorem dX7_readsNet_68 : decode cX7_readsNet 68 = .ok (.iload 6, 2) := by decide +kernel
theorem dX7_readsNet_70 : decode cX7_readsNet 70 = .ok (.iload_n 3, 1) := by decide +kernel
theorem dX7_readsNet_71 : decode cX7_readsNet 71 = .ok (.if_icmp .ge 16, 3) := by decide +kernel
theorem dX7_readsNet_74 : decode cX7_readsNet 74 = .ok (.iload 5, 2) := by decide +kernel
theorem dX7_readsNet_76 : decode cX7_readsNet 76 = .ok (.iload 4, 2) := by decide +kernel
theorem dX7_readsNet_78 : decode cX7_readsNet 78 = .ok (.imul, 1) := by decide +kernel
theorem dX7_readsNet_79 : decode cX7_readsNet 79 = .ok (.istore 5, 2) := by decide +kernel
theorem dX7_readsNet_81 : decode cX7_readsNet 81 = .ok (.iinc 6 1, 3) := by decide +kernel
theorem dX7_readsNet_84 : decode cX7_readsNet 84 = .ok (.goto (-16), 3) := by decide +kernel
theorem dX7_readsNet_87 : decode cX7_readsNet 87 = .ok (.aload_n 0, 1) := by decide +kernel
theorem dX7_readsNet_88 : decode cX7_readsNet 88 = .ok (.iload_n 2, 1) := by decide +kernel
theorem dX7_readsNet_89 : decode cX7_readsNet 89 = .ok (.putfield 85, 3) := by decide +kernel
theorem dX7_readsNet_92 : decode cX7_readsNet 92 = .ok (.aload_n 0, 1) := by decide +kernel
theorem dX7_readsNet_93 : decode cX7_readsNet 93 = .ok (.iload_n 3, 1) := by decide +kernel
theorem dX7_readsNet_94 : decode cX7_readsNet 94 = .ok (.putfield 92, 3) := by decide +kernel
theorem dX7_readsNet_97 : decode cX7_readsNet 97 = .ok (.aload_n 0, 1) := by decide +kernel
theorem dX7_readsNet_98 : decode cX7_readsNet 98 = .ok (.iload 4, 2) := by decide +kernel
theorem dX7_readsNet_100 : decode cX7_readsNet 100 = .ok (.putfield 95, 3) := by decide +kernel
theorem dX7_readsNet_103 : decode cX7_readsNet 103 = .ok (.iload 5, 2) := by decide +kernel
theorem dX7_readsNet_105 : decode cX7_readsNet 105 = .ok (.sipush 4096, 3) := by decide +kernel
theorem dX7_readsNet_108 : decode cX7_readsNet 108 = .ok (.if_icmp .gt 31, 3) := by decide +kernel
theorem dX7_readsNet_111 : decode cX7_readsNet 111 = .ok (.iload_n 2, 1) := by decide +kernel
theorem dX7_readsNet_112 : decode cX7_readsNet 112 = .ok (.iconst 2, 1) := by decide +kernel
theorem dX7_readsNet_113 : decode cX7_readsNet 113 = .ok (.if_icmp .ne 11, 3) := by decide +kernel
theorem dX7_readsNet_116 : decode cX7_readsNet 116 = .ok (.iload 4, 2) := by decide +kernel
theorem dX7_readsNet_118 : decode cX7_readsNet 118 = .ok (.iload_n 3, 1) := by decide +kernel
theorem dX7_readsNet_119 : decode cX7_readsNet 119 = .ok (.iconst 1, 1) := by decide +kernel
theorem dX7_readsNet_120 : decode cX7_readsNet 120 = .ok (.iadd, 1) := by decide +kernel
theorem dX7_readsNet_121 : decode cX7_readsNet 121 = .ok (.if_icmp .ne 18, 3) := by decide +kernel
theorem dX7_readsNet_124 : decode cX7_readsNet 124 = .ok (.iload_n 2, 1) := by decide +kernel
theorem dX7_readsNet_125 : decode cX7_readsNet 125 = .ok (.iconst 3, 1) := by decide +kernel
theorem dX7_readsNet_126 : decode cX7_readsNet 126 = .ok (.if_icmp .ne 9, 3) := by decide +kernel
theorem dX7_readsNet_129 : decode cX7_readsNet 129 = .ok (.iload 4, 2) := by decide +kernel
theorem dX7_readsNet_131 : decode cX7_readsNet 131 = .ok (.iload_n 3, 1) := by decide +kernel
theorem dX7_readsNet_132 : decode cX7_readsNet 132 = .ok (.if_icmp .lt 7, 3) := by decide +kernel
theorem dX7_readsNet_135 : decode cX7_readsNet 135 = .ok (.iconst 1, 1) := by decide +kernel
theorem dX7_readsNet_136 : decode cX7_readsNet 136 = .ok (.goto 4, 3) := by decide +kernel
theorem dX7_readsNet_139 : decode cX7_readsNet 139 = .ok (.iconst 0, 1) := by decide +kernel
theorem dX7_readsNet_140 : decode cX7_readsNet 140 = .ok (.ireturn, 1) := by decide +kernel
theorem dX7_readsItem_0 : decode cX7_readsItem 0 = .ok (.iload_n 1, 1) := by decide +kernel
theorem dX7_readsItem_1 : decode cX7_readsItem 1 = .ok (.bipush 103, 2) := by decide +kernel
theorem dX7_readsItem_3 : decode cX7_readsItem 3 = .ok (.if_icmp .ne 19, 3) := by decide +kernel
theorem dX7_readsItem_6 : decode cX7_readsItem 6 = .ok (.aload_n 0, 1) := by decide +kernel
theorem dX7_readsItem_7 : decode cX7_readsItem 7 = .ok (.iload_n 2, 1) := by decide +kernel
theorem dX7_readsItem_8 : decode cX7_readsItem 8 = .ok (.invokevirtual 98, 3) := by decide +kernel
theorem dX7_readsItem_11 : decode cX7_readsItem 11 = .ok (.ifCond .eq 9, 3) := by decide +kernel
theorem dX7_readsItem_14 : decode cX7_readsItem 14 = .ok (.iload_n 2, 1) := by decide +kernel
theorem dX7_readsItem_15 : decode cX7_readsItem 15 = .ok (.iconst 3, 1) := by decide +kernel
theorem dX7_readsItem_16 : decode cX7_readsItem 16 = .ok (.iadd, 1) := by decide +kernel
theorem dX7_readsItem_17 : decode cX7_readsItem 17 = .ok (.goto 4, 3) := by decide +kernel
theorem dX7_readsItem_20 : decode cX7_readsItem 20 = .ok (.iconst (-1), 1) := by decide +kernel
theorem dX7_readsItem_21 : decode cX7_readsItem 21 = .ok (.ireturn, 1) := by decide +kernel
theorem dX7_readsItem_22 : decode cX7_readsItem 22 = .ok (.aload_n 0, 1) := by decide +kernel
theorem dX7_readsItem_23 : decode cX7_readsItem 23 = .ok (.getfield 85, 3) := by decide +kernel
theorem dX7_readsItem_26 : decode cX7_readsItem 26 = .ok (.ifCond .ne 5, 3) := by decide +kernel
theorem dX7_readsItem_29 : decode cX7_readsItem 29 = .ok (.iconst (-1), 1) := by decide +kernel
theorem dX7_readsItem_30 : decode cX7_readsItem 30 = .ok (.ireturn, 1) := by decide +kernel
theorem dX7_readsItem_31 : decode cX7_readsItem 31 = .ok (.aload_n 0, 1) := by decide +kernel
