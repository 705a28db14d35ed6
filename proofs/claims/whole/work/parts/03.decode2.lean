theorem dX7_readsItem_32 : decode cX7_readsItem 32 = .ok (.iload_n 2, 1) := by decide +kernel
theorem dX7_readsItem_33 : decode cX7_readsItem 33 = .ok (.invokevirtual 82, 3) := by decide +kernel
theorem dX7_readsItem_36 : decode cX7_readsItem 36 = .ok (.istore_n 3, 1) := by decide +kernel
theorem dX7_readsItem_37 : decode cX7_readsItem 37 = .ok (.aload_n 0, 1) := by decide +kernel
theorem dX7_readsItem_38 : decode cX7_readsItem 38 = .ok (.iload_n 2, 1) := by decide +kernel
theorem dX7_readsItem_39 : decode cX7_readsItem 39 = .ok (.iconst 1, 1) := by decide +kernel
theorem dX7_readsItem_40 : decode cX7_readsItem 40 = .ok (.iadd, 1) := by decide +kernel
theorem dX7_readsItem_41 : decode cX7_readsItem 41 = .ok (.invokevirtual 82, 3) := by decide +kernel
theorem dX7_readsItem_44 : decode cX7_readsItem 44 = .ok (.istore 4, 2) := by decide +kernel
theorem dX7_readsItem_46 : decode cX7_readsItem 46 = .ok (.iload_n 1, 1) := by decide +kernel
theorem dX7_readsItem_47 : decode cX7_readsItem 47 = .ok (.bipush 101, 2) := by decide +kernel
theorem dX7_readsItem_49 : decode cX7_readsItem 49 = .ok (.if_icmp .ne 104, 3) := by decide +kernel
theorem dX7_readsItem_52 : decode cX7_readsItem 52 = .ok (.aload_n 0, 1) := by decide +kernel
theorem dX7_readsItem_53 : decode cX7_readsItem 53 = .ok (.getfield 85, 3) := by decide +kernel
theorem dX7_readsItem_56 : decode cX7_readsItem 56 = .ok (.iconst 1, 1) := by decide +kernel
theorem dX7_readsItem_57 : decode cX7_readsItem 57 = .ok (.if_icmp .eq 54, 3) := by decide +kernel
theorem dX7_readsItem_60 : decode cX7_readsItem 60 = .ok (.iload_n 3, 1) := by decide +kernel
theorem dX7_readsItem_61 : decode cX7_readsItem 61 = .ok (.iconst 0, 1) := by decide +kernel
theorem dX7_readsItem_62 : decode cX7_readsItem 62 = .ok (.aload_n 0, 1) := by decide +kernel
theorem dX7_readsItem_63 : decode cX7_readsItem 63 = .ok (.getfield 92, 3) := by decide +kernel
theorem dX7_readsItem_66 : decode cX7_readsItem 66 = .ok (.iconst 1, 1) := by decide +kernel
theorem dX7_readsItem_67 : decode cX7_readsItem 67 = .ok (.isub, 1) := by decide +kernel
theorem dX7_readsItem_68 : decode cX7_readsItem 68 = .ok (.invokestatic 88, 3) := by decide +kernel
theorem dX7_readsItem_71 : decode cX7_readsItem 71 = .ok (.ifCond .eq 40, 3) := by decide +kernel
theorem dX7_readsItem_74 : decode cX7_readsItem 74 = .ok (.iload 4, 2) := by decide +kernel
theorem dX7_readsItem_76 : decode cX7_readsItem 76 = .ok (.iconst 0, 1) := by decide +kernel
theorem dX7_readsItem_77 : decode cX7_readsItem 77 = .ok (.aload_n 0, 1) := by decide +kernel
theorem dX7_readsItem_78 : decode cX7_readsItem 78 = .ok (.getfield 92, 3) := by decide +kernel
theorem dX7_readsItem_81 : decode cX7_readsItem 81 = .ok (.iconst 1, 1) := by decide +kernel
theorem dX7_readsItem_82 : decode cX7_readsItem 82 = .ok (.isub, 1) := by decide +kernel
theorem dX7_readsItem_83 : decode cX7_readsItem 83 = .ok (.invokestatic 88, 3) := by decide +kernel
theorem dX7_readsItem_86 : decode cX7_readsItem 86 = .ok (.ifCond .eq 25, 3) := by decide +kernel
theorem dX7_readsItem_89 : decode cX7_readsItem 89 = .ok (.iload_n 3, 1) := by decide +kernel
theorem dX7_readsItem_90 : decode cX7_readsItem 90 = .ok (.iload 4, 2) := by decide +kernel
theorem dX7_readsItem_92 : decode cX7_readsItem 92 = .ok (.if_icmp .eq 19, 3) := by decide +kernel
theorem dX7_readsItem_95 : decode cX7_readsItem 95 = .ok (.aload_n 0, 1) := by decide +kernel
theorem dX7_readsItem_96 : decode cX7_readsItem 96 = .ok (.getfield 22, 3) := by decide +kernel
theorem dX7_readsItem_99 : decode cX7_readsItem 99 = .ok (.bipush 6, 2) := by decide +kernel
theorem dX7_readsItem_101 : decode cX7_readsItem 101 = .ok (.iload_n 3, 1) := by decide +kernel
theorem dX7_readsItem_102 : decode cX7_readsItem 102 = .ok (.imul, 1) := by decide +kernel
theorem dX7_readsItem_103 : decode cX7_readsItem 103 = .ok (.iload 4, 2) := by decide +kernel
theorem dX7_readsItem_105 : decode cX7_readsItem 105 = .ok (.iadd, 1) := by decide +kernel
theorem dX7_readsItem_106 : decode cX7_readsItem 106 = .ok (.iaload, 1) := by decide +kernel
theorem dX7_readsItem_107 : decode cX7_readsItem 107 = .ok (.iconst 1, 1) := by decide +kernel
theorem dX7_readsItem_108 : decode cX7_readsItem 108 = .ok (.if_icmp .ne 5, 3) := by decide +kernel
theorem dX7_readsItem_111 : decode cX7_readsItem 111 = .ok (.iconst (-1), 1) := by decide +kernel
theorem dX7_readsItem_112 : decode cX7_readsItem 112 = .ok (.ireturn, 1) := by decide +kernel
theorem dX7_readsItem_113 : decode cX7_readsItem 113 = .ok (.aload_n 0, 1) := by decide +kernel
theorem dX7_readsItem_114 : decode cX7_readsItem 114 = .ok (.getfield 22, 3) := by decide +kernel
theorem dX7_readsItem_117 : decode cX7_readsItem 117 = .ok (.bipush 6, 2) := by decide +kernel
theorem dX7_readsItem_119 : decode cX7_readsItem 119 = .ok (.iload_n 3, 1) := by decide +kernel
theorem dX7_readsItem_120 : decode cX7_readsItem 120 = .ok (.imul, 1) := by decide +kernel
theorem dX7_readsItem_121 : decode cX7_readsItem 121 = .ok (.iload 4, 2) := by decide +kernel
theorem dX7_readsItem_123 : decode cX7_readsItem 123 = .ok (.iadd, 1) := by decide +kernel
theorem dX7_readsItem_124 : decode cX7_readsItem 124 = .ok (.iconst 1, 1) := by decide +kernel
theorem dX7_readsItem_125 : decode cX7_readsItem 125 = .ok (.iastore, 1) := by decide +kernel
theorem dX7_readsItem_126 : decode cX7_readsItem 126 = .ok (.aload_n 0, 1) := by decide +kernel
theorem dX7_readsItem_127 : decode cX7_readsItem 127 = .ok (.getfield 22, 3) := by decide +kernel
theorem dX7_readsItem_130 : decode cX7_readsItem 130 = .ok (.bipush 6, 2) := by decide +kernel
theorem dX7_readsItem_132 : decode cX7_readsItem 132 = .ok (.iload 4, 2) := by decide +kernel
theorem dX7_readsItem_134 : decode cX7_readsItem 134 = .ok (.imul, 1) := by decide +kernel
theorem dX7_readsItem_135 : decode cX7_readsItem 135 = .ok (.iload_n 3, 1) := by decide +kernel
theorem dX7_readsItem_136 : decode cX7_readsItem 136 = .ok (.iadd, 1) := by decide +kernel
theorem dX7_readsItem_137 : decode cX7_readsItem 137 = .ok (.iconst 1, 1) := by decide +kernel
theorem dX7_readsItem_138 : decode cX7_readsItem 138 = .ok (.iastore, 1) := by decide +kernel
theorem dX7_readsItem_139 : decode cX7_readsItem 139 = .ok (.aload_n 0, 1) := by decide +kernel
theorem dX7_readsItem_140 : decode cX7_readsItem 140 = .ok (.dup, 1) := by decide +kernel
theorem dX7_readsItem_141 : decode cX7_readsItem 141 = .ok (.getfield 102, 3) := by decide +kernel
theorem dX7_readsItem_144 : decode cX7_readsItem 144 = .ok (.iconst 1, 1) := by decide +kernel
theorem dX7_readsItem_145 : decode cX7_readsItem 145 = .ok (.iadd, 1) := by decide +kernel
theorem dX7_readsItem_146 : decode cX7_readsItem 146 = .ok (.putfield 102, 3) := by decide +kernel
theorem dX7_readsItem_149 : decode cX7_readsItem 149 = .ok (.iload_n 2, 1) := by decide +kernel
theorem dX7_readsItem_150 : decode cX7_readsItem 150 = .ok (.iconst 2, 1) := by decide +kernel
theorem dX7_readsItem_151 : decode cX7_readsItem 151 = .ok (.iadd, 1) := by decide +kernel
theorem dX7_readsItem_152 : decode cX7_readsItem 152 = .ok (.ireturn, 1) := by decide +kernel
theorem dX7_readsItem_153 : decode cX7_readsItem 153 = .ok (.iload_n 1, 1) := by decide +kernel
theorem dX7_readsItem_154 : decode cX7_readsItem 154 = .ok (.bipush 120, 2) := by decide +kernel
theorem dX7_readsItem_156 : decode cX7_readsItem 156 = .ok (.if_icmp .ne 32, 3) := by decide +kernel
theorem dX7_readsItem_159 : decode cX7_readsItem 159 = .ok (.iload_n 3, 1) := by decide +kernel
theorem dX7_readsItem_160 : decode cX7_readsItem 160 = .ok (.iconst 0, 1) := by decide +kernel
theorem dX7_readsItem_161 : decode cX7_readsItem 161 = .ok (.aload_n 0, 1) := by decide +kernel
theorem dX7_readsItem_162 : decode cX7_readsItem 162 = .ok (.getfield 92, 3) := by decide +kernel
theorem dX7_readsItem_165 : decode cX7_readsItem 165 = .ok (.iconst 1, 1) := by decide +kernel
theorem dX7_readsItem_166 : decode cX7_readsItem 166 = .ok (.isub, 1) := by decide +kernel
theorem dX7_readsItem_167 : decode cX7_readsItem 167 = .ok (.invokestatic 88, 3) := by decide +kernel
theorem dX7_readsItem_170 : decode cX7_readsItem 170 = .ok (.ifCond .eq 18, 3) := by decide +kernel
theorem dX7_readsItem_173 : decode cX7_readsItem 173 = .ok (.iload 4, 2) := by decide +kernel
theorem dX7_readsItem_175 : decode cX7_readsItem 175 = .ok (.iconst 0, 1) := by decide +kernel
theorem dX7_readsItem_176 : decode cX7_readsItem 176 = .ok (.aload_n 0, 1) := by decide +kernel
theorem dX7_readsItem_177 : decode cX7_readsItem 177 = .ok (.getfield 95, 3) := by decide +kernel
theorem dX7_readsItem_180 : decode cX7_readsItem 180 = .ok (.iconst 1, 1) := by decide +kernel
theorem dX7_readsItem_181 : decode cX7_readsItem 181 = .ok (.isub, 1) := by decide +kernel
theorem dX7_readsItem_182 : decode cX7_readsItem 182 = .ok (.invokestatic 88, 3) := by decide +kernel
theorem dX7_readsItem_185 : decode cX7_readsItem 185 = .ok (.ifCond .ne 5, 3) := by decide +kernel
theorem dX7_readsItem_188 : decode cX7_readsItem 188 = .ok (.iconst (-1), 1) := by decide +kernel
theorem dX7_readsItem_189 : decode cX7_readsItem 189 = .ok (.ireturn, 1) := by decide +kernel
theorem dX7_readsItem_190 : decode cX7_readsItem 190 = .ok (.aload_n 0, 1) := by decide +kernel
theorem dX7_readsItem_191 : decode cX7_readsItem 191 = .ok (.getfield 25, 3) := by decide +kernel
theorem dX7_readsItem_194 : decode cX7_readsItem 194 = .ok (.iload_n 3, 1) := by decide +kernel
theorem dX7_readsItem_195 : decode cX7_readsItem 195 = .ok (.iload 4, 2) := by decide +kernel
theorem dX7_readsItem_197 : decode cX7_readsItem 197 = .ok (.iastore, 1) := by decide +kernel
theorem dX7_readsItem_198 : decode cX7_readsItem 198 = .ok (.iload_n 2, 1) := by decide +kernel
theorem dX7_readsItem_199 : decode cX7_readsItem 199 = .ok (.iconst 2, 1) := by decide +kernel
theorem dX7_readsItem_200 : decode cX7_readsItem 200 = .ok (.iadd, 1) := by decide +kernel
theorem dX7_readsItem_201 : decode cX7_readsItem 201 = .ok (.ireturn, 1) := by decide +kernel
theorem dX7_reads_0 : decode cX7_reads 0 = .ok (.aload_n 0, 1) := by decide +kernel
theorem dX7_reads_1 : decode cX7_reads 1 = .ok (.iconst 0, 1) := by decide +kernel
theorem dX7_reads_2 : decode cX7_reads 2 = .ok (.putfield 85, 3) := by decide +kernel
theorem dX7_reads_5 : decode cX7_reads 5 = .ok (.aload_n 0, 1) := by decide +kernel
theorem dX7_reads_6 : decode cX7_reads 6 = .ok (.iconst 0, 1) := by decide +kernel
theorem dX7_reads_7 : decode cX7_reads 7 = .ok (.putfield 102, 3) := by decide +kernel
theorem dX7_reads_10 : decode cX7_reads 10 = .ok (.iconst 0, 1) := by decide +kernel
theorem dX7_reads_11 : decode cX7_reads 11 = .ok (.istore_n 1, 1) := by decide +kernel
theorem dX7_reads_12 : decode cX7_reads 12 = .ok (.iload_n 1, 1) := by decide +kernel
theorem dX7_reads_13 : decode cX7_reads 13 = .ok (.bipush 36, 2) := by decide +kernel
theorem dX7_reads_15 : decode cX7_reads 15 = .ok (.if_icmp .ge 16, 3) := by decide +kernel
theorem dX7_reads_18 : decode cX7_reads 18 = .ok (.aload_n 0, 1) := by decide +kernel
theorem dX7_reads_19 : decode cX7_reads 19 = .ok (.getfield 22, 3) := by decide +kernel
theorem dX7_reads_22 : decode cX7_reads 22 = .ok (.iload_n 1, 1) := by decide +kernel
theorem dX7_reads_23 : decode cX7_reads 23 = .ok (.iconst 0, 1) := by decide +kernel
theorem dX7_reads_24 : decode cX7_reads 24 = .ok (.iastore, 1) := by decide +kernel
theorem dX7_reads_25 : decode cX7_reads 25 = .ok (.iinc 1 1, 3) := by decide +kernel
theorem dX7_reads_28 : decode cX7_reads 28 = .ok (.goto (-16), 3) := by decide +kernel
theorem dX7_reads_31 : decode cX7_reads 31 = .ok (.iconst 0, 1) := by decide +kernel
theorem dX7_reads_32 : decode cX7_reads 32 = .ok (.istore_n 1, 1) := by decide +kernel
theorem dX7_reads_33 : decode cX7_reads 33 = .ok (.iload_n 1, 1) := by decide +kernel
theorem dX7_reads_34 : decode cX7_reads 34 = .ok (.bipush 6, 2) := by decide +kernel
theorem dX7_reads_36 : decode cX7_reads 36 = .ok (.if_icmp .ge 16, 3) := by decide +kernel
theorem dX7_reads_39 : decode cX7_reads 39 = .ok (.aload_n 0, 1) := by decide +kernel
theorem dX7_reads_40 : decode cX7_reads 40 = .ok (.getfield 25, 3) := by decide +kernel
theorem dX7_reads_43 : decode cX7_reads 43 = .ok (.iload_n 1, 1) := by decide +kernel
theorem dX7_reads_44 : decode cX7_reads 44 = .ok (.iconst 0, 1) := by decide +kernel
theorem dX7_reads_45 : decode cX7_reads 45 = .ok (.iastore, 1) := by decide +kernel
theorem dX7_reads_46 : decode cX7_reads 46 = .ok (.iinc 1 1, 3) := by decide +kernel
theorem dX7_reads_49 : decode cX7_reads 49 = .ok (.goto (-16), 3) := by decide +kernel
theorem dX7_reads_52 : decode cX7_reads 52 = .ok (.iconst 0, 1) := by decide +kernel
theorem dX7_reads_53 : decode cX7_reads 53 = .ok (.istore_n 1, 1) := by decide +kernel
theorem dX7_reads_54 : decode cX7_reads 54 = .ok (.iload_n 1, 1) := by decide +kernel
theorem dX7_reads_55 : decode cX7_reads 55 = .ok (.aload_n 0, 1) := by decide +kernel
theorem dX7_reads_56 : decode cX7_reads 56 = .ok (.getfield 75, 3) := by decide +kernel
theorem dX7_reads_59 : decode cX7_reads 59 = .ok (.if_icmp .ge 40, 3) := by decide +kernel
theorem dX7_reads_62 : decode cX7_reads 62 = .ok (.aload_n 0, 1) := by decide +kernel
theorem dX7_reads_63 : decode cX7_reads 63 = .ok (.aload_n 0, 1) := by decide +kernel
theorem dX7_reads_64 : decode cX7_reads 64 = .ok (.getfield 7, 3) := by decide +kernel
theorem dX7_reads_67 : decode cX7_reads 67 = .ok (.iload_n 1, 1) := by decide +kernel
theorem dX7_reads_68 : decode cX7_reads 68 = .ok (.iaload, 1) := by decide +kernel
theorem dX7_reads_69 : decode cX7_reads 69 = .ok (.iload_n 1, 1) := by decide +kernel
theorem dX7_reads_70 : decode cX7_reads 70 = .ok (.iconst 1, 1) := by decide +kernel
theorem dX7_reads_71 : decode cX7_reads 71 = .ok (.iadd, 1) := by decide +kernel
theorem dX7_reads_72 : decode cX7_reads 72 = .ok (.invokevirtual 105, 3) := by decide +kernel
theorem dX7_reads_75 : decode cX7_reads 75 = .ok (.istore_n 2, 1) := by decide +kernel
theorem dX7_reads_76 : decode cX7_reads 76 = .ok (.iload_n 2, 1) := by decide +kernel
theorem dX7_reads_77 : decode cX7_reads 77 = .ok (.ifCond .lt 13, 3) := by decide +kernel
theorem dX7_reads_80 : decode cX7_reads 80 = .ok (.aload_n 0, 1) := by decide +kernel
theorem dX7_reads_81 : decode cX7_reads 81 = .ok (.iload_n 2, 1) := by decide +kernel
theorem dX7_reads_82 : decode cX7_reads 82 = .ok (.invokevirtual 78, 3) := by decide +kernel
theorem dX7_reads_85 : decode cX7_reads 85 = .ok (.bipush 59, 2) := by decide +kernel
theorem dX7_reads_87 : decode cX7_reads 87 = .ok (.if_icmp .eq 5, 3) := by decide +kernel
theorem dX7_reads_90 : decode cX7_reads 90 = .ok (.iload_n 1, 1) := by decide +kernel
theorem dX7_reads_91 : decode cX7_reads 91 = .ok (.ireturn, 1) := by decide +kernel
theorem dX7_reads_92 : decode cX7_reads 92 = .ok (.iload_n 2, 1) := by decide +kernel
theorem dX7_reads_93 : decode cX7_reads 93 = .ok (.iconst 1, 1) := by decide +kernel
theorem dX7_reads_94 : decode cX7_reads 94 = .ok (.iadd, 1) := by decide +kernel
theorem dX7_reads_95 : decode cX7_reads 95 = .ok (.istore_n 1, 1) := by decide +kernel
theorem dX7_reads_96 : decode cX7_reads 96 = .ok (.goto (-42), 3) := by decide +kernel
theorem dX7_reads_99 : decode cX7_reads 99 = .ok (.bipush (-4), 2) := by decide +kernel
theorem dX7_reads_101 : decode cX7_reads 101 = .ok (.ireturn, 1) := by decide +kernel
theorem dX7_write_0 : decode cX7_write 0 = .ok (.iload_n 1, 1) := by decide +kernel
theorem dX7_write_1 : decode cX7_write 1 = .ok (.bipush 32, 2) := by decide +kernel
theorem dX7_write_3 : decode cX7_write 3 = .ok (.if_icmp .lt 9, 3) := by decide +kernel
theorem dX7_write_6 : decode cX7_write 6 = .ok (.iload_n 1, 1) := by decide +kernel
theorem dX7_write_7 : decode cX7_write 7 = .ok (.bipush 126, 2) := by decide +kernel
theorem dX7_write_9 : decode cX7_write 9 = .ok (.if_icmp .le 5, 3) := by decide +kernel
theorem dX7_write_12 : decode cX7_write 12 = .ok (.iconst (-1), 1) := by decide +kernel
theorem dX7_write_13 : decode cX7_write 13 = .ok (.ireturn, 1) := by decide +kernel
theorem dX7_write_14 : decode cX7_write 14 = .ok (.aload_n 0, 1) := by decide +kernel
theorem dX7_write_15 : decode cX7_write 15 = .ok (.getfield 75, 3) := by decide +kernel
theorem dX7_write_18 : decode cX7_write 18 = .ok (.sipush 200, 3) := by decide +kernel
theorem dX7_write_21 : decode cX7_write 21 = .ok (.if_icmp .ne 6, 3) := by decide +kernel
theorem dX7_write_24 : decode cX7_write 24 = .ok (.bipush (-3), 2) := by decide +kernel
theorem dX7_write_26 : decode cX7_write 26 = .ok (.ireturn, 1) := by decide +kernel
theorem dX7_write_27 : decode cX7_write 27 = .ok (.aload_n 0, 1) := by decide +kernel
theorem dX7_write_28 : decode cX7_write 28 = .ok (.getfield 7, 3) := by decide +kernel
theorem dX7_write_31 : decode cX7_write 31 = .ok (.aload_n 0, 1) := by decide +kernel
theorem dX7_write_32 : decode cX7_write 32 = .ok (.getfield 75, 3) := by decide +kernel
theorem dX7_write_35 : decode cX7_write 35 = .ok (.iload_n 1, 1) := by decide +kernel
theorem dX7_write_36 : decode cX7_write 36 = .ok (.iastore, 1) := by decide +kernel
theorem dX7_write_37 : decode cX7_write 37 = .ok (.aload_n 0, 1) := by decide +kernel
theorem dX7_write_38 : decode cX7_write 38 = .ok (.dup, 1) := by decide +kernel
theorem dX7_write_39 : decode cX7_write 39 = .ok (.getfield 75, 3) := by decide +kernel
theorem dX7_write_42 : decode cX7_write 42 = .ok (.iconst 1, 1) := by decide +kernel
theorem dX7_write_43 : decode cX7_write 43 = .ok (.iadd, 1) := by decide +kernel
theorem dX7_write_44 : decode cX7_write 44 = .ok (.putfield 75, 3) := by decide +kernel
theorem dX7_write_47 : decode cX7_write 47 = .ok (.aload_n 0, 1) := by decide +kernel
theorem dX7_write_48 : decode cX7_write 48 = .ok (.getfield 75, 3) := by decide +kernel
theorem dX7_write_51 : decode cX7_write 51 = .ok (.ireturn, 1) := by decide +kernel
theorem dX7_wipe_0 : decode cX7_wipe 0 = .ok (.aload_n 0, 1) := by decide +kernel
theorem dX7_wipe_1 : decode cX7_wipe 1 = .ok (.getfield 75, 3) := by decide +kernel
theorem dX7_wipe_4 : decode cX7_wipe 4 = .ok (.istore_n 1, 1) := by decide +kernel
theorem dX7_wipe_5 : decode cX7_wipe 5 = .ok (.aload_n 0, 1) := by decide +kernel
theorem dX7_wipe_6 : decode cX7_wipe 6 = .ok (.iconst 0, 1) := by decide +kernel
theorem dX7_wipe_7 : decode cX7_wipe 7 = .ok (.putfield 75, 3) := by decide +kernel
theorem dX7_wipe_10 : decode cX7_wipe 10 = .ok (.iload_n 1, 1) := by decide +kernel
theorem dX7_wipe_11 : decode cX7_wipe 11 = .ok (.ireturn, 1) := by decide +kernel
theorem dX7_fault_0 : decode cX7_fault 0 = .ok (.aload_n 0, 1) := by decide +kernel
theorem dX7_fault_1 : decode cX7_fault 1 = .ok (.invokevirtual 109, 3) := by decide +kernel
theorem dX7_fault_4 : decode cX7_fault 4 = .ok (.ireturn, 1) := by decide +kernel
theorem dX7_lay_0 : decode cX7_lay 0 = .ok (.aload_n 0, 1) := by decide +kernel
theorem dX7_lay_1 : decode cX7_lay 1 = .ok (.invokevirtual 109, 3) := by decide +kernel
theorem dX7_lay_4 : decode cX7_lay 4 = .ok (.bipush (-4), 2) := by decide +kernel
theorem dX7_lay_6 : decode cX7_lay 6 = .ok (.if_icmp .ne 10, 3) := by decide +kernel
theorem dX7_lay_9 : decode cX7_lay 9 = .ok (.aload_n 0, 1) := by decide +kernel
theorem dX7_lay_10 : decode cX7_lay 10 = .ok (.getfield 85, 3) := by decide +kernel
theorem dX7_lay_13 : decode cX7_lay 13 = .ok (.ifCond .ne 6, 3) := by decide +kernel
theorem dX7_lay_16 : decode cX7_lay 16 = .ok (.bipush (-2), 2) := by decide +kernel
theorem dX7_lay_18 : decode cX7_lay 18 = .ok (.ireturn, 1) := by decide +kernel
theorem dX7_lay_19 : decode cX7_lay 19 = .ok (.iconst 0, 1) := by decide +kernel
theorem dX7_lay_20 : decode cX7_lay 20 = .ok (.istore_n 1, 1) := by decide +kernel
theorem dX7_lay_21 : decode cX7_lay 21 = .ok (.iload_n 1, 1) := by decide +kernel
theorem dX7_lay_22 : decode cX7_lay 22 = .ok (.aload_n 0, 1) := by decide +kernel
theorem dX7_lay_23 : decode cX7_lay 23 = .ok (.getfield 92, 3) := by decide +kernel
theorem dX7_lay_26 : decode cX7_lay 26 = .ok (.if_icmp .ge 60, 3) := by decide +kernel
theorem dX7_lay_29 : decode cX7_lay 29 = .ok (.aload_n 0, 1) := by decide +kernel
theorem dX7_lay_30 : decode cX7_lay 30 = .ok (.getfield 85, 3) := by decide +kernel
theorem dX7_lay_33 : decode cX7_lay 33 = .ok (.iconst 4, 1) := by decide +kernel
theorem dX7_lay_34 : decode cX7_lay 34 = .ok (.if_icmp .ne 52, 3) := by decide +kernel
theorem dX7_lay_37 : decode cX7_lay 37 = .ok (.iconst 0, 1) := by decide +kernel
theorem dX7_lay_38 : decode cX7_lay 38 = .ok (.istore_n 2, 1) := by decide +kernel
theorem dX7_lay_39 : decode cX7_lay 39 = .ok (.iconst 0, 1) := by decide +kernel
theorem dX7_lay_40 : decode cX7_lay 40 = .ok (.istore_n 3, 1) := by decide +kernel
theorem dX7_lay_41 : decode cX7_lay 41 = .ok (.iload_n 3, 1) := by decide +kernel
theorem dX7_lay_42 : decode cX7_lay 42 = .ok (.aload_n 0, 1) := by decide +kernel
theorem dX7_lay_43 : decode cX7_lay 43 = .ok (.getfield 92, 3) := by decide +kernel
theorem dX7_lay_46 : decode cX7_lay 46 = .ok (.if_icmp .ge 23, 3) := by decide +kernel
theorem dX7_lay_49 : decode cX7_lay 49 = .ok (.iload_n 2, 1) := by decide +kernel
theorem dX7_lay_50 : decode cX7_lay 50 = .ok (.aload_n 0, 1) := by decide +kernel
theorem dX7_lay_51 : decode cX7_lay 51 = .ok (.getfield 22, 3) := by decide +kernel
theorem dX7_lay_54 : decode cX7_lay 54 = .ok (.bipush 6, 2) := by decide +kernel
theorem dX7_lay_56 : decode cX7_lay 56 = .ok (.iload_n 1, 1) := by decide +kernel
theorem dX7_lay_57 : decode cX7_lay 57 = .ok (.imul, 1) := by decide +kernel
theorem dX7_lay_58 : decode cX7_lay 58 = .ok (.iload_n 3, 1) := by decide +kernel
theorem dX7_lay_59 : decode cX7_lay 59 = .ok (.iadd, 1) := by decide +kernel
theorem dX7_lay_60 : decode cX7_lay 60 = .ok (.iaload, 1) := by decide +kernel
theorem dX7_lay_61 : decode cX7_lay 61 = .ok (.iadd, 1) := by decide +kernel
theorem dX7_lay_62 : decode cX7_lay 62 = .ok (.istore_n 2, 1) := by decide +kernel
theorem dX7_lay_63 : decode cX7_lay 63 = .ok (.iinc 3 1, 3) := by decide +kernel
theorem dX7_lay_66 : decode cX7_lay 66 = .ok (.goto (-25), 3) := by decide +kernel
theorem dX7_lay_69 : decode cX7_lay 69 = .ok (.iload_n 2, 1) := by decide +kernel
theorem dX7_lay_70 : decode cX7_lay 70 = .ok (.aload_n 0, 1) := by decide +kernel
theorem dX7_lay_71 : decode cX7_lay 71 = .ok (.getfield 95, 3) := by decide +kernel
theorem dX7_lay_74 : decode cX7_lay 74 = .ok (.if_icmp .lt 6, 3) := by decide +kernel
theorem dX7_lay_77 : decode cX7_lay 77 = .ok (.bipush (-2), 2) := by decide +kernel
theorem dX7_lay_79 : decode cX7_lay 79 = .ok (.ireturn, 1) := by decide +kernel
theorem dX7_lay_80 : decode cX7_lay 80 = .ok (.iinc 1 1, 3) := by decide +kernel
theorem dX7_lay_83 : decode cX7_lay 83 = .ok (.goto (-62), 3) := by decide +kernel
theorem dX7_lay_86 : decode cX7_lay 86 = .ok (.aload_n 0, 1) := by decide +kernel
theorem dX7_lay_87 : decode cX7_lay 87 = .ok (.aload_n 0, 1) := by decide +kernel
theorem dX7_lay_88 : decode cX7_lay 88 = .ok (.getfield 85, 3) := by decide +kernel
theorem dX7_lay_91 : decode cX7_lay 91 = .ok (.putfield 49, 3) := by decide +kernel
theorem dX7_lay_94 : decode cX7_lay 94 = .ok (.aload_n 0, 1) := by decide +kernel
theorem dX7_lay_95 : decode cX7_lay 95 = .ok (.aload_n 0, 1) := by decide +kernel
theorem dX7_lay_96 : decode cX7_lay 96 = .ok (.getfield 92, 3) := by decide +kernel
theorem dX7_lay_99 : decode cX7_lay 99 = .ok (.putfield 53, 3) := by decide +kernel
theorem dX7_lay_102 : decode cX7_lay 102 = .ok (.aload_n 0, 1) := by decide +kernel
theorem dX7_lay_103 : decode cX7_lay 103 = .ok (.aload_n 0, 1) := by decide +kernel
theorem dX7_lay_104 : decode cX7_lay 104 = .ok (.getfield 95, 3) := by decide +kernel
theorem dX7_lay_107 : decode cX7_lay 107 = .ok (.putfield 56, 3) := by decide +kernel
theorem dX7_lay_110 : decode cX7_lay 110 = .ok (.aload_n 0, 1) := by decide +kernel
theorem dX7_lay_111 : decode cX7_lay 111 = .ok (.aload_n 0, 1) := by decide +kernel
theorem dX7_lay_112 : decode cX7_lay 112 = .ok (.getfield 102, 3) := by decide +kernel
theorem dX7_lay_115 : decode cX7_lay 115 = .ok (.putfield 113, 3) := by decide +kernel
theorem dX7_lay_118 : decode cX7_lay 118 = .ok (.iconst 0, 1) := by decide +kernel
theorem dX7_lay_119 : decode cX7_lay 119 = .ok (.istore_n 1, 1) := by decide +kernel
theorem dX7_lay_120 : decode cX7_lay 120 = .ok (.iload_n 1, 1) := by decide +kernel
theorem dX7_lay_121 : decode cX7_lay 121 = .ok (.bipush 36, 2) := by decide +kernel
theorem dX7_lay_123 : decode cX7_lay 123 = .ok (.if_icmp .ge 21, 3) := by decide +kernel
theorem dX7_lay_126 : decode cX7_lay 126 = .ok (.aload_n 0, 1) := by decide +kernel
theorem dX7_lay_127 : decode cX7_lay 127 = .ok (.getfield 13, 3) := by decide +kernel
theorem dX7_lay_130 : decode cX7_lay 130 = .ok (.iload_n 1, 1) := by decide +kernel
theorem dX7_lay_131 : decode cX7_lay 131 = .ok (.aload_n 0, 1) := by decide +kernel
theorem dX7_lay_132 : decode cX7_lay 132 = .ok (.getfield 22, 3) := by decide +kernel
theorem dX7_lay_135 : decode cX7_lay 135 = .ok (.iload_n 1, 1) := by decide +kernel
theorem dX7_lay_136 : decode cX7_lay 136 = .ok (.iaload, 1) := by decide +kernel
theorem dX7_lay_137 : decode cX7_lay 137 = .ok (.iastore, 1) := by decide +kernel
theorem dX7_lay_138 : decode cX7_lay 138 = .ok (.iinc 1 1, 3) := by decide +kernel
theorem dX7_lay_141 : decode cX7_lay 141 = .ok (.goto (-21), 3) := by decide +kernel
theorem dX7_lay_144 : decode cX7_lay 144 = .ok (.iconst 0, 1) := by decide +kernel
theorem dX7_lay_145 : decode cX7_lay 145 = .ok (.istore_n 1, 1) := by decide +kernel
theorem dX7_lay_146 : decode cX7_lay 146 = .ok (.iload_n 1, 1) := by decide +kernel
theorem dX7_lay_147 : decode cX7_lay 147 = .ok (.bipush 6, 2) := by decide +kernel
theorem dX7_lay_149 : decode cX7_lay 149 = .ok (.if_icmp .ge 21, 3) := by decide +kernel
theorem dX7_lay_152 : decode cX7_lay 152 = .ok (.aload_n 0, 1) := by decide +kernel
theorem dX7_lay_153 : decode cX7_lay 153 = .ok (.getfield 19, 3) := by decide +kernel
theorem dX7_lay_156 : decode cX7_lay 156 = .ok (.iload_n 1, 1) := by decide +kernel
theorem dX7_lay_157 : decode cX7_lay 157 = .ok (.aload_n 0, 1) := by decide +kernel
theorem dX7_lay_158 : decode cX7_lay 158 = .ok (.getfield 25, 3) := by decide +kernel
theorem dX7_lay_161 : decode cX7_lay 161 = .ok (.iload_n 1, 1) := by decide +kernel
theorem dX7_lay_162 : decode cX7_lay 162 = .ok (.iaload, 1) := by decide +kernel
theorem dX7_lay_163 : decode cX7_lay 163 = .ok (.iastore, 1) := by decide +kernel
theorem dX7_lay_164 : decode cX7_lay 164 = .ok (.iinc 1 1, 3) := by decide +kernel
theorem dX7_lay_167 : decode cX7_lay 167 = .ok (.goto (-21), 3) := by decide +kernel
theorem dX7_lay_170 : decode cX7_lay 170 = .ok (.aload_n 0, 1) := by decide +kernel
theorem dX7_lay_171 : decode cX7_lay 171 = .ok (.invokevirtual 59, 3) := by decide +kernel
theorem dX7_lay_174 : decode cX7_lay 174 = .ok (.aload_n 0, 1) := by decide +kernel
theorem dX7_lay_175 : decode cX7_lay 175 = .ok (.getfield 62, 3) := by decide +kernel
theorem dX7_lay_178 : decode cX7_lay 178 = .ok (.ireturn, 1) := by decide +kernel
theorem dX7_isMachine_0 : decode cX7_isMachine 0 = .ok (.iload_n 1, 1) := by decide +kernel
theorem dX7_isMachine_1 : decode cX7_isMachine 1 = .ok (.iconst 0, 1) := by decide +kernel
theorem dX7_isMachine_2 : decode cX7_isMachine 2 = .ok (.aload_n 0, 1) := by decide +kernel
theorem dX7_isMachine_3 : decode cX7_isMachine 3 = .ok (.getfield 53, 3) := by decide +kernel
theorem dX7_isMachine_6 : decode cX7_isMachine 6 = .ok (.iconst 1, 1) := by decide +kernel
theorem dX7_isMachine_7 : decode cX7_isMachine 7 = .ok (.isub, 1) := by decide +kernel
theorem dX7_isMachine_8 : decode cX7_isMachine 8 = .ok (.invokestatic 88, 3) := by decide +kernel
theorem dX7_isMachine_11 : decode cX7_isMachine 11 = .ok (.ireturn, 1) := by decide +kernel
theorem dX7_isWired_0 : decode cX7_isWired 0 = .ok (.aload_n 0, 1) := by decide +kernel
theorem dX7_isWired_1 : decode cX7_isWired 1 = .ok (.getfield 13, 3) := by decide +kernel
theorem dX7_isWired_4 : decode cX7_isWired 4 = .ok (.bipush 6, 2) := by decide +kernel
theorem dX7_isWired_6 : decode cX7_isWired 6 = .ok (.iload_n 1, 1) := by decide +kernel
theorem dX7_isWired_7 : decode cX7_isWired 7 = .ok (.imul, 1) := by decide +kernel
theorem dX7_isWired_8 : decode cX7_isWired 8 = .ok (.iload_n 2, 1) := by decide +kernel
theorem dX7_isWired_9 : decode cX7_isWired 9 = .ok (.iadd, 1) := by decide +kernel
theorem dX7_isWired_10 : decode cX7_isWired 10 = .ok (.iaload, 1) := by decide +kernel
theorem dX7_isWired_11 : decode cX7_isWired 11 = .ok (.iconst 1, 1) := by decide +kernel
theorem dX7_isWired_12 : decode cX7_isWired 12 = .ok (.if_icmp .ne 7, 3) := by decide +kernel
theorem dX7_isWired_15 : decode cX7_isWired 15 = .ok (.iconst 1, 1) := by decide +kernel
theorem dX7_isWired_16 : decode cX7_isWired 16 = .ok (.goto 4, 3) := by decide +kernel
theorem dX7_isWired_19 : decode cX7_isWired 19 = .ok (.iconst 0, 1) := by decide +kernel
theorem dX7_isWired_20 : decode cX7_isWired 20 = .ok (.ireturn, 1) := by decide +kernel
theorem dX7_lowest_0 : decode cX7_lowest 0 = .ok (.iconst 0, 1) := by decide +kernel
theorem dX7_lowest_1 : decode cX7_lowest 1 = .ok (.istore_n 3, 1) := by decide +kernel
theorem dX7_lowest_2 : decode cX7_lowest 2 = .ok (.iload_n 3, 1) := by decide +kernel
theorem dX7_lowest_3 : decode cX7_lowest 3 = .ok (.aload_n 0, 1) := by decide +kernel
theorem dX7_lowest_4 : decode cX7_lowest 4 = .ok (.getfield 53, 3) := by decide +kernel
theorem dX7_lowest_7 : decode cX7_lowest 7 = .ok (.if_icmp .ge 30, 3) := by decide +kernel
theorem dX7_lowest_10 : decode cX7_lowest 10 = .ok (.aload_n 0, 1) := by decide +kernel
theorem dX7_lowest_11 : decode cX7_lowest 11 = .ok (.iload_n 1, 1) := by decide +kernel
theorem dX7_lowest_12 : decode cX7_lowest 12 = .ok (.iload_n 3, 1) := by decide +kernel
theorem dX7_lowest_13 : decode cX7_lowest 13 = .ok (.invokevirtual 116, 3) := by decide +kernel
theorem dX7_lowest_16 : decode cX7_lowest 16 = .ok (.ifCond .eq 15, 3) := by decide +kernel
theorem dX7_lowest_19 : decode cX7_lowest 19 = .ok (.aload_n 0, 1) := by decide +kernel
theorem dX7_lowest_20 : decode cX7_lowest 20 = .ok (.getfield 43, 3) := by decide +kernel
theorem dX7_lowest_23 : decode cX7_lowest 23 = .ok (.iload_n 3, 1) := by decide +kernel
theorem dX7_lowest_24 : decode cX7_lowest 24 = .ok (.iaload, 1) := by decide +kernel
theorem dX7_lowest_25 : decode cX7_lowest 25 = .ok (.iload_n 2, 1) := by decide +kernel
theorem dX7_lowest_26 : decode cX7_lowest 26 = .ok (.if_icmp .ne 5, 3) := by decide +kernel
theorem dX7_lowest_29 : decode cX7_lowest 29 = .ok (.iload_n 3, 1) := by decide +kernel
theorem dX7_lowest_30 : decode cX7_lowest 30 = .ok (.ireturn, 1) := by decide +kernel
theorem dX7_lowest_31 : decode cX7_lowest 31 = .ok (.iinc 3 1, 3) := by decide +kernel
theorem dX7_lowest_34 : decode cX7_lowest 34 = .ok (.goto (-32), 3) := by decide +kernel
theorem dX7_lowest_37 : decode cX7_lowest 37 = .ok (.iconst (-1), 1) := by decide +kernel
theorem dX7_lowest_38 : decode cX7_lowest 38 = .ok (.ireturn, 1) := by decide +kernel
theorem dX7_counters_0 : decode cX7_counters 0 = .ok (.aload_n 0, 1) := by decide +kernel
theorem dX7_counters_1 : decode cX7_counters 1 = .ok (.iconst 1, 1) := by decide +kernel
theorem dX7_counters_2 : decode cX7_counters 2 = .ok (.putfield 120, 3) := by decide +kernel
theorem dX7_counters_5 : decode cX7_counters 5 = .ok (.aload_n 0, 1) := by decide +kernel
theorem dX7_counters_6 : decode cX7_counters 6 = .ok (.getfield 43, 3) := by decide +kernel
theorem dX7_counters_9 : decode cX7_counters 9 = .ok (.iload_n 1, 1) := by decide +kernel
theorem dX7_counters_10 : decode cX7_counters 10 = .ok (.ifCond .ne 12, 3) := by decide +kernel
theorem dX7_counters_13 : decode cX7_counters 13 = .ok (.aload_n 0, 1) := by decide +kernel
theorem dX7_counters_14 : decode cX7_counters 14 = .ok (.getfield 53, 3) := by decide +kernel
theorem dX7_counters_17 : decode cX7_counters 17 = .ok (.iconst 1, 1) := by decide +kernel
theorem dX7_counters_18 : decode cX7_counters 18 = .ok (.isub, 1) := by decide +kernel
theorem dX7_counters_19 : decode cX7_counters 19 = .ok (.goto 6, 3) := by decide +kernel
theorem dX7_counters_22 : decode cX7_counters 22 = .ok (.iload_n 1, 1) := by decide +kernel
theorem dX7_counters_23 : decode cX7_counters 23 = .ok (.iconst 1, 1) := by decide +kernel
theorem dX7_counters_24 : decode cX7_counters 24 = .ok (.isub, 1) := by decide +kernel
theorem dX7_counters_25 : decode cX7_counters 25 = .ok (.iaload, 1) := by decide +kernel
theorem dX7_counters_26 : decode cX7_counters 26 = .ok (.istore_n 2, 1) := by decide +kernel
theorem dX7_counters_27 : decode cX7_counters 27 = .ok (.iload_n 1, 1) := by decide +kernel
theorem dX7_counters_28 : decode cX7_counters 28 = .ok (.ifCond .ne 31, 3) := by decide +kernel
theorem dX7_counters_31 : decode cX7_counters 31 = .ok (.aload_n 0, 1) := by decide +kernel
theorem dX7_counters_32 : decode cX7_counters 32 = .ok (.getfield 43, 3) := by decide +kernel
theorem dX7_counters_35 : decode cX7_counters 35 = .ok (.iconst 0, 1) := by decide +kernel
theorem dX7_counters_36 : decode cX7_counters 36 = .ok (.iaload, 1) := by decide +kernel
theorem dX7_counters_37 : decode cX7_counters 37 = .ok (.iload_n 2, 1) := by decide +kernel
theorem dX7_counters_38 : decode cX7_counters 38 = .ok (.if_icmp .ne 19, 3) := by decide +kernel
theorem dX7_counters_41 : decode cX7_counters 41 = .ok (.aload_n 0, 1) := by decide +kernel
theorem dX7_counters_42 : decode cX7_counters 42 = .ok (.getfield 43, 3) := by decide +kernel
theorem dX7_counters_45 : decode cX7_counters 45 = .ok (.iconst 0, 1) := by decide +kernel
theorem dX7_counters_46 : decode cX7_counters 46 = .ok (.iaload, 1) := by decide +kernel
theorem dX7_counters_47 : decode cX7_counters 47 = .ok (.iconst 1, 1) := by decide +kernel
theorem dX7_counters_48 : decode cX7_counters 48 = .ok (.iadd, 1) := by decide +kernel
theorem dX7_counters_49 : decode cX7_counters 49 = .ok (.aload_n 0, 1) := by decide +kernel
theorem dX7_counters_50 : decode cX7_counters 50 = .ok (.getfield 56, 3) := by decide +kernel
theorem dX7_counters_53 : decode cX7_counters 53 = .ok (.irem, 1) := by decide +kernel
theorem dX7_counters_54 : decode cX7_counters 54 = .ok (.goto 4, 3) := by decide +kernel
theorem dX7_counters_57 : decode cX7_counters 57 = .ok (.iconst (-1), 1) := by decide +kernel
theorem dX7_counters_58 : decode cX7_counters 58 = .ok (.ireturn, 1) := by decide +kernel
theorem dX7_counters_59 : decode cX7_counters 59 = .ok (.aload_n 0, 1) := by decide +kernel
theorem dX7_counters_60 : decode cX7_counters 60 = .ok (.getfield 43, 3) := by decide +kernel
theorem dX7_counters_63 : decode cX7_counters 63 = .ok (.iload_n 1, 1) := by decide +kernel
theorem dX7_counters_64 : decode cX7_counters 64 = .ok (.iaload, 1) := by decide +kernel
theorem dX7_counters_65 : decode cX7_counters 65 = .ok (.iload_n 2, 1) := by decide +kernel
theorem dX7_counters_66 : decode cX7_counters 66 = .ok (.if_icmp .ne 7, 3) := by decide +kernel
theorem dX7_counters_69 : decode cX7_counters 69 = .ok (.iconst (-1), 1) := by decide +kernel
theorem dX7_counters_70 : decode cX7_counters 70 = .ok (.goto 4, 3) := by decide +kernel
theorem dX7_counters_73 : decode cX7_counters 73 = .ok (.iload_n 2, 1) := by decide +kernel
theorem dX7_counters_74 : decode cX7_counters 74 = .ok (.ireturn, 1) := by decide +kernel
theorem dX7_pointers_0 : decode cX7_pointers 0 = .ok (.aload_n 0, 1) := by decide +kernel
theorem dX7_pointers_1 : decode cX7_pointers 1 = .ok (.getfield 43, 3) := by decide +kernel
theorem dX7_pointers_4 : decode cX7_pointers 4 = .ok (.iload_n 1, 1) := by decide +kernel
theorem dX7_pointers_5 : decode cX7_pointers 5 = .ok (.iaload, 1) := by decide +kernel
theorem dX7_pointers_6 : decode cX7_pointers 6 = .ok (.iconst 1, 1) := by decide +kernel
theorem dX7_pointers_7 : decode cX7_pointers 7 = .ok (.isub, 1) := by decide +kernel
theorem dX7_pointers_8 : decode cX7_pointers 8 = .ok (.istore_n 2, 1) := by decide +kernel
theorem dX7_pointers_9 : decode cX7_pointers 9 = .ok (.iload_n 2, 1) := by decide +kernel
theorem dX7_pointers_10 : decode cX7_pointers 10 = .ok (.ifCond .lt 49, 3) := by decide +kernel
theorem dX7_pointers_13 : decode cX7_pointers 13 = .ok (.aload_n 0, 1) := by decide +kernel
theorem dX7_pointers_14 : decode cX7_pointers 14 = .ok (.iconst 3, 1) := by decide +kernel
theorem dX7_pointers_15 : decode cX7_pointers 15 = .ok (.putfield 120, 3) := by decide +kernel
theorem dX7_pointers_18 : decode cX7_pointers 18 = .ok (.iload_n 2, 1) := by decide +kernel
theorem dX7_pointers_19 : decode cX7_pointers 19 = .ok (.iload_n 1, 1) := by decide +kernel
theorem dX7_pointers_20 : decode cX7_pointers 20 = .ok (.if_icmp .eq 33, 3) := by decide +kernel
theorem dX7_pointers_23 : decode cX7_pointers 23 = .ok (.aload_n 0, 1) := by decide +kernel
theorem dX7_pointers_24 : decode cX7_pointers 24 = .ok (.iload_n 1, 1) := by decide +kernel
theorem dX7_pointers_25 : decode cX7_pointers 25 = .ok (.iload_n 2, 1) := by decide +kernel
theorem dX7_pointers_26 : decode cX7_pointers 26 = .ok (.invokevirtual 116, 3) := by decide +kernel
theorem dX7_pointers_29 : decode cX7_pointers 29 = .ok (.ifCond .eq 24, 3) := by decide +kernel
theorem dX7_pointers_32 : decode cX7_pointers 32 = .ok (.aload_n 0, 1) := by decide +kernel
theorem dX7_pointers_33 : decode cX7_pointers 33 = .ok (.getfield 43, 3) := by decide +kernel
theorem dX7_pointers_36 : decode cX7_pointers 36 = .ok (.iload_n 2, 1) := by decide +kernel
theorem dX7_pointers_37 : decode cX7_pointers 37 = .ok (.iaload, 1) := by decide +kernel
theorem dX7_pointers_38 : decode cX7_pointers 38 = .ok (.ifCond .eq 19, 3) := by decide +kernel
theorem dX7_pointers_41 : decode cX7_pointers 41 = .ok (.aload_n 0, 1) := by decide +kernel
theorem dX7_pointers_42 : decode cX7_pointers 42 = .ok (.getfield 43, 3) := by decide +kernel
theorem dX7_pointers_45 : decode cX7_pointers 45 = .ok (.iload_n 2, 1) := by decide +kernel
theorem dX7_pointers_46 : decode cX7_pointers 46 = .ok (.iaload, 1) := by decide +kernel
theorem dX7_pointers_47 : decode cX7_pointers 47 = .ok (.iload_n 1, 1) := by decide +kernel
theorem dX7_pointers_48 : decode cX7_pointers 48 = .ok (.iconst 1, 1) := by decide +kernel
theorem dX7_pointers_49 : decode cX7_pointers 49 = .ok (.iadd, 1) := by decide +kernel
theorem dX7_pointers_50 : decode cX7_pointers 50 = .ok (.if_icmp .eq 7, 3) := by decide +kernel
theorem dX7_pointers_53 : decode cX7_pointers 53 = .ok (.iconst 0, 1) := by decide +kernel
theorem dX7_pointers_54 : decode cX7_pointers 54 = .ok (.goto 4, 3) := by decide +kernel
theorem dX7_pointers_57 : decode cX7_pointers 57 = .ok (.iconst (-1), 1) := by decide +kernel
theorem dX7_pointers_58 : decode cX7_pointers 58 = .ok (.ireturn, 1) := by decide +kernel
theorem dX7_pointers_59 : decode cX7_pointers 59 = .ok (.aload_n 0, 1) := by decide +kernel
theorem dX7_pointers_60 : decode cX7_pointers 60 = .ok (.iconst 1, 1) := by decide +kernel
theorem dX7_pointers_61 : decode cX7_pointers 61 = .ok (.putfield 120, 3) := by decide +kernel
theorem dX7_pointers_64 : decode cX7_pointers 64 = .ok (.aload_n 0, 1) := by decide +kernel
theorem dX7_pointers_65 : decode cX7_pointers 65 = .ok (.iload_n 1, 1) := by decide +kernel
theorem dX7_pointers_66 : decode cX7_pointers 66 = .ok (.iload_n 1, 1) := by decide +kernel
theorem dX7_pointers_67 : decode cX7_pointers 67 = .ok (.iconst 1, 1) := by decide +kernel
theorem dX7_pointers_68 : decode cX7_pointers 68 = .ok (.iadd, 1) := by decide +kernel
theorem dX7_pointers_69 : decode cX7_pointers 69 = .ok (.invokevirtual 123, 3) := by decide +kernel
theorem dX7_pointers_72 : decode cX7_pointers 72 = .ok (.istore_n 3, 1) := by decide +kernel
theorem dX7_pointers_73 : decode cX7_pointers 73 = .ok (.iload_n 3, 1) := by decide +kernel
theorem dX7_pointers_74 : decode cX7_pointers 74 = .ok (.ifCond .ge 15, 3) := by decide +kernel
theorem dX7_pointers_77 : decode cX7_pointers 77 = .ok (.aload_n 0, 1) := by decide +kernel
theorem dX7_pointers_78 : decode cX7_pointers 78 = .ok (.iconst 2, 1) := by decide +kernel
theorem dX7_pointers_79 : decode cX7_pointers 79 = .ok (.putfield 120, 3) := by decide +kernel
theorem dX7_pointers_82 : decode cX7_pointers 82 = .ok (.aload_n 0, 1) := by decide +kernel
theorem dX7_pointers_83 : decode cX7_pointers 83 = .ok (.iload_n 1, 1) := by decide +kernel
theorem dX7_pointers_84 : decode cX7_pointers 84 = .ok (.iconst 0, 1) := by decide +kernel
theorem dX7_pointers_85 : decode cX7_pointers 85 = .ok (.invokevirtual 123, 3) := by decide +kernel
theorem dX7_pointers_88 : decode cX7_pointers 88 = .ok (.istore_n 3, 1) := by decide +kernel
theorem dX7_pointers_89 : decode cX7_pointers 89 = .ok (.iload_n 3, 1) := by decide +kernel
theorem dX7_pointers_90 : decode cX7_pointers 90 = .ok (.ifCond .ge 7, 3) := by decide +kernel
theorem dX7_pointers_93 : decode cX7_pointers 93 = .ok (.iconst (-1), 1) := by decide +kernel
theorem dX7_pointers_94 : decode cX7_pointers 94 = .ok (.goto 6, 3) := by decide +kernel
theorem dX7_pointers_97 : decode cX7_pointers 97 = .ok (.iload_n 3, 1) := by decide +kernel
theorem dX7_pointers_98 : decode cX7_pointers 98 = .ok (.iconst 1, 1) := by decide +kernel
theorem dX7_pointers_99 : decode cX7_pointers 99 = .ok (.iadd, 1) := by decide +kernel
theorem dX7_pointers_100 : decode cX7_pointers 100 = .ok (.ireturn, 1) := by decide +kernel
theorem dX7_distances_0 : decode cX7_distances 0 = .ok (.aload_n 0, 1) := by decide +kernel
theorem dX7_distances_1 : decode cX7_distances 1 = .ok (.iconst 1, 1) := by decide +kernel
theorem dX7_distances_2 : decode cX7_distances 2 = .ok (.putfield 120, 3) := by decide +kernel
theorem dX7_distances_5 : decode cX7_distances 5 = .ok (.iload_n 1, 1) := by decide +kernel
theorem dX7_distances_6 : decode cX7_distances 6 = .ok (.ifCond .ne 7, 3) := by decide +kernel
theorem dX7_distances_9 : decode cX7_distances 9 = .ok (.iconst 0, 1) := by decide +kernel
theorem dX7_distances_10 : decode cX7_distances 10 = .ok (.goto 9, 3) := by decide +kernel
theorem dX7_distances_13 : decode cX7_distances 13 = .ok (.aload_n 0, 1) := by decide +kernel
theorem dX7_distances_14 : decode cX7_distances 14 = .ok (.getfield 56, 3) := by decide +kernel
theorem dX7_distances_17 : decode cX7_distances 17 = .ok (.iconst 1, 1) := by decide +kernel
theorem dX7_distances_18 : decode cX7_distances 18 = .ok (.isub, 1) := by decide +kernel
theorem dX7_distances_19 : decode cX7_distances 19 = .ok (.istore_n 2, 1) := by decide +kernel
theorem dX7_distances_20 : decode cX7_distances 20 = .ok (.iconst 0, 1) := by decide +kernel
theorem dX7_distances_21 : decode cX7_distances 21 = .ok (.istore_n 3, 1) := by decide +kernel
theorem dX7_distances_22 : decode cX7_distances 22 = .ok (.iload_n 3, 1) := by decide +kernel
theorem dX7_distances_23 : decode cX7_distances 23 = .ok (.aload_n 0, 1) := by decide +kernel
theorem dX7_distances_24 : decode cX7_distances 24 = .ok (.getfield 53, 3) := by decide +kernel
theorem dX7_distances_27 : decode cX7_distances 27 = .ok (.if_icmp .ge 43, 3) := by decide +kernel
theorem dX7_distances_30 : decode cX7_distances 30 = .ok (.iload_n 1, 1) := by decide +kernel
theorem dX7_distances_31 : decode cX7_distances 31 = .ok (.ifCond .le 39, 3) := by decide +kernel
theorem dX7_distances_34 : decode cX7_distances 34 = .ok (.aload_n 0, 1) := by decide +kernel
theorem dX7_distances_35 : decode cX7_distances 35 = .ok (.iload_n 1, 1) := by decide +kernel
theorem dX7_distances_36 : decode cX7_distances 36 = .ok (.iload_n 3, 1) := by decide +kernel
theorem dX7_distances_37 : decode cX7_distances 37 = .ok (.invokevirtual 116, 3) := by decide +kernel
theorem dX7_distances_40 : decode cX7_distances 40 = .ok (.ifCond .eq 24, 3) := by decide +kernel
theorem dX7_distances_43 : decode cX7_distances 43 = .ok (.aload_n 0, 1) := by decide +kernel
theorem dX7_distances_44 : decode cX7_distances 44 = .ok (.getfield 43, 3) := by decide +kernel
theorem dX7_distances_47 : decode cX7_distances 47 = .ok (.iload_n 3, 1) := by decide +kernel
theorem dX7_distances_48 : decode cX7_distances 48 = .ok (.iaload, 1) := by decide +kernel
theorem dX7_distances_49 : decode cX7_distances 49 = .ok (.iconst 1, 1) := by decide +kernel
theorem dX7_distances_50 : decode cX7_distances 50 = .ok (.iadd, 1) := by decide +kernel
theorem dX7_distances_51 : decode cX7_distances 51 = .ok (.iload_n 2, 1) := by decide +kernel
theorem dX7_distances_52 : decode cX7_distances 52 = .ok (.if_icmp .ge 12, 3) := by decide +kernel
theorem dX7_distances_55 : decode cX7_distances 55 = .ok (.aload_n 0, 1) := by decide +kernel
theorem dX7_distances_56 : decode cX7_distances 56 = .ok (.getfield 43, 3) := by decide +kernel
theorem dX7_distances_59 : decode cX7_distances 59 = .ok (.iload_n 3, 1) := by decide +kernel
theorem dX7_distances_60 : decode cX7_distances 60 = .ok (.iaload, 1) := by decide +kernel
theorem dX7_distances_61 : decode cX7_distances 61 = .ok (.iconst 1, 1) := by decide +kernel
theorem dX7_distances_62 : decode cX7_distances 62 = .ok (.iadd, 1) := by decide +kernel
theorem dX7_distances_63 : decode cX7_distances 63 = .ok (.istore_n 2, 1) := by decide +kernel
theorem dX7_distances_64 : decode cX7_distances 64 = .ok (.iinc 3 1, 3) := by decide +kernel
theorem dX7_distances_67 : decode cX7_distances 67 = .ok (.goto (-45), 3) := by decide +kernel
theorem dX7_distances_70 : decode cX7_distances 70 = .ok (.iload_n 2, 1) := by decide +kernel
theorem dX7_distances_71 : decode cX7_distances 71 = .ok (.aload_n 0, 1) := by decide +kernel
theorem dX7_distances_72 : decode cX7_distances 72 = .ok (.getfield 43, 3) := by decide +kernel
theorem dX7_distances_75 : decode cX7_distances 75 = .ok (.iload_n 1, 1) := by decide +kernel
theorem dX7_distances_76 : decode cX7_distances 76 = .ok (.iaload, 1) := by decide +kernel
theorem dX7_distances_77 : decode cX7_distances 77 = .ok (.if_icmp .ne 7, 3) := by decide +kernel
theorem dX7_distances_80 : decode cX7_distances 80 = .ok (.iconst (-1), 1) := by decide +kernel
theorem dX7_distances_81 : decode cX7_distances 81 = .ok (.goto 4, 3) := by decide +kernel
theorem dX7_distances_84 : decode cX7_distances 84 = .ok (.iload_n 2, 1) := by decide +kernel
theorem dX7_distances_85 : decode cX7_distances 85 = .ok (.ireturn, 1) := by decide +kernel
theorem dX7_colours_0 : decode cX7_colours 0 = .ok (.aload_n 0, 1) := by decide +kernel
theorem dX7_colours_1 : decode cX7_colours 1 = .ok (.iconst 1, 1) := by decide +kernel
theorem dX7_colours_2 : decode cX7_colours 2 = .ok (.putfield 120, 3) := by decide +kernel
theorem dX7_colours_5 : decode cX7_colours 5 = .ok (.aload_n 0, 1) := by decide +kernel
theorem dX7_colours_6 : decode cX7_colours 6 = .ok (.iload_n 1, 1) := by decide +kernel
theorem dX7_colours_7 : decode cX7_colours 7 = .ok (.aload_n 0, 1) := by decide +kernel
theorem dX7_colours_8 : decode cX7_colours 8 = .ok (.getfield 43, 3) := by decide +kernel
theorem dX7_colours_11 : decode cX7_colours 11 = .ok (.iload_n 1, 1) := by decide +kernel
theorem dX7_colours_12 : decode cX7_colours 12 = .ok (.iaload, 1) := by decide +kernel
theorem dX7_colours_13 : decode cX7_colours 13 = .ok (.invokevirtual 123, 3) := by decide +kernel
theorem dX7_colours_16 : decode cX7_colours 16 = .ok (.ifCond .ge 5, 3) := by decide +kernel
theorem dX7_colours_19 : decode cX7_colours 19 = .ok (.iconst (-1), 1) := by decide +kernel
theorem dX7_colours_20 : decode cX7_colours 20 = .ok (.ireturn, 1) := by decide +kernel
theorem dX7_colours_21 : decode cX7_colours 21 = .ok (.iconst 0, 1) := by decide +kernel
theorem dX7_colours_22 : decode cX7_colours 22 = .ok (.istore_n 2, 1) := by decide +kernel
theorem dX7_colours_23 : decode cX7_colours 23 = .ok (.aload_n 0, 1) := by decide +kernel
theorem dX7_colours_24 : decode cX7_colours 24 = .ok (.iload_n 1, 1) := by decide +kernel
theorem dX7_colours_25 : decode cX7_colours 25 = .ok (.iload_n 2, 1) := by decide +kernel
theorem dX7_colours_26 : decode cX7_colours 26 = .ok (.invokevirtual 123, 3) := by decide +kernel
theorem dX7_colours_29 : decode cX7_colours 29 = .ok (.ifCond .lt 9, 3) := by decide +kernel
theorem dX7_colours_32 : decode cX7_colours 32 = .ok (.iinc 2 1, 3) := by decide +kernel
theorem dX7_colours_35 : decode cX7_colours 35 = .ok (.goto (-12), 3) := by decide +kernel
theorem dX7_colours_38 : decode cX7_colours 38 = .ok (.iload_n 2, 1) := by decide +kernel
theorem dX7_colours_39 : decode cX7_colours 39 = .ok (.ireturn, 1) := by decide +kernel
theorem dX7_becomesOf_0 : decode cX7_becomesOf 0 = .ok (.aload_n 0, 1) := by decide +kernel
theorem dX7_becomesOf_1 : decode cX7_becomesOf 1 = .ok (.getfield 49, 3) := by decide +kernel
theorem dX7_becomesOf_4 : decode cX7_becomesOf 4 = .ok (.iconst 1, 1) := by decide +kernel
theorem dX7_becomesOf_5 : decode cX7_becomesOf 5 = .ok (.if_icmp .ne 11, 3) := by decide +kernel
theorem dX7_becomesOf_8 : decode cX7_becomesOf 8 = .ok (.aload_n 0, 1) := by decide +kernel
theorem dX7_becomesOf_9 : decode cX7_becomesOf 9 = .ok (.iload_n 1, 1) := by decide +kernel
theorem dX7_becomesOf_10 : decode cX7_becomesOf 10 = .ok (.invokevirtual 126, 3) := by decide +kernel
theorem dX7_becomesOf_13 : decode cX7_becomesOf 13 = .ok (.goto 40, 3) := by decide +kernel
theorem dX7_becomesOf_16 : decode cX7_becomesOf 16 = .ok (.aload_n 0, 1) := by decide +kernel
theorem dX7_becomesOf_17 : decode cX7_becomesOf 17 = .ok (.getfield 49, 3) := by decide +kernel
theorem dX7_becomesOf_20 : decode cX7_becomesOf 20 = .ok (.iconst 2, 1) := by decide +kernel
theorem dX7_becomesOf_21 : decode cX7_becomesOf 21 = .ok (.if_icmp .ne 11, 3) := by decide +kernel
theorem dX7_becomesOf_24 : decode cX7_becomesOf 24 = .ok (.aload_n 0, 1) := by decide +kernel
theorem dX7_becomesOf_25 : decode cX7_becomesOf 25 = .ok (.iload_n 1, 1) := by decide +kernel
theorem dX7_becomesOf_26 : decode cX7_becomesOf 26 = .ok (.invokevirtual 129, 3) := by decide +kernel
theorem dX7_becomesOf_29 : decode cX7_becomesOf 29 = .ok (.goto 24, 3) := by decide +kernel
theorem dX7_becomesOf_32 : decode cX7_becomesOf 32 = .ok (.aload_n 0, 1) := by decide +kernel
theorem dX7_becomesOf_33 : decode cX7_becomesOf 33 = .ok (.getfield 49, 3) := by decide +kernel
theorem dX7_becomesOf_36 : decode cX7_becomesOf 36 = .ok (.iconst 3, 1) := by decide +kernel
theorem dX7_becomesOf_37 : decode cX7_becomesOf 37 = .ok (.if_icmp .ne 11, 3) := by decide +kernel
theorem dX7_becomesOf_40 : decode cX7_becomesOf 40 = .ok (.aload_n 0, 1) := by decide +kernel
theorem dX7_becomesOf_41 : decode cX7_becomesOf 41 = .ok (.iload_n 1, 1) := by decide +kernel
theorem dX7_becomesOf_42 : decode cX7_becomesOf 42 = .ok (.invokevirtual 132, 3) := by decide +kernel
theorem dX7_becomesOf_45 : decode cX7_becomesOf 45 = .ok (.goto 8, 3) := by decide +kernel
theorem dX7_becomesOf_48 : decode cX7_becomesOf 48 = .ok (.aload_n 0, 1) := by decide +kernel
theorem dX7_becomesOf_49 : decode cX7_becomesOf 49 = .ok (.iload_n 1, 1) := by decide +kernel
theorem dX7_becomesOf_50 : decode cX7_becomesOf 50 = .ok (.invokevirtual 135, 3) := by decide +kernel
theorem dX7_becomesOf_53 : decode cX7_becomesOf 53 = .ok (.ireturn, 1) := by decide +kernel
theorem dX7_tokensOf_0 : decode cX7_tokensOf 0 = .ok (.iconst 0, 1) := by decide +kernel
theorem dX7_tokensOf_1 : decode cX7_tokensOf 1 = .ok (.istore_n 1, 1) := by decide +kernel
theorem dX7_tokensOf_2 : decode cX7_tokensOf 2 = .ok (.iconst 0, 1) := by decide +kernel
theorem dX7_tokensOf_3 : decode cX7_tokensOf 3 = .ok (.istore_n 2, 1) := by decide +kernel
theorem dX7_tokensOf_4 : decode cX7_tokensOf 4 = .ok (.iload_n 2, 1) := by decide +kernel
theorem dX7_tokensOf_5 : decode cX7_tokensOf 5 = .ok (.aload_n 0, 1) := by decide +kernel
theorem dX7_tokensOf_6 : decode cX7_tokensOf 6 = .ok (.getfield 53, 3) := by decide +kernel
theorem dX7_tokensOf_9 : decode cX7_tokensOf 9 = .ok (.if_icmp .ge 27, 3) := by decide +kernel
theorem dX7_tokensOf_12 : decode cX7_tokensOf 12 = .ok (.iload_n 1, 1) := by decide +kernel
theorem dX7_tokensOf_13 : decode cX7_tokensOf 13 = .ok (.aload_n 0, 1) := by decide +kernel
theorem dX7_tokensOf_14 : decode cX7_tokensOf 14 = .ok (.iload_n 2, 1) := by decide +kernel
theorem dX7_tokensOf_15 : decode cX7_tokensOf 15 = .ok (.invokevirtual 138, 3) := by decide +kernel
theorem dX7_tokensOf_18 : decode cX7_tokensOf 18 = .ok (.ifCond .lt 9, 3) := by decide +kernel
theorem dX7_tokensOf_21 : decode cX7_tokensOf 21 = .ok (.iconst 1, 1) := by decide +kernel
theorem dX7_tokensOf_22 : decode cX7_tokensOf 22 = .ok (.iload_n 2, 1) := by decide +kernel
theorem dX7_tokensOf_23 : decode cX7_tokensOf 23 = .ok (.ishl, 1) := by decide +kernel
theorem dX7_tokensOf_24 : decode cX7_tokensOf 24 = .ok (.goto 4, 3) := by decide +kernel
theorem dX7_tokensOf_27 : decode cX7_tokensOf 27 = .ok (.iconst 0, 1) := by decide +kernel
theorem dX7_tokensOf_28 : decode cX7_tokensOf 28 = .ok (.ior, 1) := by decide +kernel
theorem dX7_tokensOf_29 : decode cX7_tokensOf 29 = .ok (.istore_n 1, 1) := by decide +kernel
theorem dX7_tokensOf_30 : decode cX7_tokensOf 30 = .ok (.iinc 2 1, 3) := by decide +kernel
theorem dX7_tokensOf_33 : decode cX7_tokensOf 33 = .ok (.goto (-29), 3) := by decide +kernel
theorem dX7_tokensOf_36 : decode cX7_tokensOf 36 = .ok (.iload_n 1, 1) := by decide +kernel
theorem dX7_tokensOf_37 : decode cX7_tokensOf 37 = .ok (.ireturn, 1) := by decide +kernel
theorem dX7_isLegal_0 : decode cX7_isLegal 0 = .ok (.aload_n 0, 1) := by decide +kernel
theorem dX7_isLegal_1 : decode cX7_isLegal 1 = .ok (.invokevirtual 141, 3) := by decide +kernel
theorem dX7_isLegal_4 : decode cX7_isLegal 4 = .ok (.istore_n 1, 1) := by decide +kernel
theorem dX7_isLegal_5 : decode cX7_isLegal 5 = .ok (.aload_n 0, 1) := by decide +kernel
theorem dX7_isLegal_6 : decode cX7_isLegal 6 = .ok (.getfield 49, 3) := by decide +kernel
theorem dX7_isLegal_9 : decode cX7_isLegal 9 = .ok (.iconst 1, 1) := by decide +kernel
theorem dX7_isLegal_10 : decode cX7_isLegal 10 = .ok (.if_icmp .ne 23, 3) := by decide +kernel
theorem dX7_isLegal_13 : decode cX7_isLegal 13 = .ok (.iload_n 1, 1) := by decide +kernel
theorem dX7_isLegal_14 : decode cX7_isLegal 14 = .ok (.ifCond .eq 15, 3) := by decide +kernel
theorem dX7_isLegal_17 : decode cX7_isLegal 17 = .ok (.iload_n 1, 1) := by decide +kernel
theorem dX7_isLegal_18 : decode cX7_isLegal 18 = .ok (.iload_n 1, 1) := by decide +kernel
theorem dX7_isLegal_19 : decode cX7_isLegal 19 = .ok (.iconst 1, 1) := by decide +kernel
theorem dX7_isLegal_20 : decode cX7_isLegal 20 = .ok (.isub, 1) := by decide +kernel
theorem dX7_isLegal_21 : decode cX7_isLegal 21 = .ok (.iand, 1) := by decide +kernel
theorem dX7_isLegal_22 : decode cX7_isLegal 22 = .ok (.ifCond .ne 7, 3) := by decide +kernel
theorem dX7_isLegal_25 : decode cX7_isLegal 25 = .ok (.iconst 1, 1) := by decide +kernel
theorem dX7_isLegal_26 : decode cX7_isLegal 26 = .ok (.goto 16, 3) := by decide +kernel
theorem dX7_isLegal_29 : decode cX7_isLegal 29 = .ok (.iconst 0, 1) := by decide +kernel
theorem dX7_isLegal_30 : decode cX7_isLegal 30 = .ok (.goto 12, 3) := by decide +kernel
theorem dX7_isLegal_33 : decode cX7_isLegal 33 = .ok (.iload_n 1, 1) := by decide +kernel
theorem dX7_isLegal_34 : decode cX7_isLegal 34 = .ok (.ifCond .ne 7, 3) := by decide +kernel
theorem dX7_isLegal_37 : decode cX7_isLegal 37 = .ok (.iconst 1, 1) := by decide +kernel
theorem dX7_isLegal_38 : decode cX7_isLegal 38 = .ok (.goto 4, 3) := by decide +kernel
theorem dX7_isLegal_41 : decode cX7_isLegal 41 = .ok (.iconst 0, 1) := by decide +kernel
theorem dX7_isLegal_42 : decode cX7_isLegal 42 = .ok (.ireturn, 1) := by decide +kernel
theorem dX7_rowOf_0 : decode cX7_rowOf 0 = .ok (.iload_n 1, 1) := by decide +kernel
theorem dX7_rowOf_1 : decode cX7_rowOf 1 = .ok (.istore_n 2, 1) := by decide +kernel
theorem dX7_rowOf_2 : decode cX7_rowOf 2 = .ok (.iconst 0, 1) := by decide +kernel
theorem dX7_rowOf_3 : decode cX7_rowOf 3 = .ok (.istore_n 3, 1) := by decide +kernel
theorem dX7_rowOf_4 : decode cX7_rowOf 4 = .ok (.iload_n 3, 1) := by decide +kernel
theorem dX7_rowOf_5 : decode cX7_rowOf 5 = .ok (.aload_n 0, 1) := by decide +kernel
theorem dX7_rowOf_6 : decode cX7_rowOf 6 = .ok (.getfield 53, 3) := by decide +kernel
theorem dX7_rowOf_9 : decode cX7_rowOf 9 = .ok (.if_icmp .ge 28, 3) := by decide +kernel
theorem dX7_rowOf_12 : decode cX7_rowOf 12 = .ok (.aload_n 0, 1) := by decide +kernel
theorem dX7_rowOf_13 : decode cX7_rowOf 13 = .ok (.getfield 43, 3) := by decide +kernel
theorem dX7_rowOf_16 : decode cX7_rowOf 16 = .ok (.iload_n 3, 1) := by decide +kernel
theorem dX7_rowOf_17 : decode cX7_rowOf 17 = .ok (.iload_n 2, 1) := by decide +kernel
theorem dX7_rowOf_18 : decode cX7_rowOf 18 = .ok (.aload_n 0, 1) := by decide +kernel
theorem dX7_rowOf_19 : decode cX7_rowOf 19 = .ok (.getfield 56, 3) := by decide +kernel
theorem dX7_rowOf_22 : decode cX7_rowOf 22 = .ok (.irem, 1) := by decide +kernel
theorem dX7_rowOf_23 : decode cX7_rowOf 23 = .ok (.iastore, 1) := by decide +kernel
theorem dX7_rowOf_24 : decode cX7_rowOf 24 = .ok (.iload_n 2, 1) := by decide +kernel
theorem dX7_rowOf_25 : decode cX7_rowOf 25 = .ok (.aload_n 0, 1) := by decide +kernel
theorem dX7_rowOf_26 : decode cX7_rowOf 26 = .ok (.getfield 56, 3) := by decide +kernel
theorem dX7_rowOf_29 : decode cX7_rowOf 29 = .ok (.idiv, 1) := by decide +kernel
theorem dX7_rowOf_30 : decode cX7_rowOf 30 = .ok (.istore_n 2, 1) := by decide +kernel
theorem dX7_rowOf_31 : decode cX7_rowOf 31 = .ok (.iinc 3 1, 3) := by decide +kernel
theorem dX7_rowOf_34 : decode cX7_rowOf 34 = .ok (.goto (-30), 3) := by decide +kernel
theorem dX7_rowOf_37 : decode cX7_rowOf 37 = .ok (.return_, 1) := by decide +kernel
theorem dX7_rowNow_0 : decode cX7_rowNow 0 = .ok (.iconst 0, 1) := by decide +kernel
theorem dX7_rowNow_1 : decode cX7_rowNow 1 = .ok (.istore_n 1, 1) := by decide +kernel
theorem dX7_rowNow_2 : decode cX7_rowNow 2 = .ok (.iload_n 1, 1) := by decide +kernel
theorem dX7_rowNow_3 : decode cX7_rowNow 3 = .ok (.aload_n 0, 1) := by decide +kernel
theorem dX7_rowNow_4 : decode cX7_rowNow 4 = .ok (.getfield 53, 3) := by decide +kernel
theorem dX7_rowNow_7 : decode cX7_rowNow 7 = .ok (.if_icmp .ge 21, 3) := by decide +kernel
theorem dX7_rowNow_10 : decode cX7_rowNow 10 = .ok (.aload_n 0, 1) := by decide +kernel
theorem dX7_rowNow_11 : decode cX7_rowNow 11 = .ok (.getfield 43, 3) := by decide +kernel
theorem dX7_rowNow_14 : decode cX7_rowNow 14 = .ok (.iload_n 1, 1) := by decide +kernel
theorem dX7_rowNow_15 : decode cX7_rowNow 15 = .ok (.aload_n 0, 1) := by decide +kernel
theorem dX7_rowNow_16 : decode cX7_rowNow 16 = .ok (.getfield 19, 3) := by decide +kernel
theorem dX7_rowNow_19 : decode cX7_rowNow 19 = .ok (.iload_n 1, 1) := by decide +kernel
theorem dX7_rowNow_20 : decode cX7_rowNow 20 = .ok (.iaload, 1) := by decide +kernel
theorem dX7_rowNow_21 : decode cX7_rowNow 21 = .ok (.iastore, 1) := by decide +kernel
theorem dX7_rowNow_22 : decode cX7_rowNow 22 = .ok (.iinc 1 1, 3) := by decide +kernel
theorem dX7_rowNow_25 : decode cX7_rowNow 25 = .ok (.goto (-23), 3) := by decide +kernel
theorem dX7_rowNow_28 : decode cX7_rowNow 28 = .ok (.return_, 1) := by decide +kernel
theorem dX7_codeOf_0 : decode cX7_codeOf 0 = .ok (.iconst 0, 1) := by decide +kernel
theorem dX7_codeOf_1 : decode cX7_codeOf 1 = .ok (.istore_n 1, 1) := by decide +kernel
theorem dX7_codeOf_2 : decode cX7_codeOf 2 = .ok (.iconst 0, 1) := by decide +kernel
theorem dX7_codeOf_3 : decode cX7_codeOf 3 = .ok (.istore_n 2, 1) := by decide +kernel
theorem dX7_codeOf_4 : decode cX7_codeOf 4 = .ok (.iload_n 2, 1) := by decide +kernel
theorem dX7_codeOf_5 : decode cX7_codeOf 5 = .ok (.aload_n 0, 1) := by decide +kernel
theorem dX7_codeOf_6 : decode cX7_codeOf 6 = .ok (.getfield 53, 3) := by decide +kernel
theorem dX7_codeOf_9 : decode cX7_codeOf 9 = .ok (.if_icmp .ge 25, 3) := by decide +kernel
theorem dX7_codeOf_12 : decode cX7_codeOf 12 = .ok (.iload_n 1, 1) := by decide +kernel
theorem dX7_codeOf_13 : decode cX7_codeOf 13 = .ok (.aload_n 0, 1) := by decide +kernel
theorem dX7_codeOf_14 : decode cX7_codeOf 14 = .ok (.getfield 43, 3) := by decide +kernel
theorem dX7_codeOf_17 : decode cX7_codeOf 17 = .ok (.iload_n 2, 1) := by decide +kernel
theorem dX7_codeOf_18 : decode cX7_codeOf 18 = .ok (.iaload, 1) := by decide +kernel
theorem dX7_codeOf_19 : decode cX7_codeOf 19 = .ok (.aload_n 0, 1) := by decide +kernel
theorem dX7_codeOf_20 : decode cX7_codeOf 20 = .ok (.getfield 16, 3) := by decide +kernel
theorem dX7_codeOf_23 : decode cX7_codeOf 23 = .ok (.iload_n 2, 1) := by decide +kernel
theorem dX7_codeOf_24 : decode cX7_codeOf 24 = .ok (.iaload, 1) := by decide +kernel
theorem dX7_codeOf_25 : decode cX7_codeOf 25 = .ok (.imul, 1) := by decide +kernel
theorem dX7_codeOf_26 : decode cX7_codeOf 26 = .ok (.iadd, 1) := by decide +kernel
theorem dX7_codeOf_27 : decode cX7_codeOf 27 = .ok (.istore_n 1, 1) := by decide +kernel
theorem dX7_codeOf_28 : decode cX7_codeOf 28 = .ok (.iinc 2 1, 3) := by decide +kernel
theorem dX7_codeOf_31 : decode cX7_codeOf 31 = .ok (.goto (-27), 3) := by decide +kernel
theorem dX7_codeOf_34 : decode cX7_codeOf 34 = .ok (.iload_n 1, 1) := by decide +kernel
theorem dX7_codeOf_35 : decode cX7_codeOf 35 = .ok (.ireturn, 1) := by decide +kernel
theorem dX7_valuesOf_0 : decode cX7_valuesOf 0 = .ok (.aload_n 0, 1) := by decide +kernel
theorem dX7_valuesOf_1 : decode cX7_valuesOf 1 = .ok (.iload_n 1, 1) := by decide +kernel
theorem dX7_valuesOf_2 : decode cX7_valuesOf 2 = .ok (.invokevirtual 144, 3) := by decide +kernel
theorem dX7_valuesOf_5 : decode cX7_valuesOf 5 = .ok (.iconst 0, 1) := by decide +kernel
theorem dX7_valuesOf_6 : decode cX7_valuesOf 6 = .ok (.istore_n 2, 1) := by decide +kernel
theorem dX7_valuesOf_7 : decode cX7_valuesOf 7 = .ok (.iload_n 2, 1) := by decide +kernel
theorem dX7_valuesOf_8 : decode cX7_valuesOf 8 = .ok (.aload_n 0, 1) := by decide +kernel
theorem dX7_valuesOf_9 : decode cX7_valuesOf 9 = .ok (.getfield 53, 3) := by decide +kernel
theorem dX7_valuesOf_12 : decode cX7_valuesOf 12 = .ok (.if_icmp .ge 21, 3) := by decide +kernel
theorem dX7_valuesOf_15 : decode cX7_valuesOf 15 = .ok (.aload_n 0, 1) := by decide +kernel
theorem dX7_valuesOf_16 : decode cX7_valuesOf 16 = .ok (.getfield 19, 3) := by decide +kernel
theorem dX7_valuesOf_19 : decode cX7_valuesOf 19 = .ok (.iload_n 2, 1) := by decide +kernel
theorem dX7_valuesOf_20 : decode cX7_valuesOf 20 = .ok (.aload_n 0, 1) := by decide +kernel
theorem dX7_valuesOf_21 : decode cX7_valuesOf 21 = .ok (.getfield 43, 3) := by decide +kernel
theorem dX7_valuesOf_24 : decode cX7_valuesOf 24 = .ok (.iload_n 2, 1) := by decide +kernel
theorem dX7_valuesOf_25 : decode cX7_valuesOf 25 = .ok (.iaload, 1) := by decide +kernel
theorem dX7_valuesOf_26 : decode cX7_valuesOf 26 = .ok (.iastore, 1) := by decide +kernel
theorem dX7_valuesOf_27 : decode cX7_valuesOf 27 = .ok (.iinc 2 1, 3) := by decide +kernel
theorem dX7_valuesOf_30 : decode cX7_valuesOf 30 = .ok (.goto (-23), 3) := by decide +kernel
theorem dX7_valuesOf_33 : decode cX7_valuesOf 33 = .ok (.return_, 1) := by decide +kernel
theorem dX7_value_0 : decode cX7_value 0 = .ok (.aload_n 0, 1) := by decide +kernel
theorem dX7_value_1 : decode cX7_value 1 = .ok (.iload_n 1, 1) := by decide +kernel
theorem dX7_value_2 : decode cX7_value 2 = .ok (.invokevirtual 148, 3) := by decide +kernel
theorem dX7_value_5 : decode cX7_value 5 = .ok (.ifCond .eq 12, 3) := by decide +kernel
theorem dX7_value_8 : decode cX7_value 8 = .ok (.aload_n 0, 1) := by decide +kernel
theorem dX7_value_9 : decode cX7_value 9 = .ok (.getfield 19, 3) := by decide +kernel
theorem dX7_value_12 : decode cX7_value 12 = .ok (.iload_n 1, 1) := by decide +kernel
theorem dX7_value_13 : decode cX7_value 13 = .ok (.iaload, 1) := by decide +kernel
theorem dX7_value_14 : decode cX7_value 14 = .ok (.goto 4, 3) := by decide +kernel
theorem dX7_value_17 : decode cX7_value 17 = .ok (.iconst (-1), 1) := by decide +kernel
theorem dX7_value_18 : decode cX7_value 18 = .ok (.ireturn, 1) := by decide +kernel
theorem dX7_keeps_0 : decode cX7_keeps 0 = .ok (.aload_n 0, 1) := by decide +kernel
theorem dX7_keeps_1 : decode cX7_keeps 1 = .ok (.getfield 68, 3) := by decide +kernel
theorem dX7_keeps_4 : decode cX7_keeps 4 = .ok (.bipush 6, 2) := by decide +kernel
theorem dX7_keeps_6 : decode cX7_keeps 6 = .ok (.if_icmp .ne 55, 3) := by decide +kernel
theorem dX7_keeps_9 : decode cX7_keeps 9 = .ok (.iconst 1, 1) := by decide +kernel
theorem dX7_keeps_10 : decode cX7_keeps 10 = .ok (.istore_n 1, 1) := by decide +kernel
theorem dX7_keeps_11 : decode cX7_keeps 11 = .ok (.iload_n 1, 1) := by decide +kernel
theorem dX7_keeps_12 : decode cX7_keeps 12 = .ok (.bipush 6, 2) := by decide +kernel
theorem dX7_keeps_14 : decode cX7_keeps 14 = .ok (.if_icmp .ge 37, 3) := by decide +kernel
theorem dX7_keeps_17 : decode cX7_keeps 17 = .ok (.aload_n 0, 1) := by decide +kernel
theorem dX7_keeps_18 : decode cX7_keeps 18 = .ok (.getfield 28, 3) := by decide +kernel
theorem dX7_keeps_21 : decode cX7_keeps 21 = .ok (.iload_n 1, 1) := by decide +kernel
theorem dX7_keeps_22 : decode cX7_keeps 22 = .ok (.iconst 1, 1) := by decide +kernel
theorem dX7_keeps_23 : decode cX7_keeps 23 = .ok (.isub, 1) := by decide +kernel
theorem dX7_keeps_24 : decode cX7_keeps 24 = .ok (.aload_n 0, 1) := by decide +kernel
theorem dX7_keeps_25 : decode cX7_keeps 25 = .ok (.getfield 28, 3) := by decide +kernel
theorem dX7_keeps_28 : decode cX7_keeps 28 = .ok (.iload_n 1, 1) := by decide +kernel
theorem dX7_keeps_29 : decode cX7_keeps 29 = .ok (.iaload, 1) := by decide +kernel
theorem dX7_keeps_30 : decode cX7_keeps 30 = .ok (.iastore, 1) := by decide +kernel
theorem dX7_keeps_31 : decode cX7_keeps 31 = .ok (.aload_n 0, 1) := by decide +kernel
theorem dX7_keeps_32 : decode cX7_keeps 32 = .ok (.getfield 31, 3) := by decide +kernel
theorem dX7_keeps_35 : decode cX7_keeps 35 = .ok (.iload_n 1, 1) := by decide +kernel
theorem dX7_keeps_36 : decode cX7_keeps 36 = .ok (.iconst 1, 1) := by decide +kernel
theorem dX7_keeps_37 : decode cX7_keeps 37 = .ok (.isub, 1) := by decide +kernel
theorem dX7_keeps_38 : decode cX7_keeps 38 = .ok (.aload_n 0, 1) := by decide +kernel
theorem dX7_keeps_39 : decode cX7_keeps 39 = .ok (.getfield 31, 3) := by decide +kernel
theorem dX7_keeps_42 : decode cX7_keeps 42 = .ok (.iload_n 1, 1) := by decide +kernel
theorem dX7_keeps_43 : decode cX7_keeps 43 = .ok (.iaload, 1) := by decide +kernel
theorem dX7_keeps_44 : decode cX7_keeps 44 = .ok (.iastore, 1) := by decide +kernel
theorem dX7_keeps_45 : decode cX7_keeps 45 = .ok (.iinc 1 1, 3) := by decide +kernel
theorem dX7_keeps_48 : decode cX7_keeps 48 = .ok (.goto (-37), 3) := by decide +kernel
theorem dX7_keeps_51 : decode cX7_keeps 51 = .ok (.aload_n 0, 1) := by decide +kernel
theorem dX7_keeps_52 : decode cX7_keeps 52 = .ok (.dup, 1) := by decide +kernel
theorem dX7_keeps_53 : decode cX7_keeps 53 = .ok (.getfield 68, 3) := by decide +kernel
theorem dX7_keeps_56 : decode cX7_keeps 56 = .ok (.iconst 1, 1) := by decide +kernel
theorem dX7_keeps_57 : decode cX7_keeps 57 = .ok (.isub, 1) := by decide +kernel
theorem dX7_keeps_58 : decode cX7_keeps 58 = .ok (.putfield 68, 3) := by decide +kernel
theorem dX7_keeps_61 : decode cX7_keeps 61 = .ok (.aload_n 0, 1) := by decide +kernel
theorem dX7_keeps_62 : decode cX7_keeps 62 = .ok (.invokevirtual 151, 3) := by decide +kernel
theorem dX7_keeps_65 : decode cX7_keeps 65 = .ok (.aload_n 0, 1) := by decide +kernel
theorem dX7_keeps_66 : decode cX7_keeps 66 = .ok (.getfield 28, 3) := by decide +kernel
theorem dX7_keeps_69 : decode cX7_keeps 69 = .ok (.aload_n 0, 1) := by decide +kernel
theorem dX7_keeps_70 : decode cX7_keeps 70 = .ok (.getfield 68, 3) := by decide +kernel
theorem dX7_keeps_73 : decode cX7_keeps 73 = .ok (.aload_n 0, 1) := by decide +kernel
theorem dX7_keeps_74 : decode cX7_keeps 74 = .ok (.invokevirtual 154, 3) := by decide +kernel
theorem dX7_keeps_77 : decode cX7_keeps 77 = .ok (.iastore, 1) := by decide +kernel
theorem dX7_keeps_78 : decode cX7_keeps 78 = .ok (.aload_n 0, 1) := by decide +kernel
theorem dX7_keeps_79 : decode cX7_keeps 79 = .ok (.getfield 31, 3) := by decide +kernel
theorem dX7_keeps_82 : decode cX7_keeps 82 = .ok (.aload_n 0, 1) := by decide +kernel
theorem dX7_keeps_83 : decode cX7_keeps 83 = .ok (.getfield 68, 3) := by decide +kernel
theorem dX7_keeps_86 : decode cX7_keeps 86 = .ok (.aload_n 0, 1) := by decide +kernel
theorem dX7_keeps_87 : decode cX7_keeps 87 = .ok (.getfield 65, 3) := by decide +kernel
theorem dX7_keeps_90 : decode cX7_keeps 90 = .ok (.iastore, 1) := by decide +kernel
theorem dX7_keeps_91 : decode cX7_keeps 91 = .ok (.aload_n 0, 1) := by decide +kernel
theorem dX7_keeps_92 : decode cX7_keeps 92 = .ok (.dup, 1) := by decide +kernel
theorem dX7_keeps_93 : decode cX7_keeps 93 = .ok (.getfield 68, 3) := by decide +kernel
theorem dX7_keeps_96 : decode cX7_keeps 96 = .ok (.iconst 1, 1) := by decide +kernel
theorem dX7_keeps_97 : decode cX7_keeps 97 = .ok (.iadd, 1) := by decide +kernel
theorem dX7_keeps_98 : decode cX7_keeps 98 = .ok (.putfield 68, 3) := by decide +kernel
theorem dX7_keeps_101 : decode cX7_keeps 101 = .ok (.return_, 1) := by decide +kernel
theorem dX7_hit_0 : decode cX7_hit 0 = .ok (.aload_n 0, 1) := by decide +kernel
theorem dX7_hit_1 : decode cX7_hit 1 = .ok (.iload_n 1, 1) := by decide +kernel
theorem dX7_hit_2 : decode cX7_hit 2 = .ok (.invokevirtual 148, 3) := by decide +kernel
theorem dX7_hit_5 : decode cX7_hit 5 = .ok (.ifCond .eq 17, 3) := by decide +kernel
theorem dX7_hit_8 : decode cX7_hit 8 = .ok (.iload_n 2, 1) := by decide +kernel
theorem dX7_hit_9 : decode cX7_hit 9 = .ok (.iconst 0, 1) := by decide +kernel
theorem dX7_hit_10 : decode cX7_hit 10 = .ok (.aload_n 0, 1) := by decide +kernel
theorem dX7_hit_11 : decode cX7_hit 11 = .ok (.getfield 56, 3) := by decide +kernel
theorem dX7_hit_14 : decode cX7_hit 14 = .ok (.iconst 1, 1) := by decide +kernel
theorem dX7_hit_15 : decode cX7_hit 15 = .ok (.isub, 1) := by decide +kernel
theorem dX7_hit_16 : decode cX7_hit 16 = .ok (.invokestatic 88, 3) := by decide +kernel
theorem dX7_hit_19 : decode cX7_hit 19 = .ok (.ifCond .ne 5, 3) := by decide +kernel
theorem dX7_hit_22 : decode cX7_hit 22 = .ok (.iconst (-1), 1) := by decide +kernel
theorem dX7_hit_23 : decode cX7_hit 23 = .ok (.ireturn, 1) := by decide +kernel
theorem dX7_hit_24 : decode cX7_hit 24 = .ok (.aload_n 0, 1) := by decide +kernel
theorem dX7_hit_25 : decode cX7_hit 25 = .ok (.getfield 19, 3) := by decide +kernel
theorem dX7_hit_28 : decode cX7_hit 28 = .ok (.iload_n 1, 1) := by decide +kernel
theorem dX7_hit_29 : decode cX7_hit 29 = .ok (.iaload, 1) := by decide +kernel
theorem dX7_hit_30 : decode cX7_hit 30 = .ok (.istore_n 3, 1) := by decide +kernel
theorem dX7_hit_31 : decode cX7_hit 31 = .ok (.iload_n 3, 1) := by decide +kernel
theorem dX7_hit_32 : decode cX7_hit 32 = .ok (.iload_n 2, 1) := by decide +kernel
theorem dX7_hit_33 : decode cX7_hit 33 = .ok (.if_icmp .ne 6, 3) := by decide +kernel
theorem dX7_hit_36 : decode cX7_hit 36 = .ok (.bipush (-2), 2) := by decide +kernel
theorem dX7_hit_38 : decode cX7_hit 38 = .ok (.ireturn, 1) := by decide +kernel
theorem dX7_hit_39 : decode cX7_hit 39 = .ok (.aload_n 0, 1) := by decide +kernel
theorem dX7_hit_40 : decode cX7_hit 40 = .ok (.invokevirtual 157, 3) := by decide +kernel
theorem dX7_hit_43 : decode cX7_hit 43 = .ok (.aload_n 0, 1) := by decide +kernel
theorem dX7_hit_44 : decode cX7_hit 44 = .ok (.getfield 19, 3) := by decide +kernel
theorem dX7_hit_47 : decode cX7_hit 47 = .ok (.iload_n 1, 1) := by decide +kernel
theorem dX7_hit_48 : decode cX7_hit 48 = .ok (.iload_n 2, 1) := by decide +kernel
theorem dX7_hit_49 : decode cX7_hit 49 = .ok (.iastore, 1) := by decide +kernel
theorem dX7_hit_50 : decode cX7_hit 50 = .ok (.iload_n 3, 1) := by decide +kernel
theorem dX7_hit_51 : decode cX7_hit 51 = .ok (.ireturn, 1) := by decide +kernel
theorem dX7_code_0 : decode cX7_code 0 = .ok (.aload_n 0, 1) := by decide +kernel
theorem dX7_code_1 : decode cX7_code 1 = .ok (.invokevirtual 151, 3) := by decide +kernel
theorem dX7_code_4 : decode cX7_code 4 = .ok (.aload_n 0, 1) := by decide +kernel
theorem dX7_code_5 : decode cX7_code 5 = .ok (.invokevirtual 154, 3) := by decide +kernel
theorem dX7_code_8 : decode cX7_code 8 = .ok (.ireturn, 1) := by decide +kernel
theorem dX7_turn_0 : decode cX7_turn 0 = .ok (.iload_n 1, 1) := by decide +kernel
theorem dX7_turn_1 : decode cX7_turn 1 = .ok (.iconst 0, 1) := by decide +kernel
theorem dX7_turn_2 : decode cX7_turn 2 = .ok (.aload_n 0, 1) := by decide +kernel
theorem dX7_turn_3 : decode cX7_turn 3 = .ok (.getfield 62, 3) := by decide +kernel
theorem dX7_turn_6 : decode cX7_turn 6 = .ok (.iconst 1, 1) := by decide +kernel
theorem dX7_turn_7 : decode cX7_turn 7 = .ok (.isub, 1) := by decide +kernel
theorem dX7_turn_8 : decode cX7_turn 8 = .ok (.invokestatic 88, 3) := by decide +kernel
theorem dX7_turn_11 : decode cX7_turn 11 = .ok (.ifCond .ne 5, 3) := by decide +kernel
theorem dX7_turn_14 : decode cX7_turn 14 = .ok (.iconst (-1), 1) := by decide +kernel
theorem dX7_turn_15 : decode cX7_turn 15 = .ok (.ireturn, 1) := by decide +kernel
theorem dX7_turn_16 : decode cX7_turn 16 = .ok (.aload_n 0, 1) := by decide +kernel
theorem dX7_turn_17 : decode cX7_turn 17 = .ok (.invokevirtual 160, 3) := by decide +kernel
theorem dX7_turn_20 : decode cX7_turn 20 = .ok (.istore_n 2, 1) := by decide +kernel
theorem dX7_turn_21 : decode cX7_turn 21 = .ok (.iload_n 2, 1) := by decide +kernel
theorem dX7_turn_22 : decode cX7_turn 22 = .ok (.iload_n 1, 1) := by decide +kernel
theorem dX7_turn_23 : decode cX7_turn 23 = .ok (.if_icmp .ne 6, 3) := by decide +kernel
theorem dX7_turn_26 : decode cX7_turn 26 = .ok (.bipush (-2), 2) := by decide +kernel
theorem dX7_turn_28 : decode cX7_turn 28 = .ok (.ireturn, 1) := by decide +kernel
theorem dX7_turn_29 : decode cX7_turn 29 = .ok (.aload_n 0, 1) := by decide +kernel
theorem dX7_turn_30 : decode cX7_turn 30 = .ok (.invokevirtual 157, 3) := by decide +kernel
theorem dX7_turn_33 : decode cX7_turn 33 = .ok (.aload_n 0, 1) := by decide +kernel
theorem dX7_turn_34 : decode cX7_turn 34 = .ok (.iload_n 1, 1) := by decide +kernel
theorem dX7_turn_35 : decode cX7_turn 35 = .ok (.invokevirtual 163, 3) := by decide +kernel
theorem dX7_turn_38 : decode cX7_turn 38 = .ok (.iload_n 2, 1) := by decide +kernel
theorem dX7_turn_39 : decode cX7_turn 39 = .ok (.ireturn, 1) := by decide +kernel
theorem dX7_wired_0 : decode cX7_wired 0 = .ok (.aload_n 0, 1) := by decide +kernel
theorem dX7_wired_1 : decode cX7_wired 1 = .ok (.iload_n 1, 1) := by decide +kernel
theorem dX7_wired_2 : decode cX7_wired 2 = .ok (.invokevirtual 148, 3) := by decide +kernel
theorem dX7_wired_5 : decode cX7_wired 5 = .ok (.ifCond .eq 16, 3) := by decide +kernel
theorem dX7_wired_8 : decode cX7_wired 8 = .ok (.aload_n 0, 1) := by decide +kernel
theorem dX7_wired_9 : decode cX7_wired 9 = .ok (.iload_n 2, 1) := by decide +kernel
theorem dX7_wired_10 : decode cX7_wired 10 = .ok (.invokevirtual 148, 3) := by decide +kernel
theorem dX7_wired_13 : decode cX7_wired 13 = .ok (.ifCond .eq 8, 3) := by decide +kernel
theorem dX7_wired_16 : decode cX7_wired 16 = .ok (.iload_n 1, 1) := by decide +kernel
theorem dX7_wired_17 : decode cX7_wired 17 = .ok (.iload_n 2, 1) := by decide +kernel
theorem dX7_wired_18 : decode cX7_wired 18 = .ok (.if_icmp .ne 5, 3) := by decide +kernel
theorem dX7_wired_21 : decode cX7_wired 21 = .ok (.iconst (-1), 1) := by decide +kernel
theorem dX7_wired_22 : decode cX7_wired 22 = .ok (.ireturn, 1) := by decide +kernel
theorem dX7_wired_23 : decode cX7_wired 23 = .ok (.aload_n 0, 1) := by decide +kernel
theorem dX7_wired_24 : decode cX7_wired 24 = .ok (.getfield 49, 3) := by decide +kernel
theorem dX7_wired_27 : decode cX7_wired 27 = .ok (.iconst 1, 1) := by decide +kernel
theorem dX7_wired_28 : decode cX7_wired 28 = .ok (.if_icmp .ne 33, 3) := by decide +kernel
theorem dX7_wired_31 : decode cX7_wired 31 = .ok (.iload_n 1, 1) := by decide +kernel
theorem dX7_wired_32 : decode cX7_wired 32 = .ok (.iconst 1, 1) := by decide +kernel
theorem dX7_wired_33 : decode cX7_wired 33 = .ok (.iadd, 1) := by decide +kernel
theorem dX7_wired_34 : decode cX7_wired 34 = .ok (.aload_n 0, 1) := by decide +kernel
theorem dX7_wired_35 : decode cX7_wired 35 = .ok (.getfield 53, 3) := by decide +kernel
theorem dX7_wired_38 : decode cX7_wired 38 = .ok (.irem, 1) := by decide +kernel
theorem dX7_wired_39 : decode cX7_wired 39 = .ok (.iload_n 2, 1) := by decide +kernel
theorem dX7_wired_40 : decode cX7_wired 40 = .ok (.if_icmp .eq 15, 3) := by decide +kernel
theorem dX7_wired_43 : decode cX7_wired 43 = .ok (.iload_n 2, 1) := by decide +kernel
theorem dX7_wired_44 : decode cX7_wired 44 = .ok (.iconst 1, 1) := by decide +kernel
theorem dX7_wired_45 : decode cX7_wired 45 = .ok (.iadd, 1) := by decide +kernel
theorem dX7_wired_46 : decode cX7_wired 46 = .ok (.aload_n 0, 1) := by decide +kernel
theorem dX7_wired_47 : decode cX7_wired 47 = .ok (.getfield 53, 3) := by decide +kernel
theorem dX7_wired_50 : decode cX7_wired 50 = .ok (.irem, 1) := by decide +kernel
theorem dX7_wired_51 : decode cX7_wired 51 = .ok (.iload_n 1, 1) := by decide +kernel
theorem dX7_wired_52 : decode cX7_wired 52 = .ok (.if_icmp .ne 7, 3) := by decide +kernel
theorem dX7_wired_55 : decode cX7_wired 55 = .ok (.iconst 1, 1) := by decide +kernel
theorem dX7_wired_56 : decode cX7_wired 56 = .ok (.goto 4, 3) := by decide +kernel
theorem dX7_wired_59 : decode cX7_wired 59 = .ok (.iconst 0, 1) := by decide +kernel
theorem dX7_wired_60 : decode cX7_wired 60 = .ok (.ireturn, 1) := by decide +kernel
theorem dX7_wired_61 : decode cX7_wired 61 = .ok (.aload_n 0, 1) := by decide +kernel
theorem dX7_wired_62 : decode cX7_wired 62 = .ok (.getfield 13, 3) := by decide +kernel
theorem dX7_wired_65 : decode cX7_wired 65 = .ok (.bipush 6, 2) := by decide +kernel
theorem dX7_wired_67 : decode cX7_wired 67 = .ok (.iload_n 1, 1) := by decide +kernel
theorem dX7_wired_68 : decode cX7_wired 68 = .ok (.imul, 1) := by decide +kernel
theorem dX7_wired_69 : decode cX7_wired 69 = .ok (.iload_n 2, 1) := by decide +kernel
theorem dX7_wired_70 : decode cX7_wired 70 = .ok (.iadd, 1) := by decide +kernel
theorem dX7_wired_71 : decode cX7_wired 71 = .ok (.iaload, 1) := by decide +kernel
theorem dX7_wired_72 : decode cX7_wired 72 = .ok (.ireturn, 1) := by decide +kernel
theorem dX7_may_0 : decode cX7_may 0 = .ok (.aload_n 0, 1) := by decide +kernel
theorem dX7_may_1 : decode cX7_may 1 = .ok (.iload_n 1, 1) := by decide +kernel
theorem dX7_may_2 : decode cX7_may 2 = .ok (.invokevirtual 148, 3) := by decide +kernel
theorem dX7_may_5 : decode cX7_may 5 = .ok (.ifCond .ne 5, 3) := by decide +kernel
theorem dX7_may_8 : decode cX7_may 8 = .ok (.iconst (-1), 1) := by decide +kernel
theorem dX7_may_9 : decode cX7_may 9 = .ok (.ireturn, 1) := by decide +kernel
theorem dX7_may_10 : decode cX7_may 10 = .ok (.aload_n 0, 1) := by decide +kernel
theorem dX7_may_11 : decode cX7_may 11 = .ok (.invokevirtual 151, 3) := by decide +kernel
theorem dX7_may_14 : decode cX7_may 14 = .ok (.aload_n 0, 1) := by decide +kernel
theorem dX7_may_15 : decode cX7_may 15 = .ok (.iload_n 1, 1) := by decide +kernel
theorem dX7_may_16 : decode cX7_may 16 = .ok (.invokevirtual 138, 3) := by decide +kernel
theorem dX7_may_19 : decode cX7_may 19 = .ok (.ifCond .ge 7, 3) := by decide +kernel
theorem dX7_may_22 : decode cX7_may 22 = .ok (.iconst 0, 1) := by decide +kernel
theorem dX7_may_23 : decode cX7_may 23 = .ok (.goto 7, 3) := by decide +kernel
theorem dX7_may_26 : decode cX7_may 26 = .ok (.aload_n 0, 1) := by decide +kernel
theorem dX7_may_27 : decode cX7_may 27 = .ok (.getfield 120, 3) := by decide +kernel
theorem dX7_may_30 : decode cX7_may 30 = .ok (.ireturn, 1) := by decide +kernel
theorem dX7_becomes_0 : decode cX7_becomes 0 = .ok (.aload_n 0, 1) := by decide +kernel
theorem dX7_becomes_1 : decode cX7_becomes 1 = .ok (.iload_n 1, 1) := by decide +kernel
theorem dX7_becomes_2 : decode cX7_becomes 2 = .ok (.invokevirtual 148, 3) := by decide +kernel
theorem dX7_becomes_5 : decode cX7_becomes 5 = .ok (.ifCond .ne 5, 3) := by decide +kernel
theorem dX7_becomes_8 : decode cX7_becomes 8 = .ok (.iconst (-1), 1) := by decide +kernel
theorem dX7_becomes_9 : decode cX7_becomes 9 = .ok (.ireturn, 1) := by decide +kernel
theorem dX7_becomes_10 : decode cX7_becomes 10 = .ok (.aload_n 0, 1) := by decide +kernel
theorem dX7_becomes_11 : decode cX7_becomes 11 = .ok (.invokevirtual 151, 3) := by decide +kernel
theorem dX7_becomes_14 : decode cX7_becomes 14 = .ok (.aload_n 0, 1) := by decide +kernel
theorem dX7_becomes_15 : decode cX7_becomes 15 = .ok (.iload_n 1, 1) := by decide +kernel
theorem dX7_becomes_16 : decode cX7_becomes 16 = .ok (.invokevirtual 138, 3) := by decide +kernel
theorem dX7_becomes_19 : decode cX7_becomes 19 = .ok (.istore_n 2, 1) := by decide +kernel
theorem dX7_becomes_20 : decode cX7_becomes 20 = .ok (.iload_n 2, 1) := by decide +kernel
theorem dX7_becomes_21 : decode cX7_becomes 21 = .ok (.ifCond .ge 8, 3) := by decide +kernel
theorem dX7_becomes_24 : decode cX7_becomes 24 = .ok (.bipush (-4), 2) := by decide +kernel
theorem dX7_becomes_26 : decode cX7_becomes 26 = .ok (.goto 4, 3) := by decide +kernel
theorem dX7_becomes_29 : decode cX7_becomes 29 = .ok (.iload_n 2, 1) := by decide +kernel
theorem dX7_becomes_30 : decode cX7_becomes 30 = .ok (.ireturn, 1) := by decide +kernel
theorem dX7_move_0 : decode cX7_move 0 = .ok (.aload_n 0, 1) := by decide +kernel
theorem dX7_move_1 : decode cX7_move 1 = .ok (.iload_n 1, 1) := by decide +kernel
theorem dX7_move_2 : decode cX7_move 2 = .ok (.invokevirtual 148, 3) := by decide +kernel
theorem dX7_move_5 : decode cX7_move 5 = .ok (.ifCond .ne 5, 3) := by decide +kernel
theorem dX7_move_8 : decode cX7_move 8 = .ok (.iconst (-1), 1) := by decide +kernel
theorem dX7_move_9 : decode cX7_move 9 = .ok (.ireturn, 1) := by decide +kernel
theorem dX7_move_10 : decode cX7_move 10 = .ok (.aload_n 0, 1) := by decide +kernel
theorem dX7_move_11 : decode cX7_move 11 = .ok (.invokevirtual 151, 3) := by decide +kernel
theorem dX7_move_14 : decode cX7_move 14 = .ok (.aload_n 0, 1) := by decide +kernel
theorem dX7_move_15 : decode cX7_move 15 = .ok (.iload_n 1, 1) := by decide +kernel
theorem dX7_move_16 : decode cX7_move 16 = .ok (.invokevirtual 138, 3) := by decide +kernel
theorem dX7_move_19 : decode cX7_move 19 = .ok (.istore_n 2, 1) := by decide +kernel
theorem dX7_move_20 : decode cX7_move 20 = .ok (.iload_n 2, 1) := by decide +kernel
theorem dX7_move_21 : decode cX7_move 21 = .ok (.ifCond .ge 6, 3) := by decide +kernel
theorem dX7_move_24 : decode cX7_move 24 = .ok (.bipush (-2), 2) := by decide +kernel
theorem dX7_move_26 : decode cX7_move 26 = .ok (.ireturn, 1) := by decide +kernel
theorem dX7_move_27 : decode cX7_move 27 = .ok (.aload_n 0, 1) := by decide +kernel
theorem dX7_move_28 : decode cX7_move 28 = .ok (.invokevirtual 157, 3) := by decide +kernel
theorem dX7_move_31 : decode cX7_move 31 = .ok (.aload_n 0, 1) := by decide +kernel
theorem dX7_move_32 : decode cX7_move 32 = .ok (.getfield 19, 3) := by decide +kernel
theorem dX7_move_35 : decode cX7_move 35 = .ok (.iload_n 1, 1) := by decide +kernel
theorem dX7_move_36 : decode cX7_move 36 = .ok (.iload_n 2, 1) := by decide +kernel
theorem dX7_move_37 : decode cX7_move 37 = .ok (.iastore, 1) := by decide +kernel
theorem dX7_move_38 : decode cX7_move 38 = .ok (.iload_n 2, 1) := by decide +kernel
theorem dX7_move_39 : decode cX7_move 39 = .ok (.ireturn, 1) := by decide +kernel
theorem dX7_tokens_0 : decode cX7_tokens 0 = .ok (.aload_n 0, 1) := by decide +kernel
theorem dX7_tokens_1 : decode cX7_tokens 1 = .ok (.invokevirtual 151, 3) := by decide +kernel
theorem dX7_tokens_4 : decode cX7_tokens 4 = .ok (.aload_n 0, 1) := by decide +kernel
theorem dX7_tokens_5 : decode cX7_tokens 5 = .ok (.invokevirtual 141, 3) := by decide +kernel
theorem dX7_tokens_8 : decode cX7_tokens 8 = .ok (.ireturn, 1) := by decide +kernel
theorem dX7_legal_0 : decode cX7_legal 0 = .ok (.aload_n 0, 1) := by decide +kernel
theorem dX7_legal_1 : decode cX7_legal 1 = .ok (.invokevirtual 151, 3) := by decide +kernel
theorem dX7_legal_4 : decode cX7_legal 4 = .ok (.aload_n 0, 1) := by decide +kernel
theorem dX7_legal_5 : decode cX7_legal 5 = .ok (.invokevirtual 166, 3) := by decide +kernel
theorem dX7_legal_8 : decode cX7_legal 8 = .ok (.ifCond .eq 7, 3) := by decide +kernel
theorem dX7_legal_11 : decode cX7_legal 11 = .ok (.iconst 1, 1) := by decide +kernel
theorem dX7_legal_12 : decode cX7_legal 12 = .ok (.goto 4, 3) := by decide +kernel
theorem dX7_legal_15 : decode cX7_legal 15 = .ok (.iconst 0, 1) := by decide +kernel
theorem dX7_legal_16 : decode cX7_legal 16 = .ok (.ireturn, 1) := by decide +kernel
theorem dX7_mate_0 : decode cX7_mate 0 = .ok (.aload_n 0, 1) := by decide +kernel
theorem dX7_mate_1 : decode cX7_mate 1 = .ok (.iload_n 1, 1) := by decide +kernel
theorem dX7_mate_2 : decode cX7_mate 2 = .ok (.invokevirtual 148, 3) := by decide +kernel
theorem dX7_mate_5 : decode cX7_mate 5 = .ok (.ifCond .ne 5, 3) := by decide +kernel
theorem dX7_mate_8 : decode cX7_mate 8 = .ok (.iconst (-1), 1) := by decide +kernel
theorem dX7_mate_9 : decode cX7_mate 9 = .ok (.ireturn, 1) := by decide +kernel
theorem dX7_mate_10 : decode cX7_mate 10 = .ok (.aload_n 0, 1) := by decide +kernel
theorem dX7_mate_11 : decode cX7_mate 11 = .ok (.getfield 49, 3) := by decide +kernel
theorem dX7_mate_14 : decode cX7_mate 14 = .ok (.iconst 2, 1) := by decide +kernel
theorem dX7_mate_15 : decode cX7_mate 15 = .ok (.if_icmp .ne 44, 3) := by decide +kernel
theorem dX7_mate_18 : decode cX7_mate 18 = .ok (.aload_n 0, 1) := by decide +kernel
theorem dX7_mate_19 : decode cX7_mate 19 = .ok (.getfield 19, 3) := by decide +kernel
theorem dX7_mate_22 : decode cX7_mate 22 = .ok (.iload_n 1, 1) := by decide +kernel
theorem dX7_mate_23 : decode cX7_mate 23 = .ok (.iaload, 1) := by decide +kernel
theorem dX7_mate_24 : decode cX7_mate 24 = .ok (.iconst 1, 1) := by decide +kernel
theorem dX7_mate_25 : decode cX7_mate 25 = .ok (.isub, 1) := by decide +kernel
theorem dX7_mate_26 : decode cX7_mate 26 = .ok (.istore_n 2, 1) := by decide +kernel
theorem dX7_mate_27 : decode cX7_mate 27 = .ok (.iload_n 2, 1) := by decide +kernel
theorem dX7_mate_28 : decode cX7_mate 28 = .ok (.ifCond .lt 28, 3) := by decide +kernel
theorem dX7_mate_31 : decode cX7_mate 31 = .ok (.aload_n 0, 1) := by decide +kernel
theorem dX7_mate_32 : decode cX7_mate 32 = .ok (.iload_n 1, 1) := by decide +kernel
theorem dX7_mate_33 : decode cX7_mate 33 = .ok (.iload_n 2, 1) := by decide +kernel
theorem dX7_mate_34 : decode cX7_mate 34 = .ok (.invokevirtual 116, 3) := by decide +kernel
theorem dX7_mate_37 : decode cX7_mate 37 = .ok (.ifCond .eq 19, 3) := by decide +kernel
theorem dX7_mate_40 : decode cX7_mate 40 = .ok (.aload_n 0, 1) := by decide +kernel
theorem dX7_mate_41 : decode cX7_mate 41 = .ok (.getfield 19, 3) := by decide +kernel
theorem dX7_mate_44 : decode cX7_mate 44 = .ok (.iload_n 2, 1) := by decide +kernel
theorem dX7_mate_45 : decode cX7_mate 45 = .ok (.iaload, 1) := by decide +kernel
theorem dX7_mate_46 : decode cX7_mate 46 = .ok (.iload_n 1, 1) := by decide +kernel
theorem dX7_mate_47 : decode cX7_mate 47 = .ok (.iconst 1, 1) := by decide +kernel
theorem dX7_mate_48 : decode cX7_mate 48 = .ok (.iadd, 1) := by decide +kernel
theorem dX7_mate_49 : decode cX7_mate 49 = .ok (.if_icmp .ne 7, 3) := by decide +kernel
theorem dX7_mate_52 : decode cX7_mate 52 = .ok (.iload_n 2, 1) := by decide +kernel
theorem dX7_mate_53 : decode cX7_mate 53 = .ok (.goto 5, 3) := by decide +kernel
theorem dX7_mate_56 : decode cX7_mate 56 = .ok (.bipush (-4), 2) := by decide +kernel
theorem dX7_mate_58 : decode cX7_mate 58 = .ok (.ireturn, 1) := by decide +kernel
theorem dX7_mate_59 : decode cX7_mate 59 = .ok (.aload_n 0, 1) := by decide +kernel
theorem dX7_mate_60 : decode cX7_mate 60 = .ok (.getfield 49, 3) := by decide +kernel
theorem dX7_mate_63 : decode cX7_mate 63 = .ok (.iconst 3, 1) := by decide +kernel
theorem dX7_mate_64 : decode cX7_mate 64 = .ok (.if_icmp .eq 6, 3) := by decide +kernel
theorem dX7_mate_67 : decode cX7_mate 67 = .ok (.bipush (-2), 2) := by decide +kernel
theorem dX7_mate_69 : decode cX7_mate 69 = .ok (.ireturn, 1) := by decide +kernel
theorem dX7_mate_70 : decode cX7_mate 70 = .ok (.aload_n 0, 1) := by decide +kernel
theorem dX7_mate_71 : decode cX7_mate 71 = .ok (.invokevirtual 151, 3) := by decide +kernel
theorem dX7_mate_74 : decode cX7_mate 74 = .ok (.aload_n 0, 1) := by decide +kernel
theorem dX7_mate_75 : decode cX7_mate 75 = .ok (.iload_n 1, 1) := by decide +kernel
theorem dX7_mate_76 : decode cX7_mate 76 = .ok (.aload_n 0, 1) := by decide +kernel
theorem dX7_mate_77 : decode cX7_mate 77 = .ok (.getfield 19, 3) := by decide +kernel
theorem dX7_mate_80 : decode cX7_mate 80 = .ok (.iload_n 1, 1) := by decide +kernel
theorem dX7_mate_81 : decode cX7_mate 81 = .ok (.iaload, 1) := by decide +kernel
theorem dX7_mate_82 : decode cX7_mate 82 = .ok (.iconst 1, 1) := by decide +kernel
theorem dX7_mate_83 : decode cX7_mate 83 = .ok (.isub, 1) := by decide +kernel
theorem dX7_mate_84 : decode cX7_mate 84 = .ok (.invokevirtual 123, 3) := by decide +kernel
theorem dX7_mate_87 : decode cX7_mate 87 = .ok (.istore_n 2, 1) := by decide +kernel
theorem dX7_mate_88 : decode cX7_mate 88 = .ok (.iload_n 2, 1) := by decide +kernel
theorem dX7_mate_89 : decode cX7_mate 89 = .ok (.ifCond .ge 8, 3) := by decide +kernel
theorem dX7_mate_92 : decode cX7_mate 92 = .ok (.bipush (-4), 2) := by decide +kernel
theorem dX7_mate_94 : decode cX7_mate 94 = .ok (.goto 4, 3) := by decide +kernel
theorem dX7_mate_97 : decode cX7_mate 97 = .ok (.iload_n 2, 1) := by decide +kernel
theorem dX7_mate_98 : decode cX7_mate 98 = .ok (.ireturn, 1) := by decide +kernel
theorem dX7_undo_0 : decode cX7_undo 0 = .ok (.aload_n 0, 1) := by decide +kernel
theorem dX7_undo_1 : decode cX7_undo 1 = .ok (.getfield 68, 3) := by decide +kernel
theorem dX7_undo_4 : decode cX7_undo 4 = .ok (.ifCond .ne 6, 3) := by decide +kernel
theorem dX7_undo_7 : decode cX7_undo 7 = .ok (.bipush (-2), 2) := by decide +kernel
theorem dX7_undo_9 : decode cX7_undo 9 = .ok (.ireturn, 1) := by decide +kernel
theorem dX7_undo_10 : decode cX7_undo 10 = .ok (.aload_n 0, 1) := by decide +kernel
theorem dX7_undo_11 : decode cX7_undo 11 = .ok (.dup, 1) := by decide +kernel
theorem dX7_undo_12 : decode cX7_undo 12 = .ok (.getfield 68, 3) := by decide +kernel
theorem dX7_undo_15 : decode cX7_undo 15 = .ok (.iconst 1, 1) := by decide +kernel
theorem dX7_undo_16 : decode cX7_undo 16 = .ok (.isub, 1) := by decide +kernel
theorem dX7_undo_17 : decode cX7_undo 17 = .ok (.putfield 68, 3) := by decide +kernel
theorem dX7_undo_20 : decode cX7_undo 20 = .ok (.aload_n 0, 1) := by decide +kernel
theorem dX7_undo_21 : decode cX7_undo 21 = .ok (.aload_n 0, 1) := by decide +kernel
theorem dX7_undo_22 : decode cX7_undo 22 = .ok (.getfield 28, 3) := by decide +kernel
theorem dX7_undo_25 : decode cX7_undo 25 = .ok (.aload_n 0, 1) := by decide +kernel
theorem dX7_undo_26 : decode cX7_undo 26 = .ok (.getfield 68, 3) := by decide +kernel
theorem dX7_undo_29 : decode cX7_undo 29 = .ok (.iaload, 1) := by decide +kernel
theorem dX7_undo_30 : decode cX7_undo 30 = .ok (.invokevirtual 163, 3) := by decide +kernel
theorem dX7_undo_33 : decode cX7_undo 33 = .ok (.aload_n 0, 1) := by decide +kernel
theorem dX7_undo_34 : decode cX7_undo 34 = .ok (.aload_n 0, 1) := by decide +kernel
theorem dX7_undo_35 : decode cX7_undo 35 = .ok (.getfield 31, 3) := by decide +kernel
theorem dX7_undo_38 : decode cX7_undo 38 = .ok (.aload_n 0, 1) := by decide +kernel
theorem dX7_undo_39 : decode cX7_undo 39 = .ok (.getfield 68, 3) := by decide +kernel
theorem dX7_undo_42 : decode cX7_undo 42 = .ok (.iaload, 1) := by decide +kernel
theorem dX7_undo_43 : decode cX7_undo 43 = .ok (.putfield 65, 3) := by decide +kernel
theorem dX7_undo_46 : decode cX7_undo 46 = .ok (.aload_n 0, 1) := by decide +kernel
theorem dX7_undo_47 : decode cX7_undo 47 = .ok (.getfield 68, 3) := by decide +kernel
theorem dX7_undo_50 : decode cX7_undo 50 = .ok (.ireturn, 1) := by decide +kernel
theorem dX7_worstBehind_0 : decode cX7_worstBehind 0 = .ok (.iconst (-1), 1) := by decide +kernel
theorem dX7_worstBehind_1 : decode cX7_worstBehind 1 = .ok (.istore_n 1, 1) := by decide +kernel
theorem dX7_worstBehind_2 : decode cX7_worstBehind 2 = .ok (.aload_n 0, 1) := by decide +kernel
theorem dX7_worstBehind_3 : decode cX7_worstBehind 3 = .ok (.invokevirtual 154, 3) := by decide +kernel
theorem dX7_worstBehind_6 : decode cX7_worstBehind 6 = .ok (.istore_n 2, 1) := by decide +kernel
theorem dX7_worstBehind_7 : decode cX7_worstBehind 7 = .ok (.iconst 0, 1) := by decide +kernel
theorem dX7_worstBehind_8 : decode cX7_worstBehind 8 = .ok (.istore_n 3, 1) := by decide +kernel
theorem dX7_worstBehind_9 : decode cX7_worstBehind 9 = .ok (.iload_n 3, 1) := by decide +kernel
theorem dX7_worstBehind_10 : decode cX7_worstBehind 10 = .ok (.aload_n 0, 1) := by decide +kernel
theorem dX7_worstBehind_11 : decode cX7_worstBehind 11 = .ok (.getfield 53, 3) := by decide +kernel
theorem dX7_worstBehind_14 : decode cX7_worstBehind 14 = .ok (.if_icmp .ge 76, 3) := by decide +kernel
theorem dX7_worstBehind_17 : decode cX7_worstBehind 17 = .ok (.aload_n 0, 1) := by decide +kernel
theorem dX7_worstBehind_18 : decode cX7_worstBehind 18 = .ok (.iload_n 3, 1) := by decide +kernel
theorem dX7_worstBehind_19 : decode cX7_worstBehind 19 = .ok (.invokevirtual 138, 3) := by decide +kernel
theorem dX7_worstBehind_22 : decode cX7_worstBehind 22 = .ok (.istore 4, 2) := by decide +kernel
theorem dX7_worstBehind_24 : decode cX7_worstBehind 24 = .ok (.iload 4, 2) := by decide +kernel
theorem dX7_worstBehind_26 : decode cX7_worstBehind 26 = .ok (.ifCond .lt 58, 3) := by decide +kernel
theorem dX7_worstBehind_29 : decode cX7_worstBehind 29 = .ok (.iload_n 2, 1) := by decide +kernel
theorem dX7_worstBehind_30 : decode cX7_worstBehind 30 = .ok (.iload 4, 2) := by decide +kernel
theorem dX7_worstBehind_32 : decode cX7_worstBehind 32 = .ok (.aload_n 0, 1) := by decide +kernel
theorem dX7_worstBehind_33 : decode cX7_worstBehind 33 = .ok (.getfield 43, 3) := by decide +kernel
theorem dX7_worstBehind_36 : decode cX7_worstBehind 36 = .ok (.iload_n 3, 1) := by decide +kernel
theorem dX7_worstBehind_37 : decode cX7_worstBehind 37 = .ok (.iaload, 1) := by decide +kernel
theorem dX7_worstBehind_38 : decode cX7_worstBehind 38 = .ok (.isub, 1) := by decide +kernel
theorem dX7_worstBehind_39 : decode cX7_worstBehind 39 = .ok (.aload_n 0, 1) := by decide +kernel
theorem dX7_worstBehind_40 : decode cX7_worstBehind 40 = .ok (.getfield 16, 3) := by decide +kernel
theorem dX7_worstBehind_43 : decode cX7_worstBehind 43 = .ok (.iload_n 3, 1) := by decide +kernel
theorem dX7_worstBehind_44 : decode cX7_worstBehind 44 = .ok (.iaload, 1) := by decide +kernel
theorem dX7_worstBehind_45 : decode cX7_worstBehind 45 = .ok (.imul, 1) := by decide +kernel
theorem dX7_worstBehind_46 : decode cX7_worstBehind 46 = .ok (.iadd, 1) := by decide +kernel
theorem dX7_worstBehind_47 : decode cX7_worstBehind 47 = .ok (.istore 5, 2) := by decide +kernel
theorem dX7_worstBehind_49 : decode cX7_worstBehind 49 = .ok (.aload_n 0, 1) := by decide +kernel
theorem dX7_worstBehind_50 : decode cX7_worstBehind 50 = .ok (.getfield 34, 3) := by decide +kernel
theorem dX7_worstBehind_53 : decode cX7_worstBehind 53 = .ok (.iload 5, 2) := by decide +kernel
theorem dX7_worstBehind_55 : decode cX7_worstBehind 55 = .ok (.iaload, 1) := by decide +kernel
theorem dX7_worstBehind_56 : decode cX7_worstBehind 56 = .ok (.ifCond .ge 5, 3) := by decide +kernel
theorem dX7_worstBehind_59 : decode cX7_worstBehind 59 = .ok (.iconst (-1), 1) := by decide +kernel
theorem dX7_worstBehind_60 : decode cX7_worstBehind 60 = .ok (.ireturn, 1) := by decide +kernel
theorem dX7_worstBehind_61 : decode cX7_worstBehind 61 = .ok (.aload_n 0, 1) := by decide +kernel
theorem dX7_worstBehind_62 : decode cX7_worstBehind 62 = .ok (.getfield 34, 3) := by decide +kernel
theorem dX7_worstBehind_65 : decode cX7_worstBehind 65 = .ok (.iload 5, 2) := by decide +kernel
theorem dX7_worstBehind_67 : decode cX7_worstBehind 67 = .ok (.iaload, 1) := by decide +kernel
theorem dX7_worstBehind_68 : decode cX7_worstBehind 68 = .ok (.iload_n 1, 1) := by decide +kernel
theorem dX7_worstBehind_69 : decode cX7_worstBehind 69 = .ok (.if_icmp .le 13, 3) := by decide +kernel
theorem dX7_worstBehind_72 : decode cX7_worstBehind 72 = .ok (.aload_n 0, 1) := by decide +kernel
theorem dX7_worstBehind_73 : decode cX7_worstBehind 73 = .ok (.getfield 34, 3) := by decide +kernel
theorem dX7_worstBehind_76 : decode cX7_worstBehind 76 = .ok (.iload 5, 2) := by decide +kernel
theorem dX7_worstBehind_78 : decode cX7_worstBehind 78 = .ok (.iaload, 1) := by decide +kernel
theorem dX7_worstBehind_79 : decode cX7_worstBehind 79 = .ok (.goto 4, 3) := by decide +kernel
theorem dX7_worstBehind_82 : decode cX7_worstBehind 82 = .ok (.iload_n 1, 1) := by decide +kernel
theorem dX7_worstBehind_83 : decode cX7_worstBehind 83 = .ok (.istore_n 1, 1) := by decide +kernel
theorem dX7_worstBehind_84 : decode cX7_worstBehind 84 = .ok (.iinc 3 1, 3) := by decide +kernel
theorem dX7_worstBehind_87 : decode cX7_worstBehind 87 = .ok (.goto (-78), 3) := by decide +kernel
theorem dX7_worstBehind_90 : decode cX7_worstBehind 90 = .ok (.iload_n 1, 1) := by decide +kernel
theorem dX7_worstBehind_91 : decode cX7_worstBehind 91 = .ok (.ireturn, 1) := by decide +kernel
theorem dX7_worsts_0 : decode cX7_worsts 0 = .ok (.iconst 0, 1) := by decide +kernel
theorem dX7_worsts_1 : decode cX7_worsts 1 = .ok (.istore_n 1, 1) := by decide +kernel
theorem dX7_worsts_2 : decode cX7_worsts 2 = .ok (.iload_n 1, 1) := by decide +kernel
theorem dX7_worsts_3 : decode cX7_worsts 3 = .ok (.aload_n 0, 1) := by decide +kernel
theorem dX7_worsts_4 : decode cX7_worsts 4 = .ok (.getfield 62, 3) := by decide +kernel
theorem dX7_worsts_7 : decode cX7_worsts 7 = .ok (.if_icmp .ge 33, 3) := by decide +kernel
theorem dX7_worsts_10 : decode cX7_worsts 10 = .ok (.aload_n 0, 1) := by decide +kernel
theorem dX7_worsts_11 : decode cX7_worsts 11 = .ok (.iload_n 1, 1) := by decide +kernel
theorem dX7_worsts_12 : decode cX7_worsts 12 = .ok (.invokevirtual 144, 3) := by decide +kernel
theorem dX7_worsts_15 : decode cX7_worsts 15 = .ok (.aload_n 0, 1) := by decide +kernel
theorem dX7_worsts_16 : decode cX7_worsts 16 = .ok (.getfield 34, 3) := by decide +kernel
theorem dX7_worsts_19 : decode cX7_worsts 19 = .ok (.iload_n 1, 1) := by decide +kernel
theorem dX7_worsts_20 : decode cX7_worsts 20 = .ok (.aload_n 0, 1) := by decide +kernel
theorem dX7_worsts_21 : decode cX7_worsts 21 = .ok (.invokevirtual 166, 3) := by decide +kernel
theorem dX7_worsts_24 : decode cX7_worsts 24 = .ok (.ifCond .eq 7, 3) := by decide +kernel
theorem dX7_worsts_27 : decode cX7_worsts 27 = .ok (.iconst 0, 1) := by decide +kernel
theorem dX7_worsts_28 : decode cX7_worsts 28 = .ok (.goto 5, 3) := by decide +kernel
theorem dX7_worsts_31 : decode cX7_worsts 31 = .ok (.bipush (-5), 2) := by decide +kernel
theorem dX7_worsts_33 : decode cX7_worsts 33 = .ok (.iastore, 1) := by decide +kernel
theorem dX7_worsts_34 : decode cX7_worsts 34 = .ok (.iinc 1 1, 3) := by decide +kernel
theorem dX7_worsts_37 : decode cX7_worsts 37 = .ok (.goto (-35), 3) := by decide +kernel
theorem dX7_worsts_40 : decode cX7_worsts 40 = .ok (.iconst 1, 1) := by decide +kernel
theorem dX7_worsts_41 : decode cX7_worsts 41 = .ok (.istore_n 1, 1) := by decide +kernel
theorem dX7_worsts_42 : decode cX7_worsts 42 = .ok (.iload_n 1, 1) := by decide +kernel
theorem dX7_worsts_43 : decode cX7_worsts 43 = .ok (.ifCond .eq 58, 3) := by decide +kernel
theorem dX7_worsts_46 : decode cX7_worsts 46 = .ok (.iconst 0, 1) := by decide +kernel
theorem dX7_worsts_47 : decode cX7_worsts 47 = .ok (.istore_n 1, 1) := by decide +kernel
theorem dX7_worsts_48 : decode cX7_worsts 48 = .ok (.iconst 0, 1) := by decide +kernel
theorem dX7_worsts_49 : decode cX7_worsts 49 = .ok (.istore_n 2, 1) := by decide +kernel
theorem dX7_worsts_50 : decode cX7_worsts 50 = .ok (.iload_n 2, 1) := by decide +kernel
theorem dX7_worsts_51 : decode cX7_worsts 51 = .ok (.aload_n 0, 1) := by decide +kernel
theorem dX7_worsts_52 : decode cX7_worsts 52 = .ok (.getfield 62, 3) := by decide +kernel
theorem dX7_worsts_55 : decode cX7_worsts 55 = .ok (.if_icmp .ge 43, 3) := by decide +kernel
theorem dX7_worsts_58 : decode cX7_worsts 58 = .ok (.aload_n 0, 1) := by decide +kernel
theorem dX7_worsts_59 : decode cX7_worsts 59 = .ok (.getfield 34, 3) := by decide +kernel
theorem dX7_worsts_62 : decode cX7_worsts 62 = .ok (.iload_n 2, 1) := by decide +kernel
theorem dX7_worsts_63 : decode cX7_worsts 63 = .ok (.iaload, 1) := by decide +kernel
theorem dX7_worsts_64 : decode cX7_worsts 64 = .ok (.ifCond .ge 28, 3) := by decide +kernel
theorem dX7_worsts_67 : decode cX7_worsts 67 = .ok (.aload_n 0, 1) := by decide +kernel
theorem dX7_worsts_68 : decode cX7_worsts 68 = .ok (.iload_n 2, 1) := by decide +kernel
theorem dX7_worsts_69 : decode cX7_worsts 69 = .ok (.invokevirtual 144, 3) := by decide +kernel
theorem dX7_worsts_72 : decode cX7_worsts 72 = .ok (.aload_n 0, 1) := by decide +kernel
theorem dX7_worsts_73 : decode cX7_worsts 73 = .ok (.invokevirtual 170, 3) := by decide +kernel
theorem dX7_worsts_76 : decode cX7_worsts 76 = .ok (.istore_n 3, 1) := by decide +kernel
theorem dX7_worsts_77 : decode cX7_worsts 77 = .ok (.iload_n 3, 1) := by decide +kernel
theorem dX7_worsts_78 : decode cX7_worsts 78 = .ok (.ifCond .lt 14, 3) := by decide +kernel
theorem dX7_worsts_81 : decode cX7_worsts 81 = .ok (.aload_n 0, 1) := by decide +kernel
theorem dX7_worsts_82 : decode cX7_worsts 82 = .ok (.getfield 34, 3) := by decide +kernel
theorem dX7_worsts_85 : decode cX7_worsts 85 = .ok (.iload_n 2, 1) := by decide +kernel
theorem dX7_worsts_86 : decode cX7_worsts 86 = .ok (.iload_n 3, 1) := by decide +kernel
theorem dX7_worsts_87 : decode cX7_worsts 87 = .ok (.iconst 1, 1) := by decide +kernel
theorem dX7_worsts_88 : decode cX7_worsts 88 = .ok (.iadd, 1) := by decide +kernel
theorem dX7_worsts_89 : decode cX7_worsts 89 = .ok (.iastore, 1) := by decide +kernel
theorem dX7_worsts_90 : decode cX7_worsts 90 = .ok (.iconst 1, 1) := by decide +kernel
theorem dX7_worsts_91 : decode cX7_worsts 91 = .ok (.istore_n 1, 1) := by decide +kernel
theorem dX7_worsts_92 : decode cX7_worsts 92 = .ok (.iinc 2 1, 3) := by decide +kernel
theorem dX7_worsts_95 : decode cX7_worsts 95 = .ok (.goto (-45), 3) := by decide +kernel
theorem dX7_worsts_98 : decode cX7_worsts 98 = .ok (.goto (-56), 3) := by decide +kernel
theorem dX7_worsts_101 : decode cX7_worsts 101 = .ok (.return_, 1) := by decide +kernel
theorem dX7_bests_0 : decode cX7_bests 0 = .ok (.iconst 0, 1) := by decide +kernel
theorem dX7_bests_1 : decode cX7_bests 1 = .ok (.istore_n 1, 1) := by decide +kernel
theorem dX7_bests_2 : decode cX7_bests 2 = .ok (.iload_n 1, 1) := by decide +kernel
theorem dX7_bests_3 : decode cX7_bests 3 = .ok (.aload_n 0, 1) := by decide +kernel
theorem dX7_bests_4 : decode cX7_bests 4 = .ok (.getfield 62, 3) := by decide +kernel
theorem dX7_bests_7 : decode cX7_bests 7 = .ok (.if_icmp .ge 30, 3) := by decide +kernel
theorem dX7_bests_10 : decode cX7_bests 10 = .ok (.aload_n 0, 1) := by decide +kernel
theorem dX7_bests_11 : decode cX7_bests 11 = .ok (.getfield 37, 3) := by decide +kernel
theorem dX7_bests_14 : decode cX7_bests 14 = .ok (.iload_n 1, 1) := by decide +kernel
theorem dX7_bests_15 : decode cX7_bests 15 = .ok (.aload_n 0, 1) := by decide +kernel
theorem dX7_bests_16 : decode cX7_bests 16 = .ok (.getfield 34, 3) := by decide +kernel
theorem dX7_bests_19 : decode cX7_bests 19 = .ok (.iload_n 1, 1) := by decide +kernel
theorem dX7_bests_20 : decode cX7_bests 20 = .ok (.iaload, 1) := by decide +kernel
theorem dX7_bests_21 : decode cX7_bests 21 = .ok (.ifCond .ne 7, 3) := by decide +kernel
theorem dX7_bests_24 : decode cX7_bests 24 = .ok (.iconst 0, 1) := by decide +kernel
theorem dX7_bests_25 : decode cX7_bests 25 = .ok (.goto 5, 3) := by decide +kernel
theorem dX7_bests_28 : decode cX7_bests 28 = .ok (.bipush (-5), 2) := by decide +kernel
theorem dX7_bests_30 : decode cX7_bests 30 = .ok (.iastore, 1) := by decide +kernel
theorem dX7_bests_31 : decode cX7_bests 31 = .ok (.iinc 1 1, 3) := by decide +kernel
theorem dX7_bests_34 : decode cX7_bests 34 = .ok (.goto (-32), 3) := by decide +kernel
theorem dX7_bests_37 : decode cX7_bests 37 = .ok (.iconst 1, 1) := by decide +kernel
theorem dX7_bests_38 : decode cX7_bests 38 = .ok (.istore_n 1, 1) := by decide +kernel
theorem dX7_bests_39 : decode cX7_bests 39 = .ok (.iconst 1, 1) := by decide +kernel
theorem dX7_bests_40 : decode cX7_bests 40 = .ok (.istore_n 2, 1) := by decide +kernel
theorem dX7_bests_41 : decode cX7_bests 41 = .ok (.iload_n 1, 1) := by decide +kernel
theorem dX7_bests_42 : decode cX7_bests 42 = .ok (.ifCond .eq 56, 3) := by decide +kernel
theorem dX7_bests_45 : decode cX7_bests 45 = .ok (.iconst 0, 1) := by decide +kernel
theorem dX7_bests_46 : decode cX7_bests 46 = .ok (.istore_n 1, 1) := by decide +kernel
theorem dX7_bests_47 : decode cX7_bests 47 = .ok (.iconst 0, 1) := by decide +kernel
theorem dX7_bests_48 : decode cX7_bests 48 = .ok (.istore_n 3, 1) := by decide +kernel
theorem dX7_bests_49 : decode cX7_bests 49 = .ok (.iload_n 3, 1) := by decide +kernel
theorem dX7_bests_50 : decode cX7_bests 50 = .ok (.aload_n 0, 1) := by decide +kernel
theorem dX7_bests_51 : decode cX7_bests 51 = .ok (.getfield 62, 3) := by decide +kernel
theorem dX7_bests_54 : decode cX7_bests 54 = .ok (.if_icmp .ge 38, 3) := by decide +kernel
theorem dX7_bests_57 : decode cX7_bests 57 = .ok (.aload_n 0, 1) := by decide +kernel
theorem dX7_bests_58 : decode cX7_bests 58 = .ok (.getfield 37, 3) := by decide +kernel
theorem dX7_bests_61 : decode cX7_bests 61 = .ok (.iload_n 3, 1) := by decide +kernel
theorem dX7_bests_62 : decode cX7_bests 62 = .ok (.iaload, 1) := by decide +kernel
theorem dX7_bests_63 : decode cX7_bests 63 = .ok (.ifCond .ge 23, 3) := by decide +kernel
theorem dX7_bests_66 : decode cX7_bests 66 = .ok (.aload_n 0, 1) := by decide +kernel
theorem dX7_bests_67 : decode cX7_bests 67 = .ok (.iload_n 3, 1) := by decide +kernel
theorem dX7_bests_68 : decode cX7_bests 68 = .ok (.iload_n 2, 1) := by decide +kernel
theorem dX7_bests_69 : decode cX7_bests 69 = .ok (.iconst 1, 1) := by decide +kernel
theorem dX7_bests_70 : decode cX7_bests 70 = .ok (.isub, 1) := by decide +kernel
theorem dX7_bests_71 : decode cX7_bests 71 = .ok (.invokevirtual 173, 3) := by decide +kernel
theorem dX7_bests_74 : decode cX7_bests 74 = .ok (.ifCond .eq 12, 3) := by decide +kernel
theorem dX7_bests_77 : decode cX7_bests 77 = .ok (.aload_n 0, 1) := by decide +kernel
theorem dX7_bests_78 : decode cX7_bests 78 = .ok (.getfield 37, 3) := by decide +kernel
theorem dX7_bests_81 : decode cX7_bests 81 = .ok (.iload_n 3, 1) := by decide +kernel
theorem dX7_bests_82 : decode cX7_bests 82 = .ok (.iload_n 2, 1) := by decide +kernel
theorem dX7_bests_83 : decode cX7_bests 83 = .ok (.iastore, 1) := by decide +kernel
theorem dX7_bests_84 : decode cX7_bests 84 = .ok (.iconst 1, 1) := by decide +kernel
theorem dX7_bests_85 : decode cX7_bests 85 = .ok (.istore_n 1, 1) := by decide +kernel
theorem dX7_bests_86 : decode cX7_bests 86 = .ok (.iinc 3 1, 3) := by decide +kernel
theorem dX7_bests_89 : decode cX7_bests 89 = .ok (.goto (-40), 3) := by decide +kernel
theorem dX7_bests_92 : decode cX7_bests 92 = .ok (.iinc 2 1, 3) := by decide +kernel
theorem dX7_bests_95 : decode cX7_bests 95 = .ok (.goto (-54), 3) := by decide +kernel
theorem dX7_bests_98 : decode cX7_bests 98 = .ok (.return_, 1) := by decide +kernel
theorem dX7_leadsTo_0 : decode cX7_leadsTo 0 = .ok (.aload_n 0, 1) := by decide +kernel
theorem dX7_leadsTo_1 : decode cX7_leadsTo 1 = .ok (.iload_n 1, 1) := by decide +kernel
theorem dX7_leadsTo_2 : decode cX7_leadsTo 2 = .ok (.invokevirtual 144, 3) := by decide +kernel
theorem dX7_leadsTo_5 : decode cX7_leadsTo 5 = .ok (.iconst 0, 1) := by decide +kernel
theorem dX7_leadsTo_6 : decode cX7_leadsTo 6 = .ok (.istore_n 3, 1) := by decide +kernel
theorem dX7_leadsTo_7 : decode cX7_leadsTo 7 = .ok (.iload_n 3, 1) := by decide +kernel
theorem dX7_leadsTo_8 : decode cX7_leadsTo 8 = .ok (.aload_n 0, 1) := by decide +kernel
theorem dX7_leadsTo_9 : decode cX7_leadsTo 9 = .ok (.getfield 53, 3) := by decide +kernel
theorem dX7_leadsTo_12 : decode cX7_leadsTo 12 = .ok (.if_icmp .ge 50, 3) := by decide +kernel
theorem dX7_leadsTo_15 : decode cX7_leadsTo 15 = .ok (.aload_n 0, 1) := by decide +kernel
theorem dX7_leadsTo_16 : decode cX7_leadsTo 16 = .ok (.iload_n 3, 1) := by decide +kernel
theorem dX7_leadsTo_17 : decode cX7_leadsTo 17 = .ok (.invokevirtual 138, 3) := by decide +kernel
theorem dX7_leadsTo_20 : decode cX7_leadsTo 20 = .ok (.istore 4, 2) := by decide +kernel
theorem dX7_leadsTo_22 : decode cX7_leadsTo 22 = .ok (.iload 4, 2) := by decide +kernel
theorem dX7_leadsTo_24 : decode cX7_leadsTo 24 = .ok (.ifCond .lt 32, 3) := by decide +kernel
theorem dX7_leadsTo_27 : decode cX7_leadsTo 27 = .ok (.aload_n 0, 1) := by decide +kernel
theorem dX7_leadsTo_28 : decode cX7_leadsTo 28 = .ok (.getfield 37, 3) := by decide +kernel
theorem dX7_leadsTo_31 : decode cX7_leadsTo 31 = .ok (.iload_n 1, 1) := by decide +kernel
theorem dX7_leadsTo_32 : decode cX7_leadsTo 32 = .ok (.iload 4, 2) := by decide +kernel
theorem dX7_leadsTo_34 : decode cX7_leadsTo 34 = .ok (.aload_n 0, 1) := by decide +kernel
theorem dX7_leadsTo_35 : decode cX7_leadsTo 35 = .ok (.getfield 43, 3) := by decide +kernel
theorem dX7_leadsTo_38 : decode cX7_leadsTo 38 = .ok (.iload_n 3, 1) := by decide +kernel
theorem dX7_leadsTo_39 : decode cX7_leadsTo 39 = .ok (.iaload, 1) := by decide +kernel
theorem dX7_leadsTo_40 : decode cX7_leadsTo 40 = .ok (.isub, 1) := by decide +kernel
theorem dX7_leadsTo_41 : decode cX7_leadsTo 41 = .ok (.aload_n 0, 1) := by decide +kernel
theorem dX7_leadsTo_42 : decode cX7_leadsTo 42 = .ok (.getfield 16, 3) := by decide +kernel
theorem dX7_leadsTo_45 : decode cX7_leadsTo 45 = .ok (.iload_n 3, 1) := by decide +kernel
theorem dX7_leadsTo_46 : decode cX7_leadsTo 46 = .ok (.iaload, 1) := by decide +kernel
theorem dX7_leadsTo_47 : decode cX7_leadsTo 47 = .ok (.imul, 1) := by decide +kernel
theorem dX7_leadsTo_48 : decode cX7_leadsTo 48 = .ok (.iadd, 1) := by decide +kernel
theorem dX7_leadsTo_49 : decode cX7_leadsTo 49 = .ok (.iaload, 1) := by decide +kernel
theorem dX7_leadsTo_50 : decode cX7_leadsTo 50 = .ok (.iload_n 2, 1) := by decide +kernel
theorem dX7_leadsTo_51 : decode cX7_leadsTo 51 = .ok (.if_icmp .ne 5, 3) := by decide +kernel
theorem dX7_leadsTo_54 : decode cX7_leadsTo 54 = .ok (.iconst 1, 1) := by decide +kernel
theorem dX7_leadsTo_55 : decode cX7_leadsTo 55 = .ok (.ireturn, 1) := by decide +kernel
theorem dX7_leadsTo_56 : decode cX7_leadsTo 56 = .ok (.iinc 3 1, 3) := by decide +kernel
theorem dX7_leadsTo_59 : decode cX7_leadsTo 59 = .ok (.goto (-52), 3) := by decide +kernel
theorem dX7_leadsTo_62 : decode cX7_leadsTo 62 = .ok (.iconst 0, 1) := by decide +kernel
theorem dX7_leadsTo_63 : decode cX7_leadsTo 63 = .ok (.ireturn, 1) := by decide +kernel
theorem dX7_isHitTo_0 : decode cX7_isHitTo 0 = .ok (.iconst 0, 1) := by decide +kernel
theorem dX7_isHitTo_1 : decode cX7_isHitTo 1 = .ok (.istore_n 3, 1) := by decide +kernel
theorem dX7_isHitTo_2 : decode cX7_isHitTo 2 = .ok (.iload_n 3, 1) := by decide +kernel
theorem dX7_isHitTo_3 : decode cX7_isHitTo 3 = .ok (.aload_n 0, 1) := by decide +kernel
theorem dX7_isHitTo_4 : decode cX7_isHitTo 4 = .ok (.getfield 53, 3) := by decide +kernel
theorem dX7_isHitTo_7 : decode cX7_isHitTo 7 = .ok (.if_icmp .ge 67, 3) := by decide +kernel
theorem dX7_isHitTo_10 : decode cX7_isHitTo 10 = .ok (.iload_n 1, 1) := by decide +kernel
theorem dX7_isHitTo_11 : decode cX7_isHitTo 11 = .ok (.aload_n 0, 1) := by decide +kernel
theorem dX7_isHitTo_12 : decode cX7_isHitTo 12 = .ok (.getfield 16, 3) := by decide +kernel
theorem dX7_isHitTo_15 : decode cX7_isHitTo 15 = .ok (.iload_n 3, 1) := by decide +kernel
theorem dX7_isHitTo_16 : decode cX7_isHitTo 16 = .ok (.iaload, 1) := by decide +kernel
theorem dX7_isHitTo_17 : decode cX7_isHitTo 17 = .ok (.idiv, 1) := by decide +kernel
theorem dX7_isHitTo_18 : decode cX7_isHitTo 18 = .ok (.aload_n 0, 1) := by decide +kernel
theorem dX7_isHitTo_19 : decode cX7_isHitTo 19 = .ok (.getfield 56, 3) := by decide +kernel
theorem dX7_isHitTo_22 : decode cX7_isHitTo 22 = .ok (.irem, 1) := by decide +kernel
theorem dX7_isHitTo_23 : decode cX7_isHitTo 23 = .ok (.istore 4, 2) := by decide +kernel
theorem dX7_isHitTo_25 : decode cX7_isHitTo 25 = .ok (.iconst 0, 1) := by decide +kernel
theorem dX7_isHitTo_26 : decode cX7_isHitTo 26 = .ok (.istore 5, 2) := by decide +kernel
theorem dX7_isHitTo_28 : decode cX7_isHitTo 28 = .ok (.iload 5, 2) := by decide +kernel
theorem dX7_isHitTo_30 : decode cX7_isHitTo 30 = .ok (.aload_n 0, 1) := by decide +kernel
theorem dX7_isHitTo_31 : decode cX7_isHitTo 31 = .ok (.getfield 56, 3) := by decide +kernel
theorem dX7_isHitTo_34 : decode cX7_isHitTo 34 = .ok (.if_icmp .ge 34, 3) := by decide +kernel
theorem dX7_isHitTo_37 : decode cX7_isHitTo 37 = .ok (.aload_n 0, 1) := by decide +kernel
theorem dX7_isHitTo_38 : decode cX7_isHitTo 38 = .ok (.getfield 40, 3) := by decide +kernel
theorem dX7_isHitTo_41 : decode cX7_isHitTo 41 = .ok (.iload_n 1, 1) := by decide +kernel
theorem dX7_isHitTo_42 : decode cX7_isHitTo 42 = .ok (.iload 5, 2) := by decide +kernel
theorem dX7_isHitTo_44 : decode cX7_isHitTo 44 = .ok (.iload 4, 2) := by decide +kernel
theorem dX7_isHitTo_46 : decode cX7_isHitTo 46 = .ok (.isub, 1) := by decide +kernel
theorem dX7_isHitTo_47 : decode cX7_isHitTo 47 = .ok (.aload_n 0, 1) := by decide +kernel
theorem dX7_isHitTo_48 : decode cX7_isHitTo 48 = .ok (.getfield 16, 3) := by decide +kernel
theorem dX7_isHitTo_51 : decode cX7_isHitTo 51 = .ok (.iload_n 3, 1) := by decide +kernel
theorem dX7_isHitTo_52 : decode cX7_isHitTo 52 = .ok (.iaload, 1) := by decide +kernel
theorem dX7_isHitTo_53 : decode cX7_isHitTo 53 = .ok (.imul, 1) := by decide +kernel
theorem dX7_isHitTo_54 : decode cX7_isHitTo 54 = .ok (.iadd, 1) := by decide +kernel
theorem dX7_isHitTo_55 : decode cX7_isHitTo 55 = .ok (.iaload, 1) := by decide +kernel
theorem dX7_isHitTo_56 : decode cX7_isHitTo 56 = .ok (.iload_n 2, 1) := by decide +kernel
theorem dX7_isHitTo_57 : decode cX7_isHitTo 57 = .ok (.if_icmp .ne 5, 3) := by decide +kernel
theorem dX7_isHitTo_60 : decode cX7_isHitTo 60 = .ok (.iconst 1, 1) := by decide +kernel
theorem dX7_isHitTo_61 : decode cX7_isHitTo 61 = .ok (.ireturn, 1) := by decide +kernel
theorem dX7_isHitTo_62 : decode cX7_isHitTo 62 = .ok (.iinc 5 1, 3) := by decide +kernel
theorem dX7_isHitTo_65 : decode cX7_isHitTo 65 = .ok (.goto (-37), 3) := by decide +kernel
theorem dX7_isHitTo_68 : decode cX7_isHitTo 68 = .ok (.iinc 3 1, 3) := by decide +kernel
theorem dX7_isHitTo_71 : decode cX7_isHitTo 71 = .ok (.goto (-69), 3) := by decide +kernel
theorem dX7_isHitTo_74 : decode cX7_isHitTo 74 = .ok (.iconst 0, 1) := by decide +kernel
theorem dX7_isHitTo_75 : decode cX7_isHitTo 75 = .ok (.ireturn, 1) := by decide +kernel
theorem dX7_measures_0 : decode cX7_measures 0 = .ok (.aload_n 0, 1) := by decide +kernel
theorem dX7_measures_1 : decode cX7_measures 1 = .ok (.getfield 71, 3) := by decide +kernel
theorem dX7_measures_4 : decode cX7_measures 4 = .ok (.ifCond .eq 4, 3) := by decide +kernel
theorem dX7_measures_7 : decode cX7_measures 7 = .ok (.return_, 1) := by decide +kernel
theorem dX7_measures_8 : decode cX7_measures 8 = .ok (.aload_n 0, 1) := by decide +kernel
theorem dX7_measures_9 : decode cX7_measures 9 = .ok (.invokevirtual 176, 3) := by decide +kernel
theorem dX7_measures_12 : decode cX7_measures 12 = .ok (.aload_n 0, 1) := by decide +kernel
theorem dX7_measures_13 : decode cX7_measures 13 = .ok (.invokevirtual 179, 3) := by decide +kernel
theorem dX7_measures_16 : decode cX7_measures 16 = .ok (.iconst 0, 1) := by decide +kernel
theorem dX7_measures_17 : decode cX7_measures 17 = .ok (.istore_n 1, 1) := by decide +kernel
theorem dX7_measures_18 : decode cX7_measures 18 = .ok (.iload_n 1, 1) := by decide +kernel
theorem dX7_measures_19 : decode cX7_measures 19 = .ok (.aload_n 0, 1) := by decide +kernel
theorem dX7_measures_20 : decode cX7_measures 20 = .ok (.getfield 62, 3) := by decide +kernel
theorem dX7_measures_23 : decode cX7_measures 23 = .ok (.if_icmp .ge 30, 3) := by decide +kernel
theorem dX7_measures_26 : decode cX7_measures 26 = .ok (.aload_n 0, 1) := by decide +kernel
theorem dX7_measures_27 : decode cX7_measures 27 = .ok (.getfield 40, 3) := by decide +kernel
theorem dX7_measures_30 : decode cX7_measures 30 = .ok (.iload_n 1, 1) := by decide +kernel
theorem dX7_measures_31 : decode cX7_measures 31 = .ok (.aload_n 0, 1) := by decide +kernel
theorem dX7_measures_32 : decode cX7_measures 32 = .ok (.getfield 34, 3) := by decide +kernel
theorem dX7_measures_35 : decode cX7_measures 35 = .ok (.iload_n 1, 1) := by decide +kernel
theorem dX7_measures_36 : decode cX7_measures 36 = .ok (.iaload, 1) := by decide +kernel
theorem dX7_measures_37 : decode cX7_measures 37 = .ok (.ifCond .ne 7, 3) := by decide +kernel
theorem dX7_measures_40 : decode cX7_measures 40 = .ok (.iconst 0, 1) := by decide +kernel
theorem dX7_measures_41 : decode cX7_measures 41 = .ok (.goto 5, 3) := by decide +kernel
theorem dX7_measures_44 : decode cX7_measures 44 = .ok (.bipush (-4), 2) := by decide +kernel
theorem dX7_measures_46 : decode cX7_measures 46 = .ok (.iastore, 1) := by decide +kernel
theorem dX7_measures_47 : decode cX7_measures 47 = .ok (.iinc 1 1, 3) := by decide +kernel
theorem dX7_measures_50 : decode cX7_measures 50 = .ok (.goto (-32), 3) := by decide +kernel
theorem dX7_measures_53 : decode cX7_measures 53 = .ok (.iconst 1, 1) := by decide +kernel
theorem dX7_measures_54 : decode cX7_measures 54 = .ok (.istore_n 1, 1) := by decide +kernel
theorem dX7_measures_55 : decode cX7_measures 55 = .ok (.iload_n 1, 1) := by decide +kernel
theorem dX7_measures_56 : decode cX7_measures 56 = .ok (.aload_n 0, 1) := by decide +kernel
theorem dX7_measures_57 : decode cX7_measures 57 = .ok (.getfield 53, 3) := by decide +kernel
theorem dX7_measures_60 : decode cX7_measures 60 = .ok (.if_icmp .gt 52, 3) := by decide +kernel
theorem dX7_measures_63 : decode cX7_measures 63 = .ok (.iconst 0, 1) := by decide +kernel
theorem dX7_measures_64 : decode cX7_measures 64 = .ok (.istore_n 2, 1) := by decide +kernel
theorem dX7_measures_65 : decode cX7_measures 65 = .ok (.iload_n 2, 1) := by decide +kernel
theorem dX7_measures_66 : decode cX7_measures 66 = .ok (.aload_n 0, 1) := by decide +kernel
theorem dX7_measures_67 : decode cX7_measures 67 = .ok (.getfield 62, 3) := by decide +kernel
theorem dX7_measures_70 : decode cX7_measures 70 = .ok (.if_icmp .ge 36, 3) := by decide +kernel
theorem dX7_measures_73 : decode cX7_measures 73 = .ok (.aload_n 0, 1) := by decide +kernel
theorem dX7_measures_74 : decode cX7_measures 74 = .ok (.getfield 40, 3) := by decide +kernel
theorem dX7_measures_77 : decode cX7_measures 77 = .ok (.iload_n 2, 1) := by decide +kernel
theorem dX7_measures_78 : decode cX7_measures 78 = .ok (.iaload, 1) := by decide +kernel
theorem dX7_measures_79 : decode cX7_measures 79 = .ok (.ifCond .ge 21, 3) := by decide +kernel
theorem dX7_measures_82 : decode cX7_measures 82 = .ok (.aload_n 0, 1) := by decide +kernel
theorem dX7_measures_83 : decode cX7_measures 83 = .ok (.iload_n 2, 1) := by decide +kernel
theorem dX7_measures_84 : decode cX7_measures 84 = .ok (.iload_n 1, 1) := by decide +kernel
theorem dX7_measures_85 : decode cX7_measures 85 = .ok (.iconst 1, 1) := by decide +kernel
theorem dX7_measures_86 : decode cX7_measures 86 = .ok (.isub, 1) := by decide +kernel
theorem dX7_measures_87 : decode cX7_measures 87 = .ok (.invokevirtual 182, 3) := by decide +kernel
theorem dX7_measures_90 : decode cX7_measures 90 = .ok (.ifCond .eq 10, 3) := by decide +kernel
theorem dX7_measures_93 : decode cX7_measures 93 = .ok (.aload_n 0, 1) := by decide +kernel
theorem dX7_measures_94 : decode cX7_measures 94 = .ok (.getfield 40, 3) := by decide +kernel
theorem dX7_measures_97 : decode cX7_measures 97 = .ok (.iload_n 2, 1) := by decide +kernel
theorem dX7_measures_98 : decode cX7_measures 98 = .ok (.iload_n 1, 1) := by decide +kernel
theorem dX7_measures_99 : decode cX7_measures 99 = .ok (.iastore, 1) := by decide +kernel
theorem dX7_measures_100 : decode cX7_measures 100 = .ok (.iinc 2 1, 3) := by decide +kernel
theorem dX7_measures_103 : decode cX7_measures 103 = .ok (.goto (-38), 3) := by decide +kernel
theorem dX7_measures_106 : decode cX7_measures 106 = .ok (.iinc 1 1, 3) := by decide +kernel
theorem dX7_measures_109 : decode cX7_measures 109 = .ok (.goto (-54), 3) := by decide +kernel
theorem dX7_measures_112 : decode cX7_measures 112 = .ok (.aload_n 0, 1) := by decide +kernel
theorem dX7_measures_113 : decode cX7_measures 113 = .ok (.iconst 1, 1) := by decide +kernel
theorem dX7_measures_114 : decode cX7_measures 114 = .ok (.putfield 71, 3) := by decide +kernel
theorem dX7_measures_117 : decode cX7_measures 117 = .ok (.return_, 1) := by decide +kernel
theorem dX7_state_0 : decode cX7_state 0 = .ok (.iload_n 1, 1) := by decide +kernel
theorem dX7_state_1 : decode cX7_state 1 = .ok (.iconst 0, 1) := by decide +kernel
theorem dX7_state_2 : decode cX7_state 2 = .ok (.aload_n 0, 1) := by decide +kernel
theorem dX7_state_3 : decode cX7_state 3 = .ok (.getfield 62, 3) := by decide +kernel
theorem dX7_state_6 : decode cX7_state 6 = .ok (.iconst 1, 1) := by decide +kernel
theorem dX7_state_7 : decode cX7_state 7 = .ok (.isub, 1) := by decide +kernel
theorem dX7_state_8 : decode cX7_state 8 = .ok (.invokestatic 88, 3) := by decide +kernel
theorem dX7_state_11 : decode cX7_state 11 = .ok (.ifCond .eq 12, 3) := by decide +kernel
theorem dX7_state_14 : decode cX7_state 14 = .ok (.iload_n 2, 1) := by decide +kernel
theorem dX7_state_15 : decode cX7_state 15 = .ok (.iconst 0, 1) := by decide +kernel
theorem dX7_state_16 : decode cX7_state 16 = .ok (.iconst 3, 1) := by decide +kernel
theorem dX7_state_17 : decode cX7_state 17 = .ok (.invokestatic 88, 3) := by decide +kernel
theorem dX7_state_20 : decode cX7_state 20 = .ok (.ifCond .ne 5, 3) := by decide +kernel
theorem dX7_state_23 : decode cX7_state 23 = .ok (.iconst (-1), 1) := by decide +kernel
theorem dX7_state_24 : decode cX7_state 24 = .ok (.ireturn, 1) := by decide +kernel
theorem dX7_state_25 : decode cX7_state 25 = .ok (.aload_n 0, 1) := by decide +kernel
theorem dX7_state_26 : decode cX7_state 26 = .ok (.invokevirtual 185, 3) := by decide +kernel
theorem dX7_state_29 : decode cX7_state 29 = .ok (.iload_n 2, 1) := by decide +kernel
theorem dX7_state_30 : decode cX7_state 30 = .ok (.tableswitch 47 0 2 #[26, 33, 40], 26) := by decide +kernel
theorem dX7_state_56 : decode cX7_state 56 = .ok (.aload_n 0, 1) := by decide +kernel
theorem dX7_state_57 : decode cX7_state 57 = .ok (.getfield 34, 3) := by decide +kernel
theorem dX7_state_60 : decode cX7_state 60 = .ok (.iload_n 1, 1) := by decide +kernel
theorem dX7_state_61 : decode cX7_state 61 = .ok (.iaload, 1) := by decide +kernel
theorem dX7_state_62 : decode cX7_state 62 = .ok (.ireturn, 1) := by decide +kernel
theorem dX7_state_63 : decode cX7_state 63 = .ok (.aload_n 0, 1) := by decide +kernel
theorem dX7_state_64 : decode cX7_state 64 = .ok (.getfield 37, 3) := by decide +kernel
theorem dX7_state_67 : decode cX7_state 67 = .ok (.iload_n 1, 1) := by decide +kernel
theorem dX7_state_68 : decode cX7_state 68 = .ok (.iaload, 1) := by decide +kernel
theorem dX7_state_69 : decode cX7_state 69 = .ok (.ireturn, 1) := by decide +kernel
theorem dX7_state_70 : decode cX7_state 70 = .ok (.aload_n 0, 1) := by decide +kernel
theorem dX7_state_71 : decode cX7_state 71 = .ok (.getfield 40, 3) := by decide +kernel
theorem dX7_state_74 : decode cX7_state 74 = .ok (.iload_n 1, 1) := by decide +kernel
theorem dX7_state_75 : decode cX7_state 75 = .ok (.iaload, 1) := by decide +kernel
theorem dX7_state_76 : decode cX7_state 76 = .ok (.ireturn, 1) := by decide +kernel
theorem dX7_state_77 : decode cX7_state 77 = .ok (.aload_n 0, 1) := by decide +kernel
theorem dX7_state_78 : decode cX7_state 78 = .ok (.getfield 34, 3) := by decide +kernel
theorem dX7_state_81 : decode cX7_state 81 = .ok (.iload_n 1, 1) := by decide +kernel
theorem dX7_state_82 : decode cX7_state 82 = .ok (.iaload, 1) := by decide +kernel
theorem dX7_state_83 : decode cX7_state 83 = .ok (.ifCond .ne 7, 3) := by decide +kernel
theorem dX7_state_86 : decode cX7_state 86 = .ok (.iconst 1, 1) := by decide +kernel
theorem dX7_state_87 : decode cX7_state 87 = .ok (.goto 4, 3) := by decide +kernel
theorem dX7_state_90 : decode cX7_state 90 = .ok (.iconst 0, 1) := by decide +kernel
theorem dX7_state_91 : decode cX7_state 91 = .ok (.ireturn, 1) := by decide +kernel
theorem dX7_leaves_0 : decode cX7_leaves 0 = .ok (.aload_n 0, 1) := by decide +kernel
theorem dX7_leaves_1 : decode cX7_leaves 1 = .ok (.iload_n 1, 1) := by decide +kernel
theorem dX7_leaves_2 : decode cX7_leaves 2 = .ok (.invokevirtual 144, 3) := by decide +kernel
theorem dX7_leaves_5 : decode cX7_leaves 5 = .ok (.iconst 0, 1) := by decide +kernel
theorem dX7_leaves_6 : decode cX7_leaves 6 = .ok (.istore_n 2, 1) := by decide +kernel
theorem dX7_leaves_7 : decode cX7_leaves 7 = .ok (.iconst 0, 1) := by decide +kernel
theorem dX7_leaves_8 : decode cX7_leaves 8 = .ok (.istore_n 3, 1) := by decide +kernel
theorem dX7_leaves_9 : decode cX7_leaves 9 = .ok (.iload_n 3, 1) := by decide +kernel
theorem dX7_leaves_10 : decode cX7_leaves 10 = .ok (.aload_n 0, 1) := by decide +kernel
theorem dX7_leaves_11 : decode cX7_leaves 11 = .ok (.getfield 53, 3) := by decide +kernel
theorem dX7_leaves_14 : decode cX7_leaves 14 = .ok (.if_icmp .ge 55, 3) := by decide +kernel
theorem dX7_leaves_17 : decode cX7_leaves 17 = .ok (.aload_n 0, 1) := by decide +kernel
theorem dX7_leaves_18 : decode cX7_leaves 18 = .ok (.iload_n 3, 1) := by decide +kernel
theorem dX7_leaves_19 : decode cX7_leaves 19 = .ok (.invokevirtual 138, 3) := by decide +kernel
theorem dX7_leaves_22 : decode cX7_leaves 22 = .ok (.istore 4, 2) := by decide +kernel
theorem dX7_leaves_24 : decode cX7_leaves 24 = .ok (.iload_n 2, 1) := by decide +kernel
theorem dX7_leaves_25 : decode cX7_leaves 25 = .ok (.iload 4, 2) := by decide +kernel
theorem dX7_leaves_27 : decode cX7_leaves 27 = .ok (.ifCond .lt 33, 3) := by decide +kernel
theorem dX7_leaves_30 : decode cX7_leaves 30 = .ok (.aload_n 0, 1) := by decide +kernel
theorem dX7_leaves_31 : decode cX7_leaves 31 = .ok (.getfield 34, 3) := by decide +kernel
theorem dX7_leaves_34 : decode cX7_leaves 34 = .ok (.iload_n 1, 1) := by decide +kernel
theorem dX7_leaves_35 : decode cX7_leaves 35 = .ok (.iload 4, 2) := by decide +kernel
theorem dX7_leaves_37 : decode cX7_leaves 37 = .ok (.aload_n 0, 1) := by decide +kernel
theorem dX7_leaves_38 : decode cX7_leaves 38 = .ok (.getfield 43, 3) := by decide +kernel
theorem dX7_leaves_41 : decode cX7_leaves 41 = .ok (.iload_n 3, 1) := by decide +kernel
theorem dX7_leaves_42 : decode cX7_leaves 42 = .ok (.iaload, 1) := by decide +kernel
theorem dX7_leaves_43 : decode cX7_leaves 43 = .ok (.isub, 1) := by decide +kernel
theorem dX7_leaves_44 : decode cX7_leaves 44 = .ok (.aload_n 0, 1) := by decide +kernel
theorem dX7_leaves_45 : decode cX7_leaves 45 = .ok (.getfield 16, 3) := by decide +kernel
theorem dX7_leaves_48 : decode cX7_leaves 48 = .ok (.iload_n 3, 1) := by decide +kernel
theorem dX7_leaves_49 : decode cX7_leaves 49 = .ok (.iaload, 1) := by decide +kernel
theorem dX7_leaves_50 : decode cX7_leaves 50 = .ok (.imul, 1) := by decide +kernel
theorem dX7_leaves_51 : decode cX7_leaves 51 = .ok (.iadd, 1) := by decide +kernel
theorem dX7_leaves_52 : decode cX7_leaves 52 = .ok (.iaload, 1) := by decide +kernel
theorem dX7_leaves_53 : decode cX7_leaves 53 = .ok (.ifCond .eq 7, 3) := by decide +kernel
theorem dX7_leaves_56 : decode cX7_leaves 56 = .ok (.iconst 1, 1) := by decide +kernel
theorem dX7_leaves_57 : decode cX7_leaves 57 = .ok (.goto 4, 3) := by decide +kernel
theorem dX7_leaves_60 : decode cX7_leaves 60 = .ok (.iconst 0, 1) := by decide +kernel
theorem dX7_leaves_61 : decode cX7_leaves 61 = .ok (.iadd, 1) := by decide +kernel
theorem dX7_leaves_62 : decode cX7_leaves 62 = .ok (.istore_n 2, 1) := by decide +kernel
theorem dX7_leaves_63 : decode cX7_leaves 63 = .ok (.iinc 3 1, 3) := by decide +kernel
theorem dX7_leaves_66 : decode cX7_leaves 66 = .ok (.goto (-57), 3) := by decide +kernel
theorem dX7_leaves_69 : decode cX7_leaves 69 = .ok (.iload_n 2, 1) := by decide +kernel
theorem dX7_leaves_70 : decode cX7_leaves 70 = .ok (.ireturn, 1) := by decide +kernel
theorem dX7_all_0 : decode cX7_all 0 = .ok (.iload_n 1, 1) := by decide +kernel
theorem dX7_all_1 : decode cX7_all 1 = .ok (.iconst 0, 1) := by decide +kernel
theorem dX7_all_2 : decode cX7_all 2 = .ok (.bipush 6, 2) := by decide +kernel
theorem dX7_all_4 : decode cX7_all 4 = .ok (.invokestatic 88, 3) := by decide +kernel
theorem dX7_all_7 : decode cX7_all 7 = .ok (.ifCond .ne 5, 3) := by decide +kernel
theorem dX7_all_10 : decode cX7_all 10 = .ok (.iconst (-1), 1) := by decide +kernel
theorem dX7_all_11 : decode cX7_all 11 = .ok (.ireturn, 1) := by decide +kernel
theorem dX7_all_12 : decode cX7_all 12 = .ok (.aload_n 0, 1) := by decide +kernel
theorem dX7_all_13 : decode cX7_all 13 = .ok (.invokevirtual 185, 3) := by decide +kernel
theorem dX7_all_16 : decode cX7_all 16 = .ok (.iconst 0, 1) := by decide +kernel
theorem dX7_all_17 : decode cX7_all 17 = .ok (.istore_n 2, 1) := by decide +kernel
theorem dX7_all_18 : decode cX7_all 18 = .ok (.iconst 0, 1) := by decide +kernel
theorem dX7_all_19 : decode cX7_all 19 = .ok (.istore_n 3, 1) := by decide +kernel
theorem dX7_all_20 : decode cX7_all 20 = .ok (.bipush (-4), 2) := by decide +kernel
theorem dX7_all_22 : decode cX7_all 22 = .ok (.istore 4, 2) := by decide +kernel
theorem dX7_all_24 : decode cX7_all 24 = .ok (.bipush (-4), 2) := by decide +kernel
theorem dX7_all_26 : decode cX7_all 26 = .ok (.istore 5, 2) := by decide +kernel
theorem dX7_all_28 : decode cX7_all 28 = .ok (.iconst 0, 1) := by decide +kernel
theorem dX7_all_29 : decode cX7_all 29 = .ok (.istore 6, 2) := by decide +kernel
theorem dX7_all_31 : decode cX7_all 31 = .ok (.iconst 0, 1) := by decide +kernel
theorem dX7_all_32 : decode cX7_all 32 = .ok (.istore 7, 2) := by decide +kernel
theorem dX7_all_34 : decode cX7_all 34 = .ok (.bipush (-4), 2) := by decide +kernel
theorem dX7_all_36 : decode cX7_all 36 = .ok (.istore 8, 2) := by decide +kernel
theorem dX7_all_38 : decode cX7_all 38 = .ok (.iconst 0, 1) := by decide +kernel
theorem dX7_all_39 : decode cX7_all 39 = .ok (.istore 9, 2) := by decide +kernel
theorem dX7_all_41 : decode cX7_all 41 = .ok (.iload 9, 2) := by decide +kernel
theorem dX7_all_43 : decode cX7_all 43 = .ok (.aload_n 0, 1) := by decide +kernel
theorem dX7_all_44 : decode cX7_all 44 = .ok (.getfield 62, 3) := by decide +kernel
theorem dX7_all_47 : decode cX7_all 47 = .ok (.if_icmp .ge 172, 3) := by decide +kernel
theorem dX7_all_50 : decode cX7_all 50 = .ok (.iload_n 2, 1) := by decide +kernel
theorem dX7_all_51 : decode cX7_all 51 = .ok (.aload_n 0, 1) := by decide +kernel
theorem dX7_all_52 : decode cX7_all 52 = .ok (.getfield 34, 3) := by decide +kernel
theorem dX7_all_55 : decode cX7_all 55 = .ok (.iload 9, 2) := by decide +kernel
theorem dX7_all_57 : decode cX7_all 57 = .ok (.iaload, 1) := by decide +kernel
theorem dX7_all_58 : decode cX7_all 58 = .ok (.ifCond .ne 7, 3) := by decide +kernel
theorem dX7_all_61 : decode cX7_all 61 = .ok (.iconst 1, 1) := by decide +kernel
theorem dX7_all_62 : decode cX7_all 62 = .ok (.goto 4, 3) := by decide +kernel
theorem dX7_all_65 : decode cX7_all 65 = .ok (.iconst 0, 1) := by decide +kernel
theorem dX7_all_66 : decode cX7_all 66 = .ok (.iadd, 1) := by decide +kernel
theorem dX7_all_67 : decode cX7_all 67 = .ok (.istore_n 2, 1) := by decide +kernel
theorem dX7_all_68 : decode cX7_all 68 = .ok (.iload_n 3, 1) := by decide +kernel
theorem dX7_all_69 : decode cX7_all 69 = .ok (.aload_n 0, 1) := by decide +kernel
theorem dX7_all_70 : decode cX7_all 70 = .ok (.getfield 34, 3) := by decide +kernel
theorem dX7_all_73 : decode cX7_all 73 = .ok (.iload 9, 2) := by decide +kernel
theorem dX7_all_75 : decode cX7_all 75 = .ok (.iaload, 1) := by decide +kernel
theorem dX7_all_76 : decode cX7_all 76 = .ok (.ifCond .ge 7, 3) := by decide +kernel
theorem dX7_all_79 : decode cX7_all 79 = .ok (.iconst 1, 1) := by decide +kernel
theorem dX7_all_80 : decode cX7_all 80 = .ok (.goto 4, 3) := by decide +kernel
theorem dX7_all_83 : decode cX7_all 83 = .ok (.iconst 0, 1) := by decide +kernel
theorem dX7_all_84 : decode cX7_all 84 = .ok (.iadd, 1) := by decide +kernel
theorem dX7_all_85 : decode cX7_all 85 = .ok (.istore_n 3, 1) := by decide +kernel
theorem dX7_all_86 : decode cX7_all 86 = .ok (.iload 7, 2) := by decide +kernel
theorem dX7_all_88 : decode cX7_all 88 = .ok (.aload_n 0, 1) := by decide +kernel
theorem dX7_all_89 : decode cX7_all 89 = .ok (.getfield 34, 3) := by decide +kernel
theorem dX7_all_92 : decode cX7_all 92 = .ok (.iload 9, 2) := by decide +kernel
theorem dX7_all_94 : decode cX7_all 94 = .ok (.iaload, 1) := by decide +kernel
theorem dX7_all_95 : decode cX7_all 95 = .ok (.ifCond .ge 7, 3) := by decide +kernel
theorem dX7_all_98 : decode cX7_all 98 = .ok (.iconst 0, 1) := by decide +kernel
theorem dX7_all_99 : decode cX7_all 99 = .ok (.goto 10, 3) := by decide +kernel
theorem dX7_all_102 : decode cX7_all 102 = .ok (.aload_n 0, 1) := by decide +kernel
theorem dX7_all_103 : decode cX7_all 103 = .ok (.getfield 34, 3) := by decide +kernel
theorem dX7_all_106 : decode cX7_all 106 = .ok (.iload 9, 2) := by decide +kernel
theorem dX7_all_108 : decode cX7_all 108 = .ok (.iaload, 1) := by decide +kernel
theorem dX7_all_109 : decode cX7_all 109 = .ok (.iadd, 1) := by decide +kernel
theorem dX7_all_110 : decode cX7_all 110 = .ok (.istore 7, 2) := by decide +kernel
theorem dX7_all_112 : decode cX7_all 112 = .ok (.aload_n 0, 1) := by decide +kernel
theorem dX7_all_113 : decode cX7_all 113 = .ok (.getfield 34, 3) := by decide +kernel
theorem dX7_all_116 : decode cX7_all 116 = .ok (.iload 9, 2) := by decide +kernel
theorem dX7_all_118 : decode cX7_all 118 = .ok (.iaload, 1) := by decide +kernel
theorem dX7_all_119 : decode cX7_all 119 = .ok (.ifCond .lt 28, 3) := by decide +kernel
theorem dX7_all_122 : decode cX7_all 122 = .ok (.aload_n 0, 1) := by decide +kernel
theorem dX7_all_123 : decode cX7_all 123 = .ok (.getfield 34, 3) := by decide +kernel
theorem dX7_all_126 : decode cX7_all 126 = .ok (.iload 9, 2) := by decide +kernel
theorem dX7_all_128 : decode cX7_all 128 = .ok (.iaload, 1) := by decide +kernel
theorem dX7_all_129 : decode cX7_all 129 = .ok (.iload 4, 2) := by decide +kernel
theorem dX7_all_131 : decode cX7_all 131 = .ok (.if_icmp .le 16, 3) := by decide +kernel
theorem dX7_all_134 : decode cX7_all 134 = .ok (.aload_n 0, 1) := by decide +kernel
theorem dX7_all_135 : decode cX7_all 135 = .ok (.getfield 34, 3) := by decide +kernel
theorem dX7_all_138 : decode cX7_all 138 = .ok (.iload 9, 2) := by decide +kernel
theorem dX7_all_140 : decode cX7_all 140 = .ok (.iaload, 1) := by decide +kernel
theorem dX7_all_141 : decode cX7_all 141 = .ok (.istore 4, 2) := by decide +kernel
theorem dX7_all_143 : decode cX7_all 143 = .ok (.iload 9, 2) := by decide +kernel
theorem dX7_all_145 : decode cX7_all 145 = .ok (.istore 5, 2) := by decide +kernel
theorem dX7_all_147 : decode cX7_all 147 = .ok (.aload_n 0, 1) := by decide +kernel
theorem dX7_all_148 : decode cX7_all 148 = .ok (.getfield 37, 3) := by decide +kernel
theorem dX7_all_151 : decode cX7_all 151 = .ok (.iload 9, 2) := by decide +kernel
theorem dX7_all_153 : decode cX7_all 153 = .ok (.iaload, 1) := by decide +kernel
theorem dX7_all_154 : decode cX7_all 154 = .ok (.ifCond .lt 25, 3) := by decide +kernel
theorem dX7_all_157 : decode cX7_all 157 = .ok (.aload_n 0, 1) := by decide +kernel
theorem dX7_all_158 : decode cX7_all 158 = .ok (.getfield 37, 3) := by decide +kernel
theorem dX7_all_161 : decode cX7_all 161 = .ok (.iload 9, 2) := by decide +kernel
theorem dX7_all_163 : decode cX7_all 163 = .ok (.iaload, 1) := by decide +kernel
theorem dX7_all_164 : decode cX7_all 164 = .ok (.iload 8, 2) := by decide +kernel
theorem dX7_all_166 : decode cX7_all 166 = .ok (.if_icmp .le 13, 3) := by decide +kernel
theorem dX7_all_169 : decode cX7_all 169 = .ok (.aload_n 0, 1) := by decide +kernel
theorem dX7_all_170 : decode cX7_all 170 = .ok (.getfield 37, 3) := by decide +kernel
theorem dX7_all_173 : decode cX7_all 173 = .ok (.iload 9, 2) := by decide +kernel
theorem dX7_all_175 : decode cX7_all 175 = .ok (.iaload, 1) := by decide +kernel
theorem dX7_all_176 : decode cX7_all 176 = .ok (.goto 5, 3) := by decide +kernel
theorem dX7_all_179 : decode cX7_all 179 = .ok (.iload 8, 2) := by decide +kernel
theorem dX7_all_181 : decode cX7_all 181 = .ok (.istore 8, 2) := by decide +kernel
theorem dX7_all_183 : decode cX7_all 183 = .ok (.iload 6, 2) := by decide +kernel
theorem dX7_all_185 : decode cX7_all 185 = .ok (.aload_n 0, 1) := by decide +kernel
theorem dX7_all_186 : decode cX7_all 186 = .ok (.getfield 34, 3) := by decide +kernel
theorem dX7_all_189 : decode cX7_all 189 = .ok (.iload 9, 2) := by decide +kernel
theorem dX7_all_191 : decode cX7_all 191 = .ok (.iaload, 1) := by decide +kernel
theorem dX7_all_192 : decode cX7_all 192 = .ok (.ifCond .ne 17, 3) := by decide +kernel
theorem dX7_all_195 : decode cX7_all 195 = .ok (.iload_n 1, 1) := by decide +kernel
theorem dX7_all_196 : decode cX7_all 196 = .ok (.iconst 4, 1) := by decide +kernel
theorem dX7_all_197 : decode cX7_all 197 = .ok (.if_icmp .ne 12, 3) := by decide +kernel
theorem dX7_all_200 : decode cX7_all 200 = .ok (.aload_n 0, 1) := by decide +kernel
theorem dX7_all_201 : decode cX7_all 201 = .ok (.iload 9, 2) := by decide +kernel
theorem dX7_all_203 : decode cX7_all 203 = .ok (.invokevirtual 188, 3) := by decide +kernel
theorem dX7_all_206 : decode cX7_all 206 = .ok (.goto 4, 3) := by decide +kernel
theorem dX7_all_209 : decode cX7_all 209 = .ok (.iconst 0, 1) := by decide +kernel
theorem dX7_all_210 : decode cX7_all 210 = .ok (.iadd, 1) := by decide +kernel
theorem dX7_all_211 : decode cX7_all 211 = .ok (.istore 6, 2) := by decide +kernel
theorem dX7_all_213 : decode cX7_all 213 = .ok (.iinc 9 1, 3) := by decide +kernel
theorem dX7_all_216 : decode cX7_all 216 = .ok (.goto (-175), 3) := by decide +kernel
theorem dX7_all_219 : decode cX7_all 219 = .ok (.iload_n 1, 1) := by decide +kernel
theorem dX7_all_220 : decode cX7_all 220 = .ok (.tableswitch 56 0 5 #[40, 42, 44, 47, 50, 53], 40) := by decide +kernel
theorem dX7_all_260 : decode cX7_all 260 = .ok (.iload_n 2, 1) := by decide +kernel
theorem dX7_all_261 : decode cX7_all 261 = .ok (.ireturn, 1) := by decide +kernel
theorem dX7_all_262 : decode cX7_all 262 = .ok (.iload_n 3, 1) := by decide +kernel
theorem dX7_all_263 : decode cX7_all 263 = .ok (.ireturn, 1) := by decide +kernel
theorem dX7_all_264 : decode cX7_all 264 = .ok (.iload 4, 2) := by decide +kernel
theorem dX7_all_266 : decode cX7_all 266 = .ok (.ireturn, 1) := by decide +kernel
theorem dX7_all_267 : decode cX7_all 267 = .ok (.iload 5, 2) := by decide +kernel
theorem dX7_all_269 : decode cX7_all 269 = .ok (.ireturn, 1) := by decide +kernel
theorem dX7_all_270 : decode cX7_all 270 = .ok (.iload 6, 2) := by decide +kernel
theorem dX7_all_272 : decode cX7_all 272 = .ok (.ireturn, 1) := by decide +kernel
theorem dX7_all_273 : decode cX7_all 273 = .ok (.iload 7, 2) := by decide +kernel
theorem dX7_all_275 : decode cX7_all 275 = .ok (.ireturn, 1) := by decide +kernel
theorem dX7_all_276 : decode cX7_all 276 = .ok (.iload 8, 2) := by decide +kernel
theorem dX7_all_278 : decode cX7_all 278 = .ok (.ireturn, 1) := by decide +kernel
theorem dX7_within_0 : decode cX7_within 0 = .ok (.iload_n 1, 1) := by decide +kernel
theorem dX7_within_1 : decode cX7_within 1 = .ok (.iconst 0, 1) := by decide +kernel
theorem dX7_within_2 : decode cX7_within 2 = .ok (.aload_n 0, 1) := by decide +kernel
theorem dX7_within_3 : decode cX7_within 3 = .ok (.getfield 53, 3) := by decide +kernel
theorem dX7_within_6 : decode cX7_within 6 = .ok (.invokestatic 88, 3) := by decide +kernel
theorem dX7_within_9 : decode cX7_within 9 = .ok (.ifCond .eq 12, 3) := by decide +kernel
theorem dX7_within_12 : decode cX7_within 12 = .ok (.iload_n 2, 1) := by decide +kernel
theorem dX7_within_13 : decode cX7_within 13 = .ok (.iconst 0, 1) := by decide +kernel
theorem dX7_within_14 : decode cX7_within 14 = .ok (.iconst 1, 1) := by decide +kernel
theorem dX7_within_15 : decode cX7_within 15 = .ok (.invokestatic 88, 3) := by decide +kernel
theorem dX7_within_18 : decode cX7_within 18 = .ok (.ifCond .ne 5, 3) := by decide +kernel
theorem dX7_within_21 : decode cX7_within 21 = .ok (.iconst (-1), 1) := by decide +kernel
theorem dX7_within_22 : decode cX7_within 22 = .ok (.ireturn, 1) := by decide +kernel
theorem dX7_within_23 : decode cX7_within 23 = .ok (.aload_n 0, 1) := by decide +kernel
theorem dX7_within_24 : decode cX7_within 24 = .ok (.invokevirtual 185, 3) := by decide +kernel
theorem dX7_within_27 : decode cX7_within 27 = .ok (.iconst 0, 1) := by decide +kernel
theorem dX7_within_28 : decode cX7_within 28 = .ok (.istore_n 3, 1) := by decide +kernel
theorem dX7_within_29 : decode cX7_within 29 = .ok (.iconst 0, 1) := by decide +kernel
theorem dX7_within_30 : decode cX7_within 30 = .ok (.istore 4, 2) := by decide +kernel
theorem dX7_within_32 : decode cX7_within 32 = .ok (.iconst 0, 1) := by decide +kernel
theorem dX7_within_33 : decode cX7_within 33 = .ok (.istore 5, 2) := by decide +kernel
theorem dX7_within_35 : decode cX7_within 35 = .ok (.iconst 0, 1) := by decide +kernel
theorem dX7_within_36 : decode cX7_within 36 = .ok (.istore 6, 2) := by decide +kernel
theorem dX7_within_38 : decode cX7_within 38 = .ok (.iload 6, 2) := by decide +kernel
theorem dX7_within_40 : decode cX7_within 40 = .ok (.aload_n 0, 1) := by decide +kernel
theorem dX7_within_41 : decode cX7_within 41 = .ok (.getfield 62, 3) := by decide +kernel
theorem dX7_within_44 : decode cX7_within 44 = .ok (.if_icmp .ge 81, 3) := by decide +kernel
theorem dX7_within_47 : decode cX7_within 47 = .ok (.aload_n 0, 1) := by decide +kernel
theorem dX7_within_48 : decode cX7_within 48 = .ok (.getfield 40, 3) := by decide +kernel
theorem dX7_within_51 : decode cX7_within 51 = .ok (.iload 6, 2) := by decide +kernel
theorem dX7_within_53 : decode cX7_within 53 = .ok (.iaload, 1) := by decide +kernel
theorem dX7_within_54 : decode cX7_within 54 = .ok (.ifCond .lt 65, 3) := by decide +kernel
theorem dX7_within_57 : decode cX7_within 57 = .ok (.aload_n 0, 1) := by decide +kernel
theorem dX7_within_58 : decode cX7_within 58 = .ok (.getfield 40, 3) := by decide +kernel
theorem dX7_within_61 : decode cX7_within 61 = .ok (.iload 6, 2) := by decide +kernel
theorem dX7_within_63 : decode cX7_within 63 = .ok (.iaload, 1) := by decide +kernel
theorem dX7_within_64 : decode cX7_within 64 = .ok (.iload_n 1, 1) := by decide +kernel
theorem dX7_within_65 : decode cX7_within 65 = .ok (.if_icmp .gt 54, 3) := by decide +kernel
theorem dX7_within_68 : decode cX7_within 68 = .ok (.iinc 3 1, 3) := by decide +kernel
theorem dX7_within_71 : decode cX7_within 71 = .ok (.iload 5, 2) := by decide +kernel
theorem dX7_within_73 : decode cX7_within 73 = .ok (.ifCond .ne 13, 3) := by decide +kernel
theorem dX7_within_76 : decode cX7_within 76 = .ok (.aload_n 0, 1) := by decide +kernel
theorem dX7_within_77 : decode cX7_within 77 = .ok (.getfield 34, 3) := by decide +kernel
theorem dX7_within_80 : decode cX7_within 80 = .ok (.iload 6, 2) := by decide +kernel
theorem dX7_within_82 : decode cX7_within 82 = .ok (.iaload, 1) := by decide +kernel
theorem dX7_within_83 : decode cX7_within 83 = .ok (.ifCond .ge 7, 3) := by decide +kernel
theorem dX7_within_86 : decode cX7_within 86 = .ok (.iconst 1, 1) := by decide +kernel
theorem dX7_within_87 : decode cX7_within 87 = .ok (.goto 4, 3) := by decide +kernel
theorem dX7_within_90 : decode cX7_within 90 = .ok (.iconst 0, 1) := by decide +kernel
theorem dX7_within_91 : decode cX7_within 91 = .ok (.istore 5, 2) := by decide +kernel
theorem dX7_within_93 : decode cX7_within 93 = .ok (.aload_n 0, 1) := by decide +kernel
theorem dX7_within_94 : decode cX7_within 94 = .ok (.getfield 34, 3) := by decide +kernel
theorem dX7_within_97 : decode cX7_within 97 = .ok (.iload 6, 2) := by decide +kernel
theorem dX7_within_99 : decode cX7_within 99 = .ok (.iaload, 1) := by decide +kernel
theorem dX7_within_100 : decode cX7_within 100 = .ok (.iload 4, 2) := by decide +kernel
theorem dX7_within_102 : decode cX7_within 102 = .ok (.if_icmp .le 13, 3) := by decide +kernel
theorem dX7_within_105 : decode cX7_within 105 = .ok (.aload_n 0, 1) := by decide +kernel
theorem dX7_within_106 : decode cX7_within 106 = .ok (.getfield 34, 3) := by decide +kernel
theorem dX7_within_109 : decode cX7_within 109 = .ok (.iload 6, 2) := by decide +kernel
theorem dX7_within_111 : decode cX7_within 111 = .ok (.iaload, 1) := by decide +kernel
theorem dX7_within_112 : decode cX7_within 112 = .ok (.goto 5, 3) := by decide +kernel
theorem dX7_within_115 : decode cX7_within 115 = .ok (.iload 4, 2) := by decide +kernel
theorem dX7_within_117 : decode cX7_within 117 = .ok (.istore 4, 2) := by decide +kernel
theorem dX7_within_119 : decode cX7_within 119 = .ok (.iinc 6 1, 3) := by decide +kernel
theorem dX7_within_122 : decode cX7_within 122 = .ok (.goto (-84), 3) := by decide +kernel
theorem dX7_within_125 : decode cX7_within 125 = .ok (.iload_n 3, 1) := by decide +kernel
theorem dX7_within_126 : decode cX7_within 126 = .ok (.ifCond .ne 8, 3) := by decide +kernel
theorem dX7_within_129 : decode cX7_within 129 = .ok (.bipush (-4), 2) := by decide +kernel
theorem dX7_within_131 : decode cX7_within 131 = .ok (.goto 24, 3) := by decide +kernel
theorem dX7_within_134 : decode cX7_within 134 = .ok (.iload_n 2, 1) := by decide +kernel
theorem dX7_within_135 : decode cX7_within 135 = .ok (.iconst 1, 1) := by decide +kernel
theorem dX7_within_136 : decode cX7_within 136 = .ok (.if_icmp .ne 7, 3) := by decide +kernel
theorem dX7_within_139 : decode cX7_within 139 = .ok (.iload_n 3, 1) := by decide +kernel
theorem dX7_within_140 : decode cX7_within 140 = .ok (.goto 15, 3) := by decide +kernel
theorem dX7_within_143 : decode cX7_within 143 = .ok (.iload 5, 2) := by decide +kernel
theorem dX7_within_145 : decode cX7_within 145 = .ok (.ifCond .eq 8, 3) := by decide +kernel
theorem dX7_within_148 : decode cX7_within 148 = .ok (.bipush (-5), 2) := by decide +kernel
theorem dX7_within_150 : decode cX7_within 150 = .ok (.goto 5, 3) := by decide +kernel
theorem dX7_within_153 : decode cX7_within 153 = .ok (.iload 4, 2) := by decide +kernel
theorem dX7_within_155 : decode cX7_within 155 = .ok (.ireturn, 1) := by decide +kernel
theorem dX7_cruel_0 : decode cX7_cruel 0 = .ok (.aload_n 0, 1) := by decide +kernel
theorem dX7_cruel_1 : decode cX7_cruel 1 = .ok (.invokevirtual 154, 3) := by decide +kernel
theorem dX7_cruel_4 : decode cX7_cruel 4 = .ok (.istore_n 1, 1) := by decide +kernel
theorem dX7_cruel_5 : decode cX7_cruel 5 = .ok (.aload_n 0, 1) := by decide +kernel
theorem dX7_cruel_6 : decode cX7_cruel 6 = .ok (.invokevirtual 185, 3) := by decide +kernel
theorem dX7_cruel_9 : decode cX7_cruel 9 = .ok (.aload_n 0, 1) := by decide +kernel
theorem dX7_cruel_10 : decode cX7_cruel 10 = .ok (.iload_n 1, 1) := by decide +kernel
theorem dX7_cruel_11 : decode cX7_cruel 11 = .ok (.invokevirtual 144, 3) := by decide +kernel
theorem dX7_cruel_14 : decode cX7_cruel 14 = .ok (.iconst (-1), 1) := by decide +kernel
theorem dX7_cruel_15 : decode cX7_cruel 15 = .ok (.istore_n 2, 1) := by decide +kernel
theorem dX7_cruel_16 : decode cX7_cruel 16 = .ok (.iconst 0, 1) := by decide +kernel
theorem dX7_cruel_17 : decode cX7_cruel 17 = .ok (.istore_n 3, 1) := by decide +kernel
theorem dX7_cruel_18 : decode cX7_cruel 18 = .ok (.iconst 0, 1) := by decide +kernel
theorem dX7_cruel_19 : decode cX7_cruel 19 = .ok (.istore 4, 2) := by decide +kernel
theorem dX7_cruel_21 : decode cX7_cruel 21 = .ok (.iload 4, 2) := by decide +kernel
theorem dX7_cruel_23 : decode cX7_cruel 23 = .ok (.aload_n 0, 1) := by decide +kernel
theorem dX7_cruel_24 : decode cX7_cruel 24 = .ok (.getfield 53, 3) := by decide +kernel
theorem dX7_cruel_27 : decode cX7_cruel 27 = .ok (.if_icmp .ge 79, 3) := by decide +kernel
theorem dX7_cruel_30 : decode cX7_cruel 30 = .ok (.aload_n 0, 1) := by decide +kernel
theorem dX7_cruel_31 : decode cX7_cruel 31 = .ok (.iload 4, 2) := by decide +kernel
theorem dX7_cruel_33 : decode cX7_cruel 33 = .ok (.invokevirtual 138, 3) := by decide +kernel
theorem dX7_cruel_36 : decode cX7_cruel 36 = .ok (.istore 5, 2) := by decide +kernel
theorem dX7_cruel_38 : decode cX7_cruel 38 = .ok (.iload 5, 2) := by decide +kernel
theorem dX7_cruel_40 : decode cX7_cruel 40 = .ok (.ifCond .lt 60, 3) := by decide +kernel
theorem dX7_cruel_43 : decode cX7_cruel 43 = .ok (.aload_n 0, 1) := by decide +kernel
theorem dX7_cruel_44 : decode cX7_cruel 44 = .ok (.getfield 34, 3) := by decide +kernel
theorem dX7_cruel_47 : decode cX7_cruel 47 = .ok (.iload_n 1, 1) := by decide +kernel
theorem dX7_cruel_48 : decode cX7_cruel 48 = .ok (.iload 5, 2) := by decide +kernel
theorem dX7_cruel_50 : decode cX7_cruel 50 = .ok (.aload_n 0, 1) := by decide +kernel
theorem dX7_cruel_51 : decode cX7_cruel 51 = .ok (.getfield 43, 3) := by decide +kernel
theorem dX7_cruel_54 : decode cX7_cruel 54 = .ok (.iload 4, 2) := by decide +kernel
theorem dX7_cruel_56 : decode cX7_cruel 56 = .ok (.iaload, 1) := by decide +kernel
theorem dX7_cruel_57 : decode cX7_cruel 57 = .ok (.isub, 1) := by decide +kernel
theorem dX7_cruel_58 : decode cX7_cruel 58 = .ok (.aload_n 0, 1) := by decide +kernel
theorem dX7_cruel_59 : decode cX7_cruel 59 = .ok (.getfield 16, 3) := by decide +kernel
theorem dX7_cruel_62 : decode cX7_cruel 62 = .ok (.iload 4, 2) := by decide +kernel
theorem dX7_cruel_64 : decode cX7_cruel 64 = .ok (.iaload, 1) := by decide +kernel
theorem dX7_cruel_65 : decode cX7_cruel 65 = .ok (.imul, 1) := by decide +kernel
theorem dX7_cruel_66 : decode cX7_cruel 66 = .ok (.iadd, 1) := by decide +kernel
theorem dX7_cruel_67 : decode cX7_cruel 67 = .ok (.iaload, 1) := by decide +kernel
theorem dX7_cruel_68 : decode cX7_cruel 68 = .ok (.istore 6, 2) := by decide +kernel
theorem dX7_cruel_70 : decode cX7_cruel 70 = .ok (.iload 6, 2) := by decide +kernel
theorem dX7_cruel_72 : decode cX7_cruel 72 = .ok (.ifCond .ge 8, 3) := by decide +kernel
theorem dX7_cruel_75 : decode cX7_cruel 75 = .ok (.ldc 191, 2) := by decide +kernel
theorem dX7_cruel_77 : decode cX7_cruel 77 = .ok (.goto 5, 3) := by decide +kernel
theorem dX7_cruel_80 : decode cX7_cruel 80 = .ok (.iload 6, 2) := by decide +kernel
theorem dX7_cruel_82 : decode cX7_cruel 82 = .ok (.istore 6, 2) := by decide +kernel
theorem dX7_cruel_84 : decode cX7_cruel 84 = .ok (.iload_n 2, 1) := by decide +kernel
theorem dX7_cruel_85 : decode cX7_cruel 85 = .ok (.ifCond .lt 9, 3) := by decide +kernel
theorem dX7_cruel_88 : decode cX7_cruel 88 = .ok (.iload 6, 2) := by decide +kernel
theorem dX7_cruel_90 : decode cX7_cruel 90 = .ok (.iload_n 3, 1) := by decide +kernel
theorem dX7_cruel_91 : decode cX7_cruel 91 = .ok (.if_icmp .le 9, 3) := by decide +kernel
theorem dX7_cruel_94 : decode cX7_cruel 94 = .ok (.iload 4, 2) := by decide +kernel
theorem dX7_cruel_96 : decode cX7_cruel 96 = .ok (.istore_n 2, 1) := by decide +kernel
theorem dX7_cruel_97 : decode cX7_cruel 97 = .ok (.iload 6, 2) := by decide +kernel
theorem dX7_cruel_99 : decode cX7_cruel 99 = .ok (.istore_n 3, 1) := by decide +kernel
theorem dX7_cruel_100 : decode cX7_cruel 100 = .ok (.iinc 4 1, 3) := by decide +kernel
theorem dX7_cruel_103 : decode cX7_cruel 103 = .ok (.goto (-82), 3) := by decide +kernel
theorem dX7_cruel_106 : decode cX7_cruel 106 = .ok (.iload_n 2, 1) := by decide +kernel
theorem dX7_cruel_107 : decode cX7_cruel 107 = .ok (.ireturn, 1) := by decide +kernel
theorem dX7_drawn_0 : decode cX7_drawn 0 = .ok (.ldc2_w 192, 3) := by decide +kernel
theorem dX7_drawn_3 : decode cX7_drawn 3 = .ok (.iload_n 0, 1) := by decide +kernel
theorem dX7_drawn_4 : decode cX7_drawn 4 = .ok (.i2l, 1) := by decide +kernel
theorem dX7_drawn_5 : decode cX7_drawn 5 = .ok (.lmul, 1) := by decide +kernel
theorem dX7_drawn_6 : decode cX7_drawn 6 = .ok (.ldc2_w 194, 3) := by decide +kernel
theorem dX7_drawn_9 : decode cX7_drawn 9 = .ok (.iload_n 1, 1) := by decide +kernel
theorem dX7_drawn_10 : decode cX7_drawn 10 = .ok (.i2l, 1) := by decide +kernel
theorem dX7_drawn_11 : decode cX7_drawn 11 = .ok (.lmul, 1) := by decide +kernel
theorem dX7_drawn_12 : decode cX7_drawn 12 = .ok (.ladd, 1) := by decide +kernel
theorem dX7_drawn_13 : decode cX7_drawn 13 = .ok (.lconst 1, 1) := by decide +kernel
theorem dX7_drawn_14 : decode cX7_drawn 14 = .ok (.ladd, 1) := by decide +kernel
theorem dX7_drawn_15 : decode cX7_drawn 15 = .ok (.lstore_n 2, 1) := by decide +kernel
theorem dX7_drawn_16 : decode cX7_drawn 16 = .ok (.lload_n 2, 1) := by decide +kernel
theorem dX7_drawn_17 : decode cX7_drawn 17 = .ok (.lload_n 2, 1) := by decide +kernel
theorem dX7_drawn_18 : decode cX7_drawn 18 = .ok (.lmul, 1) := by decide +kernel
theorem dX7_drawn_19 : decode cX7_drawn 19 = .ok (.ldc2_w 196, 3) := by decide +kernel
theorem dX7_drawn_22 : decode cX7_drawn 22 = .ok (.lrem, 1) := by decide +kernel
theorem dX7_drawn_23 : decode cX7_drawn 23 = .ok (.lreturn, 1) := by decide +kernel
theorem dX7_chooses_0 : decode cX7_chooses 0 = .ok (.aload_n 0, 1) := by decide +kernel
theorem dX7_chooses_1 : decode cX7_chooses 1 = .ok (.invokevirtual 141, 3) := by decide +kernel
theorem dX7_chooses_4 : decode cX7_chooses 4 = .ok (.istore 5, 2) := by decide +kernel
theorem dX7_chooses_6 : decode cX7_chooses 6 = .ok (.iload 5, 2) := by decide +kernel
theorem dX7_chooses_8 : decode cX7_chooses 8 = .ok (.ifCond .eq 8, 3) := by decide +kernel
theorem dX7_chooses_11 : decode cX7_chooses 11 = .ok (.iload_n 1, 1) := by decide +kernel
theorem dX7_chooses_12 : decode cX7_chooses 12 = .ok (.iconst 2, 1) := by decide +kernel
theorem dX7_chooses_13 : decode cX7_chooses 13 = .ok (.if_icmp .ne 6, 3) := by decide +kernel
theorem dX7_chooses_16 : decode cX7_chooses 16 = .ok (.iload 5, 2) := by decide +kernel
theorem dX7_chooses_18 : decode cX7_chooses 18 = .ok (.ireturn, 1) := by decide +kernel
theorem dX7_chooses_19 : decode cX7_chooses 19 = .ok (.iload_n 1, 1) := by decide +kernel
theorem dX7_chooses_20 : decode cX7_chooses 20 = .ok (.iconst 4, 1) := by decide +kernel
theorem dX7_chooses_21 : decode cX7_chooses 21 = .ok (.if_icmp .ne 10, 3) := by decide +kernel
theorem dX7_chooses_24 : decode cX7_chooses 24 = .ok (.iconst 1, 1) := by decide +kernel
theorem dX7_chooses_25 : decode cX7_chooses 25 = .ok (.aload_n 0, 1) := by decide +kernel
theorem dX7_chooses_26 : decode cX7_chooses 26 = .ok (.invokevirtual 198, 3) := by decide +kernel
theorem dX7_chooses_29 : decode cX7_chooses 29 = .ok (.ishl, 1) := by decide +kernel
theorem dX7_chooses_30 : decode cX7_chooses 30 = .ok (.ireturn, 1) := by decide +kernel
theorem dX7_chooses_31 : decode cX7_chooses 31 = .ok (.iconst 0, 1) := by decide +kernel
theorem dX7_chooses_32 : decode cX7_chooses 32 = .ok (.istore 6, 2) := by decide +kernel
theorem dX7_chooses_34 : decode cX7_chooses 34 = .ok (.iload_n 1, 1) := by decide +kernel
theorem dX7_chooses_35 : decode cX7_chooses 35 = .ok (.iconst 3, 1) := by decide +kernel
theorem dX7_chooses_36 : decode cX7_chooses 36 = .ok (.if_icmp .ne 48, 3) := by decide +kernel
theorem dX7_chooses_39 : decode cX7_chooses 39 = .ok (.iconst 0, 1) := by decide +kernel
theorem dX7_chooses_40 : decode cX7_chooses 40 = .ok (.istore 7, 2) := by decide +kernel
theorem dX7_chooses_42 : decode cX7_chooses 42 = .ok (.iconst 0, 1) := by decide +kernel
theorem dX7_chooses_43 : decode cX7_chooses 43 = .ok (.istore 8, 2) := by decide +kernel
theorem dX7_chooses_45 : decode cX7_chooses 45 = .ok (.iload 8, 2) := by decide +kernel
theorem dX7_chooses_47 : decode cX7_chooses 47 = .ok (.aload_n 0, 1) := by decide +kernel
theorem dX7_chooses_48 : decode cX7_chooses 48 = .ok (.getfield 53, 3) := by decide +kernel
theorem dX7_chooses_51 : decode cX7_chooses 51 = .ok (.if_icmp .ge 21, 3) := by decide +kernel
theorem dX7_chooses_54 : decode cX7_chooses 54 = .ok (.iload 7, 2) := by decide +kernel
theorem dX7_chooses_56 : decode cX7_chooses 56 = .ok (.iload 5, 2) := by decide +kernel
theorem dX7_chooses_58 : decode cX7_chooses 58 = .ok (.iload 8, 2) := by decide +kernel
theorem dX7_chooses_60 : decode cX7_chooses 60 = .ok (.ishr, 1) := by decide +kernel
theorem dX7_chooses_61 : decode cX7_chooses 61 = .ok (.iconst 1, 1) := by decide +kernel
theorem dX7_chooses_62 : decode cX7_chooses 62 = .ok (.iand, 1) := by decide +kernel
theorem dX7_chooses_63 : decode cX7_chooses 63 = .ok (.iadd, 1) := by decide +kernel
theorem dX7_chooses_64 : decode cX7_chooses 64 = .ok (.istore 7, 2) := by decide +kernel
theorem dX7_chooses_66 : decode cX7_chooses 66 = .ok (.iinc 8 1, 3) := by decide +kernel
theorem dX7_chooses_69 : decode cX7_chooses 69 = .ok (.goto (-24), 3) := by decide +kernel
theorem dX7_chooses_72 : decode cX7_chooses 72 = .ok (.iload_n 2, 1) := by decide +kernel
theorem dX7_chooses_73 : decode cX7_chooses 73 = .ok (.iload_n 3, 1) := by decide +kernel
theorem dX7_chooses_74 : decode cX7_chooses 74 = .ok (.invokestatic 201, 3) := by decide +kernel
theorem dX7_chooses_77 : decode cX7_chooses 77 = .ok (.iload 7, 2) := by decide +kernel
theorem dX7_chooses_79 : decode cX7_chooses 79 = .ok (.i2l, 1) := by decide +kernel
theorem dX7_chooses_80 : decode cX7_chooses 80 = .ok (.lrem, 1) := by decide +kernel
theorem dX7_chooses_81 : decode cX7_chooses 81 = .ok (.l2i, 1) := by decide +kernel
theorem dX7_chooses_82 : decode cX7_chooses 82 = .ok (.istore 6, 2) := by decide +kernel
theorem dX7_chooses_84 : decode cX7_chooses 84 = .ok (.iload_n 1, 1) := by decide +kernel
theorem dX7_chooses_85 : decode cX7_chooses 85 = .ok (.iconst 1, 1) := by decide +kernel
theorem dX7_chooses_86 : decode cX7_chooses 86 = .ok (.if_icmp .ne 15, 3) := by decide +kernel
theorem dX7_chooses_89 : decode cX7_chooses 89 = .ok (.iload 4, 2) := by decide +kernel
theorem dX7_chooses_91 : decode cX7_chooses 91 = .ok (.ifCond .lt 10, 3) := by decide +kernel
theorem dX7_chooses_94 : decode cX7_chooses 94 = .ok (.iload 4, 2) := by decide +kernel
theorem dX7_chooses_96 : decode cX7_chooses 96 = .ok (.iconst 1, 1) := by decide +kernel
theorem dX7_chooses_97 : decode cX7_chooses 97 = .ok (.iadd, 1) := by decide +kernel
theorem dX7_chooses_98 : decode cX7_chooses 98 = .ok (.goto 4, 3) := by decide +kernel
theorem dX7_chooses_101 : decode cX7_chooses 101 = .ok (.iconst 0, 1) := by decide +kernel
theorem dX7_chooses_102 : decode cX7_chooses 102 = .ok (.istore 7, 2) := by decide +kernel
theorem dX7_chooses_104 : decode cX7_chooses 104 = .ok (.iload 7, 2) := by decide +kernel
theorem dX7_chooses_106 : decode cX7_chooses 106 = .ok (.aload_n 0, 1) := by decide +kernel
theorem dX7_chooses_107 : decode cX7_chooses 107 = .ok (.getfield 53, 3) := by decide +kernel
theorem dX7_chooses_110 : decode cX7_chooses 110 = .ok (.irem, 1) := by decide +kernel
theorem dX7_chooses_111 : decode cX7_chooses 111 = .ok (.istore 8, 2) := by decide +kernel
theorem dX7_chooses_113 : decode cX7_chooses 113 = .ok (.iload 5, 2) := by decide +kernel
theorem dX7_chooses_115 : decode cX7_chooses 115 = .ok (.iload 8, 2) := by decide +kernel
theorem dX7_chooses_117 : decode cX7_chooses 117 = .ok (.ishr, 1) := by decide +kernel
theorem dX7_chooses_118 : decode cX7_chooses 118 = .ok (.iconst 1, 1) := by decide +kernel
theorem dX7_chooses_119 : decode cX7_chooses 119 = .ok (.iand, 1) := by decide +kernel
theorem dX7_chooses_120 : decode cX7_chooses 120 = .ok (.ifCond .eq 8, 3) := by decide +kernel
theorem dX7_chooses_123 : decode cX7_chooses 123 = .ok (.iload 6, 2) := by decide +kernel
theorem dX7_chooses_125 : decode cX7_chooses 125 = .ok (.ifCond .le 29, 3) := by decide +kernel
theorem dX7_chooses_128 : decode cX7_chooses 128 = .ok (.iload 6, 2) := by decide +kernel
theorem dX7_chooses_130 : decode cX7_chooses 130 = .ok (.iload 5, 2) := by decide +kernel
theorem dX7_chooses_132 : decode cX7_chooses 132 = .ok (.iload 8, 2) := by decide +kernel
theorem dX7_chooses_134 : decode cX7_chooses 134 = .ok (.ishr, 1) := by decide +kernel
theorem dX7_chooses_135 : decode cX7_chooses 135 = .ok (.iconst 1, 1) := by decide +kernel
theorem dX7_chooses_136 : decode cX7_chooses 136 = .ok (.iand, 1) := by decide +kernel
theorem dX7_chooses_137 : decode cX7_chooses 137 = .ok (.isub, 1) := by decide +kernel
theorem dX7_chooses_138 : decode cX7_chooses 138 = .ok (.istore 6, 2) := by decide +kernel
theorem dX7_chooses_140 : decode cX7_chooses 140 = .ok (.iload 8, 2) := by decide +kernel
theorem dX7_chooses_142 : decode cX7_chooses 142 = .ok (.iconst 1, 1) := by decide +kernel
theorem dX7_chooses_143 : decode cX7_chooses 143 = .ok (.iadd, 1) := by decide +kernel
theorem dX7_chooses_144 : decode cX7_chooses 144 = .ok (.aload_n 0, 1) := by decide +kernel
theorem dX7_chooses_145 : decode cX7_chooses 145 = .ok (.getfield 53, 3) := by decide +kernel
theorem dX7_chooses_148 : decode cX7_chooses 148 = .ok (.irem, 1) := by decide +kernel
theorem dX7_chooses_149 : decode cX7_chooses 149 = .ok (.istore 8, 2) := by decide +kernel
theorem dX7_chooses_151 : decode cX7_chooses 151 = .ok (.goto (-38), 3) := by decide +kernel
theorem dX7_chooses_154 : decode cX7_chooses 154 = .ok (.iconst 1, 1) := by decide +kernel
theorem dX7_chooses_155 : decode cX7_chooses 155 = .ok (.iload 8, 2) := by decide +kernel
theorem dX7_chooses_157 : decode cX7_chooses 157 = .ok (.ishl, 1) := by decide +kernel
theorem dX7_chooses_158 : decode cX7_chooses 158 = .ok (.ireturn, 1) := by decide +kernel
theorem dX7_moves_0 : decode cX7_moves 0 = .ok (.iconst 0, 1) := by decide +kernel
theorem dX7_moves_1 : decode cX7_moves 1 = .ok (.istore_n 2, 1) := by decide +kernel
theorem dX7_moves_2 : decode cX7_moves 2 = .ok (.iload_n 2, 1) := by decide +kernel
theorem dX7_moves_3 : decode cX7_moves 3 = .ok (.aload_n 0, 1) := by decide +kernel
theorem dX7_moves_4 : decode cX7_moves 4 = .ok (.getfield 53, 3) := by decide +kernel
theorem dX7_moves_7 : decode cX7_moves 7 = .ok (.if_icmp .ge 38, 3) := by decide +kernel
theorem dX7_moves_10 : decode cX7_moves 10 = .ok (.aload_n 0, 1) := by decide +kernel
theorem dX7_moves_11 : decode cX7_moves 11 = .ok (.getfield 46, 3) := by decide +kernel
theorem dX7_moves_14 : decode cX7_moves 14 = .ok (.iload_n 2, 1) := by decide +kernel
theorem dX7_moves_15 : decode cX7_moves 15 = .ok (.iload_n 1, 1) := by decide +kernel
theorem dX7_moves_16 : decode cX7_moves 16 = .ok (.iload_n 2, 1) := by decide +kernel
theorem dX7_moves_17 : decode cX7_moves 17 = .ok (.ishr, 1) := by decide +kernel
theorem dX7_moves_18 : decode cX7_moves 18 = .ok (.iconst 1, 1) := by decide +kernel
theorem dX7_moves_19 : decode cX7_moves 19 = .ok (.iand, 1) := by decide +kernel
theorem dX7_moves_20 : decode cX7_moves 20 = .ok (.iconst 1, 1) := by decide +kernel
theorem dX7_moves_21 : decode cX7_moves 21 = .ok (.if_icmp .ne 11, 3) := by decide +kernel
theorem dX7_moves_24 : decode cX7_moves 24 = .ok (.aload_n 0, 1) := by decide +kernel
theorem dX7_moves_25 : decode cX7_moves 25 = .ok (.iload_n 2, 1) := by decide +kernel
theorem dX7_moves_26 : decode cX7_moves 26 = .ok (.invokevirtual 138, 3) := by decide +kernel
theorem dX7_moves_29 : decode cX7_moves 29 = .ok (.goto 9, 3) := by decide +kernel
theorem dX7_moves_32 : decode cX7_moves 32 = .ok (.aload_n 0, 1) := by decide +kernel
theorem dX7_moves_33 : decode cX7_moves 33 = .ok (.getfield 43, 3) := by decide +kernel
theorem dX7_moves_36 : decode cX7_moves 36 = .ok (.iload_n 2, 1) := by decide +kernel
theorem dX7_moves_37 : decode cX7_moves 37 = .ok (.iaload, 1) := by decide +kernel
theorem dX7_moves_38 : decode cX7_moves 38 = .ok (.iastore, 1) := by decide +kernel
theorem dX7_moves_39 : decode cX7_moves 39 = .ok (.iinc 2 1, 3) := by decide +kernel
theorem dX7_moves_42 : decode cX7_moves 42 = .ok (.goto (-40), 3) := by decide +kernel
theorem dX7_moves_45 : decode cX7_moves 45 = .ok (.iconst 0, 1) := by decide +kernel
theorem dX7_moves_46 : decode cX7_moves 46 = .ok (.istore_n 2, 1) := by decide +kernel
theorem dX7_moves_47 : decode cX7_moves 47 = .ok (.iload_n 2, 1) := by decide +kernel
theorem dX7_moves_48 : decode cX7_moves 48 = .ok (.aload_n 0, 1) := by decide +kernel
theorem dX7_moves_49 : decode cX7_moves 49 = .ok (.getfield 53, 3) := by decide +kernel
theorem dX7_moves_52 : decode cX7_moves 52 = .ok (.if_icmp .ge 21, 3) := by decide +kernel
theorem dX7_moves_55 : decode cX7_moves 55 = .ok (.aload_n 0, 1) := by decide +kernel
theorem dX7_moves_56 : decode cX7_moves 56 = .ok (.getfield 43, 3) := by decide +kernel
theorem dX7_moves_59 : decode cX7_moves 59 = .ok (.iload_n 2, 1) := by decide +kernel
theorem dX7_moves_60 : decode cX7_moves 60 = .ok (.aload_n 0, 1) := by decide +kernel
theorem dX7_moves_61 : decode cX7_moves 61 = .ok (.getfield 46, 3) := by decide +kernel
theorem dX7_moves_64 : decode cX7_moves 64 = .ok (.iload_n 2, 1) := by decide +kernel
theorem dX7_moves_65 : decode cX7_moves 65 = .ok (.iaload, 1) := by decide +kernel
theorem dX7_moves_66 : decode cX7_moves 66 = .ok (.iastore, 1) := by decide +kernel
theorem dX7_moves_67 : decode cX7_moves 67 = .ok (.iinc 2 1, 3) := by decide +kernel
theorem dX7_moves_70 : decode cX7_moves 70 = .ok (.goto (-23), 3) := by decide +kernel
theorem dX7_moves_73 : decode cX7_moves 73 = .ok (.return_, 1) := by decide +kernel
theorem dX7_lowestBit_0 : decode cX7_lowestBit 0 = .ok (.iconst 0, 1) := by decide +kernel
theorem dX7_lowestBit_1 : decode cX7_lowestBit 1 = .ok (.istore_n 1, 1) := by decide +kernel
theorem dX7_lowestBit_2 : decode cX7_lowestBit 2 = .ok (.iload_n 0, 1) := by decide +kernel
theorem dX7_lowestBit_3 : decode cX7_lowestBit 3 = .ok (.iload_n 1, 1) := by decide +kernel
theorem dX7_lowestBit_4 : decode cX7_lowestBit 4 = .ok (.ishr, 1) := by decide +kernel
theorem dX7_lowestBit_5 : decode cX7_lowestBit 5 = .ok (.iconst 1, 1) := by decide +kernel
theorem dX7_lowestBit_6 : decode cX7_lowestBit 6 = .ok (.iand, 1) := by decide +kernel
theorem dX7_lowestBit_7 : decode cX7_lowestBit 7 = .ok (.ifCond .ne 9, 3) := by decide +kernel
theorem dX7_lowestBit_10 : decode cX7_lowestBit 10 = .ok (.iinc 1 1, 3) := by decide +kernel
theorem dX7_lowestBit_13 : decode cX7_lowestBit 13 = .ok (.goto (-11), 3) := by decide +kernel
theorem dX7_lowestBit_16 : decode cX7_lowestBit 16 = .ok (.iload_n 1, 1) := by decide +kernel
theorem dX7_lowestBit_17 : decode cX7_lowestBit 17 = .ok (.ireturn, 1) := by decide +kernel
theorem dX7_run_0 : decode cX7_run 0 = .ok (.iload_n 1, 1) := by decide +kernel
theorem dX7_run_1 : decode cX7_run 1 = .ok (.iconst 0, 1) := by decide +kernel
theorem dX7_run_2 : decode cX7_run 2 = .ok (.iconst 4, 1) := by decide +kernel
theorem dX7_run_3 : decode cX7_run 3 = .ok (.invokestatic 88, 3) := by decide +kernel
theorem dX7_run_6 : decode cX7_run 6 = .ok (.ifCond .eq 25, 3) := by decide +kernel
theorem dX7_run_9 : decode cX7_run 9 = .ok (.iload_n 2, 1) := by decide +kernel
theorem dX7_run_10 : decode cX7_run 10 = .ok (.iconst 0, 1) := by decide +kernel
theorem dX7_run_11 : decode cX7_run 11 = .ok (.sipush 9999, 3) := by decide +kernel
theorem dX7_run_14 : decode cX7_run 14 = .ok (.invokestatic 88, 3) := by decide +kernel
theorem dX7_run_17 : decode cX7_run 17 = .ok (.ifCond .eq 14, 3) := by decide +kernel
theorem dX7_run_20 : decode cX7_run 20 = .ok (.iload_n 3, 1) := by decide +kernel
theorem dX7_run_21 : decode cX7_run 21 = .ok (.iconst 1, 1) := by decide +kernel
theorem dX7_run_22 : decode cX7_run 22 = .ok (.sipush 300, 3) := by decide +kernel
theorem dX7_run_25 : decode cX7_run 25 = .ok (.invokestatic 88, 3) := by decide +kernel
theorem dX7_run_28 : decode cX7_run 28 = .ok (.ifCond .ne 5, 3) := by decide +kernel
theorem dX7_run_31 : decode cX7_run 31 = .ok (.iconst (-1), 1) := by decide +kernel
theorem dX7_run_32 : decode cX7_run 32 = .ok (.ireturn, 1) := by decide +kernel
theorem dX7_run_33 : decode cX7_run 33 = .ok (.aload_n 0, 1) := by decide +kernel
theorem dX7_run_34 : decode cX7_run 34 = .ok (.invokevirtual 151, 3) := by decide +kernel
theorem dX7_run_37 : decode cX7_run 37 = .ok (.iconst 0, 1) := by decide +kernel
theorem dX7_run_38 : decode cX7_run 38 = .ok (.istore 4, 2) := by decide +kernel
theorem dX7_run_40 : decode cX7_run 40 = .ok (.aload_n 0, 1) := by decide +kernel
theorem dX7_run_41 : decode cX7_run 41 = .ok (.getfield 65, 3) := by decide +kernel
theorem dX7_run_44 : decode cX7_run 44 = .ok (.istore 5, 2) := by decide +kernel
theorem dX7_run_46 : decode cX7_run 46 = .ok (.iload 4, 2) := by decide +kernel
theorem dX7_run_48 : decode cX7_run 48 = .ok (.iload_n 3, 1) := by decide +kernel
theorem dX7_run_49 : decode cX7_run 49 = .ok (.if_icmp .ge 58, 3) := by decide +kernel
theorem dX7_run_52 : decode cX7_run 52 = .ok (.aload_n 0, 1) := by decide +kernel
theorem dX7_run_53 : decode cX7_run 53 = .ok (.invokevirtual 166, 3) := by decide +kernel
theorem dX7_run_56 : decode cX7_run 56 = .ok (.ifCond .ne 51, 3) := by decide +kernel
theorem dX7_run_59 : decode cX7_run 59 = .ok (.aload_n 0, 1) := by decide +kernel
theorem dX7_run_60 : decode cX7_run 60 = .ok (.invokevirtual 141, 3) := by decide +kernel
theorem dX7_run_63 : decode cX7_run 63 = .ok (.ifCond .eq 44, 3) := by decide +kernel
theorem dX7_run_66 : decode cX7_run 66 = .ok (.aload_n 0, 1) := by decide +kernel
theorem dX7_run_67 : decode cX7_run 67 = .ok (.iload_n 1, 1) := by decide +kernel
theorem dX7_run_68 : decode cX7_run 68 = .ok (.iload_n 2, 1) := by decide +kernel
theorem dX7_run_69 : decode cX7_run 69 = .ok (.iload 4, 2) := by decide +kernel
theorem dX7_run_71 : decode cX7_run 71 = .ok (.iload 5, 2) := by decide +kernel
theorem dX7_run_73 : decode cX7_run 73 = .ok (.invokevirtual 205, 3) := by decide +kernel
theorem dX7_run_76 : decode cX7_run 76 = .ok (.istore 6, 2) := by decide +kernel
theorem dX7_run_78 : decode cX7_run 78 = .ok (.iload_n 1, 1) := by decide +kernel
theorem dX7_run_79 : decode cX7_run 79 = .ok (.iconst 1, 1) := by decide +kernel
theorem dX7_run_80 : decode cX7_run 80 = .ok (.if_icmp .ne 11, 3) := by decide +kernel
theorem dX7_run_83 : decode cX7_run 83 = .ok (.iload 6, 2) := by decide +kernel
theorem dX7_run_85 : decode cX7_run 85 = .ok (.invokestatic 209, 3) := by decide +kernel
theorem dX7_run_88 : decode cX7_run 88 = .ok (.goto 5, 3) := by decide +kernel
theorem dX7_run_91 : decode cX7_run 91 = .ok (.iload 5, 2) := by decide +kernel
theorem dX7_run_93 : decode cX7_run 93 = .ok (.istore 5, 2) := by decide +kernel
theorem dX7_run_95 : decode cX7_run 95 = .ok (.aload_n 0, 1) := by decide +kernel
theorem dX7_run_96 : decode cX7_run 96 = .ok (.iload 6, 2) := by decide +kernel
theorem dX7_run_98 : decode cX7_run 98 = .ok (.invokevirtual 212, 3) := by decide +kernel
theorem dX7_run_101 : decode cX7_run 101 = .ok (.iinc 4 1, 3) := by decide +kernel
theorem dX7_run_104 : decode cX7_run 104 = .ok (.goto (-58), 3) := by decide +kernel
theorem dX7_run_107 : decode cX7_run 107 = .ok (.iload 4, 2) := by decide +kernel
theorem dX7_run_109 : decode cX7_run 109 = .ok (.ifCond .le 25, 3) := by decide +kernel
theorem dX7_run_112 : decode cX7_run 112 = .ok (.aload_n 0, 1) := by decide +kernel
theorem dX7_run_113 : decode cX7_run 113 = .ok (.invokevirtual 154, 3) := by decide +kernel
theorem dX7_run_116 : decode cX7_run 116 = .ok (.istore 6, 2) := by decide +kernel
theorem dX7_run_118 : decode cX7_run 118 = .ok (.aload_n 0, 1) := by decide +kernel
theorem dX7_run_119 : decode cX7_run 119 = .ok (.invokevirtual 157, 3) := by decide +kernel
theorem dX7_run_122 : decode cX7_run 122 = .ok (.aload_n 0, 1) := by decide +kernel
theorem dX7_run_123 : decode cX7_run 123 = .ok (.iload 6, 2) := by decide +kernel
theorem dX7_run_125 : decode cX7_run 125 = .ok (.invokevirtual 163, 3) := by decide +kernel
theorem dX7_run_128 : decode cX7_run 128 = .ok (.aload_n 0, 1) := by decide +kernel
theorem dX7_run_129 : decode cX7_run 129 = .ok (.iload 5, 2) := by decide +kernel
theorem dX7_run_131 : decode cX7_run 131 = .ok (.putfield 65, 3) := by decide +kernel
theorem dX7_run_134 : decode cX7_run 134 = .ok (.iload 4, 2) := by decide +kernel
theorem dX7_run_136 : decode cX7_run 136 = .ok (.ireturn, 1) := by decide +kernel
theorem dX7_next_0 : decode cX7_next 0 = .ok (.iload_n 1, 1) := by decide +kernel
theorem dX7_next_1 : decode cX7_next 1 = .ok (.iconst 0, 1) := by decide +kernel
theorem dX7_next_2 : decode cX7_next 2 = .ok (.iconst 4, 1) := by decide +kernel
theorem dX7_next_3 : decode cX7_next 3 = .ok (.invokestatic 88, 3) := by decide +kernel
theorem dX7_next_6 : decode cX7_next 6 = .ok (.ifCond .eq 8, 3) := by decide +kernel
theorem dX7_next_9 : decode cX7_next 9 = .ok (.iload_n 1, 1) := by decide +kernel
theorem dX7_next_10 : decode cX7_next 10 = .ok (.iconst 3, 1) := by decide +kernel
theorem dX7_next_11 : decode cX7_next 11 = .ok (.if_icmp .ne 5, 3) := by decide +kernel
theorem dX7_next_14 : decode cX7_next 14 = .ok (.iconst (-1), 1) := by decide +kernel
theorem dX7_next_15 : decode cX7_next 15 = .ok (.ireturn, 1) := by decide +kernel
theorem dX7_next_16 : decode cX7_next 16 = .ok (.aload_n 0, 1) := by decide +kernel
theorem dX7_next_17 : decode cX7_next 17 = .ok (.invokevirtual 151, 3) := by decide +kernel
theorem dX7_next_20 : decode cX7_next 20 = .ok (.aload_n 0, 1) := by decide +kernel
theorem dX7_next_21 : decode cX7_next 21 = .ok (.iload_n 1, 1) := by decide +kernel
theorem dX7_next_22 : decode cX7_next 22 = .ok (.iconst 0, 1) := by decide +kernel
theorem dX7_next_23 : decode cX7_next 23 = .ok (.iconst 0, 1) := by decide +kernel
theorem dX7_next_24 : decode cX7_next 24 = .ok (.aload_n 0, 1) := by decide +kernel
theorem dX7_next_25 : decode cX7_next 25 = .ok (.getfield 65, 3) := by decide +kernel
theorem dX7_next_28 : decode cX7_next 28 = .ok (.invokevirtual 205, 3) := by decide +kernel
theorem dX7_next_31 : decode cX7_next 31 = .ok (.ireturn, 1) := by decide +kernel
theorem dX7_follows_0 : decode cX7_follows 0 = .ok (.aload_n 0, 1) := by decide +kernel
theorem dX7_follows_1 : decode cX7_follows 1 = .ok (.iload_n 2, 1) := by decide +kernel
theorem dX7_follows_2 : decode cX7_follows 2 = .ok (.invokevirtual 144, 3) := by decide +kernel
theorem dX7_follows_5 : decode cX7_follows 5 = .ok (.aload_n 0, 1) := by decide +kernel
theorem dX7_follows_6 : decode cX7_follows 6 = .ok (.aload_n 0, 1) := by decide +kernel
theorem dX7_follows_7 : decode cX7_follows 7 = .ok (.iload_n 1, 1) := by decide +kernel
theorem dX7_follows_8 : decode cX7_follows 8 = .ok (.iconst 0, 1) := by decide +kernel
theorem dX7_follows_9 : decode cX7_follows 9 = .ok (.iconst 0, 1) := by decide +kernel
theorem dX7_follows_10 : decode cX7_follows 10 = .ok (.bipush (-4), 2) := by decide +kernel
theorem dX7_follows_12 : decode cX7_follows 12 = .ok (.invokevirtual 205, 3) := by decide +kernel
theorem dX7_follows_15 : decode cX7_follows 15 = .ok (.invokevirtual 212, 3) := by decide +kernel
theorem dX7_follows_18 : decode cX7_follows 18 = .ok (.aload_n 0, 1) := by decide +kernel
theorem dX7_follows_19 : decode cX7_follows 19 = .ok (.invokevirtual 154, 3) := by decide +kernel
theorem dX7_follows_22 : decode cX7_follows 22 = .ok (.ireturn, 1) := by decide +kernel
theorem dX7_loop_0 : decode cX7_loop 0 = .ok (.iload_n 1, 1) := by decide +kernel
theorem dX7_loop_1 : decode cX7_loop 1 = .ok (.ifCond .eq 13, 3) := by decide +kernel
theorem dX7_loop_4 : decode cX7_loop 4 = .ok (.iload_n 1, 1) := by decide +kernel
theorem dX7_loop_5 : decode cX7_loop 5 = .ok (.iconst 2, 1) := by decide +kernel
theorem dX7_loop_6 : decode cX7_loop 6 = .ok (.if_icmp .eq 8, 3) := by decide +kernel
theorem dX7_loop_9 : decode cX7_loop 9 = .ok (.iload_n 1, 1) := by decide +kernel
theorem dX7_loop_10 : decode cX7_loop 10 = .ok (.iconst 4, 1) := by decide +kernel
theorem dX7_loop_11 : decode cX7_loop 11 = .ok (.if_icmp .ne 12, 3) := by decide +kernel
theorem dX7_loop_14 : decode cX7_loop 14 = .ok (.iload_n 2, 1) := by decide +kernel
theorem dX7_loop_15 : decode cX7_loop 15 = .ok (.iconst 0, 1) := by decide +kernel
theorem dX7_loop_16 : decode cX7_loop 16 = .ok (.iconst 1, 1) := by decide +kernel
theorem dX7_loop_17 : decode cX7_loop 17 = .ok (.invokestatic 88, 3) := by decide +kernel
theorem dX7_loop_20 : decode cX7_loop 20 = .ok (.ifCond .ne 5, 3) := by decide +kernel
theorem dX7_loop_23 : decode cX7_loop 23 = .ok (.iconst (-1), 1) := by decide +kernel
theorem dX7_loop_24 : decode cX7_loop 24 = .ok (.ireturn, 1) := by decide +kernel
theorem dX7_loop_25 : decode cX7_loop 25 = .ok (.aload_n 0, 1) := by decide +kernel
theorem dX7_loop_26 : decode cX7_loop 26 = .ok (.invokevirtual 160, 3) := by decide +kernel
theorem dX7_loop_29 : decode cX7_loop 29 = .ok (.istore_n 3, 1) := by decide +kernel
theorem dX7_loop_30 : decode cX7_loop 30 = .ok (.aload_n 0, 1) := by decide +kernel
theorem dX7_loop_31 : decode cX7_loop 31 = .ok (.iload_n 1, 1) := by decide +kernel
theorem dX7_loop_32 : decode cX7_loop 32 = .ok (.iload_n 3, 1) := by decide +kernel
theorem dX7_loop_33 : decode cX7_loop 33 = .ok (.invokevirtual 215, 3) := by decide +kernel
theorem dX7_loop_36 : decode cX7_loop 36 = .ok (.istore 4, 2) := by decide +kernel
theorem dX7_loop_38 : decode cX7_loop 38 = .ok (.aload_n 0, 1) := by decide +kernel
theorem dX7_loop_39 : decode cX7_loop 39 = .ok (.iload_n 1, 1) := by decide +kernel
theorem dX7_loop_40 : decode cX7_loop 40 = .ok (.iload 4, 2) := by decide +kernel
theorem dX7_loop_42 : decode cX7_loop 42 = .ok (.invokevirtual 215, 3) := by decide +kernel
theorem dX7_loop_45 : decode cX7_loop 45 = .ok (.istore 5, 2) := by decide +kernel
theorem dX7_loop_47 : decode cX7_loop 47 = .ok (.iload 4, 2) := by decide +kernel
theorem dX7_loop_49 : decode cX7_loop 49 = .ok (.iload 5, 2) := by decide +kernel
theorem dX7_loop_51 : decode cX7_loop 51 = .ok (.if_icmp .eq 29, 3) := by decide +kernel
theorem dX7_loop_54 : decode cX7_loop 54 = .ok (.aload_n 0, 1) := by decide +kernel
theorem dX7_loop_55 : decode cX7_loop 55 = .ok (.iload_n 1, 1) := by decide +kernel
theorem dX7_loop_56 : decode cX7_loop 56 = .ok (.iload 4, 2) := by decide +kernel
theorem dX7_loop_58 : decode cX7_loop 58 = .ok (.invokevirtual 215, 3) := by decide +kernel
theorem dX7_loop_61 : decode cX7_loop 61 = .ok (.istore 4, 2) := by decide +kernel
theorem dX7_loop_63 : decode cX7_loop 63 = .ok (.aload_n 0, 1) := by decide +kernel
theorem dX7_loop_64 : decode cX7_loop 64 = .ok (.iload_n 1, 1) := by decide +kernel
theorem dX7_loop_65 : decode cX7_loop 65 = .ok (.aload_n 0, 1) := by decide +kernel
theorem dX7_loop_66 : decode cX7_loop 66 = .ok (.iload_n 1, 1) := by decide +kernel
theorem dX7_loop_67 : decode cX7_loop 67 = .ok (.iload 5, 2) := by decide +kernel
theorem dX7_loop_69 : decode cX7_loop 69 = .ok (.invokevirtual 215, 3) := by decide +kernel
theorem dX7_loop_72 : decode cX7_loop 72 = .ok (.invokevirtual 215, 3) := by decide +kernel
theorem dX7_loop_75 : decode cX7_loop 75 = .ok (.istore 5, 2) := by decide +kernel
theorem dX7_loop_77 : decode cX7_loop 77 = .ok (.goto (-30), 3) := by decide +kernel
theorem dX7_loop_80 : decode cX7_loop 80 = .ok (.iconst 0, 1) := by decide +kernel
theorem dX7_loop_81 : decode cX7_loop 81 = .ok (.istore 6, 2) := by decide +kernel
theorem dX7_loop_83 : decode cX7_loop 83 = .ok (.iload_n 3, 1) := by decide +kernel
theorem dX7_loop_84 : decode cX7_loop 84 = .ok (.istore 7, 2) := by decide +kernel
theorem dX7_loop_86 : decode cX7_loop 86 = .ok (.iload 7, 2) := by decide +kernel
theorem dX7_loop_88 : decode cX7_loop 88 = .ok (.iload 5, 2) := by decide +kernel
theorem dX7_loop_90 : decode cX7_loop 90 = .ok (.if_icmp .eq 27, 3) := by decide +kernel
theorem dX7_loop_93 : decode cX7_loop 93 = .ok (.aload_n 0, 1) := by decide +kernel
theorem dX7_loop_94 : decode cX7_loop 94 = .ok (.iload_n 1, 1) := by decide +kernel
theorem dX7_loop_95 : decode cX7_loop 95 = .ok (.iload 7, 2) := by decide +kernel
theorem dX7_loop_97 : decode cX7_loop 97 = .ok (.invokevirtual 215, 3) := by decide +kernel
theorem dX7_loop_100 : decode cX7_loop 100 = .ok (.istore 7, 2) := by decide +kernel
theorem dX7_loop_102 : decode cX7_loop 102 = .ok (.aload_n 0, 1) := by decide +kernel
theorem dX7_loop_103 : decode cX7_loop 103 = .ok (.iload_n 1, 1) := by decide +kernel
theorem dX7_loop_104 : decode cX7_loop 104 = .ok (.iload 5, 2) := by decide +kernel
theorem dX7_loop_106 : decode cX7_loop 106 = .ok (.invokevirtual 215, 3) := by decide +kernel
theorem dX7_loop_109 : decode cX7_loop 109 = .ok (.istore 5, 2) := by decide +kernel
theorem dX7_loop_111 : decode cX7_loop 111 = .ok (.iinc 6 1, 3) := by decide +kernel
theorem dX7_loop_114 : decode cX7_loop 114 = .ok (.goto (-28), 3) := by decide +kernel
theorem dX7_loop_117 : decode cX7_loop 117 = .ok (.iconst 1, 1) := by decide +kernel
theorem dX7_loop_118 : decode cX7_loop 118 = .ok (.istore 8, 2) := by decide +kernel
theorem dX7_loop_120 : decode cX7_loop 120 = .ok (.aload_n 0, 1) := by decide +kernel
theorem dX7_loop_121 : decode cX7_loop 121 = .ok (.iload_n 1, 1) := by decide +kernel
theorem dX7_loop_122 : decode cX7_loop 122 = .ok (.iload 7, 2) := by decide +kernel
theorem dX7_loop_124 : decode cX7_loop 124 = .ok (.invokevirtual 215, 3) := by decide +kernel
theorem dX7_loop_127 : decode cX7_loop 127 = .ok (.istore 9, 2) := by decide +kernel
theorem dX7_loop_129 : decode cX7_loop 129 = .ok (.iload 9, 2) := by decide +kernel
theorem dX7_loop_131 : decode cX7_loop 131 = .ok (.iload 7, 2) := by decide +kernel
theorem dX7_loop_133 : decode cX7_loop 133 = .ok (.if_icmp .eq 18, 3) := by decide +kernel
theorem dX7_loop_136 : decode cX7_loop 136 = .ok (.aload_n 0, 1) := by decide +kernel
theorem dX7_loop_137 : decode cX7_loop 137 = .ok (.iload_n 1, 1) := by decide +kernel
theorem dX7_loop_138 : decode cX7_loop 138 = .ok (.iload 9, 2) := by decide +kernel
theorem dX7_loop_140 : decode cX7_loop 140 = .ok (.invokevirtual 215, 3) := by decide +kernel
theorem dX7_loop_143 : decode cX7_loop 143 = .ok (.istore 9, 2) := by decide +kernel
theorem dX7_loop_145 : decode cX7_loop 145 = .ok (.iinc 8 1, 3) := by decide +kernel
theorem dX7_loop_148 : decode cX7_loop 148 = .ok (.goto (-19), 3) := by decide +kernel
theorem dX7_loop_151 : decode cX7_loop 151 = .ok (.iload_n 2, 1) := by decide +kernel
theorem dX7_loop_152 : decode cX7_loop 152 = .ok (.ifCond .ne 8, 3) := by decide +kernel
theorem dX7_loop_155 : decode cX7_loop 155 = .ok (.iload 6, 2) := by decide +kernel
theorem dX7_loop_157 : decode cX7_loop 157 = .ok (.goto 5, 3) := by decide +kernel
theorem dX7_loop_160 : decode cX7_loop 160 = .ok (.iload 8, 2) := by decide +kernel
theorem dX7_loop_162 : decode cX7_loop 162 = .ok (.ireturn, 1) := by decide +kernel
theorem dX7_storm_0 : decode cX7_storm 0 = .ok (.iload_n 1, 1) := by decide +kernel
theorem dX7_storm_1 : decode cX7_storm 1 = .ok (.iconst 0, 1) := by decide +kernel
theorem dX7_storm_2 : decode cX7_storm 2 = .ok (.iconst 2, 1) := by decide +kernel
theorem dX7_storm_3 : decode cX7_storm 3 = .ok (.invokestatic 88, 3) := by decide +kernel
theorem dX7_storm_6 : decode cX7_storm 6 = .ok (.ifCond .eq 35, 3) := by decide +kernel
theorem dX7_storm_9 : decode cX7_storm 9 = .ok (.iload_n 2, 1) := by decide +kernel
theorem dX7_storm_10 : decode cX7_storm 10 = .ok (.iconst 0, 1) := by decide +kernel
theorem dX7_storm_11 : decode cX7_storm 11 = .ok (.sipush 9999, 3) := by decide +kernel
theorem dX7_storm_14 : decode cX7_storm 14 = .ok (.invokestatic 88, 3) := by decide +kernel
theorem dX7_storm_17 : decode cX7_storm 17 = .ok (.ifCond .eq 24, 3) := by decide +kernel
theorem dX7_storm_20 : decode cX7_storm 20 = .ok (.iload_n 3, 1) := by decide +kernel
theorem dX7_storm_21 : decode cX7_storm 21 = .ok (.iconst 1, 1) := by decide +kernel
theorem dX7_storm_22 : decode cX7_storm 22 = .ok (.sipush 200, 3) := by decide +kernel
theorem dX7_storm_25 : decode cX7_storm 25 = .ok (.invokestatic 88, 3) := by decide +kernel
theorem dX7_storm_28 : decode cX7_storm 28 = .ok (.ifCond .eq 13, 3) := by decide +kernel
theorem dX7_storm_31 : decode cX7_storm 31 = .ok (.iload 4, 2) := by decide +kernel
theorem dX7_storm_33 : decode cX7_storm 33 = .ok (.iconst 0, 1) := by decide +kernel
theorem dX7_storm_34 : decode cX7_storm 34 = .ok (.iconst 2, 1) := by decide +kernel
theorem dX7_storm_35 : decode cX7_storm 35 = .ok (.invokestatic 88, 3) := by decide +kernel
theorem dX7_storm_38 : decode cX7_storm 38 = .ok (.ifCond .ne 5, 3) := by decide +kernel
theorem dX7_storm_41 : decode cX7_storm 41 = .ok (.iconst (-1), 1) := by decide +kernel
theorem dX7_storm_42 : decode cX7_storm 42 = .ok (.ireturn, 1) := by decide +kernel
theorem dX7_storm_43 : decode cX7_storm 43 = .ok (.aload_n 0, 1) := by decide +kernel
theorem dX7_storm_44 : decode cX7_storm 44 = .ok (.invokevirtual 151, 3) := by decide +kernel
theorem dX7_storm_47 : decode cX7_storm 47 = .ok (.aload_n 0, 1) := by decide +kernel
theorem dX7_storm_48 : decode cX7_storm 48 = .ok (.getfield 65, 3) := by decide +kernel
theorem dX7_storm_51 : decode cX7_storm 51 = .ok (.istore 5, 2) := by decide +kernel
theorem dX7_storm_53 : decode cX7_storm 53 = .ok (.iconst 0, 1) := by decide +kernel
theorem dX7_storm_54 : decode cX7_storm 54 = .ok (.istore 6, 2) := by decide +kernel
theorem dX7_storm_56 : decode cX7_storm 56 = .ok (.iconst 0, 1) := by decide +kernel
theorem dX7_storm_57 : decode cX7_storm 57 = .ok (.istore 7, 2) := by decide +kernel
theorem dX7_storm_59 : decode cX7_storm 59 = .ok (.iconst 0, 1) := by decide +kernel
theorem dX7_storm_60 : decode cX7_storm 60 = .ok (.istore 8, 2) := by decide +kernel
theorem dX7_storm_62 : decode cX7_storm 62 = .ok (.iconst 0, 1) := by decide +kernel
theorem dX7_storm_63 : decode cX7_storm 63 = .ok (.istore 9, 2) := by decide +kernel
theorem dX7_storm_65 : decode cX7_storm 65 = .ok (.iload 9, 2) := by decide +kernel
theorem dX7_storm_67 : decode cX7_storm 67 = .ok (.iload_n 3, 1) := by decide +kernel
theorem dX7_storm_68 : decode cX7_storm 68 = .ok (.if_icmp .ge 148, 3) := by decide +kernel
theorem dX7_storm_71 : decode cX7_storm 71 = .ok (.iload_n 2, 1) := by decide +kernel
theorem dX7_storm_72 : decode cX7_storm 72 = .ok (.iload 9, 2) := by decide +kernel
theorem dX7_storm_74 : decode cX7_storm 74 = .ok (.invokestatic 201, 3) := by decide +kernel
theorem dX7_storm_77 : decode cX7_storm 77 = .ok (.l2i, 1) := by decide +kernel
theorem dX7_storm_78 : decode cX7_storm 78 = .ok (.istore 10, 2) := by decide +kernel
theorem dX7_storm_80 : decode cX7_storm 80 = .ok (.iload 10, 2) := by decide +kernel
theorem dX7_storm_82 : decode cX7_storm 82 = .ok (.bipush 8, 2) := by decide +kernel
theorem dX7_storm_84 : decode cX7_storm 84 = .ok (.irem, 1) := by decide +kernel
theorem dX7_storm_85 : decode cX7_storm 85 = .ok (.ifCond .ne 31, 3) := by decide +kernel
theorem dX7_storm_88 : decode cX7_storm 88 = .ok (.aload_n 0, 1) := by decide +kernel
theorem dX7_storm_89 : decode cX7_storm 89 = .ok (.getfield 43, 3) := by decide +kernel
theorem dX7_storm_92 : decode cX7_storm 92 = .ok (.iload 10, 2) := by decide +kernel
theorem dX7_storm_94 : decode cX7_storm 94 = .ok (.bipush 8, 2) := by decide +kernel
theorem dX7_storm_96 : decode cX7_storm 96 = .ok (.idiv, 1) := by decide +kernel
theorem dX7_storm_97 : decode cX7_storm 97 = .ok (.aload_n 0, 1) := by decide +kernel
theorem dX7_storm_98 : decode cX7_storm 98 = .ok (.getfield 53, 3) := by decide +kernel
theorem dX7_storm_101 : decode cX7_storm 101 = .ok (.irem, 1) := by decide +kernel
theorem dX7_storm_102 : decode cX7_storm 102 = .ok (.iload 10, 2) := by decide +kernel
theorem dX7_storm_104 : decode cX7_storm 104 = .ok (.bipush 64, 2) := by decide +kernel
theorem dX7_storm_106 : decode cX7_storm 106 = .ok (.idiv, 1) := by decide +kernel
theorem dX7_storm_107 : decode cX7_storm 107 = .ok (.aload_n 0, 1) := by decide +kernel
theorem dX7_storm_108 : decode cX7_storm 108 = .ok (.getfield 56, 3) := by decide +kernel
theorem dX7_storm_111 : decode cX7_storm 111 = .ok (.irem, 1) := by decide +kernel
theorem dX7_storm_112 : decode cX7_storm 112 = .ok (.iastore, 1) := by decide +kernel
theorem dX7_storm_113 : decode cX7_storm 113 = .ok (.goto 45, 3) := by decide +kernel
theorem dX7_storm_116 : decode cX7_storm 116 = .ok (.aload_n 0, 1) := by decide +kernel
theorem dX7_storm_117 : decode cX7_storm 117 = .ok (.invokevirtual 141, 3) := by decide +kernel
theorem dX7_storm_120 : decode cX7_storm 120 = .ok (.ifCond .eq 38, 3) := by decide +kernel
theorem dX7_storm_123 : decode cX7_storm 123 = .ok (.aload_n 0, 1) := by decide +kernel
theorem dX7_storm_124 : decode cX7_storm 124 = .ok (.iload_n 1, 1) := by decide +kernel
theorem dX7_storm_125 : decode cX7_storm 125 = .ok (.iload_n 2, 1) := by decide +kernel
theorem dX7_storm_126 : decode cX7_storm 126 = .ok (.iload 9, 2) := by decide +kernel
theorem dX7_storm_128 : decode cX7_storm 128 = .ok (.iload 5, 2) := by decide +kernel
theorem dX7_storm_130 : decode cX7_storm 130 = .ok (.invokevirtual 205, 3) := by decide +kernel
theorem dX7_storm_133 : decode cX7_storm 133 = .ok (.istore 11, 2) := by decide +kernel
theorem dX7_storm_135 : decode cX7_storm 135 = .ok (.iload_n 1, 1) := by decide +kernel
theorem dX7_storm_136 : decode cX7_storm 136 = .ok (.iconst 1, 1) := by decide +kernel
theorem dX7_storm_137 : decode cX7_storm 137 = .ok (.if_icmp .ne 11, 3) := by decide +kernel
theorem dX7_storm_140 : decode cX7_storm 140 = .ok (.iload 11, 2) := by decide +kernel
theorem dX7_storm_142 : decode cX7_storm 142 = .ok (.invokestatic 209, 3) := by decide +kernel
theorem dX7_storm_145 : decode cX7_storm 145 = .ok (.goto 5, 3) := by decide +kernel
theorem dX7_storm_148 : decode cX7_storm 148 = .ok (.iload 5, 2) := by decide +kernel
theorem dX7_storm_150 : decode cX7_storm 150 = .ok (.istore 5, 2) := by decide +kernel
theorem dX7_storm_152 : decode cX7_storm 152 = .ok (.aload_n 0, 1) := by decide +kernel
theorem dX7_storm_153 : decode cX7_storm 153 = .ok (.iload 11, 2) := by decide +kernel
theorem dX7_storm_155 : decode cX7_storm 155 = .ok (.invokevirtual 212, 3) := by decide +kernel
theorem dX7_storm_158 : decode cX7_storm 158 = .ok (.aload_n 0, 1) := by decide +kernel
theorem dX7_storm_159 : decode cX7_storm 159 = .ok (.invokevirtual 166, 3) := by decide +kernel
theorem dX7_storm_162 : decode cX7_storm 162 = .ok (.istore 11, 2) := by decide +kernel
theorem dX7_storm_164 : decode cX7_storm 164 = .ok (.iload 6, 2) := by decide +kernel
theorem dX7_storm_166 : decode cX7_storm 166 = .ok (.iload 11, 2) := by decide +kernel
theorem dX7_storm_168 : decode cX7_storm 168 = .ok (.ifCond .eq 7, 3) := by decide +kernel
theorem dX7_storm_171 : decode cX7_storm 171 = .ok (.iconst 1, 1) := by decide +kernel
theorem dX7_storm_172 : decode cX7_storm 172 = .ok (.goto 4, 3) := by decide +kernel
theorem dX7_storm_175 : decode cX7_storm 175 = .ok (.iconst 0, 1) := by decide +kernel
theorem dX7_storm_176 : decode cX7_storm 176 = .ok (.iadd, 1) := by decide +kernel
theorem dX7_storm_177 : decode cX7_storm 177 = .ok (.istore 6, 2) := by decide +kernel
theorem dX7_storm_179 : decode cX7_storm 179 = .ok (.iload 11, 2) := by decide +kernel
theorem dX7_storm_181 : decode cX7_storm 181 = .ok (.ifCond .eq 7, 3) := by decide +kernel
theorem dX7_storm_184 : decode cX7_storm 184 = .ok (.iconst 0, 1) := by decide +kernel
theorem dX7_storm_185 : decode cX7_storm 185 = .ok (.goto 7, 3) := by decide +kernel
theorem dX7_storm_188 : decode cX7_storm 188 = .ok (.iload 7, 2) := by decide +kernel
theorem dX7_storm_190 : decode cX7_storm 190 = .ok (.iconst 1, 1) := by decide +kernel
theorem dX7_storm_191 : decode cX7_storm 191 = .ok (.iadd, 1) := by decide +kernel
theorem dX7_storm_192 : decode cX7_storm 192 = .ok (.istore 7, 2) := by decide +kernel
theorem dX7_storm_194 : decode cX7_storm 194 = .ok (.iload 7, 2) := by decide +kernel
theorem dX7_storm_196 : decode cX7_storm 196 = .ok (.iload 8, 2) := by decide +kernel
theorem dX7_storm_198 : decode cX7_storm 198 = .ok (.if_icmp .le 8, 3) := by decide +kernel
theorem dX7_storm_201 : decode cX7_storm 201 = .ok (.iload 7, 2) := by decide +kernel
theorem dX7_storm_203 : decode cX7_storm 203 = .ok (.goto 5, 3) := by decide +kernel
theorem dX7_storm_206 : decode cX7_storm 206 = .ok (.iload 8, 2) := by decide +kernel
theorem dX7_storm_208 : decode cX7_storm 208 = .ok (.istore 8, 2) := by decide +kernel
theorem dX7_storm_210 : decode cX7_storm 210 = .ok (.iinc 9 1, 3) := by decide +kernel
theorem dX7_storm_213 : decode cX7_storm 213 = .ok (.goto (-148), 3) := by decide +kernel
theorem dX7_storm_216 : decode cX7_storm 216 = .ok (.iload 4, 2) := by decide +kernel
theorem dX7_storm_218 : decode cX7_storm 218 = .ok (.ifCond .ne 8, 3) := by decide +kernel
theorem dX7_storm_221 : decode cX7_storm 221 = .ok (.iload 6, 2) := by decide +kernel
theorem dX7_storm_223 : decode cX7_storm 223 = .ok (.goto 18, 3) := by decide +kernel
theorem dX7_storm_226 : decode cX7_storm 226 = .ok (.iload 4, 2) := by decide +kernel
theorem dX7_storm_228 : decode cX7_storm 228 = .ok (.iconst 1, 1) := by decide +kernel
theorem dX7_storm_229 : decode cX7_storm 229 = .ok (.if_icmp .ne 10, 3) := by decide +kernel
theorem dX7_storm_232 : decode cX7_storm 232 = .ok (.aload_n 0, 1) := by decide +kernel
theorem dX7_storm_233 : decode cX7_storm 233 = .ok (.invokevirtual 154, 3) := by decide +kernel
theorem dX7_storm_236 : decode cX7_storm 236 = .ok (.goto 5, 3) := by decide +kernel
theorem dX7_storm_239 : decode cX7_storm 239 = .ok (.iload 8, 2) := by decide +kernel
theorem dX7_storm_241 : decode cX7_storm 241 = .ok (.ireturn, 1) := by decide +kernel
theorem dX7_count_0 : decode cX7_count 0 = .ok (.iload_n 1, 1) := by decide +kernel
theorem dX7_count_1 : decode cX7_count 1 = .ok (.tableswitch 87 0 7 #[47, 52, 57, 62, 67, 72, 77, 82], 47) := by decide +kernel
theorem dX7_count_48 : decode cX7_count 48 = .ok (.aload_n 0, 1) := by decide +kernel
theorem dX7_count_49 : decode cX7_count 49 = .ok (.getfield 49, 3) := by decide +kernel
theorem dX7_count_52 : decode cX7_count 52 = .ok (.ireturn, 1) := by decide +kernel
theorem dX7_count_53 : decode cX7_count 53 = .ok (.aload_n 0, 1) := by decide +kernel
theorem dX7_count_54 : decode cX7_count 54 = .ok (.getfield 53, 3) := by decide +kernel
theorem dX7_count_57 : decode cX7_count 57 = .ok (.ireturn, 1) := by decide +kernel
theorem dX7_count_58 : decode cX7_count 58 = .ok (.aload_n 0, 1) := by decide +kernel
theorem dX7_count_59 : decode cX7_count 59 = .ok (.getfield 56, 3) := by decide +kernel
theorem dX7_count_62 : decode cX7_count 62 = .ok (.ireturn, 1) := by decide +kernel
theorem dX7_count_63 : decode cX7_count 63 = .ok (.aload_n 0, 1) := by decide +kernel
theorem dX7_count_64 : decode cX7_count 64 = .ok (.getfield 113, 3) := by decide +kernel
theorem dX7_count_67 : decode cX7_count 67 = .ok (.ireturn, 1) := by decide +kernel
theorem dX7_count_68 : decode cX7_count 68 = .ok (.aload_n 0, 1) := by decide +kernel
theorem dX7_count_69 : decode cX7_count 69 = .ok (.getfield 62, 3) := by decide +kernel
theorem dX7_count_72 : decode cX7_count 72 = .ok (.ireturn, 1) := by decide +kernel
theorem dX7_count_73 : decode cX7_count 73 = .ok (.aload_n 0, 1) := by decide +kernel
theorem dX7_count_74 : decode cX7_count 74 = .ok (.getfield 68, 3) := by decide +kernel
theorem dX7_count_77 : decode cX7_count 77 = .ok (.ireturn, 1) := by decide +kernel
theorem dX7_count_78 : decode cX7_count 78 = .ok (.aload_n 0, 1) := by decide +kernel
theorem dX7_count_79 : decode cX7_count 79 = .ok (.getfield 75, 3) := by decide +kernel
theorem dX7_count_82 : decode cX7_count 82 = .ok (.ireturn, 1) := by decide +kernel
theorem dX7_count_83 : decode cX7_count 83 = .ok (.aload_n 0, 1) := by decide +kernel
theorem dX7_count_84 : decode cX7_count 84 = .ok (.getfield 65, 3) := by decide +kernel
theorem dX7_count_87 : decode cX7_count 87 = .ok (.ireturn, 1) := by decide +kernel
theorem dX7_count_88 : decode cX7_count 88 = .ok (.iconst (-1), 1) := by decide +kernel
theorem dX7_count_89 : decode cX7_count 89 = .ok (.ireturn, 1) := by decide +kernel
theorem dJ6_bitCount_0f7a4_0 : decode cJ6_bitCount_0f7a4 0 = .ok (.iload_n 0, 1) := by decide +kernel
theorem dJ6_bitCount_0f7a4_1 : decode cJ6_bitCount_0f7a4 1 = .ok (.iload_n 0, 1) := by decide +kernel
theorem dJ6_bitCount_0f7a4_2 : decode cJ6_bitCount_0f7a4 2 = .ok (.iconst 1, 1) := by decide +kernel
theorem dJ6_bitCount_0f7a4_3 : decode cJ6_bitCount_0f7a4 3 = .ok (.iushr, 1) := by decide +kernel
theorem dJ6_bitCount_0f7a4_4 : decode cJ6_bitCount_0f7a4 4 = .ok (.ldc_w 265, 3) := by decide +kernel
theorem dJ6_bitCount_0f7a4_7 : decode cJ6_bitCount_0f7a4 7 = .ok (.iand, 1) := by decide +kernel
theorem dJ6_bitCount_0f7a4_8 : decode cJ6_bitCount_0f7a4 8 = .ok (.isub, 1) := by decide +kernel
theorem dJ6_bitCount_0f7a4_9 : decode cJ6_bitCount_0f7a4 9 = .ok (.istore_n 0, 1) := by decide +kernel
theorem dJ6_bitCount_0f7a4_10 : decode cJ6_bitCount_0f7a4 10 = .ok (.iload_n 0, 1) := by decide +kernel
theorem dJ6_bitCount_0f7a4_11 : decode cJ6_bitCount_0f7a4 11 = .ok (.ldc_w 266, 3) := by decide +kernel
theorem dJ6_bitCount_0f7a4_14 : decode cJ6_bitCount_0f7a4 14 = .ok (.iand, 1) := by decide +kernel
theorem dJ6_bitCount_0f7a4_15 : decode cJ6_bitCount_0f7a4 15 = .ok (.iload_n 0, 1) := by decide +kernel
theorem dJ6_bitCount_0f7a4_16 : decode cJ6_bitCount_0f7a4 16 = .ok (.iconst 2, 1) := by decide +kernel
theorem dJ6_bitCount_0f7a4_17 : decode cJ6_bitCount_0f7a4 17 = .ok (.iushr, 1) := by decide +kernel
theorem dJ6_bitCount_0f7a4_18 : decode cJ6_bitCount_0f7a4 18 = .ok (.ldc_w 266, 3) := by decide +kernel
theorem dJ6_bitCount_0f7a4_21 : decode cJ6_bitCount_0f7a4 21 = .ok (.iand, 1) := by decide +kernel
theorem dJ6_bitCount_0f7a4_22 : decode cJ6_bitCount_0f7a4 22 = .ok (.iadd, 1) := by decide +kernel
theorem dJ6_bitCount_0f7a4_23 : decode cJ6_bitCount_0f7a4 23 = .ok (.istore_n 0, 1) := by decide +kernel
theorem dJ6_bitCount_0f7a4_24 : decode cJ6_bitCount_0f7a4 24 = .ok (.iload_n 0, 1) := by decide +kernel
theorem dJ6_bitCount_0f7a4_25 : decode cJ6_bitCount_0f7a4 25 = .ok (.iload_n 0, 1) := by decide +kernel
theorem dJ6_bitCount_0f7a4_26 : decode cJ6_bitCount_0f7a4 26 = .ok (.iconst 4, 1) := by decide +kernel
theorem dJ6_bitCount_0f7a4_27 : decode cJ6_bitCount_0f7a4 27 = .ok (.iushr, 1) := by decide +kernel
theorem dJ6_bitCount_0f7a4_28 : decode cJ6_bitCount_0f7a4 28 = .ok (.iadd, 1) := by decide +kernel
theorem dJ6_bitCount_0f7a4_29 : decode cJ6_bitCount_0f7a4 29 = .ok (.ldc_w 267, 3) := by decide +kernel
theorem dJ6_bitCount_0f7a4_32 : decode cJ6_bitCount_0f7a4 32 = .ok (.iand, 1) := by decide +kernel
theorem dJ6_bitCount_0f7a4_33 : decode cJ6_bitCount_0f7a4 33 = .ok (.istore_n 0, 1) := by decide +kernel
theorem dJ6_bitCount_0f7a4_34 : decode cJ6_bitCount_0f7a4 34 = .ok (.iload_n 0, 1) := by decide +kernel
theorem dJ6_bitCount_0f7a4_35 : decode cJ6_bitCount_0f7a4 35 = .ok (.iload_n 0, 1) := by decide +kernel
theorem dJ6_bitCount_0f7a4_36 : decode cJ6_bitCount_0f7a4 36 = .ok (.bipush 8, 2) := by decide +kernel
theorem dJ6_bitCount_0f7a4_38 : decode cJ6_bitCount_0f7a4 38 = .ok (.iushr, 1) := by decide +kernel
theorem dJ6_bitCount_0f7a4_39 : decode cJ6_bitCount_0f7a4 39 = .ok (.iadd, 1) := by decide +kernel
theorem dJ6_bitCount_0f7a4_40 : decode cJ6_bitCount_0f7a4 40 = .ok (.istore_n 0, 1) := by decide +kernel
theorem dJ6_bitCount_0f7a4_41 : decode cJ6_bitCount_0f7a4 41 = .ok (.iload_n 0, 1) := by decide +kernel
theorem dJ6_bitCount_0f7a4_42 : decode cJ6_bitCount_0f7a4 42 = .ok (.iload_n 0, 1) := by decide +kernel
theorem dJ6_bitCount_0f7a4_43 : decode cJ6_bitCount_0f7a4 43 = .ok (.bipush 16, 2) := by decide +kernel
theorem dJ6_bitCount_0f7a4_45 : decode cJ6_bitCount_0f7a4 45 = .ok (.iushr, 1) := by decide +kernel
theorem dJ6_bitCount_0f7a4_46 : decode cJ6_bitCount_0f7a4 46 = .ok (.iadd, 1) := by decide +kernel
theorem dJ6_bitCount_0f7a4_47 : decode cJ6_bitCount_0f7a4 47 = .ok (.istore_n 0, 1) := by decide +kernel
theorem dJ6_bitCount_0f7a4_48 : decode cJ6_bitCount_0f7a4 48 = .ok (.iload_n 0, 1) := by decide +kernel
theorem dJ6_bitCount_0f7a4_49 : decode cJ6_bitCount_0f7a4 49 = .ok (.bipush 63, 2) := by decide +kernel
theorem dJ6_bitCount_0f7a4_51 : decode cJ6_bitCount_0f7a4 51 = .ok (.iand, 1) := by decide +kernel
theorem dJ6_bitCount_0f7a4_52 : decode cJ6_bitCount_0f7a4 52 = .ok (.ireturn, 1) := by decide +kernel
theorem dJ9_max_7cf53_0 : decode cJ9_max_7cf53 0 = .ok (.iload_n 0, 1) := by decide +kernel
theorem dJ9_max_7cf53_1 : decode cJ9_max_7cf53 1 = .ok (.iload_n 1, 1) := by decide +kernel
theorem dJ9_max_7cf53_2 : decode cJ9_max_7cf53 2 = .ok (.if_icmp .lt 7, 3) := by decide +kernel
theorem dJ9_max_7cf53_5 : decode cJ9_max_7cf53 5 = .ok (.iload_n 0, 1) := by decide +kernel
theorem dJ9_max_7cf53_6 : decode cJ9_max_7cf53 6 = .ok (.goto 4, 3) := by decide +kernel
theorem dJ9_max_7cf53_9 : decode cJ9_max_7cf53 9 = .ok (.iload_n 1, 1) := by decide +kernel
theorem dJ9_max_7cf53_10 : decode cJ9_max_7cf53 10 = .ok (.ireturn, 1) := by decide +kernel
theorem dJ9_min_7cf53_0 : decode cJ9_min_7cf53 0 = .ok (.iload_n 0, 1) := by decide +kernel
theorem dJ9_min_7cf53_1 : decode cJ9_min_7cf53 1 = .ok (.iload_n 1, 1) := by decide +kernel
theorem dJ9_min_7cf53_2 : decode cJ9_min_7cf53 2 = .ok (.if_icmp .gt 7, 3) := by decide +kernel
theorem dJ9_min_7cf53_5 : decode cJ9_min_7cf53 5 = .ok (.iload_n 0, 1) := by decide +kernel
theorem dJ9_min_7cf53_6 : decode cJ9_min_7cf53 6 = .ok (.goto 4, 3) := by decide +kernel
theorem dJ9_min_7cf53_9 : decode cJ9_min_7cf53 9 = .ok (.iload_n 1, 1) := by decide +kernel
theorem dJ9_min_7cf53_10 : decode cJ9_min_7cf53 10 = .ok (.ireturn, 1) := by decide +kernel
theorem dJ0_length_8abf5_0 : decode cJ0_length_8abf5 0 = .ok (.aload_n 0, 1) := by decide +kernel
theorem dJ0_length_8abf5_1 : decode cJ0_length_8abf5 1 = .ok (.getfield 9, 3) := by decide +kernel
theorem dJ0_length_8abf5_4 : decode cJ0_length_8abf5 4 = .ok (.arraylength, 1) := by decide +kernel
theorem dJ0_length_8abf5_5 : decode cJ0_length_8abf5 5 = .ok (.aload_n 0, 1) := by decide +kernel
theorem dJ0_length_8abf5_6 : decode cJ0_length_8abf5 6 = .ok (.invokevirtual 335, 3) := by decide +kernel
theorem dJ0_length_8abf5_9 : decode cJ0_length_8abf5 9 = .ok (.ishr, 1) := by decide +kernel
theorem dJ0_length_8abf5_10 : decode cJ0_length_8abf5 10 = .ok (.ireturn, 1) := by decide +kernel
theorem dJ0_charAt_5068e_0 : decode cJ0_charAt_5068e 0 = .ok (.aload_n 0, 1) := by decide +kernel
theorem dJ0_charAt_5068e_1 : decode cJ0_charAt_5068e 1 = .ok (.invokevirtual 492, 3) := by decide +kernel
theorem dJ0_charAt_5068e_4 : decode cJ0_charAt_5068e 4 = .ok (.ifCond .eq 12, 3) := by decide +kernel
theorem dJ0_charAt_5068e_7 : decode cJ0_charAt_5068e 7 = .ok (.aload_n 0, 1) := by decide +kernel
theorem dJ0_charAt_5068e_8 : decode cJ0_charAt_5068e 8 = .ok (.getfield 9, 3) := by decide +kernel
theorem dJ0_charAt_5068e_11 : decode cJ0_charAt_5068e 11 = .ok (.iload_n 1, 1) := by decide +kernel
theorem dJ0_charAt_5068e_12 : decode cJ0_charAt_5068e 12 = .ok (.invokestatic 495, 3) := by decide +kernel
theorem dJ0_charAt_5068e_15 : decode cJ0_charAt_5068e 15 = .ok (.ireturn, 1) := by decide +kernel
theorem dJ0_charAt_5068e_16 : decode cJ0_charAt_5068e 16 = .ok (.aload_n 0, 1) := by decide +kernel
theorem dJ0_charAt_5068e_17 : decode cJ0_charAt_5068e 17 = .ok (.getfield 9, 3) := by decide +kernel
theorem dJ0_charAt_5068e_20 : decode cJ0_charAt_5068e 20 = .ok (.iload_n 1, 1) := by decide +kernel
theorem dJ0_charAt_5068e_21 : decode cJ0_charAt_5068e 21 = .ok (.invokestatic 498, 3) := by decide +kernel
theorem dJ0_charAt_5068e_24 : decode cJ0_charAt_5068e 24 = .ok (.ireturn, 1) := by decide +kernel
theorem dJ0_coder_7d493_0 : decode cJ0_coder_7d493 0 = .ok (.getstatic 38, 3) := by decide +kernel
theorem dJ0_coder_7d493_3 : decode cJ0_coder_7d493 3 = .ok (.ifCond .eq 10, 3) := by decide +kernel
theorem dJ0_coder_7d493_6 : decode cJ0_coder_7d493 6 = .ok (.aload_n 0, 1) := by decide +kernel
theorem dJ0_coder_7d493_7 : decode cJ0_coder_7d493 7 = .ok (.getfield 15, 3) := by decide +kernel
theorem dJ0_coder_7d493_10 : decode cJ0_coder_7d493 10 = .ok (.goto 4, 3) := by decide +kernel
theorem dJ0_coder_7d493_13 : decode cJ0_coder_7d493 13 = .ok (.iconst 1, 1) := by decide +kernel
theorem dJ0_coder_7d493_14 : decode cJ0_coder_7d493 14 = .ok (.ireturn, 1) := by decide +kernel
theorem dJ0_isLatin1_aae02_0 : decode cJ0_isLatin1_aae02 0 = .ok (.getstatic 38, 3) := by decide +kernel
theorem dJ0_isLatin1_aae02_3 : decode cJ0_isLatin1_aae02 3 = .ok (.ifCond .eq 14, 3) := by decide +kernel
theorem dJ0_isLatin1_aae02_6 : decode cJ0_isLatin1_aae02 6 = .ok (.aload_n 0, 1) := by decide +kernel
theorem dJ0_isLatin1_aae02_7 : decode cJ0_isLatin1_aae02 7 = .ok (.getfield 15, 3) := by decide +kernel
theorem dJ0_isLatin1_aae02_10 : decode cJ0_isLatin1_aae02 10 = .ok (.ifCond .ne 7, 3) := by decide +kernel
theorem dJ0_isLatin1_aae02_13 : decode cJ0_isLatin1_aae02 13 = .ok (.iconst 1, 1) := by decide +kernel
theorem dJ0_isLatin1_aae02_14 : decode cJ0_isLatin1_aae02 14 = .ok (.goto 4, 3) := by decide +kernel
theorem dJ0_isLatin1_aae02_17 : decode cJ0_isLatin1_aae02 17 = .ok (.iconst 0, 1) := by decide +kernel
theorem dJ0_isLatin1_aae02_18 : decode cJ0_isLatin1_aae02 18 = .ok (.ireturn, 1) := by decide +kernel
theorem dJ0_checkIndex_df160_0 : decode cJ0_checkIndex_df160 0 = .ok (.iload_n 0, 1) := by decide +kernel
theorem dJ0_checkIndex_df160_1 : decode cJ0_checkIndex_df160 1 = .ok (.iload_n 1, 1) := by decide +kernel
theorem dJ0_checkIndex_df160_2 : decode cJ0_checkIndex_df160 2 = .ok (.getstatic 1053, 3) := by decide +kernel
theorem dJ0_checkIndex_df160_5 : decode cJ0_checkIndex_df160 5 = .ok (.invokestatic 1059, 3) := by decide +kernel
theorem dJ0_checkIndex_df160_8 : decode cJ0_checkIndex_df160 8 = .ok (.pop, 1) := by decide +kernel
theorem dJ0_checkIndex_df160_9 : decode cJ0_checkIndex_df160 9 = .ok (.return_, 1) := by decide +kernel
theorem dJ1_charAt_3b067_0 : decode cJ1_charAt_3b067 0 = .ok (.iload_n 1, 1) := by decide +kernel
theorem dJ1_charAt_3b067_1 : decode cJ1_charAt_3b067 1 = .ok (.aload_n 0, 1) := by decide +kernel
theorem dJ1_charAt_3b067_2 : decode cJ1_charAt_3b067 2 = .ok (.arraylength, 1) := by decide +kernel
theorem dJ1_charAt_3b067_3 : decode cJ1_charAt_3b067 3 = .ok (.invokestatic 9, 3) := by decide +kernel
theorem dJ1_charAt_3b067_6 : decode cJ1_charAt_3b067 6 = .ok (.aload_n 0, 1) := by decide +kernel
theorem dJ1_charAt_3b067_7 : decode cJ1_charAt_3b067 7 = .ok (.iload_n 1, 1) := by decide +kernel
theorem dJ1_charAt_3b067_8 : decode cJ1_charAt_3b067 8 = .ok (.baload, 1) := by decide +kernel
theorem dJ1_charAt_3b067_9 : decode cJ1_charAt_3b067 9 = .ok (.sipush 255, 3) := by decide +kernel
theorem dJ1_charAt_3b067_12 : decode cJ1_charAt_3b067 12 = .ok (.iand, 1) := by decide +kernel
theorem dJ1_charAt_3b067_13 : decode cJ1_charAt_3b067 13 = .ok (.i2c, 1) := by decide +kernel
theorem dJ1_charAt_3b067_14 : decode cJ1_charAt_3b067 14 = .ok (.ireturn, 1) := by decide +kernel
theorem dJ2_getChar_3b067_0 : decode cJ2_getChar_3b067 0 = .ok (.getstatic 44, 3) := by decide +kernel
theorem dJ2_getChar_3b067_3 : decode cJ2_getChar_3b067 3 = .ok (.ifCond .ne 25, 3) := by decide +kernel
theorem dJ2_getChar_3b067_6 : decode cJ2_getChar_3b067 6 = .ok (.iload_n 1, 1) := by decide +kernel
theorem dJ2_getChar_3b067_7 : decode cJ2_getChar_3b067 7 = .ok (.ifCond .lt 11, 3) := by decide +kernel
theorem dJ2_getChar_3b067_10 : decode cJ2_getChar_3b067 10 = .ok (.iload_n 1, 1) := by decide +kernel
theorem dJ2_getChar_3b067_11 : decode cJ2_getChar_3b067 11 = .ok (.aload_n 0, 1) := by decide +kernel
theorem dJ2_getChar_3b067_12 : decode cJ2_getChar_3b067 12 = .ok (.invokestatic 48, 3) := by decide +kernel
theorem dJ2_getChar_3b067_15 : decode cJ2_getChar_3b067 15 = .ok (.if_icmp .lt 13, 3) := by decide +kernel
theorem dJ2_getChar_3b067_18 : decode cJ2_getChar_3b067 18 = .ok (.new 52, 3) := by decide +kernel
theorem dJ2_getChar_3b067_21 : decode cJ2_getChar_3b067 21 = .ok (.dup, 1) := by decide +kernel
theorem dJ2_getChar_3b067_22 : decode cJ2_getChar_3b067 22 = .ok (.ldc 54, 2) := by decide +kernel
theorem dJ2_getChar_3b067_24 : decode cJ2_getChar_3b067 24 = .ok (.invokespecial 56, 3) := by decide +kernel
theorem dJ2_getChar_3b067_27 : decode cJ2_getChar_3b067 27 = .ok (.athrow, 1) := by decide +kernel
theorem dJ2_getChar_3b067_28 : decode cJ2_getChar_3b067 28 = .ok (.iload_n 1, 1) := by decide +kernel
theorem dJ2_getChar_3b067_29 : decode cJ2_getChar_3b067 29 = .ok (.iconst 1, 1) := by decide +kernel
theorem dJ2_getChar_3b067_30 : decode cJ2_getChar_3b067 30 = .ok (.ishl, 1) := by decide +kernel
theorem dJ2_getChar_3b067_31 : decode cJ2_getChar_3b067 31 = .ok (.istore_n 1, 1) := by decide +kernel
theorem dJ2_getChar_3b067_32 : decode cJ2_getChar_3b067 32 = .ok (.aload_n 0, 1) := by decide +kernel
theorem dJ2_getChar_3b067_33 : decode cJ2_getChar_3b067 33 = .ok (.iload_n 1, 1) := by decide +kernel
theorem dJ2_getChar_3b067_34 : decode cJ2_getChar_3b067 34 = .ok (.iinc 1 1, 3) := by decide +kernel
theorem dJ2_getChar_3b067_37 : decode cJ2_getChar_3b067 37 = .ok (.baload, 1) := by decide +kernel
theorem dJ2_getChar_3b067_38 : decode cJ2_getChar_3b067 38 = .ok (.sipush 255, 3) := by decide +kernel
theorem dJ2_getChar_3b067_41 : decode cJ2_getChar_3b067 41 = .ok (.iand, 1) := by decide +kernel
theorem dJ2_getChar_3b067_42 : decode cJ2_getChar_3b067 42 = .ok (.getstatic 59, 3) := by decide +kernel
theorem dJ2_getChar_3b067_45 : decode cJ2_getChar_3b067 45 = .ok (.ishl, 1) := by decide +kernel
theorem dJ2_getChar_3b067_46 : decode cJ2_getChar_3b067 46 = .ok (.aload_n 0, 1) := by decide +kernel
theorem dJ2_getChar_3b067_47 : decode cJ2_getChar_3b067 47 = .ok (.iload_n 1, 1) := by decide +kernel
theorem dJ2_getChar_3b067_48 : decode cJ2_getChar_3b067 48 = .ok (.baload, 1) := by decide +kernel
theorem dJ2_getChar_3b067_49 : decode cJ2_getChar_3b067 49 = .ok (.sipush 255, 3) := by decide +kernel
theorem dJ2_getChar_3b067_52 : decode cJ2_getChar_3b067 52 = .ok (.iand, 1) := by decide +kernel
theorem dJ2_getChar_3b067_53 : decode cJ2_getChar_3b067 53 = .ok (.getstatic 63, 3) := by decide +kernel
theorem dJ2_getChar_3b067_56 : decode cJ2_getChar_3b067 56 = .ok (.ishl, 1) := by decide +kernel
theorem dJ2_getChar_3b067_57 : decode cJ2_getChar_3b067 57 = .ok (.ior, 1) := by decide +kernel
theorem dJ2_getChar_3b067_58 : decode cJ2_getChar_3b067 58 = .ok (.i2c, 1) := by decide +kernel
theorem dJ2_getChar_3b067_59 : decode cJ2_getChar_3b067 59 = .ok (.ireturn, 1) := by decide +kernel
theorem dJ2_length_9d52b_0 : decode cJ2_length_9d52b 0 = .ok (.aload_n 0, 1) := by decide +kernel
theorem dJ2_length_9d52b_1 : decode cJ2_length_9d52b 1 = .ok (.arraylength, 1) := by decide +kernel
theorem dJ2_length_9d52b_2 : decode cJ2_length_9d52b 2 = .ok (.iconst 1, 1) := by decide +kernel
theorem dJ2_length_9d52b_3 : decode cJ2_length_9d52b 3 = .ok (.ishr, 1) := by decide +kernel
theorem dJ2_length_9d52b_4 : decode cJ2_length_9d52b 4 = .ok (.ireturn, 1) := by decide +kernel
theorem dJ2_charAt_3b067_0 : decode cJ2_charAt_3b067 0 = .ok (.iload_n 1, 1) := by decide +kernel
theorem dJ2_charAt_3b067_1 : decode cJ2_charAt_3b067 1 = .ok (.aload_n 0, 1) := by decide +kernel
theorem dJ2_charAt_3b067_2 : decode cJ2_charAt_3b067 2 = .ok (.invokestatic 67, 3) := by decide +kernel
theorem dJ2_charAt_3b067_5 : decode cJ2_charAt_3b067 5 = .ok (.aload_n 0, 1) := by decide +kernel
theorem dJ2_charAt_3b067_6 : decode cJ2_charAt_3b067 6 = .ok (.iload_n 1, 1) := by decide +kernel
theorem dJ2_charAt_3b067_7 : decode cJ2_charAt_3b067 7 = .ok (.invokestatic 71, 3) := by decide +kernel
theorem dJ2_charAt_3b067_10 : decode cJ2_charAt_3b067 10 = .ok (.ireturn, 1) := by decide +kernel
theorem dJ2_checkIndex_2214a_0 : decode cJ2_checkIndex_2214a 0 = .ok (.iload_n 0, 1) := by decide +kernel
theorem dJ2_checkIndex_2214a_1 : decode cJ2_checkIndex_2214a 1 = .ok (.aload_n 1, 1) := by decide +kernel
theorem dJ2_checkIndex_2214a_2 : decode cJ2_checkIndex_2214a 2 = .ok (.invokestatic 48, 3) := by decide +kernel
theorem dJ2_checkIndex_2214a_5 : decode cJ2_checkIndex_2214a 5 = .ok (.invokestatic 414, 3) := by decide +kernel
theorem dJ2_checkIndex_2214a_8 : decode cJ2_checkIndex_2214a 8 = .ok (.return_, 1) := by decide +kernel
theorem dJ7_fill_53178_0 : decode cJ7_fill_53178 0 = .ok (.iconst 0, 1) := by decide +kernel
theorem dJ7_fill_53178_1 : decode cJ7_fill_53178 1 = .ok (.istore_n 2, 1) := by decide +kernel
theorem dJ7_fill_53178_2 : decode cJ7_fill_53178 2 = .ok (.aload_n 0, 1) := by decide +kernel
theorem dJ7_fill_53178_3 : decode cJ7_fill_53178 3 = .ok (.arraylength, 1) := by decide +kernel
theorem dJ7_fill_53178_4 : decode cJ7_fill_53178 4 = .ok (.istore_n 3, 1) := by decide +kernel
theorem dJ7_fill_53178_5 : decode cJ7_fill_53178 5 = .ok (.iload_n 2, 1) := by decide +kernel
theorem dJ7_fill_53178_6 : decode cJ7_fill_53178 6 = .ok (.iload_n 3, 1) := by decide +kernel
theorem dJ7_fill_53178_7 : decode cJ7_fill_53178 7 = .ok (.if_icmp .ge 13, 3) := by decide +kernel
theorem dJ7_fill_53178_10 : decode cJ7_fill_53178 10 = .ok (.aload_n 0, 1) := by decide +kernel
theorem dJ7_fill_53178_11 : decode cJ7_fill_53178 11 = .ok (.iload_n 2, 1) := by decide +kernel
theorem dJ7_fill_53178_12 : decode cJ7_fill_53178 12 = .ok (.iload_n 1, 1) := by decide +kernel
theorem dJ7_fill_53178_13 : decode cJ7_fill_53178 13 = .ok (.iastore, 1) := by decide +kernel
theorem dJ7_fill_53178_14 : decode cJ7_fill_53178 14 = .ok (.iinc 2 1, 3) := by decide +kernel
theorem dJ7_fill_53178_17 : decode cJ7_fill_53178 17 = .ok (.goto (-12), 3) := by decide +kernel
theorem dJ7_fill_53178_20 : decode cJ7_fill_53178 20 = .ok (.return_, 1) := by decide +kernel
theorem dJ3_checkIndex_8e157_0 : decode cJ3_checkIndex_8e157 0 = .ok (.iload_n 0, 1) := by decide +kernel
theorem dJ3_checkIndex_8e157_1 : decode cJ3_checkIndex_8e157 1 = .ok (.ifCond .lt 8, 3) := by decide +kernel
theorem dJ3_checkIndex_8e157_4 : decode cJ3_checkIndex_8e157 4 = .ok (.iload_n 0, 1) := by decide +kernel
theorem dJ3_checkIndex_8e157_5 : decode cJ3_checkIndex_8e157 5 = .ok (.iload_n 1, 1) := by decide +kernel
theorem dJ3_checkIndex_8e157_6 : decode cJ3_checkIndex_8e157 6 = .ok (.if_icmp .lt 10, 3) := by decide +kernel
theorem dJ3_checkIndex_8e157_9 : decode cJ3_checkIndex_8e157 9 = .ok (.aload_n 2, 1) := by decide +kernel
theorem dJ3_checkIndex_8e157_10 : decode cJ3_checkIndex_8e157 10 = .ok (.iload_n 0, 1) := by decide +kernel
theorem dJ3_checkIndex_8e157_11 : decode cJ3_checkIndex_8e157 11 = .ok (.iload_n 1, 1) := by decide +kernel
theorem dJ3_checkIndex_8e157_12 : decode cJ3_checkIndex_8e157 12 = .ok (.invokestatic 95, 3) := by decide +kernel
theorem dJ3_checkIndex_8e157_15 : decode cJ3_checkIndex_8e157 15 = .ok (.athrow, 1) := by decide +kernel
theorem dJ3_checkIndex_8e157_16 : decode cJ3_checkIndex_8e157 16 = .ok (.iload_n 0, 1) := by decide +kernel
theorem dJ3_checkIndex_8e157_17 : decode cJ3_checkIndex_8e157 17 = .ok (.ireturn, 1) := by decide +kernel
theorem dL_law_0 : decode cL_law 0 = .ok (.new 7, 3) := by decide +kernel
theorem dL_law_3 : decode cL_law 3 = .ok (.dup, 1) := by decide +kernel
theorem dL_law_4 : decode cL_law 4 = .ok (.invokespecial 9, 3) := by decide +kernel
theorem dL_law_7 : decode cL_law 7 = .ok (.astore_n 1, 1) := by decide +kernel
theorem dL_law_8 : decode cL_law 8 = .ok (.new 10, 3) := by decide +kernel
theorem dL_law_11 : decode cL_law 11 = .ok (.dup, 1) := by decide +kernel
theorem dL_law_12 : decode cL_law 12 = .ok (.invokespecial 12, 3) := by decide +kernel
theorem dL_law_15 : decode cL_law 15 = .ok (.astore_n 2, 1) := by decide +kernel
theorem dL_law_16 : decode cL_law 16 = .ok (.iconst 0, 1) := by decide +kernel
theorem dL_law_17 : decode cL_law 17 = .ok (.istore_n 3, 1) := by decide +kernel
theorem dL_law_18 : decode cL_law 18 = .ok (.iload_n 3, 1) := by decide +kernel
theorem dL_law_19 : decode cL_law 19 = .ok (.aload_n 0, 1) := by decide +kernel
theorem dL_law_20 : decode cL_law 20 = .ok (.arraylength, 1) := by decide +kernel
theorem dL_law_21 : decode cL_law 21 = .ok (.iconst 5, 1) := by decide +kernel
theorem dL_law_22 : decode cL_law 22 = .ok (.isub, 1) := by decide +kernel
theorem dL_law_23 : decode cL_law 23 = .ok (.if_icmp .gt 709, 3) := by decide +kernel
theorem dL_law_26 : decode cL_law 26 = .ok (.aload_n 0, 1) := by decide +kernel
theorem dL_law_27 : decode cL_law 27 = .ok (.iload_n 3, 1) := by decide +kernel
theorem dL_law_28 : decode cL_law 28 = .ok (.iaload, 1) := by decide +kernel
theorem dL_law_29 : decode cL_law 29 = .ok (.bipush 31, 2) := by decide +kernel
theorem dL_law_31 : decode cL_law 31 = .ok (.iand, 1) := by decide +kernel
theorem dL_law_32 : decode cL_law 32 = .ok (.tableswitch 694 0 23 #[112, 135, 148, 161, 174, 197, 230, 243, 266, 299, 322, 345, 368, 381, 394, 417, 430, 473, 496, 529, 582, 615, 638, 671], 112) := by decide +kernel
theorem dL_law_144 : decode cL_law 144 = .ok (.aload_n 1, 1) := by decide +kernel
theorem dL_law_145 : decode cL_law 145 = .ok (.aload_n 0, 1) := by decide +kernel
theorem dL_law_146 : decode cL_law 146 = .ok (.iload_n 3, 1) := by decide +kernel
theorem dL_law_147 : decode cL_law 147 = .ok (.iconst 1, 1) := by decide +kernel
theorem dL_law_148 : decode cL_law 148 = .ok (.iadd, 1) := by decide +kernel
theorem dL_law_149 : decode cL_law 149 = .ok (.iaload, 1) := by decide +kernel
theorem dL_law_150 : decode cL_law 150 = .ok (.invokevirtual 13, 3) := by decide +kernel
theorem dL_law_153 : decode cL_law 153 = .ok (.aload_n 2, 1) := by decide +kernel
theorem dL_law_154 : decode cL_law 154 = .ok (.aload_n 0, 1) := by decide +kernel
theorem dL_law_155 : decode cL_law 155 = .ok (.iload_n 3, 1) := by decide +kernel
theorem dL_law_156 : decode cL_law 156 = .ok (.iconst 1, 1) := by decide +kernel
theorem dL_law_157 : decode cL_law 157 = .ok (.iadd, 1) := by decide +kernel
theorem dL_law_158 : decode cL_law 158 = .ok (.iaload, 1) := by decide +kernel
theorem dL_law_159 : decode cL_law 159 = .ok (.invokevirtual 17, 3) := by decide +kernel
theorem dL_law_162 : decode cL_law 162 = .ok (.if_icmp .eq 564, 3) := by decide +kernel
theorem dL_law_165 : decode cL_law 165 = .ok (.iconst 0, 1) := by decide +kernel
theorem dL_law_166 : decode cL_law 166 = .ok (.ireturn, 1) := by decide +kernel
theorem dL_law_167 : decode cL_law 167 = .ok (.aload_n 1, 1) := by decide +kernel
theorem dL_law_168 : decode cL_law 168 = .ok (.invokevirtual 18, 3) := by decide +kernel
theorem dL_law_171 : decode cL_law 171 = .ok (.aload_n 2, 1) := by decide +kernel
theorem dL_law_172 : decode cL_law 172 = .ok (.invokevirtual 22, 3) := by decide +kernel
theorem dL_law_175 : decode cL_law 175 = .ok (.if_icmp .eq 551, 3) := by decide +kernel
theorem dL_law_178 : decode cL_law 178 = .ok (.iconst 0, 1) := by decide +kernel
theorem dL_law_179 : decode cL_law 179 = .ok (.ireturn, 1) := by decide +kernel
theorem dL_law_180 : decode cL_law 180 = .ok (.aload_n 1, 1) := by decide +kernel
theorem dL_law_181 : decode cL_law 181 = .ok (.invokevirtual 23, 3) := by decide +kernel
theorem dL_law_184 : decode cL_law 184 = .ok (.aload_n 2, 1) := by decide +kernel
theorem dL_law_185 : decode cL_law 185 = .ok (.invokevirtual 26, 3) := by decide +kernel
theorem dL_law_188 : decode cL_law 188 = .ok (.if_icmp .eq 538, 3) := by decide +kernel
theorem dL_law_191 : decode cL_law 191 = .ok (.iconst 0, 1) := by decide +kernel
theorem dL_law_192 : decode cL_law 192 = .ok (.ireturn, 1) := by decide +kernel
theorem dL_law_193 : decode cL_law 193 = .ok (.aload_n 1, 1) := by decide +kernel
theorem dL_law_194 : decode cL_law 194 = .ok (.invokevirtual 27, 3) := by decide +kernel
theorem dL_law_197 : decode cL_law 197 = .ok (.aload_n 2, 1) := by decide +kernel
theorem dL_law_198 : decode cL_law 198 = .ok (.invokevirtual 30, 3) := by decide +kernel
theorem dL_law_201 : decode cL_law 201 = .ok (.if_icmp .eq 525, 3) := by decide +kernel
theorem dL_law_204 : decode cL_law 204 = .ok (.iconst 0, 1) := by decide +kernel
theorem dL_law_205 : decode cL_law 205 = .ok (.ireturn, 1) := by decide +kernel
theorem dL_law_206 : decode cL_law 206 = .ok (.aload_n 1, 1) := by decide +kernel
theorem dL_law_207 : decode cL_law 207 = .ok (.aload_n 0, 1) := by decide +kernel
theorem dL_law_208 : decode cL_law 208 = .ok (.iload_n 3, 1) := by decide +kernel
theorem dL_law_209 : decode cL_law 209 = .ok (.iconst 1, 1) := by decide +kernel
theorem dL_law_210 : decode cL_law 210 = .ok (.iadd, 1) := by decide +kernel
theorem dL_law_211 : decode cL_law 211 = .ok (.iaload, 1) := by decide +kernel
theorem dL_law_212 : decode cL_law 212 = .ok (.invokevirtual 31, 3) := by decide +kernel
theorem dL_law_215 : decode cL_law 215 = .ok (.aload_n 2, 1) := by decide +kernel
theorem dL_law_216 : decode cL_law 216 = .ok (.aload_n 0, 1) := by decide +kernel
theorem dL_law_217 : decode cL_law 217 = .ok (.iload_n 3, 1) := by decide +kernel
theorem dL_law_218 : decode cL_law 218 = .ok (.iconst 1, 1) := by decide +kernel
theorem dL_law_219 : decode cL_law 219 = .ok (.iadd, 1) := by decide +kernel
theorem dL_law_220 : decode cL_law 220 = .ok (.iaload, 1) := by decide +kernel
theorem dL_law_221 : decode cL_law 221 = .ok (.invokevirtual 34, 3) := by decide +kernel
theorem dL_law_224 : decode cL_law 224 = .ok (.if_icmp .eq 502, 3) := by decide +kernel
theorem dL_law_227 : decode cL_law 227 = .ok (.iconst 0, 1) := by decide +kernel
theorem dL_law_228 : decode cL_law 228 = .ok (.ireturn, 1) := by decide +kernel
theorem dL_law_229 : decode cL_law 229 = .ok (.aload_n 1, 1) := by decide +kernel
theorem dL_law_230 : decode cL_law 230 = .ok (.aload_n 0, 1) := by decide +kernel
theorem dL_law_231 : decode cL_law 231 = .ok (.iload_n 3, 1) := by decide +kernel
theorem dL_law_232 : decode cL_law 232 = .ok (.iconst 1, 1) := by decide +kernel
theorem dL_law_233 : decode cL_law 233 = .ok (.iadd, 1) := by decide +kernel
theorem dL_law_234 : decode cL_law 234 = .ok (.iaload, 1) := by decide +kernel
theorem dL_law_235 : decode cL_law 235 = .ok (.aload_n 0, 1) := by decide +kernel
theorem dL_law_236 : decode cL_law 236 = .ok (.iload_n 3, 1) := by decide +kernel
theorem dL_law_237 : decode cL_law 237 = .ok (.iconst 2, 1) := by decide +kernel
theorem dL_law_238 : decode cL_law 238 = .ok (.iadd, 1) := by decide +kernel
theorem dL_law_239 : decode cL_law 239 = .ok (.iaload, 1) := by decide +kernel
theorem dL_law_240 : decode cL_law 240 = .ok (.invokevirtual 35, 3) := by decide +kernel
theorem dL_law_243 : decode cL_law 243 = .ok (.aload_n 2, 1) := by decide +kernel
theorem dL_law_244 : decode cL_law 244 = .ok (.aload_n 0, 1) := by decide +kernel
theorem dL_law_245 : decode cL_law 245 = .ok (.iload_n 3, 1) := by decide +kernel
theorem dL_law_246 : decode cL_law 246 = .ok (.iconst 1, 1) := by decide +kernel
theorem dL_law_247 : decode cL_law 247 = .ok (.iadd, 1) := by decide +kernel
theorem dL_law_248 : decode cL_law 248 = .ok (.iaload, 1) := by decide +kernel
theorem dL_law_249 : decode cL_law 249 = .ok (.aload_n 0, 1) := by decide +kernel
theorem dL_law_250 : decode cL_law 250 = .ok (.iload_n 3, 1) := by decide +kernel
theorem dL_law_251 : decode cL_law 251 = .ok (.iconst 2, 1) := by decide +kernel
theorem dL_law_252 : decode cL_law 252 = .ok (.iadd, 1) := by decide +kernel
theorem dL_law_253 : decode cL_law 253 = .ok (.iaload, 1) := by decide +kernel
theorem dL_law_254 : decode cL_law 254 = .ok (.invokevirtual 39, 3) := by decide +kernel
theorem dL_law_257 : decode cL_law 257 = .ok (.if_icmp .eq 469, 3) := by decide +kernel
theorem dL_law_260 : decode cL_law 260 = .ok (.iconst 0, 1) := by decide +kernel
theorem dL_law_261 : decode cL_law 261 = .ok (.ireturn, 1) := by decide +kernel
theorem dL_law_262 : decode cL_law 262 = .ok (.aload_n 1, 1) := by decide +kernel
theorem dL_law_263 : decode cL_law 263 = .ok (.invokevirtual 40, 3) := by decide +kernel
theorem dL_law_266 : decode cL_law 266 = .ok (.aload_n 2, 1) := by decide +kernel
theorem dL_law_267 : decode cL_law 267 = .ok (.invokevirtual 43, 3) := by decide +kernel
theorem dL_law_270 : decode cL_law 270 = .ok (.if_icmp .eq 456, 3) := by decide +kernel
theorem dL_law_273 : decode cL_law 273 = .ok (.iconst 0, 1) := by decide +kernel
theorem dL_law_274 : decode cL_law 274 = .ok (.ireturn, 1) := by decide +kernel
theorem dL_law_275 : decode cL_law 275 = .ok (.aload_n 1, 1) := by decide +kernel
theorem dL_law_276 : decode cL_law 276 = .ok (.aload_n 0, 1) := by decide +kernel
theorem dL_law_277 : decode cL_law 277 = .ok (.iload_n 3, 1) := by decide +kernel
theorem dL_law_278 : decode cL_law 278 = .ok (.iconst 1, 1) := by decide +kernel
theorem dL_law_279 : decode cL_law 279 = .ok (.iadd, 1) := by decide +kernel
theorem dL_law_280 : decode cL_law 280 = .ok (.iaload, 1) := by decide +kernel
theorem dL_law_281 : decode cL_law 281 = .ok (.invokevirtual 44, 3) := by decide +kernel
theorem dL_law_284 : decode cL_law 284 = .ok (.aload_n 2, 1) := by decide +kernel
theorem dL_law_285 : decode cL_law 285 = .ok (.aload_n 0, 1) := by decide +kernel
theorem dL_law_286 : decode cL_law 286 = .ok (.iload_n 3, 1) := by decide +kernel
theorem dL_law_287 : decode cL_law 287 = .ok (.iconst 1, 1) := by decide +kernel
theorem dL_law_288 : decode cL_law 288 = .ok (.iadd, 1) := by decide +kernel
theorem dL_law_289 : decode cL_law 289 = .ok (.iaload, 1) := by decide +kernel
theorem dL_law_290 : decode cL_law 290 = .ok (.invokevirtual 47, 3) := by decide +kernel
theorem dL_law_293 : decode cL_law 293 = .ok (.if_icmp .eq 433, 3) := by decide +kernel
theorem dL_law_296 : decode cL_law 296 = .ok (.iconst 0, 1) := by decide +kernel
theorem dL_law_297 : decode cL_law 297 = .ok (.ireturn, 1) := by decide +kernel
theorem dL_law_298 : decode cL_law 298 = .ok (.aload_n 1, 1) := by decide +kernel
theorem dL_law_299 : decode cL_law 299 = .ok (.aload_n 0, 1) := by decide +kernel
theorem dL_law_300 : decode cL_law 300 = .ok (.iload_n 3, 1) := by decide +kernel
theorem dL_law_301 : decode cL_law 301 = .ok (.iconst 1, 1) := by decide +kernel
theorem dL_law_302 : decode cL_law 302 = .ok (.iadd, 1) := by decide +kernel
theorem dL_law_303 : decode cL_law 303 = .ok (.iaload, 1) := by decide +kernel
theorem dL_law_304 : decode cL_law 304 = .ok (.aload_n 0, 1) := by decide +kernel
theorem dL_law_305 : decode cL_law 305 = .ok (.iload_n 3, 1) := by decide +kernel
theorem dL_law_306 : decode cL_law 306 = .ok (.iconst 2, 1) := by decide +kernel
theorem dL_law_307 : decode cL_law 307 = .ok (.iadd, 1) := by decide +kernel
theorem dL_law_308 : decode cL_law 308 = .ok (.iaload, 1) := by decide +kernel
theorem dL_law_309 : decode cL_law 309 = .ok (.invokevirtual 48, 3) := by decide +kernel
theorem dL_law_312 : decode cL_law 312 = .ok (.aload_n 2, 1) := by decide +kernel
theorem dL_law_313 : decode cL_law 313 = .ok (.aload_n 0, 1) := by decide +kernel
theorem dL_law_314 : decode cL_law 314 = .ok (.iload_n 3, 1) := by decide +kernel
theorem dL_law_315 : decode cL_law 315 = .ok (.iconst 1, 1) := by decide +kernel
theorem dL_law_316 : decode cL_law 316 = .ok (.iadd, 1) := by decide +kernel
theorem dL_law_317 : decode cL_law 317 = .ok (.iaload, 1) := by decide +kernel
theorem dL_law_318 : decode cL_law 318 = .ok (.aload_n 0, 1) := by decide +kernel
theorem dL_law_319 : decode cL_law 319 = .ok (.iload_n 3, 1) := by decide +kernel
theorem dL_law_320 : decode cL_law 320 = .ok (.iconst 2, 1) := by decide +kernel
theorem dL_law_321 : decode cL_law 321 = .ok (.iadd, 1) := by decide +kernel
theorem dL_law_322 : decode cL_law 322 = .ok (.iaload, 1) := by decide +kernel
theorem dL_law_323 : decode cL_law 323 = .ok (.invokevirtual 51, 3) := by decide +kernel
theorem dL_law_326 : decode cL_law 326 = .ok (.if_icmp .eq 400, 3) := by decide +kernel
theorem dL_law_329 : decode cL_law 329 = .ok (.iconst 0, 1) := by decide +kernel
theorem dL_law_330 : decode cL_law 330 = .ok (.ireturn, 1) := by decide +kernel
theorem dL_law_331 : decode cL_law 331 = .ok (.aload_n 1, 1) := by decide +kernel
theorem dL_law_332 : decode cL_law 332 = .ok (.aload_n 0, 1) := by decide +kernel
theorem dL_law_333 : decode cL_law 333 = .ok (.iload_n 3, 1) := by decide +kernel
theorem dL_law_334 : decode cL_law 334 = .ok (.iconst 1, 1) := by decide +kernel
theorem dL_law_335 : decode cL_law 335 = .ok (.iadd, 1) := by decide +kernel
theorem dL_law_336 : decode cL_law 336 = .ok (.iaload, 1) := by decide +kernel
theorem dL_law_337 : decode cL_law 337 = .ok (.invokevirtual 52, 3) := by decide +kernel
theorem dL_law_340 : decode cL_law 340 = .ok (.aload_n 2, 1) := by decide +kernel
theorem dL_law_341 : decode cL_law 341 = .ok (.aload_n 0, 1) := by decide +kernel
theorem dL_law_342 : decode cL_law 342 = .ok (.iload_n 3, 1) := by decide +kernel
theorem dL_law_343 : decode cL_law 343 = .ok (.iconst 1, 1) := by decide +kernel
theorem dL_law_344 : decode cL_law 344 = .ok (.iadd, 1) := by decide +kernel
theorem dL_law_345 : decode cL_law 345 = .ok (.iaload, 1) := by decide +kernel
theorem dL_law_346 : decode cL_law 346 = .ok (.invokevirtual 55, 3) := by decide +kernel
theorem dL_law_349 : decode cL_law 349 = .ok (.if_icmp .eq 377, 3) := by decide +kernel
theorem dL_law_352 : decode cL_law 352 = .ok (.iconst 0, 1) := by decide +kernel
theorem dL_law_353 : decode cL_law 353 = .ok (.ireturn, 1) := by decide +kernel
theorem dL_law_354 : decode cL_law 354 = .ok (.aload_n 1, 1) := by decide +kernel
theorem dL_law_355 : decode cL_law 355 = .ok (.aload_n 0, 1) := by decide +kernel
theorem dL_law_356 : decode cL_law 356 = .ok (.iload_n 3, 1) := by decide +kernel
theorem dL_law_357 : decode cL_law 357 = .ok (.iconst 1, 1) := by decide +kernel
theorem dL_law_358 : decode cL_law 358 = .ok (.iadd, 1) := by decide +kernel
theorem dL_law_359 : decode cL_law 359 = .ok (.iaload, 1) := by decide +kernel
theorem dL_law_360 : decode cL_law 360 = .ok (.invokevirtual 56, 3) := by decide +kernel
theorem dL_law_363 : decode cL_law 363 = .ok (.aload_n 2, 1) := by decide +kernel
theorem dL_law_364 : decode cL_law 364 = .ok (.aload_n 0, 1) := by decide +kernel
theorem dL_law_365 : decode cL_law 365 = .ok (.iload_n 3, 1) := by decide +kernel
theorem dL_law_366 : decode cL_law 366 = .ok (.iconst 1, 1) := by decide +kernel
theorem dL_law_367 : decode cL_law 367 = .ok (.iadd, 1) := by decide +kernel
theorem dL_law_368 : decode cL_law 368 = .ok (.iaload, 1) := by decide +kernel
theorem dL_law_369 : decode cL_law 369 = .ok (.invokevirtual 59, 3) := by decide +kernel
theorem dL_law_372 : decode cL_law 372 = .ok (.if_icmp .eq 354, 3) := by decide +kernel
theorem dL_law_375 : decode cL_law 375 = .ok (.iconst 0, 1) := by decide +kernel
theorem dL_law_376 : decode cL_law 376 = .ok (.ireturn, 1) := by decide +kernel
theorem dL_law_377 : decode cL_law 377 = .ok (.aload_n 1, 1) := by decide +kernel
theorem dL_law_378 : decode cL_law 378 = .ok (.aload_n 0, 1) := by decide +kernel
theorem dL_law_379 : decode cL_law 379 = .ok (.iload_n 3, 1) := by decide +kernel
theorem dL_law_380 : decode cL_law 380 = .ok (.iconst 1, 1) := by decide +kernel
theorem dL_law_381 : decode cL_law 381 = .ok (.iadd, 1) := by decide +kernel
theorem dL_law_382 : decode cL_law 382 = .ok (.iaload, 1) := by decide +kernel
theorem dL_law_383 : decode cL_law 383 = .ok (.invokevirtual 60, 3) := by decide +kernel
theorem dL_law_386 : decode cL_law 386 = .ok (.aload_n 2, 1) := by decide +kernel
theorem dL_law_387 : decode cL_law 387 = .ok (.aload_n 0, 1) := by decide +kernel
theorem dL_law_388 : decode cL_law 388 = .ok (.iload_n 3, 1) := by decide +kernel
theorem dL_law_389 : decode cL_law 389 = .ok (.iconst 1, 1) := by decide +kernel
theorem dL_law_390 : decode cL_law 390 = .ok (.iadd, 1) := by decide +kernel
theorem dL_law_391 : decode cL_law 391 = .ok (.iaload, 1) := by decide +kernel
theorem dL_law_392 : decode cL_law 392 = .ok (.invokevirtual 63, 3) := by decide +kernel
theorem dL_law_395 : decode cL_law 395 = .ok (.if_icmp .eq 331, 3) := by decide +kernel
theorem dL_law_398 : decode cL_law 398 = .ok (.iconst 0, 1) := by decide +kernel
theorem dL_law_399 : decode cL_law 399 = .ok (.ireturn, 1) := by decide +kernel
theorem dL_law_400 : decode cL_law 400 = .ok (.aload_n 1, 1) := by decide +kernel
theorem dL_law_401 : decode cL_law 401 = .ok (.invokevirtual 64, 3) := by decide +kernel
theorem dL_law_404 : decode cL_law 404 = .ok (.aload_n 2, 1) := by decide +kernel
theorem dL_law_405 : decode cL_law 405 = .ok (.invokevirtual 67, 3) := by decide +kernel
theorem dL_law_408 : decode cL_law 408 = .ok (.if_icmp .eq 318, 3) := by decide +kernel
theorem dL_law_411 : decode cL_law 411 = .ok (.iconst 0, 1) := by decide +kernel
theorem dL_law_412 : decode cL_law 412 = .ok (.ireturn, 1) := by decide +kernel
theorem dL_law_413 : decode cL_law 413 = .ok (.aload_n 1, 1) := by decide +kernel
theorem dL_law_414 : decode cL_law 414 = .ok (.invokevirtual 68, 3) := by decide +kernel
theorem dL_law_417 : decode cL_law 417 = .ok (.aload_n 2, 1) := by decide +kernel
theorem dL_law_418 : decode cL_law 418 = .ok (.invokevirtual 71, 3) := by decide +kernel
theorem dL_law_421 : decode cL_law 421 = .ok (.if_icmp .eq 305, 3) := by decide +kernel
theorem dL_law_424 : decode cL_law 424 = .ok (.iconst 0, 1) := by decide +kernel
theorem dL_law_425 : decode cL_law 425 = .ok (.ireturn, 1) := by decide +kernel
theorem dL_law_426 : decode cL_law 426 = .ok (.aload_n 1, 1) := by decide +kernel
theorem dL_law_427 : decode cL_law 427 = .ok (.aload_n 0, 1) := by decide +kernel
theorem dL_law_428 : decode cL_law 428 = .ok (.iload_n 3, 1) := by decide +kernel
theorem dL_law_429 : decode cL_law 429 = .ok (.iconst 1, 1) := by decide +kernel
theorem dL_law_430 : decode cL_law 430 = .ok (.iadd, 1) := by decide +kernel
theorem dL_law_431 : decode cL_law 431 = .ok (.iaload, 1) := by decide +kernel
theorem dL_law_432 : decode cL_law 432 = .ok (.invokevirtual 72, 3) := by decide +kernel
theorem dL_law_435 : decode cL_law 435 = .ok (.aload_n 2, 1) := by decide +kernel
theorem dL_law_436 : decode cL_law 436 = .ok (.aload_n 0, 1) := by decide +kernel
theorem dL_law_437 : decode cL_law 437 = .ok (.iload_n 3, 1) := by decide +kernel
theorem dL_law_438 : decode cL_law 438 = .ok (.iconst 1, 1) := by decide +kernel
theorem dL_law_439 : decode cL_law 439 = .ok (.iadd, 1) := by decide +kernel
theorem dL_law_440 : decode cL_law 440 = .ok (.iaload, 1) := by decide +kernel
theorem dL_law_441 : decode cL_law 441 = .ok (.invokevirtual 75, 3) := by decide +kernel
theorem dL_law_444 : decode cL_law 444 = .ok (.if_icmp .eq 282, 3) := by decide +kernel
theorem dL_law_447 : decode cL_law 447 = .ok (.iconst 0, 1) := by decide +kernel
theorem dL_law_448 : decode cL_law 448 = .ok (.ireturn, 1) := by decide +kernel
theorem dL_law_449 : decode cL_law 449 = .ok (.aload_n 1, 1) := by decide +kernel
theorem dL_law_450 : decode cL_law 450 = .ok (.invokevirtual 76, 3) := by decide +kernel
theorem dL_law_453 : decode cL_law 453 = .ok (.aload_n 2, 1) := by decide +kernel
theorem dL_law_454 : decode cL_law 454 = .ok (.invokevirtual 79, 3) := by decide +kernel
theorem dL_law_457 : decode cL_law 457 = .ok (.if_icmp .eq 269, 3) := by decide +kernel
theorem dL_law_460 : decode cL_law 460 = .ok (.iconst 0, 1) := by decide +kernel
theorem dL_law_461 : decode cL_law 461 = .ok (.ireturn, 1) := by decide +kernel
theorem dL_law_462 : decode cL_law 462 = .ok (.aload_n 1, 1) := by decide +kernel
theorem dL_law_463 : decode cL_law 463 = .ok (.aload_n 0, 1) := by decide +kernel
theorem dL_law_464 : decode cL_law 464 = .ok (.iload_n 3, 1) := by decide +kernel
theorem dL_law_465 : decode cL_law 465 = .ok (.iconst 1, 1) := by decide +kernel
theorem dL_law_466 : decode cL_law 466 = .ok (.iadd, 1) := by decide +kernel
theorem dL_law_467 : decode cL_law 467 = .ok (.iaload, 1) := by decide +kernel
theorem dL_law_468 : decode cL_law 468 = .ok (.aload_n 0, 1) := by decide +kernel
theorem dL_law_469 : decode cL_law 469 = .ok (.iload_n 3, 1) := by decide +kernel
theorem dL_law_470 : decode cL_law 470 = .ok (.iconst 2, 1) := by decide +kernel
theorem dL_law_471 : decode cL_law 471 = .ok (.iadd, 1) := by decide +kernel
theorem dL_law_472 : decode cL_law 472 = .ok (.iaload, 1) := by decide +kernel
theorem dL_law_473 : decode cL_law 473 = .ok (.aload_n 0, 1) := by decide +kernel
theorem dL_law_474 : decode cL_law 474 = .ok (.iload_n 3, 1) := by decide +kernel
theorem dL_law_475 : decode cL_law 475 = .ok (.iconst 3, 1) := by decide +kernel
theorem dL_law_476 : decode cL_law 476 = .ok (.iadd, 1) := by decide +kernel
theorem dL_law_477 : decode cL_law 477 = .ok (.iaload, 1) := by decide +kernel
theorem dL_law_478 : decode cL_law 478 = .ok (.invokevirtual 80, 3) := by decide +kernel
theorem dL_law_481 : decode cL_law 481 = .ok (.aload_n 2, 1) := by decide +kernel
theorem dL_law_482 : decode cL_law 482 = .ok (.aload_n 0, 1) := by decide +kernel
theorem dL_law_483 : decode cL_law 483 = .ok (.iload_n 3, 1) := by decide +kernel
theorem dL_law_484 : decode cL_law 484 = .ok (.iconst 1, 1) := by decide +kernel
theorem dL_law_485 : decode cL_law 485 = .ok (.iadd, 1) := by decide +kernel
theorem dL_law_486 : decode cL_law 486 = .ok (.iaload, 1) := by decide +kernel
theorem dL_law_487 : decode cL_law 487 = .ok (.aload_n 0, 1) := by decide +kernel
theorem dL_law_488 : decode cL_law 488 = .ok (.iload_n 3, 1) := by decide +kernel
theorem dL_law_489 : decode cL_law 489 = .ok (.iconst 2, 1) := by decide +kernel
theorem dL_law_490 : decode cL_law 490 = .ok (.iadd, 1) := by decide +kernel
theorem dL_law_491 : decode cL_law 491 = .ok (.iaload, 1) := by decide +kernel
theorem dL_law_492 : decode cL_law 492 = .ok (.aload_n 0, 1) := by decide +kernel
theorem dL_law_493 : decode cL_law 493 = .ok (.iload_n 3, 1) := by decide +kernel
theorem dL_law_494 : decode cL_law 494 = .ok (.iconst 3, 1) := by decide +kernel
theorem dL_law_495 : decode cL_law 495 = .ok (.iadd, 1) := by decide +kernel
theorem dL_law_496 : decode cL_law 496 = .ok (.iaload, 1) := by decide +kernel
theorem dL_law_497 : decode cL_law 497 = .ok (.invokevirtual 84, 3) := by decide +kernel
theorem dL_law_500 : decode cL_law 500 = .ok (.if_icmp .eq 226, 3) := by decide +kernel
theorem dL_law_503 : decode cL_law 503 = .ok (.iconst 0, 1) := by decide +kernel
theorem dL_law_504 : decode cL_law 504 = .ok (.ireturn, 1) := by decide +kernel
theorem dL_law_505 : decode cL_law 505 = .ok (.aload_n 1, 1) := by decide +kernel
theorem dL_law_506 : decode cL_law 506 = .ok (.aload_n 0, 1) := by decide +kernel
theorem dL_law_507 : decode cL_law 507 = .ok (.iload_n 3, 1) := by decide +kernel
theorem dL_law_508 : decode cL_law 508 = .ok (.iconst 1, 1) := by decide +kernel
theorem dL_law_509 : decode cL_law 509 = .ok (.iadd, 1) := by decide +kernel
theorem dL_law_510 : decode cL_law 510 = .ok (.iaload, 1) := by decide +kernel
theorem dL_law_511 : decode cL_law 511 = .ok (.invokevirtual 85, 3) := by decide +kernel
theorem dL_law_514 : decode cL_law 514 = .ok (.aload_n 2, 1) := by decide +kernel
theorem dL_law_515 : decode cL_law 515 = .ok (.aload_n 0, 1) := by decide +kernel
theorem dL_law_516 : decode cL_law 516 = .ok (.iload_n 3, 1) := by decide +kernel
theorem dL_law_517 : decode cL_law 517 = .ok (.iconst 1, 1) := by decide +kernel
theorem dL_law_518 : decode cL_law 518 = .ok (.iadd, 1) := by decide +kernel
theorem dL_law_519 : decode cL_law 519 = .ok (.iaload, 1) := by decide +kernel
theorem dL_law_520 : decode cL_law 520 = .ok (.invokevirtual 88, 3) := by decide +kernel
theorem dL_law_523 : decode cL_law 523 = .ok (.if_icmp .eq 203, 3) := by decide +kernel
theorem dL_law_526 : decode cL_law 526 = .ok (.iconst 0, 1) := by decide +kernel
theorem dL_law_527 : decode cL_law 527 = .ok (.ireturn, 1) := by decide +kernel
theorem dL_law_528 : decode cL_law 528 = .ok (.aload_n 1, 1) := by decide +kernel
theorem dL_law_529 : decode cL_law 529 = .ok (.aload_n 0, 1) := by decide +kernel
theorem dL_law_530 : decode cL_law 530 = .ok (.iload_n 3, 1) := by decide +kernel
theorem dL_law_531 : decode cL_law 531 = .ok (.iconst 1, 1) := by decide +kernel
theorem dL_law_532 : decode cL_law 532 = .ok (.iadd, 1) := by decide +kernel
theorem dL_law_533 : decode cL_law 533 = .ok (.iaload, 1) := by decide +kernel
theorem dL_law_534 : decode cL_law 534 = .ok (.aload_n 0, 1) := by decide +kernel
theorem dL_law_535 : decode cL_law 535 = .ok (.iload_n 3, 1) := by decide +kernel
theorem dL_law_536 : decode cL_law 536 = .ok (.iconst 2, 1) := by decide +kernel
theorem dL_law_537 : decode cL_law 537 = .ok (.iadd, 1) := by decide +kernel
theorem dL_law_538 : decode cL_law 538 = .ok (.iaload, 1) := by decide +kernel
theorem dL_law_539 : decode cL_law 539 = .ok (.invokevirtual 89, 3) := by decide +kernel
theorem dL_law_542 : decode cL_law 542 = .ok (.aload_n 2, 1) := by decide +kernel
theorem dL_law_543 : decode cL_law 543 = .ok (.aload_n 0, 1) := by decide +kernel
theorem dL_law_544 : decode cL_law 544 = .ok (.iload_n 3, 1) := by decide +kernel
theorem dL_law_545 : decode cL_law 545 = .ok (.iconst 1, 1) := by decide +kernel
theorem dL_law_546 : decode cL_law 546 = .ok (.iadd, 1) := by decide +kernel
theorem dL_law_547 : decode cL_law 547 = .ok (.iaload, 1) := by decide +kernel
theorem dL_law_548 : decode cL_law 548 = .ok (.aload_n 0, 1) := by decide +kernel
theorem dL_law_549 : decode cL_law 549 = .ok (.iload_n 3, 1) := by decide +kernel
theorem dL_law_550 : decode cL_law 550 = .ok (.iconst 2, 1) := by decide +kernel
theorem dL_law_551 : decode cL_law 551 = .ok (.iadd, 1) := by decide +kernel
theorem dL_law_552 : decode cL_law 552 = .ok (.iaload, 1) := by decide +kernel
theorem dL_law_553 : decode cL_law 553 = .ok (.invokevirtual 92, 3) := by decide +kernel
theorem dL_law_556 : decode cL_law 556 = .ok (.if_icmp .eq 170, 3) := by decide +kernel
theorem dL_law_559 : decode cL_law 559 = .ok (.iconst 0, 1) := by decide +kernel
theorem dL_law_560 : decode cL_law 560 = .ok (.ireturn, 1) := by decide +kernel
theorem dL_law_561 : decode cL_law 561 = .ok (.aload_n 1, 1) := by decide +kernel
theorem dL_law_562 : decode cL_law 562 = .ok (.aload_n 0, 1) := by decide +kernel
theorem dL_law_563 : decode cL_law 563 = .ok (.iload_n 3, 1) := by decide +kernel
theorem dL_law_564 : decode cL_law 564 = .ok (.iconst 1, 1) := by decide +kernel
theorem dL_law_565 : decode cL_law 565 = .ok (.iadd, 1) := by decide +kernel
theorem dL_law_566 : decode cL_law 566 = .ok (.iaload, 1) := by decide +kernel
theorem dL_law_567 : decode cL_law 567 = .ok (.aload_n 0, 1) := by decide +kernel
theorem dL_law_568 : decode cL_law 568 = .ok (.iload_n 3, 1) := by decide +kernel
theorem dL_law_569 : decode cL_law 569 = .ok (.iconst 2, 1) := by decide +kernel
theorem dL_law_570 : decode cL_law 570 = .ok (.iadd, 1) := by decide +kernel
theorem dL_law_571 : decode cL_law 571 = .ok (.iaload, 1) := by decide +kernel
theorem dL_law_572 : decode cL_law 572 = .ok (.aload_n 0, 1) := by decide +kernel
theorem dL_law_573 : decode cL_law 573 = .ok (.iload_n 3, 1) := by decide +kernel
theorem dL_law_574 : decode cL_law 574 = .ok (.iconst 3, 1) := by decide +kernel
theorem dL_law_575 : decode cL_law 575 = .ok (.iadd, 1) := by decide +kernel
theorem dL_law_576 : decode cL_law 576 = .ok (.iaload, 1) := by decide +kernel
theorem dL_law_577 : decode cL_law 577 = .ok (.aload_n 0, 1) := by decide +kernel
theorem dL_law_578 : decode cL_law 578 = .ok (.iload_n 3, 1) := by decide +kernel
theorem dL_law_579 : decode cL_law 579 = .ok (.iconst 4, 1) := by decide +kernel
theorem dL_law_580 : decode cL_law 580 = .ok (.iadd, 1) := by decide +kernel
theorem dL_law_581 : decode cL_law 581 = .ok (.iaload, 1) := by decide +kernel
theorem dL_law_582 : decode cL_law 582 = .ok (.invokevirtual 93, 3) := by decide +kernel
theorem dL_law_585 : decode cL_law 585 = .ok (.aload_n 2, 1) := by decide +kernel
theorem dL_law_586 : decode cL_law 586 = .ok (.aload_n 0, 1) := by decide +kernel
theorem dL_law_587 : decode cL_law 587 = .ok (.iload_n 3, 1) := by decide +kernel
theorem dL_law_588 : decode cL_law 588 = .ok (.iconst 1, 1) := by decide +kernel
theorem dL_law_589 : decode cL_law 589 = .ok (.iadd, 1) := by decide +kernel
theorem dL_law_590 : decode cL_law 590 = .ok (.iaload, 1) := by decide +kernel
theorem dL_law_591 : decode cL_law 591 = .ok (.aload_n 0, 1) := by decide +kernel
theorem dL_law_592 : decode cL_law 592 = .ok (.iload_n 3, 1) := by decide +kernel
theorem dL_law_593 : decode cL_law 593 = .ok (.iconst 2, 1) := by decide +kernel
theorem dL_law_594 : decode cL_law 594 = .ok (.iadd, 1) := by decide +kernel
theorem dL_law_595 : decode cL_law 595 = .ok (.iaload, 1) := by decide +kernel
theorem dL_law_596 : decode cL_law 596 = .ok (.aload_n 0, 1) := by decide +kernel
theorem dL_law_597 : decode cL_law 597 = .ok (.iload_n 3, 1) := by decide +kernel
theorem dL_law_598 : decode cL_law 598 = .ok (.iconst 3, 1) := by decide +kernel
theorem dL_law_599 : decode cL_law 599 = .ok (.iadd, 1) := by decide +kernel
theorem dL_law_600 : decode cL_law 600 = .ok (.iaload, 1) := by decide +kernel
theorem dL_law_601 : decode cL_law 601 = .ok (.aload_n 0, 1) := by decide +kernel
theorem dL_law_602 : decode cL_law 602 = .ok (.iload_n 3, 1) := by decide +kernel
theorem dL_law_603 : decode cL_law 603 = .ok (.iconst 4, 1) := by decide +kernel
theorem dL_law_604 : decode cL_law 604 = .ok (.iadd, 1) := by decide +kernel
theorem dL_law_605 : decode cL_law 605 = .ok (.iaload, 1) := by decide +kernel
theorem dL_law_606 : decode cL_law 606 = .ok (.invokevirtual 97, 3) := by decide +kernel
theorem dL_law_609 : decode cL_law 609 = .ok (.if_icmp .eq 117, 3) := by decide +kernel
theorem dL_law_612 : decode cL_law 612 = .ok (.iconst 0, 1) := by decide +kernel
theorem dL_law_613 : decode cL_law 613 = .ok (.ireturn, 1) := by decide +kernel
theorem dL_law_614 : decode cL_law 614 = .ok (.aload_n 1, 1) := by decide +kernel
theorem dL_law_615 : decode cL_law 615 = .ok (.aload_n 0, 1) := by decide +kernel
theorem dL_law_616 : decode cL_law 616 = .ok (.iload_n 3, 1) := by decide +kernel
theorem dL_law_617 : decode cL_law 617 = .ok (.iconst 1, 1) := by decide +kernel
theorem dL_law_618 : decode cL_law 618 = .ok (.iadd, 1) := by decide +kernel
theorem dL_law_619 : decode cL_law 619 = .ok (.iaload, 1) := by decide +kernel
theorem dL_law_620 : decode cL_law 620 = .ok (.aload_n 0, 1) := by decide +kernel
theorem dL_law_621 : decode cL_law 621 = .ok (.iload_n 3, 1) := by decide +kernel
theorem dL_law_622 : decode cL_law 622 = .ok (.iconst 2, 1) := by decide +kernel
theorem dL_law_623 : decode cL_law 623 = .ok (.iadd, 1) := by decide +kernel
theorem dL_law_624 : decode cL_law 624 = .ok (.iaload, 1) := by decide +kernel
theorem dL_law_625 : decode cL_law 625 = .ok (.invokevirtual 98, 3) := by decide +kernel
theorem dL_law_628 : decode cL_law 628 = .ok (.aload_n 2, 1) := by decide +kernel
theorem dL_law_629 : decode cL_law 629 = .ok (.aload_n 0, 1) := by decide +kernel
theorem dL_law_630 : decode cL_law 630 = .ok (.iload_n 3, 1) := by decide +kernel
theorem dL_law_631 : decode cL_law 631 = .ok (.iconst 1, 1) := by decide +kernel
theorem dL_law_632 : decode cL_law 632 = .ok (.iadd, 1) := by decide +kernel
theorem dL_law_633 : decode cL_law 633 = .ok (.iaload, 1) := by decide +kernel
theorem dL_law_634 : decode cL_law 634 = .ok (.aload_n 0, 1) := by decide +kernel
theorem dL_law_635 : decode cL_law 635 = .ok (.iload_n 3, 1) := by decide +kernel
theorem dL_law_636 : decode cL_law 636 = .ok (.iconst 2, 1) := by decide +kernel
theorem dL_law_637 : decode cL_law 637 = .ok (.iadd, 1) := by decide +kernel
theorem dL_law_638 : decode cL_law 638 = .ok (.iaload, 1) := by decide +kernel
theorem dL_law_639 : decode cL_law 639 = .ok (.invokevirtual 101, 3) := by decide +kernel
theorem dL_law_642 : decode cL_law 642 = .ok (.if_icmp .eq 84, 3) := by decide +kernel
theorem dL_law_645 : decode cL_law 645 = .ok (.iconst 0, 1) := by decide +kernel
theorem dL_law_646 : decode cL_law 646 = .ok (.ireturn, 1) := by decide +kernel
theorem dL_law_647 : decode cL_law 647 = .ok (.aload_n 1, 1) := by decide +kernel
theorem dL_law_648 : decode cL_law 648 = .ok (.aload_n 0, 1) := by decide +kernel
theorem dL_law_649 : decode cL_law 649 = .ok (.iload_n 3, 1) := by decide +kernel
theorem dL_law_650 : decode cL_law 650 = .ok (.iconst 1, 1) := by decide +kernel
theorem dL_law_651 : decode cL_law 651 = .ok (.iadd, 1) := by decide +kernel
theorem dL_law_652 : decode cL_law 652 = .ok (.iaload, 1) := by decide +kernel
theorem dL_law_653 : decode cL_law 653 = .ok (.invokevirtual 102, 3) := by decide +kernel
theorem dL_law_656 : decode cL_law 656 = .ok (.aload_n 2, 1) := by decide +kernel
theorem dL_law_657 : decode cL_law 657 = .ok (.aload_n 0, 1) := by decide +kernel
theorem dL_law_658 : decode cL_law 658 = .ok (.iload_n 3, 1) := by decide +kernel
theorem dL_law_659 : decode cL_law 659 = .ok (.iconst 1, 1) := by decide +kernel
theorem dL_law_660 : decode cL_law 660 = .ok (.iadd, 1) := by decide +kernel
theorem dL_law_661 : decode cL_law 661 = .ok (.iaload, 1) := by decide +kernel
theorem dL_law_662 : decode cL_law 662 = .ok (.invokevirtual 105, 3) := by decide +kernel
theorem dL_law_665 : decode cL_law 665 = .ok (.if_icmp .eq 61, 3) := by decide +kernel
theorem dL_law_668 : decode cL_law 668 = .ok (.iconst 0, 1) := by decide +kernel
theorem dL_law_669 : decode cL_law 669 = .ok (.ireturn, 1) := by decide +kernel
theorem dL_law_670 : decode cL_law 670 = .ok (.aload_n 1, 1) := by decide +kernel
theorem dL_law_671 : decode cL_law 671 = .ok (.aload_n 0, 1) := by decide +kernel
theorem dL_law_672 : decode cL_law 672 = .ok (.iload_n 3, 1) := by decide +kernel
theorem dL_law_673 : decode cL_law 673 = .ok (.iconst 1, 1) := by decide +kernel
theorem dL_law_674 : decode cL_law 674 = .ok (.iadd, 1) := by decide +kernel
theorem dL_law_675 : decode cL_law 675 = .ok (.iaload, 1) := by decide +kernel
theorem dL_law_676 : decode cL_law 676 = .ok (.aload_n 0, 1) := by decide +kernel
theorem dL_law_677 : decode cL_law 677 = .ok (.iload_n 3, 1) := by decide +kernel
theorem dL_law_678 : decode cL_law 678 = .ok (.iconst 2, 1) := by decide +kernel
theorem dL_law_679 : decode cL_law 679 = .ok (.iadd, 1) := by decide +kernel
theorem dL_law_680 : decode cL_law 680 = .ok (.iaload, 1) := by decide +kernel
theorem dL_law_681 : decode cL_law 681 = .ok (.invokevirtual 106, 3) := by decide +kernel
theorem dL_law_684 : decode cL_law 684 = .ok (.aload_n 2, 1) := by decide +kernel
theorem dL_law_685 : decode cL_law 685 = .ok (.aload_n 0, 1) := by decide +kernel
theorem dL_law_686 : decode cL_law 686 = .ok (.iload_n 3, 1) := by decide +kernel
theorem dL_law_687 : decode cL_law 687 = .ok (.iconst 1, 1) := by decide +kernel
theorem dL_law_688 : decode cL_law 688 = .ok (.iadd, 1) := by decide +kernel
theorem dL_law_689 : decode cL_law 689 = .ok (.iaload, 1) := by decide +kernel
theorem dL_law_690 : decode cL_law 690 = .ok (.aload_n 0, 1) := by decide +kernel
theorem dL_law_691 : decode cL_law 691 = .ok (.iload_n 3, 1) := by decide +kernel
theorem dL_law_692 : decode cL_law 692 = .ok (.iconst 2, 1) := by decide +kernel
theorem dL_law_693 : decode cL_law 693 = .ok (.iadd, 1) := by decide +kernel
theorem dL_law_694 : decode cL_law 694 = .ok (.iaload, 1) := by decide +kernel
theorem dL_law_695 : decode cL_law 695 = .ok (.invokevirtual 109, 3) := by decide +kernel
theorem dL_law_698 : decode cL_law 698 = .ok (.if_icmp .eq 28, 3) := by decide +kernel
theorem dL_law_701 : decode cL_law 701 = .ok (.iconst 0, 1) := by decide +kernel
theorem dL_law_702 : decode cL_law 702 = .ok (.ireturn, 1) := by decide +kernel
theorem dL_law_703 : decode cL_law 703 = .ok (.aload_n 1, 1) := by decide +kernel
theorem dL_law_704 : decode cL_law 704 = .ok (.aload_n 0, 1) := by decide +kernel
theorem dL_law_705 : decode cL_law 705 = .ok (.iload_n 3, 1) := by decide +kernel
theorem dL_law_706 : decode cL_law 706 = .ok (.iconst 1, 1) := by decide +kernel
theorem dL_law_707 : decode cL_law 707 = .ok (.iadd, 1) := by decide +kernel
theorem dL_law_708 : decode cL_law 708 = .ok (.iaload, 1) := by decide +kernel
theorem dL_law_709 : decode cL_law 709 = .ok (.invokevirtual 110, 3) := by decide +kernel
theorem dL_law_712 : decode cL_law 712 = .ok (.aload_n 2, 1) := by decide +kernel
theorem dL_law_713 : decode cL_law 713 = .ok (.aload_n 0, 1) := by decide +kernel
theorem dL_law_714 : decode cL_law 714 = .ok (.iload_n 3, 1) := by decide +kernel
theorem dL_law_715 : decode cL_law 715 = .ok (.iconst 1, 1) := by decide +kernel
theorem dL_law_716 : decode cL_law 716 = .ok (.iadd, 1) := by decide +kernel
theorem dL_law_717 : decode cL_law 717 = .ok (.iaload, 1) := by decide +kernel
theorem dL_law_718 : decode cL_law 718 = .ok (.invokevirtual 113, 3) := by decide +kernel
theorem dL_law_721 : decode cL_law 721 = .ok (.if_icmp .eq 5, 3) := by decide +kernel
theorem dL_law_724 : decode cL_law 724 = .ok (.iconst 0, 1) := by decide +kernel
theorem dL_law_725 : decode cL_law 725 = .ok (.ireturn, 1) := by decide +kernel
theorem dL_law_726 : decode cL_law 726 = .ok (.iinc 3 5, 3) := by decide +kernel
theorem dL_law_729 : decode cL_law 729 = .ok (.goto (-711), 3) := by decide +kernel
theorem dL_law_732 : decode cL_law 732 = .ok (.iconst 1, 1) := by decide +kernel
theorem dL_law_733 : decode cL_law 733 = .ok (.ireturn, 1) := by decide +kernel
