theorem dX9_countRuns_70 : decode cX9_countRuns 70 = .ok (.iload_n 3, 1) := by decide +kernel
theorem dX9_countRuns_71 : decode cX9_countRuns 71 = .ok (.iconst 1, 1) := by decide +kernel
theorem dX9_countRuns_72 : decode cX9_countRuns 72 = .ok (.isub, 1) := by decide +kernel
theorem dX9_countRuns_73 : decode cX9_countRuns 73 = .ok (.iaload, 1) := by decide +kernel
theorem dX9_countRuns_74 : decode cX9_countRuns 74 = .ok (.iaload, 1) := by decide +kernel
theorem dX9_countRuns_75 : decode cX9_countRuns 75 = .ok (.i2l, 1) := by decide +kernel
theorem dX9_countRuns_76 : decode cX9_countRuns 76 = .ok (.lsub, 1) := by decide +kernel
theorem dX9_countRuns_77 : decode cX9_countRuns 77 = .ok (.lstore 4, 2) := by decide +kernel
theorem dX9_countRuns_79 : decode cX9_countRuns 79 = .ok (.aload_n 0, 1) := by decide +kernel
theorem dX9_countRuns_80 : decode cX9_countRuns 80 = .ok (.aload_n 0, 1) := by decide +kernel
theorem dX9_countRuns_81 : decode cX9_countRuns 81 = .ok (.getfield 59, 3) := by decide +kernel
theorem dX9_countRuns_84 : decode cX9_countRuns 84 = .ok (.lload 4, 2) := by decide +kernel
theorem dX9_countRuns_86 : decode cX9_countRuns 86 = .ok (.lconst 0, 1) := by decide +kernel
theorem dX9_countRuns_87 : decode cX9_countRuns 87 = .ok (.lcmp, 1) := by decide +kernel
theorem dX9_countRuns_88 : decode cX9_countRuns 88 = .ok (.ifCond .le 14, 3) := by decide +kernel
theorem dX9_countRuns_91 : decode cX9_countRuns 91 = .ok (.ldc2_w 63, 3) := by decide +kernel
theorem dX9_countRuns_94 : decode cX9_countRuns 94 = .ok (.lload 4, 2) := by decide +kernel
theorem dX9_countRuns_96 : decode cX9_countRuns 96 = .ok (.lmul, 1) := by decide +kernel
theorem dX9_countRuns_97 : decode cX9_countRuns 97 = .ok (.lconst 1, 1) := by decide +kernel
theorem dX9_countRuns_98 : decode cX9_countRuns 98 = .ok (.lsub, 1) := by decide +kernel
theorem dX9_countRuns_99 : decode cX9_countRuns 99 = .ok (.goto 9, 3) := by decide +kernel
theorem dX9_countRuns_102 : decode cX9_countRuns 102 = .ok (.ldc2_w 65, 3) := by decide +kernel
theorem dX9_countRuns_105 : decode cX9_countRuns 105 = .ok (.lload 4, 2) := by decide +kernel
theorem dX9_countRuns_107 : decode cX9_countRuns 107 = .ok (.lmul, 1) := by decide +kernel
theorem dX9_countRuns_108 : decode cX9_countRuns 108 = .ok (.invokestatic 67, 3) := by decide +kernel
theorem dX9_countRuns_111 : decode cX9_countRuns 111 = .ok (.putfield 59, 3) := by decide +kernel
theorem dX9_countRuns_114 : decode cX9_countRuns 114 = .ok (.iinc 3 1, 3) := by decide +kernel
theorem dX9_countRuns_117 : decode cX9_countRuns 117 = .ok (.goto (-94), 3) := by decide +kernel
theorem dX9_countRuns_120 : decode cX9_countRuns 120 = .ok (.return_, 1) := by decide +kernel
theorem dX9_bytesIn_0 : decode cX9_bytesIn 0 = .ok (.iload_n 1, 1) := by decide +kernel
theorem dX9_bytesIn_1 : decode cX9_bytesIn 1 = .ok (.tableswitch 168 0 4 #[35, 61, 99, 107, 136], 35) := by decide +kernel
theorem dX9_bytesIn_36 : decode cX9_bytesIn 36 = .ok (.iconst 4, 1) := by decide +kernel
theorem dX9_bytesIn_37 : decode cX9_bytesIn 37 = .ok (.aload_n 0, 1) := by decide +kernel
theorem dX9_bytesIn_38 : decode cX9_bytesIn 38 = .ok (.getfield 15, 3) := by decide +kernel
theorem dX9_bytesIn_41 : decode cX9_bytesIn 41 = .ok (.imul, 1) := by decide +kernel
theorem dX9_bytesIn_42 : decode cX9_bytesIn 42 = .ok (.aload_n 0, 1) := by decide +kernel
theorem dX9_bytesIn_43 : decode cX9_bytesIn 43 = .ok (.getfield 26, 3) := by decide +kernel
theorem dX9_bytesIn_46 : decode cX9_bytesIn 46 = .ok (.ifCond .ne 7, 3) := by decide +kernel
theorem dX9_bytesIn_49 : decode cX9_bytesIn 49 = .ok (.iconst 0, 1) := by decide +kernel
theorem dX9_bytesIn_50 : decode cX9_bytesIn 50 = .ok (.goto 10, 3) := by decide +kernel
theorem dX9_bytesIn_53 : decode cX9_bytesIn 53 = .ok (.aload_n 0, 1) := by decide +kernel
theorem dX9_bytesIn_54 : decode cX9_bytesIn 54 = .ok (.getfield 15, 3) := by decide +kernel
theorem dX9_bytesIn_57 : decode cX9_bytesIn 57 = .ok (.invokestatic 73, 3) := by decide +kernel
theorem dX9_bytesIn_60 : decode cX9_bytesIn 60 = .ok (.iadd, 1) := by decide +kernel
theorem dX9_bytesIn_61 : decode cX9_bytesIn 61 = .ok (.ireturn, 1) := by decide +kernel
theorem dX9_bytesIn_62 : decode cX9_bytesIn 62 = .ok (.aload_n 0, 1) := by decide +kernel
theorem dX9_bytesIn_63 : decode cX9_bytesIn 63 = .ok (.getfield 45, 3) := by decide +kernel
theorem dX9_bytesIn_66 : decode cX9_bytesIn 66 = .ok (.ifCond .ne 7, 3) := by decide +kernel
theorem dX9_bytesIn_69 : decode cX9_bytesIn 69 = .ok (.iconst (-1), 1) := by decide +kernel
theorem dX9_bytesIn_70 : decode cX9_bytesIn 70 = .ok (.goto 29, 3) := by decide +kernel
theorem dX9_bytesIn_73 : decode cX9_bytesIn 73 = .ok (.bipush 9, 2) := by decide +kernel
theorem dX9_bytesIn_75 : decode cX9_bytesIn 75 = .ok (.aload_n 0, 1) := by decide +kernel
theorem dX9_bytesIn_76 : decode cX9_bytesIn 76 = .ok (.getfield 15, 3) := by decide +kernel
theorem dX9_bytesIn_79 : decode cX9_bytesIn 79 = .ok (.aload_n 0, 1) := by decide +kernel
theorem dX9_bytesIn_80 : decode cX9_bytesIn 80 = .ok (.aload_n 0, 1) := by decide +kernel
theorem dX9_bytesIn_81 : decode cX9_bytesIn 81 = .ok (.getfield 35, 3) := by decide +kernel
theorem dX9_bytesIn_84 : decode cX9_bytesIn 84 = .ok (.i2l, 1) := by decide +kernel
theorem dX9_bytesIn_85 : decode cX9_bytesIn 85 = .ok (.aload_n 0, 1) := by decide +kernel
theorem dX9_bytesIn_86 : decode cX9_bytesIn 86 = .ok (.getfield 32, 3) := by decide +kernel
theorem dX9_bytesIn_89 : decode cX9_bytesIn 89 = .ok (.i2l, 1) := by decide +kernel
theorem dX9_bytesIn_90 : decode cX9_bytesIn 90 = .ok (.lsub, 1) := by decide +kernel
theorem dX9_bytesIn_91 : decode cX9_bytesIn 91 = .ok (.invokevirtual 76, 3) := by decide +kernel
theorem dX9_bytesIn_94 : decode cX9_bytesIn 94 = .ok (.imul, 1) := by decide +kernel
theorem dX9_bytesIn_95 : decode cX9_bytesIn 95 = .ok (.invokestatic 73, 3) := by decide +kernel
theorem dX9_bytesIn_98 : decode cX9_bytesIn 98 = .ok (.iadd, 1) := by decide +kernel
theorem dX9_bytesIn_99 : decode cX9_bytesIn 99 = .ok (.ireturn, 1) := by decide +kernel
theorem dX9_bytesIn_100 : decode cX9_bytesIn 100 = .ok (.bipush 6, 2) := by decide +kernel
theorem dX9_bytesIn_102 : decode cX9_bytesIn 102 = .ok (.aload_n 0, 1) := by decide +kernel
theorem dX9_bytesIn_103 : decode cX9_bytesIn 103 = .ok (.getfield 56, 3) := by decide +kernel
theorem dX9_bytesIn_106 : decode cX9_bytesIn 106 = .ok (.imul, 1) := by decide +kernel
theorem dX9_bytesIn_107 : decode cX9_bytesIn 107 = .ok (.ireturn, 1) := by decide +kernel
theorem dX9_bytesIn_108 : decode cX9_bytesIn 108 = .ok (.iconst 2, 1) := by decide +kernel
theorem dX9_bytesIn_109 : decode cX9_bytesIn 109 = .ok (.iconst 4, 1) := by decide +kernel
theorem dX9_bytesIn_110 : decode cX9_bytesIn 110 = .ok (.aload_n 0, 1) := by decide +kernel
theorem dX9_bytesIn_111 : decode cX9_bytesIn 111 = .ok (.getfield 45, 3) := by decide +kernel
theorem dX9_bytesIn_114 : decode cX9_bytesIn 114 = .ok (.imul, 1) := by decide +kernel
theorem dX9_bytesIn_115 : decode cX9_bytesIn 115 = .ok (.iadd, 1) := by decide +kernel
theorem dX9_bytesIn_116 : decode cX9_bytesIn 116 = .ok (.aload_n 0, 1) := by decide +kernel
theorem dX9_bytesIn_117 : decode cX9_bytesIn 117 = .ok (.getfield 15, 3) := by decide +kernel
theorem dX9_bytesIn_120 : decode cX9_bytesIn 120 = .ok (.aload_n 0, 1) := by decide +kernel
theorem dX9_bytesIn_121 : decode cX9_bytesIn 121 = .ok (.aload_n 0, 1) := by decide +kernel
theorem dX9_bytesIn_122 : decode cX9_bytesIn 122 = .ok (.getfield 45, 3) := by decide +kernel
theorem dX9_bytesIn_125 : decode cX9_bytesIn 125 = .ok (.iconst 1, 1) := by decide +kernel
theorem dX9_bytesIn_126 : decode cX9_bytesIn 126 = .ok (.isub, 1) := by decide +kernel
theorem dX9_bytesIn_127 : decode cX9_bytesIn 127 = .ok (.i2l, 1) := by decide +kernel
theorem dX9_bytesIn_128 : decode cX9_bytesIn 128 = .ok (.invokevirtual 76, 3) := by decide +kernel
theorem dX9_bytesIn_131 : decode cX9_bytesIn 131 = .ok (.imul, 1) := by decide +kernel
theorem dX9_bytesIn_132 : decode cX9_bytesIn 132 = .ok (.invokestatic 73, 3) := by decide +kernel
theorem dX9_bytesIn_135 : decode cX9_bytesIn 135 = .ok (.iadd, 1) := by decide +kernel
theorem dX9_bytesIn_136 : decode cX9_bytesIn 136 = .ok (.ireturn, 1) := by decide +kernel
theorem dX9_bytesIn_137 : decode cX9_bytesIn 137 = .ok (.aload_n 0, 1) := by decide +kernel
theorem dX9_bytesIn_138 : decode cX9_bytesIn 138 = .ok (.getfield 26, 3) := by decide +kernel
theorem dX9_bytesIn_141 : decode cX9_bytesIn 141 = .ok (.ifCond .eq 7, 3) := by decide +kernel
theorem dX9_bytesIn_144 : decode cX9_bytesIn 144 = .ok (.iconst (-1), 1) := by decide +kernel
theorem dX9_bytesIn_145 : decode cX9_bytesIn 145 = .ok (.goto 23, 3) := by decide +kernel
theorem dX9_bytesIn_148 : decode cX9_bytesIn 148 = .ok (.bipush 9, 2) := by decide +kernel
theorem dX9_bytesIn_150 : decode cX9_bytesIn 150 = .ok (.aload_n 0, 1) := by decide +kernel
theorem dX9_bytesIn_151 : decode cX9_bytesIn 151 = .ok (.getfield 15, 3) := by decide +kernel
theorem dX9_bytesIn_154 : decode cX9_bytesIn 154 = .ok (.iconst 1, 1) := by decide +kernel
theorem dX9_bytesIn_155 : decode cX9_bytesIn 155 = .ok (.isub, 1) := by decide +kernel
theorem dX9_bytesIn_156 : decode cX9_bytesIn 156 = .ok (.aload_n 0, 1) := by decide +kernel
theorem dX9_bytesIn_157 : decode cX9_bytesIn 157 = .ok (.getfield 59, 3) := by decide +kernel
theorem dX9_bytesIn_160 : decode cX9_bytesIn 160 = .ok (.invokestatic 80, 3) := by decide +kernel
theorem dX9_bytesIn_163 : decode cX9_bytesIn 163 = .ok (.imul, 1) := by decide +kernel
theorem dX9_bytesIn_164 : decode cX9_bytesIn 164 = .ok (.invokestatic 73, 3) := by decide +kernel
theorem dX9_bytesIn_167 : decode cX9_bytesIn 167 = .ok (.iadd, 1) := by decide +kernel
theorem dX9_bytesIn_168 : decode cX9_bytesIn 168 = .ok (.ireturn, 1) := by decide +kernel
theorem dX9_bytesIn_169 : decode cX9_bytesIn 169 = .ok (.iconst (-1), 1) := by decide +kernel
theorem dX9_bytesIn_170 : decode cX9_bytesIn 170 = .ok (.ireturn, 1) := by decide +kernel
theorem dX9_widthFor_0 : decode cX9_widthFor 0 = .ok (.aload_n 0, 1) := by decide +kernel
theorem dX9_widthFor_1 : decode cX9_widthFor 1 = .ok (.getfield 26, 3) := by decide +kernel
theorem dX9_widthFor_4 : decode cX9_widthFor 4 = .ok (.ifCond .ne 7, 3) := by decide +kernel
theorem dX9_widthFor_7 : decode cX9_widthFor 7 = .ok (.lload_n 1, 1) := by decide +kernel
theorem dX9_widthFor_8 : decode cX9_widthFor 8 = .ok (.goto 6, 3) := by decide +kernel
theorem dX9_widthFor_11 : decode cX9_widthFor 11 = .ok (.lload_n 1, 1) := by decide +kernel
theorem dX9_widthFor_12 : decode cX9_widthFor 12 = .ok (.lconst 1, 1) := by decide +kernel
theorem dX9_widthFor_13 : decode cX9_widthFor 13 = .ok (.ladd, 1) := by decide +kernel
theorem dX9_widthFor_14 : decode cX9_widthFor 14 = .ok (.invokestatic 80, 3) := by decide +kernel
theorem dX9_widthFor_17 : decode cX9_widthFor 17 = .ok (.ireturn, 1) := by decide +kernel
theorem dX9_bytesFor_0 : decode cX9_bytesFor 0 = .ok (.iload_n 0, 1) := by decide +kernel
theorem dX9_bytesFor_1 : decode cX9_bytesFor 1 = .ok (.bipush 7, 2) := by decide +kernel
theorem dX9_bytesFor_3 : decode cX9_bytesFor 3 = .ok (.iadd, 1) := by decide +kernel
theorem dX9_bytesFor_4 : decode cX9_bytesFor 4 = .ok (.bipush 8, 2) := by decide +kernel
theorem dX9_bytesFor_6 : decode cX9_bytesFor 6 = .ok (.idiv, 1) := by decide +kernel
theorem dX9_bytesFor_7 : decode cX9_bytesFor 7 = .ok (.ireturn, 1) := by decide +kernel
theorem dX9_bits_0 : decode cX9_bits 0 = .ok (.iconst 0, 1) := by decide +kernel
theorem dX9_bits_1 : decode cX9_bits 1 = .ok (.istore_n 2, 1) := by decide +kernel
theorem dX9_bits_2 : decode cX9_bits 2 = .ok (.iload_n 2, 1) := by decide +kernel
theorem dX9_bits_3 : decode cX9_bits 3 = .ok (.bipush 62, 2) := by decide +kernel
theorem dX9_bits_5 : decode cX9_bits 5 = .ok (.if_icmp .ge 17, 3) := by decide +kernel
theorem dX9_bits_8 : decode cX9_bits 8 = .ok (.lload_n 0, 1) := by decide +kernel
theorem dX9_bits_9 : decode cX9_bits 9 = .ok (.iload_n 2, 1) := by decide +kernel
theorem dX9_bits_10 : decode cX9_bits 10 = .ok (.lshr, 1) := by decide +kernel
theorem dX9_bits_11 : decode cX9_bits 11 = .ok (.lconst 0, 1) := by decide +kernel
theorem dX9_bits_12 : decode cX9_bits 12 = .ok (.lcmp, 1) := by decide +kernel
theorem dX9_bits_13 : decode cX9_bits 13 = .ok (.ifCond .le 9, 3) := by decide +kernel
theorem dX9_bits_16 : decode cX9_bits 16 = .ok (.iinc 2 1, 3) := by decide +kernel
theorem dX9_bits_19 : decode cX9_bits 19 = .ok (.goto (-17), 3) := by decide +kernel
theorem dX9_bits_22 : decode cX9_bits 22 = .ok (.iload_n 2, 1) := by decide +kernel
theorem dX9_bits_23 : decode cX9_bits 23 = .ok (.ireturn, 1) := by decide +kernel
theorem dX9_hasBitmaps_0 : decode cX9_hasBitmaps 0 = .ok (.aload_n 0, 1) := by decide +kernel
theorem dX9_hasBitmaps_1 : decode cX9_hasBitmaps 1 = .ok (.getfield 45, 3) := by decide +kernel
theorem dX9_hasBitmaps_4 : decode cX9_hasBitmaps 4 = .ok (.iconst 1, 1) := by decide +kernel
theorem dX9_hasBitmaps_5 : decode cX9_hasBitmaps 5 = .ok (.if_icmp .lt 16, 3) := by decide +kernel
theorem dX9_hasBitmaps_8 : decode cX9_hasBitmaps 8 = .ok (.aload_n 0, 1) := by decide +kernel
theorem dX9_hasBitmaps_9 : decode cX9_hasBitmaps 9 = .ok (.getfield 45, 3) := by decide +kernel
theorem dX9_hasBitmaps_12 : decode cX9_hasBitmaps 12 = .ok (.bipush 16, 2) := by decide +kernel
theorem dX9_hasBitmaps_14 : decode cX9_hasBitmaps 14 = .ok (.if_icmp .gt 7, 3) := by decide +kernel
theorem dX9_hasBitmaps_17 : decode cX9_hasBitmaps 17 = .ok (.iconst 1, 1) := by decide +kernel
theorem dX9_hasBitmaps_18 : decode cX9_hasBitmaps 18 = .ok (.goto 4, 3) := by decide +kernel
theorem dX9_hasBitmaps_21 : decode cX9_hasBitmaps 21 = .ok (.iconst 0, 1) := by decide +kernel
theorem dX9_hasBitmaps_22 : decode cX9_hasBitmaps 22 = .ok (.ireturn, 1) := by decide +kernel
theorem dX9_bytesOfBitmaps_0 : decode cX9_bytesOfBitmaps 0 = .ok (.aload_n 0, 1) := by decide +kernel
theorem dX9_bytesOfBitmaps_1 : decode cX9_bytesOfBitmaps 1 = .ok (.invokevirtual 83, 3) := by decide +kernel
theorem dX9_bytesOfBitmaps_4 : decode cX9_bytesOfBitmaps 4 = .ok (.ifCond .eq 18, 3) := by decide +kernel
theorem dX9_bytesOfBitmaps_7 : decode cX9_bytesOfBitmaps 7 = .ok (.aload_n 0, 1) := by decide +kernel
theorem dX9_bytesOfBitmaps_8 : decode cX9_bytesOfBitmaps 8 = .ok (.getfield 45, 3) := by decide +kernel
theorem dX9_bytesOfBitmaps_11 : decode cX9_bytesOfBitmaps 11 = .ok (.aload_n 0, 1) := by decide +kernel
theorem dX9_bytesOfBitmaps_12 : decode cX9_bytesOfBitmaps 12 = .ok (.getfield 15, 3) := by decide +kernel
theorem dX9_bytesOfBitmaps_15 : decode cX9_bytesOfBitmaps 15 = .ok (.invokestatic 73, 3) := by decide +kernel
theorem dX9_bytesOfBitmaps_18 : decode cX9_bytesOfBitmaps 18 = .ok (.imul, 1) := by decide +kernel
theorem dX9_bytesOfBitmaps_19 : decode cX9_bytesOfBitmaps 19 = .ok (.goto 4, 3) := by decide +kernel
theorem dX9_bytesOfBitmaps_22 : decode cX9_bytesOfBitmaps 22 = .ok (.iconst 0, 1) := by decide +kernel
theorem dX9_bytesOfBitmaps_23 : decode cX9_bytesOfBitmaps 23 = .ok (.ireturn, 1) := by decide +kernel
theorem dX9_bitmapsFor_0 : decode cX9_bitmapsFor 0 = .ok (.iconst 0, 1) := by decide +kernel
theorem dX9_bitmapsFor_1 : decode cX9_bitmapsFor 1 = .ok (.istore_n 2, 1) := by decide +kernel
theorem dX9_bitmapsFor_2 : decode cX9_bitmapsFor 2 = .ok (.iconst 0, 1) := by decide +kernel
theorem dX9_bitmapsFor_3 : decode cX9_bitmapsFor 3 = .ok (.istore_n 3, 1) := by decide +kernel
theorem dX9_bitmapsFor_4 : decode cX9_bitmapsFor 4 = .ok (.iload_n 3, 1) := by decide +kernel
theorem dX9_bitmapsFor_5 : decode cX9_bitmapsFor 5 = .ok (.aload_n 0, 1) := by decide +kernel
theorem dX9_bitmapsFor_6 : decode cX9_bitmapsFor 6 = .ok (.getfield 45, 3) := by decide +kernel
theorem dX9_bitmapsFor_9 : decode cX9_bitmapsFor 9 = .ok (.if_icmp .ge 32, 3) := by decide +kernel
theorem dX9_bitmapsFor_12 : decode cX9_bitmapsFor 12 = .ok (.iload_n 3, 1) := by decide +kernel
theorem dX9_bitmapsFor_13 : decode cX9_bitmapsFor 13 = .ok (.bipush 16, 2) := by decide +kernel
theorem dX9_bitmapsFor_15 : decode cX9_bitmapsFor 15 = .ok (.if_icmp .ge 26, 3) := by decide +kernel
theorem dX9_bitmapsFor_18 : decode cX9_bitmapsFor 18 = .ok (.aload_n 1, 1) := by decide +kernel
theorem dX9_bitmapsFor_19 : decode cX9_bitmapsFor 19 = .ok (.iconst 0, 1) := by decide +kernel
theorem dX9_bitmapsFor_20 : decode cX9_bitmapsFor 20 = .ok (.aload_n 0, 1) := by decide +kernel
theorem dX9_bitmapsFor_21 : decode cX9_bitmapsFor 21 = .ok (.getfield 9, 3) := by decide +kernel
theorem dX9_bitmapsFor_24 : decode cX9_bitmapsFor 24 = .ok (.iload_n 3, 1) := by decide +kernel
theorem dX9_bitmapsFor_25 : decode cX9_bitmapsFor 25 = .ok (.iaload, 1) := by decide +kernel
theorem dX9_bitmapsFor_26 : decode cX9_bitmapsFor 26 = .ok (.invokevirtual 87, 3) := by decide +kernel
theorem dX9_bitmapsFor_29 : decode cX9_bitmapsFor 29 = .ok (.ifCond .eq 6, 3) := by decide +kernel
theorem dX9_bitmapsFor_32 : decode cX9_bitmapsFor 32 = .ok (.iinc 2 1, 3) := by decide +kernel
theorem dX9_bitmapsFor_35 : decode cX9_bitmapsFor 35 = .ok (.iinc 3 1, 3) := by decide +kernel
theorem dX9_bitmapsFor_38 : decode cX9_bitmapsFor 38 = .ok (.goto (-34), 3) := by decide +kernel
theorem dX9_bitmapsFor_41 : decode cX9_bitmapsFor 41 = .ok (.iload_n 2, 1) := by decide +kernel
theorem dX9_bitmapsFor_42 : decode cX9_bitmapsFor 42 = .ok (.ireturn, 1) := by decide +kernel
theorem dX10_init_0 : decode cX10_init 0 = .ok (.aload_n 0, 1) := by decide +kernel
theorem dX10_init_1 : decode cX10_init 1 = .ok (.invokespecial 1, 3) := by decide +kernel
theorem dX10_init_4 : decode cX10_init 4 = .ok (.aload_n 0, 1) := by decide +kernel
theorem dX10_init_5 : decode cX10_init 5 = .ok (.new 7, 3) := by decide +kernel
theorem dX10_init_8 : decode cX10_init 8 = .ok (.dup, 1) := by decide +kernel
theorem dX10_init_9 : decode cX10_init 9 = .ok (.invokespecial 9, 3) := by decide +kernel
theorem dX10_init_12 : decode cX10_init 12 = .ok (.putfield 10, 3) := by decide +kernel
theorem dX10_init_15 : decode cX10_init 15 = .ok (.aload_n 0, 1) := by decide +kernel
theorem dX10_init_16 : decode cX10_init 16 = .ok (.new 16, 3) := by decide +kernel
theorem dX10_init_19 : decode cX10_init 19 = .ok (.dup, 1) := by decide +kernel
theorem dX10_init_20 : decode cX10_init 20 = .ok (.invokespecial 18, 3) := by decide +kernel
theorem dX10_init_23 : decode cX10_init 23 = .ok (.putfield 19, 3) := by decide +kernel
theorem dX10_init_26 : decode cX10_init 26 = .ok (.aload_n 0, 1) := by decide +kernel
theorem dX10_init_27 : decode cX10_init 27 = .ok (.new 23, 3) := by decide +kernel
theorem dX10_init_30 : decode cX10_init 30 = .ok (.dup, 1) := by decide +kernel
theorem dX10_init_31 : decode cX10_init 31 = .ok (.invokespecial 25, 3) := by decide +kernel
theorem dX10_init_34 : decode cX10_init 34 = .ok (.putfield 26, 3) := by decide +kernel
theorem dX10_init_37 : decode cX10_init 37 = .ok (.aload_n 0, 1) := by decide +kernel
theorem dX10_init_38 : decode cX10_init 38 = .ok (.new 30, 3) := by decide +kernel
theorem dX10_init_41 : decode cX10_init 41 = .ok (.dup, 1) := by decide +kernel
theorem dX10_init_42 : decode cX10_init 42 = .ok (.invokespecial 32, 3) := by decide +kernel
theorem dX10_init_45 : decode cX10_init 45 = .ok (.putfield 33, 3) := by decide +kernel
theorem dX10_init_48 : decode cX10_init 48 = .ok (.return_, 1) := by decide +kernel
theorem dX10_addColumn_0 : decode cX10_addColumn 0 = .ok (.aload_n 0, 1) := by decide +kernel
theorem dX10_addColumn_1 : decode cX10_addColumn 1 = .ok (.getfield 10, 3) := by decide +kernel
theorem dX10_addColumn_4 : decode cX10_addColumn 4 = .ok (.getfield 37, 3) := by decide +kernel
theorem dX10_addColumn_7 : decode cX10_addColumn 7 = .ok (.invokevirtual 41, 3) := by decide +kernel
theorem dX10_addColumn_10 : decode cX10_addColumn 10 = .ok (.bipush 8, 2) := by decide +kernel
theorem dX10_addColumn_12 : decode cX10_addColumn 12 = .ok (.if_icmp .lt 13, 3) := by decide +kernel
theorem dX10_addColumn_15 : decode cX10_addColumn 15 = .ok (.new 47, 3) := by decide +kernel
theorem dX10_addColumn_18 : decode cX10_addColumn 18 = .ok (.dup, 1) := by decide +kernel
theorem dX10_addColumn_19 : decode cX10_addColumn 19 = .ok (.ldc 49, 2) := by decide +kernel
theorem dX10_addColumn_21 : decode cX10_addColumn 21 = .ok (.invokespecial 51, 3) := by decide +kernel
theorem dX10_addColumn_24 : decode cX10_addColumn 24 = .ok (.athrow, 1) := by decide +kernel
theorem dX10_addColumn_25 : decode cX10_addColumn 25 = .ok (.aload_n 0, 1) := by decide +kernel
theorem dX10_addColumn_26 : decode cX10_addColumn 26 = .ok (.getfield 10, 3) := by decide +kernel
theorem dX10_addColumn_29 : decode cX10_addColumn 29 = .ok (.getfield 54, 3) := by decide +kernel
theorem dX10_addColumn_32 : decode cX10_addColumn 32 = .ok (.ifCond .le 13, 3) := by decide +kernel
theorem dX10_addColumn_35 : decode cX10_addColumn 35 = .ok (.new 47, 3) := by decide +kernel
theorem dX10_addColumn_38 : decode cX10_addColumn 38 = .ok (.dup, 1) := by decide +kernel
theorem dX10_addColumn_39 : decode cX10_addColumn 39 = .ok (.ldc 58, 2) := by decide +kernel
theorem dX10_addColumn_41 : decode cX10_addColumn 41 = .ok (.invokespecial 51, 3) := by decide +kernel
theorem dX10_addColumn_44 : decode cX10_addColumn 44 = .ok (.athrow, 1) := by decide +kernel
theorem dX10_addColumn_45 : decode cX10_addColumn 45 = .ok (.aload_n 0, 1) := by decide +kernel
theorem dX10_addColumn_46 : decode cX10_addColumn 46 = .ok (.getfield 10, 3) := by decide +kernel
theorem dX10_addColumn_49 : decode cX10_addColumn 49 = .ok (.getfield 37, 3) := by decide +kernel
theorem dX10_addColumn_52 : decode cX10_addColumn 52 = .ok (.new 60, 3) := by decide +kernel
theorem dX10_addColumn_55 : decode cX10_addColumn 55 = .ok (.dup, 1) := by decide +kernel
theorem dX10_addColumn_56 : decode cX10_addColumn 56 = .ok (.invokespecial 62, 3) := by decide +kernel
theorem dX10_addColumn_59 : decode cX10_addColumn 59 = .ok (.invokevirtual 63, 3) := by decide +kernel
theorem dX10_addColumn_62 : decode cX10_addColumn 62 = .ok (.pop, 1) := by decide +kernel
theorem dX10_addColumn_63 : decode cX10_addColumn 63 = .ok (.aload_n 0, 1) := by decide +kernel
theorem dX10_addColumn_64 : decode cX10_addColumn 64 = .ok (.getfield 10, 3) := by decide +kernel
theorem dX10_addColumn_67 : decode cX10_addColumn 67 = .ok (.getfield 37, 3) := by decide +kernel
theorem dX10_addColumn_70 : decode cX10_addColumn 70 = .ok (.invokevirtual 41, 3) := by decide +kernel
theorem dX10_addColumn_73 : decode cX10_addColumn 73 = .ok (.iconst 1, 1) := by decide +kernel
theorem dX10_addColumn_74 : decode cX10_addColumn 74 = .ok (.isub, 1) := by decide +kernel
theorem dX10_addColumn_75 : decode cX10_addColumn 75 = .ok (.ireturn, 1) := by decide +kernel
theorem dX10_give_0 : decode cX10_give 0 = .ok (.aload_n 0, 1) := by decide +kernel
theorem dX10_give_1 : decode cX10_give 1 = .ok (.iload_n 1, 1) := by decide +kernel
theorem dX10_give_2 : decode cX10_give 2 = .ok (.invokevirtual 67, 3) := by decide +kernel
theorem dX10_give_5 : decode cX10_give 5 = .ok (.aload_n 0, 1) := by decide +kernel
theorem dX10_give_6 : decode cX10_give 6 = .ok (.getfield 10, 3) := by decide +kernel
theorem dX10_give_9 : decode cX10_give 9 = .ok (.getfield 37, 3) := by decide +kernel
theorem dX10_give_12 : decode cX10_give 12 = .ok (.iload_n 1, 1) := by decide +kernel
theorem dX10_give_13 : decode cX10_give 13 = .ok (.invokevirtual 71, 3) := by decide +kernel
theorem dX10_give_16 : decode cX10_give 16 = .ok (.checkcast 60, 3) := by decide +kernel
theorem dX10_give_19 : decode cX10_give 19 = .ok (.iload_n 2, 1) := by decide +kernel
theorem dX10_give_20 : decode cX10_give 20 = .ok (.invokevirtual 75, 3) := by decide +kernel
theorem dX10_give_23 : decode cX10_give 23 = .ok (.aload_n 0, 1) := by decide +kernel
theorem dX10_give_24 : decode cX10_give 24 = .ok (.getfield 10, 3) := by decide +kernel
theorem dX10_give_27 : decode cX10_give 27 = .ok (.invokevirtual 78, 3) := by decide +kernel
theorem dX10_give_30 : decode cX10_give 30 = .ok (.ireturn, 1) := by decide +kernel
theorem dX10_add_0 : decode cX10_add 0 = .ok (.aload_n 0, 1) := by decide +kernel
theorem dX10_add_1 : decode cX10_add 1 = .ok (.getfield 10, 3) := by decide +kernel
theorem dX10_add_4 : decode cX10_add 4 = .ok (.getfield 37, 3) := by decide +kernel
theorem dX10_add_7 : decode cX10_add 7 = .ok (.invokevirtual 81, 3) := by decide +kernel
theorem dX10_add_10 : decode cX10_add 10 = .ok (.ifCond .eq 13, 3) := by decide +kernel
theorem dX10_add_13 : decode cX10_add 13 = .ok (.new 47, 3) := by decide +kernel
theorem dX10_add_16 : decode cX10_add 16 = .ok (.dup, 1) := by decide +kernel
theorem dX10_add_17 : decode cX10_add 17 = .ok (.ldc 85, 2) := by decide +kernel
theorem dX10_add_19 : decode cX10_add 19 = .ok (.invokespecial 51, 3) := by decide +kernel
theorem dX10_add_22 : decode cX10_add 22 = .ok (.athrow, 1) := by decide +kernel
theorem dX10_add_23 : decode cX10_add 23 = .ok (.aload_n 0, 1) := by decide +kernel
theorem dX10_add_24 : decode cX10_add 24 = .ok (.invokevirtual 87, 3) := by decide +kernel
theorem dX10_add_27 : decode cX10_add 27 = .ok (.aload_n 0, 1) := by decide +kernel
theorem dX10_add_28 : decode cX10_add 28 = .ok (.getfield 10, 3) := by decide +kernel
theorem dX10_add_31 : decode cX10_add 31 = .ok (.invokevirtual 90, 3) := by decide +kernel
theorem dX10_add_34 : decode cX10_add 34 = .ok (.istore_n 1, 1) := by decide +kernel
theorem dX10_add_35 : decode cX10_add 35 = .ok (.aload_n 0, 1) := by decide +kernel
theorem dX10_add_36 : decode cX10_add 36 = .ok (.getfield 10, 3) := by decide +kernel
theorem dX10_add_39 : decode cX10_add 39 = .ok (.invokevirtual 93, 3) := by decide +kernel
theorem dX10_add_42 : decode cX10_add 42 = .ok (.iload_n 1, 1) := by decide +kernel
theorem dX10_add_43 : decode cX10_add 43 = .ok (.ireturn, 1) := by decide +kernel
theorem dX10_delete_0 : decode cX10_delete 0 = .ok (.aload_n 0, 1) := by decide +kernel
theorem dX10_delete_1 : decode cX10_delete 1 = .ok (.iload_n 1, 1) := by decide +kernel
theorem dX10_delete_2 : decode cX10_delete 2 = .ok (.invokevirtual 96, 3) := by decide +kernel
theorem dX10_delete_5 : decode cX10_delete 5 = .ok (.aload_n 0, 1) := by decide +kernel
theorem dX10_delete_6 : decode cX10_delete 6 = .ok (.getfield 10, 3) := by decide +kernel
theorem dX10_delete_9 : decode cX10_delete 9 = .ok (.iload_n 1, 1) := by decide +kernel
theorem dX10_delete_10 : decode cX10_delete 10 = .ok (.invokevirtual 99, 3) := by decide +kernel
theorem dX10_delete_13 : decode cX10_delete 13 = .ok (.ireturn, 1) := by decide +kernel
theorem dX10_change_0 : decode cX10_change 0 = .ok (.aload_n 0, 1) := by decide +kernel
theorem dX10_change_1 : decode cX10_change 1 = .ok (.iload_n 1, 1) := by decide +kernel
theorem dX10_change_2 : decode cX10_change 2 = .ok (.invokevirtual 96, 3) := by decide +kernel
theorem dX10_change_5 : decode cX10_change 5 = .ok (.aload_n 0, 1) := by decide +kernel
theorem dX10_change_6 : decode cX10_change 6 = .ok (.iload_n 2, 1) := by decide +kernel
theorem dX10_change_7 : decode cX10_change 7 = .ok (.invokevirtual 67, 3) := by decide +kernel
theorem dX10_change_10 : decode cX10_change 10 = .ok (.aload_n 0, 1) := by decide +kernel
theorem dX10_change_11 : decode cX10_change 11 = .ok (.getfield 10, 3) := by decide +kernel
theorem dX10_change_14 : decode cX10_change 14 = .ok (.getfield 103, 3) := by decide +kernel
theorem dX10_change_17 : decode cX10_change 17 = .ok (.iload_n 1, 1) := by decide +kernel
theorem dX10_change_18 : decode cX10_change 18 = .ok (.baload, 1) := by decide +kernel
theorem dX10_change_19 : decode cX10_change 19 = .ok (.ifCond .ne 13, 3) := by decide +kernel
theorem dX10_change_22 : decode cX10_change 22 = .ok (.new 47, 3) := by decide +kernel
theorem dX10_change_25 : decode cX10_change 25 = .ok (.dup, 1) := by decide +kernel
theorem dX10_change_26 : decode cX10_change 26 = .ok (.ldc 107, 2) := by decide +kernel
theorem dX10_change_28 : decode cX10_change 28 = .ok (.invokespecial 51, 3) := by decide +kernel
theorem dX10_change_31 : decode cX10_change 31 = .ok (.athrow, 1) := by decide +kernel
theorem dX10_change_32 : decode cX10_change 32 = .ok (.aload_n 0, 1) := by decide +kernel
theorem dX10_change_33 : decode cX10_change 33 = .ok (.invokevirtual 87, 3) := by decide +kernel
theorem dX10_change_36 : decode cX10_change 36 = .ok (.aload_n 0, 1) := by decide +kernel
theorem dX10_change_37 : decode cX10_change 37 = .ok (.getfield 10, 3) := by decide +kernel
theorem dX10_change_40 : decode cX10_change 40 = .ok (.iload_n 1, 1) := by decide +kernel
theorem dX10_change_41 : decode cX10_change 41 = .ok (.iload_n 2, 1) := by decide +kernel
theorem dX10_change_42 : decode cX10_change 42 = .ok (.iload_n 3, 1) := by decide +kernel
theorem dX10_change_43 : decode cX10_change 43 = .ok (.invokevirtual 109, 3) := by decide +kernel
theorem dX10_change_46 : decode cX10_change 46 = .ok (.istore 4, 2) := by decide +kernel
theorem dX10_change_48 : decode cX10_change 48 = .ok (.aload_n 0, 1) := by decide +kernel
theorem dX10_change_49 : decode cX10_change 49 = .ok (.getfield 10, 3) := by decide +kernel
theorem dX10_change_52 : decode cX10_change 52 = .ok (.invokevirtual 93, 3) := by decide +kernel
theorem dX10_change_55 : decode cX10_change 55 = .ok (.iload 4, 2) := by decide +kernel
theorem dX10_change_57 : decode cX10_change 57 = .ok (.ireturn, 1) := by decide +kernel
theorem dX10_setSize_0 : decode cX10_setSize 0 = .ok (.iload_n 1, 1) := by decide +kernel
theorem dX10_setSize_1 : decode cX10_setSize 1 = .ok (.iconst 4, 1) := by decide +kernel
theorem dX10_setSize_2 : decode cX10_setSize 2 = .ok (.if_icmp .lt 9, 3) := by decide +kernel
theorem dX10_setSize_5 : decode cX10_setSize 5 = .ok (.iload_n 1, 1) := by decide +kernel
theorem dX10_setSize_6 : decode cX10_setSize 6 = .ok (.bipush 64, 2) := by decide +kernel
theorem dX10_setSize_8 : decode cX10_setSize 8 = .ok (.if_icmp .le 13, 3) := by decide +kernel
theorem dX10_setSize_11 : decode cX10_setSize 11 = .ok (.new 113, 3) := by decide +kernel
theorem dX10_setSize_14 : decode cX10_setSize 14 = .ok (.dup, 1) := by decide +kernel
theorem dX10_setSize_15 : decode cX10_setSize 15 = .ok (.ldc 115, 2) := by decide +kernel
theorem dX10_setSize_17 : decode cX10_setSize 17 = .ok (.invokespecial 117, 3) := by decide +kernel
theorem dX10_setSize_20 : decode cX10_setSize 20 = .ok (.athrow, 1) := by decide +kernel
theorem dX10_setSize_21 : decode cX10_setSize 21 = .ok (.aload_n 0, 1) := by decide +kernel
theorem dX10_setSize_22 : decode cX10_setSize 22 = .ok (.getfield 10, 3) := by decide +kernel
theorem dX10_setSize_25 : decode cX10_setSize 25 = .ok (.getfield 118, 3) := by decide +kernel
theorem dX10_setSize_28 : decode cX10_setSize 28 = .ok (.istore_n 2, 1) := by decide +kernel
theorem dX10_setSize_29 : decode cX10_setSize 29 = .ok (.aload_n 0, 1) := by decide +kernel
theorem dX10_setSize_30 : decode cX10_setSize 30 = .ok (.getfield 10, 3) := by decide +kernel
theorem dX10_setSize_33 : decode cX10_setSize 33 = .ok (.iload_n 1, 1) := by decide +kernel
theorem dX10_setSize_34 : decode cX10_setSize 34 = .ok (.putfield 118, 3) := by decide +kernel
theorem dX10_setSize_37 : decode cX10_setSize 37 = .ok (.aload_n 0, 1) := by decide +kernel
theorem dX10_setSize_38 : decode cX10_setSize 38 = .ok (.getfield 10, 3) := by decide +kernel
theorem dX10_setSize_41 : decode cX10_setSize 41 = .ok (.invokevirtual 93, 3) := by decide +kernel
theorem dX10_setSize_44 : decode cX10_setSize 44 = .ok (.iload_n 2, 1) := by decide +kernel
theorem dX10_setSize_45 : decode cX10_setSize 45 = .ok (.ireturn, 1) := by decide +kernel
theorem dX10_seal_0 : decode cX10_seal 0 = .ok (.aload_n 0, 1) := by decide +kernel
theorem dX10_seal_1 : decode cX10_seal 1 = .ok (.getfield 10, 3) := by decide +kernel
theorem dX10_seal_4 : decode cX10_seal 4 = .ok (.getfield 120, 3) := by decide +kernel
theorem dX10_seal_7 : decode cX10_seal 7 = .ok (.getfield 124, 3) := by decide +kernel
theorem dX10_seal_10 : decode cX10_seal 10 = .ok (.ifCond .ne 13, 3) := by decide +kernel
theorem dX10_seal_13 : decode cX10_seal 13 = .ok (.new 47, 3) := by decide +kernel
theorem dX10_seal_16 : decode cX10_seal 16 = .ok (.dup, 1) := by decide +kernel
theorem dX10_seal_17 : decode cX10_seal 17 = .ok (.ldc 129, 2) := by decide +kernel
theorem dX10_seal_19 : decode cX10_seal 19 = .ok (.invokespecial 51, 3) := by decide +kernel
theorem dX10_seal_22 : decode cX10_seal 22 = .ok (.athrow, 1) := by decide +kernel
theorem dX10_seal_23 : decode cX10_seal 23 = .ok (.aload_n 0, 1) := by decide +kernel
theorem dX10_seal_24 : decode cX10_seal 24 = .ok (.getfield 10, 3) := by decide +kernel
theorem dX10_seal_27 : decode cX10_seal 27 = .ok (.invokevirtual 131, 3) := by decide +kernel
theorem dX10_seal_30 : decode cX10_seal 30 = .ok (.ireturn, 1) := by decide +kernel
theorem dX10_cluster_0 : decode cX10_cluster 0 = .ok (.aload_n 0, 1) := by decide +kernel
theorem dX10_cluster_1 : decode cX10_cluster 1 = .ok (.iload_n 1, 1) := by decide +kernel
theorem dX10_cluster_2 : decode cX10_cluster 2 = .ok (.invokevirtual 134, 3) := by decide +kernel
theorem dX10_cluster_5 : decode cX10_cluster 5 = .ok (.aload_n 0, 1) := by decide +kernel
theorem dX10_cluster_6 : decode cX10_cluster 6 = .ok (.iload_n 2, 1) := by decide +kernel
theorem dX10_cluster_7 : decode cX10_cluster 7 = .ok (.invokevirtual 67, 3) := by decide +kernel
theorem dX10_cluster_10 : decode cX10_cluster 10 = .ok (.aload_n 0, 1) := by decide +kernel
theorem dX10_cluster_11 : decode cX10_cluster 11 = .ok (.getfield 10, 3) := by decide +kernel
theorem dX10_cluster_14 : decode cX10_cluster 14 = .ok (.iload_n 1, 1) := by decide +kernel
theorem dX10_cluster_15 : decode cX10_cluster 15 = .ok (.iload_n 2, 1) := by decide +kernel
theorem dX10_cluster_16 : decode cX10_cluster 16 = .ok (.invokevirtual 137, 3) := by decide +kernel
theorem dX10_cluster_19 : decode cX10_cluster 19 = .ok (.ireturn, 1) := by decide +kernel
theorem dX10_merge_0 : decode cX10_merge 0 = .ok (.aload_n 0, 1) := by decide +kernel
theorem dX10_merge_1 : decode cX10_merge 1 = .ok (.iload_n 1, 1) := by decide +kernel
theorem dX10_merge_2 : decode cX10_merge 2 = .ok (.invokevirtual 134, 3) := by decide +kernel
theorem dX10_merge_5 : decode cX10_merge 5 = .ok (.iload_n 1, 1) := by decide +kernel
theorem dX10_merge_6 : decode cX10_merge 6 = .ok (.aload_n 0, 1) := by decide +kernel
theorem dX10_merge_7 : decode cX10_merge 7 = .ok (.getfield 10, 3) := by decide +kernel
theorem dX10_merge_10 : decode cX10_merge 10 = .ok (.getfield 141, 3) := by decide +kernel
theorem dX10_merge_13 : decode cX10_merge 13 = .ok (.invokevirtual 41, 3) := by decide +kernel
theorem dX10_merge_16 : decode cX10_merge 16 = .ok (.iconst 1, 1) := by decide +kernel
theorem dX10_merge_17 : decode cX10_merge 17 = .ok (.isub, 1) := by decide +kernel
theorem dX10_merge_18 : decode cX10_merge 18 = .ok (.if_icmp .lt 13, 3) := by decide +kernel
theorem dX10_merge_21 : decode cX10_merge 21 = .ok (.new 144, 3) := by decide +kernel
theorem dX10_merge_24 : decode cX10_merge 24 = .ok (.dup, 1) := by decide +kernel
theorem dX10_merge_25 : decode cX10_merge 25 = .ok (.ldc 146, 2) := by decide +kernel
theorem dX10_merge_27 : decode cX10_merge 27 = .ok (.invokespecial 148, 3) := by decide +kernel
theorem dX10_merge_30 : decode cX10_merge 30 = .ok (.athrow, 1) := by decide +kernel
theorem dX10_merge_31 : decode cX10_merge 31 = .ok (.aload_n 0, 1) := by decide +kernel
theorem dX10_merge_32 : decode cX10_merge 32 = .ok (.getfield 10, 3) := by decide +kernel
theorem dX10_merge_35 : decode cX10_merge 35 = .ok (.iload_n 1, 1) := by decide +kernel
theorem dX10_merge_36 : decode cX10_merge 36 = .ok (.invokevirtual 149, 3) := by decide +kernel
theorem dX10_merge_39 : decode cX10_merge 39 = .ok (.aload_n 0, 1) := by decide +kernel
theorem dX10_merge_40 : decode cX10_merge 40 = .ok (.getfield 10, 3) := by decide +kernel
theorem dX10_merge_43 : decode cX10_merge 43 = .ok (.iload_n 1, 1) := by decide +kernel
theorem dX10_merge_44 : decode cX10_merge 44 = .ok (.iconst 1, 1) := by decide +kernel
theorem dX10_merge_45 : decode cX10_merge 45 = .ok (.iadd, 1) := by decide +kernel
theorem dX10_merge_46 : decode cX10_merge 46 = .ok (.invokevirtual 149, 3) := by decide +kernel
theorem dX10_merge_49 : decode cX10_merge 49 = .ok (.iadd, 1) := by decide +kernel
theorem dX10_merge_50 : decode cX10_merge 50 = .ok (.bipush 64, 2) := by decide +kernel
theorem dX10_merge_52 : decode cX10_merge 52 = .ok (.if_icmp .le 13, 3) := by decide +kernel
theorem dX10_merge_55 : decode cX10_merge 55 = .ok (.new 47, 3) := by decide +kernel
theorem dX10_merge_58 : decode cX10_merge 58 = .ok (.dup, 1) := by decide +kernel
theorem dX10_merge_59 : decode cX10_merge 59 = .ok (.ldc 153, 2) := by decide +kernel
theorem dX10_merge_61 : decode cX10_merge 61 = .ok (.invokespecial 51, 3) := by decide +kernel
theorem dX10_merge_64 : decode cX10_merge 64 = .ok (.athrow, 1) := by decide +kernel
theorem dX10_merge_65 : decode cX10_merge 65 = .ok (.aload_n 0, 1) := by decide +kernel
theorem dX10_merge_66 : decode cX10_merge 66 = .ok (.getfield 10, 3) := by decide +kernel
theorem dX10_merge_69 : decode cX10_merge 69 = .ok (.iload_n 1, 1) := by decide +kernel
theorem dX10_merge_70 : decode cX10_merge 70 = .ok (.invokevirtual 155, 3) := by decide +kernel
theorem dX10_merge_73 : decode cX10_merge 73 = .ok (.ireturn, 1) := by decide +kernel
theorem dX10_index_0 : decode cX10_index 0 = .ok (.aload_n 0, 1) := by decide +kernel
theorem dX10_index_1 : decode cX10_index 1 = .ok (.iload_n 1, 1) := by decide +kernel
theorem dX10_index_2 : decode cX10_index 2 = .ok (.invokevirtual 67, 3) := by decide +kernel
theorem dX10_index_5 : decode cX10_index 5 = .ok (.aload_n 0, 1) := by decide +kernel
theorem dX10_index_6 : decode cX10_index 6 = .ok (.getfield 10, 3) := by decide +kernel
theorem dX10_index_9 : decode cX10_index 9 = .ok (.getfield 37, 3) := by decide +kernel
theorem dX10_index_12 : decode cX10_index 12 = .ok (.iload_n 1, 1) := by decide +kernel
theorem dX10_index_13 : decode cX10_index 13 = .ok (.invokevirtual 71, 3) := by decide +kernel
theorem dX10_index_16 : decode cX10_index 16 = .ok (.checkcast 60, 3) := by decide +kernel
theorem dX10_index_19 : decode cX10_index 19 = .ok (.astore_n 2, 1) := by decide +kernel
theorem dX10_index_20 : decode cX10_index 20 = .ok (.aload_n 2, 1) := by decide +kernel
theorem dX10_index_21 : decode cX10_index 21 = .ok (.aload_n 2, 1) := by decide +kernel
theorem dX10_index_22 : decode cX10_index 22 = .ok (.getfield 158, 3) := by decide +kernel
theorem dX10_index_25 : decode cX10_index 25 = .ok (.ifCond .ne 7, 3) := by decide +kernel
theorem dX10_index_28 : decode cX10_index 28 = .ok (.iconst 1, 1) := by decide +kernel
theorem dX10_index_29 : decode cX10_index 29 = .ok (.goto 4, 3) := by decide +kernel
theorem dX10_index_32 : decode cX10_index 32 = .ok (.iconst 0, 1) := by decide +kernel
theorem dX10_index_33 : decode cX10_index 33 = .ok (.putfield 158, 3) := by decide +kernel
theorem dX10_index_36 : decode cX10_index 36 = .ok (.aload_n 2, 1) := by decide +kernel
theorem dX10_index_37 : decode cX10_index 37 = .ok (.getfield 158, 3) := by decide +kernel
theorem dX10_index_40 : decode cX10_index 40 = .ok (.ireturn, 1) := by decide +kernel
theorem dX10_rows_0 : decode cX10_rows 0 = .ok (.aload_n 0, 1) := by decide +kernel
theorem dX10_rows_1 : decode cX10_rows 1 = .ok (.getfield 10, 3) := by decide +kernel
theorem dX10_rows_4 : decode cX10_rows 4 = .ok (.getfield 54, 3) := by decide +kernel
theorem dX10_rows_7 : decode cX10_rows 7 = .ok (.ireturn, 1) := by decide +kernel
theorem dX10_alive_0 : decode cX10_alive 0 = .ok (.aload_n 0, 1) := by decide +kernel
theorem dX10_alive_1 : decode cX10_alive 1 = .ok (.getfield 10, 3) := by decide +kernel
theorem dX10_alive_4 : decode cX10_alive 4 = .ok (.getfield 162, 3) := by decide +kernel
theorem dX10_alive_7 : decode cX10_alive 7 = .ok (.ireturn, 1) := by decide +kernel
theorem dX10_frames_0 : decode cX10_frames 0 = .ok (.aload_n 0, 1) := by decide +kernel
theorem dX10_frames_1 : decode cX10_frames 1 = .ok (.getfield 10, 3) := by decide +kernel
theorem dX10_frames_4 : decode cX10_frames 4 = .ok (.getfield 141, 3) := by decide +kernel
theorem dX10_frames_7 : decode cX10_frames 7 = .ok (.invokevirtual 41, 3) := by decide +kernel
theorem dX10_frames_10 : decode cX10_frames 10 = .ok (.ireturn, 1) := by decide +kernel
theorem dX10_isAlive_0 : decode cX10_isAlive 0 = .ok (.aload_n 0, 1) := by decide +kernel
theorem dX10_isAlive_1 : decode cX10_isAlive 1 = .ok (.iload_n 1, 1) := by decide +kernel
theorem dX10_isAlive_2 : decode cX10_isAlive 2 = .ok (.invokevirtual 96, 3) := by decide +kernel
theorem dX10_isAlive_5 : decode cX10_isAlive 5 = .ok (.aload_n 0, 1) := by decide +kernel
theorem dX10_isAlive_6 : decode cX10_isAlive 6 = .ok (.getfield 10, 3) := by decide +kernel
theorem dX10_isAlive_9 : decode cX10_isAlive 9 = .ok (.getfield 103, 3) := by decide +kernel
theorem dX10_isAlive_12 : decode cX10_isAlive 12 = .ok (.iload_n 1, 1) := by decide +kernel
theorem dX10_isAlive_13 : decode cX10_isAlive 13 = .ok (.baload, 1) := by decide +kernel
theorem dX10_isAlive_14 : decode cX10_isAlive 14 = .ok (.ireturn, 1) := by decide +kernel
theorem dX10_isNull_0 : decode cX10_isNull 0 = .ok (.aload_n 0, 1) := by decide +kernel
theorem dX10_isNull_1 : decode cX10_isNull 1 = .ok (.iload_n 1, 1) := by decide +kernel
theorem dX10_isNull_2 : decode cX10_isNull 2 = .ok (.invokevirtual 96, 3) := by decide +kernel
theorem dX10_isNull_5 : decode cX10_isNull 5 = .ok (.aload_n 0, 1) := by decide +kernel
theorem dX10_isNull_6 : decode cX10_isNull 6 = .ok (.iload_n 2, 1) := by decide +kernel
theorem dX10_isNull_7 : decode cX10_isNull 7 = .ok (.invokevirtual 67, 3) := by decide +kernel
theorem dX10_isNull_10 : decode cX10_isNull 10 = .ok (.aload_n 0, 1) := by decide +kernel
theorem dX10_isNull_11 : decode cX10_isNull 11 = .ok (.getfield 10, 3) := by decide +kernel
theorem dX10_isNull_14 : decode cX10_isNull 14 = .ok (.getfield 37, 3) := by decide +kernel
theorem dX10_isNull_17 : decode cX10_isNull 17 = .ok (.iload_n 2, 1) := by decide +kernel
theorem dX10_isNull_18 : decode cX10_isNull 18 = .ok (.invokevirtual 71, 3) := by decide +kernel
theorem dX10_isNull_21 : decode cX10_isNull 21 = .ok (.checkcast 60, 3) := by decide +kernel
theorem dX10_isNull_24 : decode cX10_isNull 24 = .ok (.getfield 165, 3) := by decide +kernel
theorem dX10_isNull_27 : decode cX10_isNull 27 = .ok (.iload_n 1, 1) := by decide +kernel
theorem dX10_isNull_28 : decode cX10_isNull 28 = .ok (.baload, 1) := by decide +kernel
theorem dX10_isNull_29 : decode cX10_isNull 29 = .ok (.ireturn, 1) := by decide +kernel
theorem dX10_valueOf_0 : decode cX10_valueOf 0 = .ok (.aload_n 0, 1) := by decide +kernel
theorem dX10_valueOf_1 : decode cX10_valueOf 1 = .ok (.iload_n 1, 1) := by decide +kernel
theorem dX10_valueOf_2 : decode cX10_valueOf 2 = .ok (.invokevirtual 96, 3) := by decide +kernel
theorem dX10_valueOf_5 : decode cX10_valueOf 5 = .ok (.aload_n 0, 1) := by decide +kernel
theorem dX10_valueOf_6 : decode cX10_valueOf 6 = .ok (.iload_n 2, 1) := by decide +kernel
theorem dX10_valueOf_7 : decode cX10_valueOf 7 = .ok (.invokevirtual 67, 3) := by decide +kernel
theorem dX10_valueOf_10 : decode cX10_valueOf 10 = .ok (.aload_n 0, 1) := by decide +kernel
theorem dX10_valueOf_11 : decode cX10_valueOf 11 = .ok (.getfield 10, 3) := by decide +kernel
theorem dX10_valueOf_14 : decode cX10_valueOf 14 = .ok (.getfield 37, 3) := by decide +kernel
theorem dX10_valueOf_17 : decode cX10_valueOf 17 = .ok (.iload_n 2, 1) := by decide +kernel
theorem dX10_valueOf_18 : decode cX10_valueOf 18 = .ok (.invokevirtual 71, 3) := by decide +kernel
theorem dX10_valueOf_21 : decode cX10_valueOf 21 = .ok (.checkcast 60, 3) := by decide +kernel
theorem dX10_valueOf_24 : decode cX10_valueOf 24 = .ok (.getfield 168, 3) := by decide +kernel
theorem dX10_valueOf_27 : decode cX10_valueOf 27 = .ok (.iload_n 1, 1) := by decide +kernel
theorem dX10_valueOf_28 : decode cX10_valueOf 28 = .ok (.iaload, 1) := by decide +kernel
theorem dX10_valueOf_29 : decode cX10_valueOf 29 = .ok (.ireturn, 1) := by decide +kernel
theorem dX10_frameOf_0 : decode cX10_frameOf 0 = .ok (.aload_n 0, 1) := by decide +kernel
theorem dX10_frameOf_1 : decode cX10_frameOf 1 = .ok (.iload_n 1, 1) := by decide +kernel
theorem dX10_frameOf_2 : decode cX10_frameOf 2 = .ok (.invokevirtual 96, 3) := by decide +kernel
theorem dX10_frameOf_5 : decode cX10_frameOf 5 = .ok (.aload_n 0, 1) := by decide +kernel
theorem dX10_frameOf_6 : decode cX10_frameOf 6 = .ok (.getfield 10, 3) := by decide +kernel
theorem dX10_frameOf_9 : decode cX10_frameOf 9 = .ok (.getfield 172, 3) := by decide +kernel
theorem dX10_frameOf_12 : decode cX10_frameOf 12 = .ok (.iload_n 1, 1) := by decide +kernel
theorem dX10_frameOf_13 : decode cX10_frameOf 13 = .ok (.iaload, 1) := by decide +kernel
theorem dX10_frameOf_14 : decode cX10_frameOf 14 = .ok (.ireturn, 1) := by decide +kernel
theorem dX10_rowsIn_0 : decode cX10_rowsIn 0 = .ok (.aload_n 0, 1) := by decide +kernel
theorem dX10_rowsIn_1 : decode cX10_rowsIn 1 = .ok (.iload_n 1, 1) := by decide +kernel
theorem dX10_rowsIn_2 : decode cX10_rowsIn 2 = .ok (.invokevirtual 134, 3) := by decide +kernel
theorem dX10_rowsIn_5 : decode cX10_rowsIn 5 = .ok (.aload_n 0, 1) := by decide +kernel
theorem dX10_rowsIn_6 : decode cX10_rowsIn 6 = .ok (.getfield 10, 3) := by decide +kernel
theorem dX10_rowsIn_9 : decode cX10_rowsIn 9 = .ok (.getfield 141, 3) := by decide +kernel
theorem dX10_rowsIn_12 : decode cX10_rowsIn 12 = .ok (.iload_n 1, 1) := by decide +kernel
theorem dX10_rowsIn_13 : decode cX10_rowsIn 13 = .ok (.invokevirtual 71, 3) := by decide +kernel
theorem dX10_rowsIn_16 : decode cX10_rowsIn 16 = .ok (.checkcast 125, 3) := by decide +kernel
theorem dX10_rowsIn_19 : decode cX10_rowsIn 19 = .ok (.getfield 124, 3) := by decide +kernel
theorem dX10_rowsIn_22 : decode cX10_rowsIn 22 = .ok (.ireturn, 1) := by decide +kernel
theorem dX10_rowAt_0 : decode cX10_rowAt 0 = .ok (.aload_n 0, 1) := by decide +kernel
theorem dX10_rowAt_1 : decode cX10_rowAt 1 = .ok (.iload_n 1, 1) := by decide +kernel
theorem dX10_rowAt_2 : decode cX10_rowAt 2 = .ok (.invokevirtual 134, 3) := by decide +kernel
theorem dX10_rowAt_5 : decode cX10_rowAt 5 = .ok (.aload_n 0, 1) := by decide +kernel
theorem dX10_rowAt_6 : decode cX10_rowAt 6 = .ok (.getfield 10, 3) := by decide +kernel
theorem dX10_rowAt_9 : decode cX10_rowAt 9 = .ok (.getfield 141, 3) := by decide +kernel
theorem dX10_rowAt_12 : decode cX10_rowAt 12 = .ok (.iload_n 1, 1) := by decide +kernel
theorem dX10_rowAt_13 : decode cX10_rowAt 13 = .ok (.invokevirtual 71, 3) := by decide +kernel
theorem dX10_rowAt_16 : decode cX10_rowAt 16 = .ok (.checkcast 125, 3) := by decide +kernel
theorem dX10_rowAt_19 : decode cX10_rowAt 19 = .ok (.astore_n 3, 1) := by decide +kernel
theorem dX10_rowAt_20 : decode cX10_rowAt 20 = .ok (.iload_n 2, 1) := by decide +kernel
theorem dX10_rowAt_21 : decode cX10_rowAt 21 = .ok (.ifCond .lt 11, 3) := by decide +kernel
theorem dX10_rowAt_24 : decode cX10_rowAt 24 = .ok (.iload_n 2, 1) := by decide +kernel
theorem dX10_rowAt_25 : decode cX10_rowAt 25 = .ok (.aload_n 3, 1) := by decide +kernel
theorem dX10_rowAt_26 : decode cX10_rowAt 26 = .ok (.getfield 124, 3) := by decide +kernel
theorem dX10_rowAt_29 : decode cX10_rowAt 29 = .ok (.if_icmp .lt 13, 3) := by decide +kernel
theorem dX10_rowAt_32 : decode cX10_rowAt 32 = .ok (.new 144, 3) := by decide +kernel
theorem dX10_rowAt_35 : decode cX10_rowAt 35 = .ok (.dup, 1) := by decide +kernel
theorem dX10_rowAt_36 : decode cX10_rowAt 36 = .ok (.ldc 175, 2) := by decide +kernel
theorem dX10_rowAt_38 : decode cX10_rowAt 38 = .ok (.invokespecial 148, 3) := by decide +kernel
theorem dX10_rowAt_41 : decode cX10_rowAt 41 = .ok (.athrow, 1) := by decide +kernel
theorem dX10_rowAt_42 : decode cX10_rowAt 42 = .ok (.aload_n 3, 1) := by decide +kernel
theorem dX10_rowAt_43 : decode cX10_rowAt 43 = .ok (.getfield 177, 3) := by decide +kernel
theorem dX10_rowAt_46 : decode cX10_rowAt 46 = .ok (.iload_n 2, 1) := by decide +kernel
theorem dX10_rowAt_47 : decode cX10_rowAt 47 = .ok (.iaload, 1) := by decide +kernel
theorem dX10_rowAt_48 : decode cX10_rowAt 48 = .ok (.ireturn, 1) := by decide +kernel
theorem dX10_formOf_0 : decode cX10_formOf 0 = .ok (.aload_n 0, 1) := by decide +kernel
theorem dX10_formOf_1 : decode cX10_formOf 1 = .ok (.iload_n 1, 1) := by decide +kernel
theorem dX10_formOf_2 : decode cX10_formOf 2 = .ok (.iload_n 2, 1) := by decide +kernel
theorem dX10_formOf_3 : decode cX10_formOf 3 = .ok (.invokevirtual 180, 3) := by decide +kernel
theorem dX10_formOf_6 : decode cX10_formOf 6 = .ok (.getfield 184, 3) := by decide +kernel
theorem dX10_formOf_9 : decode cX10_formOf 9 = .ok (.ireturn, 1) := by decide +kernel
theorem dX10_bytesAs_0 : decode cX10_bytesAs 0 = .ok (.aload_n 0, 1) := by decide +kernel
theorem dX10_bytesAs_1 : decode cX10_bytesAs 1 = .ok (.iload_n 1, 1) := by decide +kernel
theorem dX10_bytesAs_2 : decode cX10_bytesAs 2 = .ok (.iload_n 2, 1) := by decide +kernel
theorem dX10_bytesAs_3 : decode cX10_bytesAs 3 = .ok (.invokevirtual 180, 3) := by decide +kernel
theorem dX10_bytesAs_6 : decode cX10_bytesAs 6 = .ok (.astore 4, 2) := by decide +kernel
theorem dX10_bytesAs_8 : decode cX10_bytesAs 8 = .ok (.iload_n 3, 1) := by decide +kernel
theorem dX10_bytesAs_9 : decode cX10_bytesAs 9 = .ok (.ifCond .lt 8, 3) := by decide +kernel
theorem dX10_bytesAs_12 : decode cX10_bytesAs 12 = .ok (.iload_n 3, 1) := by decide +kernel
theorem dX10_bytesAs_13 : decode cX10_bytesAs 13 = .ok (.iconst 5, 1) := by decide +kernel
theorem dX10_bytesAs_14 : decode cX10_bytesAs 14 = .ok (.if_icmp .lt 13, 3) := by decide +kernel
theorem dX10_bytesAs_17 : decode cX10_bytesAs 17 = .ok (.new 113, 3) := by decide +kernel
theorem dX10_bytesAs_20 : decode cX10_bytesAs 20 = .ok (.dup, 1) := by decide +kernel
theorem dX10_bytesAs_21 : decode cX10_bytesAs 21 = .ok (.ldc 189, 2) := by decide +kernel
theorem dX10_bytesAs_23 : decode cX10_bytesAs 23 = .ok (.invokespecial 117, 3) := by decide +kernel
theorem dX10_bytesAs_26 : decode cX10_bytesAs 26 = .ok (.athrow, 1) := by decide +kernel
theorem dX10_bytesAs_27 : decode cX10_bytesAs 27 = .ok (.aload 4, 2) := by decide +kernel
theorem dX10_bytesAs_29 : decode cX10_bytesAs 29 = .ok (.iload_n 3, 1) := by decide +kernel
theorem dX10_bytesAs_30 : decode cX10_bytesAs 30 = .ok (.invokevirtual 191, 3) := by decide +kernel
theorem dX10_bytesAs_33 : decode cX10_bytesAs 33 = .ok (.ireturn, 1) := by decide +kernel
theorem dX10_bytes_0 : decode cX10_bytes 0 = .ok (.aload_n 0, 1) := by decide +kernel
theorem dX10_bytes_1 : decode cX10_bytes 1 = .ok (.iload_n 1, 1) := by decide +kernel
theorem dX10_bytes_2 : decode cX10_bytes 2 = .ok (.invokevirtual 134, 3) := by decide +kernel
theorem dX10_bytes_5 : decode cX10_bytes 5 = .ok (.aload_n 0, 1) := by decide +kernel
theorem dX10_bytes_6 : decode cX10_bytes 6 = .ok (.getfield 10, 3) := by decide +kernel
theorem dX10_bytes_9 : decode cX10_bytes 9 = .ok (.getfield 141, 3) := by decide +kernel
theorem dX10_bytes_12 : decode cX10_bytes 12 = .ok (.iload_n 1, 1) := by decide +kernel
theorem dX10_bytes_13 : decode cX10_bytes 13 = .ok (.invokevirtual 71, 3) := by decide +kernel
theorem dX10_bytes_16 : decode cX10_bytes 16 = .ok (.checkcast 125, 3) := by decide +kernel
theorem dX10_bytes_19 : decode cX10_bytes 19 = .ok (.getfield 194, 3) := by decide +kernel
theorem dX10_bytes_22 : decode cX10_bytes 22 = .ok (.ireturn, 1) := by decide +kernel
theorem dX10_bitmapBytes_0 : decode cX10_bitmapBytes 0 = .ok (.aload_n 0, 1) := by decide +kernel
theorem dX10_bitmapBytes_1 : decode cX10_bitmapBytes 1 = .ok (.getfield 10, 3) := by decide +kernel
theorem dX10_bitmapBytes_4 : decode cX10_bitmapBytes 4 = .ok (.invokevirtual 197, 3) := by decide +kernel
theorem dX10_bitmapBytes_7 : decode cX10_bitmapBytes 7 = .ok (.ireturn, 1) := by decide +kernel
theorem dX10_nulls_0 : decode cX10_nulls 0 = .ok (.aload_n 0, 1) := by decide +kernel
theorem dX10_nulls_1 : decode cX10_nulls 1 = .ok (.iload_n 1, 1) := by decide +kernel
theorem dX10_nulls_2 : decode cX10_nulls 2 = .ok (.iload_n 2, 1) := by decide +kernel
theorem dX10_nulls_3 : decode cX10_nulls 3 = .ok (.invokevirtual 180, 3) := by decide +kernel
theorem dX10_nulls_6 : decode cX10_nulls 6 = .ok (.getfield 200, 3) := by decide +kernel
theorem dX10_nulls_9 : decode cX10_nulls 9 = .ok (.ireturn, 1) := by decide +kernel
theorem dX10_distinct_0 : decode cX10_distinct 0 = .ok (.aload_n 0, 1) := by decide +kernel
theorem dX10_distinct_1 : decode cX10_distinct 1 = .ok (.iload_n 1, 1) := by decide +kernel
theorem dX10_distinct_2 : decode cX10_distinct 2 = .ok (.iload_n 2, 1) := by decide +kernel
theorem dX10_distinct_3 : decode cX10_distinct 3 = .ok (.invokevirtual 180, 3) := by decide +kernel
theorem dX10_distinct_6 : decode cX10_distinct 6 = .ok (.getfield 203, 3) := by decide +kernel
theorem dX10_distinct_9 : decode cX10_distinct 9 = .ok (.ireturn, 1) := by decide +kernel
theorem dX10_runs_0 : decode cX10_runs 0 = .ok (.aload_n 0, 1) := by decide +kernel
theorem dX10_runs_1 : decode cX10_runs 1 = .ok (.iload_n 1, 1) := by decide +kernel
theorem dX10_runs_2 : decode cX10_runs 2 = .ok (.iload_n 2, 1) := by decide +kernel
theorem dX10_runs_3 : decode cX10_runs 3 = .ok (.invokevirtual 180, 3) := by decide +kernel
theorem dX10_runs_6 : decode cX10_runs 6 = .ok (.getfield 206, 3) := by decide +kernel
theorem dX10_runs_9 : decode cX10_runs 9 = .ok (.ireturn, 1) := by decide +kernel
theorem dX10_least_0 : decode cX10_least 0 = .ok (.aload_n 0, 1) := by decide +kernel
theorem dX10_least_1 : decode cX10_least 1 = .ok (.iload_n 1, 1) := by decide +kernel
theorem dX10_least_2 : decode cX10_least 2 = .ok (.iload_n 2, 1) := by decide +kernel
theorem dX10_least_3 : decode cX10_least 3 = .ok (.invokevirtual 180, 3) := by decide +kernel
theorem dX10_least_6 : decode cX10_least 6 = .ok (.getfield 209, 3) := by decide +kernel
theorem dX10_least_9 : decode cX10_least 9 = .ok (.ireturn, 1) := by decide +kernel
theorem dX10_greatest_0 : decode cX10_greatest 0 = .ok (.aload_n 0, 1) := by decide +kernel
theorem dX10_greatest_1 : decode cX10_greatest 1 = .ok (.iload_n 1, 1) := by decide +kernel
theorem dX10_greatest_2 : decode cX10_greatest 2 = .ok (.iload_n 2, 1) := by decide +kernel
theorem dX10_greatest_3 : decode cX10_greatest 3 = .ok (.invokevirtual 180, 3) := by decide +kernel
theorem dX10_greatest_6 : decode cX10_greatest 6 = .ok (.getfield 212, 3) := by decide +kernel
theorem dX10_greatest_9 : decode cX10_greatest 9 = .ok (.ireturn, 1) := by decide +kernel
theorem dX10_where_0 : decode cX10_where 0 = .ok (.aload_n 0, 1) := by decide +kernel
theorem dX10_where_1 : decode cX10_where 1 = .ok (.iload_n 1, 1) := by decide +kernel
theorem dX10_where_2 : decode cX10_where 2 = .ok (.invokevirtual 67, 3) := by decide +kernel
theorem dX10_where_5 : decode cX10_where 5 = .ok (.iload_n 2, 1) := by decide +kernel
theorem dX10_where_6 : decode cX10_where 6 = .ok (.ifCond .lt 9, 3) := by decide +kernel
theorem dX10_where_9 : decode cX10_where 9 = .ok (.iload_n 2, 1) := by decide +kernel
theorem dX10_where_10 : decode cX10_where 10 = .ok (.bipush 8, 2) := by decide +kernel
theorem dX10_where_12 : decode cX10_where 12 = .ok (.if_icmp .lt 13, 3) := by decide +kernel
theorem dX10_where_15 : decode cX10_where 15 = .ok (.new 113, 3) := by decide +kernel
theorem dX10_where_18 : decode cX10_where 18 = .ok (.dup, 1) := by decide +kernel
theorem dX10_where_19 : decode cX10_where 19 = .ok (.ldc 215, 2) := by decide +kernel
theorem dX10_where_21 : decode cX10_where 21 = .ok (.invokespecial 117, 3) := by decide +kernel
theorem dX10_where_24 : decode cX10_where 24 = .ok (.athrow, 1) := by decide +kernel
theorem dX10_where_25 : decode cX10_where 25 = .ok (.aload_n 0, 1) := by decide +kernel
theorem dX10_where_26 : decode cX10_where 26 = .ok (.getfield 19, 3) := by decide +kernel
theorem dX10_where_29 : decode cX10_where 29 = .ok (.invokevirtual 217, 3) := by decide +kernel
theorem dX10_where_32 : decode cX10_where 32 = .ok (.getfield 221, 3) := by decide +kernel
theorem dX10_where_35 : decode cX10_where 35 = .ok (.iconst 4, 1) := by decide +kernel
theorem dX10_where_36 : decode cX10_where 36 = .ok (.if_icmp .lt 13, 3) := by decide +kernel
theorem dX10_where_39 : decode cX10_where 39 = .ok (.new 47, 3) := by decide +kernel
theorem dX10_where_42 : decode cX10_where 42 = .ok (.dup, 1) := by decide +kernel
theorem dX10_where_43 : decode cX10_where 43 = .ok (.ldc 224, 2) := by decide +kernel
theorem dX10_where_45 : decode cX10_where 45 = .ok (.invokespecial 51, 3) := by decide +kernel
theorem dX10_where_48 : decode cX10_where 48 = .ok (.athrow, 1) := by decide +kernel
theorem dX10_where_49 : decode cX10_where 49 = .ok (.aload_n 0, 1) := by decide +kernel
theorem dX10_where_50 : decode cX10_where 50 = .ok (.getfield 19, 3) := by decide +kernel
theorem dX10_where_53 : decode cX10_where 53 = .ok (.invokevirtual 217, 3) := by decide +kernel
theorem dX10_where_56 : decode cX10_where 56 = .ok (.iload_n 1, 1) := by decide +kernel
theorem dX10_where_57 : decode cX10_where 57 = .ok (.iload_n 2, 1) := by decide +kernel
theorem dX10_where_58 : decode cX10_where 58 = .ok (.iload_n 3, 1) := by decide +kernel
theorem dX10_where_59 : decode cX10_where 59 = .ok (.invokevirtual 226, 3) := by decide +kernel
theorem dX10_where_62 : decode cX10_where 62 = .ok (.ireturn, 1) := by decide +kernel
theorem dX10_orElse_0 : decode cX10_orElse 0 = .ok (.aload_n 0, 1) := by decide +kernel
theorem dX10_orElse_1 : decode cX10_orElse 1 = .ok (.getfield 19, 3) := by decide +kernel
theorem dX10_orElse_4 : decode cX10_orElse 4 = .ok (.getfield 229, 3) := by decide +kernel
theorem dX10_orElse_7 : decode cX10_orElse 7 = .ok (.iconst 4, 1) := by decide +kernel
theorem dX10_orElse_8 : decode cX10_orElse 8 = .ok (.if_icmp .lt 13, 3) := by decide +kernel
theorem dX10_orElse_11 : decode cX10_orElse 11 = .ok (.new 47, 3) := by decide +kernel
theorem dX10_orElse_14 : decode cX10_orElse 14 = .ok (.dup, 1) := by decide +kernel
theorem dX10_orElse_15 : decode cX10_orElse 15 = .ok (.ldc 230, 2) := by decide +kernel
theorem dX10_orElse_17 : decode cX10_orElse 17 = .ok (.invokespecial 51, 3) := by decide +kernel
theorem dX10_orElse_20 : decode cX10_orElse 20 = .ok (.athrow, 1) := by decide +kernel
theorem dX10_orElse_21 : decode cX10_orElse 21 = .ok (.aload_n 0, 1) := by decide +kernel
theorem dX10_orElse_22 : decode cX10_orElse 22 = .ok (.getfield 19, 3) := by decide +kernel
theorem dX10_orElse_25 : decode cX10_orElse 25 = .ok (.invokevirtual 217, 3) := by decide +kernel
theorem dX10_orElse_28 : decode cX10_orElse 28 = .ok (.getfield 221, 3) := by decide +kernel
theorem dX10_orElse_31 : decode cX10_orElse 31 = .ok (.ifCond .ne 13, 3) := by decide +kernel
theorem dX10_orElse_34 : decode cX10_orElse 34 = .ok (.new 47, 3) := by decide +kernel
theorem dX10_orElse_37 : decode cX10_orElse 37 = .ok (.dup, 1) := by decide +kernel
theorem dX10_orElse_38 : decode cX10_orElse 38 = .ok (.ldc 232, 2) := by decide +kernel
theorem dX10_orElse_40 : decode cX10_orElse 40 = .ok (.invokespecial 51, 3) := by decide +kernel
theorem dX10_orElse_43 : decode cX10_orElse 43 = .ok (.athrow, 1) := by decide +kernel
theorem dX10_orElse_44 : decode cX10_orElse 44 = .ok (.aload_n 0, 1) := by decide +kernel
theorem dX10_orElse_45 : decode cX10_orElse 45 = .ok (.getfield 19, 3) := by decide +kernel
theorem dX10_orElse_48 : decode cX10_orElse 48 = .ok (.invokevirtual 234, 3) := by decide +kernel
theorem dX10_orElse_51 : decode cX10_orElse 51 = .ok (.ireturn, 1) := by decide +kernel
theorem dX10_clear_0 : decode cX10_clear 0 = .ok (.aload_n 0, 1) := by decide +kernel
theorem dX10_clear_1 : decode cX10_clear 1 = .ok (.getfield 19, 3) := by decide +kernel
theorem dX10_clear_4 : decode cX10_clear 4 = .ok (.invokevirtual 237, 3) := by decide +kernel
theorem dX10_clear_7 : decode cX10_clear 7 = .ok (.istore_n 1, 1) := by decide +kernel
theorem dX10_clear_8 : decode cX10_clear 8 = .ok (.aload_n 0, 1) := by decide +kernel
theorem dX10_clear_9 : decode cX10_clear 9 = .ok (.getfield 19, 3) := by decide +kernel
theorem dX10_clear_12 : decode cX10_clear 12 = .ok (.invokevirtual 240, 3) := by decide +kernel
theorem dX10_clear_15 : decode cX10_clear 15 = .ok (.iload_n 1, 1) := by decide +kernel
theorem dX10_clear_16 : decode cX10_clear 16 = .ok (.ireturn, 1) := by decide +kernel
theorem dX10_find_0 : decode cX10_find 0 = .ok (.aload_n 0, 1) := by decide +kernel
theorem dX10_find_1 : decode cX10_find 1 = .ok (.getfield 26, 3) := by decide +kernel
theorem dX10_find_4 : decode cX10_find 4 = .ok (.aload_n 0, 1) := by decide +kernel
theorem dX10_find_5 : decode cX10_find 5 = .ok (.getfield 10, 3) := by decide +kernel
theorem dX10_find_8 : decode cX10_find 8 = .ok (.aload_n 0, 1) := by decide +kernel
theorem dX10_find_9 : decode cX10_find 9 = .ok (.getfield 19, 3) := by decide +kernel
theorem dX10_find_12 : decode cX10_find 12 = .ok (.iconst 1, 1) := by decide +kernel
theorem dX10_find_13 : decode cX10_find 13 = .ok (.invokevirtual 243, 3) := by decide +kernel
theorem dX10_find_16 : decode cX10_find 16 = .ok (.aload_n 0, 1) := by decide +kernel
theorem dX10_find_17 : decode cX10_find 17 = .ok (.aload_n 0, 1) := by decide +kernel
theorem dX10_find_18 : decode cX10_find 18 = .ok (.getfield 26, 3) := by decide +kernel
theorem dX10_find_21 : decode cX10_find 21 = .ok (.getfield 247, 3) := by decide +kernel
theorem dX10_find_24 : decode cX10_find 24 = .ok (.putfield 250, 3) := by decide +kernel
theorem dX10_find_27 : decode cX10_find 27 = .ok (.aload_n 0, 1) := by decide +kernel
theorem dX10_find_28 : decode cX10_find 28 = .ok (.aload_n 0, 1) := by decide +kernel
theorem dX10_find_29 : decode cX10_find 29 = .ok (.getfield 26, 3) := by decide +kernel
theorem dX10_find_32 : decode cX10_find 32 = .ok (.getfield 253, 3) := by decide +kernel
theorem dX10_find_35 : decode cX10_find 35 = .ok (.putfield 256, 3) := by decide +kernel
theorem dX10_find_38 : decode cX10_find 38 = .ok (.aload_n 0, 1) := by decide +kernel
theorem dX10_find_39 : decode cX10_find 39 = .ok (.getfield 33, 3) := by decide +kernel
theorem dX10_find_42 : decode cX10_find 42 = .ok (.aload_n 0, 1) := by decide +kernel
theorem dX10_find_43 : decode cX10_find 43 = .ok (.getfield 26, 3) := by decide +kernel
theorem dX10_find_46 : decode cX10_find 46 = .ok (.getfield 259, 3) := by decide +kernel
theorem dX10_find_49 : decode cX10_find 49 = .ok (.aload_n 0, 1) := by decide +kernel
theorem dX10_find_50 : decode cX10_find 50 = .ok (.getfield 26, 3) := by decide +kernel
theorem dX10_find_53 : decode cX10_find 53 = .ok (.getfield 260, 3) := by decide +kernel
theorem dX10_find_56 : decode cX10_find 56 = .ok (.invokevirtual 261, 3) := by decide +kernel
theorem dX10_find_59 : decode cX10_find 59 = .ok (.aload_n 0, 1) := by decide +kernel
theorem dX10_find_60 : decode cX10_find 60 = .ok (.getfield 33, 3) := by decide +kernel
theorem dX10_find_63 : decode cX10_find 63 = .ok (.getfield 265, 3) := by decide +kernel
theorem dX10_find_66 : decode cX10_find 66 = .ok (.ireturn, 1) := by decide +kernel
theorem dX10_passed_0 : decode cX10_passed 0 = .ok (.aload_n 0, 1) := by decide +kernel
theorem dX10_passed_1 : decode cX10_passed 1 = .ok (.getfield 256, 3) := by decide +kernel
theorem dX10_passed_4 : decode cX10_passed 4 = .ok (.ireturn, 1) := by decide +kernel
theorem dX10_foundAt_0 : decode cX10_foundAt 0 = .ok (.iload_n 1, 1) := by decide +kernel
theorem dX10_foundAt_1 : decode cX10_foundAt 1 = .ok (.ifCond .lt 14, 3) := by decide +kernel
theorem dX10_foundAt_4 : decode cX10_foundAt 4 = .ok (.iload_n 1, 1) := by decide +kernel
theorem dX10_foundAt_5 : decode cX10_foundAt 5 = .ok (.aload_n 0, 1) := by decide +kernel
theorem dX10_foundAt_6 : decode cX10_foundAt 6 = .ok (.getfield 33, 3) := by decide +kernel
theorem dX10_foundAt_9 : decode cX10_foundAt 9 = .ok (.getfield 265, 3) := by decide +kernel
theorem dX10_foundAt_12 : decode cX10_foundAt 12 = .ok (.if_icmp .lt 14, 3) := by decide +kernel
theorem dX10_foundAt_15 : decode cX10_foundAt 15 = .ok (.new 144, 3) := by decide +kernel
theorem dX10_foundAt_18 : decode cX10_foundAt 18 = .ok (.dup, 1) := by decide +kernel
theorem dX10_foundAt_19 : decode cX10_foundAt 19 = .ok (.ldc_w 283, 3) := by decide +kernel
theorem dX10_foundAt_22 : decode cX10_foundAt 22 = .ok (.invokespecial 148, 3) := by decide +kernel
theorem dX10_foundAt_25 : decode cX10_foundAt 25 = .ok (.athrow, 1) := by decide +kernel
theorem dX10_foundAt_26 : decode cX10_foundAt 26 = .ok (.aload_n 0, 1) := by decide +kernel
theorem dX10_foundAt_27 : decode cX10_foundAt 27 = .ok (.getfield 33, 3) := by decide +kernel
theorem dX10_foundAt_30 : decode cX10_foundAt 30 = .ok (.getfield 285, 3) := by decide +kernel
theorem dX10_foundAt_33 : decode cX10_foundAt 33 = .ok (.iload_n 1, 1) := by decide +kernel
theorem dX10_foundAt_34 : decode cX10_foundAt 34 = .ok (.iaload, 1) := by decide +kernel
theorem dX10_foundAt_35 : decode cX10_foundAt 35 = .ok (.ireturn, 1) := by decide +kernel
theorem dX10_sort_0 : decode cX10_sort 0 = .ok (.aload_n 0, 1) := by decide +kernel
theorem dX10_sort_1 : decode cX10_sort 1 = .ok (.iload_n 1, 1) := by decide +kernel
theorem dX10_sort_2 : decode cX10_sort 2 = .ok (.invokevirtual 67, 3) := by decide +kernel
theorem dX10_sort_5 : decode cX10_sort 5 = .ok (.aload_n 0, 1) := by decide +kernel
theorem dX10_sort_6 : decode cX10_sort 6 = .ok (.getfield 10, 3) := by decide +kernel
theorem dX10_sort_9 : decode cX10_sort 9 = .ok (.getfield 286, 3) := by decide +kernel
theorem dX10_sort_12 : decode cX10_sort 12 = .ok (.aload_n 0, 1) := by decide +kernel
theorem dX10_sort_13 : decode cX10_sort 13 = .ok (.getfield 33, 3) := by decide +kernel
theorem dX10_sort_16 : decode cX10_sort 16 = .ok (.getfield 285, 3) := by decide +kernel
theorem dX10_sort_19 : decode cX10_sort 19 = .ok (.aload_n 0, 1) := by decide +kernel
theorem dX10_sort_20 : decode cX10_sort 20 = .ok (.getfield 33, 3) := by decide +kernel
theorem dX10_sort_23 : decode cX10_sort 23 = .ok (.getfield 265, 3) := by decide +kernel
theorem dX10_sort_26 : decode cX10_sort 26 = .ok (.aload_n 0, 1) := by decide +kernel
theorem dX10_sort_27 : decode cX10_sort 27 = .ok (.getfield 10, 3) := by decide +kernel
theorem dX10_sort_30 : decode cX10_sort 30 = .ok (.getfield 37, 3) := by decide +kernel
theorem dX10_sort_33 : decode cX10_sort 33 = .ok (.iload_n 1, 1) := by decide +kernel
theorem dX10_sort_34 : decode cX10_sort 34 = .ok (.invokevirtual 71, 3) := by decide +kernel
theorem dX10_sort_37 : decode cX10_sort 37 = .ok (.checkcast 60, 3) := by decide +kernel
theorem dX10_sort_40 : decode cX10_sort 40 = .ok (.iload_n 2, 1) := by decide +kernel
theorem dX10_sort_41 : decode cX10_sort 41 = .ok (.iconst 0, 1) := by decide +kernel
theorem dX10_sort_42 : decode cX10_sort 42 = .ok (.invokevirtual 290, 3) := by decide +kernel
theorem dX10_sort_45 : decode cX10_sort 45 = .ok (.aload_n 0, 1) := by decide +kernel
theorem dX10_sort_46 : decode cX10_sort 46 = .ok (.getfield 33, 3) := by decide +kernel
theorem dX10_sort_49 : decode cX10_sort 49 = .ok (.getfield 265, 3) := by decide +kernel
theorem dX10_sort_52 : decode cX10_sort 52 = .ok (.ifCond .ne 7, 3) := by decide +kernel
theorem dX10_sort_55 : decode cX10_sort 55 = .ok (.iconst (-1), 1) := by decide +kernel
theorem dX10_sort_56 : decode cX10_sort 56 = .ok (.goto 12, 3) := by decide +kernel
theorem dX10_sort_59 : decode cX10_sort 59 = .ok (.aload_n 0, 1) := by decide +kernel
theorem dX10_sort_60 : decode cX10_sort 60 = .ok (.getfield 33, 3) := by decide +kernel
theorem dX10_sort_63 : decode cX10_sort 63 = .ok (.getfield 285, 3) := by decide +kernel
theorem dX10_sort_66 : decode cX10_sort 66 = .ok (.iconst 0, 1) := by decide +kernel
theorem dX10_sort_67 : decode cX10_sort 67 = .ok (.iaload, 1) := by decide +kernel
theorem dX10_sort_68 : decode cX10_sort 68 = .ok (.ireturn, 1) := by decide +kernel
theorem dX10_limit_0 : decode cX10_limit 0 = .ok (.iload_n 1, 1) := by decide +kernel
theorem dX10_limit_1 : decode cX10_limit 1 = .ok (.ifCond .ge 14, 3) := by decide +kernel
theorem dX10_limit_4 : decode cX10_limit 4 = .ok (.new 113, 3) := by decide +kernel
theorem dX10_limit_7 : decode cX10_limit 7 = .ok (.dup, 1) := by decide +kernel
theorem dX10_limit_8 : decode cX10_limit 8 = .ok (.ldc_w 296, 3) := by decide +kernel
theorem dX10_limit_11 : decode cX10_limit 11 = .ok (.invokespecial 117, 3) := by decide +kernel
theorem dX10_limit_14 : decode cX10_limit 14 = .ok (.athrow, 1) := by decide +kernel
theorem dX10_limit_15 : decode cX10_limit 15 = .ok (.aload_n 0, 1) := by decide +kernel
theorem dX10_limit_16 : decode cX10_limit 16 = .ok (.getfield 33, 3) := by decide +kernel
theorem dX10_limit_19 : decode cX10_limit 19 = .ok (.aload_n 0, 1) := by decide +kernel
theorem dX10_limit_20 : decode cX10_limit 20 = .ok (.getfield 33, 3) := by decide +kernel
theorem dX10_limit_23 : decode cX10_limit 23 = .ok (.getfield 265, 3) := by decide +kernel
theorem dX10_limit_26 : decode cX10_limit 26 = .ok (.iload_n 1, 1) := by decide +kernel
theorem dX10_limit_27 : decode cX10_limit 27 = .ok (.invokestatic 298, 3) := by decide +kernel
theorem dX10_limit_30 : decode cX10_limit 30 = .ok (.putfield 265, 3) := by decide +kernel
theorem dX10_limit_33 : decode cX10_limit 33 = .ok (.aload_n 0, 1) := by decide +kernel
theorem dX10_limit_34 : decode cX10_limit 34 = .ok (.getfield 33, 3) := by decide +kernel
theorem dX10_limit_37 : decode cX10_limit 37 = .ok (.getfield 265, 3) := by decide +kernel
theorem dX10_limit_40 : decode cX10_limit 40 = .ok (.ireturn, 1) := by decide +kernel
theorem dX10_sum_0 : decode cX10_sum 0 = .ok (.aload_n 0, 1) := by decide +kernel
theorem dX10_sum_1 : decode cX10_sum 1 = .ok (.iload_n 1, 1) := by decide +kernel
theorem dX10_sum_2 : decode cX10_sum 2 = .ok (.invokevirtual 67, 3) := by decide +kernel
theorem dX10_sum_5 : decode cX10_sum 5 = .ok (.aload_n 0, 1) := by decide +kernel
theorem dX10_sum_6 : decode cX10_sum 6 = .ok (.getfield 33, 3) := by decide +kernel
theorem dX10_sum_9 : decode cX10_sum 9 = .ok (.aload_n 0, 1) := by decide +kernel
theorem dX10_sum_10 : decode cX10_sum 10 = .ok (.getfield 10, 3) := by decide +kernel
theorem dX10_sum_13 : decode cX10_sum 13 = .ok (.getfield 37, 3) := by decide +kernel
theorem dX10_sum_16 : decode cX10_sum 16 = .ok (.iload_n 1, 1) := by decide +kernel
theorem dX10_sum_17 : decode cX10_sum 17 = .ok (.invokevirtual 71, 3) := by decide +kernel
theorem dX10_sum_20 : decode cX10_sum 20 = .ok (.checkcast 60, 3) := by decide +kernel
theorem dX10_sum_23 : decode cX10_sum 23 = .ok (.invokevirtual 303, 3) := by decide +kernel
theorem dX10_sum_26 : decode cX10_sum 26 = .ok (.l2i, 1) := by decide +kernel
theorem dX10_sum_27 : decode cX10_sum 27 = .ok (.ireturn, 1) := by decide +kernel
theorem dX10_groups_0 : decode cX10_groups 0 = .ok (.aload_n 0, 1) := by decide +kernel
theorem dX10_groups_1 : decode cX10_groups 1 = .ok (.iload_n 1, 1) := by decide +kernel
theorem dX10_groups_2 : decode cX10_groups 2 = .ok (.invokevirtual 67, 3) := by decide +kernel
theorem dX10_groups_5 : decode cX10_groups 5 = .ok (.aload_n 0, 1) := by decide +kernel
theorem dX10_groups_6 : decode cX10_groups 6 = .ok (.getfield 33, 3) := by decide +kernel
theorem dX10_groups_9 : decode cX10_groups 9 = .ok (.aload_n 0, 1) := by decide +kernel
theorem dX10_groups_10 : decode cX10_groups 10 = .ok (.getfield 10, 3) := by decide +kernel
theorem dX10_groups_13 : decode cX10_groups 13 = .ok (.getfield 37, 3) := by decide +kernel
theorem dX10_groups_16 : decode cX10_groups 16 = .ok (.iload_n 1, 1) := by decide +kernel
theorem dX10_groups_17 : decode cX10_groups 17 = .ok (.invokevirtual 71, 3) := by decide +kernel
theorem dX10_groups_20 : decode cX10_groups 20 = .ok (.checkcast 60, 3) := by decide +kernel
theorem dX10_groups_23 : decode cX10_groups 23 = .ok (.aload_n 0, 1) := by decide +kernel
theorem dX10_groups_24 : decode cX10_groups 24 = .ok (.getfield 10, 3) := by decide +kernel
theorem dX10_groups_27 : decode cX10_groups 27 = .ok (.getfield 286, 3) := by decide +kernel
theorem dX10_groups_30 : decode cX10_groups 30 = .ok (.invokevirtual 311, 3) := by decide +kernel
theorem dX10_groups_33 : decode cX10_groups 33 = .ok (.aload_n 0, 1) := by decide +kernel
theorem dX10_groups_34 : decode cX10_groups 34 = .ok (.getfield 33, 3) := by decide +kernel
theorem dX10_groups_37 : decode cX10_groups 37 = .ok (.getfield 315, 3) := by decide +kernel
theorem dX10_groups_40 : decode cX10_groups 40 = .ok (.ireturn, 1) := by decide +kernel
theorem dX10_ofGroup_0 : decode cX10_ofGroup 0 = .ok (.aload_n 0, 1) := by decide +kernel
theorem dX10_ofGroup_1 : decode cX10_ofGroup 1 = .ok (.iload_n 1, 1) := by decide +kernel
theorem dX10_ofGroup_2 : decode cX10_ofGroup 2 = .ok (.invokevirtual 67, 3) := by decide +kernel
theorem dX10_ofGroup_5 : decode cX10_ofGroup 5 = .ok (.aload_n 0, 1) := by decide +kernel
theorem dX10_ofGroup_6 : decode cX10_ofGroup 6 = .ok (.iload_n 3, 1) := by decide +kernel
theorem dX10_ofGroup_7 : decode cX10_ofGroup 7 = .ok (.invokevirtual 67, 3) := by decide +kernel
theorem dX10_ofGroup_10 : decode cX10_ofGroup 10 = .ok (.aload_n 0, 1) := by decide +kernel
theorem dX10_ofGroup_11 : decode cX10_ofGroup 11 = .ok (.getfield 10, 3) := by decide +kernel
theorem dX10_ofGroup_14 : decode cX10_ofGroup 14 = .ok (.getfield 37, 3) := by decide +kernel
theorem dX10_ofGroup_17 : decode cX10_ofGroup 17 = .ok (.iload_n 1, 1) := by decide +kernel
theorem dX10_ofGroup_18 : decode cX10_ofGroup 18 = .ok (.invokevirtual 71, 3) := by decide +kernel
theorem dX10_ofGroup_21 : decode cX10_ofGroup 21 = .ok (.checkcast 60, 3) := by decide +kernel
theorem dX10_ofGroup_24 : decode cX10_ofGroup 24 = .ok (.astore 5, 2) := by decide +kernel
theorem dX10_ofGroup_26 : decode cX10_ofGroup 26 = .ok (.aload_n 0, 1) := by decide +kernel
theorem dX10_ofGroup_27 : decode cX10_ofGroup 27 = .ok (.getfield 33, 3) := by decide +kernel
theorem dX10_ofGroup_30 : decode cX10_ofGroup 30 = .ok (.aload 5, 2) := by decide +kernel
theorem dX10_ofGroup_32 : decode cX10_ofGroup 32 = .ok (.aload_n 0, 1) := by decide +kernel
theorem dX10_ofGroup_33 : decode cX10_ofGroup 33 = .ok (.getfield 10, 3) := by decide +kernel
theorem dX10_ofGroup_36 : decode cX10_ofGroup 36 = .ok (.getfield 286, 3) := by decide +kernel
theorem dX10_ofGroup_39 : decode cX10_ofGroup 39 = .ok (.invokevirtual 311, 3) := by decide +kernel
theorem dX10_ofGroup_42 : decode cX10_ofGroup 42 = .ok (.iload_n 2, 1) := by decide +kernel
theorem dX10_ofGroup_43 : decode cX10_ofGroup 43 = .ok (.ifCond .lt 14, 3) := by decide +kernel
theorem dX10_ofGroup_46 : decode cX10_ofGroup 46 = .ok (.iload_n 2, 1) := by decide +kernel
theorem dX10_ofGroup_47 : decode cX10_ofGroup 47 = .ok (.aload_n 0, 1) := by decide +kernel
theorem dX10_ofGroup_48 : decode cX10_ofGroup 48 = .ok (.getfield 33, 3) := by decide +kernel
theorem dX10_ofGroup_51 : decode cX10_ofGroup 51 = .ok (.getfield 315, 3) := by decide +kernel
theorem dX10_ofGroup_54 : decode cX10_ofGroup 54 = .ok (.if_icmp .lt 14, 3) := by decide +kernel
theorem dX10_ofGroup_57 : decode cX10_ofGroup 57 = .ok (.new 144, 3) := by decide +kernel
theorem dX10_ofGroup_60 : decode cX10_ofGroup 60 = .ok (.dup, 1) := by decide +kernel
theorem dX10_ofGroup_61 : decode cX10_ofGroup 61 = .ok (.ldc_w 318, 3) := by decide +kernel
theorem dX10_ofGroup_64 : decode cX10_ofGroup 64 = .ok (.invokespecial 148, 3) := by decide +kernel
theorem dX10_ofGroup_67 : decode cX10_ofGroup 67 = .ok (.athrow, 1) := by decide +kernel
theorem dX10_ofGroup_68 : decode cX10_ofGroup 68 = .ok (.iload 4, 2) := by decide +kernel
theorem dX10_ofGroup_70 : decode cX10_ofGroup 70 = .ok (.ifCond .lt 9, 3) := by decide +kernel
theorem dX10_ofGroup_73 : decode cX10_ofGroup 73 = .ok (.iload 4, 2) := by decide +kernel
theorem dX10_ofGroup_75 : decode cX10_ofGroup 75 = .ok (.iconst 5, 1) := by decide +kernel
theorem dX10_ofGroup_76 : decode cX10_ofGroup 76 = .ok (.if_icmp .lt 14, 3) := by decide +kernel
theorem dX10_ofGroup_79 : decode cX10_ofGroup 79 = .ok (.new 113, 3) := by decide +kernel
theorem dX10_ofGroup_82 : decode cX10_ofGroup 82 = .ok (.dup, 1) := by decide +kernel
theorem dX10_ofGroup_83 : decode cX10_ofGroup 83 = .ok (.ldc_w 320, 3) := by decide +kernel
theorem dX10_ofGroup_86 : decode cX10_ofGroup 86 = .ok (.invokespecial 117, 3) := by decide +kernel
theorem dX10_ofGroup_89 : decode cX10_ofGroup 89 = .ok (.athrow, 1) := by decide +kernel
theorem dX10_ofGroup_90 : decode cX10_ofGroup 90 = .ok (.aload_n 0, 1) := by decide +kernel
theorem dX10_ofGroup_91 : decode cX10_ofGroup 91 = .ok (.getfield 33, 3) := by decide +kernel
theorem dX10_ofGroup_94 : decode cX10_ofGroup 94 = .ok (.iload_n 2, 1) := by decide +kernel
theorem dX10_ofGroup_95 : decode cX10_ofGroup 95 = .ok (.aload 5, 2) := by decide +kernel
theorem dX10_ofGroup_97 : decode cX10_ofGroup 97 = .ok (.aload_n 0, 1) := by decide +kernel
theorem dX10_ofGroup_98 : decode cX10_ofGroup 98 = .ok (.getfield 10, 3) := by decide +kernel
theorem dX10_ofGroup_101 : decode cX10_ofGroup 101 = .ok (.getfield 37, 3) := by decide +kernel
theorem dX10_ofGroup_104 : decode cX10_ofGroup 104 = .ok (.iload_n 3, 1) := by decide +kernel
theorem dX10_ofGroup_105 : decode cX10_ofGroup 105 = .ok (.invokevirtual 71, 3) := by decide +kernel
theorem dX10_ofGroup_108 : decode cX10_ofGroup 108 = .ok (.checkcast 60, 3) := by decide +kernel
theorem dX10_ofGroup_111 : decode cX10_ofGroup 111 = .ok (.iload 4, 2) := by decide +kernel
theorem dX10_ofGroup_113 : decode cX10_ofGroup 113 = .ok (.invokevirtual 322, 3) := by decide +kernel
theorem dX10_ofGroup_116 : decode cX10_ofGroup 116 = .ok (.ireturn, 1) := by decide +kernel
theorem dX10_keep_0 : decode cX10_keep 0 = .ok (.aload_n 0, 1) := by decide +kernel
theorem dX10_keep_1 : decode cX10_keep 1 = .ok (.getfield 33, 3) := by decide +kernel
theorem dX10_keep_4 : decode cX10_keep 4 = .ok (.invokevirtual 326, 3) := by decide +kernel
theorem dX10_keep_7 : decode cX10_keep 7 = .ok (.ireturn, 1) := by decide +kernel
theorem dX10_pairs_0 : decode cX10_pairs 0 = .ok (.aload_n 0, 1) := by decide +kernel
theorem dX10_pairs_1 : decode cX10_pairs 1 = .ok (.iload_n 1, 1) := by decide +kernel
theorem dX10_pairs_2 : decode cX10_pairs 2 = .ok (.invokevirtual 67, 3) := by decide +kernel
theorem dX10_pairs_5 : decode cX10_pairs 5 = .ok (.aload_n 0, 1) := by decide +kernel
theorem dX10_pairs_6 : decode cX10_pairs 6 = .ok (.iload_n 2, 1) := by decide +kernel
theorem dX10_pairs_7 : decode cX10_pairs 7 = .ok (.invokevirtual 67, 3) := by decide +kernel
theorem dX10_pairs_10 : decode cX10_pairs 10 = .ok (.aload_n 0, 1) := by decide +kernel
theorem dX10_pairs_11 : decode cX10_pairs 11 = .ok (.getfield 33, 3) := by decide +kernel
theorem dX10_pairs_14 : decode cX10_pairs 14 = .ok (.aload_n 0, 1) := by decide +kernel
theorem dX10_pairs_15 : decode cX10_pairs 15 = .ok (.getfield 10, 3) := by decide +kernel
theorem dX10_pairs_18 : decode cX10_pairs 18 = .ok (.getfield 37, 3) := by decide +kernel
theorem dX10_pairs_21 : decode cX10_pairs 21 = .ok (.iload_n 1, 1) := by decide +kernel
theorem dX10_pairs_22 : decode cX10_pairs 22 = .ok (.invokevirtual 71, 3) := by decide +kernel
theorem dX10_pairs_25 : decode cX10_pairs 25 = .ok (.checkcast 60, 3) := by decide +kernel
theorem dX10_pairs_28 : decode cX10_pairs 28 = .ok (.aload_n 0, 1) := by decide +kernel
theorem dX10_pairs_29 : decode cX10_pairs 29 = .ok (.getfield 10, 3) := by decide +kernel
theorem dX10_pairs_32 : decode cX10_pairs 32 = .ok (.getfield 37, 3) := by decide +kernel
theorem dX10_pairs_35 : decode cX10_pairs 35 = .ok (.iload_n 2, 1) := by decide +kernel
theorem dX10_pairs_36 : decode cX10_pairs 36 = .ok (.invokevirtual 71, 3) := by decide +kernel
theorem dX10_pairs_39 : decode cX10_pairs 39 = .ok (.checkcast 60, 3) := by decide +kernel
theorem dX10_pairs_42 : decode cX10_pairs 42 = .ok (.invokevirtual 329, 3) := by decide +kernel
theorem dX10_pairs_45 : decode cX10_pairs 45 = .ok (.ireturn, 1) := by decide +kernel
theorem dX10_costWithout_0 : decode cX10_costWithout 0 = .ok (.aload_n 0, 1) := by decide +kernel
theorem dX10_costWithout_1 : decode cX10_costWithout 1 = .ok (.getfield 26, 3) := by decide +kernel
theorem dX10_costWithout_4 : decode cX10_costWithout 4 = .ok (.aload_n 0, 1) := by decide +kernel
theorem dX10_costWithout_5 : decode cX10_costWithout 5 = .ok (.getfield 10, 3) := by decide +kernel
theorem dX10_costWithout_8 : decode cX10_costWithout 8 = .ok (.aload_n 0, 1) := by decide +kernel
theorem dX10_costWithout_9 : decode cX10_costWithout 9 = .ok (.getfield 19, 3) := by decide +kernel
theorem dX10_costWithout_12 : decode cX10_costWithout 12 = .ok (.iconst 0, 1) := by decide +kernel
theorem dX10_costWithout_13 : decode cX10_costWithout 13 = .ok (.invokevirtual 243, 3) := by decide +kernel
theorem dX10_costWithout_16 : decode cX10_costWithout 16 = .ok (.aload_n 0, 1) := by decide +kernel
theorem dX10_costWithout_17 : decode cX10_costWithout 17 = .ok (.getfield 26, 3) := by decide +kernel
theorem dX10_costWithout_20 : decode cX10_costWithout 20 = .ok (.getfield 247, 3) := by decide +kernel
theorem dX10_costWithout_23 : decode cX10_costWithout 23 = .ok (.ireturn, 1) := by decide +kernel
theorem dX10_wouldFind_0 : decode cX10_wouldFind 0 = .ok (.aload_n 0, 1) := by decide +kernel
theorem dX10_wouldFind_1 : decode cX10_wouldFind 1 = .ok (.getfield 26, 3) := by decide +kernel
theorem dX10_wouldFind_4 : decode cX10_wouldFind 4 = .ok (.aload_n 0, 1) := by decide +kernel
theorem dX10_wouldFind_5 : decode cX10_wouldFind 5 = .ok (.getfield 10, 3) := by decide +kernel
theorem dX10_wouldFind_8 : decode cX10_wouldFind 8 = .ok (.aload_n 0, 1) := by decide +kernel
theorem dX10_wouldFind_9 : decode cX10_wouldFind 9 = .ok (.getfield 19, 3) := by decide +kernel
theorem dX10_wouldFind_12 : decode cX10_wouldFind 12 = .ok (.iconst 1, 1) := by decide +kernel
theorem dX10_wouldFind_13 : decode cX10_wouldFind 13 = .ok (.invokevirtual 243, 3) := by decide +kernel
theorem dX10_wouldFind_16 : decode cX10_wouldFind 16 = .ok (.aload_n 0, 1) := by decide +kernel
theorem dX10_wouldFind_17 : decode cX10_wouldFind 17 = .ok (.getfield 26, 3) := by decide +kernel
theorem dX10_wouldFind_20 : decode cX10_wouldFind 20 = .ok (.getfield 260, 3) := by decide +kernel
theorem dX10_wouldFind_23 : decode cX10_wouldFind 23 = .ok (.ireturn, 1) := by decide +kernel
theorem dX10_digest_0 : decode cX10_digest 0 = .ok (.aload_n 0, 1) := by decide +kernel
theorem dX10_digest_1 : decode cX10_digest 1 = .ok (.aload_n 0, 1) := by decide +kernel
theorem dX10_digest_2 : decode cX10_digest 2 = .ok (.aload_n 0, 1) := by decide +kernel
theorem dX10_digest_3 : decode cX10_digest 3 = .ok (.ldc2_w 336, 3) := by decide +kernel
theorem dX10_digest_6 : decode cX10_digest 6 = .ok (.invokevirtual 338, 3) := by decide +kernel
theorem dX10_digest_9 : decode cX10_digest 9 = .ok (.invokevirtual 342, 3) := by decide +kernel
theorem dX10_digest_12 : decode cX10_digest 12 = .ok (.invokevirtual 345, 3) := by decide +kernel
theorem dX10_digest_15 : decode cX10_digest 15 = .ok (.lreturn, 1) := by decide +kernel
theorem dX10_needColumn_0 : decode cX10_needColumn 0 = .ok (.iload_n 1, 1) := by decide +kernel
theorem dX10_needColumn_1 : decode cX10_needColumn 1 = .ok (.ifCond .lt 17, 3) := by decide +kernel
theorem dX10_needColumn_4 : decode cX10_needColumn 4 = .ok (.iload_n 1, 1) := by decide +kernel
theorem dX10_needColumn_5 : decode cX10_needColumn 5 = .ok (.aload_n 0, 1) := by decide +kernel
theorem dX10_needColumn_6 : decode cX10_needColumn 6 = .ok (.getfield 10, 3) := by decide +kernel
theorem dX10_needColumn_9 : decode cX10_needColumn 9 = .ok (.getfield 37, 3) := by decide +kernel
theorem dX10_needColumn_12 : decode cX10_needColumn 12 = .ok (.invokevirtual 41, 3) := by decide +kernel
theorem dX10_needColumn_15 : decode cX10_needColumn 15 = .ok (.if_icmp .lt 14, 3) := by decide +kernel
theorem dX10_needColumn_18 : decode cX10_needColumn 18 = .ok (.new 144, 3) := by decide +kernel
theorem dX10_needColumn_21 : decode cX10_needColumn 21 = .ok (.dup, 1) := by decide +kernel
theorem dX10_needColumn_22 : decode cX10_needColumn 22 = .ok (.ldc_w 348, 3) := by decide +kernel
theorem dX10_needColumn_25 : decode cX10_needColumn 25 = .ok (.invokespecial 148, 3) := by decide +kernel
theorem dX10_needColumn_28 : decode cX10_needColumn 28 = .ok (.athrow, 1) := by decide +kernel
theorem dX10_needColumn_29 : decode cX10_needColumn 29 = .ok (.return_, 1) := by decide +kernel
theorem dX10_needRow_0 : decode cX10_needRow 0 = .ok (.iload_n 1, 1) := by decide +kernel
theorem dX10_needRow_1 : decode cX10_needRow 1 = .ok (.ifCond .lt 14, 3) := by decide +kernel
theorem dX10_needRow_4 : decode cX10_needRow 4 = .ok (.iload_n 1, 1) := by decide +kernel
theorem dX10_needRow_5 : decode cX10_needRow 5 = .ok (.aload_n 0, 1) := by decide +kernel
theorem dX10_needRow_6 : decode cX10_needRow 6 = .ok (.getfield 10, 3) := by decide +kernel
theorem dX10_needRow_9 : decode cX10_needRow 9 = .ok (.getfield 54, 3) := by decide +kernel
theorem dX10_needRow_12 : decode cX10_needRow 12 = .ok (.if_icmp .lt 14, 3) := by decide +kernel
theorem dX10_needRow_15 : decode cX10_needRow 15 = .ok (.new 144, 3) := by decide +kernel
theorem dX10_needRow_18 : decode cX10_needRow 18 = .ok (.dup, 1) := by decide +kernel
theorem dX10_needRow_19 : decode cX10_needRow 19 = .ok (.ldc_w 350, 3) := by decide +kernel
theorem dX10_needRow_22 : decode cX10_needRow 22 = .ok (.invokespecial 148, 3) := by decide +kernel
theorem dX10_needRow_25 : decode cX10_needRow 25 = .ok (.athrow, 1) := by decide +kernel
theorem dX10_needRow_26 : decode cX10_needRow 26 = .ok (.return_, 1) := by decide +kernel
theorem dX10_needFrame_0 : decode cX10_needFrame 0 = .ok (.iload_n 1, 1) := by decide +kernel
theorem dX10_needFrame_1 : decode cX10_needFrame 1 = .ok (.ifCond .lt 17, 3) := by decide +kernel
theorem dX10_needFrame_4 : decode cX10_needFrame 4 = .ok (.iload_n 1, 1) := by decide +kernel
theorem dX10_needFrame_5 : decode cX10_needFrame 5 = .ok (.aload_n 0, 1) := by decide +kernel
theorem dX10_needFrame_6 : decode cX10_needFrame 6 = .ok (.getfield 10, 3) := by decide +kernel
theorem dX10_needFrame_9 : decode cX10_needFrame 9 = .ok (.getfield 141, 3) := by decide +kernel
theorem dX10_needFrame_12 : decode cX10_needFrame 12 = .ok (.invokevirtual 41, 3) := by decide +kernel
theorem dX10_needFrame_15 : decode cX10_needFrame 15 = .ok (.if_icmp .lt 14, 3) := by decide +kernel
theorem dX10_needFrame_18 : decode cX10_needFrame 18 = .ok (.new 144, 3) := by decide +kernel
theorem dX10_needFrame_21 : decode cX10_needFrame 21 = .ok (.dup, 1) := by decide +kernel
theorem dX10_needFrame_22 : decode cX10_needFrame 22 = .ok (.ldc_w 352, 3) := by decide +kernel
theorem dX10_needFrame_25 : decode cX10_needFrame 25 = .ok (.invokespecial 148, 3) := by decide +kernel
theorem dX10_needFrame_28 : decode cX10_needFrame 28 = .ok (.athrow, 1) := by decide +kernel
theorem dX10_needFrame_29 : decode cX10_needFrame 29 = .ok (.return_, 1) := by decide +kernel
theorem dX10_needRoom_0 : decode cX10_needRoom 0 = .ok (.aload_n 0, 1) := by decide +kernel
theorem dX10_needRoom_1 : decode cX10_needRoom 1 = .ok (.getfield 10, 3) := by decide +kernel
theorem dX10_needRoom_4 : decode cX10_needRoom 4 = .ok (.getfield 54, 3) := by decide +kernel
theorem dX10_needRoom_7 : decode cX10_needRoom 7 = .ok (.sipush 600, 3) := by decide +kernel
theorem dX10_needRoom_10 : decode cX10_needRoom 10 = .ok (.if_icmp .lt 14, 3) := by decide +kernel
theorem dX10_needRoom_13 : decode cX10_needRoom 13 = .ok (.new 47, 3) := by decide +kernel
theorem dX10_needRoom_16 : decode cX10_needRoom 16 = .ok (.dup, 1) := by decide +kernel
theorem dX10_needRoom_17 : decode cX10_needRoom 17 = .ok (.ldc_w 354, 3) := by decide +kernel
theorem dX10_needRoom_20 : decode cX10_needRoom 20 = .ok (.invokespecial 51, 3) := by decide +kernel
theorem dX10_needRoom_23 : decode cX10_needRoom 23 = .ok (.athrow, 1) := by decide +kernel
theorem dX10_needRoom_24 : decode cX10_needRoom 24 = .ok (.return_, 1) := by decide +kernel
theorem dX10_zoneOf_0 : decode cX10_zoneOf 0 = .ok (.aload_n 0, 1) := by decide +kernel
theorem dX10_zoneOf_1 : decode cX10_zoneOf 1 = .ok (.iload_n 1, 1) := by decide +kernel
theorem dX10_zoneOf_2 : decode cX10_zoneOf 2 = .ok (.invokevirtual 134, 3) := by decide +kernel
theorem dX10_zoneOf_5 : decode cX10_zoneOf 5 = .ok (.aload_n 0, 1) := by decide +kernel
theorem dX10_zoneOf_6 : decode cX10_zoneOf 6 = .ok (.iload_n 2, 1) := by decide +kernel
theorem dX10_zoneOf_7 : decode cX10_zoneOf 7 = .ok (.invokevirtual 67, 3) := by decide +kernel
theorem dX10_zoneOf_10 : decode cX10_zoneOf 10 = .ok (.aload_n 0, 1) := by decide +kernel
theorem dX10_zoneOf_11 : decode cX10_zoneOf 11 = .ok (.getfield 10, 3) := by decide +kernel
theorem dX10_zoneOf_14 : decode cX10_zoneOf 14 = .ok (.getfield 141, 3) := by decide +kernel
theorem dX10_zoneOf_17 : decode cX10_zoneOf 17 = .ok (.iload_n 1, 1) := by decide +kernel
theorem dX10_zoneOf_18 : decode cX10_zoneOf 18 = .ok (.invokevirtual 71, 3) := by decide +kernel
theorem dX10_zoneOf_21 : decode cX10_zoneOf 21 = .ok (.checkcast 125, 3) := by decide +kernel
theorem dX10_zoneOf_24 : decode cX10_zoneOf 24 = .ok (.getfield 356, 3) := by decide +kernel
theorem dX10_zoneOf_27 : decode cX10_zoneOf 27 = .ok (.iload_n 2, 1) := by decide +kernel
theorem dX10_zoneOf_28 : decode cX10_zoneOf 28 = .ok (.aaload, 1) := by decide +kernel
theorem dX10_zoneOf_29 : decode cX10_zoneOf 29 = .ok (.areturn, 1) := by decide +kernel
theorem dX10_mixed_0 : decode cX10_mixed 0 = .ok (.lload_n 0, 1) := by decide +kernel
theorem dX10_mixed_1 : decode cX10_mixed 1 = .ok (.ldc2_w 370, 3) := by decide +kernel
theorem dX10_mixed_4 : decode cX10_mixed 4 = .ok (.lmul, 1) := by decide +kernel
theorem dX10_mixed_5 : decode cX10_mixed 5 = .ok (.lload_n 2, 1) := by decide +kernel
theorem dX10_mixed_6 : decode cX10_mixed 6 = .ok (.ladd, 1) := by decide +kernel
theorem dX10_mixed_7 : decode cX10_mixed 7 = .ok (.lreturn, 1) := by decide +kernel
theorem dX10_digestOfCounts_0 : decode cX10_digestOfCounts 0 = .ok (.lload_n 1, 1) := by decide +kernel
theorem dX10_digestOfCounts_1 : decode cX10_digestOfCounts 1 = .ok (.aload_n 0, 1) := by decide +kernel
theorem dX10_digestOfCounts_2 : decode cX10_digestOfCounts 2 = .ok (.getfield 10, 3) := by decide +kernel
theorem dX10_digestOfCounts_5 : decode cX10_digestOfCounts 5 = .ok (.getfield 37, 3) := by decide +kernel
theorem dX10_digestOfCounts_8 : decode cX10_digestOfCounts 8 = .ok (.invokevirtual 41, 3) := by decide +kernel
theorem dX10_digestOfCounts_11 : decode cX10_digestOfCounts 11 = .ok (.i2l, 1) := by decide +kernel
theorem dX10_digestOfCounts_12 : decode cX10_digestOfCounts 12 = .ok (.invokestatic 372, 3) := by decide +kernel
theorem dX10_digestOfCounts_15 : decode cX10_digestOfCounts 15 = .ok (.lstore_n 3, 1) := by decide +kernel
theorem dX10_digestOfCounts_16 : decode cX10_digestOfCounts 16 = .ok (.lload_n 3, 1) := by decide +kernel
theorem dX10_digestOfCounts_17 : decode cX10_digestOfCounts 17 = .ok (.aload_n 0, 1) := by decide +kernel
theorem dX10_digestOfCounts_18 : decode cX10_digestOfCounts 18 = .ok (.getfield 10, 3) := by decide +kernel
theorem dX10_digestOfCounts_21 : decode cX10_digestOfCounts 21 = .ok (.getfield 54, 3) := by decide +kernel
theorem dX10_digestOfCounts_24 : decode cX10_digestOfCounts 24 = .ok (.i2l, 1) := by decide +kernel
theorem dX10_digestOfCounts_25 : decode cX10_digestOfCounts 25 = .ok (.invokestatic 372, 3) := by decide +kernel
theorem dX10_digestOfCounts_28 : decode cX10_digestOfCounts 28 = .ok (.lstore_n 3, 1) := by decide +kernel
theorem dX10_digestOfCounts_29 : decode cX10_digestOfCounts 29 = .ok (.lload_n 3, 1) := by decide +kernel
theorem dX10_digestOfCounts_30 : decode cX10_digestOfCounts 30 = .ok (.aload_n 0, 1) := by decide +kernel
theorem dX10_digestOfCounts_31 : decode cX10_digestOfCounts 31 = .ok (.getfield 10, 3) := by decide +kernel
theorem dX10_digestOfCounts_34 : decode cX10_digestOfCounts 34 = .ok (.getfield 162, 3) := by decide +kernel
theorem dX10_digestOfCounts_37 : decode cX10_digestOfCounts 37 = .ok (.i2l, 1) := by decide +kernel
theorem dX10_digestOfCounts_38 : decode cX10_digestOfCounts 38 = .ok (.invokestatic 372, 3) := by decide +kernel
theorem dX10_digestOfCounts_41 : decode cX10_digestOfCounts 41 = .ok (.lstore_n 3, 1) := by decide +kernel
theorem dX10_digestOfCounts_42 : decode cX10_digestOfCounts 42 = .ok (.lload_n 3, 1) := by decide +kernel
theorem dX10_digestOfCounts_43 : decode cX10_digestOfCounts 43 = .ok (.aload_n 0, 1) := by decide +kernel
theorem dX10_digestOfCounts_44 : decode cX10_digestOfCounts 44 = .ok (.getfield 10, 3) := by decide +kernel
theorem dX10_digestOfCounts_47 : decode cX10_digestOfCounts 47 = .ok (.getfield 141, 3) := by decide +kernel
theorem dX10_digestOfCounts_50 : decode cX10_digestOfCounts 50 = .ok (.invokevirtual 41, 3) := by decide +kernel
theorem dX10_digestOfCounts_53 : decode cX10_digestOfCounts 53 = .ok (.i2l, 1) := by decide +kernel
theorem dX10_digestOfCounts_54 : decode cX10_digestOfCounts 54 = .ok (.invokestatic 372, 3) := by decide +kernel
theorem dX10_digestOfCounts_57 : decode cX10_digestOfCounts 57 = .ok (.lstore_n 3, 1) := by decide +kernel
theorem dX10_digestOfCounts_58 : decode cX10_digestOfCounts 58 = .ok (.lload_n 3, 1) := by decide +kernel
theorem dX10_digestOfCounts_59 : decode cX10_digestOfCounts 59 = .ok (.aload_n 0, 1) := by decide +kernel
theorem dX10_digestOfCounts_60 : decode cX10_digestOfCounts 60 = .ok (.getfield 10, 3) := by decide +kernel
theorem dX10_digestOfCounts_63 : decode cX10_digestOfCounts 63 = .ok (.getfield 120, 3) := by decide +kernel
theorem dX10_digestOfCounts_66 : decode cX10_digestOfCounts 66 = .ok (.getfield 124, 3) := by decide +kernel
theorem dX10_digestOfCounts_69 : decode cX10_digestOfCounts 69 = .ok (.i2l, 1) := by decide +kernel
theorem dX10_digestOfCounts_70 : decode cX10_digestOfCounts 70 = .ok (.invokestatic 372, 3) := by decide +kernel
theorem dX10_digestOfCounts_73 : decode cX10_digestOfCounts 73 = .ok (.lstore_n 3, 1) := by decide +kernel
theorem dX10_digestOfCounts_74 : decode cX10_digestOfCounts 74 = .ok (.lload_n 3, 1) := by decide +kernel
theorem dX10_digestOfCounts_75 : decode cX10_digestOfCounts 75 = .ok (.aload_n 0, 1) := by decide +kernel
theorem dX10_digestOfCounts_76 : decode cX10_digestOfCounts 76 = .ok (.getfield 10, 3) := by decide +kernel
theorem dX10_digestOfCounts_79 : decode cX10_digestOfCounts 79 = .ok (.invokevirtual 197, 3) := by decide +kernel
theorem dX10_digestOfCounts_82 : decode cX10_digestOfCounts 82 = .ok (.i2l, 1) := by decide +kernel
theorem dX10_digestOfCounts_83 : decode cX10_digestOfCounts 83 = .ok (.invokestatic 372, 3) := by decide +kernel
theorem dX10_digestOfCounts_86 : decode cX10_digestOfCounts 86 = .ok (.lstore_n 3, 1) := by decide +kernel
theorem dX10_digestOfCounts_87 : decode cX10_digestOfCounts 87 = .ok (.lload_n 3, 1) := by decide +kernel
theorem dX10_digestOfCounts_88 : decode cX10_digestOfCounts 88 = .ok (.aload_n 0, 1) := by decide +kernel
theorem dX10_digestOfCounts_89 : decode cX10_digestOfCounts 89 = .ok (.getfield 250, 3) := by decide +kernel
theorem dX10_digestOfCounts_92 : decode cX10_digestOfCounts 92 = .ok (.i2l, 1) := by decide +kernel
theorem dX10_digestOfCounts_93 : decode cX10_digestOfCounts 93 = .ok (.invokestatic 372, 3) := by decide +kernel
theorem dX10_digestOfCounts_96 : decode cX10_digestOfCounts 96 = .ok (.lstore_n 3, 1) := by decide +kernel
theorem dX10_digestOfCounts_97 : decode cX10_digestOfCounts 97 = .ok (.lload_n 3, 1) := by decide +kernel
theorem dX10_digestOfCounts_98 : decode cX10_digestOfCounts 98 = .ok (.aload_n 0, 1) := by decide +kernel
theorem dX10_digestOfCounts_99 : decode cX10_digestOfCounts 99 = .ok (.getfield 256, 3) := by decide +kernel
theorem dX10_digestOfCounts_102 : decode cX10_digestOfCounts 102 = .ok (.i2l, 1) := by decide +kernel
theorem dX10_digestOfCounts_103 : decode cX10_digestOfCounts 103 = .ok (.invokestatic 372, 3) := by decide +kernel
theorem dX10_digestOfCounts_106 : decode cX10_digestOfCounts 106 = .ok (.lstore_n 3, 1) := by decide +kernel
theorem dX10_digestOfCounts_107 : decode cX10_digestOfCounts 107 = .ok (.lload_n 3, 1) := by decide +kernel
theorem dX10_digestOfCounts_108 : decode cX10_digestOfCounts 108 = .ok (.aload_n 0, 1) := by decide +kernel
theorem dX10_digestOfCounts_109 : decode cX10_digestOfCounts 109 = .ok (.getfield 33, 3) := by decide +kernel
theorem dX10_digestOfCounts_112 : decode cX10_digestOfCounts 112 = .ok (.getfield 265, 3) := by decide +kernel
theorem dX10_digestOfCounts_115 : decode cX10_digestOfCounts 115 = .ok (.i2l, 1) := by decide +kernel
theorem dX10_digestOfCounts_116 : decode cX10_digestOfCounts 116 = .ok (.invokestatic 372, 3) := by decide +kernel
theorem dX10_digestOfCounts_119 : decode cX10_digestOfCounts 119 = .ok (.lstore_n 3, 1) := by decide +kernel
theorem dX10_digestOfCounts_120 : decode cX10_digestOfCounts 120 = .ok (.iconst 0, 1) := by decide +kernel
theorem dX10_digestOfCounts_121 : decode cX10_digestOfCounts 121 = .ok (.istore 5, 2) := by decide +kernel
theorem dX10_digestOfCounts_123 : decode cX10_digestOfCounts 123 = .ok (.iload 5, 2) := by decide +kernel
theorem dX10_digestOfCounts_125 : decode cX10_digestOfCounts 125 = .ok (.aload_n 0, 1) := by decide +kernel
theorem dX10_digestOfCounts_126 : decode cX10_digestOfCounts 126 = .ok (.getfield 33, 3) := by decide +kernel
theorem dX10_digestOfCounts_129 : decode cX10_digestOfCounts 129 = .ok (.getfield 265, 3) := by decide +kernel
theorem dX10_digestOfCounts_132 : decode cX10_digestOfCounts 132 = .ok (.if_icmp .ge 25, 3) := by decide +kernel
theorem dX10_digestOfCounts_135 : decode cX10_digestOfCounts 135 = .ok (.lload_n 3, 1) := by decide +kernel
theorem dX10_digestOfCounts_136 : decode cX10_digestOfCounts 136 = .ok (.aload_n 0, 1) := by decide +kernel
theorem dX10_digestOfCounts_137 : decode cX10_digestOfCounts 137 = .ok (.getfield 33, 3) := by decide +kernel
theorem dX10_digestOfCounts_140 : decode cX10_digestOfCounts 140 = .ok (.getfield 285, 3) := by decide +kernel
theorem dX10_digestOfCounts_143 : decode cX10_digestOfCounts 143 = .ok (.iload 5, 2) := by decide +kernel
theorem dX10_digestOfCounts_145 : decode cX10_digestOfCounts 145 = .ok (.iaload, 1) := by decide +kernel
theorem dX10_digestOfCounts_146 : decode cX10_digestOfCounts 146 = .ok (.i2l, 1) := by decide +kernel
theorem dX10_digestOfCounts_147 : decode cX10_digestOfCounts 147 = .ok (.invokestatic 372, 3) := by decide +kernel
theorem dX10_digestOfCounts_150 : decode cX10_digestOfCounts 150 = .ok (.lstore_n 3, 1) := by decide +kernel
theorem dX10_digestOfCounts_151 : decode cX10_digestOfCounts 151 = .ok (.iinc 5 1, 3) := by decide +kernel
theorem dX10_digestOfCounts_154 : decode cX10_digestOfCounts 154 = .ok (.goto (-31), 3) := by decide +kernel
theorem dX10_digestOfCounts_157 : decode cX10_digestOfCounts 157 = .ok (.lload_n 3, 1) := by decide +kernel
theorem dX10_digestOfCounts_158 : decode cX10_digestOfCounts 158 = .ok (.lreturn, 1) := by decide +kernel
theorem dX10_digestOfRows_0 : decode cX10_digestOfRows 0 = .ok (.lload_n 1, 1) := by decide +kernel
theorem dX10_digestOfRows_1 : decode cX10_digestOfRows 1 = .ok (.lstore_n 3, 1) := by decide +kernel
theorem dX10_digestOfRows_2 : decode cX10_digestOfRows 2 = .ok (.iconst 0, 1) := by decide +kernel
theorem dX10_digestOfRows_3 : decode cX10_digestOfRows 3 = .ok (.istore 5, 2) := by decide +kernel
theorem dX10_digestOfRows_5 : decode cX10_digestOfRows 5 = .ok (.iload 5, 2) := by decide +kernel
theorem dX10_digestOfRows_7 : decode cX10_digestOfRows 7 = .ok (.aload_n 0, 1) := by decide +kernel
theorem dX10_digestOfRows_8 : decode cX10_digestOfRows 8 = .ok (.getfield 10, 3) := by decide +kernel
theorem dX10_digestOfRows_11 : decode cX10_digestOfRows 11 = .ok (.getfield 54, 3) := by decide +kernel
theorem dX10_digestOfRows_14 : decode cX10_digestOfRows 14 = .ok (.if_icmp .ge 124, 3) := by decide +kernel
theorem dX10_digestOfRows_17 : decode cX10_digestOfRows 17 = .ok (.lload_n 3, 1) := by decide +kernel
theorem dX10_digestOfRows_18 : decode cX10_digestOfRows 18 = .ok (.aload_n 0, 1) := by decide +kernel
theorem dX10_digestOfRows_19 : decode cX10_digestOfRows 19 = .ok (.getfield 10, 3) := by decide +kernel
theorem dX10_digestOfRows_22 : decode cX10_digestOfRows 22 = .ok (.getfield 103, 3) := by decide +kernel
theorem dX10_digestOfRows_25 : decode cX10_digestOfRows 25 = .ok (.iload 5, 2) := by decide +kernel
theorem dX10_digestOfRows_27 : decode cX10_digestOfRows 27 = .ok (.baload, 1) := by decide +kernel
theorem dX10_digestOfRows_28 : decode cX10_digestOfRows 28 = .ok (.ifCond .eq 7, 3) := by decide +kernel
theorem dX10_digestOfRows_31 : decode cX10_digestOfRows 31 = .ok (.lconst 1, 1) := by decide +kernel
theorem dX10_digestOfRows_32 : decode cX10_digestOfRows 32 = .ok (.goto 4, 3) := by decide +kernel
theorem dX10_digestOfRows_35 : decode cX10_digestOfRows 35 = .ok (.lconst 0, 1) := by decide +kernel
theorem dX10_digestOfRows_36 : decode cX10_digestOfRows 36 = .ok (.invokestatic 372, 3) := by decide +kernel
theorem dX10_digestOfRows_39 : decode cX10_digestOfRows 39 = .ok (.lstore_n 3, 1) := by decide +kernel
theorem dX10_digestOfRows_40 : decode cX10_digestOfRows 40 = .ok (.lload_n 3, 1) := by decide +kernel
theorem dX10_digestOfRows_41 : decode cX10_digestOfRows 41 = .ok (.aload_n 0, 1) := by decide +kernel
theorem dX10_digestOfRows_42 : decode cX10_digestOfRows 42 = .ok (.getfield 10, 3) := by decide +kernel
theorem dX10_digestOfRows_45 : decode cX10_digestOfRows 45 = .ok (.getfield 172, 3) := by decide +kernel
theorem dX10_digestOfRows_48 : decode cX10_digestOfRows 48 = .ok (.iload 5, 2) := by decide +kernel
theorem dX10_digestOfRows_50 : decode cX10_digestOfRows 50 = .ok (.iaload, 1) := by decide +kernel
theorem dX10_digestOfRows_51 : decode cX10_digestOfRows 51 = .ok (.i2l, 1) := by decide +kernel
theorem dX10_digestOfRows_52 : decode cX10_digestOfRows 52 = .ok (.invokestatic 372, 3) := by decide +kernel
theorem dX10_digestOfRows_55 : decode cX10_digestOfRows 55 = .ok (.lstore_n 3, 1) := by decide +kernel
theorem dX10_digestOfRows_56 : decode cX10_digestOfRows 56 = .ok (.iconst 0, 1) := by decide +kernel
theorem dX10_digestOfRows_57 : decode cX10_digestOfRows 57 = .ok (.istore 6, 2) := by decide +kernel
theorem dX10_digestOfRows_59 : decode cX10_digestOfRows 59 = .ok (.iload 6, 2) := by decide +kernel
theorem dX10_digestOfRows_61 : decode cX10_digestOfRows 61 = .ok (.aload_n 0, 1) := by decide +kernel
theorem dX10_digestOfRows_62 : decode cX10_digestOfRows 62 = .ok (.getfield 10, 3) := by decide +kernel
theorem dX10_digestOfRows_65 : decode cX10_digestOfRows 65 = .ok (.getfield 37, 3) := by decide +kernel
theorem dX10_digestOfRows_68 : decode cX10_digestOfRows 68 = .ok (.invokevirtual 41, 3) := by decide +kernel
theorem dX10_digestOfRows_71 : decode cX10_digestOfRows 71 = .ok (.if_icmp .ge 61, 3) := by decide +kernel
theorem dX10_digestOfRows_74 : decode cX10_digestOfRows 74 = .ok (.aload_n 0, 1) := by decide +kernel
theorem dX10_digestOfRows_75 : decode cX10_digestOfRows 75 = .ok (.getfield 10, 3) := by decide +kernel
theorem dX10_digestOfRows_78 : decode cX10_digestOfRows 78 = .ok (.getfield 37, 3) := by decide +kernel
theorem dX10_digestOfRows_81 : decode cX10_digestOfRows 81 = .ok (.iload 6, 2) := by decide +kernel
theorem dX10_digestOfRows_83 : decode cX10_digestOfRows 83 = .ok (.invokevirtual 71, 3) := by decide +kernel
theorem dX10_digestOfRows_86 : decode cX10_digestOfRows 86 = .ok (.checkcast 60, 3) := by decide +kernel
theorem dX10_digestOfRows_89 : decode cX10_digestOfRows 89 = .ok (.astore 7, 2) := by decide +kernel
theorem dX10_digestOfRows_91 : decode cX10_digestOfRows 91 = .ok (.lload_n 3, 1) := by decide +kernel
theorem dX10_digestOfRows_92 : decode cX10_digestOfRows 92 = .ok (.aload 7, 2) := by decide +kernel
theorem dX10_digestOfRows_94 : decode cX10_digestOfRows 94 = .ok (.getfield 165, 3) := by decide +kernel
theorem dX10_digestOfRows_97 : decode cX10_digestOfRows 97 = .ok (.iload 5, 2) := by decide +kernel
theorem dX10_digestOfRows_99 : decode cX10_digestOfRows 99 = .ok (.baload, 1) := by decide +kernel
theorem dX10_digestOfRows_100 : decode cX10_digestOfRows 100 = .ok (.ifCond .eq 7, 3) := by decide +kernel
theorem dX10_digestOfRows_103 : decode cX10_digestOfRows 103 = .ok (.lconst 1, 1) := by decide +kernel
theorem dX10_digestOfRows_104 : decode cX10_digestOfRows 104 = .ok (.goto 4, 3) := by decide +kernel
theorem dX10_digestOfRows_107 : decode cX10_digestOfRows 107 = .ok (.lconst 0, 1) := by decide +kernel
theorem dX10_digestOfRows_108 : decode cX10_digestOfRows 108 = .ok (.invokestatic 372, 3) := by decide +kernel
theorem dX10_digestOfRows_111 : decode cX10_digestOfRows 111 = .ok (.lstore_n 3, 1) := by decide +kernel
theorem dX10_digestOfRows_112 : decode cX10_digestOfRows 112 = .ok (.lload_n 3, 1) := by decide +kernel
theorem dX10_digestOfRows_113 : decode cX10_digestOfRows 113 = .ok (.aload 7, 2) := by decide +kernel
