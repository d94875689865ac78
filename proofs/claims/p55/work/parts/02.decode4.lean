theorem dX10_digestOfRows_115 : decode cX10_digestOfRows 115 = .ok (.getfield 168, 3) := by decide +kernel
theorem dX10_digestOfRows_118 : decode cX10_digestOfRows 118 = .ok (.iload 5, 2) := by decide +kernel
theorem dX10_digestOfRows_120 : decode cX10_digestOfRows 120 = .ok (.iaload, 1) := by decide +kernel
theorem dX10_digestOfRows_121 : decode cX10_digestOfRows 121 = .ok (.i2l, 1) := by decide +kernel
theorem dX10_digestOfRows_122 : decode cX10_digestOfRows 122 = .ok (.invokestatic 372, 3) := by decide +kernel
theorem dX10_digestOfRows_125 : decode cX10_digestOfRows 125 = .ok (.lstore_n 3, 1) := by decide +kernel
theorem dX10_digestOfRows_126 : decode cX10_digestOfRows 126 = .ok (.iinc 6 1, 3) := by decide +kernel
theorem dX10_digestOfRows_129 : decode cX10_digestOfRows 129 = .ok (.goto (-70), 3) := by decide +kernel
theorem dX10_digestOfRows_132 : decode cX10_digestOfRows 132 = .ok (.iinc 5 1, 3) := by decide +kernel
theorem dX10_digestOfRows_135 : decode cX10_digestOfRows 135 = .ok (.goto (-130), 3) := by decide +kernel
theorem dX10_digestOfRows_138 : decode cX10_digestOfRows 138 = .ok (.lload_n 3, 1) := by decide +kernel
theorem dX10_digestOfRows_139 : decode cX10_digestOfRows 139 = .ok (.lreturn, 1) := by decide +kernel
theorem dX10_digestOfFrames_0 : decode cX10_digestOfFrames 0 = .ok (.lload_n 1, 1) := by decide +kernel
theorem dX10_digestOfFrames_1 : decode cX10_digestOfFrames 1 = .ok (.lstore_n 3, 1) := by decide +kernel
theorem dX10_digestOfFrames_2 : decode cX10_digestOfFrames 2 = .ok (.iconst 0, 1) := by decide +kernel
theorem dX10_digestOfFrames_3 : decode cX10_digestOfFrames 3 = .ok (.istore 5, 2) := by decide +kernel
theorem dX10_digestOfFrames_5 : decode cX10_digestOfFrames 5 = .ok (.iload 5, 2) := by decide +kernel
theorem dX10_digestOfFrames_7 : decode cX10_digestOfFrames 7 = .ok (.aload_n 0, 1) := by decide +kernel
theorem dX10_digestOfFrames_8 : decode cX10_digestOfFrames 8 = .ok (.getfield 10, 3) := by decide +kernel
theorem dX10_digestOfFrames_11 : decode cX10_digestOfFrames 11 = .ok (.getfield 141, 3) := by decide +kernel
theorem dX10_digestOfFrames_14 : decode cX10_digestOfFrames 14 = .ok (.invokevirtual 41, 3) := by decide +kernel
theorem dX10_digestOfFrames_17 : decode cX10_digestOfFrames 17 = .ok (.if_icmp .ge 118, 3) := by decide +kernel
theorem dX10_digestOfFrames_20 : decode cX10_digestOfFrames 20 = .ok (.aload_n 0, 1) := by decide +kernel
theorem dX10_digestOfFrames_21 : decode cX10_digestOfFrames 21 = .ok (.getfield 10, 3) := by decide +kernel
theorem dX10_digestOfFrames_24 : decode cX10_digestOfFrames 24 = .ok (.getfield 141, 3) := by decide +kernel
theorem dX10_digestOfFrames_27 : decode cX10_digestOfFrames 27 = .ok (.iload 5, 2) := by decide +kernel
theorem dX10_digestOfFrames_29 : decode cX10_digestOfFrames 29 = .ok (.invokevirtual 71, 3) := by decide +kernel
theorem dX10_digestOfFrames_32 : decode cX10_digestOfFrames 32 = .ok (.checkcast 125, 3) := by decide +kernel
theorem dX10_digestOfFrames_35 : decode cX10_digestOfFrames 35 = .ok (.astore 6, 2) := by decide +kernel
theorem dX10_digestOfFrames_37 : decode cX10_digestOfFrames 37 = .ok (.lload_n 3, 1) := by decide +kernel
theorem dX10_digestOfFrames_38 : decode cX10_digestOfFrames 38 = .ok (.aload 6, 2) := by decide +kernel
theorem dX10_digestOfFrames_40 : decode cX10_digestOfFrames 40 = .ok (.getfield 124, 3) := by decide +kernel
theorem dX10_digestOfFrames_43 : decode cX10_digestOfFrames 43 = .ok (.i2l, 1) := by decide +kernel
theorem dX10_digestOfFrames_44 : decode cX10_digestOfFrames 44 = .ok (.invokestatic 372, 3) := by decide +kernel
theorem dX10_digestOfFrames_47 : decode cX10_digestOfFrames 47 = .ok (.lstore_n 3, 1) := by decide +kernel
theorem dX10_digestOfFrames_48 : decode cX10_digestOfFrames 48 = .ok (.iconst 0, 1) := by decide +kernel
theorem dX10_digestOfFrames_49 : decode cX10_digestOfFrames 49 = .ok (.istore 7, 2) := by decide +kernel
theorem dX10_digestOfFrames_51 : decode cX10_digestOfFrames 51 = .ok (.iload 7, 2) := by decide +kernel
theorem dX10_digestOfFrames_53 : decode cX10_digestOfFrames 53 = .ok (.aload 6, 2) := by decide +kernel
theorem dX10_digestOfFrames_55 : decode cX10_digestOfFrames 55 = .ok (.getfield 124, 3) := by decide +kernel
theorem dX10_digestOfFrames_58 : decode cX10_digestOfFrames 58 = .ok (.if_icmp .ge 23, 3) := by decide +kernel
theorem dX10_digestOfFrames_61 : decode cX10_digestOfFrames 61 = .ok (.lload_n 3, 1) := by decide +kernel
theorem dX10_digestOfFrames_62 : decode cX10_digestOfFrames 62 = .ok (.aload 6, 2) := by decide +kernel
theorem dX10_digestOfFrames_64 : decode cX10_digestOfFrames 64 = .ok (.getfield 177, 3) := by decide +kernel
theorem dX10_digestOfFrames_67 : decode cX10_digestOfFrames 67 = .ok (.iload 7, 2) := by decide +kernel
theorem dX10_digestOfFrames_69 : decode cX10_digestOfFrames 69 = .ok (.iaload, 1) := by decide +kernel
theorem dX10_digestOfFrames_70 : decode cX10_digestOfFrames 70 = .ok (.i2l, 1) := by decide +kernel
theorem dX10_digestOfFrames_71 : decode cX10_digestOfFrames 71 = .ok (.invokestatic 372, 3) := by decide +kernel
theorem dX10_digestOfFrames_74 : decode cX10_digestOfFrames 74 = .ok (.lstore_n 3, 1) := by decide +kernel
theorem dX10_digestOfFrames_75 : decode cX10_digestOfFrames 75 = .ok (.iinc 7 1, 3) := by decide +kernel
theorem dX10_digestOfFrames_78 : decode cX10_digestOfFrames 78 = .ok (.goto (-27), 3) := by decide +kernel
theorem dX10_digestOfFrames_81 : decode cX10_digestOfFrames 81 = .ok (.lload_n 3, 1) := by decide +kernel
theorem dX10_digestOfFrames_82 : decode cX10_digestOfFrames 82 = .ok (.aload 6, 2) := by decide +kernel
theorem dX10_digestOfFrames_84 : decode cX10_digestOfFrames 84 = .ok (.getfield 194, 3) := by decide +kernel
theorem dX10_digestOfFrames_87 : decode cX10_digestOfFrames 87 = .ok (.i2l, 1) := by decide +kernel
theorem dX10_digestOfFrames_88 : decode cX10_digestOfFrames 88 = .ok (.invokestatic 372, 3) := by decide +kernel
theorem dX10_digestOfFrames_91 : decode cX10_digestOfFrames 91 = .ok (.lstore_n 3, 1) := by decide +kernel
theorem dX10_digestOfFrames_92 : decode cX10_digestOfFrames 92 = .ok (.iconst 0, 1) := by decide +kernel
theorem dX10_digestOfFrames_93 : decode cX10_digestOfFrames 93 = .ok (.istore 7, 2) := by decide +kernel
theorem dX10_digestOfFrames_95 : decode cX10_digestOfFrames 95 = .ok (.iload 7, 2) := by decide +kernel
theorem dX10_digestOfFrames_97 : decode cX10_digestOfFrames 97 = .ok (.aload_n 0, 1) := by decide +kernel
theorem dX10_digestOfFrames_98 : decode cX10_digestOfFrames 98 = .ok (.getfield 10, 3) := by decide +kernel
theorem dX10_digestOfFrames_101 : decode cX10_digestOfFrames 101 = .ok (.getfield 37, 3) := by decide +kernel
theorem dX10_digestOfFrames_104 : decode cX10_digestOfFrames 104 = .ok (.invokevirtual 41, 3) := by decide +kernel
theorem dX10_digestOfFrames_107 : decode cX10_digestOfFrames 107 = .ok (.if_icmp .ge 22, 3) := by decide +kernel
theorem dX10_digestOfFrames_110 : decode cX10_digestOfFrames 110 = .ok (.lload_n 3, 1) := by decide +kernel
theorem dX10_digestOfFrames_111 : decode cX10_digestOfFrames 111 = .ok (.aload 6, 2) := by decide +kernel
theorem dX10_digestOfFrames_113 : decode cX10_digestOfFrames 113 = .ok (.getfield 356, 3) := by decide +kernel
theorem dX10_digestOfFrames_116 : decode cX10_digestOfFrames 116 = .ok (.iload 7, 2) := by decide +kernel
theorem dX10_digestOfFrames_118 : decode cX10_digestOfFrames 118 = .ok (.aaload, 1) := by decide +kernel
theorem dX10_digestOfFrames_119 : decode cX10_digestOfFrames 119 = .ok (.invokestatic 376, 3) := by decide +kernel
theorem dX10_digestOfFrames_122 : decode cX10_digestOfFrames 122 = .ok (.lstore_n 3, 1) := by decide +kernel
theorem dX10_digestOfFrames_123 : decode cX10_digestOfFrames 123 = .ok (.iinc 7 1, 3) := by decide +kernel
theorem dX10_digestOfFrames_126 : decode cX10_digestOfFrames 126 = .ok (.goto (-31), 3) := by decide +kernel
theorem dX10_digestOfFrames_129 : decode cX10_digestOfFrames 129 = .ok (.iinc 5 1, 3) := by decide +kernel
theorem dX10_digestOfFrames_132 : decode cX10_digestOfFrames 132 = .ok (.goto (-127), 3) := by decide +kernel
theorem dX10_digestOfFrames_135 : decode cX10_digestOfFrames 135 = .ok (.lload_n 3, 1) := by decide +kernel
theorem dX10_digestOfFrames_136 : decode cX10_digestOfFrames 136 = .ok (.lreturn, 1) := by decide +kernel
theorem dX10_digestOfZone_0 : decode cX10_digestOfZone 0 = .ok (.lload_n 0, 1) := by decide +kernel
theorem dX10_digestOfZone_1 : decode cX10_digestOfZone 1 = .ok (.aload_n 2, 1) := by decide +kernel
theorem dX10_digestOfZone_2 : decode cX10_digestOfZone 2 = .ok (.getfield 184, 3) := by decide +kernel
theorem dX10_digestOfZone_5 : decode cX10_digestOfZone 5 = .ok (.i2l, 1) := by decide +kernel
theorem dX10_digestOfZone_6 : decode cX10_digestOfZone 6 = .ok (.invokestatic 372, 3) := by decide +kernel
theorem dX10_digestOfZone_9 : decode cX10_digestOfZone 9 = .ok (.lstore_n 3, 1) := by decide +kernel
theorem dX10_digestOfZone_10 : decode cX10_digestOfZone 10 = .ok (.lload_n 3, 1) := by decide +kernel
theorem dX10_digestOfZone_11 : decode cX10_digestOfZone 11 = .ok (.aload_n 2, 1) := by decide +kernel
theorem dX10_digestOfZone_12 : decode cX10_digestOfZone 12 = .ok (.getfield 200, 3) := by decide +kernel
theorem dX10_digestOfZone_15 : decode cX10_digestOfZone 15 = .ok (.i2l, 1) := by decide +kernel
theorem dX10_digestOfZone_16 : decode cX10_digestOfZone 16 = .ok (.invokestatic 372, 3) := by decide +kernel
theorem dX10_digestOfZone_19 : decode cX10_digestOfZone 19 = .ok (.lstore_n 3, 1) := by decide +kernel
theorem dX10_digestOfZone_20 : decode cX10_digestOfZone 20 = .ok (.lload_n 3, 1) := by decide +kernel
theorem dX10_digestOfZone_21 : decode cX10_digestOfZone 21 = .ok (.aload_n 2, 1) := by decide +kernel
theorem dX10_digestOfZone_22 : decode cX10_digestOfZone 22 = .ok (.getfield 203, 3) := by decide +kernel
theorem dX10_digestOfZone_25 : decode cX10_digestOfZone 25 = .ok (.i2l, 1) := by decide +kernel
theorem dX10_digestOfZone_26 : decode cX10_digestOfZone 26 = .ok (.invokestatic 372, 3) := by decide +kernel
theorem dX10_digestOfZone_29 : decode cX10_digestOfZone 29 = .ok (.lstore_n 3, 1) := by decide +kernel
theorem dX10_digestOfZone_30 : decode cX10_digestOfZone 30 = .ok (.lload_n 3, 1) := by decide +kernel
theorem dX10_digestOfZone_31 : decode cX10_digestOfZone 31 = .ok (.aload_n 2, 1) := by decide +kernel
theorem dX10_digestOfZone_32 : decode cX10_digestOfZone 32 = .ok (.getfield 206, 3) := by decide +kernel
theorem dX10_digestOfZone_35 : decode cX10_digestOfZone 35 = .ok (.i2l, 1) := by decide +kernel
theorem dX10_digestOfZone_36 : decode cX10_digestOfZone 36 = .ok (.invokestatic 372, 3) := by decide +kernel
theorem dX10_digestOfZone_39 : decode cX10_digestOfZone 39 = .ok (.lstore_n 3, 1) := by decide +kernel
theorem dX10_digestOfZone_40 : decode cX10_digestOfZone 40 = .ok (.lload_n 3, 1) := by decide +kernel
theorem dX10_digestOfZone_41 : decode cX10_digestOfZone 41 = .ok (.aload_n 2, 1) := by decide +kernel
theorem dX10_digestOfZone_42 : decode cX10_digestOfZone 42 = .ok (.getfield 209, 3) := by decide +kernel
theorem dX10_digestOfZone_45 : decode cX10_digestOfZone 45 = .ok (.i2l, 1) := by decide +kernel
theorem dX10_digestOfZone_46 : decode cX10_digestOfZone 46 = .ok (.invokestatic 372, 3) := by decide +kernel
theorem dX10_digestOfZone_49 : decode cX10_digestOfZone 49 = .ok (.lstore_n 3, 1) := by decide +kernel
theorem dX10_digestOfZone_50 : decode cX10_digestOfZone 50 = .ok (.lload_n 3, 1) := by decide +kernel
theorem dX10_digestOfZone_51 : decode cX10_digestOfZone 51 = .ok (.aload_n 2, 1) := by decide +kernel
theorem dX10_digestOfZone_52 : decode cX10_digestOfZone 52 = .ok (.getfield 212, 3) := by decide +kernel
theorem dX10_digestOfZone_55 : decode cX10_digestOfZone 55 = .ok (.i2l, 1) := by decide +kernel
theorem dX10_digestOfZone_56 : decode cX10_digestOfZone 56 = .ok (.invokestatic 372, 3) := by decide +kernel
theorem dX10_digestOfZone_59 : decode cX10_digestOfZone 59 = .ok (.lreturn, 1) := by decide +kernel
theorem dJ9_max_7cf53_0 : decode cJ9_max_7cf53 0 = .ok (.iload_n 0, 1) := by decide +kernel
theorem dJ9_max_7cf53_1 : decode cJ9_max_7cf53 1 = .ok (.iload_n 1, 1) := by decide +kernel
theorem dJ9_max_7cf53_2 : decode cJ9_max_7cf53 2 = .ok (.if_icmp .lt 7, 3) := by decide +kernel
theorem dJ9_max_7cf53_5 : decode cJ9_max_7cf53 5 = .ok (.iload_n 0, 1) := by decide +kernel
theorem dJ9_max_7cf53_6 : decode cJ9_max_7cf53 6 = .ok (.goto 4, 3) := by decide +kernel
theorem dJ9_max_7cf53_9 : decode cJ9_max_7cf53 9 = .ok (.iload_n 1, 1) := by decide +kernel
theorem dJ9_max_7cf53_10 : decode cJ9_max_7cf53 10 = .ok (.ireturn, 1) := by decide +kernel
theorem dJ9_max_f86c9_0 : decode cJ9_max_f86c9 0 = .ok (.lload_n 0, 1) := by decide +kernel
theorem dJ9_max_f86c9_1 : decode cJ9_max_f86c9 1 = .ok (.lload_n 2, 1) := by decide +kernel
theorem dJ9_max_f86c9_2 : decode cJ9_max_f86c9 2 = .ok (.lcmp, 1) := by decide +kernel
theorem dJ9_max_f86c9_3 : decode cJ9_max_f86c9 3 = .ok (.ifCond .lt 7, 3) := by decide +kernel
theorem dJ9_max_f86c9_6 : decode cJ9_max_f86c9 6 = .ok (.lload_n 0, 1) := by decide +kernel
theorem dJ9_max_f86c9_7 : decode cJ9_max_f86c9 7 = .ok (.goto 4, 3) := by decide +kernel
theorem dJ9_max_f86c9_10 : decode cJ9_max_f86c9 10 = .ok (.lload_n 2, 1) := by decide +kernel
theorem dJ9_max_f86c9_11 : decode cJ9_max_f86c9 11 = .ok (.lreturn, 1) := by decide +kernel
theorem dJ9_min_7cf53_0 : decode cJ9_min_7cf53 0 = .ok (.iload_n 0, 1) := by decide +kernel
theorem dJ9_min_7cf53_1 : decode cJ9_min_7cf53 1 = .ok (.iload_n 1, 1) := by decide +kernel
theorem dJ9_min_7cf53_2 : decode cJ9_min_7cf53 2 = .ok (.if_icmp .gt 7, 3) := by decide +kernel
theorem dJ9_min_7cf53_5 : decode cJ9_min_7cf53 5 = .ok (.iload_n 0, 1) := by decide +kernel
theorem dJ9_min_7cf53_6 : decode cJ9_min_7cf53 6 = .ok (.goto 4, 3) := by decide +kernel
theorem dJ9_min_7cf53_9 : decode cJ9_min_7cf53 9 = .ok (.iload_n 1, 1) := by decide +kernel
theorem dJ9_min_7cf53_10 : decode cJ9_min_7cf53 10 = .ok (.ireturn, 1) := by decide +kernel
theorem dJ9_min_f86c9_0 : decode cJ9_min_f86c9 0 = .ok (.lload_n 0, 1) := by decide +kernel
theorem dJ9_min_f86c9_1 : decode cJ9_min_f86c9 1 = .ok (.lload_n 2, 1) := by decide +kernel
theorem dJ9_min_f86c9_2 : decode cJ9_min_f86c9 2 = .ok (.lcmp, 1) := by decide +kernel
theorem dJ9_min_f86c9_3 : decode cJ9_min_f86c9 3 = .ok (.ifCond .gt 7, 3) := by decide +kernel
theorem dJ9_min_f86c9_6 : decode cJ9_min_f86c9 6 = .ok (.lload_n 0, 1) := by decide +kernel
theorem dJ9_min_f86c9_7 : decode cJ9_min_f86c9 7 = .ok (.goto 4, 3) := by decide +kernel
theorem dJ9_min_f86c9_10 : decode cJ9_min_f86c9 10 = .ok (.lload_n 2, 1) := by decide +kernel
theorem dJ9_min_f86c9_11 : decode cJ9_min_f86c9 11 = .ok (.lreturn, 1) := by decide +kernel
theorem dJxa1e45_init_da8c8_0 : decode cJxa1e45_init_da8c8 0 = .ok (.aload_n 0, 1) := by decide +kernel
theorem dJxa1e45_init_da8c8_1 : decode cJxa1e45_init_da8c8 1 = .ok (.invokespecial 1, 3) := by decide +kernel
theorem dJxa1e45_init_da8c8_4 : decode cJxa1e45_init_da8c8 4 = .ok (.return_, 1) := by decide +kernel
theorem dJxc12de_init_da8c8_0 : decode cJxc12de_init_da8c8 0 = .ok (.aload_n 0, 1) := by decide +kernel
theorem dJxc12de_init_da8c8_1 : decode cJxc12de_init_da8c8 1 = .ok (.invokespecial 1, 3) := by decide +kernel
theorem dJxc12de_init_da8c8_4 : decode cJxc12de_init_da8c8 4 = .ok (.aload_n 0, 1) := by decide +kernel
theorem dJxc12de_init_da8c8_5 : decode cJxc12de_init_da8c8 5 = .ok (.iconst 0, 1) := by decide +kernel
theorem dJxc12de_init_da8c8_6 : decode cJxc12de_init_da8c8 6 = .ok (.putfield 7, 3) := by decide +kernel
theorem dJxc12de_init_da8c8_9 : decode cJxc12de_init_da8c8 9 = .ok (.return_, 1) := by decide +kernel
theorem dJx4a65c_init_da8c8_0 : decode cJx4a65c_init_da8c8 0 = .ok (.aload_n 0, 1) := by decide +kernel
theorem dJx4a65c_init_da8c8_1 : decode cJx4a65c_init_da8c8 1 = .ok (.invokespecial 1, 3) := by decide +kernel
theorem dJx4a65c_init_da8c8_4 : decode cJx4a65c_init_da8c8 4 = .ok (.aload_n 0, 1) := by decide +kernel
theorem dJx4a65c_init_da8c8_5 : decode cJx4a65c_init_da8c8 5 = .ok (.getstatic 39, 3) := by decide +kernel
theorem dJx4a65c_init_da8c8_8 : decode cJx4a65c_init_da8c8 8 = .ok (.putfield 9, 3) := by decide +kernel
theorem dJx4a65c_init_da8c8_11 : decode cJx4a65c_init_da8c8 11 = .ok (.return_, 1) := by decide +kernel
theorem dJx4a65c_grow_92f84_0 : decode cJx4a65c_grow_92f84 0 = .ok (.aload_n 0, 1) := by decide +kernel
theorem dJx4a65c_grow_92f84_1 : decode cJx4a65c_grow_92f84 1 = .ok (.getfield 9, 3) := by decide +kernel
theorem dJx4a65c_grow_92f84_4 : decode cJx4a65c_grow_92f84 4 = .ok (.arraylength, 1) := by decide +kernel
theorem dJx4a65c_grow_92f84_5 : decode cJx4a65c_grow_92f84 5 = .ok (.istore_n 2, 1) := by decide +kernel
theorem dJx4a65c_grow_92f84_6 : decode cJx4a65c_grow_92f84 6 = .ok (.iload_n 2, 1) := by decide +kernel
theorem dJx4a65c_grow_92f84_7 : decode cJx4a65c_grow_92f84 7 = .ok (.ifCond .gt 13, 3) := by decide +kernel
theorem dJx4a65c_grow_92f84_10 : decode cJx4a65c_grow_92f84 10 = .ok (.aload_n 0, 1) := by decide +kernel
theorem dJx4a65c_grow_92f84_11 : decode cJx4a65c_grow_92f84 11 = .ok (.getfield 9, 3) := by decide +kernel
theorem dJx4a65c_grow_92f84_14 : decode cJx4a65c_grow_92f84 14 = .ok (.getstatic 39, 3) := by decide +kernel
theorem dJx4a65c_grow_92f84_17 : decode cJx4a65c_grow_92f84 17 = .ok (.if_acmp .eq 28, 3) := by decide +kernel
theorem dJx4a65c_grow_92f84_20 : decode cJx4a65c_grow_92f84 20 = .ok (.iload_n 2, 1) := by decide +kernel
theorem dJx4a65c_grow_92f84_21 : decode cJx4a65c_grow_92f84 21 = .ok (.iload_n 1, 1) := by decide +kernel
theorem dJx4a65c_grow_92f84_22 : decode cJx4a65c_grow_92f84 22 = .ok (.iload_n 2, 1) := by decide +kernel
theorem dJx4a65c_grow_92f84_23 : decode cJx4a65c_grow_92f84 23 = .ok (.isub, 1) := by decide +kernel
theorem dJx4a65c_grow_92f84_24 : decode cJx4a65c_grow_92f84 24 = .ok (.iload_n 2, 1) := by decide +kernel
theorem dJx4a65c_grow_92f84_25 : decode cJx4a65c_grow_92f84 25 = .ok (.iconst 1, 1) := by decide +kernel
theorem dJx4a65c_grow_92f84_26 : decode cJx4a65c_grow_92f84 26 = .ok (.ishr, 1) := by decide +kernel
theorem dJx4a65c_grow_92f84_27 : decode cJx4a65c_grow_92f84 27 = .ok (.invokestatic 73, 3) := by decide +kernel
theorem dJx4a65c_grow_92f84_30 : decode cJx4a65c_grow_92f84 30 = .ok (.istore_n 3, 1) := by decide +kernel
theorem dJx4a65c_grow_92f84_31 : decode cJx4a65c_grow_92f84 31 = .ok (.aload_n 0, 1) := by decide +kernel
theorem dJx4a65c_grow_92f84_32 : decode cJx4a65c_grow_92f84 32 = .ok (.aload_n 0, 1) := by decide +kernel
theorem dJx4a65c_grow_92f84_33 : decode cJx4a65c_grow_92f84 33 = .ok (.getfield 9, 3) := by decide +kernel
theorem dJx4a65c_grow_92f84_36 : decode cJx4a65c_grow_92f84 36 = .ok (.iload_n 3, 1) := by decide +kernel
theorem dJx4a65c_grow_92f84_37 : decode cJx4a65c_grow_92f84 37 = .ok (.invokestatic 66, 3) := by decide +kernel
theorem dJx4a65c_grow_92f84_40 : decode cJx4a65c_grow_92f84 40 = .ok (.dup_x1, 1) := by decide +kernel
theorem dJx4a65c_grow_92f84_41 : decode cJx4a65c_grow_92f84 41 = .ok (.putfield 9, 3) := by decide +kernel
theorem dJx4a65c_grow_92f84_44 : decode cJx4a65c_grow_92f84 44 = .ok (.areturn, 1) := by decide +kernel
theorem dJx4a65c_grow_92f84_45 : decode cJx4a65c_grow_92f84 45 = .ok (.aload_n 0, 1) := by decide +kernel
theorem dJx4a65c_grow_92f84_46 : decode cJx4a65c_grow_92f84 46 = .ok (.bipush 10, 2) := by decide +kernel
theorem dJx4a65c_grow_92f84_48 : decode cJx4a65c_grow_92f84 48 = .ok (.iload_n 1, 1) := by decide +kernel
theorem dJx4a65c_grow_92f84_49 : decode cJx4a65c_grow_92f84 49 = .ok (.invokestatic 79, 3) := by decide +kernel
theorem dJx4a65c_grow_92f84_52 : decode cJx4a65c_grow_92f84 52 = .ok (.anewarray 7, 3) := by decide +kernel
theorem dJx4a65c_grow_92f84_55 : decode cJx4a65c_grow_92f84 55 = .ok (.dup_x1, 1) := by decide +kernel
theorem dJx4a65c_grow_92f84_56 : decode cJx4a65c_grow_92f84 56 = .ok (.putfield 9, 3) := by decide +kernel
theorem dJx4a65c_grow_92f84_59 : decode cJx4a65c_grow_92f84 59 = .ok (.areturn, 1) := by decide +kernel
theorem dJx4a65c_grow_d5877_0 : decode cJx4a65c_grow_d5877 0 = .ok (.aload_n 0, 1) := by decide +kernel
theorem dJx4a65c_grow_d5877_1 : decode cJx4a65c_grow_d5877 1 = .ok (.aload_n 0, 1) := by decide +kernel
theorem dJx4a65c_grow_d5877_2 : decode cJx4a65c_grow_d5877 2 = .ok (.getfield 48, 3) := by decide +kernel
theorem dJx4a65c_grow_d5877_5 : decode cJx4a65c_grow_d5877 5 = .ok (.iconst 1, 1) := by decide +kernel
theorem dJx4a65c_grow_d5877_6 : decode cJx4a65c_grow_d5877 6 = .ok (.iadd, 1) := by decide +kernel
theorem dJx4a65c_grow_d5877_7 : decode cJx4a65c_grow_d5877 7 = .ok (.invokevirtual 69, 3) := by decide +kernel
theorem dJx4a65c_grow_d5877_10 : decode cJx4a65c_grow_d5877 10 = .ok (.areturn, 1) := by decide +kernel
theorem dJx4a65c_size_8abf5_0 : decode cJx4a65c_size_8abf5 0 = .ok (.aload_n 0, 1) := by decide +kernel
theorem dJx4a65c_size_8abf5_1 : decode cJx4a65c_size_8abf5 1 = .ok (.getfield 48, 3) := by decide +kernel
theorem dJx4a65c_size_8abf5_4 : decode cJx4a65c_size_8abf5 4 = .ok (.ireturn, 1) := by decide +kernel
theorem dJx4a65c_isEmpty_aae02_0 : decode cJx4a65c_isEmpty_aae02 0 = .ok (.aload_n 0, 1) := by decide +kernel
theorem dJx4a65c_isEmpty_aae02_1 : decode cJx4a65c_isEmpty_aae02 1 = .ok (.getfield 48, 3) := by decide +kernel
theorem dJx4a65c_isEmpty_aae02_4 : decode cJx4a65c_isEmpty_aae02 4 = .ok (.ifCond .ne 7, 3) := by decide +kernel
theorem dJx4a65c_isEmpty_aae02_7 : decode cJx4a65c_isEmpty_aae02 7 = .ok (.iconst 1, 1) := by decide +kernel
theorem dJx4a65c_isEmpty_aae02_8 : decode cJx4a65c_isEmpty_aae02 8 = .ok (.goto 4, 3) := by decide +kernel
theorem dJx4a65c_isEmpty_aae02_11 : decode cJx4a65c_isEmpty_aae02 11 = .ok (.iconst 0, 1) := by decide +kernel
theorem dJx4a65c_isEmpty_aae02_12 : decode cJx4a65c_isEmpty_aae02 12 = .ok (.ireturn, 1) := by decide +kernel
theorem dJx4a65c_elementData_915e3_0 : decode cJx4a65c_elementData_915e3 0 = .ok (.aload_n 0, 1) := by decide +kernel
theorem dJx4a65c_elementData_915e3_1 : decode cJx4a65c_elementData_915e3 1 = .ok (.getfield 9, 3) := by decide +kernel
theorem dJx4a65c_elementData_915e3_4 : decode cJx4a65c_elementData_915e3 4 = .ok (.iload_n 1, 1) := by decide +kernel
theorem dJx4a65c_elementData_915e3_5 : decode cJx4a65c_elementData_915e3 5 = .ok (.aaload, 1) := by decide +kernel
theorem dJx4a65c_elementData_915e3_6 : decode cJx4a65c_elementData_915e3 6 = .ok (.areturn, 1) := by decide +kernel
theorem dJx4a65c_get_915e3_0 : decode cJx4a65c_get_915e3 0 = .ok (.iload_n 1, 1) := by decide +kernel
theorem dJx4a65c_get_915e3_1 : decode cJx4a65c_get_915e3 1 = .ok (.aload_n 0, 1) := by decide +kernel
theorem dJx4a65c_get_915e3_2 : decode cJx4a65c_get_915e3 2 = .ok (.getfield 48, 3) := by decide +kernel
theorem dJx4a65c_get_915e3_5 : decode cJx4a65c_get_915e3 5 = .ok (.invokestatic 118, 3) := by decide +kernel
theorem dJx4a65c_get_915e3_8 : decode cJx4a65c_get_915e3 8 = .ok (.pop, 1) := by decide +kernel
theorem dJx4a65c_get_915e3_9 : decode cJx4a65c_get_915e3 9 = .ok (.aload_n 0, 1) := by decide +kernel
theorem dJx4a65c_get_915e3_10 : decode cJx4a65c_get_915e3 10 = .ok (.iload_n 1, 1) := by decide +kernel
theorem dJx4a65c_get_915e3_11 : decode cJx4a65c_get_915e3 11 = .ok (.invokevirtual 123, 3) := by decide +kernel
theorem dJx4a65c_get_915e3_14 : decode cJx4a65c_get_915e3 14 = .ok (.areturn, 1) := by decide +kernel
theorem dJx4a65c_add_72be8_0 : decode cJx4a65c_add_72be8 0 = .ok (.iload_n 3, 1) := by decide +kernel
theorem dJx4a65c_add_72be8_1 : decode cJx4a65c_add_72be8 1 = .ok (.aload_n 2, 1) := by decide +kernel
theorem dJx4a65c_add_72be8_2 : decode cJx4a65c_add_72be8 2 = .ok (.arraylength, 1) := by decide +kernel
theorem dJx4a65c_add_72be8_3 : decode cJx4a65c_add_72be8 3 = .ok (.if_icmp .ne 8, 3) := by decide +kernel
theorem dJx4a65c_add_72be8_6 : decode cJx4a65c_add_72be8 6 = .ok (.aload_n 0, 1) := by decide +kernel
theorem dJx4a65c_add_72be8_7 : decode cJx4a65c_add_72be8 7 = .ok (.invokevirtual 129, 3) := by decide +kernel
theorem dJx4a65c_add_72be8_10 : decode cJx4a65c_add_72be8 10 = .ok (.astore_n 2, 1) := by decide +kernel
theorem dJx4a65c_add_72be8_11 : decode cJx4a65c_add_72be8 11 = .ok (.aload_n 2, 1) := by decide +kernel
theorem dJx4a65c_add_72be8_12 : decode cJx4a65c_add_72be8 12 = .ok (.iload_n 3, 1) := by decide +kernel
theorem dJx4a65c_add_72be8_13 : decode cJx4a65c_add_72be8 13 = .ok (.aload_n 1, 1) := by decide +kernel
theorem dJx4a65c_add_72be8_14 : decode cJx4a65c_add_72be8 14 = .ok (.aastore, 1) := by decide +kernel
theorem dJx4a65c_add_72be8_15 : decode cJx4a65c_add_72be8 15 = .ok (.aload_n 0, 1) := by decide +kernel
theorem dJx4a65c_add_72be8_16 : decode cJx4a65c_add_72be8 16 = .ok (.iload_n 3, 1) := by decide +kernel
theorem dJx4a65c_add_72be8_17 : decode cJx4a65c_add_72be8 17 = .ok (.iconst 1, 1) := by decide +kernel
theorem dJx4a65c_add_72be8_18 : decode cJx4a65c_add_72be8 18 = .ok (.iadd, 1) := by decide +kernel
theorem dJx4a65c_add_72be8_19 : decode cJx4a65c_add_72be8 19 = .ok (.putfield 48, 3) := by decide +kernel
theorem dJx4a65c_add_72be8_22 : decode cJx4a65c_add_72be8 22 = .ok (.return_, 1) := by decide +kernel
theorem dJx4a65c_add_9ea2d_0 : decode cJx4a65c_add_9ea2d 0 = .ok (.aload_n 0, 1) := by decide +kernel
theorem dJx4a65c_add_9ea2d_1 : decode cJx4a65c_add_9ea2d 1 = .ok (.dup, 1) := by decide +kernel
theorem dJx4a65c_add_9ea2d_2 : decode cJx4a65c_add_9ea2d 2 = .ok (.getfield 63, 3) := by decide +kernel
theorem dJx4a65c_add_9ea2d_5 : decode cJx4a65c_add_9ea2d 5 = .ok (.iconst 1, 1) := by decide +kernel
theorem dJx4a65c_add_9ea2d_6 : decode cJx4a65c_add_9ea2d 6 = .ok (.iadd, 1) := by decide +kernel
theorem dJx4a65c_add_9ea2d_7 : decode cJx4a65c_add_9ea2d 7 = .ok (.putfield 63, 3) := by decide +kernel
theorem dJx4a65c_add_9ea2d_10 : decode cJx4a65c_add_9ea2d 10 = .ok (.aload_n 0, 1) := by decide +kernel
theorem dJx4a65c_add_9ea2d_11 : decode cJx4a65c_add_9ea2d 11 = .ok (.aload_n 1, 1) := by decide +kernel
theorem dJx4a65c_add_9ea2d_12 : decode cJx4a65c_add_9ea2d 12 = .ok (.aload_n 0, 1) := by decide +kernel
theorem dJx4a65c_add_9ea2d_13 : decode cJx4a65c_add_9ea2d 13 = .ok (.getfield 9, 3) := by decide +kernel
theorem dJx4a65c_add_9ea2d_16 : decode cJx4a65c_add_9ea2d 16 = .ok (.aload_n 0, 1) := by decide +kernel
theorem dJx4a65c_add_9ea2d_17 : decode cJx4a65c_add_9ea2d 17 = .ok (.getfield 48, 3) := by decide +kernel
theorem dJx4a65c_add_9ea2d_20 : decode cJx4a65c_add_9ea2d 20 = .ok (.invokevirtual 131, 3) := by decide +kernel
theorem dJx4a65c_add_9ea2d_23 : decode cJx4a65c_add_9ea2d 23 = .ok (.iconst 1, 1) := by decide +kernel
theorem dJx4a65c_add_9ea2d_24 : decode cJx4a65c_add_9ea2d 24 = .ok (.ireturn, 1) := by decide +kernel
theorem dJx4a65c_remove_915e3_0 : decode cJx4a65c_remove_915e3 0 = .ok (.iload_n 1, 1) := by decide +kernel
theorem dJx4a65c_remove_915e3_1 : decode cJx4a65c_remove_915e3 1 = .ok (.aload_n 0, 1) := by decide +kernel
theorem dJx4a65c_remove_915e3_2 : decode cJx4a65c_remove_915e3 2 = .ok (.getfield 48, 3) := by decide +kernel
theorem dJx4a65c_remove_915e3_5 : decode cJx4a65c_remove_915e3 5 = .ok (.invokestatic 118, 3) := by decide +kernel
theorem dJx4a65c_remove_915e3_8 : decode cJx4a65c_remove_915e3 8 = .ok (.pop, 1) := by decide +kernel
theorem dJx4a65c_remove_915e3_9 : decode cJx4a65c_remove_915e3 9 = .ok (.aload_n 0, 1) := by decide +kernel
theorem dJx4a65c_remove_915e3_10 : decode cJx4a65c_remove_915e3 10 = .ok (.getfield 9, 3) := by decide +kernel
theorem dJx4a65c_remove_915e3_13 : decode cJx4a65c_remove_915e3 13 = .ok (.astore_n 2, 1) := by decide +kernel
theorem dJx4a65c_remove_915e3_14 : decode cJx4a65c_remove_915e3 14 = .ok (.aload_n 2, 1) := by decide +kernel
theorem dJx4a65c_remove_915e3_15 : decode cJx4a65c_remove_915e3 15 = .ok (.iload_n 1, 1) := by decide +kernel
theorem dJx4a65c_remove_915e3_16 : decode cJx4a65c_remove_915e3 16 = .ok (.aaload, 1) := by decide +kernel
theorem dJx4a65c_remove_915e3_17 : decode cJx4a65c_remove_915e3 17 = .ok (.astore_n 3, 1) := by decide +kernel
theorem dJx4a65c_remove_915e3_18 : decode cJx4a65c_remove_915e3 18 = .ok (.aload_n 0, 1) := by decide +kernel
theorem dJx4a65c_remove_915e3_19 : decode cJx4a65c_remove_915e3 19 = .ok (.aload_n 2, 1) := by decide +kernel
theorem dJx4a65c_remove_915e3_20 : decode cJx4a65c_remove_915e3 20 = .ok (.iload_n 1, 1) := by decide +kernel
theorem dJx4a65c_remove_915e3_21 : decode cJx4a65c_remove_915e3 21 = .ok (.invokevirtual 144, 3) := by decide +kernel
theorem dJx4a65c_remove_915e3_24 : decode cJx4a65c_remove_915e3 24 = .ok (.aload_n 3, 1) := by decide +kernel
theorem dJx4a65c_remove_915e3_25 : decode cJx4a65c_remove_915e3 25 = .ok (.areturn, 1) := by decide +kernel
theorem dJx4a65c_fastRemove_b59b0_0 : decode cJx4a65c_fastRemove_b59b0 0 = .ok (.aload_n 0, 1) := by decide +kernel
theorem dJx4a65c_fastRemove_b59b0_1 : decode cJx4a65c_fastRemove_b59b0 1 = .ok (.dup, 1) := by decide +kernel
theorem dJx4a65c_fastRemove_b59b0_2 : decode cJx4a65c_fastRemove_b59b0 2 = .ok (.getfield 63, 3) := by decide +kernel
theorem dJx4a65c_fastRemove_b59b0_5 : decode cJx4a65c_fastRemove_b59b0 5 = .ok (.iconst 1, 1) := by decide +kernel
theorem dJx4a65c_fastRemove_b59b0_6 : decode cJx4a65c_fastRemove_b59b0 6 = .ok (.iadd, 1) := by decide +kernel
theorem dJx4a65c_fastRemove_b59b0_7 : decode cJx4a65c_fastRemove_b59b0 7 = .ok (.putfield 63, 3) := by decide +kernel
theorem dJx4a65c_fastRemove_b59b0_10 : decode cJx4a65c_fastRemove_b59b0 10 = .ok (.aload_n 0, 1) := by decide +kernel
theorem dJx4a65c_fastRemove_b59b0_11 : decode cJx4a65c_fastRemove_b59b0 11 = .ok (.getfield 48, 3) := by decide +kernel
theorem dJx4a65c_fastRemove_b59b0_14 : decode cJx4a65c_fastRemove_b59b0 14 = .ok (.iconst 1, 1) := by decide +kernel
theorem dJx4a65c_fastRemove_b59b0_15 : decode cJx4a65c_fastRemove_b59b0 15 = .ok (.isub, 1) := by decide +kernel
theorem dJx4a65c_fastRemove_b59b0_16 : decode cJx4a65c_fastRemove_b59b0 16 = .ok (.dup, 1) := by decide +kernel
theorem dJx4a65c_fastRemove_b59b0_17 : decode cJx4a65c_fastRemove_b59b0 17 = .ok (.istore_n 3, 1) := by decide +kernel
theorem dJx4a65c_fastRemove_b59b0_18 : decode cJx4a65c_fastRemove_b59b0 18 = .ok (.iload_n 2, 1) := by decide +kernel
theorem dJx4a65c_fastRemove_b59b0_19 : decode cJx4a65c_fastRemove_b59b0 19 = .ok (.if_icmp .le 15, 3) := by decide +kernel
theorem dJx4a65c_fastRemove_b59b0_22 : decode cJx4a65c_fastRemove_b59b0 22 = .ok (.aload_n 1, 1) := by decide +kernel
theorem dJx4a65c_fastRemove_b59b0_23 : decode cJx4a65c_fastRemove_b59b0 23 = .ok (.iload_n 2, 1) := by decide +kernel
theorem dJx4a65c_fastRemove_b59b0_24 : decode cJx4a65c_fastRemove_b59b0 24 = .ok (.iconst 1, 1) := by decide +kernel
theorem dJx4a65c_fastRemove_b59b0_25 : decode cJx4a65c_fastRemove_b59b0 25 = .ok (.iadd, 1) := by decide +kernel
theorem dJx4a65c_fastRemove_b59b0_26 : decode cJx4a65c_fastRemove_b59b0 26 = .ok (.aload_n 1, 1) := by decide +kernel
theorem dJx4a65c_fastRemove_b59b0_27 : decode cJx4a65c_fastRemove_b59b0 27 = .ok (.iload_n 2, 1) := by decide +kernel
theorem dJx4a65c_fastRemove_b59b0_28 : decode cJx4a65c_fastRemove_b59b0 28 = .ok (.iload_n 3, 1) := by decide +kernel
theorem dJx4a65c_fastRemove_b59b0_29 : decode cJx4a65c_fastRemove_b59b0 29 = .ok (.iload_n 2, 1) := by decide +kernel
theorem dJx4a65c_fastRemove_b59b0_30 : decode cJx4a65c_fastRemove_b59b0 30 = .ok (.isub, 1) := by decide +kernel
theorem dJx4a65c_fastRemove_b59b0_31 : decode cJx4a65c_fastRemove_b59b0 31 = .ok (.invokestatic 112, 3) := by decide +kernel
theorem dJx4a65c_fastRemove_b59b0_34 : decode cJx4a65c_fastRemove_b59b0 34 = .ok (.aload_n 1, 1) := by decide +kernel
theorem dJx4a65c_fastRemove_b59b0_35 : decode cJx4a65c_fastRemove_b59b0 35 = .ok (.aload_n 0, 1) := by decide +kernel
theorem dJx4a65c_fastRemove_b59b0_36 : decode cJx4a65c_fastRemove_b59b0 36 = .ok (.iload_n 3, 1) := by decide +kernel
theorem dJx4a65c_fastRemove_b59b0_37 : decode cJx4a65c_fastRemove_b59b0 37 = .ok (.dup_x1, 1) := by decide +kernel
theorem dJx4a65c_fastRemove_b59b0_38 : decode cJx4a65c_fastRemove_b59b0 38 = .ok (.putfield 48, 3) := by decide +kernel
theorem dJx4a65c_fastRemove_b59b0_41 : decode cJx4a65c_fastRemove_b59b0 41 = .ok (.aconst_null, 1) := by decide +kernel
theorem dJx4a65c_fastRemove_b59b0_42 : decode cJx4a65c_fastRemove_b59b0 42 = .ok (.aastore, 1) := by decide +kernel
theorem dJx4a65c_fastRemove_b59b0_43 : decode cJx4a65c_fastRemove_b59b0 43 = .ok (.return_, 1) := by decide +kernel
theorem dJ7_copyOf_1904c_0 : decode cJ7_copyOf_1904c 0 = .ok (.aload_n 0, 1) := by decide +kernel
theorem dJ7_copyOf_1904c_1 : decode cJ7_copyOf_1904c 1 = .ok (.iload_n 1, 1) := by decide +kernel
theorem dJ7_copyOf_1904c_2 : decode cJ7_copyOf_1904c 2 = .ok (.aload_n 0, 1) := by decide +kernel
theorem dJ7_copyOf_1904c_3 : decode cJ7_copyOf_1904c 3 = .ok (.invokevirtual 86, 3) := by decide +kernel
theorem dJ7_copyOf_1904c_6 : decode cJ7_copyOf_1904c 6 = .ok (.invokestatic 300, 3) := by decide +kernel
theorem dJ7_copyOf_1904c_9 : decode cJ7_copyOf_1904c 9 = .ok (.areturn, 1) := by decide +kernel
theorem dJ7_copyOf_6403c_0 : decode cJ7_copyOf_6403c 0 = .ok (.aload_n 2, 1) := by decide +kernel
theorem dJ7_copyOf_6403c_1 : decode cJ7_copyOf_6403c 1 = .ok (.ldc 110, 2) := by decide +kernel
theorem dJ7_copyOf_6403c_3 : decode cJ7_copyOf_6403c 3 = .ok (.if_acmp .ne 10, 3) := by decide +kernel
theorem dJ7_copyOf_6403c_6 : decode cJ7_copyOf_6403c 6 = .ok (.iload_n 1, 1) := by decide +kernel
theorem dJ7_copyOf_6403c_7 : decode cJ7_copyOf_6403c 7 = .ok (.anewarray 2, 3) := by decide +kernel
theorem dJ7_copyOf_6403c_10 : decode cJ7_copyOf_6403c 10 = .ok (.goto 14, 3) := by decide +kernel
theorem dJ7_copyOf_6403c_13 : decode cJ7_copyOf_6403c 13 = .ok (.aload_n 2, 1) := by decide +kernel
theorem dJ7_copyOf_6403c_14 : decode cJ7_copyOf_6403c 14 = .ok (.invokevirtual 90, 3) := by decide +kernel
theorem dJ7_copyOf_6403c_17 : decode cJ7_copyOf_6403c 17 = .ok (.iload_n 1, 1) := by decide +kernel
theorem dJ7_copyOf_6403c_18 : decode cJ7_copyOf_6403c 18 = .ok (.invokestatic 95, 3) := by decide +kernel
theorem dJ7_copyOf_6403c_21 : decode cJ7_copyOf_6403c 21 = .ok (.checkcast 110, 3) := by decide +kernel
theorem dJ7_copyOf_6403c_24 : decode cJ7_copyOf_6403c 24 = .ok (.astore_n 3, 1) := by decide +kernel
theorem dJ7_copyOf_6403c_25 : decode cJ7_copyOf_6403c 25 = .ok (.aload_n 0, 1) := by decide +kernel
theorem dJ7_copyOf_6403c_26 : decode cJ7_copyOf_6403c 26 = .ok (.iconst 0, 1) := by decide +kernel
theorem dJ7_copyOf_6403c_27 : decode cJ7_copyOf_6403c 27 = .ok (.aload_n 3, 1) := by decide +kernel
theorem dJ7_copyOf_6403c_28 : decode cJ7_copyOf_6403c 28 = .ok (.iconst 0, 1) := by decide +kernel
theorem dJ7_copyOf_6403c_29 : decode cJ7_copyOf_6403c 29 = .ok (.aload_n 0, 1) := by decide +kernel
theorem dJ7_copyOf_6403c_30 : decode cJ7_copyOf_6403c 30 = .ok (.arraylength, 1) := by decide +kernel
theorem dJ7_copyOf_6403c_31 : decode cJ7_copyOf_6403c 31 = .ok (.iload_n 1, 1) := by decide +kernel
theorem dJ7_copyOf_6403c_32 : decode cJ7_copyOf_6403c 32 = .ok (.invokestatic 304, 3) := by decide +kernel
theorem dJ7_copyOf_6403c_35 : decode cJ7_copyOf_6403c 35 = .ok (.invokestatic 150, 3) := by decide +kernel
theorem dJ7_copyOf_6403c_38 : decode cJ7_copyOf_6403c 38 = .ok (.aload_n 3, 1) := by decide +kernel
theorem dJ7_copyOf_6403c_39 : decode cJ7_copyOf_6403c 39 = .ok (.areturn, 1) := by decide +kernel
theorem dJ15_checkIndex_7cf53_0 : decode cJ15_checkIndex_7cf53 0 = .ok (.iload_n 0, 1) := by decide +kernel
theorem dJ15_checkIndex_7cf53_1 : decode cJ15_checkIndex_7cf53 1 = .ok (.iload_n 1, 1) := by decide +kernel
theorem dJ15_checkIndex_7cf53_2 : decode cJ15_checkIndex_7cf53 2 = .ok (.aconst_null, 1) := by decide +kernel
theorem dJ15_checkIndex_7cf53_3 : decode cJ15_checkIndex_7cf53 3 = .ok (.invokestatic 105, 3) := by decide +kernel
theorem dJ15_checkIndex_7cf53_6 : decode cJ15_checkIndex_7cf53 6 = .ok (.ireturn, 1) := by decide +kernel
theorem dJ8_newLength_cabcc_0 : decode cJ8_newLength_cabcc 0 = .ok (.iload_n 0, 1) := by decide +kernel
theorem dJ8_newLength_cabcc_1 : decode cJ8_newLength_cabcc 1 = .ok (.iload_n 1, 1) := by decide +kernel
theorem dJ8_newLength_cabcc_2 : decode cJ8_newLength_cabcc 2 = .ok (.iload_n 2, 1) := by decide +kernel
theorem dJ8_newLength_cabcc_3 : decode cJ8_newLength_cabcc 3 = .ok (.invokestatic 194, 3) := by decide +kernel
theorem dJ8_newLength_cabcc_6 : decode cJ8_newLength_cabcc 6 = .ok (.iadd, 1) := by decide +kernel
theorem dJ8_newLength_cabcc_7 : decode cJ8_newLength_cabcc 7 = .ok (.istore_n 3, 1) := by decide +kernel
theorem dJ8_newLength_cabcc_8 : decode cJ8_newLength_cabcc 8 = .ok (.iconst 0, 1) := by decide +kernel
theorem dJ8_newLength_cabcc_9 : decode cJ8_newLength_cabcc 9 = .ok (.iload_n 3, 1) := by decide +kernel
theorem dJ8_newLength_cabcc_10 : decode cJ8_newLength_cabcc 10 = .ok (.if_icmp .ge 11, 3) := by decide +kernel
theorem dJ8_newLength_cabcc_13 : decode cJ8_newLength_cabcc 13 = .ok (.iload_n 3, 1) := by decide +kernel
theorem dJ8_newLength_cabcc_14 : decode cJ8_newLength_cabcc 14 = .ok (.ldc 200, 2) := by decide +kernel
theorem dJ8_newLength_cabcc_16 : decode cJ8_newLength_cabcc 16 = .ok (.if_icmp .gt 5, 3) := by decide +kernel
theorem dJ8_newLength_cabcc_19 : decode cJ8_newLength_cabcc 19 = .ok (.iload_n 3, 1) := by decide +kernel
theorem dJ8_newLength_cabcc_20 : decode cJ8_newLength_cabcc 20 = .ok (.ireturn, 1) := by decide +kernel
theorem dJ8_newLength_cabcc_21 : decode cJ8_newLength_cabcc 21 = .ok (.iload_n 0, 1) := by decide +kernel
theorem dJ8_newLength_cabcc_22 : decode cJ8_newLength_cabcc 22 = .ok (.iload_n 1, 1) := by decide +kernel
theorem dJ8_newLength_cabcc_23 : decode cJ8_newLength_cabcc 23 = .ok (.invokestatic 201, 3) := by decide +kernel
theorem dJ8_newLength_cabcc_26 : decode cJ8_newLength_cabcc 26 = .ok (.ireturn, 1) := by decide +kernel
theorem dJ8_hugeLength_7cf53_0 : decode cJ8_hugeLength_7cf53 0 = .ok (.iload_n 0, 1) := by decide +kernel
theorem dJ8_hugeLength_7cf53_1 : decode cJ8_hugeLength_7cf53 1 = .ok (.iload_n 1, 1) := by decide +kernel
theorem dJ8_hugeLength_7cf53_2 : decode cJ8_hugeLength_7cf53 2 = .ok (.iadd, 1) := by decide +kernel
theorem dJ8_hugeLength_7cf53_3 : decode cJ8_hugeLength_7cf53 3 = .ok (.istore_n 2, 1) := by decide +kernel
theorem dJ8_hugeLength_7cf53_4 : decode cJ8_hugeLength_7cf53 4 = .ok (.iload_n 2, 1) := by decide +kernel
theorem dJ8_hugeLength_7cf53_5 : decode cJ8_hugeLength_7cf53 5 = .ok (.ifCond .ge 44, 3) := by decide +kernel
theorem dJ8_hugeLength_7cf53_8 : decode cJ8_hugeLength_7cf53 8 = .ok (.new 204, 3) := by decide +kernel
theorem dJ8_hugeLength_7cf53_11 : decode cJ8_hugeLength_7cf53 11 = .ok (.dup, 1) := by decide +kernel
theorem dJ8_hugeLength_7cf53_12 : decode cJ8_hugeLength_7cf53 12 = .ok (.new 89, 3) := by decide +kernel
theorem dJ8_hugeLength_7cf53_15 : decode cJ8_hugeLength_7cf53 15 = .ok (.dup, 1) := by decide +kernel
theorem dJ8_hugeLength_7cf53_16 : decode cJ8_hugeLength_7cf53 16 = .ok (.invokespecial 91, 3) := by decide +kernel
theorem dJ8_hugeLength_7cf53_19 : decode cJ8_hugeLength_7cf53 19 = .ok (.ldc 206, 2) := by decide +kernel
theorem dJ8_hugeLength_7cf53_21 : decode cJ8_hugeLength_7cf53 21 = .ok (.invokevirtual 94, 3) := by decide +kernel
theorem dJ8_hugeLength_7cf53_24 : decode cJ8_hugeLength_7cf53 24 = .ok (.iload_n 0, 1) := by decide +kernel
theorem dJ8_hugeLength_7cf53_25 : decode cJ8_hugeLength_7cf53 25 = .ok (.invokevirtual 98, 3) := by decide +kernel
theorem dJ8_hugeLength_7cf53_28 : decode cJ8_hugeLength_7cf53 28 = .ok (.ldc 208, 2) := by decide +kernel
theorem dJ8_hugeLength_7cf53_30 : decode cJ8_hugeLength_7cf53 30 = .ok (.invokevirtual 94, 3) := by decide +kernel
theorem dJ8_hugeLength_7cf53_33 : decode cJ8_hugeLength_7cf53 33 = .ok (.iload_n 1, 1) := by decide +kernel
theorem dJ8_hugeLength_7cf53_34 : decode cJ8_hugeLength_7cf53 34 = .ok (.invokevirtual 98, 3) := by decide +kernel
theorem dJ8_hugeLength_7cf53_37 : decode cJ8_hugeLength_7cf53 37 = .ok (.ldc 210, 2) := by decide +kernel
theorem dJ8_hugeLength_7cf53_39 : decode cJ8_hugeLength_7cf53 39 = .ok (.invokevirtual 94, 3) := by decide +kernel
theorem dJ8_hugeLength_7cf53_42 : decode cJ8_hugeLength_7cf53 42 = .ok (.invokevirtual 101, 3) := by decide +kernel
theorem dJ8_hugeLength_7cf53_45 : decode cJ8_hugeLength_7cf53 45 = .ok (.invokespecial 212, 3) := by decide +kernel
theorem dJ8_hugeLength_7cf53_48 : decode cJ8_hugeLength_7cf53 48 = .ok (.athrow, 1) := by decide +kernel
theorem dJ8_hugeLength_7cf53_49 : decode cJ8_hugeLength_7cf53 49 = .ok (.iload_n 2, 1) := by decide +kernel
theorem dJ8_hugeLength_7cf53_50 : decode cJ8_hugeLength_7cf53 50 = .ok (.ldc 200, 2) := by decide +kernel
theorem dJ8_hugeLength_7cf53_52 : decode cJ8_hugeLength_7cf53 52 = .ok (.if_icmp .gt 6, 3) := by decide +kernel
theorem dJ8_hugeLength_7cf53_55 : decode cJ8_hugeLength_7cf53 55 = .ok (.ldc 200, 2) := by decide +kernel
theorem dJ8_hugeLength_7cf53_57 : decode cJ8_hugeLength_7cf53 57 = .ok (.ireturn, 1) := by decide +kernel
theorem dJ8_hugeLength_7cf53_58 : decode cJ8_hugeLength_7cf53 58 = .ok (.iload_n 2, 1) := by decide +kernel
theorem dJ8_hugeLength_7cf53_59 : decode cJ8_hugeLength_7cf53 59 = .ok (.ireturn, 1) := by decide +kernel
theorem dJ3_checkIndex_8e157_0 : decode cJ3_checkIndex_8e157 0 = .ok (.iload_n 0, 1) := by decide +kernel
theorem dJ3_checkIndex_8e157_1 : decode cJ3_checkIndex_8e157 1 = .ok (.ifCond .lt 8, 3) := by decide +kernel
theorem dJ3_checkIndex_8e157_4 : decode cJ3_checkIndex_8e157 4 = .ok (.iload_n 0, 1) := by decide +kernel
theorem dJ3_checkIndex_8e157_5 : decode cJ3_checkIndex_8e157 5 = .ok (.iload_n 1, 1) := by decide +kernel
theorem dJ3_checkIndex_8e157_6 : decode cJ3_checkIndex_8e157 6 = .ok (.if_icmp .lt 10, 3) := by decide +kernel
theorem dJ3_checkIndex_8e157_9 : decode cJ3_checkIndex_8e157 9 = .ok (.aload_n 2, 1) := by decide +kernel
theorem dJ3_checkIndex_8e157_10 : decode cJ3_checkIndex_8e157 10 = .ok (.iload_n 0, 1) := by decide +kernel
theorem dJ3_checkIndex_8e157_11 : decode cJ3_checkIndex_8e157 11 = .ok (.iload_n 1, 1) := by decide +kernel
theorem dJ3_checkIndex_8e157_12 : decode cJ3_checkIndex_8e157 12 = .ok (.invokestatic 95, 3) := by decide +kernel
theorem dJ3_checkIndex_8e157_15 : decode cJ3_checkIndex_8e157 15 = .ok (.athrow, 1) := by decide +kernel
theorem dJ3_checkIndex_8e157_16 : decode cJ3_checkIndex_8e157 16 = .ok (.iload_n 0, 1) := by decide +kernel
theorem dJ3_checkIndex_8e157_17 : decode cJ3_checkIndex_8e157 17 = .ok (.ireturn, 1) := by decide +kernel
theorem dL_below_0 : decode cL_below 0 = .ok (.iload_n 0, 1) := by decide +kernel
theorem dL_below_1 : decode cL_below 1 = .ok (.ldc 7, 2) := by decide +kernel
theorem dL_below_3 : decode cL_below 3 = .ok (.iand, 1) := by decide +kernel
theorem dL_below_4 : decode cL_below 4 = .ok (.iload_n 1, 1) := by decide +kernel
theorem dL_below_5 : decode cL_below 5 = .ok (.irem, 1) := by decide +kernel
theorem dL_below_6 : decode cL_below 6 = .ok (.ireturn, 1) := by decide +kernel
theorem dL_cell_0 : decode cL_cell 0 = .ok (.iload_n 1, 1) := by decide +kernel
theorem dL_cell_1 : decode cL_cell 1 = .ok (.aload_n 0, 1) := by decide +kernel
theorem dL_cell_2 : decode cL_cell 2 = .ok (.arraylength, 1) := by decide +kernel
theorem dL_cell_3 : decode cL_cell 3 = .ok (.if_icmp .ge 9, 3) := by decide +kernel
theorem dL_cell_6 : decode cL_cell 6 = .ok (.aload_n 0, 1) := by decide +kernel
theorem dL_cell_7 : decode cL_cell 7 = .ok (.iload_n 1, 1) := by decide +kernel
theorem dL_cell_8 : decode cL_cell 8 = .ok (.iaload, 1) := by decide +kernel
theorem dL_cell_9 : decode cL_cell 9 = .ok (.goto 9, 3) := by decide +kernel
theorem dL_cell_12 : decode cL_cell 12 = .ok (.ldc 8, 2) := by decide +kernel
theorem dL_cell_14 : decode cL_cell 14 = .ok (.iload_n 1, 1) := by decide +kernel
theorem dL_cell_15 : decode cL_cell 15 = .ok (.iconst 3, 1) := by decide +kernel
theorem dL_cell_16 : decode cL_cell 16 = .ok (.iadd, 1) := by decide +kernel
theorem dL_cell_17 : decode cL_cell 17 = .ok (.imul, 1) := by decide +kernel
theorem dL_cell_18 : decode cL_cell 18 = .ok (.ireturn, 1) := by decide +kernel
theorem dL_law_0 : decode cL_law 0 = .ok (.new 9, 3) := by decide +kernel
theorem dL_law_3 : decode cL_law 3 = .ok (.dup, 1) := by decide +kernel
theorem dL_law_4 : decode cL_law 4 = .ok (.invokespecial 11, 3) := by decide +kernel
theorem dL_law_7 : decode cL_law 7 = .ok (.astore_n 1, 1) := by decide +kernel
theorem dL_law_8 : decode cL_law 8 = .ok (.iconst 1, 1) := by decide +kernel
theorem dL_law_9 : decode cL_law 9 = .ok (.aload_n 0, 1) := by decide +kernel
theorem dL_law_10 : decode cL_law 10 = .ok (.iconst 0, 1) := by decide +kernel
theorem dL_law_11 : decode cL_law 11 = .ok (.invokestatic 12, 3) := by decide +kernel
theorem dL_law_14 : decode cL_law 14 = .ok (.iconst 3, 1) := by decide +kernel
theorem dL_law_15 : decode cL_law 15 = .ok (.invokestatic 18, 3) := by decide +kernel
theorem dL_law_18 : decode cL_law 18 = .ok (.iadd, 1) := by decide +kernel
theorem dL_law_19 : decode cL_law 19 = .ok (.istore_n 2, 1) := by decide +kernel
theorem dL_law_20 : decode cL_law 20 = .ok (.iconst 0, 1) := by decide +kernel
theorem dL_law_21 : decode cL_law 21 = .ok (.istore_n 3, 1) := by decide +kernel
theorem dL_law_22 : decode cL_law 22 = .ok (.iload_n 3, 1) := by decide +kernel
theorem dL_law_23 : decode cL_law 23 = .ok (.iload_n 2, 1) := by decide +kernel
theorem dL_law_24 : decode cL_law 24 = .ok (.if_icmp .ge 14, 3) := by decide +kernel
theorem dL_law_27 : decode cL_law 27 = .ok (.aload_n 1, 1) := by decide +kernel
theorem dL_law_28 : decode cL_law 28 = .ok (.invokevirtual 22, 3) := by decide +kernel
theorem dL_law_31 : decode cL_law 31 = .ok (.pop, 1) := by decide +kernel
theorem dL_law_32 : decode cL_law 32 = .ok (.iinc 3 1, 3) := by decide +kernel
theorem dL_law_35 : decode cL_law 35 = .ok (.goto (-13), 3) := by decide +kernel
theorem dL_law_38 : decode cL_law 38 = .ok (.iconst 0, 1) := by decide +kernel
theorem dL_law_39 : decode cL_law 39 = .ok (.istore_n 3, 1) := by decide +kernel
theorem dL_law_40 : decode cL_law 40 = .ok (.iload_n 3, 1) := by decide +kernel
theorem dL_law_41 : decode cL_law 41 = .ok (.bipush 100, 2) := by decide +kernel
theorem dL_law_43 : decode cL_law 43 = .ok (.if_icmp .ge 94, 3) := by decide +kernel
theorem dL_law_46 : decode cL_law 46 = .ok (.aload_n 1, 1) := by decide +kernel
theorem dL_law_47 : decode cL_law 47 = .ok (.iload_n 2, 1) := by decide +kernel
theorem dL_law_48 : decode cL_law 48 = .ok (.aload_n 0, 1) := by decide +kernel
theorem dL_law_49 : decode cL_law 49 = .ok (.iconst 1, 1) := by decide +kernel
theorem dL_law_50 : decode cL_law 50 = .ok (.iload_n 3, 1) := by decide +kernel
theorem dL_law_51 : decode cL_law 51 = .ok (.bipush 25, 2) := by decide +kernel
theorem dL_law_53 : decode cL_law 53 = .ok (.irem, 1) := by decide +kernel
theorem dL_law_54 : decode cL_law 54 = .ok (.iadd, 1) := by decide +kernel
theorem dL_law_55 : decode cL_law 55 = .ok (.invokestatic 12, 3) := by decide +kernel
theorem dL_law_58 : decode cL_law 58 = .ok (.iload_n 3, 1) := by decide +kernel
theorem dL_law_59 : decode cL_law 59 = .ok (.bipush 25, 2) := by decide +kernel
theorem dL_law_61 : decode cL_law 61 = .ok (.idiv, 1) := by decide +kernel
theorem dL_law_62 : decode cL_law 62 = .ok (.bipush 6, 2) := by decide +kernel
theorem dL_law_64 : decode cL_law 64 = .ok (.imul, 1) := by decide +kernel
theorem dL_law_65 : decode cL_law 65 = .ok (.ishr, 1) := by decide +kernel
theorem dL_law_66 : decode cL_law 66 = .ok (.invokestatic 26, 3) := by decide +kernel
theorem dL_law_69 : decode cL_law 69 = .ok (.iload_n 3, 1) := by decide +kernel
theorem dL_law_70 : decode cL_law 70 = .ok (.bipush 20, 2) := by decide +kernel
theorem dL_law_72 : decode cL_law 72 = .ok (.irem, 1) := by decide +kernel
theorem dL_law_73 : decode cL_law 73 = .ok (.bipush 19, 2) := by decide +kernel
theorem dL_law_75 : decode cL_law 75 = .ok (.if_icmp .eq 6, 3) := by decide +kernel
theorem dL_law_78 : decode cL_law 78 = .ok (.goto 53, 3) := by decide +kernel
theorem dL_law_81 : decode cL_law 81 = .ok (.aload_n 1, 1) := by decide +kernel
theorem dL_law_82 : decode cL_law 82 = .ok (.invokevirtual 30, 3) := by decide +kernel
theorem dL_law_85 : decode cL_law 85 = .ok (.lstore 4, 2) := by decide +kernel
theorem dL_law_87 : decode cL_law 87 = .ok (.aload_n 1, 1) := by decide +kernel
theorem dL_law_88 : decode cL_law 88 = .ok (.iload_n 2, 1) := by decide +kernel
theorem dL_law_89 : decode cL_law 89 = .ok (.invokestatic 34, 3) := by decide +kernel
theorem dL_law_92 : decode cL_law 92 = .ok (.ifCond .eq 27, 3) := by decide +kernel
theorem dL_law_95 : decode cL_law 95 = .ok (.aload_n 1, 1) := by decide +kernel
theorem dL_law_96 : decode cL_law 96 = .ok (.invokevirtual 38, 3) := by decide +kernel
theorem dL_law_99 : decode cL_law 99 = .ok (.ifCond .lt 20, 3) := by decide +kernel
theorem dL_law_102 : decode cL_law 102 = .ok (.aload_n 1, 1) := by decide +kernel
theorem dL_law_103 : decode cL_law 103 = .ok (.invokevirtual 41, 3) := by decide +kernel
theorem dL_law_106 : decode cL_law 106 = .ok (.ifCond .lt 13, 3) := by decide +kernel
theorem dL_law_109 : decode cL_law 109 = .ok (.aload_n 1, 1) := by decide +kernel
theorem dL_law_110 : decode cL_law 110 = .ok (.invokevirtual 30, 3) := by decide +kernel
theorem dL_law_113 : decode cL_law 113 = .ok (.lload 4, 2) := by decide +kernel
theorem dL_law_115 : decode cL_law 115 = .ok (.lcmp, 1) := by decide +kernel
theorem dL_law_116 : decode cL_law 116 = .ok (.ifCond .eq 5, 3) := by decide +kernel
theorem dL_law_119 : decode cL_law 119 = .ok (.iconst 0, 1) := by decide +kernel
theorem dL_law_120 : decode cL_law 120 = .ok (.ireturn, 1) := by decide +kernel
theorem dL_law_121 : decode cL_law 121 = .ok (.aload_n 1, 1) := by decide +kernel
theorem dL_law_122 : decode cL_law 122 = .ok (.iload_n 2, 1) := by decide +kernel
theorem dL_law_123 : decode cL_law 123 = .ok (.invokestatic 44, 3) := by decide +kernel
theorem dL_law_126 : decode cL_law 126 = .ok (.ifCond .ne 5, 3) := by decide +kernel
theorem dL_law_129 : decode cL_law 129 = .ok (.iconst 0, 1) := by decide +kernel
theorem dL_law_130 : decode cL_law 130 = .ok (.ireturn, 1) := by decide +kernel
theorem dL_law_131 : decode cL_law 131 = .ok (.iinc 3 1, 3) := by decide +kernel
theorem dL_law_134 : decode cL_law 134 = .ok (.goto (-94), 3) := by decide +kernel
theorem dL_law_137 : decode cL_law 137 = .ok (.iconst 1, 1) := by decide +kernel
theorem dL_law_138 : decode cL_law 138 = .ok (.ireturn, 1) := by decide +kernel
theorem dL_act_0 : decode cL_act 0 = .ok (.iload_n 2, 1) := by decide +kernel
theorem dL_act_1 : decode cL_act 1 = .ok (.iconst 3, 1) := by decide +kernel
theorem dL_act_2 : decode cL_act 2 = .ok (.ishr, 1) := by decide +kernel
theorem dL_act_3 : decode cL_act 3 = .ok (.iload_n 1, 1) := by decide +kernel
theorem dL_act_4 : decode cL_act 4 = .ok (.invokestatic 18, 3) := by decide +kernel
theorem dL_act_7 : decode cL_act 7 = .ok (.istore_n 3, 1) := by decide +kernel
theorem dL_act_8 : decode cL_act 8 = .ok (.iload_n 2, 1) := by decide +kernel
theorem dL_act_9 : decode cL_act 9 = .ok (.iconst 5, 1) := by decide +kernel
theorem dL_act_10 : decode cL_act 10 = .ok (.ishr, 1) := by decide +kernel
theorem dL_act_11 : decode cL_act 11 = .ok (.iconst 1, 1) := by decide +kernel
theorem dL_act_12 : decode cL_act 12 = .ok (.aload_n 0, 1) := by decide +kernel
theorem dL_act_13 : decode cL_act 13 = .ok (.invokevirtual 47, 3) := by decide +kernel
theorem dL_act_16 : decode cL_act 16 = .ok (.invokestatic 50, 3) := by decide +kernel
theorem dL_act_19 : decode cL_act 19 = .ok (.invokestatic 18, 3) := by decide +kernel
theorem dL_act_22 : decode cL_act 22 = .ok (.istore 4, 2) := by decide +kernel
theorem dL_act_24 : decode cL_act 24 = .ok (.iload_n 2, 1) := by decide +kernel
theorem dL_act_25 : decode cL_act 25 = .ok (.iconst 4, 1) := by decide +kernel
theorem dL_act_26 : decode cL_act 26 = .ok (.ishr, 1) := by decide +kernel
theorem dL_act_27 : decode cL_act 27 = .ok (.iconst 1, 1) := by decide +kernel
theorem dL_act_28 : decode cL_act 28 = .ok (.aload_n 0, 1) := by decide +kernel
theorem dL_act_29 : decode cL_act 29 = .ok (.invokevirtual 55, 3) := by decide +kernel
theorem dL_act_32 : decode cL_act 32 = .ok (.invokestatic 50, 3) := by decide +kernel
theorem dL_act_35 : decode cL_act 35 = .ok (.invokestatic 18, 3) := by decide +kernel
theorem dL_act_38 : decode cL_act 38 = .ok (.istore 5, 2) := by decide +kernel
theorem dL_act_40 : decode cL_act 40 = .ok (.iload_n 2, 1) := by decide +kernel
theorem dL_act_41 : decode cL_act 41 = .ok (.bipush 16, 2) := by decide +kernel
theorem dL_act_43 : decode cL_act 43 = .ok (.invokestatic 18, 3) := by decide +kernel
theorem dL_act_46 : decode cL_act 46 = .ok (.tableswitch 191 0 8 #[50, 60, 80, 99, 107, 118, 128, 137, 164], 50) := by decide +kernel
theorem dL_act_96 : decode cL_act 96 = .ok (.aload_n 0, 1) := by decide +kernel
theorem dL_act_97 : decode cL_act 97 = .ok (.iload 4, 2) := by decide +kernel
theorem dL_act_99 : decode cL_act 99 = .ok (.invokevirtual 58, 3) := by decide +kernel
theorem dL_act_102 : decode cL_act 102 = .ok (.pop, 1) := by decide +kernel
theorem dL_act_103 : decode cL_act 103 = .ok (.goto 206, 3) := by decide +kernel
theorem dL_act_106 : decode cL_act 106 = .ok (.aload_n 0, 1) := by decide +kernel
theorem dL_act_107 : decode cL_act 107 = .ok (.iload 4, 2) := by decide +kernel
theorem dL_act_109 : decode cL_act 109 = .ok (.iload_n 3, 1) := by decide +kernel
theorem dL_act_110 : decode cL_act 110 = .ok (.iload_n 2, 1) := by decide +kernel
theorem dL_act_111 : decode cL_act 111 = .ok (.bipush 7, 2) := by decide +kernel
theorem dL_act_113 : decode cL_act 113 = .ok (.ishr, 1) := by decide +kernel
theorem dL_act_114 : decode cL_act 114 = .ok (.bipush 30, 2) := by decide +kernel
theorem dL_act_116 : decode cL_act 116 = .ok (.invokestatic 18, 3) := by decide +kernel
theorem dL_act_119 : decode cL_act 119 = .ok (.invokevirtual 62, 3) := by decide +kernel
theorem dL_act_122 : decode cL_act 122 = .ok (.pop, 1) := by decide +kernel
theorem dL_act_123 : decode cL_act 123 = .ok (.goto 186, 3) := by decide +kernel
theorem dL_act_126 : decode cL_act 126 = .ok (.aload_n 0, 1) := by decide +kernel
theorem dL_act_127 : decode cL_act 127 = .ok (.iconst 4, 1) := by decide +kernel
theorem dL_act_128 : decode cL_act 128 = .ok (.iload_n 2, 1) := by decide +kernel
theorem dL_act_129 : decode cL_act 129 = .ok (.bipush 6, 2) := by decide +kernel
theorem dL_act_131 : decode cL_act 131 = .ok (.ishr, 1) := by decide +kernel
theorem dL_act_132 : decode cL_act 132 = .ok (.bipush 20, 2) := by decide +kernel
theorem dL_act_134 : decode cL_act 134 = .ok (.invokestatic 18, 3) := by decide +kernel
theorem dL_act_137 : decode cL_act 137 = .ok (.iadd, 1) := by decide +kernel
theorem dL_act_138 : decode cL_act 138 = .ok (.invokevirtual 66, 3) := by decide +kernel
theorem dL_act_141 : decode cL_act 141 = .ok (.pop, 1) := by decide +kernel
theorem dL_act_142 : decode cL_act 142 = .ok (.goto 167, 3) := by decide +kernel
theorem dL_act_145 : decode cL_act 145 = .ok (.aload_n 0, 1) := by decide +kernel
theorem dL_act_146 : decode cL_act 146 = .ok (.invokevirtual 70, 3) := by decide +kernel
theorem dL_act_149 : decode cL_act 149 = .ok (.pop, 1) := by decide +kernel
theorem dL_act_150 : decode cL_act 150 = .ok (.goto 159, 3) := by decide +kernel
theorem dL_act_153 : decode cL_act 153 = .ok (.aload_n 0, 1) := by decide +kernel
theorem dL_act_154 : decode cL_act 154 = .ok (.iload 5, 2) := by decide +kernel
theorem dL_act_156 : decode cL_act 156 = .ok (.iload_n 3, 1) := by decide +kernel
theorem dL_act_157 : decode cL_act 157 = .ok (.invokevirtual 73, 3) := by decide +kernel
theorem dL_act_160 : decode cL_act 160 = .ok (.pop, 1) := by decide +kernel
theorem dL_act_161 : decode cL_act 161 = .ok (.goto 148, 3) := by decide +kernel
theorem dL_act_164 : decode cL_act 164 = .ok (.aload_n 0, 1) := by decide +kernel
theorem dL_act_165 : decode cL_act 165 = .ok (.iload 5, 2) := by decide +kernel
theorem dL_act_167 : decode cL_act 167 = .ok (.invokevirtual 76, 3) := by decide +kernel
theorem dL_act_170 : decode cL_act 170 = .ok (.pop, 1) := by decide +kernel
theorem dL_act_171 : decode cL_act 171 = .ok (.goto 138, 3) := by decide +kernel
theorem dL_act_174 : decode cL_act 174 = .ok (.aload_n 0, 1) := by decide +kernel
theorem dL_act_175 : decode cL_act 175 = .ok (.iload_n 3, 1) := by decide +kernel
theorem dL_act_176 : decode cL_act 176 = .ok (.invokevirtual 79, 3) := by decide +kernel
theorem dL_act_179 : decode cL_act 179 = .ok (.pop, 1) := by decide +kernel
theorem dL_act_180 : decode cL_act 180 = .ok (.goto 129, 3) := by decide +kernel
theorem dL_act_183 : decode cL_act 183 = .ok (.aload_n 0, 1) := by decide +kernel
theorem dL_act_184 : decode cL_act 184 = .ok (.iload_n 3, 1) := by decide +kernel
theorem dL_act_185 : decode cL_act 185 = .ok (.iload_n 2, 1) := by decide +kernel
theorem dL_act_186 : decode cL_act 186 = .ok (.bipush 6, 2) := by decide +kernel
theorem dL_act_188 : decode cL_act 188 = .ok (.ishr, 1) := by decide +kernel
theorem dL_act_189 : decode cL_act 189 = .ok (.bipush 8, 2) := by decide +kernel
theorem dL_act_191 : decode cL_act 191 = .ok (.invokestatic 18, 3) := by decide +kernel
theorem dL_act_194 : decode cL_act 194 = .ok (.iload_n 2, 1) := by decide +kernel
theorem dL_act_195 : decode cL_act 195 = .ok (.bipush 8, 2) := by decide +kernel
theorem dL_act_197 : decode cL_act 197 = .ok (.ishr, 1) := by decide +kernel
theorem dL_act_198 : decode cL_act 198 = .ok (.bipush 30, 2) := by decide +kernel
theorem dL_act_200 : decode cL_act 200 = .ok (.invokestatic 18, 3) := by decide +kernel
theorem dL_act_203 : decode cL_act 203 = .ok (.invokevirtual 82, 3) := by decide +kernel
theorem dL_act_206 : decode cL_act 206 = .ok (.pop, 1) := by decide +kernel
theorem dL_act_207 : decode cL_act 207 = .ok (.goto 102, 3) := by decide +kernel
theorem dL_act_210 : decode cL_act 210 = .ok (.iload_n 2, 1) := by decide +kernel
theorem dL_act_211 : decode cL_act 211 = .ok (.bipush 6, 2) := by decide +kernel
theorem dL_act_213 : decode cL_act 213 = .ok (.ishr, 1) := by decide +kernel
theorem dL_act_214 : decode cL_act 214 = .ok (.iconst 2, 1) := by decide +kernel
theorem dL_act_215 : decode cL_act 215 = .ok (.invokestatic 18, 3) := by decide +kernel
theorem dL_act_218 : decode cL_act 218 = .ok (.ifCond .ne 11, 3) := by decide +kernel
theorem dL_act_221 : decode cL_act 221 = .ok (.aload_n 0, 1) := by decide +kernel
theorem dL_act_222 : decode cL_act 222 = .ok (.invokevirtual 85, 3) := by decide +kernel
theorem dL_act_225 : decode cL_act 225 = .ok (.pop, 1) := by decide +kernel
theorem dL_act_226 : decode cL_act 226 = .ok (.goto 83, 3) := by decide +kernel
theorem dL_act_229 : decode cL_act 229 = .ok (.aload_n 0, 1) := by decide +kernel
theorem dL_act_230 : decode cL_act 230 = .ok (.invokevirtual 88, 3) := by decide +kernel
theorem dL_act_233 : decode cL_act 233 = .ok (.pop, 1) := by decide +kernel
theorem dL_act_234 : decode cL_act 234 = .ok (.goto 75, 3) := by decide +kernel
theorem dL_act_237 : decode cL_act 237 = .ok (.iconst 0, 1) := by decide +kernel
theorem dL_act_238 : decode cL_act 238 = .ok (.istore 6, 2) := by decide +kernel
theorem dL_act_240 : decode cL_act 240 = .ok (.iload 6, 2) := by decide +kernel
theorem dL_act_242 : decode cL_act 242 = .ok (.iload_n 1, 1) := by decide +kernel
theorem dL_act_243 : decode cL_act 243 = .ok (.if_icmp .ge 61, 3) := by decide +kernel
theorem dL_act_246 : decode cL_act 246 = .ok (.iload_n 2, 1) := by decide +kernel
theorem dL_act_247 : decode cL_act 247 = .ok (.iconst 2, 1) := by decide +kernel
theorem dL_act_248 : decode cL_act 248 = .ok (.iload 6, 2) := by decide +kernel
theorem dL_act_250 : decode cL_act 250 = .ok (.iadd, 1) := by decide +kernel
theorem dL_act_251 : decode cL_act 251 = .ok (.ishr, 1) := by decide +kernel
theorem dL_act_252 : decode cL_act 252 = .ok (.iconst 5, 1) := by decide +kernel
theorem dL_act_253 : decode cL_act 253 = .ok (.invokestatic 18, 3) := by decide +kernel
theorem dL_act_256 : decode cL_act 256 = .ok (.ifCond .le 42, 3) := by decide +kernel
theorem dL_act_259 : decode cL_act 259 = .ok (.aload_n 0, 1) := by decide +kernel
theorem dL_act_260 : decode cL_act 260 = .ok (.iload 6, 2) := by decide +kernel
theorem dL_act_262 : decode cL_act 262 = .ok (.iload_n 2, 1) := by decide +kernel
theorem dL_act_263 : decode cL_act 263 = .ok (.iconst 5, 1) := by decide +kernel
theorem dL_act_264 : decode cL_act 264 = .ok (.iload 6, 2) := by decide +kernel
theorem dL_act_266 : decode cL_act 266 = .ok (.iadd, 1) := by decide +kernel
theorem dL_act_267 : decode cL_act 267 = .ok (.ishr, 1) := by decide +kernel
theorem dL_act_268 : decode cL_act 268 = .ok (.iconst 4, 1) := by decide +kernel
theorem dL_act_269 : decode cL_act 269 = .ok (.invokestatic 18, 3) := by decide +kernel
theorem dL_act_272 : decode cL_act 272 = .ok (.ifCond .ne 10, 3) := by decide +kernel
theorem dL_act_275 : decode cL_act 275 = .ok (.iload_n 2, 1) := by decide +kernel
theorem dL_act_276 : decode cL_act 276 = .ok (.iload 6, 2) := by decide +kernel
theorem dL_act_278 : decode cL_act 278 = .ok (.ishr, 1) := by decide +kernel
theorem dL_act_279 : decode cL_act 279 = .ok (.goto 15, 3) := by decide +kernel
theorem dL_act_282 : decode cL_act 282 = .ok (.iload_n 2, 1) := by decide +kernel
theorem dL_act_283 : decode cL_act 283 = .ok (.bipush 6, 2) := by decide +kernel
theorem dL_act_285 : decode cL_act 285 = .ok (.iload 6, 2) := by decide +kernel
theorem dL_act_287 : decode cL_act 287 = .ok (.iadd, 1) := by decide +kernel
theorem dL_act_288 : decode cL_act 288 = .ok (.ishr, 1) := by decide +kernel
theorem dL_act_289 : decode cL_act 289 = .ok (.bipush 20, 2) := by decide +kernel
theorem dL_act_291 : decode cL_act 291 = .ok (.invokestatic 18, 3) := by decide +kernel
theorem dL_act_294 : decode cL_act 294 = .ok (.invokevirtual 91, 3) := by decide +kernel
theorem dL_act_297 : decode cL_act 297 = .ok (.pop, 1) := by decide +kernel
theorem dL_act_298 : decode cL_act 298 = .ok (.iinc 6 1, 3) := by decide +kernel
theorem dL_act_301 : decode cL_act 301 = .ok (.goto (-61), 3) := by decide +kernel
theorem dL_act_304 : decode cL_act 304 = .ok (.aload_n 0, 1) := by decide +kernel
theorem dL_act_305 : decode cL_act 305 = .ok (.invokevirtual 94, 3) := by decide +kernel
theorem dL_act_308 : decode cL_act 308 = .ok (.pop, 1) := by decide +kernel
theorem dL_act_309 : decode cL_act 309 = .ok (.goto 9, 3) := by decide +kernel
theorem dL_act_312 : decode cL_act 312 = .ok (.astore 6, 2) := by decide +kernel
theorem dL_act_314 : decode cL_act 314 = .ok (.return_, 1) := by decide +kernel
theorem dL_act_315 : decode cL_act 315 = .ok (.astore 6, 2) := by decide +kernel
theorem dL_act_317 : decode cL_act 317 = .ok (.return_, 1) := by decide +kernel
theorem dL_act_318 : decode cL_act 318 = .ok (.return_, 1) := by decide +kernel
theorem dL_isTableSound_0 : decode cL_isTableSound 0 = .ok (.iconst 0, 1) := by decide +kernel
theorem dL_isTableSound_1 : decode cL_isTableSound 1 = .ok (.istore_n 2, 1) := by decide +kernel
theorem dL_isTableSound_2 : decode cL_isTableSound 2 = .ok (.iconst 0, 1) := by decide +kernel
theorem dL_isTableSound_3 : decode cL_isTableSound 3 = .ok (.istore_n 3, 1) := by decide +kernel
theorem dL_isTableSound_4 : decode cL_isTableSound 4 = .ok (.iload_n 3, 1) := by decide +kernel
theorem dL_isTableSound_5 : decode cL_isTableSound 5 = .ok (.aload_n 0, 1) := by decide +kernel
theorem dL_isTableSound_6 : decode cL_isTableSound 6 = .ok (.invokevirtual 47, 3) := by decide +kernel
theorem dL_isTableSound_9 : decode cL_isTableSound 9 = .ok (.if_icmp .ge 155, 3) := by decide +kernel
theorem dL_isTableSound_12 : decode cL_isTableSound 12 = .ok (.aload_n 0, 1) := by decide +kernel
theorem dL_isTableSound_13 : decode cL_isTableSound 13 = .ok (.iload_n 3, 1) := by decide +kernel
theorem dL_isTableSound_14 : decode cL_isTableSound 14 = .ok (.invokevirtual 101, 3) := by decide +kernel
theorem dL_isTableSound_17 : decode cL_isTableSound 17 = .ok (.istore 4, 2) := by decide +kernel
theorem dL_isTableSound_19 : decode cL_isTableSound 19 = .ok (.aload_n 0, 1) := by decide +kernel
theorem dL_isTableSound_20 : decode cL_isTableSound 20 = .ok (.iload_n 3, 1) := by decide +kernel
theorem dL_isTableSound_21 : decode cL_isTableSound 21 = .ok (.invokevirtual 104, 3) := by decide +kernel
theorem dL_isTableSound_24 : decode cL_isTableSound 24 = .ok (.ifCond .eq 10, 3) := by decide +kernel
theorem dL_isTableSound_27 : decode cL_isTableSound 27 = .ok (.iload 4, 2) := by decide +kernel
theorem dL_isTableSound_29 : decode cL_isTableSound 29 = .ok (.bipush (-2), 2) := by decide +kernel
theorem dL_isTableSound_31 : decode cL_isTableSound 31 = .ok (.if_icmp .eq 19, 3) := by decide +kernel
theorem dL_isTableSound_34 : decode cL_isTableSound 34 = .ok (.iload 4, 2) := by decide +kernel
theorem dL_isTableSound_36 : decode cL_isTableSound 36 = .ok (.bipush (-2), 2) := by decide +kernel
theorem dL_isTableSound_38 : decode cL_isTableSound 38 = .ok (.if_icmp .lt 12, 3) := by decide +kernel
theorem dL_isTableSound_41 : decode cL_isTableSound 41 = .ok (.iload 4, 2) := by decide +kernel
theorem dL_isTableSound_43 : decode cL_isTableSound 43 = .ok (.aload_n 0, 1) := by decide +kernel
theorem dL_isTableSound_44 : decode cL_isTableSound 44 = .ok (.invokevirtual 55, 3) := by decide +kernel
theorem dL_isTableSound_47 : decode cL_isTableSound 47 = .ok (.if_icmp .lt 5, 3) := by decide +kernel
theorem dL_isTableSound_50 : decode cL_isTableSound 50 = .ok (.iconst 0, 1) := by decide +kernel
theorem dL_isTableSound_51 : decode cL_isTableSound 51 = .ok (.ireturn, 1) := by decide +kernel
theorem dL_isTableSound_52 : decode cL_isTableSound 52 = .ok (.iload_n 2, 1) := by decide +kernel
theorem dL_isTableSound_53 : decode cL_isTableSound 53 = .ok (.aload_n 0, 1) := by decide +kernel
theorem dL_isTableSound_54 : decode cL_isTableSound 54 = .ok (.iload_n 3, 1) := by decide +kernel
theorem dL_isTableSound_55 : decode cL_isTableSound 55 = .ok (.invokevirtual 104, 3) := by decide +kernel
theorem dL_isTableSound_58 : decode cL_isTableSound 58 = .ok (.ifCond .eq 7, 3) := by decide +kernel
theorem dL_isTableSound_61 : decode cL_isTableSound 61 = .ok (.iconst 1, 1) := by decide +kernel
theorem dL_isTableSound_62 : decode cL_isTableSound 62 = .ok (.goto 4, 3) := by decide +kernel
theorem dL_isTableSound_65 : decode cL_isTableSound 65 = .ok (.iconst 0, 1) := by decide +kernel
theorem dL_isTableSound_66 : decode cL_isTableSound 66 = .ok (.iadd, 1) := by decide +kernel
theorem dL_isTableSound_67 : decode cL_isTableSound 67 = .ok (.istore_n 2, 1) := by decide +kernel
theorem dL_isTableSound_68 : decode cL_isTableSound 68 = .ok (.iconst 0, 1) := by decide +kernel
theorem dL_isTableSound_69 : decode cL_isTableSound 69 = .ok (.istore 5, 2) := by decide +kernel
theorem dL_isTableSound_71 : decode cL_isTableSound 71 = .ok (.iload 5, 2) := by decide +kernel
theorem dL_isTableSound_73 : decode cL_isTableSound 73 = .ok (.iload_n 1, 1) := by decide +kernel
theorem dL_isTableSound_74 : decode cL_isTableSound 74 = .ok (.if_icmp .ge 84, 3) := by decide +kernel
theorem dL_isTableSound_77 : decode cL_isTableSound 77 = .ok (.aload_n 0, 1) := by decide +kernel
theorem dL_isTableSound_78 : decode cL_isTableSound 78 = .ok (.iload_n 3, 1) := by decide +kernel
theorem dL_isTableSound_79 : decode cL_isTableSound 79 = .ok (.iload 5, 2) := by decide +kernel
theorem dL_isTableSound_81 : decode cL_isTableSound 81 = .ok (.invokevirtual 107, 3) := by decide +kernel
theorem dL_isTableSound_84 : decode cL_isTableSound 84 = .ok (.ifCond .eq 15, 3) := by decide +kernel
theorem dL_isTableSound_87 : decode cL_isTableSound 87 = .ok (.aload_n 0, 1) := by decide +kernel
theorem dL_isTableSound_88 : decode cL_isTableSound 88 = .ok (.iload_n 3, 1) := by decide +kernel
theorem dL_isTableSound_89 : decode cL_isTableSound 89 = .ok (.iload 5, 2) := by decide +kernel
theorem dL_isTableSound_91 : decode cL_isTableSound 91 = .ok (.invokevirtual 111, 3) := by decide +kernel
theorem dL_isTableSound_94 : decode cL_isTableSound 94 = .ok (.ifCond .eq 5, 3) := by decide +kernel
theorem dL_isTableSound_97 : decode cL_isTableSound 97 = .ok (.iconst 0, 1) := by decide +kernel
theorem dL_isTableSound_98 : decode cL_isTableSound 98 = .ok (.ireturn, 1) := by decide +kernel
theorem dL_isTableSound_99 : decode cL_isTableSound 99 = .ok (.iload 4, 2) := by decide +kernel
theorem dL_isTableSound_101 : decode cL_isTableSound 101 = .ok (.ifCond .lt 51, 3) := by decide +kernel
theorem dL_isTableSound_104 : decode cL_isTableSound 104 = .ok (.aload_n 0, 1) := by decide +kernel
theorem dL_isTableSound_105 : decode cL_isTableSound 105 = .ok (.iload_n 3, 1) := by decide +kernel
theorem dL_isTableSound_106 : decode cL_isTableSound 106 = .ok (.iload 5, 2) := by decide +kernel
theorem dL_isTableSound_108 : decode cL_isTableSound 108 = .ok (.invokevirtual 107, 3) := by decide +kernel
theorem dL_isTableSound_111 : decode cL_isTableSound 111 = .ok (.ifCond .ne 41, 3) := by decide +kernel
theorem dL_isTableSound_114 : decode cL_isTableSound 114 = .ok (.aload_n 0, 1) := by decide +kernel
theorem dL_isTableSound_115 : decode cL_isTableSound 115 = .ok (.iload_n 3, 1) := by decide +kernel
theorem dL_isTableSound_116 : decode cL_isTableSound 116 = .ok (.iload 5, 2) := by decide +kernel
theorem dL_isTableSound_118 : decode cL_isTableSound 118 = .ok (.invokevirtual 111, 3) := by decide +kernel
theorem dL_isTableSound_121 : decode cL_isTableSound 121 = .ok (.aload_n 0, 1) := by decide +kernel
theorem dL_isTableSound_122 : decode cL_isTableSound 122 = .ok (.iload 4, 2) := by decide +kernel
theorem dL_isTableSound_124 : decode cL_isTableSound 124 = .ok (.iload 5, 2) := by decide +kernel
theorem dL_isTableSound_126 : decode cL_isTableSound 126 = .ok (.invokevirtual 114, 3) := by decide +kernel
theorem dL_isTableSound_129 : decode cL_isTableSound 129 = .ok (.if_icmp .lt 21, 3) := by decide +kernel
theorem dL_isTableSound_132 : decode cL_isTableSound 132 = .ok (.aload_n 0, 1) := by decide +kernel
theorem dL_isTableSound_133 : decode cL_isTableSound 133 = .ok (.iload_n 3, 1) := by decide +kernel
theorem dL_isTableSound_134 : decode cL_isTableSound 134 = .ok (.iload 5, 2) := by decide +kernel
theorem dL_isTableSound_136 : decode cL_isTableSound 136 = .ok (.invokevirtual 111, 3) := by decide +kernel
theorem dL_isTableSound_139 : decode cL_isTableSound 139 = .ok (.aload_n 0, 1) := by decide +kernel
theorem dL_isTableSound_140 : decode cL_isTableSound 140 = .ok (.iload 4, 2) := by decide +kernel
theorem dL_isTableSound_142 : decode cL_isTableSound 142 = .ok (.iload 5, 2) := by decide +kernel
theorem dL_isTableSound_144 : decode cL_isTableSound 144 = .ok (.invokevirtual 117, 3) := by decide +kernel
theorem dL_isTableSound_147 : decode cL_isTableSound 147 = .ok (.if_icmp .le 5, 3) := by decide +kernel
theorem dL_isTableSound_150 : decode cL_isTableSound 150 = .ok (.iconst 0, 1) := by decide +kernel
theorem dL_isTableSound_151 : decode cL_isTableSound 151 = .ok (.ireturn, 1) := by decide +kernel
theorem dL_isTableSound_152 : decode cL_isTableSound 152 = .ok (.iinc 5 1, 3) := by decide +kernel
theorem dL_isTableSound_155 : decode cL_isTableSound 155 = .ok (.goto (-84), 3) := by decide +kernel
theorem dL_isTableSound_158 : decode cL_isTableSound 158 = .ok (.iinc 3 1, 3) := by decide +kernel
theorem dL_isTableSound_161 : decode cL_isTableSound 161 = .ok (.goto (-157), 3) := by decide +kernel
theorem dL_isTableSound_164 : decode cL_isTableSound 164 = .ok (.iconst 0, 1) := by decide +kernel
theorem dL_isTableSound_165 : decode cL_isTableSound 165 = .ok (.istore_n 3, 1) := by decide +kernel
theorem dL_isTableSound_166 : decode cL_isTableSound 166 = .ok (.iconst 0, 1) := by decide +kernel
theorem dL_isTableSound_167 : decode cL_isTableSound 167 = .ok (.istore 4, 2) := by decide +kernel
theorem dL_isTableSound_169 : decode cL_isTableSound 169 = .ok (.iload 4, 2) := by decide +kernel
theorem dL_isTableSound_171 : decode cL_isTableSound 171 = .ok (.aload_n 0, 1) := by decide +kernel
theorem dL_isTableSound_172 : decode cL_isTableSound 172 = .ok (.invokevirtual 55, 3) := by decide +kernel
theorem dL_isTableSound_175 : decode cL_isTableSound 175 = .ok (.if_icmp .ge 260, 3) := by decide +kernel
theorem dL_isTableSound_178 : decode cL_isTableSound 178 = .ok (.iconst 0, 1) := by decide +kernel
theorem dL_isTableSound_179 : decode cL_isTableSound 179 = .ok (.istore 5, 2) := by decide +kernel
theorem dL_isTableSound_181 : decode cL_isTableSound 181 = .ok (.iconst 0, 1) := by decide +kernel
theorem dL_isTableSound_182 : decode cL_isTableSound 182 = .ok (.istore 6, 2) := by decide +kernel
theorem dL_isTableSound_184 : decode cL_isTableSound 184 = .ok (.iload 6, 2) := by decide +kernel
theorem dL_isTableSound_186 : decode cL_isTableSound 186 = .ok (.aload_n 0, 1) := by decide +kernel
theorem dL_isTableSound_187 : decode cL_isTableSound 187 = .ok (.iload 4, 2) := by decide +kernel
theorem dL_isTableSound_189 : decode cL_isTableSound 189 = .ok (.invokevirtual 120, 3) := by decide +kernel
theorem dL_isTableSound_192 : decode cL_isTableSound 192 = .ok (.if_icmp .ge 28, 3) := by decide +kernel
theorem dL_isTableSound_195 : decode cL_isTableSound 195 = .ok (.aload_n 0, 1) := by decide +kernel
theorem dL_isTableSound_196 : decode cL_isTableSound 196 = .ok (.aload_n 0, 1) := by decide +kernel
theorem dL_isTableSound_197 : decode cL_isTableSound 197 = .ok (.iload 4, 2) := by decide +kernel
theorem dL_isTableSound_199 : decode cL_isTableSound 199 = .ok (.iload 6, 2) := by decide +kernel
theorem dL_isTableSound_201 : decode cL_isTableSound 201 = .ok (.invokevirtual 123, 3) := by decide +kernel
theorem dL_isTableSound_204 : decode cL_isTableSound 204 = .ok (.invokevirtual 101, 3) := by decide +kernel
theorem dL_isTableSound_207 : decode cL_isTableSound 207 = .ok (.iload 4, 2) := by decide +kernel
theorem dL_isTableSound_209 : decode cL_isTableSound 209 = .ok (.if_icmp .eq 5, 3) := by decide +kernel
theorem dL_isTableSound_212 : decode cL_isTableSound 212 = .ok (.iconst 0, 1) := by decide +kernel
theorem dL_isTableSound_213 : decode cL_isTableSound 213 = .ok (.ireturn, 1) := by decide +kernel
theorem dL_isTableSound_214 : decode cL_isTableSound 214 = .ok (.iinc 6 1, 3) := by decide +kernel
theorem dL_isTableSound_217 : decode cL_isTableSound 217 = .ok (.goto (-33), 3) := by decide +kernel
theorem dL_isTableSound_220 : decode cL_isTableSound 220 = .ok (.iconst 0, 1) := by decide +kernel
theorem dL_isTableSound_221 : decode cL_isTableSound 221 = .ok (.istore 6, 2) := by decide +kernel
theorem dL_isTableSound_223 : decode cL_isTableSound 223 = .ok (.iload 6, 2) := by decide +kernel
theorem dL_isTableSound_225 : decode cL_isTableSound 225 = .ok (.iload_n 1, 1) := by decide +kernel
theorem dL_isTableSound_226 : decode cL_isTableSound 226 = .ok (.if_icmp .ge 164, 3) := by decide +kernel
theorem dL_isTableSound_229 : decode cL_isTableSound 229 = .ok (.aload_n 0, 1) := by decide +kernel
theorem dL_isTableSound_230 : decode cL_isTableSound 230 = .ok (.iload 4, 2) := by decide +kernel
theorem dL_isTableSound_232 : decode cL_isTableSound 232 = .ok (.iload 6, 2) := by decide +kernel
theorem dL_isTableSound_234 : decode cL_isTableSound 234 = .ok (.invokevirtual 126, 3) := by decide +kernel
theorem dL_isTableSound_237 : decode cL_isTableSound 237 = .ok (.istore 7, 2) := by decide +kernel
theorem dL_isTableSound_239 : decode cL_isTableSound 239 = .ok (.iconst 0, 1) := by decide +kernel
theorem dL_isTableSound_240 : decode cL_isTableSound 240 = .ok (.istore 8, 2) := by decide +kernel
theorem dL_isTableSound_242 : decode cL_isTableSound 242 = .ok (.iload 8, 2) := by decide +kernel
theorem dL_isTableSound_244 : decode cL_isTableSound 244 = .ok (.iconst 5, 1) := by decide +kernel
theorem dL_isTableSound_245 : decode cL_isTableSound 245 = .ok (.if_icmp .ge 65, 3) := by decide +kernel
theorem dL_isTableSound_248 : decode cL_isTableSound 248 = .ok (.aload_n 0, 1) := by decide +kernel
theorem dL_isTableSound_249 : decode cL_isTableSound 249 = .ok (.iload 4, 2) := by decide +kernel
theorem dL_isTableSound_251 : decode cL_isTableSound 251 = .ok (.iload 6, 2) := by decide +kernel
theorem dL_isTableSound_253 : decode cL_isTableSound 253 = .ok (.iload 8, 2) := by decide +kernel
theorem dL_isTableSound_255 : decode cL_isTableSound 255 = .ok (.invokevirtual 129, 3) := by decide +kernel
theorem dL_isTableSound_258 : decode cL_isTableSound 258 = .ok (.istore 9, 2) := by decide +kernel
theorem dL_isTableSound_260 : decode cL_isTableSound 260 = .ok (.iload 9, 2) := by decide +kernel
theorem dL_isTableSound_262 : decode cL_isTableSound 262 = .ok (.ifCond .lt 42, 3) := by decide +kernel
theorem dL_isTableSound_265 : decode cL_isTableSound 265 = .ok (.iload 9, 2) := by decide +kernel
theorem dL_isTableSound_267 : decode cL_isTableSound 267 = .ok (.aload_n 0, 1) := by decide +kernel
theorem dL_isTableSound_268 : decode cL_isTableSound 268 = .ok (.iload 4, 2) := by decide +kernel
theorem dL_isTableSound_270 : decode cL_isTableSound 270 = .ok (.iload 6, 2) := by decide +kernel
theorem dL_isTableSound_272 : decode cL_isTableSound 272 = .ok (.iload 7, 2) := by decide +kernel
theorem dL_isTableSound_274 : decode cL_isTableSound 274 = .ok (.invokevirtual 129, 3) := by decide +kernel
theorem dL_isTableSound_277 : decode cL_isTableSound 277 = .ok (.if_icmp .lt 25, 3) := by decide +kernel
theorem dL_isTableSound_280 : decode cL_isTableSound 280 = .ok (.iload 9, 2) := by decide +kernel
theorem dL_isTableSound_282 : decode cL_isTableSound 282 = .ok (.aload_n 0, 1) := by decide +kernel
theorem dL_isTableSound_283 : decode cL_isTableSound 283 = .ok (.iload 4, 2) := by decide +kernel
theorem dL_isTableSound_285 : decode cL_isTableSound 285 = .ok (.iload 6, 2) := by decide +kernel
theorem dL_isTableSound_287 : decode cL_isTableSound 287 = .ok (.iload 7, 2) := by decide +kernel
theorem dL_isTableSound_289 : decode cL_isTableSound 289 = .ok (.invokevirtual 129, 3) := by decide +kernel
theorem dL_isTableSound_292 : decode cL_isTableSound 292 = .ok (.if_icmp .ne 12, 3) := by decide +kernel
theorem dL_isTableSound_295 : decode cL_isTableSound 295 = .ok (.iload 8, 2) := by decide +kernel
theorem dL_isTableSound_297 : decode cL_isTableSound 297 = .ok (.iload 7, 2) := by decide +kernel
theorem dL_isTableSound_299 : decode cL_isTableSound 299 = .ok (.if_icmp .ge 5, 3) := by decide +kernel
theorem dL_isTableSound_302 : decode cL_isTableSound 302 = .ok (.iconst 0, 1) := by decide +kernel
theorem dL_isTableSound_303 : decode cL_isTableSound 303 = .ok (.ireturn, 1) := by decide +kernel
theorem dL_isTableSound_304 : decode cL_isTableSound 304 = .ok (.iinc 8 1, 3) := by decide +kernel
theorem dL_isTableSound_307 : decode cL_isTableSound 307 = .ok (.goto (-65), 3) := by decide +kernel
theorem dL_isTableSound_310 : decode cL_isTableSound 310 = .ok (.iload 5, 2) := by decide +kernel
theorem dL_isTableSound_312 : decode cL_isTableSound 312 = .ok (.aload_n 0, 1) := by decide +kernel
theorem dL_isTableSound_313 : decode cL_isTableSound 313 = .ok (.iload 4, 2) := by decide +kernel
theorem dL_isTableSound_315 : decode cL_isTableSound 315 = .ok (.iload 6, 2) := by decide +kernel
theorem dL_isTableSound_317 : decode cL_isTableSound 317 = .ok (.iload 7, 2) := by decide +kernel
theorem dL_isTableSound_319 : decode cL_isTableSound 319 = .ok (.invokevirtual 129, 3) := by decide +kernel
theorem dL_isTableSound_322 : decode cL_isTableSound 322 = .ok (.iadd, 1) := by decide +kernel
theorem dL_isTableSound_323 : decode cL_isTableSound 323 = .ok (.istore 5, 2) := by decide +kernel
theorem dL_isTableSound_325 : decode cL_isTableSound 325 = .ok (.aload_n 0, 1) := by decide +kernel
theorem dL_isTableSound_326 : decode cL_isTableSound 326 = .ok (.iload 4, 2) := by decide +kernel
theorem dL_isTableSound_328 : decode cL_isTableSound 328 = .ok (.iload 6, 2) := by decide +kernel
theorem dL_isTableSound_330 : decode cL_isTableSound 330 = .ok (.invokevirtual 132, 3) := by decide +kernel
theorem dL_isTableSound_333 : decode cL_isTableSound 333 = .ok (.aload_n 0, 1) := by decide +kernel
theorem dL_isTableSound_334 : decode cL_isTableSound 334 = .ok (.iload 4, 2) := by decide +kernel
theorem dL_isTableSound_336 : decode cL_isTableSound 336 = .ok (.iload 6, 2) := by decide +kernel
theorem dL_isTableSound_338 : decode cL_isTableSound 338 = .ok (.invokevirtual 135, 3) := by decide +kernel
theorem dL_isTableSound_341 : decode cL_isTableSound 341 = .ok (.iadd, 1) := by decide +kernel
theorem dL_isTableSound_342 : decode cL_isTableSound 342 = .ok (.aload_n 0, 1) := by decide +kernel
theorem dL_isTableSound_343 : decode cL_isTableSound 343 = .ok (.iload 4, 2) := by decide +kernel
theorem dL_isTableSound_345 : decode cL_isTableSound 345 = .ok (.invokevirtual 120, 3) := by decide +kernel
theorem dL_isTableSound_348 : decode cL_isTableSound 348 = .ok (.if_icmp .gt 34, 3) := by decide +kernel
theorem dL_isTableSound_351 : decode cL_isTableSound 351 = .ok (.aload_n 0, 1) := by decide +kernel
theorem dL_isTableSound_352 : decode cL_isTableSound 352 = .ok (.iload 4, 2) := by decide +kernel
theorem dL_isTableSound_354 : decode cL_isTableSound 354 = .ok (.iload 6, 2) := by decide +kernel
theorem dL_isTableSound_356 : decode cL_isTableSound 356 = .ok (.invokevirtual 138, 3) := by decide +kernel
theorem dL_isTableSound_359 : decode cL_isTableSound 359 = .ok (.iconst 1, 1) := by decide +kernel
theorem dL_isTableSound_360 : decode cL_isTableSound 360 = .ok (.if_icmp .lt 22, 3) := by decide +kernel
theorem dL_isTableSound_363 : decode cL_isTableSound 363 = .ok (.aload_n 0, 1) := by decide +kernel
theorem dL_isTableSound_364 : decode cL_isTableSound 364 = .ok (.iload 4, 2) := by decide +kernel
theorem dL_isTableSound_366 : decode cL_isTableSound 366 = .ok (.iload 6, 2) := by decide +kernel
theorem dL_isTableSound_368 : decode cL_isTableSound 368 = .ok (.invokevirtual 138, 3) := by decide +kernel
theorem dL_isTableSound_371 : decode cL_isTableSound 371 = .ok (.aload_n 0, 1) := by decide +kernel
theorem dL_isTableSound_372 : decode cL_isTableSound 372 = .ok (.iload 4, 2) := by decide +kernel
theorem dL_isTableSound_374 : decode cL_isTableSound 374 = .ok (.iload 6, 2) := by decide +kernel
theorem dL_isTableSound_376 : decode cL_isTableSound 376 = .ok (.invokevirtual 135, 3) := by decide +kernel
theorem dL_isTableSound_379 : decode cL_isTableSound 379 = .ok (.if_icmp .ge 5, 3) := by decide +kernel
theorem dL_isTableSound_382 : decode cL_isTableSound 382 = .ok (.iconst 0, 1) := by decide +kernel
theorem dL_isTableSound_383 : decode cL_isTableSound 383 = .ok (.ireturn, 1) := by decide +kernel
theorem dL_isTableSound_384 : decode cL_isTableSound 384 = .ok (.iinc 6 1, 3) := by decide +kernel
theorem dL_isTableSound_387 : decode cL_isTableSound 387 = .ok (.goto (-164), 3) := by decide +kernel
theorem dL_isTableSound_390 : decode cL_isTableSound 390 = .ok (.aload_n 0, 1) := by decide +kernel
theorem dL_isTableSound_391 : decode cL_isTableSound 391 = .ok (.iload 4, 2) := by decide +kernel
theorem dL_isTableSound_393 : decode cL_isTableSound 393 = .ok (.invokevirtual 141, 3) := by decide +kernel
theorem dL_isTableSound_396 : decode cL_isTableSound 396 = .ok (.iload 5, 2) := by decide +kernel
theorem dL_isTableSound_398 : decode cL_isTableSound 398 = .ok (.if_icmp .ne 24, 3) := by decide +kernel
theorem dL_isTableSound_401 : decode cL_isTableSound 401 = .ok (.aload_n 0, 1) := by decide +kernel
theorem dL_isTableSound_402 : decode cL_isTableSound 402 = .ok (.iload 4, 2) := by decide +kernel
theorem dL_isTableSound_404 : decode cL_isTableSound 404 = .ok (.invokevirtual 120, 3) := by decide +kernel
theorem dL_isTableSound_407 : decode cL_isTableSound 407 = .ok (.iconst 1, 1) := by decide +kernel
theorem dL_isTableSound_408 : decode cL_isTableSound 408 = .ok (.if_icmp .lt 14, 3) := by decide +kernel
theorem dL_isTableSound_411 : decode cL_isTableSound 411 = .ok (.aload_n 0, 1) := by decide +kernel
theorem dL_isTableSound_412 : decode cL_isTableSound 412 = .ok (.iload 4, 2) := by decide +kernel
theorem dL_isTableSound_414 : decode cL_isTableSound 414 = .ok (.invokevirtual 120, 3) := by decide +kernel
theorem dL_isTableSound_417 : decode cL_isTableSound 417 = .ok (.bipush 64, 2) := by decide +kernel
theorem dL_isTableSound_419 : decode cL_isTableSound 419 = .ok (.if_icmp .le 5, 3) := by decide +kernel
theorem dL_isTableSound_422 : decode cL_isTableSound 422 = .ok (.iconst 0, 1) := by decide +kernel
theorem dL_isTableSound_423 : decode cL_isTableSound 423 = .ok (.ireturn, 1) := by decide +kernel
theorem dL_isTableSound_424 : decode cL_isTableSound 424 = .ok (.iload_n 3, 1) := by decide +kernel
theorem dL_isTableSound_425 : decode cL_isTableSound 425 = .ok (.iload 5, 2) := by decide +kernel
theorem dL_isTableSound_427 : decode cL_isTableSound 427 = .ok (.iadd, 1) := by decide +kernel
theorem dL_isTableSound_428 : decode cL_isTableSound 428 = .ok (.istore_n 3, 1) := by decide +kernel
theorem dL_isTableSound_429 : decode cL_isTableSound 429 = .ok (.iinc 4 1, 3) := by decide +kernel
theorem dL_isTableSound_432 : decode cL_isTableSound 432 = .ok (.goto (-263), 3) := by decide +kernel
theorem dL_isTableSound_435 : decode cL_isTableSound 435 = .ok (.aload_n 0, 1) := by decide +kernel
theorem dL_isTableSound_436 : decode cL_isTableSound 436 = .ok (.invokevirtual 144, 3) := by decide +kernel
theorem dL_isTableSound_439 : decode cL_isTableSound 439 = .ok (.iload_n 2, 1) := by decide +kernel
theorem dL_isTableSound_440 : decode cL_isTableSound 440 = .ok (.if_icmp .ne 18, 3) := by decide +kernel
theorem dL_isTableSound_443 : decode cL_isTableSound 443 = .ok (.aload_n 0, 1) := by decide +kernel
theorem dL_isTableSound_444 : decode cL_isTableSound 444 = .ok (.invokevirtual 147, 3) := by decide +kernel
theorem dL_isTableSound_447 : decode cL_isTableSound 447 = .ok (.ifCond .lt 11, 3) := by decide +kernel
theorem dL_isTableSound_450 : decode cL_isTableSound 450 = .ok (.iload_n 3, 1) := by decide +kernel
theorem dL_isTableSound_451 : decode cL_isTableSound 451 = .ok (.ifCond .lt 7, 3) := by decide +kernel
theorem dL_isTableSound_454 : decode cL_isTableSound 454 = .ok (.iconst 1, 1) := by decide +kernel
theorem dL_isTableSound_455 : decode cL_isTableSound 455 = .ok (.goto 4, 3) := by decide +kernel
theorem dL_isTableSound_458 : decode cL_isTableSound 458 = .ok (.iconst 0, 1) := by decide +kernel
theorem dL_isTableSound_459 : decode cL_isTableSound 459 = .ok (.ireturn, 1) := by decide +kernel
theorem dL_isSearchSound_0 : decode cL_isSearchSound 0 = .ok (.aload_n 0, 1) := by decide +kernel
theorem dL_isSearchSound_1 : decode cL_isSearchSound 1 = .ok (.invokevirtual 38, 3) := by decide +kernel
theorem dL_isSearchSound_4 : decode cL_isSearchSound 4 = .ok (.istore_n 2, 1) := by decide +kernel
theorem dL_isSearchSound_5 : decode cL_isSearchSound 5 = .ok (.aload_n 0, 1) := by decide +kernel
theorem dL_isSearchSound_6 : decode cL_isSearchSound 6 = .ok (.invokevirtual 41, 3) := by decide +kernel
theorem dL_isSearchSound_9 : decode cL_isSearchSound 9 = .ok (.istore_n 3, 1) := by decide +kernel
theorem dL_isSearchSound_10 : decode cL_isSearchSound 10 = .ok (.aload_n 0, 1) := by decide +kernel
theorem dL_isSearchSound_11 : decode cL_isSearchSound 11 = .ok (.invokevirtual 150, 3) := by decide +kernel
theorem dL_isSearchSound_14 : decode cL_isSearchSound 14 = .ok (.istore 4, 2) := by decide +kernel
theorem dL_isSearchSound_16 : decode cL_isSearchSound 16 = .ok (.iload 4, 2) := by decide +kernel
theorem dL_isSearchSound_18 : decode cL_isSearchSound 18 = .ok (.iload_n 2, 1) := by decide +kernel
theorem dL_isSearchSound_19 : decode cL_isSearchSound 19 = .ok (.if_icmp .ne 22, 3) := by decide +kernel
theorem dL_isSearchSound_22 : decode cL_isSearchSound 22 = .ok (.aload_n 0, 1) := by decide +kernel
theorem dL_isSearchSound_23 : decode cL_isSearchSound 23 = .ok (.invokevirtual 153, 3) := by decide +kernel
theorem dL_isSearchSound_26 : decode cL_isSearchSound 26 = .ok (.aload_n 0, 1) := by decide +kernel
theorem dL_isSearchSound_27 : decode cL_isSearchSound 27 = .ok (.invokevirtual 55, 3) := by decide +kernel
theorem dL_isSearchSound_30 : decode cL_isSearchSound 30 = .ok (.if_icmp .gt 11, 3) := by decide +kernel
theorem dL_isSearchSound_33 : decode cL_isSearchSound 33 = .ok (.aload_n 0, 1) := by decide +kernel
theorem dL_isSearchSound_34 : decode cL_isSearchSound 34 = .ok (.invokevirtual 41, 3) := by decide +kernel
theorem dL_isSearchSound_37 : decode cL_isSearchSound 37 = .ok (.iload_n 3, 1) := by decide +kernel
theorem dL_isSearchSound_38 : decode cL_isSearchSound 38 = .ok (.if_icmp .eq 5, 3) := by decide +kernel
theorem dL_isSearchSound_41 : decode cL_isSearchSound 41 = .ok (.iconst 0, 1) := by decide +kernel
theorem dL_isSearchSound_42 : decode cL_isSearchSound 42 = .ok (.ireturn, 1) := by decide +kernel
theorem dL_isSearchSound_43 : decode cL_isSearchSound 43 = .ok (.iload 4, 2) := by decide +kernel
theorem dL_isSearchSound_45 : decode cL_isSearchSound 45 = .ok (.newarray .int, 2) := by decide +kernel
theorem dL_isSearchSound_47 : decode cL_isSearchSound 47 = .ok (.astore 5, 2) := by decide +kernel
theorem dL_isSearchSound_49 : decode cL_isSearchSound 49 = .ok (.iconst 0, 1) := by decide +kernel
theorem dL_isSearchSound_50 : decode cL_isSearchSound 50 = .ok (.istore 6, 2) := by decide +kernel
theorem dL_isSearchSound_52 : decode cL_isSearchSound 52 = .ok (.iload 6, 2) := by decide +kernel
theorem dL_isSearchSound_54 : decode cL_isSearchSound 54 = .ok (.iload 4, 2) := by decide +kernel
theorem dL_isSearchSound_56 : decode cL_isSearchSound 56 = .ok (.if_icmp .ge 34, 3) := by decide +kernel
theorem dL_isSearchSound_59 : decode cL_isSearchSound 59 = .ok (.aload 5, 2) := by decide +kernel
theorem dL_isSearchSound_61 : decode cL_isSearchSound 61 = .ok (.iload 6, 2) := by decide +kernel
theorem dL_isSearchSound_63 : decode cL_isSearchSound 63 = .ok (.aload_n 0, 1) := by decide +kernel
theorem dL_isSearchSound_64 : decode cL_isSearchSound 64 = .ok (.iload 6, 2) := by decide +kernel
theorem dL_isSearchSound_66 : decode cL_isSearchSound 66 = .ok (.invokevirtual 156, 3) := by decide +kernel
theorem dL_isSearchSound_69 : decode cL_isSearchSound 69 = .ok (.iastore, 1) := by decide +kernel
theorem dL_isSearchSound_70 : decode cL_isSearchSound 70 = .ok (.aload_n 0, 1) := by decide +kernel
theorem dL_isSearchSound_71 : decode cL_isSearchSound 71 = .ok (.aload 5, 2) := by decide +kernel
theorem dL_isSearchSound_73 : decode cL_isSearchSound 73 = .ok (.iload 6, 2) := by decide +kernel
theorem dL_isSearchSound_75 : decode cL_isSearchSound 75 = .ok (.iaload, 1) := by decide +kernel
theorem dL_isSearchSound_76 : decode cL_isSearchSound 76 = .ok (.invokevirtual 104, 3) := by decide +kernel
theorem dL_isSearchSound_79 : decode cL_isSearchSound 79 = .ok (.ifCond .ne 5, 3) := by decide +kernel
theorem dL_isSearchSound_82 : decode cL_isSearchSound 82 = .ok (.iconst 0, 1) := by decide +kernel
theorem dL_isSearchSound_83 : decode cL_isSearchSound 83 = .ok (.ireturn, 1) := by decide +kernel
theorem dL_isSearchSound_84 : decode cL_isSearchSound 84 = .ok (.iinc 6 1, 3) := by decide +kernel
theorem dL_isSearchSound_87 : decode cL_isSearchSound 87 = .ok (.goto (-35), 3) := by decide +kernel
theorem dL_isSearchSound_90 : decode cL_isSearchSound 90 = .ok (.iconst 0, 1) := by decide +kernel
theorem dL_isSearchSound_91 : decode cL_isSearchSound 91 = .ok (.istore 6, 2) := by decide +kernel
theorem dL_isSearchSound_93 : decode cL_isSearchSound 93 = .ok (.iload 6, 2) := by decide +kernel
theorem dL_isSearchSound_95 : decode cL_isSearchSound 95 = .ok (.iload_n 1, 1) := by decide +kernel
theorem dL_isSearchSound_96 : decode cL_isSearchSound 96 = .ok (.if_icmp .ge 16, 3) := by decide +kernel
theorem dL_isSearchSound_99 : decode cL_isSearchSound 99 = .ok (.aload_n 0, 1) := by decide +kernel
theorem dL_isSearchSound_100 : decode cL_isSearchSound 100 = .ok (.iload 6, 2) := by decide +kernel
theorem dL_isSearchSound_102 : decode cL_isSearchSound 102 = .ok (.invokevirtual 79, 3) := by decide +kernel
theorem dL_isSearchSound_105 : decode cL_isSearchSound 105 = .ok (.pop, 1) := by decide +kernel
theorem dL_isSearchSound_106 : decode cL_isSearchSound 106 = .ok (.iinc 6 1, 3) := by decide +kernel
theorem dL_isSearchSound_109 : decode cL_isSearchSound 109 = .ok (.goto (-16), 3) := by decide +kernel
theorem dL_isSearchSound_112 : decode cL_isSearchSound 112 = .ok (.aload_n 0, 1) := by decide +kernel
theorem dL_isSearchSound_113 : decode cL_isSearchSound 113 = .ok (.invokevirtual 150, 3) := by decide +kernel
theorem dL_isSearchSound_116 : decode cL_isSearchSound 116 = .ok (.iload 4, 2) := by decide +kernel
theorem dL_isSearchSound_118 : decode cL_isSearchSound 118 = .ok (.if_icmp .eq 5, 3) := by decide +kernel
theorem dL_isSearchSound_121 : decode cL_isSearchSound 121 = .ok (.iconst 0, 1) := by decide +kernel
theorem dL_isSearchSound_122 : decode cL_isSearchSound 122 = .ok (.ireturn, 1) := by decide +kernel
theorem dL_isSearchSound_123 : decode cL_isSearchSound 123 = .ok (.iconst 0, 1) := by decide +kernel
theorem dL_isSearchSound_124 : decode cL_isSearchSound 124 = .ok (.istore 6, 2) := by decide +kernel
theorem dL_isSearchSound_126 : decode cL_isSearchSound 126 = .ok (.iload 6, 2) := by decide +kernel
theorem dL_isSearchSound_128 : decode cL_isSearchSound 128 = .ok (.iload 4, 2) := by decide +kernel
theorem dL_isSearchSound_130 : decode cL_isSearchSound 130 = .ok (.if_icmp .ge 25, 3) := by decide +kernel
theorem dL_isSearchSound_133 : decode cL_isSearchSound 133 = .ok (.aload_n 0, 1) := by decide +kernel
theorem dL_isSearchSound_134 : decode cL_isSearchSound 134 = .ok (.iload 6, 2) := by decide +kernel
theorem dL_isSearchSound_136 : decode cL_isSearchSound 136 = .ok (.invokevirtual 156, 3) := by decide +kernel
theorem dL_isSearchSound_139 : decode cL_isSearchSound 139 = .ok (.aload 5, 2) := by decide +kernel
theorem dL_isSearchSound_141 : decode cL_isSearchSound 141 = .ok (.iload 6, 2) := by decide +kernel
theorem dL_isSearchSound_143 : decode cL_isSearchSound 143 = .ok (.iaload, 1) := by decide +kernel
theorem dL_isSearchSound_144 : decode cL_isSearchSound 144 = .ok (.if_icmp .eq 5, 3) := by decide +kernel
theorem dL_isSearchSound_147 : decode cL_isSearchSound 147 = .ok (.iconst 0, 1) := by decide +kernel
theorem dL_isSearchSound_148 : decode cL_isSearchSound 148 = .ok (.ireturn, 1) := by decide +kernel
theorem dL_isSearchSound_149 : decode cL_isSearchSound 149 = .ok (.iinc 6 1, 3) := by decide +kernel
theorem dL_isSearchSound_152 : decode cL_isSearchSound 152 = .ok (.goto (-26), 3) := by decide +kernel
theorem dL_isSearchSound_155 : decode cL_isSearchSound 155 = .ok (.iconst 0, 1) := by decide +kernel
theorem dL_isSearchSound_156 : decode cL_isSearchSound 156 = .ok (.istore 6, 2) := by decide +kernel
theorem dL_isSearchSound_158 : decode cL_isSearchSound 158 = .ok (.iload 6, 2) := by decide +kernel
theorem dL_isSearchSound_160 : decode cL_isSearchSound 160 = .ok (.iload_n 1, 1) := by decide +kernel
theorem dL_isSearchSound_161 : decode cL_isSearchSound 161 = .ok (.if_icmp .ge 269, 3) := by decide +kernel
theorem dL_isSearchSound_164 : decode cL_isSearchSound 164 = .ok (.aload_n 0, 1) := by decide +kernel
theorem dL_isSearchSound_165 : decode cL_isSearchSound 165 = .ok (.iload 6, 2) := by decide +kernel
theorem dL_isSearchSound_167 : decode cL_isSearchSound 167 = .ok (.invokevirtual 79, 3) := by decide +kernel
theorem dL_isSearchSound_170 : decode cL_isSearchSound 170 = .ok (.pop, 1) := by decide +kernel
theorem dL_isSearchSound_171 : decode cL_isSearchSound 171 = .ok (.aload_n 0, 1) := by decide +kernel
theorem dL_isSearchSound_172 : decode cL_isSearchSound 172 = .ok (.iload 6, 2) := by decide +kernel
theorem dL_isSearchSound_174 : decode cL_isSearchSound 174 = .ok (.invokevirtual 159, 3) := by decide +kernel
theorem dL_isSearchSound_177 : decode cL_isSearchSound 177 = .ok (.istore 7, 2) := by decide +kernel
theorem dL_isSearchSound_179 : decode cL_isSearchSound 179 = .ok (.iconst 0, 1) := by decide +kernel
theorem dL_isSearchSound_180 : decode cL_isSearchSound 180 = .ok (.istore 8, 2) := by decide +kernel
theorem dL_isSearchSound_182 : decode cL_isSearchSound 182 = .ok (.iconst 0, 1) := by decide +kernel
theorem dL_isSearchSound_183 : decode cL_isSearchSound 183 = .ok (.istore 9, 2) := by decide +kernel
theorem dL_isSearchSound_185 : decode cL_isSearchSound 185 = .ok (.iconst 0, 1) := by decide +kernel
theorem dL_isSearchSound_186 : decode cL_isSearchSound 186 = .ok (.istore 10, 2) := by decide +kernel
theorem dL_isSearchSound_188 : decode cL_isSearchSound 188 = .ok (.iload 10, 2) := by decide +kernel
theorem dL_isSearchSound_190 : decode cL_isSearchSound 190 = .ok (.iload 7, 2) := by decide +kernel
theorem dL_isSearchSound_192 : decode cL_isSearchSound 192 = .ok (.if_icmp .ge 109, 3) := by decide +kernel
theorem dL_isSearchSound_195 : decode cL_isSearchSound 195 = .ok (.iload 8, 2) := by decide +kernel
theorem dL_isSearchSound_197 : decode cL_isSearchSound 197 = .ok (.aload_n 0, 1) := by decide +kernel
theorem dL_isSearchSound_198 : decode cL_isSearchSound 198 = .ok (.iload 6, 2) := by decide +kernel
theorem dL_isSearchSound_200 : decode cL_isSearchSound 200 = .ok (.iload 10, 2) := by decide +kernel
theorem dL_isSearchSound_202 : decode cL_isSearchSound 202 = .ok (.iload 6, 2) := by decide +kernel
theorem dL_isSearchSound_204 : decode cL_isSearchSound 204 = .ok (.iconst 1, 1) := by decide +kernel
theorem dL_isSearchSound_205 : decode cL_isSearchSound 205 = .ok (.invokevirtual 162, 3) := by decide +kernel
theorem dL_isSearchSound_208 : decode cL_isSearchSound 208 = .ok (.iadd, 1) := by decide +kernel
theorem dL_isSearchSound_209 : decode cL_isSearchSound 209 = .ok (.istore 8, 2) := by decide +kernel
theorem dL_isSearchSound_211 : decode cL_isSearchSound 211 = .ok (.iload 9, 2) := by decide +kernel
theorem dL_isSearchSound_213 : decode cL_isSearchSound 213 = .ok (.aload_n 0, 1) := by decide +kernel
theorem dL_isSearchSound_214 : decode cL_isSearchSound 214 = .ok (.iload 6, 2) := by decide +kernel
theorem dL_isSearchSound_216 : decode cL_isSearchSound 216 = .ok (.iload 10, 2) := by decide +kernel
theorem dL_isSearchSound_218 : decode cL_isSearchSound 218 = .ok (.iload 6, 2) := by decide +kernel
theorem dL_isSearchSound_220 : decode cL_isSearchSound 220 = .ok (.iconst 2, 1) := by decide +kernel
theorem dL_isSearchSound_221 : decode cL_isSearchSound 221 = .ok (.invokevirtual 162, 3) := by decide +kernel
theorem dL_isSearchSound_224 : decode cL_isSearchSound 224 = .ok (.iadd, 1) := by decide +kernel
theorem dL_isSearchSound_225 : decode cL_isSearchSound 225 = .ok (.istore 9, 2) := by decide +kernel
theorem dL_isSearchSound_227 : decode cL_isSearchSound 227 = .ok (.aload_n 0, 1) := by decide +kernel
theorem dL_isSearchSound_228 : decode cL_isSearchSound 228 = .ok (.iload 6, 2) := by decide +kernel
theorem dL_isSearchSound_230 : decode cL_isSearchSound 230 = .ok (.iload 10, 2) := by decide +kernel
theorem dL_isSearchSound_232 : decode cL_isSearchSound 232 = .ok (.iload 6, 2) := by decide +kernel
theorem dL_isSearchSound_234 : decode cL_isSearchSound 234 = .ok (.iconst 3, 1) := by decide +kernel
theorem dL_isSearchSound_235 : decode cL_isSearchSound 235 = .ok (.invokevirtual 162, 3) := by decide +kernel
theorem dL_isSearchSound_238 : decode cL_isSearchSound 238 = .ok (.aload_n 0, 1) := by decide +kernel
theorem dL_isSearchSound_239 : decode cL_isSearchSound 239 = .ok (.iload 6, 2) := by decide +kernel
theorem dL_isSearchSound_241 : decode cL_isSearchSound 241 = .ok (.iload 10, 2) := by decide +kernel
theorem dL_isSearchSound_243 : decode cL_isSearchSound 243 = .ok (.iload 6, 2) := by decide +kernel
theorem dL_isSearchSound_245 : decode cL_isSearchSound 245 = .ok (.iconst 4, 1) := by decide +kernel
theorem dL_isSearchSound_246 : decode cL_isSearchSound 246 = .ok (.invokevirtual 162, 3) := by decide +kernel
theorem dL_isSearchSound_249 : decode cL_isSearchSound 249 = .ok (.if_icmp .gt 44, 3) := by decide +kernel
theorem dL_isSearchSound_252 : decode cL_isSearchSound 252 = .ok (.iload 10, 2) := by decide +kernel
theorem dL_isSearchSound_254 : decode cL_isSearchSound 254 = .ok (.ifCond .le 41, 3) := by decide +kernel
theorem dL_isSearchSound_257 : decode cL_isSearchSound 257 = .ok (.iload 10, 2) := by decide +kernel
theorem dL_isSearchSound_259 : decode cL_isSearchSound 259 = .ok (.iload 7, 2) := by decide +kernel
theorem dL_isSearchSound_261 : decode cL_isSearchSound 261 = .ok (.iconst 1, 1) := by decide +kernel
theorem dL_isSearchSound_262 : decode cL_isSearchSound 262 = .ok (.isub, 1) := by decide +kernel
theorem dL_isSearchSound_263 : decode cL_isSearchSound 263 = .ok (.if_icmp .ge 32, 3) := by decide +kernel
theorem dL_isSearchSound_266 : decode cL_isSearchSound 266 = .ok (.aload_n 0, 1) := by decide +kernel
theorem dL_isSearchSound_267 : decode cL_isSearchSound 267 = .ok (.iload 6, 2) := by decide +kernel
theorem dL_isSearchSound_269 : decode cL_isSearchSound 269 = .ok (.iload 10, 2) := by decide +kernel
theorem dL_isSearchSound_271 : decode cL_isSearchSound 271 = .ok (.iload 6, 2) := by decide +kernel
theorem dL_isSearchSound_273 : decode cL_isSearchSound 273 = .ok (.iconst 0, 1) := by decide +kernel
theorem dL_isSearchSound_274 : decode cL_isSearchSound 274 = .ok (.invokevirtual 162, 3) := by decide +kernel
theorem dL_isSearchSound_277 : decode cL_isSearchSound 277 = .ok (.aload_n 0, 1) := by decide +kernel
theorem dL_isSearchSound_278 : decode cL_isSearchSound 278 = .ok (.iload 6, 2) := by decide +kernel
theorem dL_isSearchSound_280 : decode cL_isSearchSound 280 = .ok (.iload 10, 2) := by decide +kernel
theorem dL_isSearchSound_282 : decode cL_isSearchSound 282 = .ok (.iconst 1, 1) := by decide +kernel
theorem dL_isSearchSound_283 : decode cL_isSearchSound 283 = .ok (.isub, 1) := by decide +kernel
theorem dL_isSearchSound_284 : decode cL_isSearchSound 284 = .ok (.iload 6, 2) := by decide +kernel
theorem dL_isSearchSound_286 : decode cL_isSearchSound 286 = .ok (.iconst 0, 1) := by decide +kernel
theorem dL_isSearchSound_287 : decode cL_isSearchSound 287 = .ok (.invokevirtual 162, 3) := by decide +kernel
theorem dL_isSearchSound_290 : decode cL_isSearchSound 290 = .ok (.if_icmp .gt 5, 3) := by decide +kernel
theorem dL_isSearchSound_293 : decode cL_isSearchSound 293 = .ok (.iconst 0, 1) := by decide +kernel
theorem dL_isSearchSound_294 : decode cL_isSearchSound 294 = .ok (.ireturn, 1) := by decide +kernel
theorem dL_isSearchSound_295 : decode cL_isSearchSound 295 = .ok (.iinc 10 1, 3) := by decide +kernel
theorem dL_isSearchSound_298 : decode cL_isSearchSound 298 = .ok (.goto (-110), 3) := by decide +kernel
theorem dL_isSearchSound_301 : decode cL_isSearchSound 301 = .ok (.iload 8, 2) := by decide +kernel
theorem dL_isSearchSound_303 : decode cL_isSearchSound 303 = .ok (.iload 4, 2) := by decide +kernel
theorem dL_isSearchSound_305 : decode cL_isSearchSound 305 = .ok (.if_icmp .ne 21, 3) := by decide +kernel
theorem dL_isSearchSound_308 : decode cL_isSearchSound 308 = .ok (.iload 9, 2) := by decide +kernel
theorem dL_isSearchSound_310 : decode cL_isSearchSound 310 = .ok (.aload_n 0, 1) := by decide +kernel
theorem dL_isSearchSound_311 : decode cL_isSearchSound 311 = .ok (.iload 6, 2) := by decide +kernel
theorem dL_isSearchSound_313 : decode cL_isSearchSound 313 = .ok (.invokevirtual 166, 3) := by decide +kernel
theorem dL_isSearchSound_316 : decode cL_isSearchSound 316 = .ok (.if_icmp .ne 10, 3) := by decide +kernel
theorem dL_isSearchSound_319 : decode cL_isSearchSound 319 = .ok (.iload 7, 2) := by decide +kernel
theorem dL_isSearchSound_321 : decode cL_isSearchSound 321 = .ok (.iload 4, 2) := by decide +kernel
theorem dL_isSearchSound_323 : decode cL_isSearchSound 323 = .ok (.if_icmp .le 5, 3) := by decide +kernel
theorem dL_isSearchSound_326 : decode cL_isSearchSound 326 = .ok (.iconst 0, 1) := by decide +kernel
theorem dL_isSearchSound_327 : decode cL_isSearchSound 327 = .ok (.ireturn, 1) := by decide +kernel
theorem dL_isSearchSound_328 : decode cL_isSearchSound 328 = .ok (.aload_n 0, 1) := by decide +kernel
theorem dL_isSearchSound_329 : decode cL_isSearchSound 329 = .ok (.iload 6, 2) := by decide +kernel
theorem dL_isSearchSound_331 : decode cL_isSearchSound 331 = .ok (.iconst 0, 1) := by decide +kernel
theorem dL_isSearchSound_332 : decode cL_isSearchSound 332 = .ok (.invokevirtual 169, 3) := by decide +kernel
theorem dL_isSearchSound_335 : decode cL_isSearchSound 335 = .ok (.pop, 1) := by decide +kernel
theorem dL_isSearchSound_336 : decode cL_isSearchSound 336 = .ok (.iconst 1, 1) := by decide +kernel
theorem dL_isSearchSound_337 : decode cL_isSearchSound 337 = .ok (.istore 10, 2) := by decide +kernel
theorem dL_isSearchSound_339 : decode cL_isSearchSound 339 = .ok (.iload 10, 2) := by decide +kernel
theorem dL_isSearchSound_341 : decode cL_isSearchSound 341 = .ok (.iload 4, 2) := by decide +kernel
theorem dL_isSearchSound_343 : decode cL_isSearchSound 343 = .ok (.if_icmp .ge 81, 3) := by decide +kernel
theorem dL_isSearchSound_346 : decode cL_isSearchSound 346 = .ok (.aload_n 0, 1) := by decide +kernel
theorem dL_isSearchSound_347 : decode cL_isSearchSound 347 = .ok (.aload_n 0, 1) := by decide +kernel
theorem dL_isSearchSound_348 : decode cL_isSearchSound 348 = .ok (.iload 10, 2) := by decide +kernel
theorem dL_isSearchSound_350 : decode cL_isSearchSound 350 = .ok (.invokevirtual 156, 3) := by decide +kernel
theorem dL_isSearchSound_353 : decode cL_isSearchSound 353 = .ok (.iload 6, 2) := by decide +kernel
theorem dL_isSearchSound_355 : decode cL_isSearchSound 355 = .ok (.invokevirtual 107, 3) := by decide +kernel
theorem dL_isSearchSound_358 : decode cL_isSearchSound 358 = .ok (.istore 11, 2) := by decide +kernel
theorem dL_isSearchSound_360 : decode cL_isSearchSound 360 = .ok (.aload_n 0, 1) := by decide +kernel
theorem dL_isSearchSound_361 : decode cL_isSearchSound 361 = .ok (.aload_n 0, 1) := by decide +kernel
theorem dL_isSearchSound_362 : decode cL_isSearchSound 362 = .ok (.iload 10, 2) := by decide +kernel
theorem dL_isSearchSound_364 : decode cL_isSearchSound 364 = .ok (.iconst 1, 1) := by decide +kernel
theorem dL_isSearchSound_365 : decode cL_isSearchSound 365 = .ok (.isub, 1) := by decide +kernel
theorem dL_isSearchSound_366 : decode cL_isSearchSound 366 = .ok (.invokevirtual 156, 3) := by decide +kernel
theorem dL_isSearchSound_369 : decode cL_isSearchSound 369 = .ok (.iload 6, 2) := by decide +kernel
theorem dL_isSearchSound_371 : decode cL_isSearchSound 371 = .ok (.invokevirtual 107, 3) := by decide +kernel
theorem dL_isSearchSound_374 : decode cL_isSearchSound 374 = .ok (.ifCond .eq 8, 3) := by decide +kernel
theorem dL_isSearchSound_377 : decode cL_isSearchSound 377 = .ok (.iload 11, 2) := by decide +kernel
theorem dL_isSearchSound_379 : decode cL_isSearchSound 379 = .ok (.ifCond .eq 37, 3) := by decide +kernel
theorem dL_isSearchSound_382 : decode cL_isSearchSound 382 = .ok (.iload 11, 2) := by decide +kernel
theorem dL_isSearchSound_384 : decode cL_isSearchSound 384 = .ok (.ifCond .ne 34, 3) := by decide +kernel
theorem dL_isSearchSound_387 : decode cL_isSearchSound 387 = .ok (.aload_n 0, 1) := by decide +kernel
theorem dL_isSearchSound_388 : decode cL_isSearchSound 388 = .ok (.aload_n 0, 1) := by decide +kernel
theorem dL_isSearchSound_389 : decode cL_isSearchSound 389 = .ok (.iload 10, 2) := by decide +kernel
theorem dL_isSearchSound_391 : decode cL_isSearchSound 391 = .ok (.iconst 1, 1) := by decide +kernel
theorem dL_isSearchSound_392 : decode cL_isSearchSound 392 = .ok (.isub, 1) := by decide +kernel
theorem dL_isSearchSound_393 : decode cL_isSearchSound 393 = .ok (.invokevirtual 156, 3) := by decide +kernel
theorem dL_isSearchSound_396 : decode cL_isSearchSound 396 = .ok (.iload 6, 2) := by decide +kernel
theorem dL_isSearchSound_398 : decode cL_isSearchSound 398 = .ok (.invokevirtual 111, 3) := by decide +kernel
theorem dL_isSearchSound_401 : decode cL_isSearchSound 401 = .ok (.aload_n 0, 1) := by decide +kernel
theorem dL_isSearchSound_402 : decode cL_isSearchSound 402 = .ok (.aload_n 0, 1) := by decide +kernel
theorem dL_isSearchSound_403 : decode cL_isSearchSound 403 = .ok (.iload 10, 2) := by decide +kernel
theorem dL_isSearchSound_405 : decode cL_isSearchSound 405 = .ok (.invokevirtual 156, 3) := by decide +kernel
theorem dL_isSearchSound_408 : decode cL_isSearchSound 408 = .ok (.iload 6, 2) := by decide +kernel
theorem dL_isSearchSound_410 : decode cL_isSearchSound 410 = .ok (.invokevirtual 111, 3) := by decide +kernel
theorem dL_isSearchSound_413 : decode cL_isSearchSound 413 = .ok (.if_icmp .le 5, 3) := by decide +kernel
theorem dL_isSearchSound_416 : decode cL_isSearchSound 416 = .ok (.iconst 0, 1) := by decide +kernel
theorem dL_isSearchSound_417 : decode cL_isSearchSound 417 = .ok (.ireturn, 1) := by decide +kernel
theorem dL_isSearchSound_418 : decode cL_isSearchSound 418 = .ok (.iinc 10 1, 3) := by decide +kernel
theorem dL_isSearchSound_421 : decode cL_isSearchSound 421 = .ok (.goto (-82), 3) := by decide +kernel
theorem dL_isSearchSound_424 : decode cL_isSearchSound 424 = .ok (.iinc 6 1, 3) := by decide +kernel
theorem dL_isSearchSound_427 : decode cL_isSearchSound 427 = .ok (.goto (-269), 3) := by decide +kernel
theorem dL_isSearchSound_430 : decode cL_isSearchSound 430 = .ok (.aload_n 0, 1) := by decide +kernel
theorem dL_isSearchSound_431 : decode cL_isSearchSound 431 = .ok (.invokevirtual 173, 3) := by decide +kernel
theorem dL_isSearchSound_434 : decode cL_isSearchSound 434 = .ok (.iload 4, 2) := by decide +kernel
theorem dL_isSearchSound_436 : decode cL_isSearchSound 436 = .ok (.if_icmp .ne 29, 3) := by decide +kernel
theorem dL_isSearchSound_439 : decode cL_isSearchSound 439 = .ok (.aload_n 0, 1) := by decide +kernel
theorem dL_isSearchSound_440 : decode cL_isSearchSound 440 = .ok (.iconst 0, 1) := by decide +kernel
theorem dL_isSearchSound_441 : decode cL_isSearchSound 441 = .ok (.iconst 0, 1) := by decide +kernel
theorem dL_isSearchSound_442 : decode cL_isSearchSound 442 = .ok (.invokevirtual 176, 3) := by decide +kernel
theorem dL_isSearchSound_445 : decode cL_isSearchSound 445 = .ok (.ifCond .lt 20, 3) := by decide +kernel
theorem dL_isSearchSound_448 : decode cL_isSearchSound 448 = .ok (.aload_n 0, 1) := by decide +kernel
theorem dL_isSearchSound_449 : decode cL_isSearchSound 449 = .ok (.iload 4, 2) := by decide +kernel
theorem dL_isSearchSound_451 : decode cL_isSearchSound 451 = .ok (.iconst 1, 1) := by decide +kernel
theorem dL_isSearchSound_452 : decode cL_isSearchSound 452 = .ok (.iadd, 1) := by decide +kernel
theorem dL_isSearchSound_453 : decode cL_isSearchSound 453 = .ok (.invokevirtual 179, 3) := by decide +kernel
theorem dL_isSearchSound_456 : decode cL_isSearchSound 456 = .ok (.iload 4, 2) := by decide +kernel
theorem dL_isSearchSound_458 : decode cL_isSearchSound 458 = .ok (.if_icmp .ne 7, 3) := by decide +kernel
theorem dL_isSearchSound_461 : decode cL_isSearchSound 461 = .ok (.iconst 1, 1) := by decide +kernel
theorem dL_isSearchSound_462 : decode cL_isSearchSound 462 = .ok (.goto 4, 3) := by decide +kernel
theorem dL_isSearchSound_465 : decode cL_isSearchSound 465 = .ok (.iconst 0, 1) := by decide +kernel
theorem dL_isSearchSound_466 : decode cL_isSearchSound 466 = .ok (.ireturn, 1) := by decide +kernel
