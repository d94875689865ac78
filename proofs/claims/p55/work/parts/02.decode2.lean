theorem dX6_lookThrough_4 : decode cX6_lookThrough 4 = .ok (.istore 6, 2) := by decide +kernel
theorem dX6_lookThrough_6 : decode cX6_lookThrough 6 = .ok (.iload 6, 2) := by decide +kernel
theorem dX6_lookThrough_8 : decode cX6_lookThrough 8 = .ok (.aload_n 3, 1) := by decide +kernel
theorem dX6_lookThrough_9 : decode cX6_lookThrough 9 = .ok (.getfield 77, 3) := by decide +kernel
theorem dX6_lookThrough_12 : decode cX6_lookThrough 12 = .ok (.if_icmp .ge 17, 3) := by decide +kernel
theorem dX6_lookThrough_15 : decode cX6_lookThrough 15 = .ok (.aload_n 0, 1) := by decide +kernel
theorem dX6_lookThrough_16 : decode cX6_lookThrough 16 = .ok (.getfield 19, 3) := by decide +kernel
theorem dX6_lookThrough_19 : decode cX6_lookThrough 19 = .ok (.iload 6, 2) := by decide +kernel
theorem dX6_lookThrough_21 : decode cX6_lookThrough 21 = .ok (.iconst 0, 1) := by decide +kernel
theorem dX6_lookThrough_22 : decode cX6_lookThrough 22 = .ok (.bastore, 1) := by decide +kernel
theorem dX6_lookThrough_23 : decode cX6_lookThrough 23 = .ok (.iinc 6 1, 3) := by decide +kernel
theorem dX6_lookThrough_26 : decode cX6_lookThrough 26 = .ok (.goto (-20), 3) := by decide +kernel
theorem dX6_lookThrough_29 : decode cX6_lookThrough 29 = .ok (.iconst 0, 1) := by decide +kernel
theorem dX6_lookThrough_30 : decode cX6_lookThrough 30 = .ok (.istore 6, 2) := by decide +kernel
theorem dX6_lookThrough_32 : decode cX6_lookThrough 32 = .ok (.iload 6, 2) := by decide +kernel
theorem dX6_lookThrough_34 : decode cX6_lookThrough 34 = .ok (.aload_n 2, 1) := by decide +kernel
theorem dX6_lookThrough_35 : decode cX6_lookThrough 35 = .ok (.getfield 78, 3) := by decide +kernel
theorem dX6_lookThrough_38 : decode cX6_lookThrough 38 = .ok (.if_icmp .ge 105, 3) := by decide +kernel
theorem dX6_lookThrough_41 : decode cX6_lookThrough 41 = .ok (.aload_n 2, 1) := by decide +kernel
theorem dX6_lookThrough_42 : decode cX6_lookThrough 42 = .ok (.getfield 79, 3) := by decide +kernel
theorem dX6_lookThrough_45 : decode cX6_lookThrough 45 = .ok (.iload 6, 2) := by decide +kernel
theorem dX6_lookThrough_47 : decode cX6_lookThrough 47 = .ok (.aaload, 1) := by decide +kernel
theorem dX6_lookThrough_48 : decode cX6_lookThrough 48 = .ok (.astore 7, 2) := by decide +kernel
theorem dX6_lookThrough_50 : decode cX6_lookThrough 50 = .ok (.aload 7, 2) := by decide +kernel
theorem dX6_lookThrough_52 : decode cX6_lookThrough 52 = .ok (.getfield 83, 3) := by decide +kernel
theorem dX6_lookThrough_55 : decode cX6_lookThrough 55 = .ok (.ifCond .le 82, 3) := by decide +kernel
theorem dX6_lookThrough_58 : decode cX6_lookThrough 58 = .ok (.aload_n 0, 1) := by decide +kernel
theorem dX6_lookThrough_59 : decode cX6_lookThrough 59 = .ok (.aload_n 1, 1) := by decide +kernel
theorem dX6_lookThrough_60 : decode cX6_lookThrough 60 = .ok (.aload 7, 2) := by decide +kernel
theorem dX6_lookThrough_62 : decode cX6_lookThrough 62 = .ok (.aload_n 3, 1) := by decide +kernel
theorem dX6_lookThrough_63 : decode cX6_lookThrough 63 = .ok (.iload 4, 2) := by decide +kernel
theorem dX6_lookThrough_65 : decode cX6_lookThrough 65 = .ok (.invokevirtual 86, 3) := by decide +kernel
theorem dX6_lookThrough_68 : decode cX6_lookThrough 68 = .ok (.iload 5, 2) := by decide +kernel
theorem dX6_lookThrough_70 : decode cX6_lookThrough 70 = .ok (.ifCond .ne 10, 3) := by decide +kernel
theorem dX6_lookThrough_73 : decode cX6_lookThrough 73 = .ok (.aload_n 0, 1) := by decide +kernel
theorem dX6_lookThrough_74 : decode cX6_lookThrough 74 = .ok (.getfield 90, 3) := by decide +kernel
theorem dX6_lookThrough_77 : decode cX6_lookThrough 77 = .ok (.ifCond .le 7, 3) := by decide +kernel
theorem dX6_lookThrough_80 : decode cX6_lookThrough 80 = .ok (.iconst 1, 1) := by decide +kernel
theorem dX6_lookThrough_81 : decode cX6_lookThrough 81 = .ok (.goto 4, 3) := by decide +kernel
theorem dX6_lookThrough_84 : decode cX6_lookThrough 84 = .ok (.iconst 0, 1) := by decide +kernel
theorem dX6_lookThrough_85 : decode cX6_lookThrough 85 = .ok (.istore 5, 2) := by decide +kernel
theorem dX6_lookThrough_87 : decode cX6_lookThrough 87 = .ok (.iconst 0, 1) := by decide +kernel
theorem dX6_lookThrough_88 : decode cX6_lookThrough 88 = .ok (.istore 8, 2) := by decide +kernel
theorem dX6_lookThrough_90 : decode cX6_lookThrough 90 = .ok (.iload 8, 2) := by decide +kernel
theorem dX6_lookThrough_92 : decode cX6_lookThrough 92 = .ok (.aload_n 3, 1) := by decide +kernel
theorem dX6_lookThrough_93 : decode cX6_lookThrough 93 = .ok (.getfield 77, 3) := by decide +kernel
theorem dX6_lookThrough_96 : decode cX6_lookThrough 96 = .ok (.if_icmp .ge 41, 3) := by decide +kernel
theorem dX6_lookThrough_99 : decode cX6_lookThrough 99 = .ok (.aload_n 0, 1) := by decide +kernel
theorem dX6_lookThrough_100 : decode cX6_lookThrough 100 = .ok (.getfield 19, 3) := by decide +kernel
theorem dX6_lookThrough_103 : decode cX6_lookThrough 103 = .ok (.iload 8, 2) := by decide +kernel
theorem dX6_lookThrough_105 : decode cX6_lookThrough 105 = .ok (.aload_n 0, 1) := by decide +kernel
theorem dX6_lookThrough_106 : decode cX6_lookThrough 106 = .ok (.getfield 19, 3) := by decide +kernel
theorem dX6_lookThrough_109 : decode cX6_lookThrough 109 = .ok (.iload 8, 2) := by decide +kernel
theorem dX6_lookThrough_111 : decode cX6_lookThrough 111 = .ok (.baload, 1) := by decide +kernel
theorem dX6_lookThrough_112 : decode cX6_lookThrough 112 = .ok (.ifCond .ne 13, 3) := by decide +kernel
theorem dX6_lookThrough_115 : decode cX6_lookThrough 115 = .ok (.aload_n 0, 1) := by decide +kernel
theorem dX6_lookThrough_116 : decode cX6_lookThrough 116 = .ok (.getfield 15, 3) := by decide +kernel
theorem dX6_lookThrough_119 : decode cX6_lookThrough 119 = .ok (.iload 8, 2) := by decide +kernel
theorem dX6_lookThrough_121 : decode cX6_lookThrough 121 = .ok (.baload, 1) := by decide +kernel
theorem dX6_lookThrough_122 : decode cX6_lookThrough 122 = .ok (.ifCond .eq 7, 3) := by decide +kernel
theorem dX6_lookThrough_125 : decode cX6_lookThrough 125 = .ok (.iconst 1, 1) := by decide +kernel
theorem dX6_lookThrough_126 : decode cX6_lookThrough 126 = .ok (.goto 4, 3) := by decide +kernel
theorem dX6_lookThrough_129 : decode cX6_lookThrough 129 = .ok (.iconst 0, 1) := by decide +kernel
theorem dX6_lookThrough_130 : decode cX6_lookThrough 130 = .ok (.bastore, 1) := by decide +kernel
theorem dX6_lookThrough_131 : decode cX6_lookThrough 131 = .ok (.iinc 8 1, 3) := by decide +kernel
theorem dX6_lookThrough_134 : decode cX6_lookThrough 134 = .ok (.goto (-44), 3) := by decide +kernel
theorem dX6_lookThrough_137 : decode cX6_lookThrough 137 = .ok (.iinc 6 1, 3) := by decide +kernel
theorem dX6_lookThrough_140 : decode cX6_lookThrough 140 = .ok (.goto (-108), 3) := by decide +kernel
theorem dX6_lookThrough_143 : decode cX6_lookThrough 143 = .ok (.iload 5, 2) := by decide +kernel
theorem dX6_lookThrough_145 : decode cX6_lookThrough 145 = .ok (.ireturn, 1) := by decide +kernel
theorem dX6_select_0 : decode cX6_select 0 = .ok (.aload_n 0, 1) := by decide +kernel
theorem dX6_select_1 : decode cX6_select 1 = .ok (.aload_n 2, 1) := by decide +kernel
theorem dX6_select_2 : decode cX6_select 2 = .ok (.aload_n 3, 1) := by decide +kernel
theorem dX6_select_3 : decode cX6_select 3 = .ok (.iload 4, 2) := by decide +kernel
theorem dX6_select_5 : decode cX6_select 5 = .ok (.invokevirtual 93, 3) := by decide +kernel
theorem dX6_select_8 : decode cX6_select 8 = .ok (.aload_n 0, 1) := by decide +kernel
theorem dX6_select_9 : decode cX6_select 9 = .ok (.aload_n 3, 1) := by decide +kernel
theorem dX6_select_10 : decode cX6_select 10 = .ok (.getfield 77, 3) := by decide +kernel
theorem dX6_select_13 : decode cX6_select 13 = .ok (.putfield 90, 3) := by decide +kernel
theorem dX6_select_16 : decode cX6_select 16 = .ok (.iconst 0, 1) := by decide +kernel
theorem dX6_select_17 : decode cX6_select 17 = .ok (.istore 5, 2) := by decide +kernel
theorem dX6_select_19 : decode cX6_select 19 = .ok (.iload 5, 2) := by decide +kernel
theorem dX6_select_21 : decode cX6_select 21 = .ok (.aload_n 3, 1) := by decide +kernel
theorem dX6_select_22 : decode cX6_select 22 = .ok (.getfield 77, 3) := by decide +kernel
theorem dX6_select_25 : decode cX6_select 25 = .ok (.if_icmp .ge 17, 3) := by decide +kernel
theorem dX6_select_28 : decode cX6_select 28 = .ok (.aload_n 0, 1) := by decide +kernel
theorem dX6_select_29 : decode cX6_select 29 = .ok (.getfield 15, 3) := by decide +kernel
theorem dX6_select_32 : decode cX6_select 32 = .ok (.iload 5, 2) := by decide +kernel
theorem dX6_select_34 : decode cX6_select 34 = .ok (.iconst 1, 1) := by decide +kernel
theorem dX6_select_35 : decode cX6_select 35 = .ok (.bastore, 1) := by decide +kernel
theorem dX6_select_36 : decode cX6_select 36 = .ok (.iinc 5 1, 3) := by decide +kernel
theorem dX6_select_39 : decode cX6_select 39 = .ok (.goto (-20), 3) := by decide +kernel
theorem dX6_select_42 : decode cX6_select 42 = .ok (.iconst 0, 1) := by decide +kernel
theorem dX6_select_43 : decode cX6_select 43 = .ok (.istore 5, 2) := by decide +kernel
theorem dX6_select_45 : decode cX6_select 45 = .ok (.iload 5, 2) := by decide +kernel
theorem dX6_select_47 : decode cX6_select 47 = .ok (.aload_n 2, 1) := by decide +kernel
theorem dX6_select_48 : decode cX6_select 48 = .ok (.getfield 83, 3) := by decide +kernel
theorem dX6_select_51 : decode cX6_select 51 = .ok (.if_icmp .ge 95, 3) := by decide +kernel
theorem dX6_select_54 : decode cX6_select 54 = .ok (.aload_n 0, 1) := by decide +kernel
theorem dX6_select_55 : decode cX6_select 55 = .ok (.getfield 90, 3) := by decide +kernel
theorem dX6_select_58 : decode cX6_select 58 = .ok (.ifCond .le 88, 3) := by decide +kernel
theorem dX6_select_61 : decode cX6_select 61 = .ok (.aload_n 2, 1) := by decide +kernel
theorem dX6_select_62 : decode cX6_select 62 = .ok (.getfield 97, 3) := by decide +kernel
theorem dX6_select_65 : decode cX6_select 65 = .ok (.aload_n 0, 1) := by decide +kernel
theorem dX6_select_66 : decode cX6_select 66 = .ok (.getfield 22, 3) := by decide +kernel
theorem dX6_select_69 : decode cX6_select 69 = .ok (.iload 5, 2) := by decide +kernel
theorem dX6_select_71 : decode cX6_select 71 = .ok (.iaload, 1) := by decide +kernel
theorem dX6_select_72 : decode cX6_select 72 = .ok (.aaload, 1) := by decide +kernel
theorem dX6_select_73 : decode cX6_select 73 = .ok (.astore 6, 2) := by decide +kernel
theorem dX6_select_75 : decode cX6_select 75 = .ok (.aload_n 1, 1) := by decide +kernel
theorem dX6_select_76 : decode cX6_select 76 = .ok (.getfield 101, 3) := by decide +kernel
theorem dX6_select_79 : decode cX6_select 79 = .ok (.aload 6, 2) := by decide +kernel
theorem dX6_select_81 : decode cX6_select 81 = .ok (.getfield 104, 3) := by decide +kernel
theorem dX6_select_84 : decode cX6_select 84 = .ok (.invokevirtual 59, 3) := by decide +kernel
theorem dX6_select_87 : decode cX6_select 87 = .ok (.checkcast 109, 3) := by decide +kernel
theorem dX6_select_90 : decode cX6_select 90 = .ok (.astore 7, 2) := by decide +kernel
theorem dX6_select_92 : decode cX6_select 92 = .ok (.aload_n 0, 1) := by decide +kernel
theorem dX6_select_93 : decode cX6_select 93 = .ok (.dup, 1) := by decide +kernel
theorem dX6_select_94 : decode cX6_select 94 = .ok (.getfield 32, 3) := by decide +kernel
theorem dX6_select_97 : decode cX6_select 97 = .ok (.iload 4, 2) := by decide +kernel
theorem dX6_select_99 : decode cX6_select 99 = .ok (.ifCond .eq 24, 3) := by decide +kernel
theorem dX6_select_102 : decode cX6_select 102 = .ok (.aload_n 0, 1) := by decide +kernel
theorem dX6_select_103 : decode cX6_select 103 = .ok (.aload_n 3, 1) := by decide +kernel
theorem dX6_select_104 : decode cX6_select 104 = .ok (.getfield 111, 3) := by decide +kernel
theorem dX6_select_107 : decode cX6_select 107 = .ok (.aload 6, 2) := by decide +kernel
theorem dX6_select_109 : decode cX6_select 109 = .ok (.getfield 104, 3) := by decide +kernel
theorem dX6_select_112 : decode cX6_select 112 = .ok (.aaload, 1) := by decide +kernel
theorem dX6_select_113 : decode cX6_select 113 = .ok (.aload 6, 2) := by decide +kernel
theorem dX6_select_115 : decode cX6_select 115 = .ok (.aload 7, 2) := by decide +kernel
theorem dX6_select_117 : decode cX6_select 117 = .ok (.invokevirtual 115, 3) := by decide +kernel
theorem dX6_select_120 : decode cX6_select 120 = .ok (.goto 7, 3) := by decide +kernel
theorem dX6_select_123 : decode cX6_select 123 = .ok (.aload_n 0, 1) := by decide +kernel
theorem dX6_select_124 : decode cX6_select 124 = .ok (.getfield 90, 3) := by decide +kernel
theorem dX6_select_127 : decode cX6_select 127 = .ok (.iadd, 1) := by decide +kernel
theorem dX6_select_128 : decode cX6_select 128 = .ok (.putfield 32, 3) := by decide +kernel
theorem dX6_select_131 : decode cX6_select 131 = .ok (.aload_n 0, 1) := by decide +kernel
theorem dX6_select_132 : decode cX6_select 132 = .ok (.aload_n 3, 1) := by decide +kernel
theorem dX6_select_133 : decode cX6_select 133 = .ok (.aload 6, 2) := by decide +kernel
theorem dX6_select_135 : decode cX6_select 135 = .ok (.aload 7, 2) := by decide +kernel
theorem dX6_select_137 : decode cX6_select 137 = .ok (.invokevirtual 119, 3) := by decide +kernel
theorem dX6_select_140 : decode cX6_select 140 = .ok (.iinc 5 1, 3) := by decide +kernel
theorem dX6_select_143 : decode cX6_select 143 = .ok (.goto (-98), 3) := by decide +kernel
theorem dX6_select_146 : decode cX6_select 146 = .ok (.return_, 1) := by decide +kernel
theorem dX6_orderConditions_0 : decode cX6_orderConditions 0 = .ok (.iconst 0, 1) := by decide +kernel
theorem dX6_orderConditions_1 : decode cX6_orderConditions 1 = .ok (.istore 4, 2) := by decide +kernel
theorem dX6_orderConditions_3 : decode cX6_orderConditions 3 = .ok (.iload 4, 2) := by decide +kernel
theorem dX6_orderConditions_5 : decode cX6_orderConditions 5 = .ok (.aload_n 1, 1) := by decide +kernel
theorem dX6_orderConditions_6 : decode cX6_orderConditions 6 = .ok (.getfield 83, 3) := by decide +kernel
theorem dX6_orderConditions_9 : decode cX6_orderConditions 9 = .ok (.if_icmp .ge 122, 3) := by decide +kernel
theorem dX6_orderConditions_12 : decode cX6_orderConditions 12 = .ok (.aload_n 1, 1) := by decide +kernel
theorem dX6_orderConditions_13 : decode cX6_orderConditions 13 = .ok (.getfield 97, 3) := by decide +kernel
theorem dX6_orderConditions_16 : decode cX6_orderConditions 16 = .ok (.iload 4, 2) := by decide +kernel
theorem dX6_orderConditions_18 : decode cX6_orderConditions 18 = .ok (.aaload, 1) := by decide +kernel
theorem dX6_orderConditions_19 : decode cX6_orderConditions 19 = .ok (.astore 5, 2) := by decide +kernel
theorem dX6_orderConditions_21 : decode cX6_orderConditions 21 = .ok (.iload_n 3, 1) := by decide +kernel
theorem dX6_orderConditions_22 : decode cX6_orderConditions 22 = .ok (.ifCond .eq 21, 3) := by decide +kernel
theorem dX6_orderConditions_25 : decode cX6_orderConditions 25 = .ok (.aload 5, 2) := by decide +kernel
theorem dX6_orderConditions_27 : decode cX6_orderConditions 27 = .ok (.aload_n 2, 1) := by decide +kernel
theorem dX6_orderConditions_28 : decode cX6_orderConditions 28 = .ok (.getfield 111, 3) := by decide +kernel
theorem dX6_orderConditions_31 : decode cX6_orderConditions 31 = .ok (.aload 5, 2) := by decide +kernel
theorem dX6_orderConditions_33 : decode cX6_orderConditions 33 = .ok (.getfield 104, 3) := by decide +kernel
theorem dX6_orderConditions_36 : decode cX6_orderConditions 36 = .ok (.aaload, 1) := by decide +kernel
theorem dX6_orderConditions_37 : decode cX6_orderConditions 37 = .ok (.invokevirtual 123, 3) := by decide +kernel
theorem dX6_orderConditions_40 : decode cX6_orderConditions 40 = .ok (.goto 4, 3) := by decide +kernel
theorem dX6_orderConditions_43 : decode cX6_orderConditions 43 = .ok (.iconst 0, 1) := by decide +kernel
theorem dX6_orderConditions_44 : decode cX6_orderConditions 44 = .ok (.istore 6, 2) := by decide +kernel
theorem dX6_orderConditions_46 : decode cX6_orderConditions 46 = .ok (.iload 4, 2) := by decide +kernel
theorem dX6_orderConditions_48 : decode cX6_orderConditions 48 = .ok (.istore 7, 2) := by decide +kernel
theorem dX6_orderConditions_50 : decode cX6_orderConditions 50 = .ok (.iload 7, 2) := by decide +kernel
theorem dX6_orderConditions_52 : decode cX6_orderConditions 52 = .ok (.ifCond .le 55, 3) := by decide +kernel
theorem dX6_orderConditions_55 : decode cX6_orderConditions 55 = .ok (.aload_n 0, 1) := by decide +kernel
theorem dX6_orderConditions_56 : decode cX6_orderConditions 56 = .ok (.getfield 25, 3) := by decide +kernel
theorem dX6_orderConditions_59 : decode cX6_orderConditions 59 = .ok (.iload 7, 2) := by decide +kernel
theorem dX6_orderConditions_61 : decode cX6_orderConditions 61 = .ok (.iconst 1, 1) := by decide +kernel
theorem dX6_orderConditions_62 : decode cX6_orderConditions 62 = .ok (.isub, 1) := by decide +kernel
theorem dX6_orderConditions_63 : decode cX6_orderConditions 63 = .ok (.iaload, 1) := by decide +kernel
theorem dX6_orderConditions_64 : decode cX6_orderConditions 64 = .ok (.iload 6, 2) := by decide +kernel
theorem dX6_orderConditions_66 : decode cX6_orderConditions 66 = .ok (.if_icmp .le 41, 3) := by decide +kernel
theorem dX6_orderConditions_69 : decode cX6_orderConditions 69 = .ok (.aload_n 0, 1) := by decide +kernel
theorem dX6_orderConditions_70 : decode cX6_orderConditions 70 = .ok (.getfield 25, 3) := by decide +kernel
theorem dX6_orderConditions_73 : decode cX6_orderConditions 73 = .ok (.iload 7, 2) := by decide +kernel
theorem dX6_orderConditions_75 : decode cX6_orderConditions 75 = .ok (.aload_n 0, 1) := by decide +kernel
theorem dX6_orderConditions_76 : decode cX6_orderConditions 76 = .ok (.getfield 25, 3) := by decide +kernel
theorem dX6_orderConditions_79 : decode cX6_orderConditions 79 = .ok (.iload 7, 2) := by decide +kernel
theorem dX6_orderConditions_81 : decode cX6_orderConditions 81 = .ok (.iconst 1, 1) := by decide +kernel
theorem dX6_orderConditions_82 : decode cX6_orderConditions 82 = .ok (.isub, 1) := by decide +kernel
theorem dX6_orderConditions_83 : decode cX6_orderConditions 83 = .ok (.iaload, 1) := by decide +kernel
theorem dX6_orderConditions_84 : decode cX6_orderConditions 84 = .ok (.iastore, 1) := by decide +kernel
theorem dX6_orderConditions_85 : decode cX6_orderConditions 85 = .ok (.aload_n 0, 1) := by decide +kernel
theorem dX6_orderConditions_86 : decode cX6_orderConditions 86 = .ok (.getfield 22, 3) := by decide +kernel
theorem dX6_orderConditions_89 : decode cX6_orderConditions 89 = .ok (.iload 7, 2) := by decide +kernel
theorem dX6_orderConditions_91 : decode cX6_orderConditions 91 = .ok (.aload_n 0, 1) := by decide +kernel
theorem dX6_orderConditions_92 : decode cX6_orderConditions 92 = .ok (.getfield 22, 3) := by decide +kernel
theorem dX6_orderConditions_95 : decode cX6_orderConditions 95 = .ok (.iload 7, 2) := by decide +kernel
theorem dX6_orderConditions_97 : decode cX6_orderConditions 97 = .ok (.iconst 1, 1) := by decide +kernel
theorem dX6_orderConditions_98 : decode cX6_orderConditions 98 = .ok (.isub, 1) := by decide +kernel
theorem dX6_orderConditions_99 : decode cX6_orderConditions 99 = .ok (.iaload, 1) := by decide +kernel
theorem dX6_orderConditions_100 : decode cX6_orderConditions 100 = .ok (.iastore, 1) := by decide +kernel
theorem dX6_orderConditions_101 : decode cX6_orderConditions 101 = .ok (.iinc 7 (-1), 3) := by decide +kernel
theorem dX6_orderConditions_104 : decode cX6_orderConditions 104 = .ok (.goto (-54), 3) := by decide +kernel
theorem dX6_orderConditions_107 : decode cX6_orderConditions 107 = .ok (.aload_n 0, 1) := by decide +kernel
theorem dX6_orderConditions_108 : decode cX6_orderConditions 108 = .ok (.getfield 25, 3) := by decide +kernel
theorem dX6_orderConditions_111 : decode cX6_orderConditions 111 = .ok (.iload 7, 2) := by decide +kernel
theorem dX6_orderConditions_113 : decode cX6_orderConditions 113 = .ok (.iload 6, 2) := by decide +kernel
theorem dX6_orderConditions_115 : decode cX6_orderConditions 115 = .ok (.iastore, 1) := by decide +kernel
theorem dX6_orderConditions_116 : decode cX6_orderConditions 116 = .ok (.aload_n 0, 1) := by decide +kernel
theorem dX6_orderConditions_117 : decode cX6_orderConditions 117 = .ok (.getfield 22, 3) := by decide +kernel
theorem dX6_orderConditions_120 : decode cX6_orderConditions 120 = .ok (.iload 7, 2) := by decide +kernel
theorem dX6_orderConditions_122 : decode cX6_orderConditions 122 = .ok (.iload 4, 2) := by decide +kernel
theorem dX6_orderConditions_124 : decode cX6_orderConditions 124 = .ok (.iastore, 1) := by decide +kernel
theorem dX6_orderConditions_125 : decode cX6_orderConditions 125 = .ok (.iinc 4 1, 3) := by decide +kernel
theorem dX6_orderConditions_128 : decode cX6_orderConditions 128 = .ok (.goto (-125), 3) := by decide +kernel
theorem dX6_orderConditions_131 : decode cX6_orderConditions 131 = .ok (.return_, 1) := by decide +kernel
theorem dX6_costIn_0 : decode cX6_costIn 0 = .ok (.aload_n 2, 1) := by decide +kernel
theorem dX6_costIn_1 : decode cX6_costIn 1 = .ok (.aload_n 1, 1) := by decide +kernel
theorem dX6_costIn_2 : decode cX6_costIn 2 = .ok (.aload_n 0, 1) := by decide +kernel
theorem dX6_costIn_3 : decode cX6_costIn 3 = .ok (.getfield 38, 3) := by decide +kernel
theorem dX6_costIn_6 : decode cX6_costIn 6 = .ok (.ifCond .eq 14, 3) := by decide +kernel
theorem dX6_costIn_9 : decode cX6_costIn 9 = .ok (.aload_n 3, 1) := by decide +kernel
theorem dX6_costIn_10 : decode cX6_costIn 10 = .ok (.getfield 127, 3) := by decide +kernel
theorem dX6_costIn_13 : decode cX6_costIn 13 = .ok (.ifCond .eq 7, 3) := by decide +kernel
theorem dX6_costIn_16 : decode cX6_costIn 16 = .ok (.iconst 1, 1) := by decide +kernel
theorem dX6_costIn_17 : decode cX6_costIn 17 = .ok (.goto 4, 3) := by decide +kernel
theorem dX6_costIn_20 : decode cX6_costIn 20 = .ok (.iconst 0, 1) := by decide +kernel
theorem dX6_costIn_21 : decode cX6_costIn 21 = .ok (.invokevirtual 130, 3) := by decide +kernel
theorem dX6_costIn_24 : decode cX6_costIn 24 = .ok (.tableswitch 59 0 4 #[36, 36, 38, 44, 49], 36) := by decide +kernel
theorem dX6_costIn_60 : decode cX6_costIn 60 = .ok (.iconst 0, 1) := by decide +kernel
theorem dX6_costIn_61 : decode cX6_costIn 61 = .ok (.ireturn, 1) := by decide +kernel
theorem dX6_costIn_62 : decode cX6_costIn 62 = .ok (.aload_n 1, 1) := by decide +kernel
theorem dX6_costIn_63 : decode cX6_costIn 63 = .ok (.aload_n 2, 1) := by decide +kernel
theorem dX6_costIn_64 : decode cX6_costIn 64 = .ok (.invokevirtual 134, 3) := by decide +kernel
theorem dX6_costIn_67 : decode cX6_costIn 67 = .ok (.ireturn, 1) := by decide +kernel
theorem dX6_costIn_68 : decode cX6_costIn 68 = .ok (.aload_n 1, 1) := by decide +kernel
theorem dX6_costIn_69 : decode cX6_costIn 69 = .ok (.getfield 140, 3) := by decide +kernel
theorem dX6_costIn_72 : decode cX6_costIn 72 = .ok (.ireturn, 1) := by decide +kernel
theorem dX6_costIn_73 : decode cX6_costIn 73 = .ok (.aload_n 1, 1) := by decide +kernel
theorem dX6_costIn_74 : decode cX6_costIn 74 = .ok (.getfield 143, 3) := by decide +kernel
theorem dX6_costIn_77 : decode cX6_costIn 77 = .ok (.aload_n 0, 1) := by decide +kernel
theorem dX6_costIn_78 : decode cX6_costIn 78 = .ok (.getfield 90, 3) := by decide +kernel
theorem dX6_costIn_81 : decode cX6_costIn 81 = .ok (.iadd, 1) := by decide +kernel
theorem dX6_costIn_82 : decode cX6_costIn 82 = .ok (.ireturn, 1) := by decide +kernel
theorem dX6_costIn_83 : decode cX6_costIn 83 = .ok (.aload_n 0, 1) := by decide +kernel
theorem dX6_costIn_84 : decode cX6_costIn 84 = .ok (.getfield 90, 3) := by decide +kernel
theorem dX6_costIn_87 : decode cX6_costIn 87 = .ok (.ireturn, 1) := by decide +kernel
theorem dX6_narrow_0 : decode cX6_narrow 0 = .ok (.iconst 0, 1) := by decide +kernel
theorem dX6_narrow_1 : decode cX6_narrow 1 = .ok (.istore 4, 2) := by decide +kernel
theorem dX6_narrow_3 : decode cX6_narrow 3 = .ok (.iload 4, 2) := by decide +kernel
theorem dX6_narrow_5 : decode cX6_narrow 5 = .ok (.aload_n 1, 1) := by decide +kernel
theorem dX6_narrow_6 : decode cX6_narrow 6 = .ok (.getfield 77, 3) := by decide +kernel
theorem dX6_narrow_9 : decode cX6_narrow 9 = .ok (.if_icmp .ge 67, 3) := by decide +kernel
theorem dX6_narrow_12 : decode cX6_narrow 12 = .ok (.aload_n 1, 1) := by decide +kernel
theorem dX6_narrow_13 : decode cX6_narrow 13 = .ok (.getfield 146, 3) := by decide +kernel
theorem dX6_narrow_16 : decode cX6_narrow 16 = .ok (.iload 4, 2) := by decide +kernel
theorem dX6_narrow_18 : decode cX6_narrow 18 = .ok (.iaload, 1) := by decide +kernel
theorem dX6_narrow_19 : decode cX6_narrow 19 = .ok (.istore 5, 2) := by decide +kernel
theorem dX6_narrow_21 : decode cX6_narrow 21 = .ok (.aload_n 0, 1) := by decide +kernel
theorem dX6_narrow_22 : decode cX6_narrow 22 = .ok (.getfield 15, 3) := by decide +kernel
theorem dX6_narrow_25 : decode cX6_narrow 25 = .ok (.iload 4, 2) := by decide +kernel
theorem dX6_narrow_27 : decode cX6_narrow 27 = .ok (.baload, 1) := by decide +kernel
theorem dX6_narrow_28 : decode cX6_narrow 28 = .ok (.ifCond .eq 42, 3) := by decide +kernel
theorem dX6_narrow_31 : decode cX6_narrow 31 = .ok (.aload_n 2, 1) := by decide +kernel
theorem dX6_narrow_32 : decode cX6_narrow 32 = .ok (.aload_n 3, 1) := by decide +kernel
theorem dX6_narrow_33 : decode cX6_narrow 33 = .ok (.getfield 147, 3) := by decide +kernel
theorem dX6_narrow_36 : decode cX6_narrow 36 = .ok (.iload 5, 2) := by decide +kernel
theorem dX6_narrow_38 : decode cX6_narrow 38 = .ok (.baload, 1) := by decide +kernel
theorem dX6_narrow_39 : decode cX6_narrow 39 = .ok (.aload_n 3, 1) := by decide +kernel
theorem dX6_narrow_40 : decode cX6_narrow 40 = .ok (.getfield 150, 3) := by decide +kernel
theorem dX6_narrow_43 : decode cX6_narrow 43 = .ok (.iload 5, 2) := by decide +kernel
theorem dX6_narrow_45 : decode cX6_narrow 45 = .ok (.iaload, 1) := by decide +kernel
theorem dX6_narrow_46 : decode cX6_narrow 46 = .ok (.invokevirtual 153, 3) := by decide +kernel
theorem dX6_narrow_49 : decode cX6_narrow 49 = .ok (.ifCond .ne 21, 3) := by decide +kernel
theorem dX6_narrow_52 : decode cX6_narrow 52 = .ok (.aload_n 0, 1) := by decide +kernel
theorem dX6_narrow_53 : decode cX6_narrow 53 = .ok (.getfield 15, 3) := by decide +kernel
theorem dX6_narrow_56 : decode cX6_narrow 56 = .ok (.iload 4, 2) := by decide +kernel
theorem dX6_narrow_58 : decode cX6_narrow 58 = .ok (.iconst 0, 1) := by decide +kernel
theorem dX6_narrow_59 : decode cX6_narrow 59 = .ok (.bastore, 1) := by decide +kernel
theorem dX6_narrow_60 : decode cX6_narrow 60 = .ok (.aload_n 0, 1) := by decide +kernel
theorem dX6_narrow_61 : decode cX6_narrow 61 = .ok (.dup, 1) := by decide +kernel
theorem dX6_narrow_62 : decode cX6_narrow 62 = .ok (.getfield 90, 3) := by decide +kernel
theorem dX6_narrow_65 : decode cX6_narrow 65 = .ok (.iconst 1, 1) := by decide +kernel
theorem dX6_narrow_66 : decode cX6_narrow 66 = .ok (.isub, 1) := by decide +kernel
theorem dX6_narrow_67 : decode cX6_narrow 67 = .ok (.putfield 90, 3) := by decide +kernel
theorem dX6_narrow_70 : decode cX6_narrow 70 = .ok (.iinc 4 1, 3) := by decide +kernel
theorem dX6_narrow_73 : decode cX6_narrow 73 = .ok (.goto (-70), 3) := by decide +kernel
theorem dX6_narrow_76 : decode cX6_narrow 76 = .ok (.return_, 1) := by decide +kernel
theorem dX6_collect_0 : decode cX6_collect 0 = .ok (.iconst 0, 1) := by decide +kernel
theorem dX6_collect_1 : decode cX6_collect 1 = .ok (.istore 4, 2) := by decide +kernel
theorem dX6_collect_3 : decode cX6_collect 3 = .ok (.iload 4, 2) := by decide +kernel
theorem dX6_collect_5 : decode cX6_collect 5 = .ok (.aload_n 2, 1) := by decide +kernel
theorem dX6_collect_6 : decode cX6_collect 6 = .ok (.getfield 77, 3) := by decide +kernel
theorem dX6_collect_9 : decode cX6_collect 9 = .ok (.if_icmp .ge 73, 3) := by decide +kernel
theorem dX6_collect_12 : decode cX6_collect 12 = .ok (.aload_n 2, 1) := by decide +kernel
theorem dX6_collect_13 : decode cX6_collect 13 = .ok (.getfield 146, 3) := by decide +kernel
theorem dX6_collect_16 : decode cX6_collect 16 = .ok (.iload 4, 2) := by decide +kernel
theorem dX6_collect_18 : decode cX6_collect 18 = .ok (.iaload, 1) := by decide +kernel
theorem dX6_collect_19 : decode cX6_collect 19 = .ok (.istore 5, 2) := by decide +kernel
theorem dX6_collect_21 : decode cX6_collect 21 = .ok (.aload_n 1, 1) := by decide +kernel
theorem dX6_collect_22 : decode cX6_collect 22 = .ok (.getfield 157, 3) := by decide +kernel
theorem dX6_collect_25 : decode cX6_collect 25 = .ok (.iload 5, 2) := by decide +kernel
theorem dX6_collect_27 : decode cX6_collect 27 = .ok (.baload, 1) := by decide +kernel
theorem dX6_collect_28 : decode cX6_collect 28 = .ok (.ifCond .eq 48, 3) := by decide +kernel
theorem dX6_collect_31 : decode cX6_collect 31 = .ok (.iload_n 3, 1) := by decide +kernel
theorem dX6_collect_32 : decode cX6_collect 32 = .ok (.ifCond .ne 13, 3) := by decide +kernel
theorem dX6_collect_35 : decode cX6_collect 35 = .ok (.aload_n 0, 1) := by decide +kernel
theorem dX6_collect_36 : decode cX6_collect 36 = .ok (.getfield 19, 3) := by decide +kernel
theorem dX6_collect_39 : decode cX6_collect 39 = .ok (.iload 4, 2) := by decide +kernel
theorem dX6_collect_41 : decode cX6_collect 41 = .ok (.baload, 1) := by decide +kernel
theorem dX6_collect_42 : decode cX6_collect 42 = .ok (.ifCond .eq 34, 3) := by decide +kernel
theorem dX6_collect_45 : decode cX6_collect 45 = .ok (.aload_n 0, 1) := by decide +kernel
theorem dX6_collect_46 : decode cX6_collect 46 = .ok (.getfield 28, 3) := by decide +kernel
theorem dX6_collect_49 : decode cX6_collect 49 = .ok (.sipush 600, 3) := by decide +kernel
theorem dX6_collect_52 : decode cX6_collect 52 = .ok (.if_icmp .ge 24, 3) := by decide +kernel
theorem dX6_collect_55 : decode cX6_collect 55 = .ok (.aload_n 0, 1) := by decide +kernel
theorem dX6_collect_56 : decode cX6_collect 56 = .ok (.getfield 9, 3) := by decide +kernel
theorem dX6_collect_59 : decode cX6_collect 59 = .ok (.aload_n 0, 1) := by decide +kernel
theorem dX6_collect_60 : decode cX6_collect 60 = .ok (.getfield 28, 3) := by decide +kernel
theorem dX6_collect_63 : decode cX6_collect 63 = .ok (.iload 5, 2) := by decide +kernel
theorem dX6_collect_65 : decode cX6_collect 65 = .ok (.iastore, 1) := by decide +kernel
theorem dX6_collect_66 : decode cX6_collect 66 = .ok (.aload_n 0, 1) := by decide +kernel
theorem dX6_collect_67 : decode cX6_collect 67 = .ok (.dup, 1) := by decide +kernel
theorem dX6_collect_68 : decode cX6_collect 68 = .ok (.getfield 28, 3) := by decide +kernel
theorem dX6_collect_71 : decode cX6_collect 71 = .ok (.iconst 1, 1) := by decide +kernel
theorem dX6_collect_72 : decode cX6_collect 72 = .ok (.iadd, 1) := by decide +kernel
theorem dX6_collect_73 : decode cX6_collect 73 = .ok (.putfield 28, 3) := by decide +kernel
theorem dX6_collect_76 : decode cX6_collect 76 = .ok (.iinc 4 1, 3) := by decide +kernel
theorem dX6_collect_79 : decode cX6_collect 79 = .ok (.goto (-76), 3) := by decide +kernel
theorem dX6_collect_82 : decode cX6_collect 82 = .ok (.return_, 1) := by decide +kernel
theorem dX7_init_0 : decode cX7_init 0 = .ok (.aload_n 0, 1) := by decide +kernel
theorem dX7_init_1 : decode cX7_init 1 = .ok (.invokespecial 3, 3) := by decide +kernel
theorem dX7_init_4 : decode cX7_init 4 = .ok (.aload_n 0, 1) := by decide +kernel
theorem dX7_init_5 : decode cX7_init 5 = .ok (.sipush 600, 3) := by decide +kernel
theorem dX7_init_8 : decode cX7_init 8 = .ok (.newarray .long, 2) := by decide +kernel
theorem dX7_init_10 : decode cX7_init 10 = .ok (.putfield 9, 3) := by decide +kernel
theorem dX7_init_13 : decode cX7_init 13 = .ok (.aload_n 0, 1) := by decide +kernel
theorem dX7_init_14 : decode cX7_init 14 = .ok (.sipush 600, 3) := by decide +kernel
theorem dX7_init_17 : decode cX7_init 17 = .ok (.newarray .int, 2) := by decide +kernel
theorem dX7_init_19 : decode cX7_init 19 = .ok (.putfield 15, 3) := by decide +kernel
theorem dX7_init_22 : decode cX7_init 22 = .ok (.return_, 1) := by decide +kernel
theorem dX7_arrange_0 : decode cX7_arrange 0 = .ok (.iconst 0, 1) := by decide +kernel
theorem dX7_arrange_1 : decode cX7_arrange 1 = .ok (.istore 6, 2) := by decide +kernel
theorem dX7_arrange_3 : decode cX7_arrange 3 = .ok (.iload 6, 2) := by decide +kernel
theorem dX7_arrange_5 : decode cX7_arrange 5 = .ok (.iload_n 2, 1) := by decide +kernel
theorem dX7_arrange_6 : decode cX7_arrange 6 = .ok (.if_icmp .ge 72, 3) := by decide +kernel
theorem dX7_arrange_9 : decode cX7_arrange 9 = .ok (.aload_n 1, 1) := by decide +kernel
theorem dX7_arrange_10 : decode cX7_arrange 10 = .ok (.iload 6, 2) := by decide +kernel
theorem dX7_arrange_12 : decode cX7_arrange 12 = .ok (.iaload, 1) := by decide +kernel
theorem dX7_arrange_13 : decode cX7_arrange 13 = .ok (.istore 7, 2) := by decide +kernel
theorem dX7_arrange_15 : decode cX7_arrange 15 = .ok (.aload_n 3, 1) := by decide +kernel
theorem dX7_arrange_16 : decode cX7_arrange 16 = .ok (.getfield 19, 3) := by decide +kernel
theorem dX7_arrange_19 : decode cX7_arrange 19 = .ok (.iload 7, 2) := by decide +kernel
theorem dX7_arrange_21 : decode cX7_arrange 21 = .ok (.iaload, 1) := by decide +kernel
theorem dX7_arrange_22 : decode cX7_arrange 22 = .ok (.i2l, 1) := by decide +kernel
theorem dX7_arrange_23 : decode cX7_arrange 23 = .ok (.lstore 8, 2) := by decide +kernel
theorem dX7_arrange_25 : decode cX7_arrange 25 = .ok (.aload_n 0, 1) := by decide +kernel
theorem dX7_arrange_26 : decode cX7_arrange 26 = .ok (.getfield 9, 3) := by decide +kernel
theorem dX7_arrange_29 : decode cX7_arrange 29 = .ok (.iload 7, 2) := by decide +kernel
theorem dX7_arrange_31 : decode cX7_arrange 31 = .ok (.aload_n 3, 1) := by decide +kernel
theorem dX7_arrange_32 : decode cX7_arrange 32 = .ok (.getfield 24, 3) := by decide +kernel
theorem dX7_arrange_35 : decode cX7_arrange 35 = .ok (.iload 7, 2) := by decide +kernel
theorem dX7_arrange_37 : decode cX7_arrange 37 = .ok (.baload, 1) := by decide +kernel
theorem dX7_arrange_38 : decode cX7_arrange 38 = .ok (.ifCond .eq 20, 3) := by decide +kernel
theorem dX7_arrange_41 : decode cX7_arrange 41 = .ok (.iload 5, 2) := by decide +kernel
theorem dX7_arrange_43 : decode cX7_arrange 43 = .ok (.ifCond .eq 9, 3) := by decide +kernel
theorem dX7_arrange_46 : decode cX7_arrange 46 = .ok (.ldc2_w 28, 3) := by decide +kernel
theorem dX7_arrange_49 : decode cX7_arrange 49 = .ok (.goto 22, 3) := by decide +kernel
theorem dX7_arrange_52 : decode cX7_arrange 52 = .ok (.ldc2_w 30, 3) := by decide +kernel
theorem dX7_arrange_55 : decode cX7_arrange 55 = .ok (.goto 16, 3) := by decide +kernel
theorem dX7_arrange_58 : decode cX7_arrange 58 = .ok (.iload 4, 2) := by decide +kernel
theorem dX7_arrange_60 : decode cX7_arrange 60 = .ok (.ifCond .eq 9, 3) := by decide +kernel
theorem dX7_arrange_63 : decode cX7_arrange 63 = .ok (.lload 8, 2) := by decide +kernel
theorem dX7_arrange_65 : decode cX7_arrange 65 = .ok (.lneg, 1) := by decide +kernel
theorem dX7_arrange_66 : decode cX7_arrange 66 = .ok (.goto 5, 3) := by decide +kernel
theorem dX7_arrange_69 : decode cX7_arrange 69 = .ok (.lload 8, 2) := by decide +kernel
theorem dX7_arrange_71 : decode cX7_arrange 71 = .ok (.lastore, 1) := by decide +kernel
theorem dX7_arrange_72 : decode cX7_arrange 72 = .ok (.iinc 6 1, 3) := by decide +kernel
theorem dX7_arrange_75 : decode cX7_arrange 75 = .ok (.goto (-72), 3) := by decide +kernel
theorem dX7_arrange_78 : decode cX7_arrange 78 = .ok (.iconst 1, 1) := by decide +kernel
theorem dX7_arrange_79 : decode cX7_arrange 79 = .ok (.istore 6, 2) := by decide +kernel
theorem dX7_arrange_81 : decode cX7_arrange 81 = .ok (.iload 6, 2) := by decide +kernel
theorem dX7_arrange_83 : decode cX7_arrange 83 = .ok (.iload_n 2, 1) := by decide +kernel
theorem dX7_arrange_84 : decode cX7_arrange 84 = .ok (.if_icmp .ge 73, 3) := by decide +kernel
theorem dX7_arrange_87 : decode cX7_arrange 87 = .ok (.iconst 0, 1) := by decide +kernel
theorem dX7_arrange_88 : decode cX7_arrange 88 = .ok (.istore 7, 2) := by decide +kernel
theorem dX7_arrange_90 : decode cX7_arrange 90 = .ok (.iload 7, 2) := by decide +kernel
theorem dX7_arrange_92 : decode cX7_arrange 92 = .ok (.iload_n 2, 1) := by decide +kernel
theorem dX7_arrange_93 : decode cX7_arrange 93 = .ok (.if_icmp .ge 44, 3) := by decide +kernel
theorem dX7_arrange_96 : decode cX7_arrange 96 = .ok (.iload 7, 2) := by decide +kernel
theorem dX7_arrange_98 : decode cX7_arrange 98 = .ok (.iload 6, 2) := by decide +kernel
theorem dX7_arrange_100 : decode cX7_arrange 100 = .ok (.iadd, 1) := by decide +kernel
theorem dX7_arrange_101 : decode cX7_arrange 101 = .ok (.iload_n 2, 1) := by decide +kernel
theorem dX7_arrange_102 : decode cX7_arrange 102 = .ok (.invokestatic 32, 3) := by decide +kernel
theorem dX7_arrange_105 : decode cX7_arrange 105 = .ok (.istore 8, 2) := by decide +kernel
theorem dX7_arrange_107 : decode cX7_arrange 107 = .ok (.aload_n 0, 1) := by decide +kernel
theorem dX7_arrange_108 : decode cX7_arrange 108 = .ok (.aload_n 1, 1) := by decide +kernel
theorem dX7_arrange_109 : decode cX7_arrange 109 = .ok (.iload 7, 2) := by decide +kernel
theorem dX7_arrange_111 : decode cX7_arrange 111 = .ok (.iload 8, 2) := by decide +kernel
theorem dX7_arrange_113 : decode cX7_arrange 113 = .ok (.iload 8, 2) := by decide +kernel
theorem dX7_arrange_115 : decode cX7_arrange 115 = .ok (.iload 6, 2) := by decide +kernel
theorem dX7_arrange_117 : decode cX7_arrange 117 = .ok (.iadd, 1) := by decide +kernel
theorem dX7_arrange_118 : decode cX7_arrange 118 = .ok (.iload_n 2, 1) := by decide +kernel
theorem dX7_arrange_119 : decode cX7_arrange 119 = .ok (.invokestatic 32, 3) := by decide +kernel
theorem dX7_arrange_122 : decode cX7_arrange 122 = .ok (.invokevirtual 38, 3) := by decide +kernel
theorem dX7_arrange_125 : decode cX7_arrange 125 = .ok (.iload 7, 2) := by decide +kernel
theorem dX7_arrange_127 : decode cX7_arrange 127 = .ok (.iconst 2, 1) := by decide +kernel
theorem dX7_arrange_128 : decode cX7_arrange 128 = .ok (.iload 6, 2) := by decide +kernel
theorem dX7_arrange_130 : decode cX7_arrange 130 = .ok (.imul, 1) := by decide +kernel
theorem dX7_arrange_131 : decode cX7_arrange 131 = .ok (.iadd, 1) := by decide +kernel
theorem dX7_arrange_132 : decode cX7_arrange 132 = .ok (.istore 7, 2) := by decide +kernel
theorem dX7_arrange_134 : decode cX7_arrange 134 = .ok (.goto (-44), 3) := by decide +kernel
theorem dX7_arrange_137 : decode cX7_arrange 137 = .ok (.aload_n 0, 1) := by decide +kernel
theorem dX7_arrange_138 : decode cX7_arrange 138 = .ok (.getfield 15, 3) := by decide +kernel
theorem dX7_arrange_141 : decode cX7_arrange 141 = .ok (.iconst 0, 1) := by decide +kernel
theorem dX7_arrange_142 : decode cX7_arrange 142 = .ok (.aload_n 1, 1) := by decide +kernel
theorem dX7_arrange_143 : decode cX7_arrange 143 = .ok (.iconst 0, 1) := by decide +kernel
theorem dX7_arrange_144 : decode cX7_arrange 144 = .ok (.iload_n 2, 1) := by decide +kernel
theorem dX7_arrange_145 : decode cX7_arrange 145 = .ok (.invokestatic 42, 3) := by decide +kernel
theorem dX7_arrange_148 : decode cX7_arrange 148 = .ok (.iload 6, 2) := by decide +kernel
theorem dX7_arrange_150 : decode cX7_arrange 150 = .ok (.iconst 2, 1) := by decide +kernel
theorem dX7_arrange_151 : decode cX7_arrange 151 = .ok (.imul, 1) := by decide +kernel
theorem dX7_arrange_152 : decode cX7_arrange 152 = .ok (.istore 6, 2) := by decide +kernel
theorem dX7_arrange_154 : decode cX7_arrange 154 = .ok (.goto (-73), 3) := by decide +kernel
theorem dX7_arrange_157 : decode cX7_arrange 157 = .ok (.return_, 1) := by decide +kernel
theorem dX7_join_0 : decode cX7_join 0 = .ok (.iload_n 2, 1) := by decide +kernel
theorem dX7_join_1 : decode cX7_join 1 = .ok (.istore 5, 2) := by decide +kernel
theorem dX7_join_3 : decode cX7_join 3 = .ok (.iload_n 3, 1) := by decide +kernel
theorem dX7_join_4 : decode cX7_join 4 = .ok (.istore 6, 2) := by decide +kernel
theorem dX7_join_6 : decode cX7_join 6 = .ok (.iload_n 2, 1) := by decide +kernel
theorem dX7_join_7 : decode cX7_join 7 = .ok (.istore 7, 2) := by decide +kernel
theorem dX7_join_9 : decode cX7_join 9 = .ok (.iload 7, 2) := by decide +kernel
theorem dX7_join_11 : decode cX7_join 11 = .ok (.iload 4, 2) := by decide +kernel
theorem dX7_join_13 : decode cX7_join 13 = .ok (.if_icmp .ge 80, 3) := by decide +kernel
theorem dX7_join_16 : decode cX7_join 16 = .ok (.iload 6, 2) := by decide +kernel
theorem dX7_join_18 : decode cX7_join 18 = .ok (.iload 4, 2) := by decide +kernel
theorem dX7_join_20 : decode cX7_join 20 = .ok (.if_icmp .ge 31, 3) := by decide +kernel
theorem dX7_join_23 : decode cX7_join 23 = .ok (.iload 5, 2) := by decide +kernel
theorem dX7_join_25 : decode cX7_join 25 = .ok (.iload_n 3, 1) := by decide +kernel
theorem dX7_join_26 : decode cX7_join 26 = .ok (.if_icmp .ge 29, 3) := by decide +kernel
theorem dX7_join_29 : decode cX7_join 29 = .ok (.aload_n 0, 1) := by decide +kernel
theorem dX7_join_30 : decode cX7_join 30 = .ok (.getfield 9, 3) := by decide +kernel
theorem dX7_join_33 : decode cX7_join 33 = .ok (.aload_n 1, 1) := by decide +kernel
theorem dX7_join_34 : decode cX7_join 34 = .ok (.iload 5, 2) := by decide +kernel
theorem dX7_join_36 : decode cX7_join 36 = .ok (.iaload, 1) := by decide +kernel
theorem dX7_join_37 : decode cX7_join 37 = .ok (.laload, 1) := by decide +kernel
theorem dX7_join_38 : decode cX7_join 38 = .ok (.aload_n 0, 1) := by decide +kernel
theorem dX7_join_39 : decode cX7_join 39 = .ok (.getfield 9, 3) := by decide +kernel
theorem dX7_join_42 : decode cX7_join 42 = .ok (.aload_n 1, 1) := by decide +kernel
theorem dX7_join_43 : decode cX7_join 43 = .ok (.iload 6, 2) := by decide +kernel
theorem dX7_join_45 : decode cX7_join 45 = .ok (.iaload, 1) := by decide +kernel
theorem dX7_join_46 : decode cX7_join 46 = .ok (.laload, 1) := by decide +kernel
theorem dX7_join_47 : decode cX7_join 47 = .ok (.lcmp, 1) := by decide +kernel
theorem dX7_join_48 : decode cX7_join 48 = .ok (.ifCond .gt 7, 3) := by decide +kernel
theorem dX7_join_51 : decode cX7_join 51 = .ok (.iconst 1, 1) := by decide +kernel
theorem dX7_join_52 : decode cX7_join 52 = .ok (.goto 4, 3) := by decide +kernel
theorem dX7_join_55 : decode cX7_join 55 = .ok (.iconst 0, 1) := by decide +kernel
theorem dX7_join_56 : decode cX7_join 56 = .ok (.istore 8, 2) := by decide +kernel
theorem dX7_join_58 : decode cX7_join 58 = .ok (.aload_n 0, 1) := by decide +kernel
theorem dX7_join_59 : decode cX7_join 59 = .ok (.getfield 15, 3) := by decide +kernel
theorem dX7_join_62 : decode cX7_join 62 = .ok (.iload 7, 2) := by decide +kernel
theorem dX7_join_64 : decode cX7_join 64 = .ok (.iload 8, 2) := by decide +kernel
theorem dX7_join_66 : decode cX7_join 66 = .ok (.ifCond .eq 13, 3) := by decide +kernel
theorem dX7_join_69 : decode cX7_join 69 = .ok (.aload_n 1, 1) := by decide +kernel
theorem dX7_join_70 : decode cX7_join 70 = .ok (.iload 5, 2) := by decide +kernel
theorem dX7_join_72 : decode cX7_join 72 = .ok (.iinc 5 1, 3) := by decide +kernel
theorem dX7_join_75 : decode cX7_join 75 = .ok (.iaload, 1) := by decide +kernel
theorem dX7_join_76 : decode cX7_join 76 = .ok (.goto 10, 3) := by decide +kernel
theorem dX7_join_79 : decode cX7_join 79 = .ok (.aload_n 1, 1) := by decide +kernel
theorem dX7_join_80 : decode cX7_join 80 = .ok (.iload 6, 2) := by decide +kernel
theorem dX7_join_82 : decode cX7_join 82 = .ok (.iinc 6 1, 3) := by decide +kernel
theorem dX7_join_85 : decode cX7_join 85 = .ok (.iaload, 1) := by decide +kernel
theorem dX7_join_86 : decode cX7_join 86 = .ok (.iastore, 1) := by decide +kernel
theorem dX7_join_87 : decode cX7_join 87 = .ok (.iinc 7 1, 3) := by decide +kernel
theorem dX7_join_90 : decode cX7_join 90 = .ok (.goto (-81), 3) := by decide +kernel
theorem dX7_join_93 : decode cX7_join 93 = .ok (.return_, 1) := by decide +kernel
theorem dX8_init_0 : decode cX8_init 0 = .ok (.aload_n 0, 1) := by decide +kernel
theorem dX8_init_1 : decode cX8_init 1 = .ok (.invokespecial 3, 3) := by decide +kernel
theorem dX8_init_4 : decode cX8_init 4 = .ok (.aload_n 0, 1) := by decide +kernel
theorem dX8_init_5 : decode cX8_init 5 = .ok (.new 9, 3) := by decide +kernel
theorem dX8_init_8 : decode cX8_init 8 = .ok (.dup, 1) := by decide +kernel
theorem dX8_init_9 : decode cX8_init 9 = .ok (.invokespecial 11, 3) := by decide +kernel
theorem dX8_init_12 : decode cX8_init 12 = .ok (.putfield 12, 3) := by decide +kernel
theorem dX8_init_15 : decode cX8_init 15 = .ok (.aload_n 0, 1) := by decide +kernel
theorem dX8_init_16 : decode cX8_init 16 = .ok (.new 9, 3) := by decide +kernel
theorem dX8_init_19 : decode cX8_init 19 = .ok (.dup, 1) := by decide +kernel
theorem dX8_init_20 : decode cX8_init 20 = .ok (.invokespecial 11, 3) := by decide +kernel
theorem dX8_init_23 : decode cX8_init 23 = .ok (.putfield 18, 3) := by decide +kernel
theorem dX8_init_26 : decode cX8_init 26 = .ok (.aload_n 0, 1) := by decide +kernel
theorem dX8_init_27 : decode cX8_init 27 = .ok (.sipush 600, 3) := by decide +kernel
theorem dX8_init_30 : decode cX8_init 30 = .ok (.newarray .boolean, 2) := by decide +kernel
theorem dX8_init_32 : decode cX8_init 32 = .ok (.putfield 21, 3) := by decide +kernel
theorem dX8_init_35 : decode cX8_init 35 = .ok (.aload_n 0, 1) := by decide +kernel
theorem dX8_init_36 : decode cX8_init 36 = .ok (.sipush 600, 3) := by decide +kernel
theorem dX8_init_39 : decode cX8_init 39 = .ok (.newarray .int, 2) := by decide +kernel
theorem dX8_init_41 : decode cX8_init 41 = .ok (.putfield 25, 3) := by decide +kernel
theorem dX8_init_44 : decode cX8_init 44 = .ok (.aload_n 0, 1) := by decide +kernel
theorem dX8_init_45 : decode cX8_init 45 = .ok (.new 29, 3) := by decide +kernel
theorem dX8_init_48 : decode cX8_init 48 = .ok (.dup, 1) := by decide +kernel
theorem dX8_init_49 : decode cX8_init 49 = .ok (.invokespecial 31, 3) := by decide +kernel
theorem dX8_init_52 : decode cX8_init 52 = .ok (.putfield 32, 3) := by decide +kernel
theorem dX8_init_55 : decode cX8_init 55 = .ok (.aload_n 0, 1) := by decide +kernel
theorem dX8_init_56 : decode cX8_init 56 = .ok (.new 36, 3) := by decide +kernel
theorem dX8_init_59 : decode cX8_init 59 = .ok (.dup, 1) := by decide +kernel
theorem dX8_init_60 : decode cX8_init 60 = .ok (.invokespecial 38, 3) := by decide +kernel
theorem dX8_init_63 : decode cX8_init 63 = .ok (.putfield 39, 3) := by decide +kernel
theorem dX8_init_66 : decode cX8_init 66 = .ok (.aload_n 0, 1) := by decide +kernel
theorem dX8_init_67 : decode cX8_init 67 = .ok (.bipush 32, 2) := by decide +kernel
theorem dX8_init_69 : decode cX8_init 69 = .ok (.putfield 43, 3) := by decide +kernel
theorem dX8_init_72 : decode cX8_init 72 = .ok (.aload_n 0, 1) := by decide +kernel
theorem dX8_init_73 : decode cX8_init 73 = .ok (.new 36, 3) := by decide +kernel
theorem dX8_init_76 : decode cX8_init 76 = .ok (.dup, 1) := by decide +kernel
theorem dX8_init_77 : decode cX8_init 77 = .ok (.invokespecial 38, 3) := by decide +kernel
theorem dX8_init_80 : decode cX8_init 80 = .ok (.putfield 47, 3) := by decide +kernel
theorem dX8_init_83 : decode cX8_init 83 = .ok (.aload_n 0, 1) := by decide +kernel
theorem dX8_init_84 : decode cX8_init 84 = .ok (.bipush 64, 2) := by decide +kernel
theorem dX8_init_86 : decode cX8_init 86 = .ok (.newarray .int, 2) := by decide +kernel
theorem dX8_init_88 : decode cX8_init 88 = .ok (.putfield 50, 3) := by decide +kernel
theorem dX8_init_91 : decode cX8_init 91 = .ok (.return_, 1) := by decide +kernel
theorem dX8_givenColumns_0 : decode cX8_givenColumns 0 = .ok (.iconst 0, 1) := by decide +kernel
theorem dX8_givenColumns_1 : decode cX8_givenColumns 1 = .ok (.istore_n 1, 1) := by decide +kernel
theorem dX8_givenColumns_2 : decode cX8_givenColumns 2 = .ok (.iconst 0, 1) := by decide +kernel
theorem dX8_givenColumns_3 : decode cX8_givenColumns 3 = .ok (.istore_n 2, 1) := by decide +kernel
theorem dX8_givenColumns_4 : decode cX8_givenColumns 4 = .ok (.iload_n 2, 1) := by decide +kernel
theorem dX8_givenColumns_5 : decode cX8_givenColumns 5 = .ok (.aload_n 0, 1) := by decide +kernel
theorem dX8_givenColumns_6 : decode cX8_givenColumns 6 = .ok (.getfield 12, 3) := by decide +kernel
theorem dX8_givenColumns_9 : decode cX8_givenColumns 9 = .ok (.invokevirtual 53, 3) := by decide +kernel
theorem dX8_givenColumns_12 : decode cX8_givenColumns 12 = .ok (.if_icmp .ge 29, 3) := by decide +kernel
theorem dX8_givenColumns_15 : decode cX8_givenColumns 15 = .ok (.aload_n 0, 1) := by decide +kernel
theorem dX8_givenColumns_16 : decode cX8_givenColumns 16 = .ok (.getfield 12, 3) := by decide +kernel
theorem dX8_givenColumns_19 : decode cX8_givenColumns 19 = .ok (.iload_n 2, 1) := by decide +kernel
theorem dX8_givenColumns_20 : decode cX8_givenColumns 20 = .ok (.invokevirtual 56, 3) := by decide +kernel
theorem dX8_givenColumns_23 : decode cX8_givenColumns 23 = .ok (.checkcast 60, 3) := by decide +kernel
theorem dX8_givenColumns_26 : decode cX8_givenColumns 26 = .ok (.getfield 62, 3) := by decide +kernel
theorem dX8_givenColumns_29 : decode cX8_givenColumns 29 = .ok (.ifCond .eq 6, 3) := by decide +kernel
theorem dX8_givenColumns_32 : decode cX8_givenColumns 32 = .ok (.iinc 1 1, 3) := by decide +kernel
theorem dX8_givenColumns_35 : decode cX8_givenColumns 35 = .ok (.iinc 2 1, 3) := by decide +kernel
theorem dX8_givenColumns_38 : decode cX8_givenColumns 38 = .ok (.goto (-34), 3) := by decide +kernel
theorem dX8_givenColumns_41 : decode cX8_givenColumns 41 = .ok (.iload_n 1, 1) := by decide +kernel
theorem dX8_givenColumns_42 : decode cX8_givenColumns 42 = .ok (.ireturn, 1) := by decide +kernel
theorem dX8_appendGiven_0 : decode cX8_appendGiven 0 = .ok (.iconst 0, 1) := by decide +kernel
theorem dX8_appendGiven_1 : decode cX8_appendGiven 1 = .ok (.istore_n 1, 1) := by decide +kernel
theorem dX8_appendGiven_2 : decode cX8_appendGiven 2 = .ok (.iload_n 1, 1) := by decide +kernel
theorem dX8_appendGiven_3 : decode cX8_appendGiven 3 = .ok (.aload_n 0, 1) := by decide +kernel
theorem dX8_appendGiven_4 : decode cX8_appendGiven 4 = .ok (.getfield 12, 3) := by decide +kernel
theorem dX8_appendGiven_7 : decode cX8_appendGiven 7 = .ok (.invokevirtual 53, 3) := by decide +kernel
theorem dX8_appendGiven_10 : decode cX8_appendGiven 10 = .ok (.if_icmp .ge 27, 3) := by decide +kernel
theorem dX8_appendGiven_13 : decode cX8_appendGiven 13 = .ok (.aload_n 0, 1) := by decide +kernel
theorem dX8_appendGiven_14 : decode cX8_appendGiven 14 = .ok (.getfield 12, 3) := by decide +kernel
theorem dX8_appendGiven_17 : decode cX8_appendGiven 17 = .ok (.iload_n 1, 1) := by decide +kernel
theorem dX8_appendGiven_18 : decode cX8_appendGiven 18 = .ok (.invokevirtual 56, 3) := by decide +kernel
theorem dX8_appendGiven_21 : decode cX8_appendGiven 21 = .ok (.checkcast 60, 3) := by decide +kernel
theorem dX8_appendGiven_24 : decode cX8_appendGiven 24 = .ok (.aload_n 0, 1) := by decide +kernel
theorem dX8_appendGiven_25 : decode cX8_appendGiven 25 = .ok (.getfield 66, 3) := by decide +kernel
theorem dX8_appendGiven_28 : decode cX8_appendGiven 28 = .ok (.invokevirtual 69, 3) := by decide +kernel
theorem dX8_appendGiven_31 : decode cX8_appendGiven 31 = .ok (.iinc 1 1, 3) := by decide +kernel
theorem dX8_appendGiven_34 : decode cX8_appendGiven 34 = .ok (.goto (-32), 3) := by decide +kernel
theorem dX8_appendGiven_37 : decode cX8_appendGiven 37 = .ok (.aload_n 0, 1) := by decide +kernel
theorem dX8_appendGiven_38 : decode cX8_appendGiven 38 = .ok (.invokevirtual 73, 3) := by decide +kernel
theorem dX8_appendGiven_41 : decode cX8_appendGiven 41 = .ok (.ireturn, 1) := by decide +kernel
theorem dX8_appendChanged_0 : decode cX8_appendChanged 0 = .ok (.aload_n 0, 1) := by decide +kernel
theorem dX8_appendChanged_1 : decode cX8_appendChanged 1 = .ok (.iload_n 1, 1) := by decide +kernel
theorem dX8_appendChanged_2 : decode cX8_appendChanged 2 = .ok (.invokevirtual 76, 3) := by decide +kernel
theorem dX8_appendChanged_5 : decode cX8_appendChanged 5 = .ok (.pop, 1) := by decide +kernel
theorem dX8_appendChanged_6 : decode cX8_appendChanged 6 = .ok (.iconst 0, 1) := by decide +kernel
theorem dX8_appendChanged_7 : decode cX8_appendChanged 7 = .ok (.istore 4, 2) := by decide +kernel
theorem dX8_appendChanged_9 : decode cX8_appendChanged 9 = .ok (.iload 4, 2) := by decide +kernel
theorem dX8_appendChanged_11 : decode cX8_appendChanged 11 = .ok (.aload_n 0, 1) := by decide +kernel
theorem dX8_appendChanged_12 : decode cX8_appendChanged 12 = .ok (.getfield 12, 3) := by decide +kernel
theorem dX8_appendChanged_15 : decode cX8_appendChanged 15 = .ok (.invokevirtual 53, 3) := by decide +kernel
theorem dX8_appendChanged_18 : decode cX8_appendChanged 18 = .ok (.if_icmp .ge 29, 3) := by decide +kernel
theorem dX8_appendChanged_21 : decode cX8_appendChanged 21 = .ok (.aload_n 0, 1) := by decide +kernel
theorem dX8_appendChanged_22 : decode cX8_appendChanged 22 = .ok (.getfield 12, 3) := by decide +kernel
theorem dX8_appendChanged_25 : decode cX8_appendChanged 25 = .ok (.iload 4, 2) := by decide +kernel
theorem dX8_appendChanged_27 : decode cX8_appendChanged 27 = .ok (.invokevirtual 56, 3) := by decide +kernel
theorem dX8_appendChanged_30 : decode cX8_appendChanged 30 = .ok (.checkcast 60, 3) := by decide +kernel
theorem dX8_appendChanged_33 : decode cX8_appendChanged 33 = .ok (.iload_n 1, 1) := by decide +kernel
theorem dX8_appendChanged_34 : decode cX8_appendChanged 34 = .ok (.aload_n 0, 1) := by decide +kernel
theorem dX8_appendChanged_35 : decode cX8_appendChanged 35 = .ok (.getfield 66, 3) := by decide +kernel
theorem dX8_appendChanged_38 : decode cX8_appendChanged 38 = .ok (.invokevirtual 80, 3) := by decide +kernel
theorem dX8_appendChanged_41 : decode cX8_appendChanged 41 = .ok (.iinc 4 1, 3) := by decide +kernel
theorem dX8_appendChanged_44 : decode cX8_appendChanged 44 = .ok (.goto (-35), 3) := by decide +kernel
theorem dX8_appendChanged_47 : decode cX8_appendChanged 47 = .ok (.aload_n 0, 1) := by decide +kernel
theorem dX8_appendChanged_48 : decode cX8_appendChanged 48 = .ok (.getfield 12, 3) := by decide +kernel
theorem dX8_appendChanged_51 : decode cX8_appendChanged 51 = .ok (.iload_n 2, 1) := by decide +kernel
theorem dX8_appendChanged_52 : decode cX8_appendChanged 52 = .ok (.invokevirtual 56, 3) := by decide +kernel
theorem dX8_appendChanged_55 : decode cX8_appendChanged 55 = .ok (.checkcast 60, 3) := by decide +kernel
theorem dX8_appendChanged_58 : decode cX8_appendChanged 58 = .ok (.aload_n 0, 1) := by decide +kernel
theorem dX8_appendChanged_59 : decode cX8_appendChanged 59 = .ok (.getfield 66, 3) := by decide +kernel
theorem dX8_appendChanged_62 : decode cX8_appendChanged 62 = .ok (.iload_n 3, 1) := by decide +kernel
theorem dX8_appendChanged_63 : decode cX8_appendChanged 63 = .ok (.invokevirtual 84, 3) := by decide +kernel
theorem dX8_appendChanged_66 : decode cX8_appendChanged 66 = .ok (.aload_n 0, 1) := by decide +kernel
theorem dX8_appendChanged_67 : decode cX8_appendChanged 67 = .ok (.invokevirtual 73, 3) := by decide +kernel
theorem dX8_appendChanged_70 : decode cX8_appendChanged 70 = .ok (.ireturn, 1) := by decide +kernel
theorem dX8_appendFilled_0 : decode cX8_appendFilled 0 = .ok (.aload_n 0, 1) := by decide +kernel
theorem dX8_appendFilled_1 : decode cX8_appendFilled 1 = .ok (.getfield 66, 3) := by decide +kernel
theorem dX8_appendFilled_4 : decode cX8_appendFilled 4 = .ok (.istore_n 1, 1) := by decide +kernel
theorem dX8_appendFilled_5 : decode cX8_appendFilled 5 = .ok (.aload_n 0, 1) := by decide +kernel
theorem dX8_appendFilled_6 : decode cX8_appendFilled 6 = .ok (.getfield 21, 3) := by decide +kernel
theorem dX8_appendFilled_9 : decode cX8_appendFilled 9 = .ok (.iload_n 1, 1) := by decide +kernel
theorem dX8_appendFilled_10 : decode cX8_appendFilled 10 = .ok (.iconst 1, 1) := by decide +kernel
theorem dX8_appendFilled_11 : decode cX8_appendFilled 11 = .ok (.bastore, 1) := by decide +kernel
theorem dX8_appendFilled_12 : decode cX8_appendFilled 12 = .ok (.aload_n 0, 1) := by decide +kernel
theorem dX8_appendFilled_13 : decode cX8_appendFilled 13 = .ok (.getfield 25, 3) := by decide +kernel
theorem dX8_appendFilled_16 : decode cX8_appendFilled 16 = .ok (.iload_n 1, 1) := by decide +kernel
theorem dX8_appendFilled_17 : decode cX8_appendFilled 17 = .ok (.iconst (-1), 1) := by decide +kernel
theorem dX8_appendFilled_18 : decode cX8_appendFilled 18 = .ok (.iastore, 1) := by decide +kernel
theorem dX8_appendFilled_19 : decode cX8_appendFilled 19 = .ok (.aload_n 0, 1) := by decide +kernel
theorem dX8_appendFilled_20 : decode cX8_appendFilled 20 = .ok (.getfield 39, 3) := by decide +kernel
theorem dX8_appendFilled_23 : decode cX8_appendFilled 23 = .ok (.iload_n 1, 1) := by decide +kernel
theorem dX8_appendFilled_24 : decode cX8_appendFilled 24 = .ok (.invokevirtual 87, 3) := by decide +kernel
theorem dX8_appendFilled_27 : decode cX8_appendFilled 27 = .ok (.aload_n 0, 1) := by decide +kernel
theorem dX8_appendFilled_28 : decode cX8_appendFilled 28 = .ok (.dup, 1) := by decide +kernel
theorem dX8_appendFilled_29 : decode cX8_appendFilled 29 = .ok (.getfield 66, 3) := by decide +kernel
theorem dX8_appendFilled_32 : decode cX8_appendFilled 32 = .ok (.iconst 1, 1) := by decide +kernel
theorem dX8_appendFilled_33 : decode cX8_appendFilled 33 = .ok (.iadd, 1) := by decide +kernel
theorem dX8_appendFilled_34 : decode cX8_appendFilled 34 = .ok (.putfield 66, 3) := by decide +kernel
theorem dX8_appendFilled_37 : decode cX8_appendFilled 37 = .ok (.aload_n 0, 1) := by decide +kernel
theorem dX8_appendFilled_38 : decode cX8_appendFilled 38 = .ok (.dup, 1) := by decide +kernel
theorem dX8_appendFilled_39 : decode cX8_appendFilled 39 = .ok (.getfield 90, 3) := by decide +kernel
theorem dX8_appendFilled_42 : decode cX8_appendFilled 42 = .ok (.iconst 1, 1) := by decide +kernel
theorem dX8_appendFilled_43 : decode cX8_appendFilled 43 = .ok (.iadd, 1) := by decide +kernel
theorem dX8_appendFilled_44 : decode cX8_appendFilled 44 = .ok (.putfield 90, 3) := by decide +kernel
theorem dX8_appendFilled_47 : decode cX8_appendFilled 47 = .ok (.iload_n 1, 1) := by decide +kernel
theorem dX8_appendFilled_48 : decode cX8_appendFilled 48 = .ok (.ireturn, 1) := by decide +kernel
theorem dX8_kill_0 : decode cX8_kill 0 = .ok (.aload_n 0, 1) := by decide +kernel
theorem dX8_kill_1 : decode cX8_kill 1 = .ok (.getfield 21, 3) := by decide +kernel
theorem dX8_kill_4 : decode cX8_kill 4 = .ok (.iload_n 1, 1) := by decide +kernel
theorem dX8_kill_5 : decode cX8_kill 5 = .ok (.baload, 1) := by decide +kernel
theorem dX8_kill_6 : decode cX8_kill 6 = .ok (.ifCond .ne 5, 3) := by decide +kernel
theorem dX8_kill_9 : decode cX8_kill 9 = .ok (.iconst 0, 1) := by decide +kernel
theorem dX8_kill_10 : decode cX8_kill 10 = .ok (.ireturn, 1) := by decide +kernel
theorem dX8_kill_11 : decode cX8_kill 11 = .ok (.aload_n 0, 1) := by decide +kernel
theorem dX8_kill_12 : decode cX8_kill 12 = .ok (.getfield 21, 3) := by decide +kernel
theorem dX8_kill_15 : decode cX8_kill 15 = .ok (.iload_n 1, 1) := by decide +kernel
theorem dX8_kill_16 : decode cX8_kill 16 = .ok (.iconst 0, 1) := by decide +kernel
theorem dX8_kill_17 : decode cX8_kill 17 = .ok (.bastore, 1) := by decide +kernel
theorem dX8_kill_18 : decode cX8_kill 18 = .ok (.aload_n 0, 1) := by decide +kernel
theorem dX8_kill_19 : decode cX8_kill 19 = .ok (.dup, 1) := by decide +kernel
theorem dX8_kill_20 : decode cX8_kill 20 = .ok (.getfield 90, 3) := by decide +kernel
theorem dX8_kill_23 : decode cX8_kill 23 = .ok (.iconst 1, 1) := by decide +kernel
theorem dX8_kill_24 : decode cX8_kill 24 = .ok (.isub, 1) := by decide +kernel
theorem dX8_kill_25 : decode cX8_kill 25 = .ok (.putfield 90, 3) := by decide +kernel
theorem dX8_kill_28 : decode cX8_kill 28 = .ok (.iconst 1, 1) := by decide +kernel
theorem dX8_kill_29 : decode cX8_kill 29 = .ok (.ireturn, 1) := by decide +kernel
theorem dX8_sealIfFull_0 : decode cX8_sealIfFull 0 = .ok (.aload_n 0, 1) := by decide +kernel
theorem dX8_sealIfFull_1 : decode cX8_sealIfFull 1 = .ok (.getfield 39, 3) := by decide +kernel
theorem dX8_sealIfFull_4 : decode cX8_sealIfFull 4 = .ok (.getfield 93, 3) := by decide +kernel
theorem dX8_sealIfFull_7 : decode cX8_sealIfFull 7 = .ok (.aload_n 0, 1) := by decide +kernel
theorem dX8_sealIfFull_8 : decode cX8_sealIfFull 8 = .ok (.getfield 43, 3) := by decide +kernel
theorem dX8_sealIfFull_11 : decode cX8_sealIfFull 11 = .ok (.if_icmp .lt 8, 3) := by decide +kernel
theorem dX8_sealIfFull_14 : decode cX8_sealIfFull 14 = .ok (.aload_n 0, 1) := by decide +kernel
theorem dX8_sealIfFull_15 : decode cX8_sealIfFull 15 = .ok (.invokevirtual 96, 3) := by decide +kernel
theorem dX8_sealIfFull_18 : decode cX8_sealIfFull 18 = .ok (.pop, 1) := by decide +kernel
theorem dX8_sealIfFull_19 : decode cX8_sealIfFull 19 = .ok (.return_, 1) := by decide +kernel
theorem dX8_sealBuffer_0 : decode cX8_sealBuffer 0 = .ok (.aload_n 0, 1) := by decide +kernel
theorem dX8_sealBuffer_1 : decode cX8_sealBuffer 1 = .ok (.aload_n 0, 1) := by decide +kernel
theorem dX8_sealBuffer_2 : decode cX8_sealBuffer 2 = .ok (.getfield 39, 3) := by decide +kernel
theorem dX8_sealBuffer_5 : decode cX8_sealBuffer 5 = .ok (.invokevirtual 99, 3) := by decide +kernel
theorem dX8_sealBuffer_8 : decode cX8_sealBuffer 8 = .ok (.aload_n 0, 1) := by decide +kernel
theorem dX8_sealBuffer_9 : decode cX8_sealBuffer 9 = .ok (.getfield 39, 3) := by decide +kernel
theorem dX8_sealBuffer_12 : decode cX8_sealBuffer 12 = .ok (.getfield 93, 3) := by decide +kernel
theorem dX8_sealBuffer_15 : decode cX8_sealBuffer 15 = .ok (.istore_n 1, 1) := by decide +kernel
theorem dX8_sealBuffer_16 : decode cX8_sealBuffer 16 = .ok (.iload_n 1, 1) := by decide +kernel
theorem dX8_sealBuffer_17 : decode cX8_sealBuffer 17 = .ok (.ifCond .le 58, 3) := by decide +kernel
theorem dX8_sealBuffer_20 : decode cX8_sealBuffer 20 = .ok (.aload_n 0, 1) := by decide +kernel
theorem dX8_sealBuffer_21 : decode cX8_sealBuffer 21 = .ok (.getfield 39, 3) := by decide +kernel
theorem dX8_sealBuffer_24 : decode cX8_sealBuffer 24 = .ok (.aload_n 0, 1) := by decide +kernel
theorem dX8_sealBuffer_25 : decode cX8_sealBuffer 25 = .ok (.getfield 12, 3) := by decide +kernel
theorem dX8_sealBuffer_28 : decode cX8_sealBuffer 28 = .ok (.aload_n 0, 1) := by decide +kernel
theorem dX8_sealBuffer_29 : decode cX8_sealBuffer 29 = .ok (.getfield 50, 3) := by decide +kernel
theorem dX8_sealBuffer_32 : decode cX8_sealBuffer 32 = .ok (.aload_n 0, 1) := by decide +kernel
theorem dX8_sealBuffer_33 : decode cX8_sealBuffer 33 = .ok (.getfield 32, 3) := by decide +kernel
theorem dX8_sealBuffer_36 : decode cX8_sealBuffer 36 = .ok (.invokevirtual 103, 3) := by decide +kernel
theorem dX8_sealBuffer_39 : decode cX8_sealBuffer 39 = .ok (.aload_n 0, 1) := by decide +kernel
theorem dX8_sealBuffer_40 : decode cX8_sealBuffer 40 = .ok (.getfield 18, 3) := by decide +kernel
theorem dX8_sealBuffer_43 : decode cX8_sealBuffer 43 = .ok (.aload_n 0, 1) := by decide +kernel
theorem dX8_sealBuffer_44 : decode cX8_sealBuffer 44 = .ok (.getfield 39, 3) := by decide +kernel
theorem dX8_sealBuffer_47 : decode cX8_sealBuffer 47 = .ok (.invokevirtual 107, 3) := by decide +kernel
theorem dX8_sealBuffer_50 : decode cX8_sealBuffer 50 = .ok (.pop, 1) := by decide +kernel
theorem dX8_sealBuffer_51 : decode cX8_sealBuffer 51 = .ok (.aload_n 0, 1) := by decide +kernel
theorem dX8_sealBuffer_52 : decode cX8_sealBuffer 52 = .ok (.aload_n 0, 1) := by decide +kernel
theorem dX8_sealBuffer_53 : decode cX8_sealBuffer 53 = .ok (.getfield 18, 3) := by decide +kernel
theorem dX8_sealBuffer_56 : decode cX8_sealBuffer 56 = .ok (.invokevirtual 53, 3) := by decide +kernel
theorem dX8_sealBuffer_59 : decode cX8_sealBuffer 59 = .ok (.iconst 1, 1) := by decide +kernel
theorem dX8_sealBuffer_60 : decode cX8_sealBuffer 60 = .ok (.isub, 1) := by decide +kernel
theorem dX8_sealBuffer_61 : decode cX8_sealBuffer 61 = .ok (.invokevirtual 111, 3) := by decide +kernel
theorem dX8_sealBuffer_64 : decode cX8_sealBuffer 64 = .ok (.aload_n 0, 1) := by decide +kernel
theorem dX8_sealBuffer_65 : decode cX8_sealBuffer 65 = .ok (.new 36, 3) := by decide +kernel
theorem dX8_sealBuffer_68 : decode cX8_sealBuffer 68 = .ok (.dup, 1) := by decide +kernel
theorem dX8_sealBuffer_69 : decode cX8_sealBuffer 69 = .ok (.invokespecial 38, 3) := by decide +kernel
theorem dX8_sealBuffer_72 : decode cX8_sealBuffer 72 = .ok (.putfield 39, 3) := by decide +kernel
theorem dX8_sealBuffer_75 : decode cX8_sealBuffer 75 = .ok (.iload_n 1, 1) := by decide +kernel
theorem dX8_sealBuffer_76 : decode cX8_sealBuffer 76 = .ok (.ireturn, 1) := by decide +kernel
theorem dX8_clusterBy_0 : decode cX8_clusterBy 0 = .ok (.aload_n 0, 1) := by decide +kernel
theorem dX8_clusterBy_1 : decode cX8_clusterBy 1 = .ok (.getfield 18, 3) := by decide +kernel
theorem dX8_clusterBy_4 : decode cX8_clusterBy 4 = .ok (.iload_n 1, 1) := by decide +kernel
theorem dX8_clusterBy_5 : decode cX8_clusterBy 5 = .ok (.invokevirtual 56, 3) := by decide +kernel
theorem dX8_clusterBy_8 : decode cX8_clusterBy 8 = .ok (.checkcast 36, 3) := by decide +kernel
theorem dX8_clusterBy_11 : decode cX8_clusterBy 11 = .ok (.astore_n 3, 1) := by decide +kernel
theorem dX8_clusterBy_12 : decode cX8_clusterBy 12 = .ok (.aload_n 3, 1) := by decide +kernel
theorem dX8_clusterBy_13 : decode cX8_clusterBy 13 = .ok (.getfield 114, 3) := by decide +kernel
theorem dX8_clusterBy_16 : decode cX8_clusterBy 16 = .ok (.istore 4, 2) := by decide +kernel
theorem dX8_clusterBy_18 : decode cX8_clusterBy 18 = .ok (.aload_n 0, 1) := by decide +kernel
theorem dX8_clusterBy_19 : decode cX8_clusterBy 19 = .ok (.aload_n 3, 1) := by decide +kernel
theorem dX8_clusterBy_20 : decode cX8_clusterBy 20 = .ok (.invokevirtual 99, 3) := by decide +kernel
theorem dX8_clusterBy_23 : decode cX8_clusterBy 23 = .ok (.aload_n 3, 1) := by decide +kernel
theorem dX8_clusterBy_24 : decode cX8_clusterBy 24 = .ok (.getfield 93, 3) := by decide +kernel
theorem dX8_clusterBy_27 : decode cX8_clusterBy 27 = .ok (.ifCond .ne 11, 3) := by decide +kernel
theorem dX8_clusterBy_30 : decode cX8_clusterBy 30 = .ok (.aload_n 0, 1) := by decide +kernel
theorem dX8_clusterBy_31 : decode cX8_clusterBy 31 = .ok (.iload_n 1, 1) := by decide +kernel
theorem dX8_clusterBy_32 : decode cX8_clusterBy 32 = .ok (.invokevirtual 117, 3) := by decide +kernel
theorem dX8_clusterBy_35 : decode cX8_clusterBy 35 = .ok (.iload 4, 2) := by decide +kernel
theorem dX8_clusterBy_37 : decode cX8_clusterBy 37 = .ok (.ireturn, 1) := by decide +kernel
theorem dX8_clusterBy_38 : decode cX8_clusterBy 38 = .ok (.aload_n 0, 1) := by decide +kernel
theorem dX8_clusterBy_39 : decode cX8_clusterBy 39 = .ok (.getfield 32, 3) := by decide +kernel
theorem dX8_clusterBy_42 : decode cX8_clusterBy 42 = .ok (.aload_n 3, 1) := by decide +kernel
theorem dX8_clusterBy_43 : decode cX8_clusterBy 43 = .ok (.getfield 120, 3) := by decide +kernel
theorem dX8_clusterBy_46 : decode cX8_clusterBy 46 = .ok (.aload_n 3, 1) := by decide +kernel
theorem dX8_clusterBy_47 : decode cX8_clusterBy 47 = .ok (.getfield 93, 3) := by decide +kernel
theorem dX8_clusterBy_50 : decode cX8_clusterBy 50 = .ok (.aload_n 0, 1) := by decide +kernel
theorem dX8_clusterBy_51 : decode cX8_clusterBy 51 = .ok (.getfield 12, 3) := by decide +kernel
theorem dX8_clusterBy_54 : decode cX8_clusterBy 54 = .ok (.iload_n 2, 1) := by decide +kernel
theorem dX8_clusterBy_55 : decode cX8_clusterBy 55 = .ok (.invokevirtual 56, 3) := by decide +kernel
theorem dX8_clusterBy_58 : decode cX8_clusterBy 58 = .ok (.checkcast 60, 3) := by decide +kernel
theorem dX8_clusterBy_61 : decode cX8_clusterBy 61 = .ok (.iconst 0, 1) := by decide +kernel
theorem dX8_clusterBy_62 : decode cX8_clusterBy 62 = .ok (.iconst 1, 1) := by decide +kernel
theorem dX8_clusterBy_63 : decode cX8_clusterBy 63 = .ok (.invokevirtual 123, 3) := by decide +kernel
theorem dX8_clusterBy_66 : decode cX8_clusterBy 66 = .ok (.aload_n 3, 1) := by decide +kernel
theorem dX8_clusterBy_67 : decode cX8_clusterBy 67 = .ok (.aload_n 0, 1) := by decide +kernel
theorem dX8_clusterBy_68 : decode cX8_clusterBy 68 = .ok (.getfield 12, 3) := by decide +kernel
theorem dX8_clusterBy_71 : decode cX8_clusterBy 71 = .ok (.aload_n 0, 1) := by decide +kernel
theorem dX8_clusterBy_72 : decode cX8_clusterBy 72 = .ok (.getfield 50, 3) := by decide +kernel
theorem dX8_clusterBy_75 : decode cX8_clusterBy 75 = .ok (.aload_n 0, 1) := by decide +kernel
theorem dX8_clusterBy_76 : decode cX8_clusterBy 76 = .ok (.getfield 32, 3) := by decide +kernel
theorem dX8_clusterBy_79 : decode cX8_clusterBy 79 = .ok (.invokevirtual 103, 3) := by decide +kernel
theorem dX8_clusterBy_82 : decode cX8_clusterBy 82 = .ok (.iload 4, 2) := by decide +kernel
theorem dX8_clusterBy_84 : decode cX8_clusterBy 84 = .ok (.aload_n 3, 1) := by decide +kernel
theorem dX8_clusterBy_85 : decode cX8_clusterBy 85 = .ok (.getfield 114, 3) := by decide +kernel
theorem dX8_clusterBy_88 : decode cX8_clusterBy 88 = .ok (.isub, 1) := by decide +kernel
theorem dX8_clusterBy_89 : decode cX8_clusterBy 89 = .ok (.ireturn, 1) := by decide +kernel
theorem dX8_livingIn_0 : decode cX8_livingIn 0 = .ok (.aload_n 0, 1) := by decide +kernel
theorem dX8_livingIn_1 : decode cX8_livingIn 1 = .ok (.getfield 18, 3) := by decide +kernel
theorem dX8_livingIn_4 : decode cX8_livingIn 4 = .ok (.iload_n 1, 1) := by decide +kernel
theorem dX8_livingIn_5 : decode cX8_livingIn 5 = .ok (.invokevirtual 56, 3) := by decide +kernel
theorem dX8_livingIn_8 : decode cX8_livingIn 8 = .ok (.checkcast 36, 3) := by decide +kernel
theorem dX8_livingIn_11 : decode cX8_livingIn 11 = .ok (.astore_n 2, 1) := by decide +kernel
theorem dX8_livingIn_12 : decode cX8_livingIn 12 = .ok (.iconst 0, 1) := by decide +kernel
theorem dX8_livingIn_13 : decode cX8_livingIn 13 = .ok (.istore_n 3, 1) := by decide +kernel
theorem dX8_livingIn_14 : decode cX8_livingIn 14 = .ok (.iconst 0, 1) := by decide +kernel
theorem dX8_livingIn_15 : decode cX8_livingIn 15 = .ok (.istore 4, 2) := by decide +kernel
theorem dX8_livingIn_17 : decode cX8_livingIn 17 = .ok (.iload 4, 2) := by decide +kernel
theorem dX8_livingIn_19 : decode cX8_livingIn 19 = .ok (.aload_n 2, 1) := by decide +kernel
theorem dX8_livingIn_20 : decode cX8_livingIn 20 = .ok (.getfield 93, 3) := by decide +kernel
theorem dX8_livingIn_23 : decode cX8_livingIn 23 = .ok (.if_icmp .ge 27, 3) := by decide +kernel
theorem dX8_livingIn_26 : decode cX8_livingIn 26 = .ok (.aload_n 0, 1) := by decide +kernel
theorem dX8_livingIn_27 : decode cX8_livingIn 27 = .ok (.getfield 21, 3) := by decide +kernel
theorem dX8_livingIn_30 : decode cX8_livingIn 30 = .ok (.aload_n 2, 1) := by decide +kernel
theorem dX8_livingIn_31 : decode cX8_livingIn 31 = .ok (.getfield 120, 3) := by decide +kernel
theorem dX8_livingIn_34 : decode cX8_livingIn 34 = .ok (.iload 4, 2) := by decide +kernel
theorem dX8_livingIn_36 : decode cX8_livingIn 36 = .ok (.iaload, 1) := by decide +kernel
theorem dX8_livingIn_37 : decode cX8_livingIn 37 = .ok (.baload, 1) := by decide +kernel
theorem dX8_livingIn_38 : decode cX8_livingIn 38 = .ok (.ifCond .eq 6, 3) := by decide +kernel
theorem dX8_livingIn_41 : decode cX8_livingIn 41 = .ok (.iinc 3 1, 3) := by decide +kernel
theorem dX8_livingIn_44 : decode cX8_livingIn 44 = .ok (.iinc 4 1, 3) := by decide +kernel
theorem dX8_livingIn_47 : decode cX8_livingIn 47 = .ok (.goto (-30), 3) := by decide +kernel
theorem dX8_livingIn_50 : decode cX8_livingIn 50 = .ok (.iload_n 3, 1) := by decide +kernel
theorem dX8_livingIn_51 : decode cX8_livingIn 51 = .ok (.ireturn, 1) := by decide +kernel
theorem dX8_mergeNext_0 : decode cX8_mergeNext 0 = .ok (.aload_n 0, 1) := by decide +kernel
theorem dX8_mergeNext_1 : decode cX8_mergeNext 1 = .ok (.getfield 18, 3) := by decide +kernel
theorem dX8_mergeNext_4 : decode cX8_mergeNext 4 = .ok (.iload_n 1, 1) := by decide +kernel
theorem dX8_mergeNext_5 : decode cX8_mergeNext 5 = .ok (.invokevirtual 56, 3) := by decide +kernel
theorem dX8_mergeNext_8 : decode cX8_mergeNext 8 = .ok (.checkcast 36, 3) := by decide +kernel
theorem dX8_mergeNext_11 : decode cX8_mergeNext 11 = .ok (.astore_n 2, 1) := by decide +kernel
theorem dX8_mergeNext_12 : decode cX8_mergeNext 12 = .ok (.aload_n 0, 1) := by decide +kernel
theorem dX8_mergeNext_13 : decode cX8_mergeNext 13 = .ok (.getfield 18, 3) := by decide +kernel
theorem dX8_mergeNext_16 : decode cX8_mergeNext 16 = .ok (.iload_n 1, 1) := by decide +kernel
theorem dX8_mergeNext_17 : decode cX8_mergeNext 17 = .ok (.iconst 1, 1) := by decide +kernel
theorem dX8_mergeNext_18 : decode cX8_mergeNext 18 = .ok (.iadd, 1) := by decide +kernel
theorem dX8_mergeNext_19 : decode cX8_mergeNext 19 = .ok (.invokevirtual 56, 3) := by decide +kernel
theorem dX8_mergeNext_22 : decode cX8_mergeNext 22 = .ok (.checkcast 36, 3) := by decide +kernel
theorem dX8_mergeNext_25 : decode cX8_mergeNext 25 = .ok (.astore_n 3, 1) := by decide +kernel
theorem dX8_mergeNext_26 : decode cX8_mergeNext 26 = .ok (.aload_n 0, 1) := by decide +kernel
theorem dX8_mergeNext_27 : decode cX8_mergeNext 27 = .ok (.aload_n 2, 1) := by decide +kernel
theorem dX8_mergeNext_28 : decode cX8_mergeNext 28 = .ok (.invokevirtual 99, 3) := by decide +kernel
theorem dX8_mergeNext_31 : decode cX8_mergeNext 31 = .ok (.aload_n 0, 1) := by decide +kernel
theorem dX8_mergeNext_32 : decode cX8_mergeNext 32 = .ok (.aload_n 3, 1) := by decide +kernel
theorem dX8_mergeNext_33 : decode cX8_mergeNext 33 = .ok (.invokevirtual 99, 3) := by decide +kernel
theorem dX8_mergeNext_36 : decode cX8_mergeNext 36 = .ok (.iconst 0, 1) := by decide +kernel
theorem dX8_mergeNext_37 : decode cX8_mergeNext 37 = .ok (.istore 4, 2) := by decide +kernel
theorem dX8_mergeNext_39 : decode cX8_mergeNext 39 = .ok (.iload 4, 2) := by decide +kernel
theorem dX8_mergeNext_41 : decode cX8_mergeNext 41 = .ok (.aload_n 3, 1) := by decide +kernel
theorem dX8_mergeNext_42 : decode cX8_mergeNext 42 = .ok (.getfield 93, 3) := by decide +kernel
theorem dX8_mergeNext_45 : decode cX8_mergeNext 45 = .ok (.if_icmp .ge 20, 3) := by decide +kernel
theorem dX8_mergeNext_48 : decode cX8_mergeNext 48 = .ok (.aload_n 2, 1) := by decide +kernel
theorem dX8_mergeNext_49 : decode cX8_mergeNext 49 = .ok (.aload_n 3, 1) := by decide +kernel
theorem dX8_mergeNext_50 : decode cX8_mergeNext 50 = .ok (.getfield 120, 3) := by decide +kernel
theorem dX8_mergeNext_53 : decode cX8_mergeNext 53 = .ok (.iload 4, 2) := by decide +kernel
theorem dX8_mergeNext_55 : decode cX8_mergeNext 55 = .ok (.iaload, 1) := by decide +kernel
theorem dX8_mergeNext_56 : decode cX8_mergeNext 56 = .ok (.invokevirtual 87, 3) := by decide +kernel
theorem dX8_mergeNext_59 : decode cX8_mergeNext 59 = .ok (.iinc 4 1, 3) := by decide +kernel
theorem dX8_mergeNext_62 : decode cX8_mergeNext 62 = .ok (.goto (-23), 3) := by decide +kernel
theorem dX8_mergeNext_65 : decode cX8_mergeNext 65 = .ok (.aload_n 0, 1) := by decide +kernel
theorem dX8_mergeNext_66 : decode cX8_mergeNext 66 = .ok (.iload_n 1, 1) := by decide +kernel
theorem dX8_mergeNext_67 : decode cX8_mergeNext 67 = .ok (.iconst 1, 1) := by decide +kernel
theorem dX8_mergeNext_68 : decode cX8_mergeNext 68 = .ok (.iadd, 1) := by decide +kernel
theorem dX8_mergeNext_69 : decode cX8_mergeNext 69 = .ok (.invokevirtual 117, 3) := by decide +kernel
theorem dX8_mergeNext_72 : decode cX8_mergeNext 72 = .ok (.aload_n 2, 1) := by decide +kernel
theorem dX8_mergeNext_73 : decode cX8_mergeNext 73 = .ok (.getfield 93, 3) := by decide +kernel
theorem dX8_mergeNext_76 : decode cX8_mergeNext 76 = .ok (.ifCond .ne 10, 3) := by decide +kernel
theorem dX8_mergeNext_79 : decode cX8_mergeNext 79 = .ok (.aload_n 0, 1) := by decide +kernel
theorem dX8_mergeNext_80 : decode cX8_mergeNext 80 = .ok (.iload_n 1, 1) := by decide +kernel
theorem dX8_mergeNext_81 : decode cX8_mergeNext 81 = .ok (.invokevirtual 117, 3) := by decide +kernel
theorem dX8_mergeNext_84 : decode cX8_mergeNext 84 = .ok (.iconst 0, 1) := by decide +kernel
theorem dX8_mergeNext_85 : decode cX8_mergeNext 85 = .ok (.ireturn, 1) := by decide +kernel
theorem dX8_mergeNext_86 : decode cX8_mergeNext 86 = .ok (.aload_n 0, 1) := by decide +kernel
theorem dX8_mergeNext_87 : decode cX8_mergeNext 87 = .ok (.iload_n 1, 1) := by decide +kernel
theorem dX8_mergeNext_88 : decode cX8_mergeNext 88 = .ok (.invokevirtual 111, 3) := by decide +kernel
theorem dX8_mergeNext_91 : decode cX8_mergeNext 91 = .ok (.aload_n 2, 1) := by decide +kernel
theorem dX8_mergeNext_92 : decode cX8_mergeNext 92 = .ok (.aload_n 0, 1) := by decide +kernel
theorem dX8_mergeNext_93 : decode cX8_mergeNext 93 = .ok (.getfield 12, 3) := by decide +kernel
theorem dX8_mergeNext_96 : decode cX8_mergeNext 96 = .ok (.aload_n 0, 1) := by decide +kernel
theorem dX8_mergeNext_97 : decode cX8_mergeNext 97 = .ok (.getfield 50, 3) := by decide +kernel
theorem dX8_mergeNext_100 : decode cX8_mergeNext 100 = .ok (.aload_n 0, 1) := by decide +kernel
theorem dX8_mergeNext_101 : decode cX8_mergeNext 101 = .ok (.getfield 32, 3) := by decide +kernel
theorem dX8_mergeNext_104 : decode cX8_mergeNext 104 = .ok (.invokevirtual 103, 3) := by decide +kernel
theorem dX8_mergeNext_107 : decode cX8_mergeNext 107 = .ok (.aload_n 2, 1) := by decide +kernel
theorem dX8_mergeNext_108 : decode cX8_mergeNext 108 = .ok (.getfield 93, 3) := by decide +kernel
theorem dX8_mergeNext_111 : decode cX8_mergeNext 111 = .ok (.ireturn, 1) := by decide +kernel
theorem dX8_bytesOfBitmaps_0 : decode cX8_bytesOfBitmaps 0 = .ok (.iconst 0, 1) := by decide +kernel
theorem dX8_bytesOfBitmaps_1 : decode cX8_bytesOfBitmaps 1 = .ok (.istore_n 1, 1) := by decide +kernel
theorem dX8_bytesOfBitmaps_2 : decode cX8_bytesOfBitmaps 2 = .ok (.iconst 0, 1) := by decide +kernel
theorem dX8_bytesOfBitmaps_3 : decode cX8_bytesOfBitmaps 3 = .ok (.istore_n 2, 1) := by decide +kernel
theorem dX8_bytesOfBitmaps_4 : decode cX8_bytesOfBitmaps 4 = .ok (.iload_n 2, 1) := by decide +kernel
theorem dX8_bytesOfBitmaps_5 : decode cX8_bytesOfBitmaps 5 = .ok (.aload_n 0, 1) := by decide +kernel
theorem dX8_bytesOfBitmaps_6 : decode cX8_bytesOfBitmaps 6 = .ok (.getfield 12, 3) := by decide +kernel
theorem dX8_bytesOfBitmaps_9 : decode cX8_bytesOfBitmaps 9 = .ok (.invokevirtual 53, 3) := by decide +kernel
theorem dX8_bytesOfBitmaps_12 : decode cX8_bytesOfBitmaps 12 = .ok (.if_icmp .ge 67, 3) := by decide +kernel
theorem dX8_bytesOfBitmaps_15 : decode cX8_bytesOfBitmaps 15 = .ok (.iconst 0, 1) := by decide +kernel
theorem dX8_bytesOfBitmaps_16 : decode cX8_bytesOfBitmaps 16 = .ok (.istore_n 3, 1) := by decide +kernel
theorem dX8_bytesOfBitmaps_17 : decode cX8_bytesOfBitmaps 17 = .ok (.iload_n 3, 1) := by decide +kernel
theorem dX8_bytesOfBitmaps_18 : decode cX8_bytesOfBitmaps 18 = .ok (.aload_n 0, 1) := by decide +kernel
theorem dX8_bytesOfBitmaps_19 : decode cX8_bytesOfBitmaps 19 = .ok (.getfield 18, 3) := by decide +kernel
theorem dX8_bytesOfBitmaps_22 : decode cX8_bytesOfBitmaps 22 = .ok (.invokevirtual 53, 3) := by decide +kernel
theorem dX8_bytesOfBitmaps_25 : decode cX8_bytesOfBitmaps 25 = .ok (.if_icmp .ge 48, 3) := by decide +kernel
theorem dX8_bytesOfBitmaps_28 : decode cX8_bytesOfBitmaps 28 = .ok (.aload_n 0, 1) := by decide +kernel
theorem dX8_bytesOfBitmaps_29 : decode cX8_bytesOfBitmaps 29 = .ok (.getfield 12, 3) := by decide +kernel
theorem dX8_bytesOfBitmaps_32 : decode cX8_bytesOfBitmaps 32 = .ok (.iload_n 2, 1) := by decide +kernel
theorem dX8_bytesOfBitmaps_33 : decode cX8_bytesOfBitmaps 33 = .ok (.invokevirtual 56, 3) := by decide +kernel
theorem dX8_bytesOfBitmaps_36 : decode cX8_bytesOfBitmaps 36 = .ok (.checkcast 60, 3) := by decide +kernel
theorem dX8_bytesOfBitmaps_39 : decode cX8_bytesOfBitmaps 39 = .ok (.getfield 131, 3) := by decide +kernel
theorem dX8_bytesOfBitmaps_42 : decode cX8_bytesOfBitmaps 42 = .ok (.ifCond .eq 31, 3) := by decide +kernel
theorem dX8_bytesOfBitmaps_45 : decode cX8_bytesOfBitmaps 45 = .ok (.iload_n 1, 1) := by decide +kernel
theorem dX8_bytesOfBitmaps_46 : decode cX8_bytesOfBitmaps 46 = .ok (.aload_n 0, 1) := by decide +kernel
theorem dX8_bytesOfBitmaps_47 : decode cX8_bytesOfBitmaps 47 = .ok (.getfield 18, 3) := by decide +kernel
theorem dX8_bytesOfBitmaps_50 : decode cX8_bytesOfBitmaps 50 = .ok (.iload_n 3, 1) := by decide +kernel
theorem dX8_bytesOfBitmaps_51 : decode cX8_bytesOfBitmaps 51 = .ok (.invokevirtual 56, 3) := by decide +kernel
theorem dX8_bytesOfBitmaps_54 : decode cX8_bytesOfBitmaps 54 = .ok (.checkcast 36, 3) := by decide +kernel
theorem dX8_bytesOfBitmaps_57 : decode cX8_bytesOfBitmaps 57 = .ok (.getfield 134, 3) := by decide +kernel
theorem dX8_bytesOfBitmaps_60 : decode cX8_bytesOfBitmaps 60 = .ok (.iload_n 2, 1) := by decide +kernel
theorem dX8_bytesOfBitmaps_61 : decode cX8_bytesOfBitmaps 61 = .ok (.aaload, 1) := by decide +kernel
theorem dX8_bytesOfBitmaps_62 : decode cX8_bytesOfBitmaps 62 = .ok (.invokevirtual 138, 3) := by decide +kernel
theorem dX8_bytesOfBitmaps_65 : decode cX8_bytesOfBitmaps 65 = .ok (.iadd, 1) := by decide +kernel
theorem dX8_bytesOfBitmaps_66 : decode cX8_bytesOfBitmaps 66 = .ok (.istore_n 1, 1) := by decide +kernel
theorem dX8_bytesOfBitmaps_67 : decode cX8_bytesOfBitmaps 67 = .ok (.iinc 3 1, 3) := by decide +kernel
theorem dX8_bytesOfBitmaps_70 : decode cX8_bytesOfBitmaps 70 = .ok (.goto (-53), 3) := by decide +kernel
theorem dX8_bytesOfBitmaps_73 : decode cX8_bytesOfBitmaps 73 = .ok (.iinc 2 1, 3) := by decide +kernel
theorem dX8_bytesOfBitmaps_76 : decode cX8_bytesOfBitmaps 76 = .ok (.goto (-72), 3) := by decide +kernel
theorem dX8_bytesOfBitmaps_79 : decode cX8_bytesOfBitmaps 79 = .ok (.iload_n 1, 1) := by decide +kernel
theorem dX8_bytesOfBitmaps_80 : decode cX8_bytesOfBitmaps 80 = .ok (.ireturn, 1) := by decide +kernel
theorem dX8_dropDead_0 : decode cX8_dropDead 0 = .ok (.iconst 0, 1) := by decide +kernel
theorem dX8_dropDead_1 : decode cX8_dropDead 1 = .ok (.istore_n 2, 1) := by decide +kernel
theorem dX8_dropDead_2 : decode cX8_dropDead 2 = .ok (.iconst 0, 1) := by decide +kernel
theorem dX8_dropDead_3 : decode cX8_dropDead 3 = .ok (.istore_n 3, 1) := by decide +kernel
theorem dX8_dropDead_4 : decode cX8_dropDead 4 = .ok (.iload_n 3, 1) := by decide +kernel
theorem dX8_dropDead_5 : decode cX8_dropDead 5 = .ok (.aload_n 1, 1) := by decide +kernel
theorem dX8_dropDead_6 : decode cX8_dropDead 6 = .ok (.getfield 93, 3) := by decide +kernel
theorem dX8_dropDead_9 : decode cX8_dropDead 9 = .ok (.if_icmp .ge 50, 3) := by decide +kernel
theorem dX8_dropDead_12 : decode cX8_dropDead 12 = .ok (.aload_n 1, 1) := by decide +kernel
theorem dX8_dropDead_13 : decode cX8_dropDead 13 = .ok (.getfield 120, 3) := by decide +kernel
theorem dX8_dropDead_16 : decode cX8_dropDead 16 = .ok (.iload_n 3, 1) := by decide +kernel
theorem dX8_dropDead_17 : decode cX8_dropDead 17 = .ok (.iaload, 1) := by decide +kernel
theorem dX8_dropDead_18 : decode cX8_dropDead 18 = .ok (.istore 4, 2) := by decide +kernel
theorem dX8_dropDead_20 : decode cX8_dropDead 20 = .ok (.aload_n 0, 1) := by decide +kernel
theorem dX8_dropDead_21 : decode cX8_dropDead 21 = .ok (.getfield 21, 3) := by decide +kernel
theorem dX8_dropDead_24 : decode cX8_dropDead 24 = .ok (.iload 4, 2) := by decide +kernel
theorem dX8_dropDead_26 : decode cX8_dropDead 26 = .ok (.baload, 1) := by decide +kernel
theorem dX8_dropDead_27 : decode cX8_dropDead 27 = .ok (.ifCond .eq 17, 3) := by decide +kernel
theorem dX8_dropDead_30 : decode cX8_dropDead 30 = .ok (.aload_n 1, 1) := by decide +kernel
theorem dX8_dropDead_31 : decode cX8_dropDead 31 = .ok (.getfield 120, 3) := by decide +kernel
theorem dX8_dropDead_34 : decode cX8_dropDead 34 = .ok (.iload_n 2, 1) := by decide +kernel
theorem dX8_dropDead_35 : decode cX8_dropDead 35 = .ok (.iload 4, 2) := by decide +kernel
theorem dX8_dropDead_37 : decode cX8_dropDead 37 = .ok (.iastore, 1) := by decide +kernel
theorem dX8_dropDead_38 : decode cX8_dropDead 38 = .ok (.iinc 2 1, 3) := by decide +kernel
theorem dX8_dropDead_41 : decode cX8_dropDead 41 = .ok (.goto 12, 3) := by decide +kernel
theorem dX8_dropDead_44 : decode cX8_dropDead 44 = .ok (.aload_n 0, 1) := by decide +kernel
theorem dX8_dropDead_45 : decode cX8_dropDead 45 = .ok (.getfield 25, 3) := by decide +kernel
theorem dX8_dropDead_48 : decode cX8_dropDead 48 = .ok (.iload 4, 2) := by decide +kernel
theorem dX8_dropDead_50 : decode cX8_dropDead 50 = .ok (.bipush (-2), 2) := by decide +kernel
theorem dX8_dropDead_52 : decode cX8_dropDead 52 = .ok (.iastore, 1) := by decide +kernel
theorem dX8_dropDead_53 : decode cX8_dropDead 53 = .ok (.iinc 3 1, 3) := by decide +kernel
theorem dX8_dropDead_56 : decode cX8_dropDead 56 = .ok (.goto (-52), 3) := by decide +kernel
theorem dX8_dropDead_59 : decode cX8_dropDead 59 = .ok (.aload_n 1, 1) := by decide +kernel
theorem dX8_dropDead_60 : decode cX8_dropDead 60 = .ok (.iload_n 2, 1) := by decide +kernel
theorem dX8_dropDead_61 : decode cX8_dropDead 61 = .ok (.putfield 93, 3) := by decide +kernel
theorem dX8_dropDead_64 : decode cX8_dropDead 64 = .ok (.return_, 1) := by decide +kernel
theorem dX8_removeFrame_0 : decode cX8_removeFrame 0 = .ok (.aload_n 0, 1) := by decide +kernel
theorem dX8_removeFrame_1 : decode cX8_removeFrame 1 = .ok (.getfield 18, 3) := by decide +kernel
theorem dX8_removeFrame_4 : decode cX8_removeFrame 4 = .ok (.iload_n 1, 1) := by decide +kernel
theorem dX8_removeFrame_5 : decode cX8_removeFrame 5 = .ok (.invokevirtual 143, 3) := by decide +kernel
theorem dX8_removeFrame_8 : decode cX8_removeFrame 8 = .ok (.pop, 1) := by decide +kernel
theorem dX8_removeFrame_9 : decode cX8_removeFrame 9 = .ok (.aload_n 0, 1) := by decide +kernel
theorem dX8_removeFrame_10 : decode cX8_removeFrame 10 = .ok (.iload_n 1, 1) := by decide +kernel
theorem dX8_removeFrame_11 : decode cX8_removeFrame 11 = .ok (.invokevirtual 111, 3) := by decide +kernel
theorem dX8_removeFrame_14 : decode cX8_removeFrame 14 = .ok (.return_, 1) := by decide +kernel
theorem dX8_numberFrom_0 : decode cX8_numberFrom 0 = .ok (.iload_n 1, 1) := by decide +kernel
theorem dX8_numberFrom_1 : decode cX8_numberFrom 1 = .ok (.istore_n 2, 1) := by decide +kernel
theorem dX8_numberFrom_2 : decode cX8_numberFrom 2 = .ok (.iload_n 2, 1) := by decide +kernel
theorem dX8_numberFrom_3 : decode cX8_numberFrom 3 = .ok (.aload_n 0, 1) := by decide +kernel
theorem dX8_numberFrom_4 : decode cX8_numberFrom 4 = .ok (.getfield 18, 3) := by decide +kernel
theorem dX8_numberFrom_7 : decode cX8_numberFrom 7 = .ok (.invokevirtual 53, 3) := by decide +kernel
theorem dX8_numberFrom_10 : decode cX8_numberFrom 10 = .ok (.if_icmp .ge 52, 3) := by decide +kernel
theorem dX8_numberFrom_13 : decode cX8_numberFrom 13 = .ok (.aload_n 0, 1) := by decide +kernel
theorem dX8_numberFrom_14 : decode cX8_numberFrom 14 = .ok (.getfield 18, 3) := by decide +kernel
theorem dX8_numberFrom_17 : decode cX8_numberFrom 17 = .ok (.iload_n 2, 1) := by decide +kernel
theorem dX8_numberFrom_18 : decode cX8_numberFrom 18 = .ok (.invokevirtual 56, 3) := by decide +kernel
theorem dX8_numberFrom_21 : decode cX8_numberFrom 21 = .ok (.checkcast 36, 3) := by decide +kernel
theorem dX8_numberFrom_24 : decode cX8_numberFrom 24 = .ok (.astore_n 3, 1) := by decide +kernel
theorem dX8_numberFrom_25 : decode cX8_numberFrom 25 = .ok (.iconst 0, 1) := by decide +kernel
theorem dX8_numberFrom_26 : decode cX8_numberFrom 26 = .ok (.istore 4, 2) := by decide +kernel
theorem dX8_numberFrom_28 : decode cX8_numberFrom 28 = .ok (.iload 4, 2) := by decide +kernel
theorem dX8_numberFrom_30 : decode cX8_numberFrom 30 = .ok (.aload_n 3, 1) := by decide +kernel
theorem dX8_numberFrom_31 : decode cX8_numberFrom 31 = .ok (.getfield 93, 3) := by decide +kernel
theorem dX8_numberFrom_34 : decode cX8_numberFrom 34 = .ok (.if_icmp .ge 22, 3) := by decide +kernel
theorem dX8_numberFrom_37 : decode cX8_numberFrom 37 = .ok (.aload_n 0, 1) := by decide +kernel
theorem dX8_numberFrom_38 : decode cX8_numberFrom 38 = .ok (.getfield 25, 3) := by decide +kernel
theorem dX8_numberFrom_41 : decode cX8_numberFrom 41 = .ok (.aload_n 3, 1) := by decide +kernel
theorem dX8_numberFrom_42 : decode cX8_numberFrom 42 = .ok (.getfield 120, 3) := by decide +kernel
theorem dX8_numberFrom_45 : decode cX8_numberFrom 45 = .ok (.iload 4, 2) := by decide +kernel
theorem dX8_numberFrom_47 : decode cX8_numberFrom 47 = .ok (.iaload, 1) := by decide +kernel
theorem dX8_numberFrom_48 : decode cX8_numberFrom 48 = .ok (.iload_n 2, 1) := by decide +kernel
theorem dX8_numberFrom_49 : decode cX8_numberFrom 49 = .ok (.iastore, 1) := by decide +kernel
theorem dX8_numberFrom_50 : decode cX8_numberFrom 50 = .ok (.iinc 4 1, 3) := by decide +kernel
theorem dX8_numberFrom_53 : decode cX8_numberFrom 53 = .ok (.goto (-25), 3) := by decide +kernel
theorem dX8_numberFrom_56 : decode cX8_numberFrom 56 = .ok (.iinc 2 1, 3) := by decide +kernel
theorem dX8_numberFrom_59 : decode cX8_numberFrom 59 = .ok (.goto (-57), 3) := by decide +kernel
theorem dX8_numberFrom_62 : decode cX8_numberFrom 62 = .ok (.return_, 1) := by decide +kernel
theorem dX9_init_0 : decode cX9_init 0 = .ok (.aload_n 0, 1) := by decide +kernel
theorem dX9_init_1 : decode cX9_init 1 = .ok (.invokespecial 3, 3) := by decide +kernel
theorem dX9_init_4 : decode cX9_init 4 = .ok (.aload_n 0, 1) := by decide +kernel
theorem dX9_init_5 : decode cX9_init 5 = .ok (.bipush 16, 2) := by decide +kernel
theorem dX9_init_7 : decode cX9_init 7 = .ok (.newarray .int, 2) := by decide +kernel
theorem dX9_init_9 : decode cX9_init 9 = .ok (.putfield 9, 3) := by decide +kernel
theorem dX9_init_12 : decode cX9_init 12 = .ok (.return_, 1) := by decide +kernel
theorem dX9_reckon_0 : decode cX9_reckon 0 = .ok (.aload_n 0, 1) := by decide +kernel
theorem dX9_reckon_1 : decode cX9_reckon 1 = .ok (.iload 4, 2) := by decide +kernel
theorem dX9_reckon_3 : decode cX9_reckon 3 = .ok (.putfield 15, 3) := by decide +kernel
theorem dX9_reckon_6 : decode cX9_reckon 6 = .ok (.aload_n 0, 1) := by decide +kernel
theorem dX9_reckon_7 : decode cX9_reckon 7 = .ok (.aload_n 1, 1) := by decide +kernel
theorem dX9_reckon_8 : decode cX9_reckon 8 = .ok (.aload_n 3, 1) := by decide +kernel
theorem dX9_reckon_9 : decode cX9_reckon 9 = .ok (.invokevirtual 19, 3) := by decide +kernel
theorem dX9_reckon_12 : decode cX9_reckon 12 = .ok (.aload_n 0, 1) := by decide +kernel
theorem dX9_reckon_13 : decode cX9_reckon 13 = .ok (.aload_n 1, 1) := by decide +kernel
theorem dX9_reckon_14 : decode cX9_reckon 14 = .ok (.aload_n 2, 1) := by decide +kernel
theorem dX9_reckon_15 : decode cX9_reckon 15 = .ok (.invokevirtual 23, 3) := by decide +kernel
theorem dX9_reckon_18 : decode cX9_reckon 18 = .ok (.aload_n 0, 1) := by decide +kernel
theorem dX9_reckon_19 : decode cX9_reckon 19 = .ok (.getfield 26, 3) := by decide +kernel
theorem dX9_reckon_22 : decode cX9_reckon 22 = .ok (.aload_n 0, 1) := by decide +kernel
theorem dX9_reckon_23 : decode cX9_reckon 23 = .ok (.getfield 15, 3) := by decide +kernel
theorem dX9_reckon_26 : decode cX9_reckon 26 = .ok (.if_icmp .ge 7, 3) := by decide +kernel
theorem dX9_reckon_29 : decode cX9_reckon 29 = .ok (.iconst 1, 1) := by decide +kernel
theorem dX9_reckon_30 : decode cX9_reckon 30 = .ok (.goto 4, 3) := by decide +kernel
theorem dX9_reckon_33 : decode cX9_reckon 33 = .ok (.iconst 0, 1) := by decide +kernel
theorem dX9_reckon_34 : decode cX9_reckon 34 = .ok (.istore 5, 2) := by decide +kernel
theorem dX9_reckon_36 : decode cX9_reckon 36 = .ok (.aload_n 0, 1) := by decide +kernel
theorem dX9_reckon_37 : decode cX9_reckon 37 = .ok (.iload 5, 2) := by decide +kernel
theorem dX9_reckon_39 : decode cX9_reckon 39 = .ok (.ifCond .eq 17, 3) := by decide +kernel
theorem dX9_reckon_42 : decode cX9_reckon 42 = .ok (.aload_n 1, 1) := by decide +kernel
theorem dX9_reckon_43 : decode cX9_reckon 43 = .ok (.getfield 29, 3) := by decide +kernel
theorem dX9_reckon_46 : decode cX9_reckon 46 = .ok (.aload_n 3, 1) := by decide +kernel
theorem dX9_reckon_47 : decode cX9_reckon 47 = .ok (.aload_n 0, 1) := by decide +kernel
theorem dX9_reckon_48 : decode cX9_reckon 48 = .ok (.getfield 26, 3) := by decide +kernel
theorem dX9_reckon_51 : decode cX9_reckon 51 = .ok (.iaload, 1) := by decide +kernel
theorem dX9_reckon_52 : decode cX9_reckon 52 = .ok (.iaload, 1) := by decide +kernel
theorem dX9_reckon_53 : decode cX9_reckon 53 = .ok (.goto 4, 3) := by decide +kernel
theorem dX9_reckon_56 : decode cX9_reckon 56 = .ok (.iconst 0, 1) := by decide +kernel
theorem dX9_reckon_57 : decode cX9_reckon 57 = .ok (.putfield 32, 3) := by decide +kernel
theorem dX9_reckon_60 : decode cX9_reckon 60 = .ok (.aload_n 0, 1) := by decide +kernel
theorem dX9_reckon_61 : decode cX9_reckon 61 = .ok (.iload 5, 2) := by decide +kernel
theorem dX9_reckon_63 : decode cX9_reckon 63 = .ok (.ifCond .eq 19, 3) := by decide +kernel
theorem dX9_reckon_66 : decode cX9_reckon 66 = .ok (.aload_n 1, 1) := by decide +kernel
theorem dX9_reckon_67 : decode cX9_reckon 67 = .ok (.getfield 29, 3) := by decide +kernel
theorem dX9_reckon_70 : decode cX9_reckon 70 = .ok (.aload_n 3, 1) := by decide +kernel
theorem dX9_reckon_71 : decode cX9_reckon 71 = .ok (.aload_n 0, 1) := by decide +kernel
theorem dX9_reckon_72 : decode cX9_reckon 72 = .ok (.getfield 15, 3) := by decide +kernel
theorem dX9_reckon_75 : decode cX9_reckon 75 = .ok (.iconst 1, 1) := by decide +kernel
theorem dX9_reckon_76 : decode cX9_reckon 76 = .ok (.isub, 1) := by decide +kernel
theorem dX9_reckon_77 : decode cX9_reckon 77 = .ok (.iaload, 1) := by decide +kernel
theorem dX9_reckon_78 : decode cX9_reckon 78 = .ok (.iaload, 1) := by decide +kernel
theorem dX9_reckon_79 : decode cX9_reckon 79 = .ok (.goto 4, 3) := by decide +kernel
theorem dX9_reckon_82 : decode cX9_reckon 82 = .ok (.iconst 0, 1) := by decide +kernel
theorem dX9_reckon_83 : decode cX9_reckon 83 = .ok (.putfield 35, 3) := by decide +kernel
theorem dX9_reckon_86 : decode cX9_reckon 86 = .ok (.aload_n 0, 1) := by decide +kernel
theorem dX9_reckon_87 : decode cX9_reckon 87 = .ok (.iconst 0, 1) := by decide +kernel
theorem dX9_reckon_88 : decode cX9_reckon 88 = .ok (.putfield 38, 3) := by decide +kernel
theorem dX9_reckon_91 : decode cX9_reckon 91 = .ok (.iconst 1, 1) := by decide +kernel
theorem dX9_reckon_92 : decode cX9_reckon 92 = .ok (.istore 6, 2) := by decide +kernel
theorem dX9_reckon_94 : decode cX9_reckon 94 = .ok (.iload 6, 2) := by decide +kernel
theorem dX9_reckon_96 : decode cX9_reckon 96 = .ok (.iconst 5, 1) := by decide +kernel
theorem dX9_reckon_97 : decode cX9_reckon 97 = .ok (.if_icmp .ge 41, 3) := by decide +kernel
theorem dX9_reckon_100 : decode cX9_reckon 100 = .ok (.aload_n 0, 1) := by decide +kernel
theorem dX9_reckon_101 : decode cX9_reckon 101 = .ok (.iload 6, 2) := by decide +kernel
theorem dX9_reckon_103 : decode cX9_reckon 103 = .ok (.invokevirtual 41, 3) := by decide +kernel
theorem dX9_reckon_106 : decode cX9_reckon 106 = .ok (.istore 7, 2) := by decide +kernel
theorem dX9_reckon_108 : decode cX9_reckon 108 = .ok (.iload 7, 2) := by decide +kernel
theorem dX9_reckon_110 : decode cX9_reckon 110 = .ok (.ifCond .lt 22, 3) := by decide +kernel
theorem dX9_reckon_113 : decode cX9_reckon 113 = .ok (.iload 7, 2) := by decide +kernel
theorem dX9_reckon_115 : decode cX9_reckon 115 = .ok (.aload_n 0, 1) := by decide +kernel
theorem dX9_reckon_116 : decode cX9_reckon 116 = .ok (.aload_n 0, 1) := by decide +kernel
theorem dX9_reckon_117 : decode cX9_reckon 117 = .ok (.getfield 38, 3) := by decide +kernel
theorem dX9_reckon_120 : decode cX9_reckon 120 = .ok (.invokevirtual 41, 3) := by decide +kernel
theorem dX9_reckon_123 : decode cX9_reckon 123 = .ok (.if_icmp .ge 9, 3) := by decide +kernel
theorem dX9_reckon_126 : decode cX9_reckon 126 = .ok (.aload_n 0, 1) := by decide +kernel
theorem dX9_reckon_127 : decode cX9_reckon 127 = .ok (.iload 6, 2) := by decide +kernel
theorem dX9_reckon_129 : decode cX9_reckon 129 = .ok (.putfield 38, 3) := by decide +kernel
theorem dX9_reckon_132 : decode cX9_reckon 132 = .ok (.iinc 6 1, 3) := by decide +kernel
theorem dX9_reckon_135 : decode cX9_reckon 135 = .ok (.goto (-41), 3) := by decide +kernel
theorem dX9_reckon_138 : decode cX9_reckon 138 = .ok (.return_, 1) := by decide +kernel
theorem dX9_countValues_0 : decode cX9_countValues 0 = .ok (.aload_n 0, 1) := by decide +kernel
theorem dX9_countValues_1 : decode cX9_countValues 1 = .ok (.iconst 0, 1) := by decide +kernel
theorem dX9_countValues_2 : decode cX9_countValues 2 = .ok (.putfield 26, 3) := by decide +kernel
theorem dX9_countValues_5 : decode cX9_countValues 5 = .ok (.aload_n 0, 1) := by decide +kernel
theorem dX9_countValues_6 : decode cX9_countValues 6 = .ok (.iconst 0, 1) := by decide +kernel
theorem dX9_countValues_7 : decode cX9_countValues 7 = .ok (.putfield 45, 3) := by decide +kernel
theorem dX9_countValues_10 : decode cX9_countValues 10 = .ok (.iconst 0, 1) := by decide +kernel
theorem dX9_countValues_11 : decode cX9_countValues 11 = .ok (.istore_n 3, 1) := by decide +kernel
theorem dX9_countValues_12 : decode cX9_countValues 12 = .ok (.iload_n 3, 1) := by decide +kernel
theorem dX9_countValues_13 : decode cX9_countValues 13 = .ok (.aload_n 0, 1) := by decide +kernel
theorem dX9_countValues_14 : decode cX9_countValues 14 = .ok (.getfield 15, 3) := by decide +kernel
theorem dX9_countValues_17 : decode cX9_countValues 17 = .ok (.if_icmp .ge 88, 3) := by decide +kernel
theorem dX9_countValues_20 : decode cX9_countValues 20 = .ok (.aload_n 1, 1) := by decide +kernel
theorem dX9_countValues_21 : decode cX9_countValues 21 = .ok (.getfield 48, 3) := by decide +kernel
theorem dX9_countValues_24 : decode cX9_countValues 24 = .ok (.aload_n 2, 1) := by decide +kernel
theorem dX9_countValues_25 : decode cX9_countValues 25 = .ok (.iload_n 3, 1) := by decide +kernel
theorem dX9_countValues_26 : decode cX9_countValues 26 = .ok (.iaload, 1) := by decide +kernel
theorem dX9_countValues_27 : decode cX9_countValues 27 = .ok (.baload, 1) := by decide +kernel
theorem dX9_countValues_28 : decode cX9_countValues 28 = .ok (.ifCond .eq 16, 3) := by decide +kernel
theorem dX9_countValues_31 : decode cX9_countValues 31 = .ok (.aload_n 0, 1) := by decide +kernel
theorem dX9_countValues_32 : decode cX9_countValues 32 = .ok (.dup, 1) := by decide +kernel
theorem dX9_countValues_33 : decode cX9_countValues 33 = .ok (.getfield 26, 3) := by decide +kernel
theorem dX9_countValues_36 : decode cX9_countValues 36 = .ok (.iconst 1, 1) := by decide +kernel
theorem dX9_countValues_37 : decode cX9_countValues 37 = .ok (.iadd, 1) := by decide +kernel
theorem dX9_countValues_38 : decode cX9_countValues 38 = .ok (.putfield 26, 3) := by decide +kernel
theorem dX9_countValues_41 : decode cX9_countValues 41 = .ok (.goto 58, 3) := by decide +kernel
theorem dX9_countValues_44 : decode cX9_countValues 44 = .ok (.iload_n 3, 1) := by decide +kernel
theorem dX9_countValues_45 : decode cX9_countValues 45 = .ok (.ifCond .eq 18, 3) := by decide +kernel
theorem dX9_countValues_48 : decode cX9_countValues 48 = .ok (.aload_n 1, 1) := by decide +kernel
theorem dX9_countValues_49 : decode cX9_countValues 49 = .ok (.aload_n 2, 1) := by decide +kernel
theorem dX9_countValues_50 : decode cX9_countValues 50 = .ok (.iload_n 3, 1) := by decide +kernel
theorem dX9_countValues_51 : decode cX9_countValues 51 = .ok (.iconst 1, 1) := by decide +kernel
theorem dX9_countValues_52 : decode cX9_countValues 52 = .ok (.isub, 1) := by decide +kernel
theorem dX9_countValues_53 : decode cX9_countValues 53 = .ok (.iaload, 1) := by decide +kernel
theorem dX9_countValues_54 : decode cX9_countValues 54 = .ok (.aload_n 2, 1) := by decide +kernel
theorem dX9_countValues_55 : decode cX9_countValues 55 = .ok (.iload_n 3, 1) := by decide +kernel
theorem dX9_countValues_56 : decode cX9_countValues 56 = .ok (.iaload, 1) := by decide +kernel
theorem dX9_countValues_57 : decode cX9_countValues 57 = .ok (.invokevirtual 52, 3) := by decide +kernel
theorem dX9_countValues_60 : decode cX9_countValues 60 = .ok (.ifCond .ne 39, 3) := by decide +kernel
theorem dX9_countValues_63 : decode cX9_countValues 63 = .ok (.aload_n 0, 1) := by decide +kernel
theorem dX9_countValues_64 : decode cX9_countValues 64 = .ok (.getfield 45, 3) := by decide +kernel
theorem dX9_countValues_67 : decode cX9_countValues 67 = .ok (.bipush 16, 2) := by decide +kernel
theorem dX9_countValues_69 : decode cX9_countValues 69 = .ok (.if_icmp .ge 20, 3) := by decide +kernel
theorem dX9_countValues_72 : decode cX9_countValues 72 = .ok (.aload_n 0, 1) := by decide +kernel
theorem dX9_countValues_73 : decode cX9_countValues 73 = .ok (.getfield 9, 3) := by decide +kernel
theorem dX9_countValues_76 : decode cX9_countValues 76 = .ok (.aload_n 0, 1) := by decide +kernel
theorem dX9_countValues_77 : decode cX9_countValues 77 = .ok (.getfield 45, 3) := by decide +kernel
theorem dX9_countValues_80 : decode cX9_countValues 80 = .ok (.aload_n 1, 1) := by decide +kernel
theorem dX9_countValues_81 : decode cX9_countValues 81 = .ok (.getfield 29, 3) := by decide +kernel
theorem dX9_countValues_84 : decode cX9_countValues 84 = .ok (.aload_n 2, 1) := by decide +kernel
theorem dX9_countValues_85 : decode cX9_countValues 85 = .ok (.iload_n 3, 1) := by decide +kernel
theorem dX9_countValues_86 : decode cX9_countValues 86 = .ok (.iaload, 1) := by decide +kernel
theorem dX9_countValues_87 : decode cX9_countValues 87 = .ok (.iaload, 1) := by decide +kernel
theorem dX9_countValues_88 : decode cX9_countValues 88 = .ok (.iastore, 1) := by decide +kernel
theorem dX9_countValues_89 : decode cX9_countValues 89 = .ok (.aload_n 0, 1) := by decide +kernel
theorem dX9_countValues_90 : decode cX9_countValues 90 = .ok (.dup, 1) := by decide +kernel
theorem dX9_countValues_91 : decode cX9_countValues 91 = .ok (.getfield 45, 3) := by decide +kernel
theorem dX9_countValues_94 : decode cX9_countValues 94 = .ok (.iconst 1, 1) := by decide +kernel
theorem dX9_countValues_95 : decode cX9_countValues 95 = .ok (.iadd, 1) := by decide +kernel
theorem dX9_countValues_96 : decode cX9_countValues 96 = .ok (.putfield 45, 3) := by decide +kernel
theorem dX9_countValues_99 : decode cX9_countValues 99 = .ok (.iinc 3 1, 3) := by decide +kernel
theorem dX9_countValues_102 : decode cX9_countValues 102 = .ok (.goto (-90), 3) := by decide +kernel
theorem dX9_countValues_105 : decode cX9_countValues 105 = .ok (.return_, 1) := by decide +kernel
theorem dX9_countRuns_0 : decode cX9_countRuns 0 = .ok (.aload_n 0, 1) := by decide +kernel
theorem dX9_countRuns_1 : decode cX9_countRuns 1 = .ok (.aload_n 0, 1) := by decide +kernel
theorem dX9_countRuns_2 : decode cX9_countRuns 2 = .ok (.getfield 15, 3) := by decide +kernel
theorem dX9_countRuns_5 : decode cX9_countRuns 5 = .ok (.ifCond .ne 7, 3) := by decide +kernel
theorem dX9_countRuns_8 : decode cX9_countRuns 8 = .ok (.iconst 0, 1) := by decide +kernel
theorem dX9_countRuns_9 : decode cX9_countRuns 9 = .ok (.goto 4, 3) := by decide +kernel
theorem dX9_countRuns_12 : decode cX9_countRuns 12 = .ok (.iconst 1, 1) := by decide +kernel
theorem dX9_countRuns_13 : decode cX9_countRuns 13 = .ok (.putfield 56, 3) := by decide +kernel
theorem dX9_countRuns_16 : decode cX9_countRuns 16 = .ok (.aload_n 0, 1) := by decide +kernel
theorem dX9_countRuns_17 : decode cX9_countRuns 17 = .ok (.lconst 0, 1) := by decide +kernel
theorem dX9_countRuns_18 : decode cX9_countRuns 18 = .ok (.putfield 59, 3) := by decide +kernel
theorem dX9_countRuns_21 : decode cX9_countRuns 21 = .ok (.iconst 1, 1) := by decide +kernel
theorem dX9_countRuns_22 : decode cX9_countRuns 22 = .ok (.istore_n 3, 1) := by decide +kernel
theorem dX9_countRuns_23 : decode cX9_countRuns 23 = .ok (.iload_n 3, 1) := by decide +kernel
theorem dX9_countRuns_24 : decode cX9_countRuns 24 = .ok (.aload_n 0, 1) := by decide +kernel
theorem dX9_countRuns_25 : decode cX9_countRuns 25 = .ok (.getfield 15, 3) := by decide +kernel
theorem dX9_countRuns_28 : decode cX9_countRuns 28 = .ok (.if_icmp .ge 92, 3) := by decide +kernel
theorem dX9_countRuns_31 : decode cX9_countRuns 31 = .ok (.aload_n 1, 1) := by decide +kernel
theorem dX9_countRuns_32 : decode cX9_countRuns 32 = .ok (.aload_n 2, 1) := by decide +kernel
theorem dX9_countRuns_33 : decode cX9_countRuns 33 = .ok (.iload_n 3, 1) := by decide +kernel
theorem dX9_countRuns_34 : decode cX9_countRuns 34 = .ok (.iconst 1, 1) := by decide +kernel
theorem dX9_countRuns_35 : decode cX9_countRuns 35 = .ok (.isub, 1) := by decide +kernel
theorem dX9_countRuns_36 : decode cX9_countRuns 36 = .ok (.iaload, 1) := by decide +kernel
theorem dX9_countRuns_37 : decode cX9_countRuns 37 = .ok (.aload_n 2, 1) := by decide +kernel
theorem dX9_countRuns_38 : decode cX9_countRuns 38 = .ok (.iload_n 3, 1) := by decide +kernel
theorem dX9_countRuns_39 : decode cX9_countRuns 39 = .ok (.iaload, 1) := by decide +kernel
theorem dX9_countRuns_40 : decode cX9_countRuns 40 = .ok (.invokevirtual 52, 3) := by decide +kernel
theorem dX9_countRuns_43 : decode cX9_countRuns 43 = .ok (.ifCond .ne 13, 3) := by decide +kernel
theorem dX9_countRuns_46 : decode cX9_countRuns 46 = .ok (.aload_n 0, 1) := by decide +kernel
theorem dX9_countRuns_47 : decode cX9_countRuns 47 = .ok (.dup, 1) := by decide +kernel
theorem dX9_countRuns_48 : decode cX9_countRuns 48 = .ok (.getfield 56, 3) := by decide +kernel
theorem dX9_countRuns_51 : decode cX9_countRuns 51 = .ok (.iconst 1, 1) := by decide +kernel
theorem dX9_countRuns_52 : decode cX9_countRuns 52 = .ok (.iadd, 1) := by decide +kernel
theorem dX9_countRuns_53 : decode cX9_countRuns 53 = .ok (.putfield 56, 3) := by decide +kernel
theorem dX9_countRuns_56 : decode cX9_countRuns 56 = .ok (.aload_n 1, 1) := by decide +kernel
theorem dX9_countRuns_57 : decode cX9_countRuns 57 = .ok (.getfield 29, 3) := by decide +kernel
theorem dX9_countRuns_60 : decode cX9_countRuns 60 = .ok (.aload_n 2, 1) := by decide +kernel
theorem dX9_countRuns_61 : decode cX9_countRuns 61 = .ok (.iload_n 3, 1) := by decide +kernel
theorem dX9_countRuns_62 : decode cX9_countRuns 62 = .ok (.iaload, 1) := by decide +kernel
theorem dX9_countRuns_63 : decode cX9_countRuns 63 = .ok (.iaload, 1) := by decide +kernel
theorem dX9_countRuns_64 : decode cX9_countRuns 64 = .ok (.i2l, 1) := by decide +kernel
theorem dX9_countRuns_65 : decode cX9_countRuns 65 = .ok (.aload_n 1, 1) := by decide +kernel
theorem dX9_countRuns_66 : decode cX9_countRuns 66 = .ok (.getfield 29, 3) := by decide +kernel
theorem dX9_countRuns_69 : decode cX9_countRuns 69 = .ok (.aload_n 2, 1) := by decide +kernel
