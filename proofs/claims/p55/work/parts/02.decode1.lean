theorem dX0_init_0 : decode cX0_init 0 = .ok (.aload_n 0, 1) := by decide +kernel
theorem dX0_init_1 : decode cX0_init 1 = .ok (.invokespecial 3, 3) := by decide +kernel
theorem dX0_init_4 : decode cX0_init 4 = .ok (.aload_n 0, 1) := by decide +kernel
theorem dX0_init_5 : decode cX0_init 5 = .ok (.bipush 64, 2) := by decide +kernel
theorem dX0_init_7 : decode cX0_init 7 = .ok (.newarray .int, 2) := by decide +kernel
theorem dX0_init_9 : decode cX0_init 9 = .ok (.putfield 9, 3) := by decide +kernel
theorem dX0_init_12 : decode cX0_init 12 = .ok (.aload_n 0, 1) := by decide +kernel
theorem dX0_init_13 : decode cX0_init 13 = .ok (.bipush 8, 2) := by decide +kernel
theorem dX0_init_15 : decode cX0_init 15 = .ok (.anewarray 15, 3) := by decide +kernel
theorem dX0_init_18 : decode cX0_init 18 = .ok (.putfield 17, 3) := by decide +kernel
theorem dX0_init_21 : decode cX0_init 21 = .ok (.iconst 0, 1) := by decide +kernel
theorem dX0_init_22 : decode cX0_init 22 = .ok (.istore_n 1, 1) := by decide +kernel
theorem dX0_init_23 : decode cX0_init 23 = .ok (.iload_n 1, 1) := by decide +kernel
theorem dX0_init_24 : decode cX0_init 24 = .ok (.bipush 8, 2) := by decide +kernel
theorem dX0_init_26 : decode cX0_init 26 = .ok (.if_icmp .ge 22, 3) := by decide +kernel
theorem dX0_init_29 : decode cX0_init 29 = .ok (.aload_n 0, 1) := by decide +kernel
theorem dX0_init_30 : decode cX0_init 30 = .ok (.getfield 17, 3) := by decide +kernel
theorem dX0_init_33 : decode cX0_init 33 = .ok (.iload_n 1, 1) := by decide +kernel
theorem dX0_init_34 : decode cX0_init 34 = .ok (.new 15, 3) := by decide +kernel
theorem dX0_init_37 : decode cX0_init 37 = .ok (.dup, 1) := by decide +kernel
theorem dX0_init_38 : decode cX0_init 38 = .ok (.invokespecial 21, 3) := by decide +kernel
theorem dX0_init_41 : decode cX0_init 41 = .ok (.aastore, 1) := by decide +kernel
theorem dX0_init_42 : decode cX0_init 42 = .ok (.iinc 1 1, 3) := by decide +kernel
theorem dX0_init_45 : decode cX0_init 45 = .ok (.goto (-22), 3) := by decide +kernel
theorem dX0_init_48 : decode cX0_init 48 = .ok (.return_, 1) := by decide +kernel
theorem dX0_append_0 : decode cX0_append 0 = .ok (.aload_n 0, 1) := by decide +kernel
theorem dX0_append_1 : decode cX0_append 1 = .ok (.getfield 22, 3) := by decide +kernel
theorem dX0_append_4 : decode cX0_append 4 = .ok (.bipush 64, 2) := by decide +kernel
theorem dX0_append_6 : decode cX0_append 6 = .ok (.if_icmp .ge 23, 3) := by decide +kernel
theorem dX0_append_9 : decode cX0_append 9 = .ok (.aload_n 0, 1) := by decide +kernel
theorem dX0_append_10 : decode cX0_append 10 = .ok (.getfield 9, 3) := by decide +kernel
theorem dX0_append_13 : decode cX0_append 13 = .ok (.aload_n 0, 1) := by decide +kernel
theorem dX0_append_14 : decode cX0_append 14 = .ok (.getfield 22, 3) := by decide +kernel
theorem dX0_append_17 : decode cX0_append 17 = .ok (.iload_n 1, 1) := by decide +kernel
theorem dX0_append_18 : decode cX0_append 18 = .ok (.iastore, 1) := by decide +kernel
theorem dX0_append_19 : decode cX0_append 19 = .ok (.aload_n 0, 1) := by decide +kernel
theorem dX0_append_20 : decode cX0_append 20 = .ok (.dup, 1) := by decide +kernel
theorem dX0_append_21 : decode cX0_append 21 = .ok (.getfield 22, 3) := by decide +kernel
theorem dX0_append_24 : decode cX0_append 24 = .ok (.iconst 1, 1) := by decide +kernel
theorem dX0_append_25 : decode cX0_append 25 = .ok (.iadd, 1) := by decide +kernel
theorem dX0_append_26 : decode cX0_append 26 = .ok (.putfield 22, 3) := by decide +kernel
theorem dX0_append_29 : decode cX0_append 29 = .ok (.return_, 1) := by decide +kernel
theorem dX0_reckon_0 : decode cX0_reckon 0 = .ok (.aload_n 0, 1) := by decide +kernel
theorem dX0_reckon_1 : decode cX0_reckon 1 = .ok (.iconst 0, 1) := by decide +kernel
theorem dX0_reckon_2 : decode cX0_reckon 2 = .ok (.putfield 26, 3) := by decide +kernel
theorem dX0_reckon_5 : decode cX0_reckon 5 = .ok (.iconst 0, 1) := by decide +kernel
theorem dX0_reckon_6 : decode cX0_reckon 6 = .ok (.istore 4, 2) := by decide +kernel
theorem dX0_reckon_8 : decode cX0_reckon 8 = .ok (.iload 4, 2) := by decide +kernel
theorem dX0_reckon_10 : decode cX0_reckon 10 = .ok (.aload_n 1, 1) := by decide +kernel
theorem dX0_reckon_11 : decode cX0_reckon 11 = .ok (.invokevirtual 29, 3) := by decide +kernel
theorem dX0_reckon_14 : decode cX0_reckon 14 = .ok (.if_icmp .ge 97, 3) := by decide +kernel
theorem dX0_reckon_17 : decode cX0_reckon 17 = .ok (.aload_n 1, 1) := by decide +kernel
theorem dX0_reckon_18 : decode cX0_reckon 18 = .ok (.iload 4, 2) := by decide +kernel
theorem dX0_reckon_20 : decode cX0_reckon 20 = .ok (.invokevirtual 35, 3) := by decide +kernel
theorem dX0_reckon_23 : decode cX0_reckon 23 = .ok (.checkcast 39, 3) := by decide +kernel
theorem dX0_reckon_26 : decode cX0_reckon 26 = .ok (.astore 5, 2) := by decide +kernel
theorem dX0_reckon_28 : decode cX0_reckon 28 = .ok (.aload_n 0, 1) := by decide +kernel
theorem dX0_reckon_29 : decode cX0_reckon 29 = .ok (.getfield 9, 3) := by decide +kernel
theorem dX0_reckon_32 : decode cX0_reckon 32 = .ok (.iconst 0, 1) := by decide +kernel
theorem dX0_reckon_33 : decode cX0_reckon 33 = .ok (.aload_n 2, 1) := by decide +kernel
theorem dX0_reckon_34 : decode cX0_reckon 34 = .ok (.iconst 0, 1) := by decide +kernel
theorem dX0_reckon_35 : decode cX0_reckon 35 = .ok (.aload_n 0, 1) := by decide +kernel
theorem dX0_reckon_36 : decode cX0_reckon 36 = .ok (.getfield 22, 3) := by decide +kernel
theorem dX0_reckon_39 : decode cX0_reckon 39 = .ok (.invokestatic 41, 3) := by decide +kernel
theorem dX0_reckon_42 : decode cX0_reckon 42 = .ok (.aload_n 3, 1) := by decide +kernel
theorem dX0_reckon_43 : decode cX0_reckon 43 = .ok (.aload_n 2, 1) := by decide +kernel
theorem dX0_reckon_44 : decode cX0_reckon 44 = .ok (.aload_n 0, 1) := by decide +kernel
theorem dX0_reckon_45 : decode cX0_reckon 45 = .ok (.getfield 22, 3) := by decide +kernel
theorem dX0_reckon_48 : decode cX0_reckon 48 = .ok (.aload 5, 2) := by decide +kernel
theorem dX0_reckon_50 : decode cX0_reckon 50 = .ok (.iconst 0, 1) := by decide +kernel
theorem dX0_reckon_51 : decode cX0_reckon 51 = .ok (.iconst 1, 1) := by decide +kernel
theorem dX0_reckon_52 : decode cX0_reckon 52 = .ok (.invokevirtual 47, 3) := by decide +kernel
theorem dX0_reckon_55 : decode cX0_reckon 55 = .ok (.aload_n 0, 1) := by decide +kernel
theorem dX0_reckon_56 : decode cX0_reckon 56 = .ok (.getfield 17, 3) := by decide +kernel
theorem dX0_reckon_59 : decode cX0_reckon 59 = .ok (.iload 4, 2) := by decide +kernel
theorem dX0_reckon_61 : decode cX0_reckon 61 = .ok (.aaload, 1) := by decide +kernel
theorem dX0_reckon_62 : decode cX0_reckon 62 = .ok (.aload 5, 2) := by decide +kernel
theorem dX0_reckon_64 : decode cX0_reckon 64 = .ok (.aload_n 0, 1) := by decide +kernel
theorem dX0_reckon_65 : decode cX0_reckon 65 = .ok (.getfield 9, 3) := by decide +kernel
theorem dX0_reckon_68 : decode cX0_reckon 68 = .ok (.aload_n 2, 1) := by decide +kernel
theorem dX0_reckon_69 : decode cX0_reckon 69 = .ok (.aload_n 0, 1) := by decide +kernel
theorem dX0_reckon_70 : decode cX0_reckon 70 = .ok (.getfield 22, 3) := by decide +kernel
theorem dX0_reckon_73 : decode cX0_reckon 73 = .ok (.invokevirtual 53, 3) := by decide +kernel
theorem dX0_reckon_76 : decode cX0_reckon 76 = .ok (.aload_n 0, 1) := by decide +kernel
theorem dX0_reckon_77 : decode cX0_reckon 77 = .ok (.dup, 1) := by decide +kernel
theorem dX0_reckon_78 : decode cX0_reckon 78 = .ok (.getfield 26, 3) := by decide +kernel
theorem dX0_reckon_81 : decode cX0_reckon 81 = .ok (.aload_n 0, 1) := by decide +kernel
theorem dX0_reckon_82 : decode cX0_reckon 82 = .ok (.getfield 17, 3) := by decide +kernel
theorem dX0_reckon_85 : decode cX0_reckon 85 = .ok (.iload 4, 2) := by decide +kernel
theorem dX0_reckon_87 : decode cX0_reckon 87 = .ok (.aaload, 1) := by decide +kernel
theorem dX0_reckon_88 : decode cX0_reckon 88 = .ok (.aload_n 0, 1) := by decide +kernel
theorem dX0_reckon_89 : decode cX0_reckon 89 = .ok (.getfield 17, 3) := by decide +kernel
theorem dX0_reckon_92 : decode cX0_reckon 92 = .ok (.iload 4, 2) := by decide +kernel
theorem dX0_reckon_94 : decode cX0_reckon 94 = .ok (.aaload, 1) := by decide +kernel
theorem dX0_reckon_95 : decode cX0_reckon 95 = .ok (.getfield 57, 3) := by decide +kernel
theorem dX0_reckon_98 : decode cX0_reckon 98 = .ok (.invokevirtual 60, 3) := by decide +kernel
theorem dX0_reckon_101 : decode cX0_reckon 101 = .ok (.iadd, 1) := by decide +kernel
theorem dX0_reckon_102 : decode cX0_reckon 102 = .ok (.putfield 26, 3) := by decide +kernel
theorem dX0_reckon_105 : decode cX0_reckon 105 = .ok (.iinc 4 1, 3) := by decide +kernel
theorem dX0_reckon_108 : decode cX0_reckon 108 = .ok (.goto (-100), 3) := by decide +kernel
theorem dX0_reckon_111 : decode cX0_reckon 111 = .ok (.return_, 1) := by decide +kernel
theorem dX1_init_0 : decode cX1_init 0 = .ok (.aload_n 0, 1) := by decide +kernel
theorem dX1_init_1 : decode cX1_init 1 = .ok (.invokespecial 3, 3) := by decide +kernel
theorem dX1_init_4 : decode cX1_init 4 = .ok (.aload_n 0, 1) := by decide +kernel
theorem dX1_init_5 : decode cX1_init 5 = .ok (.sipush 600, 3) := by decide +kernel
theorem dX1_init_8 : decode cX1_init 8 = .ok (.newarray .int, 2) := by decide +kernel
theorem dX1_init_10 : decode cX1_init 10 = .ok (.putfield 9, 3) := by decide +kernel
theorem dX1_init_13 : decode cX1_init 13 = .ok (.aload_n 0, 1) := by decide +kernel
theorem dX1_init_14 : decode cX1_init 14 = .ok (.sipush 600, 3) := by decide +kernel
theorem dX1_init_17 : decode cX1_init 17 = .ok (.newarray .boolean, 2) := by decide +kernel
theorem dX1_init_19 : decode cX1_init 19 = .ok (.putfield 15, 3) := by decide +kernel
theorem dX1_init_22 : decode cX1_init 22 = .ok (.return_, 1) := by decide +kernel
theorem dX1_giveNext_0 : decode cX1_giveNext 0 = .ok (.aload_n 0, 1) := by decide +kernel
theorem dX1_giveNext_1 : decode cX1_giveNext 1 = .ok (.iload_n 1, 1) := by decide +kernel
theorem dX1_giveNext_2 : decode cX1_giveNext 2 = .ok (.putfield 19, 3) := by decide +kernel
theorem dX1_giveNext_5 : decode cX1_giveNext 5 = .ok (.aload_n 0, 1) := by decide +kernel
theorem dX1_giveNext_6 : decode cX1_giveNext 6 = .ok (.iconst 1, 1) := by decide +kernel
theorem dX1_giveNext_7 : decode cX1_giveNext 7 = .ok (.putfield 23, 3) := by decide +kernel
theorem dX1_giveNext_10 : decode cX1_giveNext 10 = .ok (.return_, 1) := by decide +kernel
theorem dX1_takeGiven_0 : decode cX1_takeGiven 0 = .ok (.aload_n 0, 1) := by decide +kernel
theorem dX1_takeGiven_1 : decode cX1_takeGiven 1 = .ok (.getfield 9, 3) := by decide +kernel
theorem dX1_takeGiven_4 : decode cX1_takeGiven 4 = .ok (.iload_n 1, 1) := by decide +kernel
theorem dX1_takeGiven_5 : decode cX1_takeGiven 5 = .ok (.aload_n 0, 1) := by decide +kernel
theorem dX1_takeGiven_6 : decode cX1_takeGiven 6 = .ok (.getfield 23, 3) := by decide +kernel
theorem dX1_takeGiven_9 : decode cX1_takeGiven 9 = .ok (.ifCond .eq 10, 3) := by decide +kernel
theorem dX1_takeGiven_12 : decode cX1_takeGiven 12 = .ok (.aload_n 0, 1) := by decide +kernel
theorem dX1_takeGiven_13 : decode cX1_takeGiven 13 = .ok (.getfield 19, 3) := by decide +kernel
theorem dX1_takeGiven_16 : decode cX1_takeGiven 16 = .ok (.goto 4, 3) := by decide +kernel
theorem dX1_takeGiven_19 : decode cX1_takeGiven 19 = .ok (.iconst 0, 1) := by decide +kernel
theorem dX1_takeGiven_20 : decode cX1_takeGiven 20 = .ok (.iastore, 1) := by decide +kernel
theorem dX1_takeGiven_21 : decode cX1_takeGiven 21 = .ok (.aload_n 0, 1) := by decide +kernel
theorem dX1_takeGiven_22 : decode cX1_takeGiven 22 = .ok (.getfield 15, 3) := by decide +kernel
theorem dX1_takeGiven_25 : decode cX1_takeGiven 25 = .ok (.iload_n 1, 1) := by decide +kernel
theorem dX1_takeGiven_26 : decode cX1_takeGiven 26 = .ok (.aload_n 0, 1) := by decide +kernel
theorem dX1_takeGiven_27 : decode cX1_takeGiven 27 = .ok (.getfield 23, 3) := by decide +kernel
theorem dX1_takeGiven_30 : decode cX1_takeGiven 30 = .ok (.ifCond .ne 7, 3) := by decide +kernel
theorem dX1_takeGiven_33 : decode cX1_takeGiven 33 = .ok (.iconst 1, 1) := by decide +kernel
theorem dX1_takeGiven_34 : decode cX1_takeGiven 34 = .ok (.goto 4, 3) := by decide +kernel
theorem dX1_takeGiven_37 : decode cX1_takeGiven 37 = .ok (.iconst 0, 1) := by decide +kernel
theorem dX1_takeGiven_38 : decode cX1_takeGiven 38 = .ok (.bastore, 1) := by decide +kernel
theorem dX1_takeGiven_39 : decode cX1_takeGiven 39 = .ok (.aload_n 0, 1) := by decide +kernel
theorem dX1_takeGiven_40 : decode cX1_takeGiven 40 = .ok (.iconst 0, 1) := by decide +kernel
theorem dX1_takeGiven_41 : decode cX1_takeGiven 41 = .ok (.putfield 23, 3) := by decide +kernel
theorem dX1_takeGiven_44 : decode cX1_takeGiven 44 = .ok (.return_, 1) := by decide +kernel
theorem dX1_put_0 : decode cX1_put 0 = .ok (.aload_n 0, 1) := by decide +kernel
theorem dX1_put_1 : decode cX1_put 1 = .ok (.getfield 9, 3) := by decide +kernel
theorem dX1_put_4 : decode cX1_put 4 = .ok (.iload_n 1, 1) := by decide +kernel
theorem dX1_put_5 : decode cX1_put 5 = .ok (.iload_n 2, 1) := by decide +kernel
theorem dX1_put_6 : decode cX1_put 6 = .ok (.iastore, 1) := by decide +kernel
theorem dX1_put_7 : decode cX1_put 7 = .ok (.aload_n 0, 1) := by decide +kernel
theorem dX1_put_8 : decode cX1_put 8 = .ok (.getfield 15, 3) := by decide +kernel
theorem dX1_put_11 : decode cX1_put 11 = .ok (.iload_n 1, 1) := by decide +kernel
theorem dX1_put_12 : decode cX1_put 12 = .ok (.iconst 0, 1) := by decide +kernel
theorem dX1_put_13 : decode cX1_put 13 = .ok (.bastore, 1) := by decide +kernel
theorem dX1_put_14 : decode cX1_put 14 = .ok (.return_, 1) := by decide +kernel
theorem dX1_copy_0 : decode cX1_copy 0 = .ok (.aload_n 0, 1) := by decide +kernel
theorem dX1_copy_1 : decode cX1_copy 1 = .ok (.getfield 9, 3) := by decide +kernel
theorem dX1_copy_4 : decode cX1_copy 4 = .ok (.iload_n 2, 1) := by decide +kernel
theorem dX1_copy_5 : decode cX1_copy 5 = .ok (.aload_n 0, 1) := by decide +kernel
theorem dX1_copy_6 : decode cX1_copy 6 = .ok (.getfield 9, 3) := by decide +kernel
theorem dX1_copy_9 : decode cX1_copy 9 = .ok (.iload_n 1, 1) := by decide +kernel
theorem dX1_copy_10 : decode cX1_copy 10 = .ok (.iaload, 1) := by decide +kernel
theorem dX1_copy_11 : decode cX1_copy 11 = .ok (.iastore, 1) := by decide +kernel
theorem dX1_copy_12 : decode cX1_copy 12 = .ok (.aload_n 0, 1) := by decide +kernel
theorem dX1_copy_13 : decode cX1_copy 13 = .ok (.getfield 15, 3) := by decide +kernel
theorem dX1_copy_16 : decode cX1_copy 16 = .ok (.iload_n 2, 1) := by decide +kernel
theorem dX1_copy_17 : decode cX1_copy 17 = .ok (.aload_n 0, 1) := by decide +kernel
theorem dX1_copy_18 : decode cX1_copy 18 = .ok (.getfield 15, 3) := by decide +kernel
theorem dX1_copy_21 : decode cX1_copy 21 = .ok (.iload_n 1, 1) := by decide +kernel
theorem dX1_copy_22 : decode cX1_copy 22 = .ok (.baload, 1) := by decide +kernel
theorem dX1_copy_23 : decode cX1_copy 23 = .ok (.bastore, 1) := by decide +kernel
theorem dX1_copy_24 : decode cX1_copy 24 = .ok (.return_, 1) := by decide +kernel
theorem dX1_isSame_0 : decode cX1_isSame 0 = .ok (.aload_n 0, 1) := by decide +kernel
theorem dX1_isSame_1 : decode cX1_isSame 1 = .ok (.getfield 15, 3) := by decide +kernel
theorem dX1_isSame_4 : decode cX1_isSame 4 = .ok (.iload_n 1, 1) := by decide +kernel
theorem dX1_isSame_5 : decode cX1_isSame 5 = .ok (.baload, 1) := by decide +kernel
theorem dX1_isSame_6 : decode cX1_isSame 6 = .ok (.aload_n 0, 1) := by decide +kernel
theorem dX1_isSame_7 : decode cX1_isSame 7 = .ok (.getfield 15, 3) := by decide +kernel
theorem dX1_isSame_10 : decode cX1_isSame 10 = .ok (.iload_n 2, 1) := by decide +kernel
theorem dX1_isSame_11 : decode cX1_isSame 11 = .ok (.baload, 1) := by decide +kernel
theorem dX1_isSame_12 : decode cX1_isSame 12 = .ok (.if_icmp .ne 22, 3) := by decide +kernel
theorem dX1_isSame_15 : decode cX1_isSame 15 = .ok (.aload_n 0, 1) := by decide +kernel
theorem dX1_isSame_16 : decode cX1_isSame 16 = .ok (.getfield 9, 3) := by decide +kernel
theorem dX1_isSame_19 : decode cX1_isSame 19 = .ok (.iload_n 1, 1) := by decide +kernel
theorem dX1_isSame_20 : decode cX1_isSame 20 = .ok (.iaload, 1) := by decide +kernel
theorem dX1_isSame_21 : decode cX1_isSame 21 = .ok (.aload_n 0, 1) := by decide +kernel
theorem dX1_isSame_22 : decode cX1_isSame 22 = .ok (.getfield 9, 3) := by decide +kernel
theorem dX1_isSame_25 : decode cX1_isSame 25 = .ok (.iload_n 2, 1) := by decide +kernel
theorem dX1_isSame_26 : decode cX1_isSame 26 = .ok (.iaload, 1) := by decide +kernel
theorem dX1_isSame_27 : decode cX1_isSame 27 = .ok (.if_icmp .ne 7, 3) := by decide +kernel
theorem dX1_isSame_30 : decode cX1_isSame 30 = .ok (.iconst 1, 1) := by decide +kernel
theorem dX1_isSame_31 : decode cX1_isSame 31 = .ok (.goto 4, 3) := by decide +kernel
theorem dX1_isSame_34 : decode cX1_isSame 34 = .ok (.iconst 0, 1) := by decide +kernel
theorem dX1_isSame_35 : decode cX1_isSame 35 = .ok (.ireturn, 1) := by decide +kernel
theorem dX2_init_0 : decode cX2_init 0 = .ok (.aload_n 0, 1) := by decide +kernel
theorem dX2_init_1 : decode cX2_init 1 = .ok (.invokespecial 3, 3) := by decide +kernel
theorem dX2_init_4 : decode cX2_init 4 = .ok (.return_, 1) := by decide +kernel
theorem dX2_state_0 : decode cX2_state 0 = .ok (.aload_n 0, 1) := by decide +kernel
theorem dX2_state_1 : decode cX2_state 1 = .ok (.iload_n 1, 1) := by decide +kernel
theorem dX2_state_2 : decode cX2_state 2 = .ok (.putfield 9, 3) := by decide +kernel
theorem dX2_state_5 : decode cX2_state 5 = .ok (.aload_n 0, 1) := by decide +kernel
theorem dX2_state_6 : decode cX2_state 6 = .ok (.iload_n 2, 1) := by decide +kernel
theorem dX2_state_7 : decode cX2_state 7 = .ok (.putfield 15, 3) := by decide +kernel
theorem dX2_state_10 : decode cX2_state 10 = .ok (.aload_n 0, 1) := by decide +kernel
theorem dX2_state_11 : decode cX2_state 11 = .ok (.iload_n 3, 1) := by decide +kernel
theorem dX2_state_12 : decode cX2_state 12 = .ok (.putfield 18, 3) := by decide +kernel
theorem dX2_state_15 : decode cX2_state 15 = .ok (.return_, 1) := by decide +kernel
theorem dX2_isMetBy_0 : decode cX2_isMetBy 0 = .ok (.aload_n 0, 1) := by decide +kernel
theorem dX2_isMetBy_1 : decode cX2_isMetBy 1 = .ok (.getfield 15, 3) := by decide +kernel
theorem dX2_isMetBy_4 : decode cX2_isMetBy 4 = .ok (.tableswitch 168 0 7 #[48, 66, 84, 102, 120, 138, 156, 158], 48) := by decide +kernel
theorem dX2_isMetBy_52 : decode cX2_isMetBy 52 = .ok (.iload_n 1, 1) := by decide +kernel
theorem dX2_isMetBy_53 : decode cX2_isMetBy 53 = .ok (.ifCond .ne 15, 3) := by decide +kernel
theorem dX2_isMetBy_56 : decode cX2_isMetBy 56 = .ok (.iload_n 2, 1) := by decide +kernel
theorem dX2_isMetBy_57 : decode cX2_isMetBy 57 = .ok (.aload_n 0, 1) := by decide +kernel
theorem dX2_isMetBy_58 : decode cX2_isMetBy 58 = .ok (.getfield 18, 3) := by decide +kernel
theorem dX2_isMetBy_61 : decode cX2_isMetBy 61 = .ok (.if_icmp .ne 7, 3) := by decide +kernel
theorem dX2_isMetBy_64 : decode cX2_isMetBy 64 = .ok (.iconst 1, 1) := by decide +kernel
theorem dX2_isMetBy_65 : decode cX2_isMetBy 65 = .ok (.goto 4, 3) := by decide +kernel
theorem dX2_isMetBy_68 : decode cX2_isMetBy 68 = .ok (.iconst 0, 1) := by decide +kernel
theorem dX2_isMetBy_69 : decode cX2_isMetBy 69 = .ok (.ireturn, 1) := by decide +kernel
theorem dX2_isMetBy_70 : decode cX2_isMetBy 70 = .ok (.iload_n 1, 1) := by decide +kernel
theorem dX2_isMetBy_71 : decode cX2_isMetBy 71 = .ok (.ifCond .ne 15, 3) := by decide +kernel
theorem dX2_isMetBy_74 : decode cX2_isMetBy 74 = .ok (.iload_n 2, 1) := by decide +kernel
theorem dX2_isMetBy_75 : decode cX2_isMetBy 75 = .ok (.aload_n 0, 1) := by decide +kernel
theorem dX2_isMetBy_76 : decode cX2_isMetBy 76 = .ok (.getfield 18, 3) := by decide +kernel
theorem dX2_isMetBy_79 : decode cX2_isMetBy 79 = .ok (.if_icmp .eq 7, 3) := by decide +kernel
theorem dX2_isMetBy_82 : decode cX2_isMetBy 82 = .ok (.iconst 1, 1) := by decide +kernel
theorem dX2_isMetBy_83 : decode cX2_isMetBy 83 = .ok (.goto 4, 3) := by decide +kernel
theorem dX2_isMetBy_86 : decode cX2_isMetBy 86 = .ok (.iconst 0, 1) := by decide +kernel
theorem dX2_isMetBy_87 : decode cX2_isMetBy 87 = .ok (.ireturn, 1) := by decide +kernel
theorem dX2_isMetBy_88 : decode cX2_isMetBy 88 = .ok (.iload_n 1, 1) := by decide +kernel
theorem dX2_isMetBy_89 : decode cX2_isMetBy 89 = .ok (.ifCond .ne 15, 3) := by decide +kernel
theorem dX2_isMetBy_92 : decode cX2_isMetBy 92 = .ok (.iload_n 2, 1) := by decide +kernel
theorem dX2_isMetBy_93 : decode cX2_isMetBy 93 = .ok (.aload_n 0, 1) := by decide +kernel
theorem dX2_isMetBy_94 : decode cX2_isMetBy 94 = .ok (.getfield 18, 3) := by decide +kernel
theorem dX2_isMetBy_97 : decode cX2_isMetBy 97 = .ok (.if_icmp .ge 7, 3) := by decide +kernel
theorem dX2_isMetBy_100 : decode cX2_isMetBy 100 = .ok (.iconst 1, 1) := by decide +kernel
theorem dX2_isMetBy_101 : decode cX2_isMetBy 101 = .ok (.goto 4, 3) := by decide +kernel
theorem dX2_isMetBy_104 : decode cX2_isMetBy 104 = .ok (.iconst 0, 1) := by decide +kernel
theorem dX2_isMetBy_105 : decode cX2_isMetBy 105 = .ok (.ireturn, 1) := by decide +kernel
theorem dX2_isMetBy_106 : decode cX2_isMetBy 106 = .ok (.iload_n 1, 1) := by decide +kernel
theorem dX2_isMetBy_107 : decode cX2_isMetBy 107 = .ok (.ifCond .ne 15, 3) := by decide +kernel
theorem dX2_isMetBy_110 : decode cX2_isMetBy 110 = .ok (.iload_n 2, 1) := by decide +kernel
theorem dX2_isMetBy_111 : decode cX2_isMetBy 111 = .ok (.aload_n 0, 1) := by decide +kernel
theorem dX2_isMetBy_112 : decode cX2_isMetBy 112 = .ok (.getfield 18, 3) := by decide +kernel
theorem dX2_isMetBy_115 : decode cX2_isMetBy 115 = .ok (.if_icmp .gt 7, 3) := by decide +kernel
theorem dX2_isMetBy_118 : decode cX2_isMetBy 118 = .ok (.iconst 1, 1) := by decide +kernel
theorem dX2_isMetBy_119 : decode cX2_isMetBy 119 = .ok (.goto 4, 3) := by decide +kernel
theorem dX2_isMetBy_122 : decode cX2_isMetBy 122 = .ok (.iconst 0, 1) := by decide +kernel
theorem dX2_isMetBy_123 : decode cX2_isMetBy 123 = .ok (.ireturn, 1) := by decide +kernel
theorem dX2_isMetBy_124 : decode cX2_isMetBy 124 = .ok (.iload_n 1, 1) := by decide +kernel
theorem dX2_isMetBy_125 : decode cX2_isMetBy 125 = .ok (.ifCond .ne 15, 3) := by decide +kernel
theorem dX2_isMetBy_128 : decode cX2_isMetBy 128 = .ok (.iload_n 2, 1) := by decide +kernel
theorem dX2_isMetBy_129 : decode cX2_isMetBy 129 = .ok (.aload_n 0, 1) := by decide +kernel
theorem dX2_isMetBy_130 : decode cX2_isMetBy 130 = .ok (.getfield 18, 3) := by decide +kernel
theorem dX2_isMetBy_133 : decode cX2_isMetBy 133 = .ok (.if_icmp .le 7, 3) := by decide +kernel
theorem dX2_isMetBy_136 : decode cX2_isMetBy 136 = .ok (.iconst 1, 1) := by decide +kernel
theorem dX2_isMetBy_137 : decode cX2_isMetBy 137 = .ok (.goto 4, 3) := by decide +kernel
theorem dX2_isMetBy_140 : decode cX2_isMetBy 140 = .ok (.iconst 0, 1) := by decide +kernel
theorem dX2_isMetBy_141 : decode cX2_isMetBy 141 = .ok (.ireturn, 1) := by decide +kernel
theorem dX2_isMetBy_142 : decode cX2_isMetBy 142 = .ok (.iload_n 1, 1) := by decide +kernel
theorem dX2_isMetBy_143 : decode cX2_isMetBy 143 = .ok (.ifCond .ne 15, 3) := by decide +kernel
theorem dX2_isMetBy_146 : decode cX2_isMetBy 146 = .ok (.iload_n 2, 1) := by decide +kernel
theorem dX2_isMetBy_147 : decode cX2_isMetBy 147 = .ok (.aload_n 0, 1) := by decide +kernel
theorem dX2_isMetBy_148 : decode cX2_isMetBy 148 = .ok (.getfield 18, 3) := by decide +kernel
theorem dX2_isMetBy_151 : decode cX2_isMetBy 151 = .ok (.if_icmp .lt 7, 3) := by decide +kernel
theorem dX2_isMetBy_154 : decode cX2_isMetBy 154 = .ok (.iconst 1, 1) := by decide +kernel
theorem dX2_isMetBy_155 : decode cX2_isMetBy 155 = .ok (.goto 4, 3) := by decide +kernel
theorem dX2_isMetBy_158 : decode cX2_isMetBy 158 = .ok (.iconst 0, 1) := by decide +kernel
theorem dX2_isMetBy_159 : decode cX2_isMetBy 159 = .ok (.ireturn, 1) := by decide +kernel
theorem dX2_isMetBy_160 : decode cX2_isMetBy 160 = .ok (.iload_n 1, 1) := by decide +kernel
theorem dX2_isMetBy_161 : decode cX2_isMetBy 161 = .ok (.ireturn, 1) := by decide +kernel
theorem dX2_isMetBy_162 : decode cX2_isMetBy 162 = .ok (.iload_n 1, 1) := by decide +kernel
theorem dX2_isMetBy_163 : decode cX2_isMetBy 163 = .ok (.ifCond .ne 7, 3) := by decide +kernel
theorem dX2_isMetBy_166 : decode cX2_isMetBy 166 = .ok (.iconst 1, 1) := by decide +kernel
theorem dX2_isMetBy_167 : decode cX2_isMetBy 167 = .ok (.goto 4, 3) := by decide +kernel
theorem dX2_isMetBy_170 : decode cX2_isMetBy 170 = .ok (.iconst 0, 1) := by decide +kernel
theorem dX2_isMetBy_171 : decode cX2_isMetBy 171 = .ok (.ireturn, 1) := by decide +kernel
theorem dX2_isMetBy_172 : decode cX2_isMetBy 172 = .ok (.iconst 0, 1) := by decide +kernel
theorem dX2_isMetBy_173 : decode cX2_isMetBy 173 = .ok (.ireturn, 1) := by decide +kernel
theorem dX2_isMetByNone_0 : decode cX2_isMetByNone 0 = .ok (.aload_n 1, 1) := by decide +kernel
theorem dX2_isMetByNone_1 : decode cX2_isMetByNone 1 = .ok (.getfield 21, 3) := by decide +kernel
theorem dX2_isMetByNone_4 : decode cX2_isMetByNone 4 = .ok (.aload_n 1, 1) := by decide +kernel
theorem dX2_isMetByNone_5 : decode cX2_isMetByNone 5 = .ok (.getfield 26, 3) := by decide +kernel
theorem dX2_isMetByNone_8 : decode cX2_isMetByNone 8 = .ok (.if_icmp .ne 7, 3) := by decide +kernel
theorem dX2_isMetByNone_11 : decode cX2_isMetByNone 11 = .ok (.iconst 1, 1) := by decide +kernel
theorem dX2_isMetByNone_12 : decode cX2_isMetByNone 12 = .ok (.goto 4, 3) := by decide +kernel
theorem dX2_isMetByNone_15 : decode cX2_isMetByNone 15 = .ok (.iconst 0, 1) := by decide +kernel
theorem dX2_isMetByNone_16 : decode cX2_isMetByNone 16 = .ok (.istore_n 2, 1) := by decide +kernel
theorem dX2_isMetByNone_17 : decode cX2_isMetByNone 17 = .ok (.aload_n 0, 1) := by decide +kernel
theorem dX2_isMetByNone_18 : decode cX2_isMetByNone 18 = .ok (.getfield 15, 3) := by decide +kernel
theorem dX2_isMetByNone_21 : decode cX2_isMetByNone 21 = .ok (.tableswitch 210 0 7 #[47, 79, 111, 132, 153, 174, 195, 208], 47) := by decide +kernel
theorem dX2_isMetByNone_68 : decode cX2_isMetByNone 68 = .ok (.iload_n 2, 1) := by decide +kernel
theorem dX2_isMetByNone_69 : decode cX2_isMetByNone 69 = .ok (.ifCond .ne 25, 3) := by decide +kernel
theorem dX2_isMetByNone_72 : decode cX2_isMetByNone 72 = .ok (.aload_n 0, 1) := by decide +kernel
theorem dX2_isMetByNone_73 : decode cX2_isMetByNone 73 = .ok (.getfield 18, 3) := by decide +kernel
theorem dX2_isMetByNone_76 : decode cX2_isMetByNone 76 = .ok (.aload_n 1, 1) := by decide +kernel
theorem dX2_isMetByNone_77 : decode cX2_isMetByNone 77 = .ok (.getfield 29, 3) := by decide +kernel
theorem dX2_isMetByNone_80 : decode cX2_isMetByNone 80 = .ok (.if_icmp .lt 14, 3) := by decide +kernel
theorem dX2_isMetByNone_83 : decode cX2_isMetByNone 83 = .ok (.aload_n 0, 1) := by decide +kernel
theorem dX2_isMetByNone_84 : decode cX2_isMetByNone 84 = .ok (.getfield 18, 3) := by decide +kernel
theorem dX2_isMetByNone_87 : decode cX2_isMetByNone 87 = .ok (.aload_n 1, 1) := by decide +kernel
theorem dX2_isMetByNone_88 : decode cX2_isMetByNone 88 = .ok (.getfield 32, 3) := by decide +kernel
theorem dX2_isMetByNone_91 : decode cX2_isMetByNone 91 = .ok (.if_icmp .le 7, 3) := by decide +kernel
theorem dX2_isMetByNone_94 : decode cX2_isMetByNone 94 = .ok (.iconst 1, 1) := by decide +kernel
theorem dX2_isMetByNone_95 : decode cX2_isMetByNone 95 = .ok (.goto 4, 3) := by decide +kernel
theorem dX2_isMetByNone_98 : decode cX2_isMetByNone 98 = .ok (.iconst 0, 1) := by decide +kernel
theorem dX2_isMetByNone_99 : decode cX2_isMetByNone 99 = .ok (.ireturn, 1) := by decide +kernel
theorem dX2_isMetByNone_100 : decode cX2_isMetByNone 100 = .ok (.iload_n 2, 1) := by decide +kernel
theorem dX2_isMetByNone_101 : decode cX2_isMetByNone 101 = .ok (.ifCond .ne 25, 3) := by decide +kernel
theorem dX2_isMetByNone_104 : decode cX2_isMetByNone 104 = .ok (.aload_n 1, 1) := by decide +kernel
theorem dX2_isMetByNone_105 : decode cX2_isMetByNone 105 = .ok (.getfield 29, 3) := by decide +kernel
theorem dX2_isMetByNone_108 : decode cX2_isMetByNone 108 = .ok (.aload_n 0, 1) := by decide +kernel
theorem dX2_isMetByNone_109 : decode cX2_isMetByNone 109 = .ok (.getfield 18, 3) := by decide +kernel
theorem dX2_isMetByNone_112 : decode cX2_isMetByNone 112 = .ok (.if_icmp .ne 18, 3) := by decide +kernel
theorem dX2_isMetByNone_115 : decode cX2_isMetByNone 115 = .ok (.aload_n 1, 1) := by decide +kernel
theorem dX2_isMetByNone_116 : decode cX2_isMetByNone 116 = .ok (.getfield 32, 3) := by decide +kernel
theorem dX2_isMetByNone_119 : decode cX2_isMetByNone 119 = .ok (.aload_n 0, 1) := by decide +kernel
theorem dX2_isMetByNone_120 : decode cX2_isMetByNone 120 = .ok (.getfield 18, 3) := by decide +kernel
theorem dX2_isMetByNone_123 : decode cX2_isMetByNone 123 = .ok (.if_icmp .ne 7, 3) := by decide +kernel
theorem dX2_isMetByNone_126 : decode cX2_isMetByNone 126 = .ok (.iconst 1, 1) := by decide +kernel
theorem dX2_isMetByNone_127 : decode cX2_isMetByNone 127 = .ok (.goto 4, 3) := by decide +kernel
theorem dX2_isMetByNone_130 : decode cX2_isMetByNone 130 = .ok (.iconst 0, 1) := by decide +kernel
theorem dX2_isMetByNone_131 : decode cX2_isMetByNone 131 = .ok (.ireturn, 1) := by decide +kernel
theorem dX2_isMetByNone_132 : decode cX2_isMetByNone 132 = .ok (.iload_n 2, 1) := by decide +kernel
theorem dX2_isMetByNone_133 : decode cX2_isMetByNone 133 = .ok (.ifCond .ne 14, 3) := by decide +kernel
theorem dX2_isMetByNone_136 : decode cX2_isMetByNone 136 = .ok (.aload_n 1, 1) := by decide +kernel
theorem dX2_isMetByNone_137 : decode cX2_isMetByNone 137 = .ok (.getfield 29, 3) := by decide +kernel
theorem dX2_isMetByNone_140 : decode cX2_isMetByNone 140 = .ok (.aload_n 0, 1) := by decide +kernel
theorem dX2_isMetByNone_141 : decode cX2_isMetByNone 141 = .ok (.getfield 18, 3) := by decide +kernel
theorem dX2_isMetByNone_144 : decode cX2_isMetByNone 144 = .ok (.if_icmp .lt 7, 3) := by decide +kernel
theorem dX2_isMetByNone_147 : decode cX2_isMetByNone 147 = .ok (.iconst 1, 1) := by decide +kernel
theorem dX2_isMetByNone_148 : decode cX2_isMetByNone 148 = .ok (.goto 4, 3) := by decide +kernel
theorem dX2_isMetByNone_151 : decode cX2_isMetByNone 151 = .ok (.iconst 0, 1) := by decide +kernel
theorem dX2_isMetByNone_152 : decode cX2_isMetByNone 152 = .ok (.ireturn, 1) := by decide +kernel
theorem dX2_isMetByNone_153 : decode cX2_isMetByNone 153 = .ok (.iload_n 2, 1) := by decide +kernel
theorem dX2_isMetByNone_154 : decode cX2_isMetByNone 154 = .ok (.ifCond .ne 14, 3) := by decide +kernel
theorem dX2_isMetByNone_157 : decode cX2_isMetByNone 157 = .ok (.aload_n 1, 1) := by decide +kernel
theorem dX2_isMetByNone_158 : decode cX2_isMetByNone 158 = .ok (.getfield 29, 3) := by decide +kernel
theorem dX2_isMetByNone_161 : decode cX2_isMetByNone 161 = .ok (.aload_n 0, 1) := by decide +kernel
theorem dX2_isMetByNone_162 : decode cX2_isMetByNone 162 = .ok (.getfield 18, 3) := by decide +kernel
theorem dX2_isMetByNone_165 : decode cX2_isMetByNone 165 = .ok (.if_icmp .le 7, 3) := by decide +kernel
theorem dX2_isMetByNone_168 : decode cX2_isMetByNone 168 = .ok (.iconst 1, 1) := by decide +kernel
theorem dX2_isMetByNone_169 : decode cX2_isMetByNone 169 = .ok (.goto 4, 3) := by decide +kernel
theorem dX2_isMetByNone_172 : decode cX2_isMetByNone 172 = .ok (.iconst 0, 1) := by decide +kernel
theorem dX2_isMetByNone_173 : decode cX2_isMetByNone 173 = .ok (.ireturn, 1) := by decide +kernel
theorem dX2_isMetByNone_174 : decode cX2_isMetByNone 174 = .ok (.iload_n 2, 1) := by decide +kernel
theorem dX2_isMetByNone_175 : decode cX2_isMetByNone 175 = .ok (.ifCond .ne 14, 3) := by decide +kernel
theorem dX2_isMetByNone_178 : decode cX2_isMetByNone 178 = .ok (.aload_n 1, 1) := by decide +kernel
theorem dX2_isMetByNone_179 : decode cX2_isMetByNone 179 = .ok (.getfield 32, 3) := by decide +kernel
theorem dX2_isMetByNone_182 : decode cX2_isMetByNone 182 = .ok (.aload_n 0, 1) := by decide +kernel
theorem dX2_isMetByNone_183 : decode cX2_isMetByNone 183 = .ok (.getfield 18, 3) := by decide +kernel
theorem dX2_isMetByNone_186 : decode cX2_isMetByNone 186 = .ok (.if_icmp .gt 7, 3) := by decide +kernel
theorem dX2_isMetByNone_189 : decode cX2_isMetByNone 189 = .ok (.iconst 1, 1) := by decide +kernel
theorem dX2_isMetByNone_190 : decode cX2_isMetByNone 190 = .ok (.goto 4, 3) := by decide +kernel
theorem dX2_isMetByNone_193 : decode cX2_isMetByNone 193 = .ok (.iconst 0, 1) := by decide +kernel
theorem dX2_isMetByNone_194 : decode cX2_isMetByNone 194 = .ok (.ireturn, 1) := by decide +kernel
theorem dX2_isMetByNone_195 : decode cX2_isMetByNone 195 = .ok (.iload_n 2, 1) := by decide +kernel
theorem dX2_isMetByNone_196 : decode cX2_isMetByNone 196 = .ok (.ifCond .ne 14, 3) := by decide +kernel
theorem dX2_isMetByNone_199 : decode cX2_isMetByNone 199 = .ok (.aload_n 1, 1) := by decide +kernel
theorem dX2_isMetByNone_200 : decode cX2_isMetByNone 200 = .ok (.getfield 32, 3) := by decide +kernel
theorem dX2_isMetByNone_203 : decode cX2_isMetByNone 203 = .ok (.aload_n 0, 1) := by decide +kernel
theorem dX2_isMetByNone_204 : decode cX2_isMetByNone 204 = .ok (.getfield 18, 3) := by decide +kernel
theorem dX2_isMetByNone_207 : decode cX2_isMetByNone 207 = .ok (.if_icmp .ge 7, 3) := by decide +kernel
theorem dX2_isMetByNone_210 : decode cX2_isMetByNone 210 = .ok (.iconst 1, 1) := by decide +kernel
theorem dX2_isMetByNone_211 : decode cX2_isMetByNone 211 = .ok (.goto 4, 3) := by decide +kernel
theorem dX2_isMetByNone_214 : decode cX2_isMetByNone 214 = .ok (.iconst 0, 1) := by decide +kernel
theorem dX2_isMetByNone_215 : decode cX2_isMetByNone 215 = .ok (.ireturn, 1) := by decide +kernel
theorem dX2_isMetByNone_216 : decode cX2_isMetByNone 216 = .ok (.aload_n 1, 1) := by decide +kernel
theorem dX2_isMetByNone_217 : decode cX2_isMetByNone 217 = .ok (.getfield 21, 3) := by decide +kernel
theorem dX2_isMetByNone_220 : decode cX2_isMetByNone 220 = .ok (.ifCond .ne 7, 3) := by decide +kernel
theorem dX2_isMetByNone_223 : decode cX2_isMetByNone 223 = .ok (.iconst 1, 1) := by decide +kernel
theorem dX2_isMetByNone_224 : decode cX2_isMetByNone 224 = .ok (.goto 4, 3) := by decide +kernel
theorem dX2_isMetByNone_227 : decode cX2_isMetByNone 227 = .ok (.iconst 0, 1) := by decide +kernel
theorem dX2_isMetByNone_228 : decode cX2_isMetByNone 228 = .ok (.ireturn, 1) := by decide +kernel
theorem dX2_isMetByNone_229 : decode cX2_isMetByNone 229 = .ok (.iload_n 2, 1) := by decide +kernel
theorem dX2_isMetByNone_230 : decode cX2_isMetByNone 230 = .ok (.ireturn, 1) := by decide +kernel
theorem dX2_isMetByNone_231 : decode cX2_isMetByNone 231 = .ok (.iconst 1, 1) := by decide +kernel
theorem dX2_isMetByNone_232 : decode cX2_isMetByNone 232 = .ok (.ireturn, 1) := by decide +kernel
theorem dX2_isMetByAll_0 : decode cX2_isMetByAll 0 = .ok (.aload_n 1, 1) := by decide +kernel
theorem dX2_isMetByAll_1 : decode cX2_isMetByAll 1 = .ok (.getfield 21, 3) := by decide +kernel
theorem dX2_isMetByAll_4 : decode cX2_isMetByAll 4 = .ok (.ifCond .ne 7, 3) := by decide +kernel
theorem dX2_isMetByAll_7 : decode cX2_isMetByAll 7 = .ok (.iconst 1, 1) := by decide +kernel
theorem dX2_isMetByAll_8 : decode cX2_isMetByAll 8 = .ok (.goto 4, 3) := by decide +kernel
theorem dX2_isMetByAll_11 : decode cX2_isMetByAll 11 = .ok (.iconst 0, 1) := by decide +kernel
theorem dX2_isMetByAll_12 : decode cX2_isMetByAll 12 = .ok (.istore_n 2, 1) := by decide +kernel
theorem dX2_isMetByAll_13 : decode cX2_isMetByAll 13 = .ok (.aload_n 0, 1) := by decide +kernel
theorem dX2_isMetByAll_14 : decode cX2_isMetByAll 14 = .ok (.getfield 15, 3) := by decide +kernel
theorem dX2_isMetByAll_17 : decode cX2_isMetByAll 17 = .ok (.tableswitch 214 0 7 #[47, 79, 111, 132, 153, 174, 195, 212], 47) := by decide +kernel
theorem dX2_isMetByAll_64 : decode cX2_isMetByAll 64 = .ok (.iload_n 2, 1) := by decide +kernel
theorem dX2_isMetByAll_65 : decode cX2_isMetByAll 65 = .ok (.ifCond .eq 29, 3) := by decide +kernel
theorem dX2_isMetByAll_68 : decode cX2_isMetByAll 68 = .ok (.aload_n 1, 1) := by decide +kernel
theorem dX2_isMetByAll_69 : decode cX2_isMetByAll 69 = .ok (.getfield 29, 3) := by decide +kernel
theorem dX2_isMetByAll_72 : decode cX2_isMetByAll 72 = .ok (.aload_n 0, 1) := by decide +kernel
theorem dX2_isMetByAll_73 : decode cX2_isMetByAll 73 = .ok (.getfield 18, 3) := by decide +kernel
theorem dX2_isMetByAll_76 : decode cX2_isMetByAll 76 = .ok (.if_icmp .ne 18, 3) := by decide +kernel
theorem dX2_isMetByAll_79 : decode cX2_isMetByAll 79 = .ok (.aload_n 1, 1) := by decide +kernel
theorem dX2_isMetByAll_80 : decode cX2_isMetByAll 80 = .ok (.getfield 32, 3) := by decide +kernel
theorem dX2_isMetByAll_83 : decode cX2_isMetByAll 83 = .ok (.aload_n 0, 1) := by decide +kernel
theorem dX2_isMetByAll_84 : decode cX2_isMetByAll 84 = .ok (.getfield 18, 3) := by decide +kernel
theorem dX2_isMetByAll_87 : decode cX2_isMetByAll 87 = .ok (.if_icmp .ne 7, 3) := by decide +kernel
theorem dX2_isMetByAll_90 : decode cX2_isMetByAll 90 = .ok (.iconst 1, 1) := by decide +kernel
theorem dX2_isMetByAll_91 : decode cX2_isMetByAll 91 = .ok (.goto 4, 3) := by decide +kernel
theorem dX2_isMetByAll_94 : decode cX2_isMetByAll 94 = .ok (.iconst 0, 1) := by decide +kernel
theorem dX2_isMetByAll_95 : decode cX2_isMetByAll 95 = .ok (.ireturn, 1) := by decide +kernel
theorem dX2_isMetByAll_96 : decode cX2_isMetByAll 96 = .ok (.iload_n 2, 1) := by decide +kernel
theorem dX2_isMetByAll_97 : decode cX2_isMetByAll 97 = .ok (.ifCond .eq 29, 3) := by decide +kernel
theorem dX2_isMetByAll_100 : decode cX2_isMetByAll 100 = .ok (.aload_n 0, 1) := by decide +kernel
theorem dX2_isMetByAll_101 : decode cX2_isMetByAll 101 = .ok (.getfield 18, 3) := by decide +kernel
theorem dX2_isMetByAll_104 : decode cX2_isMetByAll 104 = .ok (.aload_n 1, 1) := by decide +kernel
theorem dX2_isMetByAll_105 : decode cX2_isMetByAll 105 = .ok (.getfield 29, 3) := by decide +kernel
theorem dX2_isMetByAll_108 : decode cX2_isMetByAll 108 = .ok (.if_icmp .lt 14, 3) := by decide +kernel
theorem dX2_isMetByAll_111 : decode cX2_isMetByAll 111 = .ok (.aload_n 0, 1) := by decide +kernel
theorem dX2_isMetByAll_112 : decode cX2_isMetByAll 112 = .ok (.getfield 18, 3) := by decide +kernel
theorem dX2_isMetByAll_115 : decode cX2_isMetByAll 115 = .ok (.aload_n 1, 1) := by decide +kernel
theorem dX2_isMetByAll_116 : decode cX2_isMetByAll 116 = .ok (.getfield 32, 3) := by decide +kernel
theorem dX2_isMetByAll_119 : decode cX2_isMetByAll 119 = .ok (.if_icmp .le 7, 3) := by decide +kernel
theorem dX2_isMetByAll_122 : decode cX2_isMetByAll 122 = .ok (.iconst 1, 1) := by decide +kernel
theorem dX2_isMetByAll_123 : decode cX2_isMetByAll 123 = .ok (.goto 4, 3) := by decide +kernel
theorem dX2_isMetByAll_126 : decode cX2_isMetByAll 126 = .ok (.iconst 0, 1) := by decide +kernel
theorem dX2_isMetByAll_127 : decode cX2_isMetByAll 127 = .ok (.ireturn, 1) := by decide +kernel
theorem dX2_isMetByAll_128 : decode cX2_isMetByAll 128 = .ok (.iload_n 2, 1) := by decide +kernel
theorem dX2_isMetByAll_129 : decode cX2_isMetByAll 129 = .ok (.ifCond .eq 18, 3) := by decide +kernel
theorem dX2_isMetByAll_132 : decode cX2_isMetByAll 132 = .ok (.aload_n 1, 1) := by decide +kernel
theorem dX2_isMetByAll_133 : decode cX2_isMetByAll 133 = .ok (.getfield 32, 3) := by decide +kernel
theorem dX2_isMetByAll_136 : decode cX2_isMetByAll 136 = .ok (.aload_n 0, 1) := by decide +kernel
theorem dX2_isMetByAll_137 : decode cX2_isMetByAll 137 = .ok (.getfield 18, 3) := by decide +kernel
theorem dX2_isMetByAll_140 : decode cX2_isMetByAll 140 = .ok (.if_icmp .ge 7, 3) := by decide +kernel
theorem dX2_isMetByAll_143 : decode cX2_isMetByAll 143 = .ok (.iconst 1, 1) := by decide +kernel
theorem dX2_isMetByAll_144 : decode cX2_isMetByAll 144 = .ok (.goto 4, 3) := by decide +kernel
theorem dX2_isMetByAll_147 : decode cX2_isMetByAll 147 = .ok (.iconst 0, 1) := by decide +kernel
theorem dX2_isMetByAll_148 : decode cX2_isMetByAll 148 = .ok (.ireturn, 1) := by decide +kernel
theorem dX2_isMetByAll_149 : decode cX2_isMetByAll 149 = .ok (.iload_n 2, 1) := by decide +kernel
theorem dX2_isMetByAll_150 : decode cX2_isMetByAll 150 = .ok (.ifCond .eq 18, 3) := by decide +kernel
theorem dX2_isMetByAll_153 : decode cX2_isMetByAll 153 = .ok (.aload_n 1, 1) := by decide +kernel
theorem dX2_isMetByAll_154 : decode cX2_isMetByAll 154 = .ok (.getfield 32, 3) := by decide +kernel
theorem dX2_isMetByAll_157 : decode cX2_isMetByAll 157 = .ok (.aload_n 0, 1) := by decide +kernel
theorem dX2_isMetByAll_158 : decode cX2_isMetByAll 158 = .ok (.getfield 18, 3) := by decide +kernel
theorem dX2_isMetByAll_161 : decode cX2_isMetByAll 161 = .ok (.if_icmp .gt 7, 3) := by decide +kernel
theorem dX2_isMetByAll_164 : decode cX2_isMetByAll 164 = .ok (.iconst 1, 1) := by decide +kernel
theorem dX2_isMetByAll_165 : decode cX2_isMetByAll 165 = .ok (.goto 4, 3) := by decide +kernel
theorem dX2_isMetByAll_168 : decode cX2_isMetByAll 168 = .ok (.iconst 0, 1) := by decide +kernel
theorem dX2_isMetByAll_169 : decode cX2_isMetByAll 169 = .ok (.ireturn, 1) := by decide +kernel
theorem dX2_isMetByAll_170 : decode cX2_isMetByAll 170 = .ok (.iload_n 2, 1) := by decide +kernel
theorem dX2_isMetByAll_171 : decode cX2_isMetByAll 171 = .ok (.ifCond .eq 18, 3) := by decide +kernel
theorem dX2_isMetByAll_174 : decode cX2_isMetByAll 174 = .ok (.aload_n 1, 1) := by decide +kernel
theorem dX2_isMetByAll_175 : decode cX2_isMetByAll 175 = .ok (.getfield 29, 3) := by decide +kernel
theorem dX2_isMetByAll_178 : decode cX2_isMetByAll 178 = .ok (.aload_n 0, 1) := by decide +kernel
theorem dX2_isMetByAll_179 : decode cX2_isMetByAll 179 = .ok (.getfield 18, 3) := by decide +kernel
theorem dX2_isMetByAll_182 : decode cX2_isMetByAll 182 = .ok (.if_icmp .le 7, 3) := by decide +kernel
theorem dX2_isMetByAll_185 : decode cX2_isMetByAll 185 = .ok (.iconst 1, 1) := by decide +kernel
theorem dX2_isMetByAll_186 : decode cX2_isMetByAll 186 = .ok (.goto 4, 3) := by decide +kernel
theorem dX2_isMetByAll_189 : decode cX2_isMetByAll 189 = .ok (.iconst 0, 1) := by decide +kernel
theorem dX2_isMetByAll_190 : decode cX2_isMetByAll 190 = .ok (.ireturn, 1) := by decide +kernel
theorem dX2_isMetByAll_191 : decode cX2_isMetByAll 191 = .ok (.iload_n 2, 1) := by decide +kernel
theorem dX2_isMetByAll_192 : decode cX2_isMetByAll 192 = .ok (.ifCond .eq 18, 3) := by decide +kernel
theorem dX2_isMetByAll_195 : decode cX2_isMetByAll 195 = .ok (.aload_n 1, 1) := by decide +kernel
theorem dX2_isMetByAll_196 : decode cX2_isMetByAll 196 = .ok (.getfield 29, 3) := by decide +kernel
theorem dX2_isMetByAll_199 : decode cX2_isMetByAll 199 = .ok (.aload_n 0, 1) := by decide +kernel
theorem dX2_isMetByAll_200 : decode cX2_isMetByAll 200 = .ok (.getfield 18, 3) := by decide +kernel
theorem dX2_isMetByAll_203 : decode cX2_isMetByAll 203 = .ok (.if_icmp .lt 7, 3) := by decide +kernel
theorem dX2_isMetByAll_206 : decode cX2_isMetByAll 206 = .ok (.iconst 1, 1) := by decide +kernel
theorem dX2_isMetByAll_207 : decode cX2_isMetByAll 207 = .ok (.goto 4, 3) := by decide +kernel
theorem dX2_isMetByAll_210 : decode cX2_isMetByAll 210 = .ok (.iconst 0, 1) := by decide +kernel
theorem dX2_isMetByAll_211 : decode cX2_isMetByAll 211 = .ok (.ireturn, 1) := by decide +kernel
theorem dX2_isMetByAll_212 : decode cX2_isMetByAll 212 = .ok (.aload_n 1, 1) := by decide +kernel
theorem dX2_isMetByAll_213 : decode cX2_isMetByAll 213 = .ok (.getfield 21, 3) := by decide +kernel
theorem dX2_isMetByAll_216 : decode cX2_isMetByAll 216 = .ok (.aload_n 1, 1) := by decide +kernel
theorem dX2_isMetByAll_217 : decode cX2_isMetByAll 217 = .ok (.getfield 26, 3) := by decide +kernel
theorem dX2_isMetByAll_220 : decode cX2_isMetByAll 220 = .ok (.if_icmp .ne 7, 3) := by decide +kernel
theorem dX2_isMetByAll_223 : decode cX2_isMetByAll 223 = .ok (.iconst 1, 1) := by decide +kernel
theorem dX2_isMetByAll_224 : decode cX2_isMetByAll 224 = .ok (.goto 4, 3) := by decide +kernel
theorem dX2_isMetByAll_227 : decode cX2_isMetByAll 227 = .ok (.iconst 0, 1) := by decide +kernel
theorem dX2_isMetByAll_228 : decode cX2_isMetByAll 228 = .ok (.ireturn, 1) := by decide +kernel
theorem dX2_isMetByAll_229 : decode cX2_isMetByAll 229 = .ok (.iload_n 2, 1) := by decide +kernel
theorem dX2_isMetByAll_230 : decode cX2_isMetByAll 230 = .ok (.ireturn, 1) := by decide +kernel
theorem dX2_isMetByAll_231 : decode cX2_isMetByAll 231 = .ok (.iconst 0, 1) := by decide +kernel
theorem dX2_isMetByAll_232 : decode cX2_isMetByAll 232 = .ok (.ireturn, 1) := by decide +kernel
theorem dX2_methodIn_0 : decode cX2_methodIn 0 = .ok (.aload_n 0, 1) := by decide +kernel
theorem dX2_methodIn_1 : decode cX2_methodIn 1 = .ok (.aload_n 1, 1) := by decide +kernel
theorem dX2_methodIn_2 : decode cX2_methodIn 2 = .ok (.invokevirtual 35, 3) := by decide +kernel
theorem dX2_methodIn_5 : decode cX2_methodIn 5 = .ok (.ifCond .eq 5, 3) := by decide +kernel
theorem dX2_methodIn_8 : decode cX2_methodIn 8 = .ok (.iconst 0, 1) := by decide +kernel
theorem dX2_methodIn_9 : decode cX2_methodIn 9 = .ok (.ireturn, 1) := by decide +kernel
theorem dX2_methodIn_10 : decode cX2_methodIn 10 = .ok (.aload_n 0, 1) := by decide +kernel
theorem dX2_methodIn_11 : decode cX2_methodIn 11 = .ok (.aload_n 1, 1) := by decide +kernel
theorem dX2_methodIn_12 : decode cX2_methodIn 12 = .ok (.invokevirtual 39, 3) := by decide +kernel
theorem dX2_methodIn_15 : decode cX2_methodIn 15 = .ok (.ifCond .eq 5, 3) := by decide +kernel
theorem dX2_methodIn_18 : decode cX2_methodIn 18 = .ok (.iconst 1, 1) := by decide +kernel
theorem dX2_methodIn_19 : decode cX2_methodIn 19 = .ok (.ireturn, 1) := by decide +kernel
theorem dX2_methodIn_20 : decode cX2_methodIn 20 = .ok (.iload_n 2, 1) := by decide +kernel
theorem dX2_methodIn_21 : decode cX2_methodIn 21 = .ok (.ifCond .eq 21, 3) := by decide +kernel
theorem dX2_methodIn_24 : decode cX2_methodIn 24 = .ok (.aload_n 1, 1) := by decide +kernel
theorem dX2_methodIn_25 : decode cX2_methodIn 25 = .ok (.invokevirtual 42, 3) := by decide +kernel
theorem dX2_methodIn_28 : decode cX2_methodIn 28 = .ok (.ifCond .eq 14, 3) := by decide +kernel
theorem dX2_methodIn_31 : decode cX2_methodIn 31 = .ok (.aload_n 0, 1) := by decide +kernel
theorem dX2_methodIn_32 : decode cX2_methodIn 32 = .ok (.getfield 15, 3) := by decide +kernel
theorem dX2_methodIn_35 : decode cX2_methodIn 35 = .ok (.bipush 6, 2) := by decide +kernel
theorem dX2_methodIn_37 : decode cX2_methodIn 37 = .ok (.if_icmp .ge 5, 3) := by decide +kernel
theorem dX2_methodIn_40 : decode cX2_methodIn 40 = .ok (.iconst 2, 1) := by decide +kernel
theorem dX2_methodIn_41 : decode cX2_methodIn 41 = .ok (.ireturn, 1) := by decide +kernel
theorem dX2_methodIn_42 : decode cX2_methodIn 42 = .ok (.aload_n 1, 1) := by decide +kernel
theorem dX2_methodIn_43 : decode cX2_methodIn 43 = .ok (.getfield 46, 3) := by decide +kernel
theorem dX2_methodIn_46 : decode cX2_methodIn 46 = .ok (.iconst 2, 1) := by decide +kernel
theorem dX2_methodIn_47 : decode cX2_methodIn 47 = .ok (.if_icmp .ne 5, 3) := by decide +kernel
theorem dX2_methodIn_50 : decode cX2_methodIn 50 = .ok (.iconst 3, 1) := by decide +kernel
theorem dX2_methodIn_51 : decode cX2_methodIn 51 = .ok (.ireturn, 1) := by decide +kernel
theorem dX2_methodIn_52 : decode cX2_methodIn 52 = .ok (.aload_n 1, 1) := by decide +kernel
theorem dX2_methodIn_53 : decode cX2_methodIn 53 = .ok (.getfield 46, 3) := by decide +kernel
theorem dX2_methodIn_56 : decode cX2_methodIn 56 = .ok (.iconst 3, 1) := by decide +kernel
theorem dX2_methodIn_57 : decode cX2_methodIn 57 = .ok (.if_icmp .ne 7, 3) := by decide +kernel
theorem dX2_methodIn_60 : decode cX2_methodIn 60 = .ok (.iconst 4, 1) := by decide +kernel
theorem dX2_methodIn_61 : decode cX2_methodIn 61 = .ok (.goto 4, 3) := by decide +kernel
theorem dX2_methodIn_64 : decode cX2_methodIn 64 = .ok (.iconst 5, 1) := by decide +kernel
theorem dX2_methodIn_65 : decode cX2_methodIn 65 = .ok (.ireturn, 1) := by decide +kernel
theorem dX2_guessIn_0 : decode cX2_guessIn 0 = .ok (.aload_n 0, 1) := by decide +kernel
theorem dX2_guessIn_1 : decode cX2_guessIn 1 = .ok (.aload_n 1, 1) := by decide +kernel
theorem dX2_guessIn_2 : decode cX2_guessIn 2 = .ok (.invokevirtual 35, 3) := by decide +kernel
theorem dX2_guessIn_5 : decode cX2_guessIn 5 = .ok (.ifCond .eq 5, 3) := by decide +kernel
theorem dX2_guessIn_8 : decode cX2_guessIn 8 = .ok (.iconst 0, 1) := by decide +kernel
theorem dX2_guessIn_9 : decode cX2_guessIn 9 = .ok (.ireturn, 1) := by decide +kernel
theorem dX2_guessIn_10 : decode cX2_guessIn 10 = .ok (.aload_n 0, 1) := by decide +kernel
theorem dX2_guessIn_11 : decode cX2_guessIn 11 = .ok (.aload_n 1, 1) := by decide +kernel
theorem dX2_guessIn_12 : decode cX2_guessIn 12 = .ok (.invokevirtual 39, 3) := by decide +kernel
theorem dX2_guessIn_15 : decode cX2_guessIn 15 = .ok (.ifCond .eq 8, 3) := by decide +kernel
theorem dX2_guessIn_18 : decode cX2_guessIn 18 = .ok (.aload_n 1, 1) := by decide +kernel
theorem dX2_guessIn_19 : decode cX2_guessIn 19 = .ok (.getfield 26, 3) := by decide +kernel
theorem dX2_guessIn_22 : decode cX2_guessIn 22 = .ok (.ireturn, 1) := by decide +kernel
theorem dX2_guessIn_23 : decode cX2_guessIn 23 = .ok (.aload_n 1, 1) := by decide +kernel
theorem dX2_guessIn_24 : decode cX2_guessIn 24 = .ok (.getfield 26, 3) := by decide +kernel
theorem dX2_guessIn_27 : decode cX2_guessIn 27 = .ok (.aload_n 1, 1) := by decide +kernel
theorem dX2_guessIn_28 : decode cX2_guessIn 28 = .ok (.getfield 21, 3) := by decide +kernel
theorem dX2_guessIn_31 : decode cX2_guessIn 31 = .ok (.isub, 1) := by decide +kernel
theorem dX2_guessIn_32 : decode cX2_guessIn 32 = .ok (.istore_n 2, 1) := by decide +kernel
theorem dX2_guessIn_33 : decode cX2_guessIn 33 = .ok (.aload_n 1, 1) := by decide +kernel
theorem dX2_guessIn_34 : decode cX2_guessIn 34 = .ok (.getfield 49, 3) := by decide +kernel
theorem dX2_guessIn_37 : decode cX2_guessIn 37 = .ok (.ifCond .ne 7, 3) := by decide +kernel
theorem dX2_guessIn_40 : decode cX2_guessIn 40 = .ok (.iconst 0, 1) := by decide +kernel
theorem dX2_guessIn_41 : decode cX2_guessIn 41 = .ok (.goto 9, 3) := by decide +kernel
theorem dX2_guessIn_44 : decode cX2_guessIn 44 = .ok (.iload_n 2, 1) := by decide +kernel
theorem dX2_guessIn_45 : decode cX2_guessIn 45 = .ok (.aload_n 1, 1) := by decide +kernel
theorem dX2_guessIn_46 : decode cX2_guessIn 46 = .ok (.getfield 49, 3) := by decide +kernel
theorem dX2_guessIn_49 : decode cX2_guessIn 49 = .ok (.idiv, 1) := by decide +kernel
theorem dX2_guessIn_50 : decode cX2_guessIn 50 = .ok (.istore_n 3, 1) := by decide +kernel
theorem dX2_guessIn_51 : decode cX2_guessIn 51 = .ok (.aload_n 0, 1) := by decide +kernel
theorem dX2_guessIn_52 : decode cX2_guessIn 52 = .ok (.getfield 15, 3) := by decide +kernel
theorem dX2_guessIn_55 : decode cX2_guessIn 55 = .ok (.tableswitch 92 0 7 #[45, 47, 51, 51, 68, 68, 85, 90], 45) := by decide +kernel
theorem dX2_guessIn_100 : decode cX2_guessIn 100 = .ok (.iload_n 3, 1) := by decide +kernel
theorem dX2_guessIn_101 : decode cX2_guessIn 101 = .ok (.ireturn, 1) := by decide +kernel
theorem dX2_guessIn_102 : decode cX2_guessIn 102 = .ok (.iload_n 2, 1) := by decide +kernel
theorem dX2_guessIn_103 : decode cX2_guessIn 103 = .ok (.iload_n 3, 1) := by decide +kernel
theorem dX2_guessIn_104 : decode cX2_guessIn 104 = .ok (.isub, 1) := by decide +kernel
theorem dX2_guessIn_105 : decode cX2_guessIn 105 = .ok (.ireturn, 1) := by decide +kernel
theorem dX2_guessIn_106 : decode cX2_guessIn 106 = .ok (.iload_n 2, 1) := by decide +kernel
theorem dX2_guessIn_107 : decode cX2_guessIn 107 = .ok (.aload_n 0, 1) := by decide +kernel
theorem dX2_guessIn_108 : decode cX2_guessIn 108 = .ok (.getfield 18, 3) := by decide +kernel
theorem dX2_guessIn_111 : decode cX2_guessIn 111 = .ok (.i2l, 1) := by decide +kernel
theorem dX2_guessIn_112 : decode cX2_guessIn 112 = .ok (.aload_n 1, 1) := by decide +kernel
theorem dX2_guessIn_113 : decode cX2_guessIn 113 = .ok (.getfield 29, 3) := by decide +kernel
theorem dX2_guessIn_116 : decode cX2_guessIn 116 = .ok (.i2l, 1) := by decide +kernel
theorem dX2_guessIn_117 : decode cX2_guessIn 117 = .ok (.lsub, 1) := by decide +kernel
theorem dX2_guessIn_118 : decode cX2_guessIn 118 = .ok (.aload_n 1, 1) := by decide +kernel
theorem dX2_guessIn_119 : decode cX2_guessIn 119 = .ok (.invokestatic 52, 3) := by decide +kernel
theorem dX2_guessIn_122 : decode cX2_guessIn 122 = .ok (.ireturn, 1) := by decide +kernel
theorem dX2_guessIn_123 : decode cX2_guessIn 123 = .ok (.iload_n 2, 1) := by decide +kernel
theorem dX2_guessIn_124 : decode cX2_guessIn 124 = .ok (.aload_n 1, 1) := by decide +kernel
theorem dX2_guessIn_125 : decode cX2_guessIn 125 = .ok (.getfield 32, 3) := by decide +kernel
theorem dX2_guessIn_128 : decode cX2_guessIn 128 = .ok (.i2l, 1) := by decide +kernel
theorem dX2_guessIn_129 : decode cX2_guessIn 129 = .ok (.aload_n 0, 1) := by decide +kernel
theorem dX2_guessIn_130 : decode cX2_guessIn 130 = .ok (.getfield 18, 3) := by decide +kernel
theorem dX2_guessIn_133 : decode cX2_guessIn 133 = .ok (.i2l, 1) := by decide +kernel
theorem dX2_guessIn_134 : decode cX2_guessIn 134 = .ok (.lsub, 1) := by decide +kernel
theorem dX2_guessIn_135 : decode cX2_guessIn 135 = .ok (.aload_n 1, 1) := by decide +kernel
theorem dX2_guessIn_136 : decode cX2_guessIn 136 = .ok (.invokestatic 52, 3) := by decide +kernel
theorem dX2_guessIn_139 : decode cX2_guessIn 139 = .ok (.ireturn, 1) := by decide +kernel
theorem dX2_guessIn_140 : decode cX2_guessIn 140 = .ok (.aload_n 1, 1) := by decide +kernel
theorem dX2_guessIn_141 : decode cX2_guessIn 141 = .ok (.getfield 21, 3) := by decide +kernel
theorem dX2_guessIn_144 : decode cX2_guessIn 144 = .ok (.ireturn, 1) := by decide +kernel
theorem dX2_guessIn_145 : decode cX2_guessIn 145 = .ok (.iload_n 2, 1) := by decide +kernel
theorem dX2_guessIn_146 : decode cX2_guessIn 146 = .ok (.ireturn, 1) := by decide +kernel
theorem dX2_guessIn_147 : decode cX2_guessIn 147 = .ok (.iconst 0, 1) := by decide +kernel
theorem dX2_guessIn_148 : decode cX2_guessIn 148 = .ok (.ireturn, 1) := by decide +kernel
theorem dX2_shareOf_0 : decode cX2_shareOf 0 = .ok (.aload_n 3, 1) := by decide +kernel
theorem dX2_shareOf_1 : decode cX2_shareOf 1 = .ok (.getfield 32, 3) := by decide +kernel
theorem dX2_shareOf_4 : decode cX2_shareOf 4 = .ok (.i2l, 1) := by decide +kernel
theorem dX2_shareOf_5 : decode cX2_shareOf 5 = .ok (.aload_n 3, 1) := by decide +kernel
theorem dX2_shareOf_6 : decode cX2_shareOf 6 = .ok (.getfield 29, 3) := by decide +kernel
theorem dX2_shareOf_9 : decode cX2_shareOf 9 = .ok (.i2l, 1) := by decide +kernel
theorem dX2_shareOf_10 : decode cX2_shareOf 10 = .ok (.lsub, 1) := by decide +kernel
theorem dX2_shareOf_11 : decode cX2_shareOf 11 = .ok (.lconst 1, 1) := by decide +kernel
theorem dX2_shareOf_12 : decode cX2_shareOf 12 = .ok (.ladd, 1) := by decide +kernel
theorem dX2_shareOf_13 : decode cX2_shareOf 13 = .ok (.lstore 4, 2) := by decide +kernel
theorem dX2_shareOf_15 : decode cX2_shareOf 15 = .ok (.lload 4, 2) := by decide +kernel
theorem dX2_shareOf_17 : decode cX2_shareOf 17 = .ok (.lconst 1, 1) := by decide +kernel
theorem dX2_shareOf_18 : decode cX2_shareOf 18 = .ok (.lcmp, 1) := by decide +kernel
theorem dX2_shareOf_19 : decode cX2_shareOf 19 = .ok (.ifCond .ge 7, 3) := by decide +kernel
theorem dX2_shareOf_22 : decode cX2_shareOf 22 = .ok (.iconst 0, 1) := by decide +kernel
theorem dX2_shareOf_23 : decode cX2_shareOf 23 = .ok (.goto 16, 3) := by decide +kernel
theorem dX2_shareOf_26 : decode cX2_shareOf 26 = .ok (.iload_n 0, 1) := by decide +kernel
theorem dX2_shareOf_27 : decode cX2_shareOf 27 = .ok (.i2l, 1) := by decide +kernel
theorem dX2_shareOf_28 : decode cX2_shareOf 28 = .ok (.iload_n 0, 1) := by decide +kernel
theorem dX2_shareOf_29 : decode cX2_shareOf 29 = .ok (.i2l, 1) := by decide +kernel
theorem dX2_shareOf_30 : decode cX2_shareOf 30 = .ok (.lload_n 1, 1) := by decide +kernel
theorem dX2_shareOf_31 : decode cX2_shareOf 31 = .ok (.lmul, 1) := by decide +kernel
theorem dX2_shareOf_32 : decode cX2_shareOf 32 = .ok (.lload 4, 2) := by decide +kernel
theorem dX2_shareOf_34 : decode cX2_shareOf 34 = .ok (.ldiv, 1) := by decide +kernel
theorem dX2_shareOf_35 : decode cX2_shareOf 35 = .ok (.invokestatic 56, 3) := by decide +kernel
theorem dX2_shareOf_38 : decode cX2_shareOf 38 = .ok (.l2i, 1) := by decide +kernel
theorem dX2_shareOf_39 : decode cX2_shareOf 39 = .ok (.ireturn, 1) := by decide +kernel
theorem dX3_init_0 : decode cX3_init 0 = .ok (.aload_n 0, 1) := by decide +kernel
theorem dX3_init_1 : decode cX3_init 1 = .ok (.invokespecial 3, 3) := by decide +kernel
theorem dX3_init_4 : decode cX3_init 4 = .ok (.aload_n 0, 1) := by decide +kernel
theorem dX3_init_5 : decode cX3_init 5 = .ok (.iconst 4, 1) := by decide +kernel
theorem dX3_init_6 : decode cX3_init 6 = .ok (.anewarray 9, 3) := by decide +kernel
theorem dX3_init_9 : decode cX3_init 9 = .ok (.putfield 11, 3) := by decide +kernel
theorem dX3_init_12 : decode cX3_init 12 = .ok (.iconst 0, 1) := by decide +kernel
theorem dX3_init_13 : decode cX3_init 13 = .ok (.istore_n 1, 1) := by decide +kernel
theorem dX3_init_14 : decode cX3_init 14 = .ok (.iload_n 1, 1) := by decide +kernel
theorem dX3_init_15 : decode cX3_init 15 = .ok (.iconst 4, 1) := by decide +kernel
theorem dX3_init_16 : decode cX3_init 16 = .ok (.if_icmp .ge 22, 3) := by decide +kernel
theorem dX3_init_19 : decode cX3_init 19 = .ok (.aload_n 0, 1) := by decide +kernel
theorem dX3_init_20 : decode cX3_init 20 = .ok (.getfield 11, 3) := by decide +kernel
theorem dX3_init_23 : decode cX3_init 23 = .ok (.iload_n 1, 1) := by decide +kernel
theorem dX3_init_24 : decode cX3_init 24 = .ok (.new 9, 3) := by decide +kernel
theorem dX3_init_27 : decode cX3_init 27 = .ok (.dup, 1) := by decide +kernel
theorem dX3_init_28 : decode cX3_init 28 = .ok (.invokespecial 17, 3) := by decide +kernel
theorem dX3_init_31 : decode cX3_init 31 = .ok (.aastore, 1) := by decide +kernel
theorem dX3_init_32 : decode cX3_init 32 = .ok (.iinc 1 1, 3) := by decide +kernel
theorem dX3_init_35 : decode cX3_init 35 = .ok (.goto (-21), 3) := by decide +kernel
theorem dX3_init_38 : decode cX3_init 38 = .ok (.return_, 1) := by decide +kernel
theorem dX3_state_0 : decode cX3_state 0 = .ok (.aload_n 0, 1) := by decide +kernel
theorem dX3_state_1 : decode cX3_state 1 = .ok (.getfield 18, 3) := by decide +kernel
theorem dX3_state_4 : decode cX3_state 4 = .ok (.iconst 4, 1) := by decide +kernel
theorem dX3_state_5 : decode cX3_state 5 = .ok (.if_icmp .ge 28, 3) := by decide +kernel
theorem dX3_state_8 : decode cX3_state 8 = .ok (.aload_n 0, 1) := by decide +kernel
theorem dX3_state_9 : decode cX3_state 9 = .ok (.getfield 11, 3) := by decide +kernel
theorem dX3_state_12 : decode cX3_state 12 = .ok (.aload_n 0, 1) := by decide +kernel
theorem dX3_state_13 : decode cX3_state 13 = .ok (.getfield 18, 3) := by decide +kernel
theorem dX3_state_16 : decode cX3_state 16 = .ok (.aaload, 1) := by decide +kernel
theorem dX3_state_17 : decode cX3_state 17 = .ok (.iload_n 1, 1) := by decide +kernel
theorem dX3_state_18 : decode cX3_state 18 = .ok (.iload_n 2, 1) := by decide +kernel
theorem dX3_state_19 : decode cX3_state 19 = .ok (.iload_n 3, 1) := by decide +kernel
theorem dX3_state_20 : decode cX3_state 20 = .ok (.invokevirtual 22, 3) := by decide +kernel
theorem dX3_state_23 : decode cX3_state 23 = .ok (.aload_n 0, 1) := by decide +kernel
theorem dX3_state_24 : decode cX3_state 24 = .ok (.dup, 1) := by decide +kernel
theorem dX3_state_25 : decode cX3_state 25 = .ok (.getfield 18, 3) := by decide +kernel
theorem dX3_state_28 : decode cX3_state 28 = .ok (.iconst 1, 1) := by decide +kernel
theorem dX3_state_29 : decode cX3_state 29 = .ok (.iadd, 1) := by decide +kernel
theorem dX3_state_30 : decode cX3_state 30 = .ok (.putfield 18, 3) := by decide +kernel
theorem dX3_state_33 : decode cX3_state 33 = .ok (.aload_n 0, 1) := by decide +kernel
theorem dX3_state_34 : decode cX3_state 34 = .ok (.getfield 18, 3) := by decide +kernel
theorem dX3_state_37 : decode cX3_state 37 = .ok (.ireturn, 1) := by decide +kernel
theorem dX4_init_0 : decode cX4_init 0 = .ok (.aload_n 0, 1) := by decide +kernel
theorem dX4_init_1 : decode cX4_init 1 = .ok (.invokespecial 3, 3) := by decide +kernel
theorem dX4_init_4 : decode cX4_init 4 = .ok (.aload_n 0, 1) := by decide +kernel
theorem dX4_init_5 : decode cX4_init 5 = .ok (.iconst 4, 1) := by decide +kernel
theorem dX4_init_6 : decode cX4_init 6 = .ok (.anewarray 9, 3) := by decide +kernel
theorem dX4_init_9 : decode cX4_init 9 = .ok (.putfield 11, 3) := by decide +kernel
theorem dX4_init_12 : decode cX4_init 12 = .ok (.aload_n 0, 1) := by decide +kernel
theorem dX4_init_13 : decode cX4_init 13 = .ok (.iconst 1, 1) := by decide +kernel
theorem dX4_init_14 : decode cX4_init 14 = .ok (.putfield 17, 3) := by decide +kernel
theorem dX4_init_17 : decode cX4_init 17 = .ok (.iconst 0, 1) := by decide +kernel
theorem dX4_init_18 : decode cX4_init 18 = .ok (.istore_n 1, 1) := by decide +kernel
theorem dX4_init_19 : decode cX4_init 19 = .ok (.iload_n 1, 1) := by decide +kernel
theorem dX4_init_20 : decode cX4_init 20 = .ok (.iconst 4, 1) := by decide +kernel
theorem dX4_init_21 : decode cX4_init 21 = .ok (.if_icmp .ge 22, 3) := by decide +kernel
theorem dX4_init_24 : decode cX4_init 24 = .ok (.aload_n 0, 1) := by decide +kernel
theorem dX4_init_25 : decode cX4_init 25 = .ok (.getfield 11, 3) := by decide +kernel
theorem dX4_init_28 : decode cX4_init 28 = .ok (.iload_n 1, 1) := by decide +kernel
theorem dX4_init_29 : decode cX4_init 29 = .ok (.new 9, 3) := by decide +kernel
theorem dX4_init_32 : decode cX4_init 32 = .ok (.dup, 1) := by decide +kernel
theorem dX4_init_33 : decode cX4_init 33 = .ok (.invokespecial 21, 3) := by decide +kernel
theorem dX4_init_36 : decode cX4_init 36 = .ok (.aastore, 1) := by decide +kernel
theorem dX4_init_37 : decode cX4_init 37 = .ok (.iinc 1 1, 3) := by decide +kernel
theorem dX4_init_40 : decode cX4_init 40 = .ok (.goto (-21), 3) := by decide +kernel
theorem dX4_init_43 : decode cX4_init 43 = .ok (.return_, 1) := by decide +kernel
theorem dX4_latest_0 : decode cX4_latest 0 = .ok (.aload_n 0, 1) := by decide +kernel
theorem dX4_latest_1 : decode cX4_latest 1 = .ok (.getfield 11, 3) := by decide +kernel
theorem dX4_latest_4 : decode cX4_latest 4 = .ok (.aload_n 0, 1) := by decide +kernel
theorem dX4_latest_5 : decode cX4_latest 5 = .ok (.getfield 17, 3) := by decide +kernel
theorem dX4_latest_8 : decode cX4_latest 8 = .ok (.iconst 1, 1) := by decide +kernel
theorem dX4_latest_9 : decode cX4_latest 9 = .ok (.isub, 1) := by decide +kernel
theorem dX4_latest_10 : decode cX4_latest 10 = .ok (.aaload, 1) := by decide +kernel
theorem dX4_latest_11 : decode cX4_latest 11 = .ok (.areturn, 1) := by decide +kernel
theorem dX4_begin_0 : decode cX4_begin 0 = .ok (.aload_n 0, 1) := by decide +kernel
theorem dX4_begin_1 : decode cX4_begin 1 = .ok (.getfield 17, 3) := by decide +kernel
theorem dX4_begin_4 : decode cX4_begin 4 = .ok (.iconst 4, 1) := by decide +kernel
theorem dX4_begin_5 : decode cX4_begin 5 = .ok (.if_icmp .ge 21, 3) := by decide +kernel
theorem dX4_begin_8 : decode cX4_begin 8 = .ok (.aload_n 0, 1) := by decide +kernel
theorem dX4_begin_9 : decode cX4_begin 9 = .ok (.dup, 1) := by decide +kernel
theorem dX4_begin_10 : decode cX4_begin 10 = .ok (.getfield 17, 3) := by decide +kernel
theorem dX4_begin_13 : decode cX4_begin 13 = .ok (.iconst 1, 1) := by decide +kernel
theorem dX4_begin_14 : decode cX4_begin 14 = .ok (.iadd, 1) := by decide +kernel
theorem dX4_begin_15 : decode cX4_begin 15 = .ok (.putfield 17, 3) := by decide +kernel
theorem dX4_begin_18 : decode cX4_begin 18 = .ok (.aload_n 0, 1) := by decide +kernel
theorem dX4_begin_19 : decode cX4_begin 19 = .ok (.invokevirtual 22, 3) := by decide +kernel
theorem dX4_begin_22 : decode cX4_begin 22 = .ok (.iconst 0, 1) := by decide +kernel
theorem dX4_begin_23 : decode cX4_begin 23 = .ok (.putfield 26, 3) := by decide +kernel
theorem dX4_begin_26 : decode cX4_begin 26 = .ok (.aload_n 0, 1) := by decide +kernel
theorem dX4_begin_27 : decode cX4_begin 27 = .ok (.getfield 17, 3) := by decide +kernel
theorem dX4_begin_30 : decode cX4_begin 30 = .ok (.iconst 1, 1) := by decide +kernel
theorem dX4_begin_31 : decode cX4_begin 31 = .ok (.isub, 1) := by decide +kernel
theorem dX4_begin_32 : decode cX4_begin 32 = .ok (.ireturn, 1) := by decide +kernel
theorem dX4_reset_0 : decode cX4_reset 0 = .ok (.aload_n 0, 1) := by decide +kernel
theorem dX4_reset_1 : decode cX4_reset 1 = .ok (.iconst 1, 1) := by decide +kernel
theorem dX4_reset_2 : decode cX4_reset 2 = .ok (.putfield 17, 3) := by decide +kernel
theorem dX4_reset_5 : decode cX4_reset 5 = .ok (.aload_n 0, 1) := by decide +kernel
theorem dX4_reset_6 : decode cX4_reset 6 = .ok (.invokevirtual 22, 3) := by decide +kernel
theorem dX4_reset_9 : decode cX4_reset 9 = .ok (.iconst 0, 1) := by decide +kernel
theorem dX4_reset_10 : decode cX4_reset 10 = .ok (.putfield 26, 3) := by decide +kernel
theorem dX4_reset_13 : decode cX4_reset 13 = .ok (.return_, 1) := by decide +kernel
theorem dX4_conditionCount_0 : decode cX4_conditionCount 0 = .ok (.iconst 0, 1) := by decide +kernel
theorem dX4_conditionCount_1 : decode cX4_conditionCount 1 = .ok (.istore_n 1, 1) := by decide +kernel
theorem dX4_conditionCount_2 : decode cX4_conditionCount 2 = .ok (.iconst 0, 1) := by decide +kernel
theorem dX4_conditionCount_3 : decode cX4_conditionCount 3 = .ok (.istore_n 2, 1) := by decide +kernel
theorem dX4_conditionCount_4 : decode cX4_conditionCount 4 = .ok (.iload_n 2, 1) := by decide +kernel
theorem dX4_conditionCount_5 : decode cX4_conditionCount 5 = .ok (.aload_n 0, 1) := by decide +kernel
theorem dX4_conditionCount_6 : decode cX4_conditionCount 6 = .ok (.getfield 17, 3) := by decide +kernel
theorem dX4_conditionCount_9 : decode cX4_conditionCount 9 = .ok (.if_icmp .ge 21, 3) := by decide +kernel
theorem dX4_conditionCount_12 : decode cX4_conditionCount 12 = .ok (.iload_n 1, 1) := by decide +kernel
theorem dX4_conditionCount_13 : decode cX4_conditionCount 13 = .ok (.aload_n 0, 1) := by decide +kernel
theorem dX4_conditionCount_14 : decode cX4_conditionCount 14 = .ok (.getfield 11, 3) := by decide +kernel
theorem dX4_conditionCount_17 : decode cX4_conditionCount 17 = .ok (.iload_n 2, 1) := by decide +kernel
theorem dX4_conditionCount_18 : decode cX4_conditionCount 18 = .ok (.aaload, 1) := by decide +kernel
theorem dX4_conditionCount_19 : decode cX4_conditionCount 19 = .ok (.getfield 26, 3) := by decide +kernel
theorem dX4_conditionCount_22 : decode cX4_conditionCount 22 = .ok (.iadd, 1) := by decide +kernel
theorem dX4_conditionCount_23 : decode cX4_conditionCount 23 = .ok (.istore_n 1, 1) := by decide +kernel
theorem dX4_conditionCount_24 : decode cX4_conditionCount 24 = .ok (.iinc 2 1, 3) := by decide +kernel
theorem dX4_conditionCount_27 : decode cX4_conditionCount 27 = .ok (.goto (-23), 3) := by decide +kernel
theorem dX4_conditionCount_30 : decode cX4_conditionCount 30 = .ok (.iload_n 1, 1) := by decide +kernel
theorem dX4_conditionCount_31 : decode cX4_conditionCount 31 = .ok (.ireturn, 1) := by decide +kernel
theorem dX5_init_0 : decode cX5_init 0 = .ok (.aload_n 0, 1) := by decide +kernel
theorem dX5_init_1 : decode cX5_init 1 = .ok (.invokespecial 3, 3) := by decide +kernel
theorem dX5_init_4 : decode cX5_init 4 = .ok (.aload_n 0, 1) := by decide +kernel
theorem dX5_init_5 : decode cX5_init 5 = .ok (.sipush 600, 3) := by decide +kernel
theorem dX5_init_8 : decode cX5_init 8 = .ok (.newarray .int, 2) := by decide +kernel
theorem dX5_init_10 : decode cX5_init 10 = .ok (.putfield 9, 3) := by decide +kernel
theorem dX5_init_13 : decode cX5_init 13 = .ok (.aload_n 0, 1) := by decide +kernel
theorem dX5_init_14 : decode cX5_init 14 = .ok (.sipush 600, 3) := by decide +kernel
theorem dX5_init_17 : decode cX5_init 17 = .ok (.newarray .int, 2) := by decide +kernel
theorem dX5_init_19 : decode cX5_init 19 = .ok (.putfield 15, 3) := by decide +kernel
theorem dX5_init_22 : decode cX5_init 22 = .ok (.aload_n 0, 1) := by decide +kernel
theorem dX5_init_23 : decode cX5_init 23 = .ok (.sipush 600, 3) := by decide +kernel
theorem dX5_init_26 : decode cX5_init 26 = .ok (.newarray .int, 2) := by decide +kernel
theorem dX5_init_28 : decode cX5_init 28 = .ok (.putfield 18, 3) := by decide +kernel
theorem dX5_init_31 : decode cX5_init 31 = .ok (.aload_n 0, 1) := by decide +kernel
theorem dX5_init_32 : decode cX5_init 32 = .ok (.sipush 601, 3) := by decide +kernel
theorem dX5_init_35 : decode cX5_init 35 = .ok (.newarray .int, 2) := by decide +kernel
theorem dX5_init_37 : decode cX5_init 37 = .ok (.putfield 21, 3) := by decide +kernel
theorem dX5_init_40 : decode cX5_init 40 = .ok (.return_, 1) := by decide +kernel
theorem dX5_take_0 : decode cX5_take 0 = .ok (.aload_n 1, 1) := by decide +kernel
theorem dX5_take_1 : decode cX5_take 1 = .ok (.iconst 0, 1) := by decide +kernel
theorem dX5_take_2 : decode cX5_take 2 = .ok (.aload_n 0, 1) := by decide +kernel
theorem dX5_take_3 : decode cX5_take 3 = .ok (.getfield 9, 3) := by decide +kernel
theorem dX5_take_6 : decode cX5_take 6 = .ok (.iconst 0, 1) := by decide +kernel
theorem dX5_take_7 : decode cX5_take 7 = .ok (.iload_n 2, 1) := by decide +kernel
theorem dX5_take_8 : decode cX5_take 8 = .ok (.invokestatic 24, 3) := by decide +kernel
theorem dX5_take_11 : decode cX5_take 11 = .ok (.aload_n 0, 1) := by decide +kernel
theorem dX5_take_12 : decode cX5_take 12 = .ok (.iload_n 2, 1) := by decide +kernel
theorem dX5_take_13 : decode cX5_take 13 = .ok (.putfield 30, 3) := by decide +kernel
theorem dX5_take_16 : decode cX5_take 16 = .ok (.return_, 1) := by decide +kernel
theorem dX5_keepRows_0 : decode cX5_keepRows 0 = .ok (.aload_n 0, 1) := by decide +kernel
theorem dX5_keepRows_1 : decode cX5_keepRows 1 = .ok (.getfield 9, 3) := by decide +kernel
theorem dX5_keepRows_4 : decode cX5_keepRows 4 = .ok (.iconst 0, 1) := by decide +kernel
theorem dX5_keepRows_5 : decode cX5_keepRows 5 = .ok (.aload_n 0, 1) := by decide +kernel
theorem dX5_keepRows_6 : decode cX5_keepRows 6 = .ok (.getfield 15, 3) := by decide +kernel
theorem dX5_keepRows_9 : decode cX5_keepRows 9 = .ok (.iconst 0, 1) := by decide +kernel
theorem dX5_keepRows_10 : decode cX5_keepRows 10 = .ok (.aload_n 0, 1) := by decide +kernel
theorem dX5_keepRows_11 : decode cX5_keepRows 11 = .ok (.getfield 30, 3) := by decide +kernel
theorem dX5_keepRows_14 : decode cX5_keepRows 14 = .ok (.invokestatic 24, 3) := by decide +kernel
theorem dX5_keepRows_17 : decode cX5_keepRows 17 = .ok (.aload_n 0, 1) := by decide +kernel
theorem dX5_keepRows_18 : decode cX5_keepRows 18 = .ok (.aload_n 0, 1) := by decide +kernel
theorem dX5_keepRows_19 : decode cX5_keepRows 19 = .ok (.getfield 30, 3) := by decide +kernel
theorem dX5_keepRows_22 : decode cX5_keepRows 22 = .ok (.putfield 34, 3) := by decide +kernel
theorem dX5_keepRows_25 : decode cX5_keepRows 25 = .ok (.aload_n 0, 1) := by decide +kernel
theorem dX5_keepRows_26 : decode cX5_keepRows 26 = .ok (.getfield 34, 3) := by decide +kernel
theorem dX5_keepRows_29 : decode cX5_keepRows 29 = .ok (.ireturn, 1) := by decide +kernel
theorem dX5_total_0 : decode cX5_total 0 = .ok (.lconst 0, 1) := by decide +kernel
theorem dX5_total_1 : decode cX5_total 1 = .ok (.lstore_n 2, 1) := by decide +kernel
theorem dX5_total_2 : decode cX5_total 2 = .ok (.iconst 0, 1) := by decide +kernel
theorem dX5_total_3 : decode cX5_total 3 = .ok (.istore 4, 2) := by decide +kernel
theorem dX5_total_5 : decode cX5_total 5 = .ok (.iload 4, 2) := by decide +kernel
theorem dX5_total_7 : decode cX5_total 7 = .ok (.aload_n 0, 1) := by decide +kernel
theorem dX5_total_8 : decode cX5_total 8 = .ok (.getfield 30, 3) := by decide +kernel
theorem dX5_total_11 : decode cX5_total 11 = .ok (.if_icmp .ge 25, 3) := by decide +kernel
theorem dX5_total_14 : decode cX5_total 14 = .ok (.lload_n 2, 1) := by decide +kernel
theorem dX5_total_15 : decode cX5_total 15 = .ok (.aload_n 1, 1) := by decide +kernel
theorem dX5_total_16 : decode cX5_total 16 = .ok (.getfield 37, 3) := by decide +kernel
theorem dX5_total_19 : decode cX5_total 19 = .ok (.aload_n 0, 1) := by decide +kernel
theorem dX5_total_20 : decode cX5_total 20 = .ok (.getfield 9, 3) := by decide +kernel
theorem dX5_total_23 : decode cX5_total 23 = .ok (.iload 4, 2) := by decide +kernel
theorem dX5_total_25 : decode cX5_total 25 = .ok (.iaload, 1) := by decide +kernel
theorem dX5_total_26 : decode cX5_total 26 = .ok (.iaload, 1) := by decide +kernel
theorem dX5_total_27 : decode cX5_total 27 = .ok (.i2l, 1) := by decide +kernel
theorem dX5_total_28 : decode cX5_total 28 = .ok (.ladd, 1) := by decide +kernel
theorem dX5_total_29 : decode cX5_total 29 = .ok (.lstore_n 2, 1) := by decide +kernel
theorem dX5_total_30 : decode cX5_total 30 = .ok (.iinc 4 1, 3) := by decide +kernel
theorem dX5_total_33 : decode cX5_total 33 = .ok (.goto (-28), 3) := by decide +kernel
theorem dX5_total_36 : decode cX5_total 36 = .ok (.lload_n 2, 1) := by decide +kernel
theorem dX5_total_37 : decode cX5_total 37 = .ok (.lreturn, 1) := by decide +kernel
theorem dX5_arrangeGroups_0 : decode cX5_arrangeGroups 0 = .ok (.aload_n 0, 1) := by decide +kernel
theorem dX5_arrangeGroups_1 : decode cX5_arrangeGroups 1 = .ok (.getfield 9, 3) := by decide +kernel
theorem dX5_arrangeGroups_4 : decode cX5_arrangeGroups 4 = .ok (.iconst 0, 1) := by decide +kernel
theorem dX5_arrangeGroups_5 : decode cX5_arrangeGroups 5 = .ok (.aload_n 0, 1) := by decide +kernel
theorem dX5_arrangeGroups_6 : decode cX5_arrangeGroups 6 = .ok (.getfield 18, 3) := by decide +kernel
theorem dX5_arrangeGroups_9 : decode cX5_arrangeGroups 9 = .ok (.iconst 0, 1) := by decide +kernel
theorem dX5_arrangeGroups_10 : decode cX5_arrangeGroups 10 = .ok (.aload_n 0, 1) := by decide +kernel
theorem dX5_arrangeGroups_11 : decode cX5_arrangeGroups 11 = .ok (.getfield 30, 3) := by decide +kernel
theorem dX5_arrangeGroups_14 : decode cX5_arrangeGroups 14 = .ok (.invokestatic 24, 3) := by decide +kernel
theorem dX5_arrangeGroups_17 : decode cX5_arrangeGroups 17 = .ok (.aload_n 2, 1) := by decide +kernel
theorem dX5_arrangeGroups_18 : decode cX5_arrangeGroups 18 = .ok (.aload_n 0, 1) := by decide +kernel
theorem dX5_arrangeGroups_19 : decode cX5_arrangeGroups 19 = .ok (.getfield 18, 3) := by decide +kernel
theorem dX5_arrangeGroups_22 : decode cX5_arrangeGroups 22 = .ok (.aload_n 0, 1) := by decide +kernel
theorem dX5_arrangeGroups_23 : decode cX5_arrangeGroups 23 = .ok (.getfield 30, 3) := by decide +kernel
theorem dX5_arrangeGroups_26 : decode cX5_arrangeGroups 26 = .ok (.aload_n 1, 1) := by decide +kernel
theorem dX5_arrangeGroups_27 : decode cX5_arrangeGroups 27 = .ok (.iconst 0, 1) := by decide +kernel
theorem dX5_arrangeGroups_28 : decode cX5_arrangeGroups 28 = .ok (.iconst 0, 1) := by decide +kernel
theorem dX5_arrangeGroups_29 : decode cX5_arrangeGroups 29 = .ok (.invokevirtual 50, 3) := by decide +kernel
theorem dX5_arrangeGroups_32 : decode cX5_arrangeGroups 32 = .ok (.aload_n 0, 1) := by decide +kernel
theorem dX5_arrangeGroups_33 : decode cX5_arrangeGroups 33 = .ok (.iconst 0, 1) := by decide +kernel
theorem dX5_arrangeGroups_34 : decode cX5_arrangeGroups 34 = .ok (.putfield 56, 3) := by decide +kernel
theorem dX5_arrangeGroups_37 : decode cX5_arrangeGroups 37 = .ok (.iconst 0, 1) := by decide +kernel
theorem dX5_arrangeGroups_38 : decode cX5_arrangeGroups 38 = .ok (.istore_n 3, 1) := by decide +kernel
theorem dX5_arrangeGroups_39 : decode cX5_arrangeGroups 39 = .ok (.iload_n 3, 1) := by decide +kernel
theorem dX5_arrangeGroups_40 : decode cX5_arrangeGroups 40 = .ok (.aload_n 0, 1) := by decide +kernel
theorem dX5_arrangeGroups_41 : decode cX5_arrangeGroups 41 = .ok (.getfield 30, 3) := by decide +kernel
theorem dX5_arrangeGroups_44 : decode cX5_arrangeGroups 44 = .ok (.if_icmp .ge 54, 3) := by decide +kernel
theorem dX5_arrangeGroups_47 : decode cX5_arrangeGroups 47 = .ok (.iload_n 3, 1) := by decide +kernel
theorem dX5_arrangeGroups_48 : decode cX5_arrangeGroups 48 = .ok (.ifCond .eq 24, 3) := by decide +kernel
theorem dX5_arrangeGroups_51 : decode cX5_arrangeGroups 51 = .ok (.aload_n 1, 1) := by decide +kernel
theorem dX5_arrangeGroups_52 : decode cX5_arrangeGroups 52 = .ok (.aload_n 0, 1) := by decide +kernel
theorem dX5_arrangeGroups_53 : decode cX5_arrangeGroups 53 = .ok (.getfield 18, 3) := by decide +kernel
theorem dX5_arrangeGroups_56 : decode cX5_arrangeGroups 56 = .ok (.iload_n 3, 1) := by decide +kernel
theorem dX5_arrangeGroups_57 : decode cX5_arrangeGroups 57 = .ok (.iconst 1, 1) := by decide +kernel
theorem dX5_arrangeGroups_58 : decode cX5_arrangeGroups 58 = .ok (.isub, 1) := by decide +kernel
theorem dX5_arrangeGroups_59 : decode cX5_arrangeGroups 59 = .ok (.iaload, 1) := by decide +kernel
theorem dX5_arrangeGroups_60 : decode cX5_arrangeGroups 60 = .ok (.aload_n 0, 1) := by decide +kernel
theorem dX5_arrangeGroups_61 : decode cX5_arrangeGroups 61 = .ok (.getfield 18, 3) := by decide +kernel
theorem dX5_arrangeGroups_64 : decode cX5_arrangeGroups 64 = .ok (.iload_n 3, 1) := by decide +kernel
theorem dX5_arrangeGroups_65 : decode cX5_arrangeGroups 65 = .ok (.iaload, 1) := by decide +kernel
theorem dX5_arrangeGroups_66 : decode cX5_arrangeGroups 66 = .ok (.invokevirtual 59, 3) := by decide +kernel
theorem dX5_arrangeGroups_69 : decode cX5_arrangeGroups 69 = .ok (.ifCond .ne 23, 3) := by decide +kernel
theorem dX5_arrangeGroups_72 : decode cX5_arrangeGroups 72 = .ok (.aload_n 0, 1) := by decide +kernel
theorem dX5_arrangeGroups_73 : decode cX5_arrangeGroups 73 = .ok (.getfield 21, 3) := by decide +kernel
theorem dX5_arrangeGroups_76 : decode cX5_arrangeGroups 76 = .ok (.aload_n 0, 1) := by decide +kernel
theorem dX5_arrangeGroups_77 : decode cX5_arrangeGroups 77 = .ok (.getfield 56, 3) := by decide +kernel
theorem dX5_arrangeGroups_80 : decode cX5_arrangeGroups 80 = .ok (.iload_n 3, 1) := by decide +kernel
theorem dX5_arrangeGroups_81 : decode cX5_arrangeGroups 81 = .ok (.iastore, 1) := by decide +kernel
theorem dX5_arrangeGroups_82 : decode cX5_arrangeGroups 82 = .ok (.aload_n 0, 1) := by decide +kernel
theorem dX5_arrangeGroups_83 : decode cX5_arrangeGroups 83 = .ok (.dup, 1) := by decide +kernel
theorem dX5_arrangeGroups_84 : decode cX5_arrangeGroups 84 = .ok (.getfield 56, 3) := by decide +kernel
theorem dX5_arrangeGroups_87 : decode cX5_arrangeGroups 87 = .ok (.iconst 1, 1) := by decide +kernel
theorem dX5_arrangeGroups_88 : decode cX5_arrangeGroups 88 = .ok (.iadd, 1) := by decide +kernel
theorem dX5_arrangeGroups_89 : decode cX5_arrangeGroups 89 = .ok (.putfield 56, 3) := by decide +kernel
theorem dX5_arrangeGroups_92 : decode cX5_arrangeGroups 92 = .ok (.iinc 3 1, 3) := by decide +kernel
theorem dX5_arrangeGroups_95 : decode cX5_arrangeGroups 95 = .ok (.goto (-56), 3) := by decide +kernel
theorem dX5_arrangeGroups_98 : decode cX5_arrangeGroups 98 = .ok (.aload_n 0, 1) := by decide +kernel
theorem dX5_arrangeGroups_99 : decode cX5_arrangeGroups 99 = .ok (.getfield 21, 3) := by decide +kernel
theorem dX5_arrangeGroups_102 : decode cX5_arrangeGroups 102 = .ok (.aload_n 0, 1) := by decide +kernel
theorem dX5_arrangeGroups_103 : decode cX5_arrangeGroups 103 = .ok (.getfield 56, 3) := by decide +kernel
theorem dX5_arrangeGroups_106 : decode cX5_arrangeGroups 106 = .ok (.aload_n 0, 1) := by decide +kernel
theorem dX5_arrangeGroups_107 : decode cX5_arrangeGroups 107 = .ok (.getfield 30, 3) := by decide +kernel
theorem dX5_arrangeGroups_110 : decode cX5_arrangeGroups 110 = .ok (.iastore, 1) := by decide +kernel
theorem dX5_arrangeGroups_111 : decode cX5_arrangeGroups 111 = .ok (.return_, 1) := by decide +kernel
theorem dX5_accountOf_0 : decode cX5_accountOf 0 = .ok (.aload_n 0, 1) := by decide +kernel
theorem dX5_accountOf_1 : decode cX5_accountOf 1 = .ok (.getfield 21, 3) := by decide +kernel
theorem dX5_accountOf_4 : decode cX5_accountOf 4 = .ok (.iload_n 1, 1) := by decide +kernel
theorem dX5_accountOf_5 : decode cX5_accountOf 5 = .ok (.iaload, 1) := by decide +kernel
theorem dX5_accountOf_6 : decode cX5_accountOf 6 = .ok (.istore 5, 2) := by decide +kernel
theorem dX5_accountOf_8 : decode cX5_accountOf 8 = .ok (.aload_n 0, 1) := by decide +kernel
theorem dX5_accountOf_9 : decode cX5_accountOf 9 = .ok (.getfield 21, 3) := by decide +kernel
theorem dX5_accountOf_12 : decode cX5_accountOf 12 = .ok (.iload_n 1, 1) := by decide +kernel
theorem dX5_accountOf_13 : decode cX5_accountOf 13 = .ok (.iconst 1, 1) := by decide +kernel
theorem dX5_accountOf_14 : decode cX5_accountOf 14 = .ok (.iadd, 1) := by decide +kernel
theorem dX5_accountOf_15 : decode cX5_accountOf 15 = .ok (.iaload, 1) := by decide +kernel
theorem dX5_accountOf_16 : decode cX5_accountOf 16 = .ok (.istore 6, 2) := by decide +kernel
theorem dX5_accountOf_18 : decode cX5_accountOf 18 = .ok (.iload 4, 2) := by decide +kernel
theorem dX5_accountOf_20 : decode cX5_accountOf 20 = .ok (.tableswitch 57 0 2 #[28, 41, 47], 28) := by decide +kernel
theorem dX5_accountOf_48 : decode cX5_accountOf 48 = .ok (.aload_n 2, 1) := by decide +kernel
theorem dX5_accountOf_49 : decode cX5_accountOf 49 = .ok (.getfield 37, 3) := by decide +kernel
theorem dX5_accountOf_52 : decode cX5_accountOf 52 = .ok (.aload_n 0, 1) := by decide +kernel
theorem dX5_accountOf_53 : decode cX5_accountOf 53 = .ok (.getfield 18, 3) := by decide +kernel
theorem dX5_accountOf_56 : decode cX5_accountOf 56 = .ok (.iload 5, 2) := by decide +kernel
theorem dX5_accountOf_58 : decode cX5_accountOf 58 = .ok (.iaload, 1) := by decide +kernel
theorem dX5_accountOf_59 : decode cX5_accountOf 59 = .ok (.iaload, 1) := by decide +kernel
theorem dX5_accountOf_60 : decode cX5_accountOf 60 = .ok (.ireturn, 1) := by decide +kernel
theorem dX5_accountOf_61 : decode cX5_accountOf 61 = .ok (.iload 6, 2) := by decide +kernel
theorem dX5_accountOf_63 : decode cX5_accountOf 63 = .ok (.iload 5, 2) := by decide +kernel
theorem dX5_accountOf_65 : decode cX5_accountOf 65 = .ok (.isub, 1) := by decide +kernel
theorem dX5_accountOf_66 : decode cX5_accountOf 66 = .ok (.ireturn, 1) := by decide +kernel
theorem dX5_accountOf_67 : decode cX5_accountOf 67 = .ok (.aload_n 0, 1) := by decide +kernel
theorem dX5_accountOf_68 : decode cX5_accountOf 68 = .ok (.aload_n 3, 1) := by decide +kernel
theorem dX5_accountOf_69 : decode cX5_accountOf 69 = .ok (.iload 5, 2) := by decide +kernel
theorem dX5_accountOf_71 : decode cX5_accountOf 71 = .ok (.iload 6, 2) := by decide +kernel
theorem dX5_accountOf_73 : decode cX5_accountOf 73 = .ok (.invokevirtual 63, 3) := by decide +kernel
theorem dX5_accountOf_76 : decode cX5_accountOf 76 = .ok (.ireturn, 1) := by decide +kernel
theorem dX5_accountOf_77 : decode cX5_accountOf 77 = .ok (.aload_n 0, 1) := by decide +kernel
theorem dX5_accountOf_78 : decode cX5_accountOf 78 = .ok (.aload_n 3, 1) := by decide +kernel
theorem dX5_accountOf_79 : decode cX5_accountOf 79 = .ok (.iload 5, 2) := by decide +kernel
theorem dX5_accountOf_81 : decode cX5_accountOf 81 = .ok (.iload 6, 2) := by decide +kernel
theorem dX5_accountOf_83 : decode cX5_accountOf 83 = .ok (.iload 4, 2) := by decide +kernel
theorem dX5_accountOf_85 : decode cX5_accountOf 85 = .ok (.iconst 3, 1) := by decide +kernel
theorem dX5_accountOf_86 : decode cX5_accountOf 86 = .ok (.if_icmp .ne 7, 3) := by decide +kernel
theorem dX5_accountOf_89 : decode cX5_accountOf 89 = .ok (.iconst 1, 1) := by decide +kernel
theorem dX5_accountOf_90 : decode cX5_accountOf 90 = .ok (.goto 4, 3) := by decide +kernel
theorem dX5_accountOf_93 : decode cX5_accountOf 93 = .ok (.iconst 0, 1) := by decide +kernel
theorem dX5_accountOf_94 : decode cX5_accountOf 94 = .ok (.invokevirtual 67, 3) := by decide +kernel
theorem dX5_accountOf_97 : decode cX5_accountOf 97 = .ok (.ireturn, 1) := by decide +kernel
theorem dX5_sumOf_0 : decode cX5_sumOf 0 = .ok (.iconst 0, 1) := by decide +kernel
theorem dX5_sumOf_1 : decode cX5_sumOf 1 = .ok (.istore 4, 2) := by decide +kernel
theorem dX5_sumOf_3 : decode cX5_sumOf 3 = .ok (.iload_n 2, 1) := by decide +kernel
theorem dX5_sumOf_4 : decode cX5_sumOf 4 = .ok (.istore 5, 2) := by decide +kernel
theorem dX5_sumOf_6 : decode cX5_sumOf 6 = .ok (.iload 5, 2) := by decide +kernel
theorem dX5_sumOf_8 : decode cX5_sumOf 8 = .ok (.iload_n 3, 1) := by decide +kernel
theorem dX5_sumOf_9 : decode cX5_sumOf 9 = .ok (.if_icmp .ge 26, 3) := by decide +kernel
theorem dX5_sumOf_12 : decode cX5_sumOf 12 = .ok (.iload 4, 2) := by decide +kernel
theorem dX5_sumOf_14 : decode cX5_sumOf 14 = .ok (.aload_n 1, 1) := by decide +kernel
theorem dX5_sumOf_15 : decode cX5_sumOf 15 = .ok (.getfield 37, 3) := by decide +kernel
theorem dX5_sumOf_18 : decode cX5_sumOf 18 = .ok (.aload_n 0, 1) := by decide +kernel
theorem dX5_sumOf_19 : decode cX5_sumOf 19 = .ok (.getfield 18, 3) := by decide +kernel
theorem dX5_sumOf_22 : decode cX5_sumOf 22 = .ok (.iload 5, 2) := by decide +kernel
theorem dX5_sumOf_24 : decode cX5_sumOf 24 = .ok (.iaload, 1) := by decide +kernel
theorem dX5_sumOf_25 : decode cX5_sumOf 25 = .ok (.iaload, 1) := by decide +kernel
theorem dX5_sumOf_26 : decode cX5_sumOf 26 = .ok (.iadd, 1) := by decide +kernel
theorem dX5_sumOf_27 : decode cX5_sumOf 27 = .ok (.istore 4, 2) := by decide +kernel
theorem dX5_sumOf_29 : decode cX5_sumOf 29 = .ok (.iinc 5 1, 3) := by decide +kernel
theorem dX5_sumOf_32 : decode cX5_sumOf 32 = .ok (.goto (-26), 3) := by decide +kernel
theorem dX5_sumOf_35 : decode cX5_sumOf 35 = .ok (.iload 4, 2) := by decide +kernel
theorem dX5_sumOf_37 : decode cX5_sumOf 37 = .ok (.ireturn, 1) := by decide +kernel
theorem dX5_endOf_0 : decode cX5_endOf 0 = .ok (.iconst 0, 1) := by decide +kernel
theorem dX5_endOf_1 : decode cX5_endOf 1 = .ok (.istore 5, 2) := by decide +kernel
theorem dX5_endOf_3 : decode cX5_endOf 3 = .ok (.iconst 0, 1) := by decide +kernel
theorem dX5_endOf_4 : decode cX5_endOf 4 = .ok (.istore 6, 2) := by decide +kernel
theorem dX5_endOf_6 : decode cX5_endOf 6 = .ok (.iload_n 2, 1) := by decide +kernel
theorem dX5_endOf_7 : decode cX5_endOf 7 = .ok (.istore 7, 2) := by decide +kernel
theorem dX5_endOf_9 : decode cX5_endOf 9 = .ok (.iload 7, 2) := by decide +kernel
theorem dX5_endOf_11 : decode cX5_endOf 11 = .ok (.iload_n 3, 1) := by decide +kernel
theorem dX5_endOf_12 : decode cX5_endOf 12 = .ok (.if_icmp .ge 93, 3) := by decide +kernel
theorem dX5_endOf_15 : decode cX5_endOf 15 = .ok (.aload_n 0, 1) := by decide +kernel
theorem dX5_endOf_16 : decode cX5_endOf 16 = .ok (.getfield 18, 3) := by decide +kernel
theorem dX5_endOf_19 : decode cX5_endOf 19 = .ok (.iload 7, 2) := by decide +kernel
theorem dX5_endOf_21 : decode cX5_endOf 21 = .ok (.iaload, 1) := by decide +kernel
theorem dX5_endOf_22 : decode cX5_endOf 22 = .ok (.istore 8, 2) := by decide +kernel
theorem dX5_endOf_24 : decode cX5_endOf 24 = .ok (.aload_n 1, 1) := by decide +kernel
theorem dX5_endOf_25 : decode cX5_endOf 25 = .ok (.getfield 42, 3) := by decide +kernel
theorem dX5_endOf_28 : decode cX5_endOf 28 = .ok (.iload 8, 2) := by decide +kernel
theorem dX5_endOf_30 : decode cX5_endOf 30 = .ok (.baload, 1) := by decide +kernel
theorem dX5_endOf_31 : decode cX5_endOf 31 = .ok (.ifCond .ne 68, 3) := by decide +kernel
theorem dX5_endOf_34 : decode cX5_endOf 34 = .ok (.aload_n 1, 1) := by decide +kernel
theorem dX5_endOf_35 : decode cX5_endOf 35 = .ok (.getfield 37, 3) := by decide +kernel
theorem dX5_endOf_38 : decode cX5_endOf 38 = .ok (.iload 8, 2) := by decide +kernel
theorem dX5_endOf_40 : decode cX5_endOf 40 = .ok (.iaload, 1) := by decide +kernel
theorem dX5_endOf_41 : decode cX5_endOf 41 = .ok (.istore 9, 2) := by decide +kernel
theorem dX5_endOf_43 : decode cX5_endOf 43 = .ok (.iload 4, 2) := by decide +kernel
theorem dX5_endOf_45 : decode cX5_endOf 45 = .ok (.ifCond .eq 18, 3) := by decide +kernel
theorem dX5_endOf_48 : decode cX5_endOf 48 = .ok (.iload 9, 2) := by decide +kernel
theorem dX5_endOf_50 : decode cX5_endOf 50 = .ok (.iload 6, 2) := by decide +kernel
theorem dX5_endOf_52 : decode cX5_endOf 52 = .ok (.if_icmp .ge 7, 3) := by decide +kernel
theorem dX5_endOf_55 : decode cX5_endOf 55 = .ok (.iconst 1, 1) := by decide +kernel
theorem dX5_endOf_56 : decode cX5_endOf 56 = .ok (.goto 19, 3) := by decide +kernel
theorem dX5_endOf_59 : decode cX5_endOf 59 = .ok (.iconst 0, 1) := by decide +kernel
theorem dX5_endOf_60 : decode cX5_endOf 60 = .ok (.goto 15, 3) := by decide +kernel
theorem dX5_endOf_63 : decode cX5_endOf 63 = .ok (.iload 9, 2) := by decide +kernel
theorem dX5_endOf_65 : decode cX5_endOf 65 = .ok (.iload 6, 2) := by decide +kernel
theorem dX5_endOf_67 : decode cX5_endOf 67 = .ok (.if_icmp .le 7, 3) := by decide +kernel
theorem dX5_endOf_70 : decode cX5_endOf 70 = .ok (.iconst 1, 1) := by decide +kernel
theorem dX5_endOf_71 : decode cX5_endOf 71 = .ok (.goto 4, 3) := by decide +kernel
theorem dX5_endOf_74 : decode cX5_endOf 74 = .ok (.iconst 0, 1) := by decide +kernel
theorem dX5_endOf_75 : decode cX5_endOf 75 = .ok (.istore 10, 2) := by decide +kernel
theorem dX5_endOf_77 : decode cX5_endOf 77 = .ok (.iload 5, 2) := by decide +kernel
theorem dX5_endOf_79 : decode cX5_endOf 79 = .ok (.ifCond .eq 8, 3) := by decide +kernel
theorem dX5_endOf_82 : decode cX5_endOf 82 = .ok (.iload 10, 2) := by decide +kernel
theorem dX5_endOf_84 : decode cX5_endOf 84 = .ok (.ifCond .eq 8, 3) := by decide +kernel
theorem dX5_endOf_87 : decode cX5_endOf 87 = .ok (.iload 9, 2) := by decide +kernel
theorem dX5_endOf_89 : decode cX5_endOf 89 = .ok (.goto 5, 3) := by decide +kernel
theorem dX5_endOf_92 : decode cX5_endOf 92 = .ok (.iload 6, 2) := by decide +kernel
theorem dX5_endOf_94 : decode cX5_endOf 94 = .ok (.istore 6, 2) := by decide +kernel
theorem dX5_endOf_96 : decode cX5_endOf 96 = .ok (.iconst 1, 1) := by decide +kernel
theorem dX5_endOf_97 : decode cX5_endOf 97 = .ok (.istore 5, 2) := by decide +kernel
theorem dX5_endOf_99 : decode cX5_endOf 99 = .ok (.iinc 7 1, 3) := by decide +kernel
theorem dX5_endOf_102 : decode cX5_endOf 102 = .ok (.goto (-93), 3) := by decide +kernel
theorem dX5_endOf_105 : decode cX5_endOf 105 = .ok (.iload 6, 2) := by decide +kernel
theorem dX5_endOf_107 : decode cX5_endOf 107 = .ok (.ireturn, 1) := by decide +kernel
theorem dX5_pairCount_0 : decode cX5_pairCount 0 = .ok (.iconst 0, 1) := by decide +kernel
theorem dX5_pairCount_1 : decode cX5_pairCount 1 = .ok (.istore_n 3, 1) := by decide +kernel
theorem dX5_pairCount_2 : decode cX5_pairCount 2 = .ok (.iconst 0, 1) := by decide +kernel
theorem dX5_pairCount_3 : decode cX5_pairCount 3 = .ok (.istore 4, 2) := by decide +kernel
theorem dX5_pairCount_5 : decode cX5_pairCount 5 = .ok (.iload 4, 2) := by decide +kernel
theorem dX5_pairCount_7 : decode cX5_pairCount 7 = .ok (.aload_n 0, 1) := by decide +kernel
theorem dX5_pairCount_8 : decode cX5_pairCount 8 = .ok (.getfield 30, 3) := by decide +kernel
theorem dX5_pairCount_11 : decode cX5_pairCount 11 = .ok (.if_icmp .ge 85, 3) := by decide +kernel
theorem dX5_pairCount_14 : decode cX5_pairCount 14 = .ok (.aload_n 0, 1) := by decide +kernel
theorem dX5_pairCount_15 : decode cX5_pairCount 15 = .ok (.getfield 9, 3) := by decide +kernel
theorem dX5_pairCount_18 : decode cX5_pairCount 18 = .ok (.iload 4, 2) := by decide +kernel
theorem dX5_pairCount_20 : decode cX5_pairCount 20 = .ok (.iaload, 1) := by decide +kernel
theorem dX5_pairCount_21 : decode cX5_pairCount 21 = .ok (.istore 5, 2) := by decide +kernel
theorem dX5_pairCount_23 : decode cX5_pairCount 23 = .ok (.iconst 0, 1) := by decide +kernel
theorem dX5_pairCount_24 : decode cX5_pairCount 24 = .ok (.istore 6, 2) := by decide +kernel
theorem dX5_pairCount_26 : decode cX5_pairCount 26 = .ok (.iload 6, 2) := by decide +kernel
theorem dX5_pairCount_28 : decode cX5_pairCount 28 = .ok (.aload_n 0, 1) := by decide +kernel
theorem dX5_pairCount_29 : decode cX5_pairCount 29 = .ok (.getfield 34, 3) := by decide +kernel
theorem dX5_pairCount_32 : decode cX5_pairCount 32 = .ok (.if_icmp .ge 58, 3) := by decide +kernel
theorem dX5_pairCount_35 : decode cX5_pairCount 35 = .ok (.aload_n 1, 1) := by decide +kernel
theorem dX5_pairCount_36 : decode cX5_pairCount 36 = .ok (.getfield 42, 3) := by decide +kernel
theorem dX5_pairCount_39 : decode cX5_pairCount 39 = .ok (.iload 5, 2) := by decide +kernel
theorem dX5_pairCount_41 : decode cX5_pairCount 41 = .ok (.baload, 1) := by decide +kernel
theorem dX5_pairCount_42 : decode cX5_pairCount 42 = .ok (.ifCond .ne 48, 3) := by decide +kernel
theorem dX5_pairCount_45 : decode cX5_pairCount 45 = .ok (.aload_n 0, 1) := by decide +kernel
theorem dX5_pairCount_46 : decode cX5_pairCount 46 = .ok (.getfield 15, 3) := by decide +kernel
theorem dX5_pairCount_49 : decode cX5_pairCount 49 = .ok (.iload 6, 2) := by decide +kernel
theorem dX5_pairCount_51 : decode cX5_pairCount 51 = .ok (.iaload, 1) := by decide +kernel
theorem dX5_pairCount_52 : decode cX5_pairCount 52 = .ok (.istore 7, 2) := by decide +kernel
theorem dX5_pairCount_54 : decode cX5_pairCount 54 = .ok (.aload_n 2, 1) := by decide +kernel
theorem dX5_pairCount_55 : decode cX5_pairCount 55 = .ok (.getfield 42, 3) := by decide +kernel
theorem dX5_pairCount_58 : decode cX5_pairCount 58 = .ok (.iload 7, 2) := by decide +kernel
theorem dX5_pairCount_60 : decode cX5_pairCount 60 = .ok (.baload, 1) := by decide +kernel
theorem dX5_pairCount_61 : decode cX5_pairCount 61 = .ok (.ifCond .ne 23, 3) := by decide +kernel
theorem dX5_pairCount_64 : decode cX5_pairCount 64 = .ok (.aload_n 2, 1) := by decide +kernel
theorem dX5_pairCount_65 : decode cX5_pairCount 65 = .ok (.getfield 37, 3) := by decide +kernel
theorem dX5_pairCount_68 : decode cX5_pairCount 68 = .ok (.iload 7, 2) := by decide +kernel
theorem dX5_pairCount_70 : decode cX5_pairCount 70 = .ok (.iaload, 1) := by decide +kernel
theorem dX5_pairCount_71 : decode cX5_pairCount 71 = .ok (.aload_n 1, 1) := by decide +kernel
theorem dX5_pairCount_72 : decode cX5_pairCount 72 = .ok (.getfield 37, 3) := by decide +kernel
theorem dX5_pairCount_75 : decode cX5_pairCount 75 = .ok (.iload 5, 2) := by decide +kernel
theorem dX5_pairCount_77 : decode cX5_pairCount 77 = .ok (.iaload, 1) := by decide +kernel
theorem dX5_pairCount_78 : decode cX5_pairCount 78 = .ok (.if_icmp .ne 6, 3) := by decide +kernel
theorem dX5_pairCount_81 : decode cX5_pairCount 81 = .ok (.iinc 3 1, 3) := by decide +kernel
theorem dX5_pairCount_84 : decode cX5_pairCount 84 = .ok (.iinc 6 1, 3) := by decide +kernel
theorem dX5_pairCount_87 : decode cX5_pairCount 87 = .ok (.goto (-61), 3) := by decide +kernel
theorem dX5_pairCount_90 : decode cX5_pairCount 90 = .ok (.iinc 4 1, 3) := by decide +kernel
theorem dX5_pairCount_93 : decode cX5_pairCount 93 = .ok (.goto (-88), 3) := by decide +kernel
theorem dX5_pairCount_96 : decode cX5_pairCount 96 = .ok (.iload_n 3, 1) := by decide +kernel
theorem dX5_pairCount_97 : decode cX5_pairCount 97 = .ok (.ireturn, 1) := by decide +kernel
theorem dX6_init_0 : decode cX6_init 0 = .ok (.aload_n 0, 1) := by decide +kernel
theorem dX6_init_1 : decode cX6_init 1 = .ok (.invokespecial 3, 3) := by decide +kernel
theorem dX6_init_4 : decode cX6_init 4 = .ok (.aload_n 0, 1) := by decide +kernel
theorem dX6_init_5 : decode cX6_init 5 = .ok (.sipush 600, 3) := by decide +kernel
theorem dX6_init_8 : decode cX6_init 8 = .ok (.newarray .int, 2) := by decide +kernel
theorem dX6_init_10 : decode cX6_init 10 = .ok (.putfield 9, 3) := by decide +kernel
theorem dX6_init_13 : decode cX6_init 13 = .ok (.aload_n 0, 1) := by decide +kernel
theorem dX6_init_14 : decode cX6_init 14 = .ok (.bipush 64, 2) := by decide +kernel
theorem dX6_init_16 : decode cX6_init 16 = .ok (.newarray .boolean, 2) := by decide +kernel
theorem dX6_init_18 : decode cX6_init 18 = .ok (.putfield 15, 3) := by decide +kernel
theorem dX6_init_21 : decode cX6_init 21 = .ok (.aload_n 0, 1) := by decide +kernel
theorem dX6_init_22 : decode cX6_init 22 = .ok (.bipush 64, 2) := by decide +kernel
theorem dX6_init_24 : decode cX6_init 24 = .ok (.newarray .boolean, 2) := by decide +kernel
theorem dX6_init_26 : decode cX6_init 26 = .ok (.putfield 19, 3) := by decide +kernel
theorem dX6_init_29 : decode cX6_init 29 = .ok (.aload_n 0, 1) := by decide +kernel
theorem dX6_init_30 : decode cX6_init 30 = .ok (.iconst 4, 1) := by decide +kernel
theorem dX6_init_31 : decode cX6_init 31 = .ok (.newarray .int, 2) := by decide +kernel
theorem dX6_init_33 : decode cX6_init 33 = .ok (.putfield 22, 3) := by decide +kernel
theorem dX6_init_36 : decode cX6_init 36 = .ok (.aload_n 0, 1) := by decide +kernel
theorem dX6_init_37 : decode cX6_init 37 = .ok (.iconst 4, 1) := by decide +kernel
theorem dX6_init_38 : decode cX6_init 38 = .ok (.newarray .int, 2) := by decide +kernel
theorem dX6_init_40 : decode cX6_init 40 = .ok (.putfield 25, 3) := by decide +kernel
theorem dX6_init_43 : decode cX6_init 43 = .ok (.return_, 1) := by decide +kernel
theorem dX6_run_0 : decode cX6_run 0 = .ok (.aload_n 0, 1) := by decide +kernel
theorem dX6_run_1 : decode cX6_run 1 = .ok (.iconst 0, 1) := by decide +kernel
theorem dX6_run_2 : decode cX6_run 2 = .ok (.putfield 28, 3) := by decide +kernel
theorem dX6_run_5 : decode cX6_run 5 = .ok (.aload_n 0, 1) := by decide +kernel
theorem dX6_run_6 : decode cX6_run 6 = .ok (.iconst 0, 1) := by decide +kernel
theorem dX6_run_7 : decode cX6_run 7 = .ok (.putfield 32, 3) := by decide +kernel
theorem dX6_run_10 : decode cX6_run 10 = .ok (.aload_n 0, 1) := by decide +kernel
theorem dX6_run_11 : decode cX6_run 11 = .ok (.iconst 0, 1) := by decide +kernel
theorem dX6_run_12 : decode cX6_run 12 = .ok (.putfield 35, 3) := by decide +kernel
theorem dX6_run_15 : decode cX6_run 15 = .ok (.aload_n 0, 1) := by decide +kernel
theorem dX6_run_16 : decode cX6_run 16 = .ok (.iload_n 3, 1) := by decide +kernel
theorem dX6_run_17 : decode cX6_run 17 = .ok (.putfield 38, 3) := by decide +kernel
theorem dX6_run_20 : decode cX6_run 20 = .ok (.aload_n 2, 1) := by decide +kernel
theorem dX6_run_21 : decode cX6_run 21 = .ok (.invokevirtual 42, 3) := by decide +kernel
theorem dX6_run_24 : decode cX6_run 24 = .ok (.ifCond .ne 7, 3) := by decide +kernel
theorem dX6_run_27 : decode cX6_run 27 = .ok (.iconst 1, 1) := by decide +kernel
theorem dX6_run_28 : decode cX6_run 28 = .ok (.goto 4, 3) := by decide +kernel
theorem dX6_run_31 : decode cX6_run 31 = .ok (.iconst 0, 1) := by decide +kernel
theorem dX6_run_32 : decode cX6_run 32 = .ok (.istore 4, 2) := by decide +kernel
theorem dX6_run_34 : decode cX6_run 34 = .ok (.iconst 0, 1) := by decide +kernel
theorem dX6_run_35 : decode cX6_run 35 = .ok (.istore 5, 2) := by decide +kernel
theorem dX6_run_37 : decode cX6_run 37 = .ok (.iload 5, 2) := by decide +kernel
theorem dX6_run_39 : decode cX6_run 39 = .ok (.aload_n 1, 1) := by decide +kernel
theorem dX6_run_40 : decode cX6_run 40 = .ok (.getfield 48, 3) := by decide +kernel
theorem dX6_run_43 : decode cX6_run 43 = .ok (.invokevirtual 54, 3) := by decide +kernel
theorem dX6_run_46 : decode cX6_run 46 = .ok (.if_icmp .ge 69, 3) := by decide +kernel
theorem dX6_run_49 : decode cX6_run 49 = .ok (.aload_n 0, 1) := by decide +kernel
theorem dX6_run_50 : decode cX6_run 50 = .ok (.aload_n 1, 1) := by decide +kernel
theorem dX6_run_51 : decode cX6_run 51 = .ok (.aload_n 2, 1) := by decide +kernel
theorem dX6_run_52 : decode cX6_run 52 = .ok (.aload_n 1, 1) := by decide +kernel
theorem dX6_run_53 : decode cX6_run 53 = .ok (.getfield 48, 3) := by decide +kernel
theorem dX6_run_56 : decode cX6_run 56 = .ok (.iload 5, 2) := by decide +kernel
theorem dX6_run_58 : decode cX6_run 58 = .ok (.invokevirtual 59, 3) := by decide +kernel
theorem dX6_run_61 : decode cX6_run 61 = .ok (.checkcast 63, 3) := by decide +kernel
theorem dX6_run_64 : decode cX6_run 64 = .ok (.iconst 1, 1) := by decide +kernel
theorem dX6_run_65 : decode cX6_run 65 = .ok (.invokevirtual 65, 3) := by decide +kernel
theorem dX6_run_68 : decode cX6_run 68 = .ok (.istore 6, 2) := by decide +kernel
theorem dX6_run_70 : decode cX6_run 70 = .ok (.iload 6, 2) := by decide +kernel
theorem dX6_run_72 : decode cX6_run 72 = .ok (.ifCond .ne 18, 3) := by decide +kernel
theorem dX6_run_75 : decode cX6_run 75 = .ok (.iload 4, 2) := by decide +kernel
theorem dX6_run_77 : decode cX6_run 77 = .ok (.ifCond .ne 13, 3) := by decide +kernel
theorem dX6_run_80 : decode cX6_run 80 = .ok (.aload_n 0, 1) := by decide +kernel
theorem dX6_run_81 : decode cX6_run 81 = .ok (.dup, 1) := by decide +kernel
theorem dX6_run_82 : decode cX6_run 82 = .ok (.getfield 35, 3) := by decide +kernel
theorem dX6_run_85 : decode cX6_run 85 = .ok (.iconst 1, 1) := by decide +kernel
theorem dX6_run_86 : decode cX6_run 86 = .ok (.iadd, 1) := by decide +kernel
theorem dX6_run_87 : decode cX6_run 87 = .ok (.putfield 35, 3) := by decide +kernel
theorem dX6_run_90 : decode cX6_run 90 = .ok (.aload_n 0, 1) := by decide +kernel
theorem dX6_run_91 : decode cX6_run 91 = .ok (.aload_n 1, 1) := by decide +kernel
theorem dX6_run_92 : decode cX6_run 92 = .ok (.aload_n 1, 1) := by decide +kernel
theorem dX6_run_93 : decode cX6_run 93 = .ok (.getfield 48, 3) := by decide +kernel
theorem dX6_run_96 : decode cX6_run 96 = .ok (.iload 5, 2) := by decide +kernel
theorem dX6_run_98 : decode cX6_run 98 = .ok (.invokevirtual 59, 3) := by decide +kernel
theorem dX6_run_101 : decode cX6_run 101 = .ok (.checkcast 63, 3) := by decide +kernel
theorem dX6_run_104 : decode cX6_run 104 = .ok (.iload 4, 2) := by decide +kernel
theorem dX6_run_106 : decode cX6_run 106 = .ok (.invokevirtual 69, 3) := by decide +kernel
theorem dX6_run_109 : decode cX6_run 109 = .ok (.iinc 5 1, 3) := by decide +kernel
theorem dX6_run_112 : decode cX6_run 112 = .ok (.goto (-75), 3) := by decide +kernel
theorem dX6_run_115 : decode cX6_run 115 = .ok (.aload_n 0, 1) := by decide +kernel
theorem dX6_run_116 : decode cX6_run 116 = .ok (.aload_n 1, 1) := by decide +kernel
theorem dX6_run_117 : decode cX6_run 117 = .ok (.aload_n 2, 1) := by decide +kernel
theorem dX6_run_118 : decode cX6_run 118 = .ok (.aload_n 1, 1) := by decide +kernel
theorem dX6_run_119 : decode cX6_run 119 = .ok (.getfield 73, 3) := by decide +kernel
theorem dX6_run_122 : decode cX6_run 122 = .ok (.iconst 0, 1) := by decide +kernel
theorem dX6_run_123 : decode cX6_run 123 = .ok (.invokevirtual 65, 3) := by decide +kernel
theorem dX6_run_126 : decode cX6_run 126 = .ok (.pop, 1) := by decide +kernel
theorem dX6_run_127 : decode cX6_run 127 = .ok (.aload_n 0, 1) := by decide +kernel
theorem dX6_run_128 : decode cX6_run 128 = .ok (.aload_n 1, 1) := by decide +kernel
theorem dX6_run_129 : decode cX6_run 129 = .ok (.aload_n 1, 1) := by decide +kernel
theorem dX6_run_130 : decode cX6_run 130 = .ok (.getfield 73, 3) := by decide +kernel
theorem dX6_run_133 : decode cX6_run 133 = .ok (.iload 4, 2) := by decide +kernel
theorem dX6_run_135 : decode cX6_run 135 = .ok (.invokevirtual 69, 3) := by decide +kernel
theorem dX6_run_138 : decode cX6_run 138 = .ok (.return_, 1) := by decide +kernel
theorem dX6_lookThrough_0 : decode cX6_lookThrough 0 = .ok (.iconst 0, 1) := by decide +kernel
theorem dX6_lookThrough_1 : decode cX6_lookThrough 1 = .ok (.istore 5, 2) := by decide +kernel
theorem dX6_lookThrough_3 : decode cX6_lookThrough 3 = .ok (.iconst 0, 1) := by decide +kernel
