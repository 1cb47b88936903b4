theorem dX7_init_0 : decode cX7_init 0 = .ok (.aload_n 0, 1) := by decide +kernel
theorem dX7_init_1 : decode cX7_init 1 = .ok (.invokespecial 1, 3) := by decide +kernel
theorem dX7_init_4 : decode cX7_init 4 = .ok (.aload_n 0, 1) := by decide +kernel
theorem dX7_init_5 : decode cX7_init 5 = .ok (.sipush 900, 3) := by decide +kernel
theorem dX7_init_8 : decode cX7_init 8 = .ok (.newarray .int, 2) := by decide +kernel
theorem dX7_init_10 : decode cX7_init 10 = .ok (.putfield 7, 3) := by decide +kernel
theorem dX7_init_13 : decode cX7_init 13 = .ok (.aload_n 0, 1) := by decide +kernel
theorem dX7_init_14 : decode cX7_init 14 = .ok (.sipush 900, 3) := by decide +kernel
theorem dX7_init_17 : decode cX7_init 17 = .ok (.newarray .int, 2) := by decide +kernel
theorem dX7_init_19 : decode cX7_init 19 = .ok (.putfield 13, 3) := by decide +kernel
theorem dX7_init_22 : decode cX7_init 22 = .ok (.aload_n 0, 1) := by decide +kernel
theorem dX7_init_23 : decode cX7_init 23 = .ok (.iconst 5, 1) := by decide +kernel
theorem dX7_init_24 : decode cX7_init 24 = .ok (.newarray .int, 2) := by decide +kernel
theorem dX7_init_26 : decode cX7_init 26 = .ok (.putfield 16, 3) := by decide +kernel
theorem dX7_init_29 : decode cX7_init 29 = .ok (.aload_n 0, 1) := by decide +kernel
theorem dX7_init_30 : decode cX7_init 30 = .ok (.bipush 64, 2) := by decide +kernel
theorem dX7_init_32 : decode cX7_init 32 = .ok (.newarray .boolean, 2) := by decide +kernel
theorem dX7_init_34 : decode cX7_init 34 = .ok (.putfield 19, 3) := by decide +kernel
theorem dX7_init_37 : decode cX7_init 37 = .ok (.aload_n 0, 1) := by decide +kernel
theorem dX7_init_38 : decode cX7_init 38 = .ok (.iconst (-1), 1) := by decide +kernel
theorem dX7_init_39 : decode cX7_init 39 = .ok (.putfield 23, 3) := by decide +kernel
theorem dX7_init_42 : decode cX7_init 42 = .ok (.aload_n 0, 1) := by decide +kernel
theorem dX7_init_43 : decode cX7_init 43 = .ok (.bipush 10, 2) := by decide +kernel
theorem dX7_init_45 : decode cX7_init 45 = .ok (.newarray .int, 2) := by decide +kernel
theorem dX7_init_47 : decode cX7_init 47 = .ok (.putfield 27, 3) := by decide +kernel
theorem dX7_init_50 : decode cX7_init 50 = .ok (.aload_n 0, 1) := by decide +kernel
theorem dX7_init_51 : decode cX7_init 51 = .ok (.bipush 10, 2) := by decide +kernel
theorem dX7_init_53 : decode cX7_init 53 = .ok (.newarray .int, 2) := by decide +kernel
theorem dX7_init_55 : decode cX7_init 55 = .ok (.putfield 30, 3) := by decide +kernel
theorem dX7_init_58 : decode cX7_init 58 = .ok (.aload_n 0, 1) := by decide +kernel
theorem dX7_init_59 : decode cX7_init 59 = .ok (.bipush 20, 2) := by decide +kernel
theorem dX7_init_61 : decode cX7_init 61 = .ok (.newarray .int, 2) := by decide +kernel
theorem dX7_init_63 : decode cX7_init 63 = .ok (.putfield 33, 3) := by decide +kernel
theorem dX7_init_66 : decode cX7_init 66 = .ok (.aload_n 0, 1) := by decide +kernel
theorem dX7_init_67 : decode cX7_init 67 = .ok (.getfield 7, 3) := by decide +kernel
theorem dX7_init_70 : decode cX7_init 70 = .ok (.iconst 5, 1) := by decide +kernel
theorem dX7_init_71 : decode cX7_init 71 = .ok (.bipush 60, 2) := by decide +kernel
theorem dX7_init_73 : decode cX7_init 73 = .ok (.iastore, 1) := by decide +kernel
theorem dX7_init_74 : decode cX7_init 74 = .ok (.aload_n 0, 1) := by decide +kernel
theorem dX7_init_75 : decode cX7_init 75 = .ok (.getfield 7, 3) := by decide +kernel
theorem dX7_init_78 : decode cX7_init 78 = .ok (.bipush 6, 2) := by decide +kernel
theorem dX7_init_80 : decode cX7_init 80 = .ok (.iconst (-1), 1) := by decide +kernel
theorem dX7_init_81 : decode cX7_init 81 = .ok (.iastore, 1) := by decide +kernel
theorem dX7_init_82 : decode cX7_init 82 = .ok (.return_, 1) := by decide +kernel
theorem dX7_in_0 : decode cX7_in 0 = .ok (.iload_n 0, 1) := by decide +kernel
theorem dX7_in_1 : decode cX7_in 1 = .ok (.iload_n 1, 1) := by decide +kernel
theorem dX7_in_2 : decode cX7_in 2 = .ok (.if_icmp .lt 12, 3) := by decide +kernel
theorem dX7_in_5 : decode cX7_in 5 = .ok (.iload_n 0, 1) := by decide +kernel
theorem dX7_in_6 : decode cX7_in 6 = .ok (.iload_n 2, 1) := by decide +kernel
theorem dX7_in_7 : decode cX7_in 7 = .ok (.if_icmp .gt 7, 3) := by decide +kernel
theorem dX7_in_10 : decode cX7_in 10 = .ok (.iconst 1, 1) := by decide +kernel
theorem dX7_in_11 : decode cX7_in 11 = .ok (.goto 4, 3) := by decide +kernel
theorem dX7_in_14 : decode cX7_in 14 = .ok (.iconst 0, 1) := by decide +kernel
theorem dX7_in_15 : decode cX7_in 15 = .ok (.ireturn, 1) := by decide +kernel
theorem dX7_size_0 : decode cX7_size 0 = .ok (.iload_n 0, 1) := by decide +kernel
theorem dX7_size_1 : decode cX7_size 1 = .ok (.ifCond .ge 8, 3) := by decide +kernel
theorem dX7_size_4 : decode cX7_size 4 = .ok (.iload_n 0, 1) := by decide +kernel
theorem dX7_size_5 : decode cX7_size 5 = .ok (.ineg, 1) := by decide +kernel
theorem dX7_size_6 : decode cX7_size 6 = .ok (.goto 4, 3) := by decide +kernel
theorem dX7_size_9 : decode cX7_size 9 = .ok (.iload_n 0, 1) := by decide +kernel
theorem dX7_size_10 : decode cX7_size 10 = .ok (.ireturn, 1) := by decide +kernel
theorem dX7_isDot_0 : decode cX7_isDot 0 = .ok (.iload_n 0, 1) := by decide +kernel
theorem dX7_isDot_1 : decode cX7_isDot 1 = .ok (.iconst 0, 1) := by decide +kernel
theorem dX7_isDot_2 : decode cX7_isDot 2 = .ok (.bipush 63, 2) := by decide +kernel
theorem dX7_isDot_4 : decode cX7_isDot 4 = .ok (.invokestatic 39, 3) := by decide +kernel
theorem dX7_isDot_7 : decode cX7_isDot 7 = .ok (.ireturn, 1) := by decide +kernel
theorem dX7_isSeat_0 : decode cX7_isSeat 0 = .ok (.iload_n 0, 1) := by decide +kernel
theorem dX7_isSeat_1 : decode cX7_isSeat 1 = .ok (.iconst 0, 1) := by decide +kernel
theorem dX7_isSeat_2 : decode cX7_isSeat 2 = .ok (.bipush 7, 2) := by decide +kernel
theorem dX7_isSeat_4 : decode cX7_isSeat 4 = .ok (.invokestatic 39, 3) := by decide +kernel
theorem dX7_isSeat_7 : decode cX7_isSeat 7 = .ok (.ireturn, 1) := by decide +kernel
theorem dX7_isPlayer_0 : decode cX7_isPlayer 0 = .ok (.iload_n 1, 1) := by decide +kernel
theorem dX7_isPlayer_1 : decode cX7_isPlayer 1 = .ok (.iconst 0, 1) := by decide +kernel
theorem dX7_isPlayer_2 : decode cX7_isPlayer 2 = .ok (.aload_n 0, 1) := by decide +kernel
theorem dX7_isPlayer_3 : decode cX7_isPlayer 3 = .ok (.getfield 7, 3) := by decide +kernel
theorem dX7_isPlayer_6 : decode cX7_isPlayer 6 = .ok (.iconst 0, 1) := by decide +kernel
theorem dX7_isPlayer_7 : decode cX7_isPlayer 7 = .ok (.iaload, 1) := by decide +kernel
theorem dX7_isPlayer_8 : decode cX7_isPlayer 8 = .ok (.iconst 1, 1) := by decide +kernel
theorem dX7_isPlayer_9 : decode cX7_isPlayer 9 = .ok (.isub, 1) := by decide +kernel
theorem dX7_isPlayer_10 : decode cX7_isPlayer 10 = .ok (.invokestatic 39, 3) := by decide +kernel
theorem dX7_isPlayer_13 : decode cX7_isPlayer 13 = .ok (.ireturn, 1) := by decide +kernel
theorem dX7_far_0 : decode cX7_far 0 = .ok (.iload_n 0, 1) := by decide +kernel
theorem dX7_far_1 : decode cX7_far 1 = .ok (.bipush 8, 2) := by decide +kernel
theorem dX7_far_3 : decode cX7_far 3 = .ok (.iadd, 1) := by decide +kernel
theorem dX7_far_4 : decode cX7_far 4 = .ok (.bipush 8, 2) := by decide +kernel
theorem dX7_far_6 : decode cX7_far 6 = .ok (.idiv, 1) := by decide +kernel
theorem dX7_far_7 : decode cX7_far 7 = .ok (.iload_n 1, 1) := by decide +kernel
theorem dX7_far_8 : decode cX7_far 8 = .ok (.bipush 8, 2) := by decide +kernel
theorem dX7_far_10 : decode cX7_far 10 = .ok (.iadd, 1) := by decide +kernel
theorem dX7_far_11 : decode cX7_far 11 = .ok (.bipush 8, 2) := by decide +kernel
theorem dX7_far_13 : decode cX7_far 13 = .ok (.idiv, 1) := by decide +kernel
theorem dX7_far_14 : decode cX7_far 14 = .ok (.isub, 1) := by decide +kernel
theorem dX7_far_15 : decode cX7_far 15 = .ok (.invokestatic 43, 3) := by decide +kernel
theorem dX7_far_18 : decode cX7_far 18 = .ok (.istore_n 2, 1) := by decide +kernel
theorem dX7_far_19 : decode cX7_far 19 = .ok (.iload_n 0, 1) := by decide +kernel
theorem dX7_far_20 : decode cX7_far 20 = .ok (.bipush 8, 2) := by decide +kernel
theorem dX7_far_22 : decode cX7_far 22 = .ok (.iadd, 1) := by decide +kernel
theorem dX7_far_23 : decode cX7_far 23 = .ok (.bipush 8, 2) := by decide +kernel
theorem dX7_far_25 : decode cX7_far 25 = .ok (.irem, 1) := by decide +kernel
theorem dX7_far_26 : decode cX7_far 26 = .ok (.iload_n 1, 1) := by decide +kernel
theorem dX7_far_27 : decode cX7_far 27 = .ok (.bipush 8, 2) := by decide +kernel
theorem dX7_far_29 : decode cX7_far 29 = .ok (.iadd, 1) := by decide +kernel
theorem dX7_far_30 : decode cX7_far 30 = .ok (.bipush 8, 2) := by decide +kernel
theorem dX7_far_32 : decode cX7_far 32 = .ok (.irem, 1) := by decide +kernel
theorem dX7_far_33 : decode cX7_far 33 = .ok (.isub, 1) := by decide +kernel
theorem dX7_far_34 : decode cX7_far 34 = .ok (.invokestatic 43, 3) := by decide +kernel
theorem dX7_far_37 : decode cX7_far 37 = .ok (.istore_n 3, 1) := by decide +kernel
theorem dX7_far_38 : decode cX7_far 38 = .ok (.iload_n 2, 1) := by decide +kernel
theorem dX7_far_39 : decode cX7_far 39 = .ok (.iload_n 3, 1) := by decide +kernel
theorem dX7_far_40 : decode cX7_far 40 = .ok (.if_icmp .le 7, 3) := by decide +kernel
theorem dX7_far_43 : decode cX7_far 43 = .ok (.iload_n 2, 1) := by decide +kernel
theorem dX7_far_44 : decode cX7_far 44 = .ok (.goto 4, 3) := by decide +kernel
theorem dX7_far_47 : decode cX7_far 47 = .ok (.iload_n 3, 1) := by decide +kernel
theorem dX7_far_48 : decode cX7_far 48 = .ok (.ireturn, 1) := by decide +kernel
theorem dX7_feed_0 : decode cX7_feed 0 = .ok (.iload_n 3, 1) := by decide +kernel
theorem dX7_feed_1 : decode cX7_feed 1 = .ok (.iconst 1, 1) := by decide +kernel
theorem dX7_feed_2 : decode cX7_feed 2 = .ok (.bipush 8, 2) := by decide +kernel
theorem dX7_feed_4 : decode cX7_feed 4 = .ok (.invokestatic 39, 3) := by decide +kernel
theorem dX7_feed_7 : decode cX7_feed 7 = .ok (.ifCond .ne 6, 3) := by decide +kernel
theorem dX7_feed_10 : decode cX7_feed 10 = .ok (.bipush (-2), 2) := by decide +kernel
theorem dX7_feed_12 : decode cX7_feed 12 = .ok (.ireturn, 1) := by decide +kernel
theorem dX7_feed_13 : decode cX7_feed 13 = .ok (.aload_n 0, 1) := by decide +kernel
theorem dX7_feed_14 : decode cX7_feed 14 = .ok (.getfield 7, 3) := by decide +kernel
theorem dX7_feed_17 : decode cX7_feed 17 = .ok (.iconst 4, 1) := by decide +kernel
theorem dX7_feed_18 : decode cX7_feed 18 = .ok (.iaload, 1) := by decide +kernel
theorem dX7_feed_19 : decode cX7_feed 19 = .ok (.iload_n 3, 1) := by decide +kernel
theorem dX7_feed_20 : decode cX7_feed 20 = .ok (.iadd, 1) := by decide +kernel
theorem dX7_feed_21 : decode cX7_feed 21 = .ok (.bipush 120, 2) := by decide +kernel
theorem dX7_feed_23 : decode cX7_feed 23 = .ok (.if_icmp .le 6, 3) := by decide +kernel
theorem dX7_feed_26 : decode cX7_feed 26 = .ok (.bipush (-4), 2) := by decide +kernel
theorem dX7_feed_28 : decode cX7_feed 28 = .ok (.ireturn, 1) := by decide +kernel
theorem dX7_feed_29 : decode cX7_feed 29 = .ok (.iload_n 3, 1) := by decide +kernel
theorem dX7_feed_30 : decode cX7_feed 30 = .ok (.iconst 1, 1) := by decide +kernel
theorem dX7_feed_31 : decode cX7_feed 31 = .ok (.isub, 1) := by decide +kernel
theorem dX7_feed_32 : decode cX7_feed 32 = .ok (.istore 4, 2) := by decide +kernel
theorem dX7_feed_34 : decode cX7_feed 34 = .ok (.iload 4, 2) := by decide +kernel
theorem dX7_feed_36 : decode cX7_feed 36 = .ok (.ifCond .lt 45, 3) := by decide +kernel
theorem dX7_feed_39 : decode cX7_feed 39 = .ok (.aload_n 0, 1) := by decide +kernel
theorem dX7_feed_40 : decode cX7_feed 40 = .ok (.getfield 7, 3) := by decide +kernel
theorem dX7_feed_43 : decode cX7_feed 43 = .ok (.bipush 10, 2) := by decide +kernel
theorem dX7_feed_45 : decode cX7_feed 45 = .ok (.aload_n 0, 1) := by decide +kernel
theorem dX7_feed_46 : decode cX7_feed 46 = .ok (.getfield 7, 3) := by decide +kernel
theorem dX7_feed_49 : decode cX7_feed 49 = .ok (.iconst 4, 1) := by decide +kernel
theorem dX7_feed_50 : decode cX7_feed 50 = .ok (.iaload, 1) := by decide +kernel
theorem dX7_feed_51 : decode cX7_feed 51 = .ok (.iadd, 1) := by decide +kernel
theorem dX7_feed_52 : decode cX7_feed 52 = .ok (.lload_n 1, 1) := by decide +kernel
theorem dX7_feed_53 : decode cX7_feed 53 = .ok (.bipush 8, 2) := by decide +kernel
theorem dX7_feed_55 : decode cX7_feed 55 = .ok (.iload 4, 2) := by decide +kernel
theorem dX7_feed_57 : decode cX7_feed 57 = .ok (.imul, 1) := by decide +kernel
theorem dX7_feed_58 : decode cX7_feed 58 = .ok (.lshr, 1) := by decide +kernel
theorem dX7_feed_59 : decode cX7_feed 59 = .ok (.ldc2_w 47, 3) := by decide +kernel
theorem dX7_feed_62 : decode cX7_feed 62 = .ok (.land, 1) := by decide +kernel
theorem dX7_feed_63 : decode cX7_feed 63 = .ok (.l2i, 1) := by decide +kernel
theorem dX7_feed_64 : decode cX7_feed 64 = .ok (.iastore, 1) := by decide +kernel
theorem dX7_feed_65 : decode cX7_feed 65 = .ok (.aload_n 0, 1) := by decide +kernel
theorem dX7_feed_66 : decode cX7_feed 66 = .ok (.getfield 7, 3) := by decide +kernel
theorem dX7_feed_69 : decode cX7_feed 69 = .ok (.iconst 4, 1) := by decide +kernel
theorem dX7_feed_70 : decode cX7_feed 70 = .ok (.dup2, 1) := by decide +kernel
theorem dX7_feed_71 : decode cX7_feed 71 = .ok (.iaload, 1) := by decide +kernel
theorem dX7_feed_72 : decode cX7_feed 72 = .ok (.iconst 1, 1) := by decide +kernel
theorem dX7_feed_73 : decode cX7_feed 73 = .ok (.iadd, 1) := by decide +kernel
theorem dX7_feed_74 : decode cX7_feed 74 = .ok (.iastore, 1) := by decide +kernel
theorem dX7_feed_75 : decode cX7_feed 75 = .ok (.iinc 4 (-1), 3) := by decide +kernel
theorem dX7_feed_78 : decode cX7_feed 78 = .ok (.goto (-44), 3) := by decide +kernel
theorem dX7_feed_81 : decode cX7_feed 81 = .ok (.aload_n 0, 1) := by decide +kernel
theorem dX7_feed_82 : decode cX7_feed 82 = .ok (.getfield 7, 3) := by decide +kernel
theorem dX7_feed_85 : decode cX7_feed 85 = .ok (.iconst 4, 1) := by decide +kernel
theorem dX7_feed_86 : decode cX7_feed 86 = .ok (.iaload, 1) := by decide +kernel
theorem dX7_feed_87 : decode cX7_feed 87 = .ok (.ireturn, 1) := by decide +kernel
theorem dX7_here_0 : decode cX7_here 0 = .ok (.aload_n 0, 1) := by decide +kernel
theorem dX7_here_1 : decode cX7_here 1 = .ok (.getfield 49, 3) := by decide +kernel
theorem dX7_here_4 : decode cX7_here 4 = .ok (.aload_n 0, 1) := by decide +kernel
theorem dX7_here_5 : decode cX7_here 5 = .ok (.getfield 52, 3) := by decide +kernel
theorem dX7_here_8 : decode cX7_here 8 = .ok (.if_icmp .ge 18, 3) := by decide +kernel
theorem dX7_here_11 : decode cX7_here 11 = .ok (.aload_n 0, 1) := by decide +kernel
theorem dX7_here_12 : decode cX7_here 12 = .ok (.getfield 7, 3) := by decide +kernel
theorem dX7_here_15 : decode cX7_here 15 = .ok (.bipush 10, 2) := by decide +kernel
theorem dX7_here_17 : decode cX7_here 17 = .ok (.aload_n 0, 1) := by decide +kernel
theorem dX7_here_18 : decode cX7_here 18 = .ok (.getfield 49, 3) := by decide +kernel
theorem dX7_here_21 : decode cX7_here 21 = .ok (.iadd, 1) := by decide +kernel
theorem dX7_here_22 : decode cX7_here 22 = .ok (.iaload, 1) := by decide +kernel
theorem dX7_here_23 : decode cX7_here 23 = .ok (.goto 4, 3) := by decide +kernel
theorem dX7_here_26 : decode cX7_here 26 = .ok (.iconst (-1), 1) := by decide +kernel
theorem dX7_here_27 : decode cX7_here 27 = .ok (.ireturn, 1) := by decide +kernel
theorem dX7_must_0 : decode cX7_must 0 = .ok (.aload_n 0, 1) := by decide +kernel
theorem dX7_must_1 : decode cX7_must 1 = .ok (.aload_n 0, 1) := by decide +kernel
theorem dX7_must_2 : decode cX7_must 2 = .ok (.getfield 55, 3) := by decide +kernel
theorem dX7_must_5 : decode cX7_must 5 = .ok (.ifCond .ne 11, 3) := by decide +kernel
theorem dX7_must_8 : decode cX7_must 8 = .ok (.aload_n 0, 1) := by decide +kernel
theorem dX7_must_9 : decode cX7_must 9 = .ok (.invokevirtual 59, 3) := by decide +kernel
theorem dX7_must_12 : decode cX7_must 12 = .ok (.iload_n 1, 1) := by decide +kernel
theorem dX7_must_13 : decode cX7_must 13 = .ok (.if_icmp .eq 7, 3) := by decide +kernel
theorem dX7_must_16 : decode cX7_must 16 = .ok (.iconst 1, 1) := by decide +kernel
theorem dX7_must_17 : decode cX7_must 17 = .ok (.goto 4, 3) := by decide +kernel
theorem dX7_must_20 : decode cX7_must 20 = .ok (.iconst 0, 1) := by decide +kernel
theorem dX7_must_21 : decode cX7_must 21 = .ok (.putfield 55, 3) := by decide +kernel
theorem dX7_must_24 : decode cX7_must 24 = .ok (.aload_n 0, 1) := by decide +kernel
theorem dX7_must_25 : decode cX7_must 25 = .ok (.dup, 1) := by decide +kernel
theorem dX7_must_26 : decode cX7_must 26 = .ok (.getfield 49, 3) := by decide +kernel
theorem dX7_must_29 : decode cX7_must 29 = .ok (.aload_n 0, 1) := by decide +kernel
theorem dX7_must_30 : decode cX7_must 30 = .ok (.getfield 55, 3) := by decide +kernel
theorem dX7_must_33 : decode cX7_must 33 = .ok (.ifCond .eq 7, 3) := by decide +kernel
theorem dX7_must_36 : decode cX7_must 36 = .ok (.iconst 0, 1) := by decide +kernel
theorem dX7_must_37 : decode cX7_must 37 = .ok (.goto 4, 3) := by decide +kernel
theorem dX7_must_40 : decode cX7_must 40 = .ok (.iconst 1, 1) := by decide +kernel
theorem dX7_must_41 : decode cX7_must 41 = .ok (.iadd, 1) := by decide +kernel
theorem dX7_must_42 : decode cX7_must 42 = .ok (.putfield 49, 3) := by decide +kernel
theorem dX7_must_45 : decode cX7_must 45 = .ok (.return_, 1) := by decide +kernel
theorem dX7_spells_0 : decode cX7_spells 0 = .ok (.iconst 0, 1) := by decide +kernel
theorem dX7_spells_1 : decode cX7_spells 1 = .ok (.istore_n 2, 1) := by decide +kernel
theorem dX7_spells_2 : decode cX7_spells 2 = .ok (.iload_n 2, 1) := by decide +kernel
theorem dX7_spells_3 : decode cX7_spells 3 = .ok (.aload_n 1, 1) := by decide +kernel
theorem dX7_spells_4 : decode cX7_spells 4 = .ok (.invokevirtual 63, 3) := by decide +kernel
theorem dX7_spells_7 : decode cX7_spells 7 = .ok (.if_icmp .ge 18, 3) := by decide +kernel
theorem dX7_spells_10 : decode cX7_spells 10 = .ok (.aload_n 0, 1) := by decide +kernel
theorem dX7_spells_11 : decode cX7_spells 11 = .ok (.aload_n 1, 1) := by decide +kernel
theorem dX7_spells_12 : decode cX7_spells 12 = .ok (.iload_n 2, 1) := by decide +kernel
theorem dX7_spells_13 : decode cX7_spells 13 = .ok (.invokevirtual 68, 3) := by decide +kernel
theorem dX7_spells_16 : decode cX7_spells 16 = .ok (.invokevirtual 72, 3) := by decide +kernel
theorem dX7_spells_19 : decode cX7_spells 19 = .ok (.iinc 2 1, 3) := by decide +kernel
theorem dX7_spells_22 : decode cX7_spells 22 = .ok (.goto (-20), 3) := by decide +kernel
theorem dX7_spells_25 : decode cX7_spells 25 = .ok (.return_, 1) := by decide +kernel
theorem dX7_figures_0 : decode cX7_figures 0 = .ok (.aload_n 0, 1) := by decide +kernel
theorem dX7_figures_1 : decode cX7_figures 1 = .ok (.aload_n 0, 1) := by decide +kernel
theorem dX7_figures_2 : decode cX7_figures 2 = .ok (.getfield 55, 3) := by decide +kernel
theorem dX7_figures_5 : decode cX7_figures 5 = .ok (.ifCond .ne 17, 3) := by decide +kernel
theorem dX7_figures_8 : decode cX7_figures 8 = .ok (.aload_n 0, 1) := by decide +kernel
theorem dX7_figures_9 : decode cX7_figures 9 = .ok (.invokevirtual 59, 3) := by decide +kernel
theorem dX7_figures_12 : decode cX7_figures 12 = .ok (.bipush 48, 2) := by decide +kernel
theorem dX7_figures_14 : decode cX7_figures 14 = .ok (.bipush 57, 2) := by decide +kernel
theorem dX7_figures_16 : decode cX7_figures 16 = .ok (.invokestatic 39, 3) := by decide +kernel
theorem dX7_figures_19 : decode cX7_figures 19 = .ok (.ifCond .ne 7, 3) := by decide +kernel
theorem dX7_figures_22 : decode cX7_figures 22 = .ok (.iconst 1, 1) := by decide +kernel
theorem dX7_figures_23 : decode cX7_figures 23 = .ok (.goto 4, 3) := by decide +kernel
theorem dX7_figures_26 : decode cX7_figures 26 = .ok (.iconst 0, 1) := by decide +kernel
theorem dX7_figures_27 : decode cX7_figures 27 = .ok (.putfield 55, 3) := by decide +kernel
theorem dX7_figures_30 : decode cX7_figures 30 = .ok (.iconst 0, 1) := by decide +kernel
theorem dX7_figures_31 : decode cX7_figures 31 = .ok (.istore_n 1, 1) := by decide +kernel
theorem dX7_figures_32 : decode cX7_figures 32 = .ok (.iconst 0, 1) := by decide +kernel
theorem dX7_figures_33 : decode cX7_figures 33 = .ok (.istore_n 2, 1) := by decide +kernel
theorem dX7_figures_34 : decode cX7_figures 34 = .ok (.iload_n 2, 1) := by decide +kernel
theorem dX7_figures_35 : decode cX7_figures 35 = .ok (.iconst 2, 1) := by decide +kernel
theorem dX7_figures_36 : decode cX7_figures 36 = .ok (.if_icmp .ge 61, 3) := by decide +kernel
theorem dX7_figures_39 : decode cX7_figures 39 = .ok (.aload_n 0, 1) := by decide +kernel
theorem dX7_figures_40 : decode cX7_figures 40 = .ok (.getfield 55, 3) := by decide +kernel
theorem dX7_figures_43 : decode cX7_figures 43 = .ok (.ifCond .ne 54, 3) := by decide +kernel
theorem dX7_figures_46 : decode cX7_figures 46 = .ok (.aload_n 0, 1) := by decide +kernel
theorem dX7_figures_47 : decode cX7_figures 47 = .ok (.invokevirtual 59, 3) := by decide +kernel
theorem dX7_figures_50 : decode cX7_figures 50 = .ok (.bipush 48, 2) := by decide +kernel
theorem dX7_figures_52 : decode cX7_figures 52 = .ok (.bipush 57, 2) := by decide +kernel
theorem dX7_figures_54 : decode cX7_figures 54 = .ok (.invokestatic 39, 3) := by decide +kernel
theorem dX7_figures_57 : decode cX7_figures 57 = .ok (.ifCond .eq 40, 3) := by decide +kernel
theorem dX7_figures_60 : decode cX7_figures 60 = .ok (.iload_n 2, 1) := by decide +kernel
theorem dX7_figures_61 : decode cX7_figures 61 = .ok (.ifCond .eq 7, 3) := by decide +kernel
theorem dX7_figures_64 : decode cX7_figures 64 = .ok (.iload_n 1, 1) := by decide +kernel
theorem dX7_figures_65 : decode cX7_figures 65 = .ok (.ifCond .le 32, 3) := by decide +kernel
theorem dX7_figures_68 : decode cX7_figures 68 = .ok (.bipush 10, 2) := by decide +kernel
theorem dX7_figures_70 : decode cX7_figures 70 = .ok (.iload_n 1, 1) := by decide +kernel
theorem dX7_figures_71 : decode cX7_figures 71 = .ok (.imul, 1) := by decide +kernel
theorem dX7_figures_72 : decode cX7_figures 72 = .ok (.aload_n 0, 1) := by decide +kernel
theorem dX7_figures_73 : decode cX7_figures 73 = .ok (.invokevirtual 59, 3) := by decide +kernel
theorem dX7_figures_76 : decode cX7_figures 76 = .ok (.iadd, 1) := by decide +kernel
theorem dX7_figures_77 : decode cX7_figures 77 = .ok (.bipush 48, 2) := by decide +kernel
theorem dX7_figures_79 : decode cX7_figures 79 = .ok (.isub, 1) := by decide +kernel
theorem dX7_figures_80 : decode cX7_figures 80 = .ok (.istore_n 1, 1) := by decide +kernel
theorem dX7_figures_81 : decode cX7_figures 81 = .ok (.aload_n 0, 1) := by decide +kernel
theorem dX7_figures_82 : decode cX7_figures 82 = .ok (.dup, 1) := by decide +kernel
theorem dX7_figures_83 : decode cX7_figures 83 = .ok (.getfield 49, 3) := by decide +kernel
theorem dX7_figures_86 : decode cX7_figures 86 = .ok (.iconst 1, 1) := by decide +kernel
theorem dX7_figures_87 : decode cX7_figures 87 = .ok (.iadd, 1) := by decide +kernel
theorem dX7_figures_88 : decode cX7_figures 88 = .ok (.putfield 49, 3) := by decide +kernel
theorem dX7_figures_91 : decode cX7_figures 91 = .ok (.iinc 2 1, 3) := by decide +kernel
theorem dX7_figures_94 : decode cX7_figures 94 = .ok (.goto (-60), 3) := by decide +kernel
theorem dX7_figures_97 : decode cX7_figures 97 = .ok (.iload_n 1, 1) := by decide +kernel
theorem dX7_figures_98 : decode cX7_figures 98 = .ok (.ireturn, 1) := by decide +kernel
theorem dX7_among_0 : decode cX7_among 0 = .ok (.iconst 0, 1) := by decide +kernel
theorem dX7_among_1 : decode cX7_among 1 = .ok (.istore_n 2, 1) := by decide +kernel
theorem dX7_among_2 : decode cX7_among 2 = .ok (.iload_n 2, 1) := by decide +kernel
theorem dX7_among_3 : decode cX7_among 3 = .ok (.aload_n 1, 1) := by decide +kernel
theorem dX7_among_4 : decode cX7_among 4 = .ok (.invokevirtual 63, 3) := by decide +kernel
theorem dX7_among_7 : decode cX7_among 7 = .ok (.if_icmp .ge 33, 3) := by decide +kernel
theorem dX7_among_10 : decode cX7_among 10 = .ok (.aload_n 0, 1) := by decide +kernel
theorem dX7_among_11 : decode cX7_among 11 = .ok (.invokevirtual 59, 3) := by decide +kernel
theorem dX7_among_14 : decode cX7_among 14 = .ok (.aload_n 1, 1) := by decide +kernel
theorem dX7_among_15 : decode cX7_among 15 = .ok (.iload_n 2, 1) := by decide +kernel
theorem dX7_among_16 : decode cX7_among 16 = .ok (.invokevirtual 68, 3) := by decide +kernel
theorem dX7_among_19 : decode cX7_among 19 = .ok (.if_icmp .ne 15, 3) := by decide +kernel
theorem dX7_among_22 : decode cX7_among 22 = .ok (.aload_n 0, 1) := by decide +kernel
theorem dX7_among_23 : decode cX7_among 23 = .ok (.dup, 1) := by decide +kernel
theorem dX7_among_24 : decode cX7_among 24 = .ok (.getfield 49, 3) := by decide +kernel
theorem dX7_among_27 : decode cX7_among 27 = .ok (.iconst 1, 1) := by decide +kernel
theorem dX7_among_28 : decode cX7_among 28 = .ok (.iadd, 1) := by decide +kernel
theorem dX7_among_29 : decode cX7_among 29 = .ok (.putfield 49, 3) := by decide +kernel
theorem dX7_among_32 : decode cX7_among 32 = .ok (.iload_n 2, 1) := by decide +kernel
theorem dX7_among_33 : decode cX7_among 33 = .ok (.ireturn, 1) := by decide +kernel
theorem dX7_among_34 : decode cX7_among 34 = .ok (.iinc 2 1, 3) := by decide +kernel
theorem dX7_among_37 : decode cX7_among 37 = .ok (.goto (-35), 3) := by decide +kernel
theorem dX7_among_40 : decode cX7_among 40 = .ok (.iconst (-1), 1) := by decide +kernel
theorem dX7_among_41 : decode cX7_among 41 = .ok (.ireturn, 1) := by decide +kernel
theorem dX7_emits_0 : decode cX7_emits 0 = .ok (.aload_n 0, 1) := by decide +kernel
theorem dX7_emits_1 : decode cX7_emits 1 = .ok (.getfield 55, 3) := by decide +kernel
theorem dX7_emits_4 : decode cX7_emits 4 = .ok (.ifCond .ne 52, 3) := by decide +kernel
theorem dX7_emits_7 : decode cX7_emits 7 = .ok (.aload_n 0, 1) := by decide +kernel
theorem dX7_emits_8 : decode cX7_emits 8 = .ok (.getfield 7, 3) := by decide +kernel
theorem dX7_emits_11 : decode cX7_emits 11 = .ok (.sipush 200, 3) := by decide +kernel
theorem dX7_emits_14 : decode cX7_emits 14 = .ok (.sipush 140, 3) := by decide +kernel
theorem dX7_emits_17 : decode cX7_emits 17 = .ok (.aload_n 0, 1) := by decide +kernel
theorem dX7_emits_18 : decode cX7_emits 18 = .ok (.getfield 76, 3) := by decide +kernel
theorem dX7_emits_21 : decode cX7_emits 21 = .ok (.imul, 1) := by decide +kernel
theorem dX7_emits_22 : decode cX7_emits 22 = .ok (.iadd, 1) := by decide +kernel
theorem dX7_emits_23 : decode cX7_emits 23 = .ok (.aload_n 0, 1) := by decide +kernel
theorem dX7_emits_24 : decode cX7_emits 24 = .ok (.getfield 7, 3) := by decide +kernel
theorem dX7_emits_27 : decode cX7_emits 27 = .ok (.sipush 195, 3) := by decide +kernel
theorem dX7_emits_30 : decode cX7_emits 30 = .ok (.aload_n 0, 1) := by decide +kernel
theorem dX7_emits_31 : decode cX7_emits 31 = .ok (.getfield 76, 3) := by decide +kernel
theorem dX7_emits_34 : decode cX7_emits 34 = .ok (.iadd, 1) := by decide +kernel
theorem dX7_emits_35 : decode cX7_emits 35 = .ok (.iaload, 1) := by decide +kernel
theorem dX7_emits_36 : decode cX7_emits 36 = .ok (.iadd, 1) := by decide +kernel
theorem dX7_emits_37 : decode cX7_emits 37 = .ok (.iload_n 1, 1) := by decide +kernel
theorem dX7_emits_38 : decode cX7_emits 38 = .ok (.iastore, 1) := by decide +kernel
theorem dX7_emits_39 : decode cX7_emits 39 = .ok (.aload_n 0, 1) := by decide +kernel
theorem dX7_emits_40 : decode cX7_emits 40 = .ok (.getfield 7, 3) := by decide +kernel
theorem dX7_emits_43 : decode cX7_emits 43 = .ok (.sipush 195, 3) := by decide +kernel
theorem dX7_emits_46 : decode cX7_emits 46 = .ok (.aload_n 0, 1) := by decide +kernel
theorem dX7_emits_47 : decode cX7_emits 47 = .ok (.getfield 76, 3) := by decide +kernel
theorem dX7_emits_50 : decode cX7_emits 50 = .ok (.iadd, 1) := by decide +kernel
theorem dX7_emits_51 : decode cX7_emits 51 = .ok (.dup2, 1) := by decide +kernel
theorem dX7_emits_52 : decode cX7_emits 52 = .ok (.iaload, 1) := by decide +kernel
theorem dX7_emits_53 : decode cX7_emits 53 = .ok (.iconst 1, 1) := by decide +kernel
theorem dX7_emits_54 : decode cX7_emits 54 = .ok (.iadd, 1) := by decide +kernel
theorem dX7_emits_55 : decode cX7_emits 55 = .ok (.iastore, 1) := by decide +kernel
theorem dX7_emits_56 : decode cX7_emits 56 = .ok (.return_, 1) := by decide +kernel
theorem dX7_factor_0 : decode cX7_factor 0 = .ok (.aload_n 0, 1) := by decide +kernel
theorem dX7_factor_1 : decode cX7_factor 1 = .ok (.getfield 55, 3) := by decide +kernel
theorem dX7_factor_4 : decode cX7_factor 4 = .ok (.ifCond .eq 4, 3) := by decide +kernel
theorem dX7_factor_7 : decode cX7_factor 7 = .ok (.return_, 1) := by decide +kernel
theorem dX7_factor_8 : decode cX7_factor 8 = .ok (.aload_n 0, 1) := by decide +kernel
theorem dX7_factor_9 : decode cX7_factor 9 = .ok (.invokevirtual 59, 3) := by decide +kernel
theorem dX7_factor_12 : decode cX7_factor 12 = .ok (.istore_n 1, 1) := by decide +kernel
theorem dX7_factor_13 : decode cX7_factor 13 = .ok (.iload_n 1, 1) := by decide +kernel
theorem dX7_factor_14 : decode cX7_factor 14 = .ok (.bipush 33, 2) := by decide +kernel
theorem dX7_factor_16 : decode cX7_factor 16 = .ok (.if_icmp .eq 9, 3) := by decide +kernel
theorem dX7_factor_19 : decode cX7_factor 19 = .ok (.iload_n 1, 1) := by decide +kernel
theorem dX7_factor_20 : decode cX7_factor 20 = .ok (.bipush 40, 2) := by decide +kernel
theorem dX7_factor_22 : decode cX7_factor 22 = .ok (.if_icmp .ne 90, 3) := by decide +kernel
theorem dX7_factor_25 : decode cX7_factor 25 = .ok (.aload_n 0, 1) := by decide +kernel
theorem dX7_factor_26 : decode cX7_factor 26 = .ok (.aload_n 0, 1) := by decide +kernel
theorem dX7_factor_27 : decode cX7_factor 27 = .ok (.getfield 79, 3) := by decide +kernel
theorem dX7_factor_30 : decode cX7_factor 30 = .ok (.iconst 5, 1) := by decide +kernel
theorem dX7_factor_31 : decode cX7_factor 31 = .ok (.if_icmp .ne 7, 3) := by decide +kernel
theorem dX7_factor_34 : decode cX7_factor 34 = .ok (.iconst 1, 1) := by decide +kernel
theorem dX7_factor_35 : decode cX7_factor 35 = .ok (.goto 4, 3) := by decide +kernel
theorem dX7_factor_38 : decode cX7_factor 38 = .ok (.iconst 0, 1) := by decide +kernel
theorem dX7_factor_39 : decode cX7_factor 39 = .ok (.putfield 55, 3) := by decide +kernel
theorem dX7_factor_42 : decode cX7_factor 42 = .ok (.aload_n 0, 1) := by decide +kernel
theorem dX7_factor_43 : decode cX7_factor 43 = .ok (.dup, 1) := by decide +kernel
theorem dX7_factor_44 : decode cX7_factor 44 = .ok (.getfield 79, 3) := by decide +kernel
theorem dX7_factor_47 : decode cX7_factor 47 = .ok (.iconst 1, 1) := by decide +kernel
theorem dX7_factor_48 : decode cX7_factor 48 = .ok (.iadd, 1) := by decide +kernel
theorem dX7_factor_49 : decode cX7_factor 49 = .ok (.putfield 79, 3) := by decide +kernel
theorem dX7_factor_52 : decode cX7_factor 52 = .ok (.aload_n 0, 1) := by decide +kernel
theorem dX7_factor_53 : decode cX7_factor 53 = .ok (.dup, 1) := by decide +kernel
theorem dX7_factor_54 : decode cX7_factor 54 = .ok (.getfield 49, 3) := by decide +kernel
theorem dX7_factor_57 : decode cX7_factor 57 = .ok (.aload_n 0, 1) := by decide +kernel
theorem dX7_factor_58 : decode cX7_factor 58 = .ok (.getfield 55, 3) := by decide +kernel
theorem dX7_factor_61 : decode cX7_factor 61 = .ok (.ifCond .eq 7, 3) := by decide +kernel
theorem dX7_factor_64 : decode cX7_factor 64 = .ok (.iconst 0, 1) := by decide +kernel
theorem dX7_factor_65 : decode cX7_factor 65 = .ok (.goto 4, 3) := by decide +kernel
theorem dX7_factor_68 : decode cX7_factor 68 = .ok (.iconst 1, 1) := by decide +kernel
theorem dX7_factor_69 : decode cX7_factor 69 = .ok (.iadd, 1) := by decide +kernel
theorem dX7_factor_70 : decode cX7_factor 70 = .ok (.putfield 49, 3) := by decide +kernel
theorem dX7_factor_73 : decode cX7_factor 73 = .ok (.iload_n 1, 1) := by decide +kernel
theorem dX7_factor_74 : decode cX7_factor 74 = .ok (.bipush 33, 2) := by decide +kernel
theorem dX7_factor_76 : decode cX7_factor 76 = .ok (.if_icmp .ne 15, 3) := by decide +kernel
theorem dX7_factor_79 : decode cX7_factor 79 = .ok (.aload_n 0, 1) := by decide +kernel
theorem dX7_factor_80 : decode cX7_factor 80 = .ok (.invokevirtual 82, 3) := by decide +kernel
theorem dX7_factor_83 : decode cX7_factor 83 = .ok (.aload_n 0, 1) := by decide +kernel
theorem dX7_factor_84 : decode cX7_factor 84 = .ok (.iconst (-1), 1) := by decide +kernel
theorem dX7_factor_85 : decode cX7_factor 85 = .ok (.invokevirtual 85, 3) := by decide +kernel
theorem dX7_factor_88 : decode cX7_factor 88 = .ok (.goto 13, 3) := by decide +kernel
theorem dX7_factor_91 : decode cX7_factor 91 = .ok (.aload_n 0, 1) := by decide +kernel
theorem dX7_factor_92 : decode cX7_factor 92 = .ok (.invokevirtual 88, 3) := by decide +kernel
theorem dX7_factor_95 : decode cX7_factor 95 = .ok (.aload_n 0, 1) := by decide +kernel
theorem dX7_factor_96 : decode cX7_factor 96 = .ok (.bipush 41, 2) := by decide +kernel
theorem dX7_factor_98 : decode cX7_factor 98 = .ok (.invokevirtual 72, 3) := by decide +kernel
theorem dX7_factor_101 : decode cX7_factor 101 = .ok (.aload_n 0, 1) := by decide +kernel
theorem dX7_factor_102 : decode cX7_factor 102 = .ok (.dup, 1) := by decide +kernel
theorem dX7_factor_103 : decode cX7_factor 103 = .ok (.getfield 79, 3) := by decide +kernel
theorem dX7_factor_106 : decode cX7_factor 106 = .ok (.iconst 1, 1) := by decide +kernel
theorem dX7_factor_107 : decode cX7_factor 107 = .ok (.isub, 1) := by decide +kernel
theorem dX7_factor_108 : decode cX7_factor 108 = .ok (.putfield 79, 3) := by decide +kernel
theorem dX7_factor_111 : decode cX7_factor 111 = .ok (.return_, 1) := by decide +kernel
theorem dX7_factor_112 : decode cX7_factor 112 = .ok (.aload_n 0, 1) := by decide +kernel
theorem dX7_factor_113 : decode cX7_factor 113 = .ok (.ldc 91, 2) := by decide +kernel
theorem dX7_factor_115 : decode cX7_factor 115 = .ok (.invokevirtual 93, 3) := by decide +kernel
theorem dX7_factor_118 : decode cX7_factor 118 = .ok (.istore_n 2, 1) := by decide +kernel
theorem dX7_factor_119 : decode cX7_factor 119 = .ok (.aload_n 0, 1) := by decide +kernel
theorem dX7_factor_120 : decode cX7_factor 120 = .ok (.iload_n 2, 1) := by decide +kernel
theorem dX7_factor_121 : decode cX7_factor 121 = .ok (.iconst (-1), 1) := by decide +kernel
theorem dX7_factor_122 : decode cX7_factor 122 = .ok (.if_icmp .ne 7, 3) := by decide +kernel
theorem dX7_factor_125 : decode cX7_factor 125 = .ok (.iconst 1, 1) := by decide +kernel
theorem dX7_factor_126 : decode cX7_factor 126 = .ok (.goto 4, 3) := by decide +kernel
theorem dX7_factor_129 : decode cX7_factor 129 = .ok (.iconst 0, 1) := by decide +kernel
theorem dX7_factor_130 : decode cX7_factor 130 = .ok (.putfield 55, 3) := by decide +kernel
theorem dX7_factor_133 : decode cX7_factor 133 = .ok (.aload_n 0, 1) := by decide +kernel
theorem dX7_factor_134 : decode cX7_factor 134 = .ok (.getfield 55, 3) := by decide +kernel
theorem dX7_factor_137 : decode cX7_factor 137 = .ok (.ifCond .eq 7, 3) := by decide +kernel
theorem dX7_factor_140 : decode cX7_factor 140 = .ok (.iconst 0, 1) := by decide +kernel
theorem dX7_factor_141 : decode cX7_factor 141 = .ok (.goto 9, 3) := by decide +kernel
theorem dX7_factor_144 : decode cX7_factor 144 = .ok (.aload_n 0, 1) := by decide +kernel
theorem dX7_factor_145 : decode cX7_factor 145 = .ok (.ldc 97, 2) := by decide +kernel
theorem dX7_factor_147 : decode cX7_factor 147 = .ok (.invokevirtual 93, 3) := by decide +kernel
theorem dX7_factor_150 : decode cX7_factor 150 = .ok (.istore_n 3, 1) := by decide +kernel
theorem dX7_factor_151 : decode cX7_factor 151 = .ok (.aload_n 0, 1) := by decide +kernel
theorem dX7_factor_152 : decode cX7_factor 152 = .ok (.aload_n 0, 1) := by decide +kernel
theorem dX7_factor_153 : decode cX7_factor 153 = .ok (.getfield 55, 3) := by decide +kernel
theorem dX7_factor_156 : decode cX7_factor 156 = .ok (.ifCond .ne 8, 3) := by decide +kernel
theorem dX7_factor_159 : decode cX7_factor 159 = .ok (.iload_n 3, 1) := by decide +kernel
theorem dX7_factor_160 : decode cX7_factor 160 = .ok (.iconst (-1), 1) := by decide +kernel
theorem dX7_factor_161 : decode cX7_factor 161 = .ok (.if_icmp .ne 7, 3) := by decide +kernel
theorem dX7_factor_164 : decode cX7_factor 164 = .ok (.iconst 1, 1) := by decide +kernel
theorem dX7_factor_165 : decode cX7_factor 165 = .ok (.goto 4, 3) := by decide +kernel
theorem dX7_factor_168 : decode cX7_factor 168 = .ok (.iconst 0, 1) := by decide +kernel
theorem dX7_factor_169 : decode cX7_factor 169 = .ok (.putfield 55, 3) := by decide +kernel
theorem dX7_factor_172 : decode cX7_factor 172 = .ok (.aload_n 0, 1) := by decide +kernel
theorem dX7_factor_173 : decode cX7_factor 173 = .ok (.invokevirtual 99, 3) := by decide +kernel
theorem dX7_factor_176 : decode cX7_factor 176 = .ok (.istore 4, 2) := by decide +kernel
theorem dX7_factor_178 : decode cX7_factor 178 = .ok (.aload_n 0, 1) := by decide +kernel
theorem dX7_factor_179 : decode cX7_factor 179 = .ok (.iload_n 2, 1) := by decide +kernel
theorem dX7_factor_180 : decode cX7_factor 180 = .ok (.bipush 8, 2) := by decide +kernel
theorem dX7_factor_182 : decode cX7_factor 182 = .ok (.iload_n 3, 1) := by decide +kernel
theorem dX7_factor_183 : decode cX7_factor 183 = .ok (.imul, 1) := by decide +kernel
theorem dX7_factor_184 : decode cX7_factor 184 = .ok (.iadd, 1) := by decide +kernel
theorem dX7_factor_185 : decode cX7_factor 185 = .ok (.bipush 32, 2) := by decide +kernel
theorem dX7_factor_187 : decode cX7_factor 187 = .ok (.iload 4, 2) := by decide +kernel
theorem dX7_factor_189 : decode cX7_factor 189 = .ok (.imul, 1) := by decide +kernel
theorem dX7_factor_190 : decode cX7_factor 190 = .ok (.iadd, 1) := by decide +kernel
theorem dX7_factor_191 : decode cX7_factor 191 = .ok (.invokevirtual 85, 3) := by decide +kernel
theorem dX7_factor_194 : decode cX7_factor 194 = .ok (.return_, 1) := by decide +kernel
theorem dX7_every_0 : decode cX7_every 0 = .ok (.aload_n 0, 1) := by decide +kernel
theorem dX7_every_1 : decode cX7_every 1 = .ok (.invokevirtual 82, 3) := by decide +kernel
theorem dX7_every_4 : decode cX7_every 4 = .ok (.aload_n 0, 1) := by decide +kernel
theorem dX7_every_5 : decode cX7_every 5 = .ok (.getfield 55, 3) := by decide +kernel
theorem dX7_every_8 : decode cX7_every 8 = .ok (.ifCond .ne 35, 3) := by decide +kernel
theorem dX7_every_11 : decode cX7_every 11 = .ok (.aload_n 0, 1) := by decide +kernel
theorem dX7_every_12 : decode cX7_every 12 = .ok (.invokevirtual 59, 3) := by decide +kernel
theorem dX7_every_15 : decode cX7_every 15 = .ok (.bipush 38, 2) := by decide +kernel
theorem dX7_every_17 : decode cX7_every 17 = .ok (.if_icmp .ne 26, 3) := by decide +kernel
theorem dX7_every_20 : decode cX7_every 20 = .ok (.aload_n 0, 1) := by decide +kernel
theorem dX7_every_21 : decode cX7_every 21 = .ok (.dup, 1) := by decide +kernel
theorem dX7_every_22 : decode cX7_every 22 = .ok (.getfield 49, 3) := by decide +kernel
theorem dX7_every_25 : decode cX7_every 25 = .ok (.iconst 1, 1) := by decide +kernel
theorem dX7_every_26 : decode cX7_every 26 = .ok (.iadd, 1) := by decide +kernel
theorem dX7_every_27 : decode cX7_every 27 = .ok (.putfield 49, 3) := by decide +kernel
theorem dX7_every_30 : decode cX7_every 30 = .ok (.aload_n 0, 1) := by decide +kernel
theorem dX7_every_31 : decode cX7_every 31 = .ok (.invokevirtual 82, 3) := by decide +kernel
theorem dX7_every_34 : decode cX7_every 34 = .ok (.aload_n 0, 1) := by decide +kernel
theorem dX7_every_35 : decode cX7_every 35 = .ok (.bipush (-2), 2) := by decide +kernel
theorem dX7_every_37 : decode cX7_every 37 = .ok (.invokevirtual 85, 3) := by decide +kernel
theorem dX7_every_40 : decode cX7_every 40 = .ok (.goto (-36), 3) := by decide +kernel
theorem dX7_every_43 : decode cX7_every 43 = .ok (.return_, 1) := by decide +kernel
theorem dX7_some_0 : decode cX7_some 0 = .ok (.aload_n 0, 1) := by decide +kernel
theorem dX7_some_1 : decode cX7_some 1 = .ok (.invokevirtual 102, 3) := by decide +kernel
theorem dX7_some_4 : decode cX7_some 4 = .ok (.aload_n 0, 1) := by decide +kernel
theorem dX7_some_5 : decode cX7_some 5 = .ok (.getfield 55, 3) := by decide +kernel
theorem dX7_some_8 : decode cX7_some 8 = .ok (.ifCond .ne 35, 3) := by decide +kernel
theorem dX7_some_11 : decode cX7_some 11 = .ok (.aload_n 0, 1) := by decide +kernel
theorem dX7_some_12 : decode cX7_some 12 = .ok (.invokevirtual 59, 3) := by decide +kernel
theorem dX7_some_15 : decode cX7_some 15 = .ok (.bipush 124, 2) := by decide +kernel
theorem dX7_some_17 : decode cX7_some 17 = .ok (.if_icmp .ne 26, 3) := by decide +kernel
theorem dX7_some_20 : decode cX7_some 20 = .ok (.aload_n 0, 1) := by decide +kernel
theorem dX7_some_21 : decode cX7_some 21 = .ok (.dup, 1) := by decide +kernel
theorem dX7_some_22 : decode cX7_some 22 = .ok (.getfield 49, 3) := by decide +kernel
theorem dX7_some_25 : decode cX7_some 25 = .ok (.iconst 1, 1) := by decide +kernel
theorem dX7_some_26 : decode cX7_some 26 = .ok (.iadd, 1) := by decide +kernel
theorem dX7_some_27 : decode cX7_some 27 = .ok (.putfield 49, 3) := by decide +kernel
theorem dX7_some_30 : decode cX7_some 30 = .ok (.aload_n 0, 1) := by decide +kernel
theorem dX7_some_31 : decode cX7_some 31 = .ok (.invokevirtual 102, 3) := by decide +kernel
theorem dX7_some_34 : decode cX7_some 34 = .ok (.aload_n 0, 1) := by decide +kernel
theorem dX7_some_35 : decode cX7_some 35 = .ok (.bipush (-3), 2) := by decide +kernel
theorem dX7_some_37 : decode cX7_some 37 = .ok (.invokevirtual 85, 3) := by decide +kernel
theorem dX7_some_40 : decode cX7_some 40 = .ok (.goto (-36), 3) := by decide +kernel
theorem dX7_some_43 : decode cX7_some 43 = .ok (.return_, 1) := by decide +kernel
theorem dX7_much_0 : decode cX7_much 0 = .ok (.aload_n 0, 1) := by decide +kernel
theorem dX7_much_1 : decode cX7_much 1 = .ok (.aload_n 2, 1) := by decide +kernel
theorem dX7_much_2 : decode cX7_much 2 = .ok (.invokevirtual 105, 3) := by decide +kernel
theorem dX7_much_5 : decode cX7_much 5 = .ok (.aload_n 0, 1) := by decide +kernel
theorem dX7_much_6 : decode cX7_much 6 = .ok (.invokevirtual 99, 3) := by decide +kernel
theorem dX7_much_9 : decode cX7_much 9 = .ok (.istore_n 3, 1) := by decide +kernel
theorem dX7_much_10 : decode cX7_much 10 = .ok (.aload_n 0, 1) := by decide +kernel
theorem dX7_much_11 : decode cX7_much 11 = .ok (.bipush 32, 2) := by decide +kernel
theorem dX7_much_13 : decode cX7_much 13 = .ok (.invokevirtual 72, 3) := by decide +kernel
theorem dX7_much_16 : decode cX7_much 16 = .ok (.aload_n 0, 1) := by decide +kernel
theorem dX7_much_17 : decode cX7_much 17 = .ok (.invokevirtual 88, 3) := by decide +kernel
theorem dX7_much_20 : decode cX7_much 20 = .ok (.aload_n 0, 1) := by decide +kernel
theorem dX7_much_21 : decode cX7_much 21 = .ok (.iload_n 1, 1) := by decide +kernel
theorem dX7_much_22 : decode cX7_much 22 = .ok (.iload_n 3, 1) := by decide +kernel
theorem dX7_much_23 : decode cX7_much 23 = .ok (.isub, 1) := by decide +kernel
theorem dX7_much_24 : decode cX7_much 24 = .ok (.invokevirtual 85, 3) := by decide +kernel
theorem dX7_much_27 : decode cX7_much 27 = .ok (.return_, 1) := by decide +kernel
theorem dX7_tellsHere_0 : decode cX7_tellsHere 0 = .ok (.aload_n 0, 1) := by decide +kernel
theorem dX7_tellsHere_1 : decode cX7_tellsHere 1 = .ok (.aload_n 2, 1) := by decide +kernel
theorem dX7_tellsHere_2 : decode cX7_tellsHere 2 = .ok (.invokevirtual 105, 3) := by decide +kernel
theorem dX7_tellsHere_5 : decode cX7_tellsHere 5 = .ok (.aload_n 0, 1) := by decide +kernel
theorem dX7_tellsHere_6 : decode cX7_tellsHere 6 = .ok (.invokevirtual 99, 3) := by decide +kernel
theorem dX7_tellsHere_9 : decode cX7_tellsHere 9 = .ok (.istore_n 3, 1) := by decide +kernel
theorem dX7_tellsHere_10 : decode cX7_tellsHere 10 = .ok (.aload_n 0, 1) := by decide +kernel
theorem dX7_tellsHere_11 : decode cX7_tellsHere 11 = .ok (.getfield 55, 3) := by decide +kernel
theorem dX7_tellsHere_14 : decode cX7_tellsHere 14 = .ok (.ifCond .ne 15, 3) := by decide +kernel
theorem dX7_tellsHere_17 : decode cX7_tellsHere 17 = .ok (.aload_n 0, 1) := by decide +kernel
theorem dX7_tellsHere_18 : decode cX7_tellsHere 18 = .ok (.getfield 7, 3) := by decide +kernel
theorem dX7_tellsHere_21 : decode cX7_tellsHere 21 = .ok (.iload_n 1, 1) := by decide +kernel
theorem dX7_tellsHere_22 : decode cX7_tellsHere 22 = .ok (.aload_n 0, 1) := by decide +kernel
theorem dX7_tellsHere_23 : decode cX7_tellsHere 23 = .ok (.getfield 76, 3) := by decide +kernel
theorem dX7_tellsHere_26 : decode cX7_tellsHere 26 = .ok (.iadd, 1) := by decide +kernel
theorem dX7_tellsHere_27 : decode cX7_tellsHere 27 = .ok (.iload_n 3, 1) := by decide +kernel
theorem dX7_tellsHere_28 : decode cX7_tellsHere 28 = .ok (.iastore, 1) := by decide +kernel
theorem dX7_tellsHere_29 : decode cX7_tellsHere 29 = .ok (.return_, 1) := by decide +kernel
theorem dX7_clauseHere_0 : decode cX7_clauseHere 0 = .ok (.aload_n 0, 1) := by decide +kernel
theorem dX7_clauseHere_1 : decode cX7_clauseHere 1 = .ok (.invokevirtual 59, 3) := by decide +kernel
theorem dX7_clauseHere_4 : decode cX7_clauseHere 4 = .ok (.lookupswitch 125 #[(98, 113), (108, 36), (115, 74)], 36) := by decide +kernel
theorem dX7_clauseHere_40 : decode cX7_clauseHere 40 = .ok (.aload_n 0, 1) := by decide +kernel
theorem dX7_clauseHere_41 : decode cX7_clauseHere 41 = .ok (.bipush 108, 2) := by decide +kernel
theorem dX7_clauseHere_43 : decode cX7_clauseHere 43 = .ok (.invokevirtual 72, 3) := by decide +kernel
theorem dX7_clauseHere_46 : decode cX7_clauseHere 46 = .ok (.aload_n 0, 1) := by decide +kernel
theorem dX7_clauseHere_47 : decode cX7_clauseHere 47 = .ok (.invokevirtual 59, 3) := by decide +kernel
theorem dX7_clauseHere_50 : decode cX7_clauseHere 50 = .ok (.bipush 111, 2) := by decide +kernel
theorem dX7_clauseHere_52 : decode cX7_clauseHere 52 = .ok (.if_icmp .ne 14, 3) := by decide +kernel
theorem dX7_clauseHere_55 : decode cX7_clauseHere 55 = .ok (.aload_n 0, 1) := by decide +kernel
theorem dX7_clauseHere_56 : decode cX7_clauseHere 56 = .ok (.bipush (-10), 2) := by decide +kernel
theorem dX7_clauseHere_58 : decode cX7_clauseHere 58 = .ok (.ldc 109, 2) := by decide +kernel
theorem dX7_clauseHere_60 : decode cX7_clauseHere 60 = .ok (.invokevirtual 111, 3) := by decide +kernel
theorem dX7_clauseHere_63 : decode cX7_clauseHere 63 = .ok (.goto 71, 3) := by decide +kernel
theorem dX7_clauseHere_66 : decode cX7_clauseHere 66 = .ok (.aload_n 0, 1) := by decide +kernel
theorem dX7_clauseHere_67 : decode cX7_clauseHere 67 = .ok (.sipush (-200), 3) := by decide +kernel
theorem dX7_clauseHere_70 : decode cX7_clauseHere 70 = .ok (.ldc 115, 2) := by decide +kernel
theorem dX7_clauseHere_72 : decode cX7_clauseHere 72 = .ok (.invokevirtual 111, 3) := by decide +kernel
theorem dX7_clauseHere_75 : decode cX7_clauseHere 75 = .ok (.goto 59, 3) := by decide +kernel
theorem dX7_clauseHere_78 : decode cX7_clauseHere 78 = .ok (.aload_n 0, 1) := by decide +kernel
theorem dX7_clauseHere_79 : decode cX7_clauseHere 79 = .ok (.bipush 115, 2) := by decide +kernel
theorem dX7_clauseHere_81 : decode cX7_clauseHere 81 = .ok (.invokevirtual 72, 3) := by decide +kernel
theorem dX7_clauseHere_84 : decode cX7_clauseHere 84 = .ok (.aload_n 0, 1) := by decide +kernel
theorem dX7_clauseHere_85 : decode cX7_clauseHere 85 = .ok (.invokevirtual 59, 3) := by decide +kernel
theorem dX7_clauseHere_88 : decode cX7_clauseHere 88 = .ok (.bipush 112, 2) := by decide +kernel
theorem dX7_clauseHere_90 : decode cX7_clauseHere 90 = .ok (.if_icmp .ne 15, 3) := by decide +kernel
theorem dX7_clauseHere_93 : decode cX7_clauseHere 93 = .ok (.aload_n 0, 1) := by decide +kernel
theorem dX7_clauseHere_94 : decode cX7_clauseHere 94 = .ok (.sipush 180, 3) := by decide +kernel
theorem dX7_clauseHere_97 : decode cX7_clauseHere 97 = .ok (.ldc 117, 2) := by decide +kernel
theorem dX7_clauseHere_99 : decode cX7_clauseHere 99 = .ok (.invokevirtual 119, 3) := by decide +kernel
theorem dX7_clauseHere_102 : decode cX7_clauseHere 102 = .ok (.goto 32, 3) := by decide +kernel
theorem dX7_clauseHere_105 : decode cX7_clauseHere 105 = .ok (.aload_n 0, 1) := by decide +kernel
theorem dX7_clauseHere_106 : decode cX7_clauseHere 106 = .ok (.sipush 190, 3) := by decide +kernel
theorem dX7_clauseHere_109 : decode cX7_clauseHere 109 = .ok (.ldc 122, 2) := by decide +kernel
theorem dX7_clauseHere_111 : decode cX7_clauseHere 111 = .ok (.invokevirtual 119, 3) := by decide +kernel
theorem dX7_clauseHere_114 : decode cX7_clauseHere 114 = .ok (.goto 20, 3) := by decide +kernel
theorem dX7_clauseHere_117 : decode cX7_clauseHere 117 = .ok (.aload_n 0, 1) := by decide +kernel
theorem dX7_clauseHere_118 : decode cX7_clauseHere 118 = .ok (.sipush 185, 3) := by decide +kernel
theorem dX7_clauseHere_121 : decode cX7_clauseHere 121 = .ok (.ldc 124, 2) := by decide +kernel
theorem dX7_clauseHere_123 : decode cX7_clauseHere 123 = .ok (.invokevirtual 119, 3) := by decide +kernel
theorem dX7_clauseHere_126 : decode cX7_clauseHere 126 = .ok (.goto 8, 3) := by decide +kernel
theorem dX7_clauseHere_129 : decode cX7_clauseHere 129 = .ok (.aload_n 0, 1) := by decide +kernel
theorem dX7_clauseHere_130 : decode cX7_clauseHere 130 = .ok (.iconst 1, 1) := by decide +kernel
theorem dX7_clauseHere_131 : decode cX7_clauseHere 131 = .ok (.putfield 55, 3) := by decide +kernel
theorem dX7_clauseHere_134 : decode cX7_clauseHere 134 = .ok (.return_, 1) := by decide +kernel
theorem dX7_show_0 : decode cX7_show 0 = .ok (.aload_n 0, 1) := by decide +kernel
theorem dX7_show_1 : decode cX7_show 1 = .ok (.getfield 7, 3) := by decide +kernel
theorem dX7_show_4 : decode cX7_show 4 = .ok (.iconst 1, 1) := by decide +kernel
theorem dX7_show_5 : decode cX7_show 5 = .ok (.iaload, 1) := by decide +kernel
theorem dX7_show_6 : decode cX7_show 6 = .ok (.iconst 5, 1) := by decide +kernel
theorem dX7_show_7 : decode cX7_show 7 = .ok (.if_icmp .ne 6, 3) := by decide +kernel
theorem dX7_show_10 : decode cX7_show 10 = .ok (.bipush (-4), 2) := by decide +kernel
theorem dX7_show_12 : decode cX7_show 12 = .ok (.ireturn, 1) := by decide +kernel
theorem dX7_show_13 : decode cX7_show 13 = .ok (.aload_n 0, 1) := by decide +kernel
theorem dX7_show_14 : decode cX7_show 14 = .ok (.aload_n 0, 1) := by decide +kernel
theorem dX7_show_15 : decode cX7_show 15 = .ok (.getfield 7, 3) := by decide +kernel
theorem dX7_show_18 : decode cX7_show 18 = .ok (.iconst 1, 1) := by decide +kernel
theorem dX7_show_19 : decode cX7_show 19 = .ok (.iaload, 1) := by decide +kernel
theorem dX7_show_20 : decode cX7_show 20 = .ok (.putfield 76, 3) := by decide +kernel
theorem dX7_show_23 : decode cX7_show 23 = .ok (.aload_n 0, 1) := by decide +kernel
theorem dX7_show_24 : decode cX7_show 24 = .ok (.aload_n 0, 1) := by decide +kernel
theorem dX7_show_25 : decode cX7_show 25 = .ok (.getfield 7, 3) := by decide +kernel
theorem dX7_show_28 : decode cX7_show 28 = .ok (.iconst 4, 1) := by decide +kernel
theorem dX7_show_29 : decode cX7_show 29 = .ok (.iaload, 1) := by decide +kernel
theorem dX7_show_30 : decode cX7_show 30 = .ok (.putfield 52, 3) := by decide +kernel
theorem dX7_show_33 : decode cX7_show 33 = .ok (.aload_n 0, 1) := by decide +kernel
theorem dX7_show_34 : decode cX7_show 34 = .ok (.getfield 7, 3) := by decide +kernel
theorem dX7_show_37 : decode cX7_show 37 = .ok (.iconst 4, 1) := by decide +kernel
theorem dX7_show_38 : decode cX7_show 38 = .ok (.iconst 0, 1) := by decide +kernel
theorem dX7_show_39 : decode cX7_show 39 = .ok (.iastore, 1) := by decide +kernel
theorem dX7_show_40 : decode cX7_show 40 = .ok (.aload_n 0, 1) := by decide +kernel
theorem dX7_show_41 : decode cX7_show 41 = .ok (.getfield 7, 3) := by decide +kernel
theorem dX7_show_44 : decode cX7_show 44 = .ok (.sipush 180, 3) := by decide +kernel
theorem dX7_show_47 : decode cX7_show 47 = .ok (.aload_n 0, 1) := by decide +kernel
theorem dX7_show_48 : decode cX7_show 48 = .ok (.getfield 76, 3) := by decide +kernel
theorem dX7_show_51 : decode cX7_show 51 = .ok (.iadd, 1) := by decide +kernel
theorem dX7_show_52 : decode cX7_show 52 = .ok (.iconst 3, 1) := by decide +kernel
theorem dX7_show_53 : decode cX7_show 53 = .ok (.iastore, 1) := by decide +kernel
theorem dX7_show_54 : decode cX7_show 54 = .ok (.aload_n 0, 1) := by decide +kernel
theorem dX7_show_55 : decode cX7_show 55 = .ok (.getfield 7, 3) := by decide +kernel
theorem dX7_show_58 : decode cX7_show 58 = .ok (.sipush 185, 3) := by decide +kernel
theorem dX7_show_61 : decode cX7_show 61 = .ok (.aload_n 0, 1) := by decide +kernel
theorem dX7_show_62 : decode cX7_show 62 = .ok (.getfield 76, 3) := by decide +kernel
theorem dX7_show_65 : decode cX7_show 65 = .ok (.iadd, 1) := by decide +kernel
theorem dX7_show_66 : decode cX7_show 66 = .ok (.bipush 50, 2) := by decide +kernel
theorem dX7_show_68 : decode cX7_show 68 = .ok (.iastore, 1) := by decide +kernel
theorem dX7_show_69 : decode cX7_show 69 = .ok (.aload_n 0, 1) := by decide +kernel
theorem dX7_show_70 : decode cX7_show 70 = .ok (.getfield 7, 3) := by decide +kernel
theorem dX7_show_73 : decode cX7_show 73 = .ok (.sipush 190, 3) := by decide +kernel
theorem dX7_show_76 : decode cX7_show 76 = .ok (.aload_n 0, 1) := by decide +kernel
theorem dX7_show_77 : decode cX7_show 77 = .ok (.getfield 76, 3) := by decide +kernel
theorem dX7_show_80 : decode cX7_show 80 = .ok (.iadd, 1) := by decide +kernel
theorem dX7_show_81 : decode cX7_show 81 = .ok (.iconst 2, 1) := by decide +kernel
theorem dX7_show_82 : decode cX7_show 82 = .ok (.iastore, 1) := by decide +kernel
theorem dX7_show_83 : decode cX7_show 83 = .ok (.aload_n 0, 1) := by decide +kernel
theorem dX7_show_84 : decode cX7_show 84 = .ok (.getfield 7, 3) := by decide +kernel
theorem dX7_show_87 : decode cX7_show 87 = .ok (.sipush 195, 3) := by decide +kernel
theorem dX7_show_90 : decode cX7_show 90 = .ok (.aload_n 0, 1) := by decide +kernel
theorem dX7_show_91 : decode cX7_show 91 = .ok (.getfield 76, 3) := by decide +kernel
theorem dX7_show_94 : decode cX7_show 94 = .ok (.iadd, 1) := by decide +kernel
theorem dX7_show_95 : decode cX7_show 95 = .ok (.iconst 0, 1) := by decide +kernel
theorem dX7_show_96 : decode cX7_show 96 = .ok (.iastore, 1) := by decide +kernel
theorem dX7_show_97 : decode cX7_show 97 = .ok (.aload_n 0, 1) := by decide +kernel
theorem dX7_show_98 : decode cX7_show 98 = .ok (.iconst 0, 1) := by decide +kernel
theorem dX7_show_99 : decode cX7_show 99 = .ok (.putfield 49, 3) := by decide +kernel
theorem dX7_show_102 : decode cX7_show 102 = .ok (.aload_n 0, 1) := by decide +kernel
theorem dX7_show_103 : decode cX7_show 103 = .ok (.iconst 0, 1) := by decide +kernel
theorem dX7_show_104 : decode cX7_show 104 = .ok (.putfield 55, 3) := by decide +kernel
theorem dX7_show_107 : decode cX7_show 107 = .ok (.aload_n 0, 1) := by decide +kernel
theorem dX7_show_108 : decode cX7_show 108 = .ok (.iconst 0, 1) := by decide +kernel
theorem dX7_show_109 : decode cX7_show 109 = .ok (.putfield 79, 3) := by decide +kernel
theorem dX7_show_112 : decode cX7_show 112 = .ok (.iconst 1, 1) := by decide +kernel
theorem dX7_show_113 : decode cX7_show 113 = .ok (.istore_n 1, 1) := by decide +kernel
theorem dX7_show_114 : decode cX7_show 114 = .ok (.aload_n 0, 1) := by decide +kernel
theorem dX7_show_115 : decode cX7_show 115 = .ok (.invokevirtual 126, 3) := by decide +kernel
theorem dX7_show_118 : decode cX7_show 118 = .ok (.aload_n 0, 1) := by decide +kernel
theorem dX7_show_119 : decode cX7_show 119 = .ok (.getfield 55, 3) := by decide +kernel
theorem dX7_show_122 : decode cX7_show 122 = .ok (.ifCond .ne 38, 3) := by decide +kernel
theorem dX7_show_125 : decode cX7_show 125 = .ok (.iload_n 1, 1) := by decide +kernel
theorem dX7_show_126 : decode cX7_show 126 = .ok (.bipush 10, 2) := by decide +kernel
theorem dX7_show_128 : decode cX7_show 128 = .ok (.if_icmp .ge 32, 3) := by decide +kernel
theorem dX7_show_131 : decode cX7_show 131 = .ok (.aload_n 0, 1) := by decide +kernel
theorem dX7_show_132 : decode cX7_show 132 = .ok (.invokevirtual 59, 3) := by decide +kernel
theorem dX7_show_135 : decode cX7_show 135 = .ok (.bipush 59, 2) := by decide +kernel
theorem dX7_show_137 : decode cX7_show 137 = .ok (.if_icmp .ne 23, 3) := by decide +kernel
theorem dX7_show_140 : decode cX7_show 140 = .ok (.aload_n 0, 1) := by decide +kernel
theorem dX7_show_141 : decode cX7_show 141 = .ok (.dup, 1) := by decide +kernel
theorem dX7_show_142 : decode cX7_show 142 = .ok (.getfield 49, 3) := by decide +kernel
theorem dX7_show_145 : decode cX7_show 145 = .ok (.iconst 1, 1) := by decide +kernel
theorem dX7_show_146 : decode cX7_show 146 = .ok (.iadd, 1) := by decide +kernel
theorem dX7_show_147 : decode cX7_show 147 = .ok (.putfield 49, 3) := by decide +kernel
theorem dX7_show_150 : decode cX7_show 150 = .ok (.aload_n 0, 1) := by decide +kernel
theorem dX7_show_151 : decode cX7_show 151 = .ok (.invokevirtual 126, 3) := by decide +kernel
theorem dX7_show_154 : decode cX7_show 154 = .ok (.iinc 1 1, 3) := by decide +kernel
theorem dX7_show_157 : decode cX7_show 157 = .ok (.goto (-39), 3) := by decide +kernel
theorem dX7_show_160 : decode cX7_show 160 = .ok (.aload_n 0, 1) := by decide +kernel
theorem dX7_show_161 : decode cX7_show 161 = .ok (.getfield 55, 3) := by decide +kernel
theorem dX7_show_164 : decode cX7_show 164 = .ok (.ifCond .ne 14, 3) := by decide +kernel
theorem dX7_show_167 : decode cX7_show 167 = .ok (.aload_n 0, 1) := by decide +kernel
theorem dX7_show_168 : decode cX7_show 168 = .ok (.getfield 49, 3) := by decide +kernel
theorem dX7_show_171 : decode cX7_show 171 = .ok (.aload_n 0, 1) := by decide +kernel
theorem dX7_show_172 : decode cX7_show 172 = .ok (.getfield 52, 3) := by decide +kernel
theorem dX7_show_175 : decode cX7_show 175 = .ok (.if_icmp .eq 11, 3) := by decide +kernel
theorem dX7_show_178 : decode cX7_show 178 = .ok (.bipush (-10), 2) := by decide +kernel
theorem dX7_show_180 : decode cX7_show 180 = .ok (.aload_n 0, 1) := by decide +kernel
theorem dX7_show_181 : decode cX7_show 181 = .ok (.getfield 49, 3) := by decide +kernel
theorem dX7_show_184 : decode cX7_show 184 = .ok (.isub, 1) := by decide +kernel
theorem dX7_show_185 : decode cX7_show 185 = .ok (.ireturn, 1) := by decide +kernel
theorem dX7_show_186 : decode cX7_show 186 = .ok (.aload_n 0, 1) := by decide +kernel
theorem dX7_show_187 : decode cX7_show 187 = .ok (.getfield 7, 3) := by decide +kernel
theorem dX7_show_190 : decode cX7_show 190 = .ok (.iconst 1, 1) := by decide +kernel
theorem dX7_show_191 : decode cX7_show 191 = .ok (.dup2, 1) := by decide +kernel
theorem dX7_show_192 : decode cX7_show 192 = .ok (.iaload, 1) := by decide +kernel
theorem dX7_show_193 : decode cX7_show 193 = .ok (.iconst 1, 1) := by decide +kernel
theorem dX7_show_194 : decode cX7_show 194 = .ok (.iadd, 1) := by decide +kernel
theorem dX7_show_195 : decode cX7_show 195 = .ok (.iastore, 1) := by decide +kernel
theorem dX7_show_196 : decode cX7_show 196 = .ok (.aload_n 0, 1) := by decide +kernel
theorem dX7_show_197 : decode cX7_show 197 = .ok (.getfield 7, 3) := by decide +kernel
theorem dX7_show_200 : decode cX7_show 200 = .ok (.bipush 6, 2) := by decide +kernel
theorem dX7_show_202 : decode cX7_show 202 = .ok (.aload_n 0, 1) := by decide +kernel
theorem dX7_show_203 : decode cX7_show 203 = .ok (.getfield 76, 3) := by decide +kernel
theorem dX7_show_206 : decode cX7_show 206 = .ok (.iastore, 1) := by decide +kernel
theorem dX7_show_207 : decode cX7_show 207 = .ok (.aload_n 0, 1) := by decide +kernel
theorem dX7_show_208 : decode cX7_show 208 = .ok (.getfield 76, 3) := by decide +kernel
theorem dX7_show_211 : decode cX7_show 211 = .ok (.ireturn, 1) := by decide +kernel
theorem dX7_tellsOf_0 : decode cX7_tellsOf 0 = .ok (.aload_n 0, 1) := by decide +kernel
theorem dX7_tellsOf_1 : decode cX7_tellsOf 1 = .ok (.getfield 7, 3) := by decide +kernel
theorem dX7_tellsOf_4 : decode cX7_tellsOf 4 = .ok (.bipush 6, 2) := by decide +kernel
theorem dX7_tellsOf_6 : decode cX7_tellsOf 6 = .ok (.iaload, 1) := by decide +kernel
theorem dX7_tellsOf_7 : decode cX7_tellsOf 7 = .ok (.iconst (-1), 1) := by decide +kernel
theorem dX7_tellsOf_8 : decode cX7_tellsOf 8 = .ok (.if_icmp .ne 7, 3) := by decide +kernel
theorem dX7_tellsOf_11 : decode cX7_tellsOf 11 = .ok (.iload_n 2, 1) := by decide +kernel
theorem dX7_tellsOf_12 : decode cX7_tellsOf 12 = .ok (.goto 17, 3) := by decide +kernel
theorem dX7_tellsOf_15 : decode cX7_tellsOf 15 = .ok (.aload_n 0, 1) := by decide +kernel
theorem dX7_tellsOf_16 : decode cX7_tellsOf 16 = .ok (.getfield 7, 3) := by decide +kernel
theorem dX7_tellsOf_19 : decode cX7_tellsOf 19 = .ok (.iload_n 1, 1) := by decide +kernel
theorem dX7_tellsOf_20 : decode cX7_tellsOf 20 = .ok (.aload_n 0, 1) := by decide +kernel
theorem dX7_tellsOf_21 : decode cX7_tellsOf 21 = .ok (.getfield 7, 3) := by decide +kernel
theorem dX7_tellsOf_24 : decode cX7_tellsOf 24 = .ok (.bipush 6, 2) := by decide +kernel
theorem dX7_tellsOf_26 : decode cX7_tellsOf 26 = .ok (.iaload, 1) := by decide +kernel
theorem dX7_tellsOf_27 : decode cX7_tellsOf 27 = .ok (.iadd, 1) := by decide +kernel
theorem dX7_tellsOf_28 : decode cX7_tellsOf 28 = .ok (.iaload, 1) := by decide +kernel
theorem dX7_tellsOf_29 : decode cX7_tellsOf 29 = .ok (.ireturn, 1) := by decide +kernel
theorem dX7_atLeastOne_0 : decode cX7_atLeastOne 0 = .ok (.iload_n 1, 1) := by decide +kernel
theorem dX7_atLeastOne_1 : decode cX7_atLeastOne 1 = .ok (.iconst 1, 1) := by decide +kernel
theorem dX7_atLeastOne_2 : decode cX7_atLeastOne 2 = .ok (.if_icmp .ge 7, 3) := by decide +kernel
theorem dX7_atLeastOne_5 : decode cX7_atLeastOne 5 = .ok (.iconst 1, 1) := by decide +kernel
theorem dX7_atLeastOne_6 : decode cX7_atLeastOne 6 = .ok (.goto 4, 3) := by decide +kernel
theorem dX7_atLeastOne_9 : decode cX7_atLeastOne 9 = .ok (.iload_n 1, 1) := by decide +kernel
theorem dX7_atLeastOne_10 : decode cX7_atLeastOne 10 = .ok (.ireturn, 1) := by decide +kernel
theorem dX7_speed_0 : decode cX7_speed 0 = .ok (.aload_n 0, 1) := by decide +kernel
theorem dX7_speed_1 : decode cX7_speed 1 = .ok (.sipush 180, 3) := by decide +kernel
theorem dX7_speed_4 : decode cX7_speed 4 = .ok (.iconst 3, 1) := by decide +kernel
theorem dX7_speed_5 : decode cX7_speed 5 = .ok (.invokevirtual 129, 3) := by decide +kernel
theorem dX7_speed_8 : decode cX7_speed 8 = .ok (.ireturn, 1) := by decide +kernel
theorem dX7_told_0 : decode cX7_told 0 = .ok (.iload_n 1, 1) := by decide +kernel
theorem dX7_told_1 : decode cX7_told 1 = .ok (.tableswitch 59 0 2 #[27, 32, 46], 27) := by decide +kernel
theorem dX7_told_28 : decode cX7_told 28 = .ok (.aload_n 0, 1) := by decide +kernel
theorem dX7_told_29 : decode cX7_told 29 = .ok (.invokevirtual 133, 3) := by decide +kernel
theorem dX7_told_32 : decode cX7_told 32 = .ok (.ireturn, 1) := by decide +kernel
theorem dX7_told_33 : decode cX7_told 33 = .ok (.aload_n 0, 1) := by decide +kernel
theorem dX7_told_34 : decode cX7_told 34 = .ok (.aload_n 0, 1) := by decide +kernel
theorem dX7_told_35 : decode cX7_told 35 = .ok (.sipush 185, 3) := by decide +kernel
theorem dX7_told_38 : decode cX7_told 38 = .ok (.bipush 50, 2) := by decide +kernel
theorem dX7_told_40 : decode cX7_told 40 = .ok (.invokevirtual 129, 3) := by decide +kernel
theorem dX7_told_43 : decode cX7_told 43 = .ok (.invokevirtual 136, 3) := by decide +kernel
theorem dX7_told_46 : decode cX7_told 46 = .ok (.ireturn, 1) := by decide +kernel
theorem dX7_told_47 : decode cX7_told 47 = .ok (.aload_n 0, 1) := by decide +kernel
theorem dX7_told_48 : decode cX7_told 48 = .ok (.aload_n 0, 1) := by decide +kernel
theorem dX7_told_49 : decode cX7_told 49 = .ok (.sipush 190, 3) := by decide +kernel
theorem dX7_told_52 : decode cX7_told 52 = .ok (.iconst 2, 1) := by decide +kernel
theorem dX7_told_53 : decode cX7_told 53 = .ok (.invokevirtual 129, 3) := by decide +kernel
theorem dX7_told_56 : decode cX7_told 56 = .ok (.invokevirtual 136, 3) := by decide +kernel
theorem dX7_told_59 : decode cX7_told 59 = .ok (.ireturn, 1) := by decide +kernel
theorem dX7_told_60 : decode cX7_told 60 = .ok (.iconst (-1), 1) := by decide +kernel
theorem dX7_told_61 : decode cX7_told 61 = .ok (.ireturn, 1) := by decide +kernel
theorem dX7_looks_0 : decode cX7_looks 0 = .ok (.aload_n 0, 1) := by decide +kernel
theorem dX7_looks_1 : decode cX7_looks 1 = .ok (.getfield 16, 3) := by decide +kernel
theorem dX7_looks_4 : decode cX7_looks 4 = .ok (.iconst 0, 1) := by decide +kernel
theorem dX7_looks_5 : decode cX7_looks 5 = .ok (.iload_n 1, 1) := by decide +kernel
theorem dX7_looks_6 : decode cX7_looks 6 = .ok (.iastore, 1) := by decide +kernel
theorem dX7_looks_7 : decode cX7_looks 7 = .ok (.aload_n 0, 1) := by decide +kernel
theorem dX7_looks_8 : decode cX7_looks 8 = .ok (.getfield 16, 3) := by decide +kernel
theorem dX7_looks_11 : decode cX7_looks 11 = .ok (.iconst 1, 1) := by decide +kernel
theorem dX7_looks_12 : decode cX7_looks 12 = .ok (.aload_n 0, 1) := by decide +kernel
theorem dX7_looks_13 : decode cX7_looks 13 = .ok (.getfield 7, 3) := by decide +kernel
theorem dX7_looks_16 : decode cX7_looks 16 = .ok (.sipush 150, 3) := by decide +kernel
theorem dX7_looks_19 : decode cX7_looks 19 = .ok (.iload_n 1, 1) := by decide +kernel
theorem dX7_looks_20 : decode cX7_looks 20 = .ok (.iadd, 1) := by decide +kernel
theorem dX7_looks_21 : decode cX7_looks 21 = .ok (.iaload, 1) := by decide +kernel
theorem dX7_looks_22 : decode cX7_looks 22 = .ok (.bipush 8, 2) := by decide +kernel
theorem dX7_looks_24 : decode cX7_looks 24 = .ok (.idiv, 1) := by decide +kernel
theorem dX7_looks_25 : decode cX7_looks 25 = .ok (.iastore, 1) := by decide +kernel
theorem dX7_looks_26 : decode cX7_looks 26 = .ok (.aload_n 0, 1) := by decide +kernel
theorem dX7_looks_27 : decode cX7_looks 27 = .ok (.getfield 16, 3) := by decide +kernel
theorem dX7_looks_30 : decode cX7_looks 30 = .ok (.iconst 2, 1) := by decide +kernel
theorem dX7_looks_31 : decode cX7_looks 31 = .ok (.aload_n 0, 1) := by decide +kernel
theorem dX7_looks_32 : decode cX7_looks 32 = .ok (.getfield 7, 3) := by decide +kernel
theorem dX7_looks_35 : decode cX7_looks 35 = .ok (.sipush 150, 3) := by decide +kernel
theorem dX7_looks_38 : decode cX7_looks 38 = .ok (.iload_n 1, 1) := by decide +kernel
theorem dX7_looks_39 : decode cX7_looks 39 = .ok (.iadd, 1) := by decide +kernel
theorem dX7_looks_40 : decode cX7_looks 40 = .ok (.iaload, 1) := by decide +kernel
theorem dX7_looks_41 : decode cX7_looks 41 = .ok (.bipush 8, 2) := by decide +kernel
theorem dX7_looks_43 : decode cX7_looks 43 = .ok (.irem, 1) := by decide +kernel
theorem dX7_looks_44 : decode cX7_looks 44 = .ok (.iastore, 1) := by decide +kernel
theorem dX7_looks_45 : decode cX7_looks 45 = .ok (.aload_n 0, 1) := by decide +kernel
theorem dX7_looks_46 : decode cX7_looks 46 = .ok (.getfield 16, 3) := by decide +kernel
theorem dX7_looks_49 : decode cX7_looks 49 = .ok (.iconst 3, 1) := by decide +kernel
theorem dX7_looks_50 : decode cX7_looks 50 = .ok (.iload_n 2, 1) := by decide +kernel
theorem dX7_looks_51 : decode cX7_looks 51 = .ok (.iastore, 1) := by decide +kernel
theorem dX7_looks_52 : decode cX7_looks 52 = .ok (.aload_n 0, 1) := by decide +kernel
theorem dX7_looks_53 : decode cX7_looks 53 = .ok (.getfield 16, 3) := by decide +kernel
theorem dX7_looks_56 : decode cX7_looks 56 = .ok (.iconst 4, 1) := by decide +kernel
theorem dX7_looks_57 : decode cX7_looks 57 = .ok (.aload_n 0, 1) := by decide +kernel
theorem dX7_looks_58 : decode cX7_looks 58 = .ok (.getfield 7, 3) := by decide +kernel
theorem dX7_looks_61 : decode cX7_looks 61 = .ok (.sipush 140, 3) := by decide +kernel
theorem dX7_looks_64 : decode cX7_looks 64 = .ok (.iload_n 1, 1) := by decide +kernel
theorem dX7_looks_65 : decode cX7_looks 65 = .ok (.iadd, 1) := by decide +kernel
theorem dX7_looks_66 : decode cX7_looks 66 = .ok (.iaload, 1) := by decide +kernel
theorem dX7_looks_67 : decode cX7_looks 67 = .ok (.iastore, 1) := by decide +kernel
theorem dX7_looks_68 : decode cX7_looks 68 = .ok (.aload_n 0, 1) := by decide +kernel
theorem dX7_looks_69 : decode cX7_looks 69 = .ok (.iconst 1, 1) := by decide +kernel
theorem dX7_looks_70 : decode cX7_looks 70 = .ok (.putfield 139, 3) := by decide +kernel
theorem dX7_looks_73 : decode cX7_looks 73 = .ok (.aload_n 0, 1) := by decide +kernel
theorem dX7_looks_74 : decode cX7_looks 74 = .ok (.iconst 0, 1) := by decide +kernel
theorem dX7_looks_75 : decode cX7_looks 75 = .ok (.putfield 142, 3) := by decide +kernel
theorem dX7_looks_78 : decode cX7_looks 78 = .ok (.aload_n 0, 1) := by decide +kernel
theorem dX7_looks_79 : decode cX7_looks 79 = .ok (.sipush 195, 3) := by decide +kernel
theorem dX7_looks_82 : decode cX7_looks 82 = .ok (.iconst 0, 1) := by decide +kernel
theorem dX7_looks_83 : decode cX7_looks 83 = .ok (.invokevirtual 129, 3) := by decide +kernel
theorem dX7_looks_86 : decode cX7_looks 86 = .ok (.istore_n 3, 1) := by decide +kernel
theorem dX7_looks_87 : decode cX7_looks 87 = .ok (.sipush 200, 3) := by decide +kernel
theorem dX7_looks_90 : decode cX7_looks 90 = .ok (.sipush 140, 3) := by decide +kernel
theorem dX7_looks_93 : decode cX7_looks 93 = .ok (.aload_n 0, 1) := by decide +kernel
theorem dX7_looks_94 : decode cX7_looks 94 = .ok (.getfield 7, 3) := by decide +kernel
theorem dX7_looks_97 : decode cX7_looks 97 = .ok (.bipush 6, 2) := by decide +kernel
theorem dX7_looks_99 : decode cX7_looks 99 = .ok (.iaload, 1) := by decide +kernel
theorem dX7_looks_100 : decode cX7_looks 100 = .ok (.imul, 1) := by decide +kernel
theorem dX7_looks_101 : decode cX7_looks 101 = .ok (.iadd, 1) := by decide +kernel
theorem dX7_looks_102 : decode cX7_looks 102 = .ok (.istore 4, 2) := by decide +kernel
theorem dX7_looks_104 : decode cX7_looks 104 = .ok (.iconst 0, 1) := by decide +kernel
theorem dX7_looks_105 : decode cX7_looks 105 = .ok (.istore 5, 2) := by decide +kernel
theorem dX7_looks_107 : decode cX7_looks 107 = .ok (.iload 4, 2) := by decide +kernel
theorem dX7_looks_109 : decode cX7_looks 109 = .ok (.istore 6, 2) := by decide +kernel
theorem dX7_looks_111 : decode cX7_looks 111 = .ok (.iload 6, 2) := by decide +kernel
theorem dX7_looks_113 : decode cX7_looks 113 = .ok (.iload 4, 2) := by decide +kernel
theorem dX7_looks_115 : decode cX7_looks 115 = .ok (.iload_n 3, 1) := by decide +kernel
theorem dX7_looks_116 : decode cX7_looks 116 = .ok (.iadd, 1) := by decide +kernel
theorem dX7_looks_117 : decode cX7_looks 117 = .ok (.if_icmp .ge 312, 3) := by decide +kernel
theorem dX7_looks_120 : decode cX7_looks 120 = .ok (.aload_n 0, 1) := by decide +kernel
theorem dX7_looks_121 : decode cX7_looks 121 = .ok (.getfield 7, 3) := by decide +kernel
theorem dX7_looks_124 : decode cX7_looks 124 = .ok (.iload 6, 2) := by decide +kernel
theorem dX7_looks_126 : decode cX7_looks 126 = .ok (.iaload, 1) := by decide +kernel
theorem dX7_looks_127 : decode cX7_looks 127 = .ok (.istore 7, 2) := by decide +kernel
theorem dX7_looks_129 : decode cX7_looks 129 = .ok (.iload 7, 2) := by decide +kernel
theorem dX7_looks_131 : decode cX7_looks 131 = .ok (.ifCond .lt 97, 3) := by decide +kernel
theorem dX7_looks_134 : decode cX7_looks 134 = .ok (.aload_n 0, 1) := by decide +kernel
theorem dX7_looks_135 : decode cX7_looks 135 = .ok (.getfield 16, 3) := by decide +kernel
theorem dX7_looks_138 : decode cX7_looks 138 = .ok (.iload 7, 2) := by decide +kernel
theorem dX7_looks_140 : decode cX7_looks 140 = .ok (.bipush 8, 2) := by decide +kernel
theorem dX7_looks_142 : decode cX7_looks 142 = .ok (.irem, 1) := by decide +kernel
theorem dX7_looks_143 : decode cX7_looks 143 = .ok (.iaload, 1) := by decide +kernel
theorem dX7_looks_144 : decode cX7_looks 144 = .ok (.istore 8, 2) := by decide +kernel
theorem dX7_looks_146 : decode cX7_looks 146 = .ok (.iload 7, 2) := by decide +kernel
theorem dX7_looks_148 : decode cX7_looks 148 = .ok (.bipush 8, 2) := by decide +kernel
theorem dX7_looks_150 : decode cX7_looks 150 = .ok (.idiv, 1) := by decide +kernel
theorem dX7_looks_151 : decode cX7_looks 151 = .ok (.iconst 4, 1) := by decide +kernel
theorem dX7_looks_152 : decode cX7_looks 152 = .ok (.irem, 1) := by decide +kernel
theorem dX7_looks_153 : decode cX7_looks 153 = .ok (.istore 9, 2) := by decide +kernel
theorem dX7_looks_155 : decode cX7_looks 155 = .ok (.iload 7, 2) := by decide +kernel
theorem dX7_looks_157 : decode cX7_looks 157 = .ok (.bipush 32, 2) := by decide +kernel
theorem dX7_looks_159 : decode cX7_looks 159 = .ok (.idiv, 1) := by decide +kernel
theorem dX7_looks_160 : decode cX7_looks 160 = .ok (.istore 10, 2) := by decide +kernel
theorem dX7_looks_162 : decode cX7_looks 162 = .ok (.aload_n 0, 1) := by decide +kernel
theorem dX7_looks_163 : decode cX7_looks 163 = .ok (.getfield 19, 3) := by decide +kernel
theorem dX7_looks_166 : decode cX7_looks 166 = .ok (.iload 5, 2) := by decide +kernel
theorem dX7_looks_168 : decode cX7_looks 168 = .ok (.iload 9, 2) := by decide +kernel
theorem dX7_looks_170 : decode cX7_looks 170 = .ok (.ifCond .ne 18, 3) := by decide +kernel
theorem dX7_looks_173 : decode cX7_looks 173 = .ok (.iload 8, 2) := by decide +kernel
theorem dX7_looks_175 : decode cX7_looks 175 = .ok (.iload 10, 2) := by decide +kernel
theorem dX7_looks_177 : decode cX7_looks 177 = .ok (.if_icmp .ge 7, 3) := by decide +kernel
theorem dX7_looks_180 : decode cX7_looks 180 = .ok (.iconst 1, 1) := by decide +kernel
theorem dX7_looks_181 : decode cX7_looks 181 = .ok (.goto 40, 3) := by decide +kernel
theorem dX7_looks_184 : decode cX7_looks 184 = .ok (.iconst 0, 1) := by decide +kernel
theorem dX7_looks_185 : decode cX7_looks 185 = .ok (.goto 36, 3) := by decide +kernel
theorem dX7_looks_188 : decode cX7_looks 188 = .ok (.iload 9, 2) := by decide +kernel
theorem dX7_looks_190 : decode cX7_looks 190 = .ok (.iconst 1, 1) := by decide +kernel
theorem dX7_looks_191 : decode cX7_looks 191 = .ok (.if_icmp .ne 18, 3) := by decide +kernel
theorem dX7_looks_194 : decode cX7_looks 194 = .ok (.iload 8, 2) := by decide +kernel
theorem dX7_looks_196 : decode cX7_looks 196 = .ok (.iload 10, 2) := by decide +kernel
theorem dX7_looks_198 : decode cX7_looks 198 = .ok (.if_icmp .ne 7, 3) := by decide +kernel
theorem dX7_looks_201 : decode cX7_looks 201 = .ok (.iconst 1, 1) := by decide +kernel
theorem dX7_looks_202 : decode cX7_looks 202 = .ok (.goto 19, 3) := by decide +kernel
theorem dX7_looks_205 : decode cX7_looks 205 = .ok (.iconst 0, 1) := by decide +kernel
theorem dX7_looks_206 : decode cX7_looks 206 = .ok (.goto 15, 3) := by decide +kernel
theorem dX7_looks_209 : decode cX7_looks 209 = .ok (.iload 8, 2) := by decide +kernel
theorem dX7_looks_211 : decode cX7_looks 211 = .ok (.iload 10, 2) := by decide +kernel
theorem dX7_looks_213 : decode cX7_looks 213 = .ok (.if_icmp .le 7, 3) := by decide +kernel
theorem dX7_looks_216 : decode cX7_looks 216 = .ok (.iconst 1, 1) := by decide +kernel
theorem dX7_looks_217 : decode cX7_looks 217 = .ok (.goto 4, 3) := by decide +kernel
theorem dX7_looks_220 : decode cX7_looks 220 = .ok (.iconst 0, 1) := by decide +kernel
theorem dX7_looks_221 : decode cX7_looks 221 = .ok (.bastore, 1) := by decide +kernel
theorem dX7_looks_222 : decode cX7_looks 222 = .ok (.iinc 5 1, 3) := by decide +kernel
theorem dX7_looks_225 : decode cX7_looks 225 = .ok (.goto 198, 3) := by decide +kernel
theorem dX7_looks_228 : decode cX7_looks 228 = .ok (.iload 7, 2) := by decide +kernel
theorem dX7_looks_230 : decode cX7_looks 230 = .ok (.iconst (-1), 1) := by decide +kernel
theorem dX7_looks_231 : decode cX7_looks 231 = .ok (.if_icmp .ne 32, 3) := by decide +kernel
theorem dX7_looks_234 : decode cX7_looks 234 = .ok (.aload_n 0, 1) := by decide +kernel
theorem dX7_looks_235 : decode cX7_looks 235 = .ok (.getfield 19, 3) := by decide +kernel
theorem dX7_looks_238 : decode cX7_looks 238 = .ok (.iload 5, 2) := by decide +kernel
theorem dX7_looks_240 : decode cX7_looks 240 = .ok (.iconst 1, 1) := by decide +kernel
theorem dX7_looks_241 : decode cX7_looks 241 = .ok (.isub, 1) := by decide +kernel
theorem dX7_looks_242 : decode cX7_looks 242 = .ok (.aload_n 0, 1) := by decide +kernel
theorem dX7_looks_243 : decode cX7_looks 243 = .ok (.getfield 19, 3) := by decide +kernel
theorem dX7_looks_246 : decode cX7_looks 246 = .ok (.iload 5, 2) := by decide +kernel
theorem dX7_looks_248 : decode cX7_looks 248 = .ok (.iconst 1, 1) := by decide +kernel
theorem dX7_looks_249 : decode cX7_looks 249 = .ok (.isub, 1) := by decide +kernel
theorem dX7_looks_250 : decode cX7_looks 250 = .ok (.baload, 1) := by decide +kernel
theorem dX7_looks_251 : decode cX7_looks 251 = .ok (.ifCond .ne 7, 3) := by decide +kernel
theorem dX7_looks_254 : decode cX7_looks 254 = .ok (.iconst 1, 1) := by decide +kernel
theorem dX7_looks_255 : decode cX7_looks 255 = .ok (.goto 4, 3) := by decide +kernel
theorem dX7_looks_258 : decode cX7_looks 258 = .ok (.iconst 0, 1) := by decide +kernel
theorem dX7_looks_259 : decode cX7_looks 259 = .ok (.bastore, 1) := by decide +kernel
theorem dX7_looks_260 : decode cX7_looks 260 = .ok (.goto 163, 3) := by decide +kernel
theorem dX7_looks_263 : decode cX7_looks 263 = .ok (.iload 7, 2) := by decide +kernel
theorem dX7_looks_265 : decode cX7_looks 265 = .ok (.bipush (-10), 2) := by decide +kernel
theorem dX7_looks_267 : decode cX7_looks 267 = .ok (.if_icmp .le 82, 3) := by decide +kernel
theorem dX7_looks_270 : decode cX7_looks 270 = .ok (.iinc 5 (-1), 3) := by decide +kernel
theorem dX7_looks_273 : decode cX7_looks 273 = .ok (.aload_n 0, 1) := by decide +kernel
theorem dX7_looks_274 : decode cX7_looks 274 = .ok (.getfield 19, 3) := by decide +kernel
theorem dX7_looks_277 : decode cX7_looks 277 = .ok (.iload 5, 2) := by decide +kernel
theorem dX7_looks_279 : decode cX7_looks 279 = .ok (.iconst 1, 1) := by decide +kernel
theorem dX7_looks_280 : decode cX7_looks 280 = .ok (.isub, 1) := by decide +kernel
theorem dX7_looks_281 : decode cX7_looks 281 = .ok (.iload 7, 2) := by decide +kernel
theorem dX7_looks_283 : decode cX7_looks 283 = .ok (.bipush (-2), 2) := by decide +kernel
theorem dX7_looks_285 : decode cX7_looks 285 = .ok (.if_icmp .ne 33, 3) := by decide +kernel
theorem dX7_looks_288 : decode cX7_looks 288 = .ok (.aload_n 0, 1) := by decide +kernel
theorem dX7_looks_289 : decode cX7_looks 289 = .ok (.getfield 19, 3) := by decide +kernel
theorem dX7_looks_292 : decode cX7_looks 292 = .ok (.iload 5, 2) := by decide +kernel
theorem dX7_looks_294 : decode cX7_looks 294 = .ok (.iconst 1, 1) := by decide +kernel
theorem dX7_looks_295 : decode cX7_looks 295 = .ok (.isub, 1) := by decide +kernel
theorem dX7_looks_296 : decode cX7_looks 296 = .ok (.baload, 1) := by decide +kernel
theorem dX7_looks_297 : decode cX7_looks 297 = .ok (.ifCond .eq 17, 3) := by decide +kernel
theorem dX7_looks_300 : decode cX7_looks 300 = .ok (.aload_n 0, 1) := by decide +kernel
theorem dX7_looks_301 : decode cX7_looks 301 = .ok (.getfield 19, 3) := by decide +kernel
theorem dX7_looks_304 : decode cX7_looks 304 = .ok (.iload 5, 2) := by decide +kernel
theorem dX7_looks_306 : decode cX7_looks 306 = .ok (.baload, 1) := by decide +kernel
theorem dX7_looks_307 : decode cX7_looks 307 = .ok (.ifCond .eq 7, 3) := by decide +kernel
theorem dX7_looks_310 : decode cX7_looks 310 = .ok (.iconst 1, 1) := by decide +kernel
theorem dX7_looks_311 : decode cX7_looks 311 = .ok (.goto 34, 3) := by decide +kernel
theorem dX7_looks_314 : decode cX7_looks 314 = .ok (.iconst 0, 1) := by decide +kernel
theorem dX7_looks_315 : decode cX7_looks 315 = .ok (.goto 30, 3) := by decide +kernel
theorem dX7_looks_318 : decode cX7_looks 318 = .ok (.aload_n 0, 1) := by decide +kernel
theorem dX7_looks_319 : decode cX7_looks 319 = .ok (.getfield 19, 3) := by decide +kernel
theorem dX7_looks_322 : decode cX7_looks 322 = .ok (.iload 5, 2) := by decide +kernel
theorem dX7_looks_324 : decode cX7_looks 324 = .ok (.iconst 1, 1) := by decide +kernel
theorem dX7_looks_325 : decode cX7_looks 325 = .ok (.isub, 1) := by decide +kernel
theorem dX7_looks_326 : decode cX7_looks 326 = .ok (.baload, 1) := by decide +kernel
theorem dX7_looks_327 : decode cX7_looks 327 = .ok (.ifCond .ne 13, 3) := by decide +kernel
theorem dX7_looks_330 : decode cX7_looks 330 = .ok (.aload_n 0, 1) := by decide +kernel
theorem dX7_looks_331 : decode cX7_looks 331 = .ok (.getfield 19, 3) := by decide +kernel
theorem dX7_looks_334 : decode cX7_looks 334 = .ok (.iload 5, 2) := by decide +kernel
theorem dX7_looks_336 : decode cX7_looks 336 = .ok (.baload, 1) := by decide +kernel
theorem dX7_looks_337 : decode cX7_looks 337 = .ok (.ifCond .eq 7, 3) := by decide +kernel
theorem dX7_looks_340 : decode cX7_looks 340 = .ok (.iconst 1, 1) := by decide +kernel
theorem dX7_looks_341 : decode cX7_looks 341 = .ok (.goto 4, 3) := by decide +kernel
theorem dX7_looks_344 : decode cX7_looks 344 = .ok (.iconst 0, 1) := by decide +kernel
theorem dX7_looks_345 : decode cX7_looks 345 = .ok (.bastore, 1) := by decide +kernel
theorem dX7_looks_346 : decode cX7_looks 346 = .ok (.goto 77, 3) := by decide +kernel
theorem dX7_looks_349 : decode cX7_looks 349 = .ok (.iconst 0, 1) := by decide +kernel
theorem dX7_looks_350 : decode cX7_looks 350 = .ok (.istore 5, 2) := by decide +kernel
theorem dX7_looks_352 : decode cX7_looks 352 = .ok (.aload_n 0, 1) := by decide +kernel
theorem dX7_looks_353 : decode cX7_looks 353 = .ok (.dup, 1) := by decide +kernel
theorem dX7_looks_354 : decode cX7_looks 354 = .ok (.getfield 139, 3) := by decide +kernel
theorem dX7_looks_357 : decode cX7_looks 357 = .ok (.aload_n 0, 1) := by decide +kernel
theorem dX7_looks_358 : decode cX7_looks 358 = .ok (.getfield 19, 3) := by decide +kernel
theorem dX7_looks_361 : decode cX7_looks 361 = .ok (.iconst 0, 1) := by decide +kernel
theorem dX7_looks_362 : decode cX7_looks 362 = .ok (.baload, 1) := by decide +kernel
theorem dX7_looks_363 : decode cX7_looks 363 = .ok (.ifCond .eq 19, 3) := by decide +kernel
theorem dX7_looks_366 : decode cX7_looks 366 = .ok (.iload 7, 2) := by decide +kernel
theorem dX7_looks_368 : decode cX7_looks 368 = .ok (.sipush (-200), 3) := by decide +kernel
theorem dX7_looks_371 : decode cX7_looks 371 = .ok (.if_icmp .le 11, 3) := by decide +kernel
theorem dX7_looks_374 : decode cX7_looks 374 = .ok (.bipush (-10), 2) := by decide +kernel
theorem dX7_looks_376 : decode cX7_looks 376 = .ok (.iload 7, 2) := by decide +kernel
theorem dX7_looks_378 : decode cX7_looks 378 = .ok (.isub, 1) := by decide +kernel
theorem dX7_looks_379 : decode cX7_looks 379 = .ok (.goto 4, 3) := by decide +kernel
theorem dX7_looks_382 : decode cX7_looks 382 = .ok (.iconst 0, 1) := by decide +kernel
theorem dX7_looks_383 : decode cX7_looks 383 = .ok (.iadd, 1) := by decide +kernel
theorem dX7_looks_384 : decode cX7_looks 384 = .ok (.putfield 139, 3) := by decide +kernel
theorem dX7_looks_387 : decode cX7_looks 387 = .ok (.aload_n 0, 1) := by decide +kernel
theorem dX7_looks_388 : decode cX7_looks 388 = .ok (.dup, 1) := by decide +kernel
theorem dX7_looks_389 : decode cX7_looks 389 = .ok (.getfield 142, 3) := by decide +kernel
theorem dX7_looks_392 : decode cX7_looks 392 = .ok (.aload_n 0, 1) := by decide +kernel
theorem dX7_looks_393 : decode cX7_looks 393 = .ok (.getfield 19, 3) := by decide +kernel
theorem dX7_looks_396 : decode cX7_looks 396 = .ok (.iconst 0, 1) := by decide +kernel
theorem dX7_looks_397 : decode cX7_looks 397 = .ok (.baload, 1) := by decide +kernel
theorem dX7_looks_398 : decode cX7_looks 398 = .ok (.ifCond .eq 20, 3) := by decide +kernel
theorem dX7_looks_401 : decode cX7_looks 401 = .ok (.iload 7, 2) := by decide +kernel
theorem dX7_looks_403 : decode cX7_looks 403 = .ok (.sipush (-200), 3) := by decide +kernel
theorem dX7_looks_406 : decode cX7_looks 406 = .ok (.if_icmp .gt 12, 3) := by decide +kernel
theorem dX7_looks_409 : decode cX7_looks 409 = .ok (.sipush (-200), 3) := by decide +kernel
theorem dX7_looks_412 : decode cX7_looks 412 = .ok (.iload 7, 2) := by decide +kernel
theorem dX7_looks_414 : decode cX7_looks 414 = .ok (.isub, 1) := by decide +kernel
theorem dX7_looks_415 : decode cX7_looks 415 = .ok (.goto 4, 3) := by decide +kernel
theorem dX7_looks_418 : decode cX7_looks 418 = .ok (.iconst 0, 1) := by decide +kernel
theorem dX7_looks_419 : decode cX7_looks 419 = .ok (.iadd, 1) := by decide +kernel
theorem dX7_looks_420 : decode cX7_looks 420 = .ok (.putfield 142, 3) := by decide +kernel
theorem dX7_looks_423 : decode cX7_looks 423 = .ok (.iinc 6 1, 3) := by decide +kernel
theorem dX7_looks_426 : decode cX7_looks 426 = .ok (.goto (-315), 3) := by decide +kernel
theorem dX7_looks_429 : decode cX7_looks 429 = .ok (.return_, 1) := by decide +kernel
theorem dX7_playerOn_0 : decode cX7_playerOn 0 = .ok (.iconst (-1), 1) := by decide +kernel
theorem dX7_playerOn_1 : decode cX7_playerOn 1 = .ok (.istore_n 2, 1) := by decide +kernel
theorem dX7_playerOn_2 : decode cX7_playerOn 2 = .ok (.iconst 0, 1) := by decide +kernel
theorem dX7_playerOn_3 : decode cX7_playerOn 3 = .ok (.istore_n 3, 1) := by decide +kernel
theorem dX7_playerOn_4 : decode cX7_playerOn 4 = .ok (.iload_n 3, 1) := by decide +kernel
theorem dX7_playerOn_5 : decode cX7_playerOn 5 = .ok (.aload_n 0, 1) := by decide +kernel
theorem dX7_playerOn_6 : decode cX7_playerOn 6 = .ok (.getfield 7, 3) := by decide +kernel
theorem dX7_playerOn_9 : decode cX7_playerOn 9 = .ok (.iconst 0, 1) := by decide +kernel
theorem dX7_playerOn_10 : decode cX7_playerOn 10 = .ok (.iaload, 1) := by decide +kernel
theorem dX7_playerOn_11 : decode cX7_playerOn 11 = .ok (.if_icmp .ge 29, 3) := by decide +kernel
theorem dX7_playerOn_14 : decode cX7_playerOn 14 = .ok (.aload_n 0, 1) := by decide +kernel
theorem dX7_playerOn_15 : decode cX7_playerOn 15 = .ok (.getfield 7, 3) := by decide +kernel
theorem dX7_playerOn_18 : decode cX7_playerOn 18 = .ok (.sipush 150, 3) := by decide +kernel
theorem dX7_playerOn_21 : decode cX7_playerOn 21 = .ok (.iload_n 3, 1) := by decide +kernel
theorem dX7_playerOn_22 : decode cX7_playerOn 22 = .ok (.iadd, 1) := by decide +kernel
theorem dX7_playerOn_23 : decode cX7_playerOn 23 = .ok (.iaload, 1) := by decide +kernel
theorem dX7_playerOn_24 : decode cX7_playerOn 24 = .ok (.iload_n 1, 1) := by decide +kernel
theorem dX7_playerOn_25 : decode cX7_playerOn 25 = .ok (.if_icmp .ne 7, 3) := by decide +kernel
theorem dX7_playerOn_28 : decode cX7_playerOn 28 = .ok (.iload_n 3, 1) := by decide +kernel
theorem dX7_playerOn_29 : decode cX7_playerOn 29 = .ok (.goto 4, 3) := by decide +kernel
theorem dX7_playerOn_32 : decode cX7_playerOn 32 = .ok (.iload_n 2, 1) := by decide +kernel
theorem dX7_playerOn_33 : decode cX7_playerOn 33 = .ok (.istore_n 2, 1) := by decide +kernel
theorem dX7_playerOn_34 : decode cX7_playerOn 34 = .ok (.iinc 3 1, 3) := by decide +kernel
theorem dX7_playerOn_37 : decode cX7_playerOn 37 = .ok (.goto (-33), 3) := by decide +kernel
theorem dX7_playerOn_40 : decode cX7_playerOn 40 = .ok (.iload_n 2, 1) := by decide +kernel
theorem dX7_playerOn_41 : decode cX7_playerOn 41 = .ok (.ireturn, 1) := by decide +kernel
theorem dX7_player_0 : decode cX7_player 0 = .ok (.iload_n 1, 1) := by decide +kernel
theorem dX7_player_1 : decode cX7_player 1 = .ok (.iconst 0, 1) := by decide +kernel
theorem dX7_player_2 : decode cX7_player 2 = .ok (.bipush 6, 2) := by decide +kernel
theorem dX7_player_4 : decode cX7_player 4 = .ok (.invokestatic 39, 3) := by decide +kernel
theorem dX7_player_7 : decode cX7_player 7 = .ok (.ifCond .eq 10, 3) := by decide +kernel
theorem dX7_player_10 : decode cX7_player 10 = .ok (.iload_n 3, 1) := by decide +kernel
theorem dX7_player_11 : decode cX7_player 11 = .ok (.invokestatic 145, 3) := by decide +kernel
theorem dX7_player_14 : decode cX7_player 14 = .ok (.ifCond .ne 5, 3) := by decide +kernel
theorem dX7_player_17 : decode cX7_player 17 = .ok (.iconst (-1), 1) := by decide +kernel
theorem dX7_player_18 : decode cX7_player 18 = .ok (.ireturn, 1) := by decide +kernel
theorem dX7_player_19 : decode cX7_player 19 = .ok (.iload_n 2, 1) := by decide +kernel
theorem dX7_player_20 : decode cX7_player 20 = .ok (.iconst 0, 1) := by decide +kernel
theorem dX7_player_21 : decode cX7_player 21 = .ok (.bipush 9, 2) := by decide +kernel
theorem dX7_player_23 : decode cX7_player 23 = .ok (.invokestatic 39, 3) := by decide +kernel
theorem dX7_player_26 : decode cX7_player 26 = .ok (.ifCond .ne 6, 3) := by decide +kernel
theorem dX7_player_29 : decode cX7_player 29 = .ok (.bipush (-2), 2) := by decide +kernel
theorem dX7_player_31 : decode cX7_player 31 = .ok (.ireturn, 1) := by decide +kernel
theorem dX7_player_32 : decode cX7_player 32 = .ok (.aload_n 0, 1) := by decide +kernel
theorem dX7_player_33 : decode cX7_player 33 = .ok (.iload_n 3, 1) := by decide +kernel
theorem dX7_player_34 : decode cX7_player 34 = .ok (.invokevirtual 149, 3) := by decide +kernel
theorem dX7_player_37 : decode cX7_player 37 = .ok (.iconst (-1), 1) := by decide +kernel
theorem dX7_player_38 : decode cX7_player 38 = .ok (.if_icmp .eq 6, 3) := by decide +kernel
theorem dX7_player_41 : decode cX7_player 41 = .ok (.bipush (-3), 2) := by decide +kernel
theorem dX7_player_43 : decode cX7_player 43 = .ok (.ireturn, 1) := by decide +kernel
theorem dX7_player_44 : decode cX7_player 44 = .ok (.aload_n 0, 1) := by decide +kernel
theorem dX7_player_45 : decode cX7_player 45 = .ok (.getfield 7, 3) := by decide +kernel
theorem dX7_player_48 : decode cX7_player 48 = .ok (.iconst 0, 1) := by decide +kernel
theorem dX7_player_49 : decode cX7_player 49 = .ok (.iaload, 1) := by decide +kernel
theorem dX7_player_50 : decode cX7_player 50 = .ok (.bipush 10, 2) := by decide +kernel
theorem dX7_player_52 : decode cX7_player 52 = .ok (.if_icmp .ne 6, 3) := by decide +kernel
theorem dX7_player_55 : decode cX7_player 55 = .ok (.bipush (-4), 2) := by decide +kernel
theorem dX7_player_57 : decode cX7_player 57 = .ok (.ireturn, 1) := by decide +kernel
theorem dX7_player_58 : decode cX7_player 58 = .ok (.aload_n 0, 1) := by decide +kernel
theorem dX7_player_59 : decode cX7_player 59 = .ok (.getfield 7, 3) := by decide +kernel
theorem dX7_player_62 : decode cX7_player 62 = .ok (.iconst 0, 1) := by decide +kernel
theorem dX7_player_63 : decode cX7_player 63 = .ok (.iaload, 1) := by decide +kernel
theorem dX7_player_64 : decode cX7_player 64 = .ok (.istore 4, 2) := by decide +kernel
theorem dX7_player_66 : decode cX7_player 66 = .ok (.aload_n 0, 1) := by decide +kernel
theorem dX7_player_67 : decode cX7_player 67 = .ok (.getfield 7, 3) := by decide +kernel
theorem dX7_player_70 : decode cX7_player 70 = .ok (.sipush 130, 3) := by decide +kernel
theorem dX7_player_73 : decode cX7_player 73 = .ok (.iload 4, 2) := by decide +kernel
theorem dX7_player_75 : decode cX7_player 75 = .ok (.iadd, 1) := by decide +kernel
theorem dX7_player_76 : decode cX7_player 76 = .ok (.iload_n 1, 1) := by decide +kernel
theorem dX7_player_77 : decode cX7_player 77 = .ok (.iastore, 1) := by decide +kernel
theorem dX7_player_78 : decode cX7_player 78 = .ok (.aload_n 0, 1) := by decide +kernel
theorem dX7_player_79 : decode cX7_player 79 = .ok (.getfield 7, 3) := by decide +kernel
theorem dX7_player_82 : decode cX7_player 82 = .ok (.sipush 140, 3) := by decide +kernel
theorem dX7_player_85 : decode cX7_player 85 = .ok (.iload 4, 2) := by decide +kernel
theorem dX7_player_87 : decode cX7_player 87 = .ok (.iadd, 1) := by decide +kernel
theorem dX7_player_88 : decode cX7_player 88 = .ok (.iload_n 2, 1) := by decide +kernel
theorem dX7_player_89 : decode cX7_player 89 = .ok (.iastore, 1) := by decide +kernel
theorem dX7_player_90 : decode cX7_player 90 = .ok (.aload_n 0, 1) := by decide +kernel
theorem dX7_player_91 : decode cX7_player 91 = .ok (.getfield 7, 3) := by decide +kernel
theorem dX7_player_94 : decode cX7_player 94 = .ok (.sipush 150, 3) := by decide +kernel
theorem dX7_player_97 : decode cX7_player 97 = .ok (.iload 4, 2) := by decide +kernel
theorem dX7_player_99 : decode cX7_player 99 = .ok (.iadd, 1) := by decide +kernel
theorem dX7_player_100 : decode cX7_player 100 = .ok (.iload_n 3, 1) := by decide +kernel
theorem dX7_player_101 : decode cX7_player 101 = .ok (.iastore, 1) := by decide +kernel
theorem dX7_player_102 : decode cX7_player 102 = .ok (.aload_n 0, 1) := by decide +kernel
theorem dX7_player_103 : decode cX7_player 103 = .ok (.getfield 7, 3) := by decide +kernel
theorem dX7_player_106 : decode cX7_player 106 = .ok (.iconst 0, 1) := by decide +kernel
theorem dX7_player_107 : decode cX7_player 107 = .ok (.dup2, 1) := by decide +kernel
theorem dX7_player_108 : decode cX7_player 108 = .ok (.iaload, 1) := by decide +kernel
theorem dX7_player_109 : decode cX7_player 109 = .ok (.iconst 1, 1) := by decide +kernel
theorem dX7_player_110 : decode cX7_player 110 = .ok (.iadd, 1) := by decide +kernel
theorem dX7_player_111 : decode cX7_player 111 = .ok (.iastore, 1) := by decide +kernel
theorem dX7_player_112 : decode cX7_player 112 = .ok (.iload 4, 2) := by decide +kernel
theorem dX7_player_114 : decode cX7_player 114 = .ok (.ireturn, 1) := by decide +kernel
theorem dX7_drum_0 : decode cX7_drum 0 = .ok (.iload_n 1, 1) := by decide +kernel
theorem dX7_drum_1 : decode cX7_drum 1 = .ok (.invokestatic 145, 3) := by decide +kernel
theorem dX7_drum_4 : decode cX7_drum 4 = .ok (.ifCond .ne 5, 3) := by decide +kernel
theorem dX7_drum_7 : decode cX7_drum 7 = .ok (.iconst (-1), 1) := by decide +kernel
theorem dX7_drum_8 : decode cX7_drum 8 = .ok (.ireturn, 1) := by decide +kernel
theorem dX7_drum_9 : decode cX7_drum 9 = .ok (.aload_n 0, 1) := by decide +kernel
theorem dX7_drum_10 : decode cX7_drum 10 = .ok (.getfield 7, 3) := by decide +kernel
theorem dX7_drum_13 : decode cX7_drum 13 = .ok (.iconst 5, 1) := by decide +kernel
theorem dX7_drum_14 : decode cX7_drum 14 = .ok (.iaload, 1) := by decide +kernel
theorem dX7_drum_15 : decode cX7_drum 15 = .ok (.istore_n 2, 1) := by decide +kernel
theorem dX7_drum_16 : decode cX7_drum 16 = .ok (.aload_n 0, 1) := by decide +kernel
theorem dX7_drum_17 : decode cX7_drum 17 = .ok (.getfield 7, 3) := by decide +kernel
theorem dX7_drum_20 : decode cX7_drum 20 = .ok (.iconst 5, 1) := by decide +kernel
theorem dX7_drum_21 : decode cX7_drum 21 = .ok (.iload_n 1, 1) := by decide +kernel
theorem dX7_drum_22 : decode cX7_drum 22 = .ok (.iastore, 1) := by decide +kernel
theorem dX7_drum_23 : decode cX7_drum 23 = .ok (.iload_n 2, 1) := by decide +kernel
theorem dX7_drum_24 : decode cX7_drum 24 = .ok (.ireturn, 1) := by decide +kernel
theorem dX7_put_0 : decode cX7_put 0 = .ok (.aload_n 0, 1) := by decide +kernel
theorem dX7_put_1 : decode cX7_put 1 = .ok (.iload_n 1, 1) := by decide +kernel
theorem dX7_put_2 : decode cX7_put 2 = .ok (.invokevirtual 152, 3) := by decide +kernel
theorem dX7_put_5 : decode cX7_put 5 = .ok (.ifCond .eq 10, 3) := by decide +kernel
theorem dX7_put_8 : decode cX7_put 8 = .ok (.iload_n 2, 1) := by decide +kernel
theorem dX7_put_9 : decode cX7_put 9 = .ok (.invokestatic 145, 3) := by decide +kernel
theorem dX7_put_12 : decode cX7_put 12 = .ok (.ifCond .ne 5, 3) := by decide +kernel
theorem dX7_put_15 : decode cX7_put 15 = .ok (.iconst (-1), 1) := by decide +kernel
theorem dX7_put_16 : decode cX7_put 16 = .ok (.ireturn, 1) := by decide +kernel
theorem dX7_put_17 : decode cX7_put 17 = .ok (.aload_n 0, 1) := by decide +kernel
theorem dX7_put_18 : decode cX7_put 18 = .ok (.iload_n 2, 1) := by decide +kernel
theorem dX7_put_19 : decode cX7_put 19 = .ok (.invokevirtual 149, 3) := by decide +kernel
theorem dX7_put_22 : decode cX7_put 22 = .ok (.iconst (-1), 1) := by decide +kernel
theorem dX7_put_23 : decode cX7_put 23 = .ok (.if_icmp .eq 15, 3) := by decide +kernel
theorem dX7_put_26 : decode cX7_put 26 = .ok (.aload_n 0, 1) := by decide +kernel
theorem dX7_put_27 : decode cX7_put 27 = .ok (.iload_n 2, 1) := by decide +kernel
theorem dX7_put_28 : decode cX7_put 28 = .ok (.invokevirtual 149, 3) := by decide +kernel
theorem dX7_put_31 : decode cX7_put 31 = .ok (.iload_n 1, 1) := by decide +kernel
theorem dX7_put_32 : decode cX7_put 32 = .ok (.if_icmp .eq 6, 3) := by decide +kernel
theorem dX7_put_35 : decode cX7_put 35 = .ok (.bipush (-3), 2) := by decide +kernel
theorem dX7_put_37 : decode cX7_put 37 = .ok (.ireturn, 1) := by decide +kernel
theorem dX7_put_38 : decode cX7_put 38 = .ok (.aload_n 0, 1) := by decide +kernel
theorem dX7_put_39 : decode cX7_put 39 = .ok (.getfield 7, 3) := by decide +kernel
theorem dX7_put_42 : decode cX7_put 42 = .ok (.sipush 150, 3) := by decide +kernel
theorem dX7_put_45 : decode cX7_put 45 = .ok (.iload_n 1, 1) := by decide +kernel
theorem dX7_put_46 : decode cX7_put 46 = .ok (.iadd, 1) := by decide +kernel
theorem dX7_put_47 : decode cX7_put 47 = .ok (.iaload, 1) := by decide +kernel
theorem dX7_put_48 : decode cX7_put 48 = .ok (.istore_n 3, 1) := by decide +kernel
theorem dX7_put_49 : decode cX7_put 49 = .ok (.aload_n 0, 1) := by decide +kernel
theorem dX7_put_50 : decode cX7_put 50 = .ok (.getfield 7, 3) := by decide +kernel
theorem dX7_put_53 : decode cX7_put 53 = .ok (.sipush 150, 3) := by decide +kernel
theorem dX7_put_56 : decode cX7_put 56 = .ok (.iload_n 1, 1) := by decide +kernel
theorem dX7_put_57 : decode cX7_put 57 = .ok (.iadd, 1) := by decide +kernel
theorem dX7_put_58 : decode cX7_put 58 = .ok (.iload_n 2, 1) := by decide +kernel
theorem dX7_put_59 : decode cX7_put 59 = .ok (.iastore, 1) := by decide +kernel
theorem dX7_put_60 : decode cX7_put 60 = .ok (.iload_n 3, 1) := by decide +kernel
theorem dX7_put_61 : decode cX7_put 61 = .ok (.ireturn, 1) := by decide +kernel
theorem dX7_nearestInColumn_0 : decode cX7_nearestInColumn 0 = .ok (.iconst (-1), 1) := by decide +kernel
theorem dX7_nearestInColumn_1 : decode cX7_nearestInColumn 1 = .ok (.istore_n 3, 1) := by decide +kernel
theorem dX7_nearestInColumn_2 : decode cX7_nearestInColumn 2 = .ok (.iconst 0, 1) := by decide +kernel
theorem dX7_nearestInColumn_3 : decode cX7_nearestInColumn 3 = .ok (.istore 4, 2) := by decide +kernel
theorem dX7_nearestInColumn_5 : decode cX7_nearestInColumn 5 = .ok (.iload 4, 2) := by decide +kernel
theorem dX7_nearestInColumn_7 : decode cX7_nearestInColumn 7 = .ok (.aload_n 0, 1) := by decide +kernel
theorem dX7_nearestInColumn_8 : decode cX7_nearestInColumn 8 = .ok (.getfield 7, 3) := by decide +kernel
theorem dX7_nearestInColumn_11 : decode cX7_nearestInColumn 11 = .ok (.iconst 0, 1) := by decide +kernel
theorem dX7_nearestInColumn_12 : decode cX7_nearestInColumn 12 = .ok (.iaload, 1) := by decide +kernel
theorem dX7_nearestInColumn_13 : decode cX7_nearestInColumn 13 = .ok (.if_icmp .ge 157, 3) := by decide +kernel
theorem dX7_nearestInColumn_16 : decode cX7_nearestInColumn 16 = .ok (.aload_n 0, 1) := by decide +kernel
theorem dX7_nearestInColumn_17 : decode cX7_nearestInColumn 17 = .ok (.getfield 7, 3) := by decide +kernel
theorem dX7_nearestInColumn_20 : decode cX7_nearestInColumn 20 = .ok (.sipush 150, 3) := by decide +kernel
theorem dX7_nearestInColumn_23 : decode cX7_nearestInColumn 23 = .ok (.iload 4, 2) := by decide +kernel
theorem dX7_nearestInColumn_25 : decode cX7_nearestInColumn 25 = .ok (.iadd, 1) := by decide +kernel
theorem dX7_nearestInColumn_26 : decode cX7_nearestInColumn 26 = .ok (.iaload, 1) := by decide +kernel
theorem dX7_nearestInColumn_27 : decode cX7_nearestInColumn 27 = .ok (.bipush 8, 2) := by decide +kernel
theorem dX7_nearestInColumn_29 : decode cX7_nearestInColumn 29 = .ok (.idiv, 1) := by decide +kernel
theorem dX7_nearestInColumn_30 : decode cX7_nearestInColumn 30 = .ok (.aload_n 0, 1) := by decide +kernel
theorem dX7_nearestInColumn_31 : decode cX7_nearestInColumn 31 = .ok (.getfield 7, 3) := by decide +kernel
theorem dX7_nearestInColumn_34 : decode cX7_nearestInColumn 34 = .ok (.sipush 150, 3) := by decide +kernel
theorem dX7_nearestInColumn_37 : decode cX7_nearestInColumn 37 = .ok (.iload_n 1, 1) := by decide +kernel
theorem dX7_nearestInColumn_38 : decode cX7_nearestInColumn 38 = .ok (.iadd, 1) := by decide +kernel
theorem dX7_nearestInColumn_39 : decode cX7_nearestInColumn 39 = .ok (.iaload, 1) := by decide +kernel
theorem dX7_nearestInColumn_40 : decode cX7_nearestInColumn 40 = .ok (.bipush 8, 2) := by decide +kernel
theorem dX7_nearestInColumn_42 : decode cX7_nearestInColumn 42 = .ok (.idiv, 1) := by decide +kernel
theorem dX7_nearestInColumn_43 : decode cX7_nearestInColumn 43 = .ok (.isub, 1) := by decide +kernel
theorem dX7_nearestInColumn_44 : decode cX7_nearestInColumn 44 = .ok (.istore 5, 2) := by decide +kernel
theorem dX7_nearestInColumn_46 : decode cX7_nearestInColumn 46 = .ok (.iload 4, 2) := by decide +kernel
theorem dX7_nearestInColumn_48 : decode cX7_nearestInColumn 48 = .ok (.aload_n 0, 1) := by decide +kernel
theorem dX7_nearestInColumn_49 : decode cX7_nearestInColumn 49 = .ok (.getfield 23, 3) := by decide +kernel
theorem dX7_nearestInColumn_52 : decode cX7_nearestInColumn 52 = .ok (.if_icmp .eq 54, 3) := by decide +kernel
theorem dX7_nearestInColumn_55 : decode cX7_nearestInColumn 55 = .ok (.aload_n 0, 1) := by decide +kernel
theorem dX7_nearestInColumn_56 : decode cX7_nearestInColumn 56 = .ok (.getfield 7, 3) := by decide +kernel
theorem dX7_nearestInColumn_59 : decode cX7_nearestInColumn 59 = .ok (.sipush 150, 3) := by decide +kernel
theorem dX7_nearestInColumn_62 : decode cX7_nearestInColumn 62 = .ok (.iload 4, 2) := by decide +kernel
theorem dX7_nearestInColumn_64 : decode cX7_nearestInColumn 64 = .ok (.iadd, 1) := by decide +kernel
theorem dX7_nearestInColumn_65 : decode cX7_nearestInColumn 65 = .ok (.iaload, 1) := by decide +kernel
theorem dX7_nearestInColumn_66 : decode cX7_nearestInColumn 66 = .ok (.bipush 8, 2) := by decide +kernel
theorem dX7_nearestInColumn_68 : decode cX7_nearestInColumn 68 = .ok (.irem, 1) := by decide +kernel
theorem dX7_nearestInColumn_69 : decode cX7_nearestInColumn 69 = .ok (.aload_n 0, 1) := by decide +kernel
theorem dX7_nearestInColumn_70 : decode cX7_nearestInColumn 70 = .ok (.getfield 7, 3) := by decide +kernel
theorem dX7_nearestInColumn_73 : decode cX7_nearestInColumn 73 = .ok (.sipush 150, 3) := by decide +kernel
theorem dX7_nearestInColumn_76 : decode cX7_nearestInColumn 76 = .ok (.iload_n 1, 1) := by decide +kernel
theorem dX7_nearestInColumn_77 : decode cX7_nearestInColumn 77 = .ok (.iadd, 1) := by decide +kernel
theorem dX7_nearestInColumn_78 : decode cX7_nearestInColumn 78 = .ok (.iaload, 1) := by decide +kernel
theorem dX7_nearestInColumn_79 : decode cX7_nearestInColumn 79 = .ok (.bipush 8, 2) := by decide +kernel
theorem dX7_nearestInColumn_81 : decode cX7_nearestInColumn 81 = .ok (.irem, 1) := by decide +kernel
theorem dX7_nearestInColumn_82 : decode cX7_nearestInColumn 82 = .ok (.if_icmp .ne 24, 3) := by decide +kernel
theorem dX7_nearestInColumn_85 : decode cX7_nearestInColumn 85 = .ok (.iload_n 2, 1) := by decide +kernel
theorem dX7_nearestInColumn_86 : decode cX7_nearestInColumn 86 = .ok (.ifCond .eq 11, 3) := by decide +kernel
theorem dX7_nearestInColumn_89 : decode cX7_nearestInColumn 89 = .ok (.iload 5, 2) := by decide +kernel
theorem dX7_nearestInColumn_91 : decode cX7_nearestInColumn 91 = .ok (.ifCond .le 15, 3) := by decide +kernel
theorem dX7_nearestInColumn_94 : decode cX7_nearestInColumn 94 = .ok (.goto 8, 3) := by decide +kernel
theorem dX7_nearestInColumn_97 : decode cX7_nearestInColumn 97 = .ok (.iload 5, 2) := by decide +kernel
theorem dX7_nearestInColumn_99 : decode cX7_nearestInColumn 99 = .ok (.ifCond .ge 7, 3) := by decide +kernel
theorem dX7_nearestInColumn_102 : decode cX7_nearestInColumn 102 = .ok (.iconst 1, 1) := by decide +kernel
theorem dX7_nearestInColumn_103 : decode cX7_nearestInColumn 103 = .ok (.goto 4, 3) := by decide +kernel
theorem dX7_nearestInColumn_106 : decode cX7_nearestInColumn 106 = .ok (.iconst 0, 1) := by decide +kernel
theorem dX7_nearestInColumn_107 : decode cX7_nearestInColumn 107 = .ok (.istore 6, 2) := by decide +kernel
theorem dX7_nearestInColumn_109 : decode cX7_nearestInColumn 109 = .ok (.iload 6, 2) := by decide +kernel
theorem dX7_nearestInColumn_111 : decode cX7_nearestInColumn 111 = .ok (.ifCond .eq 51, 3) := by decide +kernel
theorem dX7_nearestInColumn_114 : decode cX7_nearestInColumn 114 = .ok (.iload_n 3, 1) := by decide +kernel
theorem dX7_nearestInColumn_115 : decode cX7_nearestInColumn 115 = .ok (.iconst (-1), 1) := by decide +kernel
theorem dX7_nearestInColumn_116 : decode cX7_nearestInColumn 116 = .ok (.if_icmp .eq 41, 3) := by decide +kernel
theorem dX7_nearestInColumn_119 : decode cX7_nearestInColumn 119 = .ok (.iload 5, 2) := by decide +kernel
theorem dX7_nearestInColumn_121 : decode cX7_nearestInColumn 121 = .ok (.invokestatic 43, 3) := by decide +kernel
theorem dX7_nearestInColumn_124 : decode cX7_nearestInColumn 124 = .ok (.aload_n 0, 1) := by decide +kernel
theorem dX7_nearestInColumn_125 : decode cX7_nearestInColumn 125 = .ok (.getfield 7, 3) := by decide +kernel
theorem dX7_nearestInColumn_128 : decode cX7_nearestInColumn 128 = .ok (.sipush 150, 3) := by decide +kernel
theorem dX7_nearestInColumn_131 : decode cX7_nearestInColumn 131 = .ok (.iload_n 3, 1) := by decide +kernel
theorem dX7_nearestInColumn_132 : decode cX7_nearestInColumn 132 = .ok (.iadd, 1) := by decide +kernel
theorem dX7_nearestInColumn_133 : decode cX7_nearestInColumn 133 = .ok (.iaload, 1) := by decide +kernel
theorem dX7_nearestInColumn_134 : decode cX7_nearestInColumn 134 = .ok (.bipush 8, 2) := by decide +kernel
theorem dX7_nearestInColumn_136 : decode cX7_nearestInColumn 136 = .ok (.idiv, 1) := by decide +kernel
theorem dX7_nearestInColumn_137 : decode cX7_nearestInColumn 137 = .ok (.aload_n 0, 1) := by decide +kernel
theorem dX7_nearestInColumn_138 : decode cX7_nearestInColumn 138 = .ok (.getfield 7, 3) := by decide +kernel
theorem dX7_nearestInColumn_141 : decode cX7_nearestInColumn 141 = .ok (.sipush 150, 3) := by decide +kernel
theorem dX7_nearestInColumn_144 : decode cX7_nearestInColumn 144 = .ok (.iload_n 1, 1) := by decide +kernel
theorem dX7_nearestInColumn_145 : decode cX7_nearestInColumn 145 = .ok (.iadd, 1) := by decide +kernel
theorem dX7_nearestInColumn_146 : decode cX7_nearestInColumn 146 = .ok (.iaload, 1) := by decide +kernel
theorem dX7_nearestInColumn_147 : decode cX7_nearestInColumn 147 = .ok (.bipush 8, 2) := by decide +kernel
theorem dX7_nearestInColumn_149 : decode cX7_nearestInColumn 149 = .ok (.idiv, 1) := by decide +kernel
theorem dX7_nearestInColumn_150 : decode cX7_nearestInColumn 150 = .ok (.isub, 1) := by decide +kernel
theorem dX7_nearestInColumn_151 : decode cX7_nearestInColumn 151 = .ok (.invokestatic 43, 3) := by decide +kernel
theorem dX7_nearestInColumn_154 : decode cX7_nearestInColumn 154 = .ok (.if_icmp .ge 8, 3) := by decide +kernel
theorem dX7_nearestInColumn_157 : decode cX7_nearestInColumn 157 = .ok (.iload 4, 2) := by decide +kernel
theorem dX7_nearestInColumn_159 : decode cX7_nearestInColumn 159 = .ok (.goto 4, 3) := by decide +kernel
theorem dX7_nearestInColumn_162 : decode cX7_nearestInColumn 162 = .ok (.iload_n 3, 1) := by decide +kernel
theorem dX7_nearestInColumn_163 : decode cX7_nearestInColumn 163 = .ok (.istore_n 3, 1) := by decide +kernel
theorem dX7_nearestInColumn_164 : decode cX7_nearestInColumn 164 = .ok (.iinc 4 1, 3) := by decide +kernel
theorem dX7_nearestInColumn_167 : decode cX7_nearestInColumn 167 = .ok (.goto (-162), 3) := by decide +kernel
theorem dX7_nearestInColumn_170 : decode cX7_nearestInColumn 170 = .ok (.iload_n 3, 1) := by decide +kernel
theorem dX7_nearestInColumn_171 : decode cX7_nearestInColumn 171 = .ok (.ireturn, 1) := by decide +kernel
theorem dX7_listening_0 : decode cX7_listening 0 = .ok (.aload_n 0, 1) := by decide +kernel
theorem dX7_listening_1 : decode cX7_listening 1 = .ok (.invokevirtual 133, 3) := by decide +kernel
theorem dX7_listening_4 : decode cX7_listening 4 = .ok (.aload_n 0, 1) := by decide +kernel
theorem dX7_listening_5 : decode cX7_listening 5 = .ok (.getfield 7, 3) := by decide +kernel
theorem dX7_listening_8 : decode cX7_listening 8 = .ok (.sipush 150, 3) := by decide +kernel
theorem dX7_listening_11 : decode cX7_listening 11 = .ok (.iload_n 1, 1) := by decide +kernel
theorem dX7_listening_12 : decode cX7_listening 12 = .ok (.iadd, 1) := by decide +kernel
theorem dX7_listening_13 : decode cX7_listening 13 = .ok (.iaload, 1) := by decide +kernel
theorem dX7_listening_14 : decode cX7_listening 14 = .ok (.aload_n 0, 1) := by decide +kernel
theorem dX7_listening_15 : decode cX7_listening 15 = .ok (.getfield 7, 3) := by decide +kernel
theorem dX7_listening_18 : decode cX7_listening 18 = .ok (.iconst 5, 1) := by decide +kernel
theorem dX7_listening_19 : decode cX7_listening 19 = .ok (.iaload, 1) := by decide +kernel
theorem dX7_listening_20 : decode cX7_listening 20 = .ok (.invokestatic 155, 3) := by decide +kernel
theorem dX7_listening_23 : decode cX7_listening 23 = .ok (.imul, 1) := by decide +kernel
theorem dX7_listening_24 : decode cX7_listening 24 = .ok (.ireturn, 1) := by decide +kernel
theorem dX7_heardFrom_0 : decode cX7_heardFrom 0 = .ok (.aload_n 0, 1) := by decide +kernel
theorem dX7_heardFrom_1 : decode cX7_heardFrom 1 = .ok (.iload_n 2, 1) := by decide +kernel
theorem dX7_heardFrom_2 : decode cX7_heardFrom 2 = .ok (.aload_n 0, 1) := by decide +kernel
theorem dX7_heardFrom_3 : decode cX7_heardFrom 3 = .ok (.getfield 7, 3) := by decide +kernel
theorem dX7_heardFrom_6 : decode cX7_heardFrom 6 = .ok (.sipush 130, 3) := by decide +kernel
theorem dX7_heardFrom_9 : decode cX7_heardFrom 9 = .ok (.iload_n 2, 1) := by decide +kernel
theorem dX7_heardFrom_10 : decode cX7_heardFrom 10 = .ok (.iadd, 1) := by decide +kernel
theorem dX7_heardFrom_11 : decode cX7_heardFrom 11 = .ok (.iaload, 1) := by decide +kernel
theorem dX7_heardFrom_12 : decode cX7_heardFrom 12 = .ok (.invokevirtual 158, 3) := by decide +kernel
theorem dX7_heardFrom_15 : decode cX7_heardFrom 15 = .ok (.aload_n 0, 1) := by decide +kernel
theorem dX7_heardFrom_16 : decode cX7_heardFrom 16 = .ok (.invokevirtual 133, 3) := by decide +kernel
theorem dX7_heardFrom_19 : decode cX7_heardFrom 19 = .ok (.aload_n 0, 1) := by decide +kernel
theorem dX7_heardFrom_20 : decode cX7_heardFrom 20 = .ok (.getfield 7, 3) := by decide +kernel
theorem dX7_heardFrom_23 : decode cX7_heardFrom 23 = .ok (.sipush 150, 3) := by decide +kernel
theorem dX7_heardFrom_26 : decode cX7_heardFrom 26 = .ok (.iload_n 1, 1) := by decide +kernel
theorem dX7_heardFrom_27 : decode cX7_heardFrom 27 = .ok (.iadd, 1) := by decide +kernel
theorem dX7_heardFrom_28 : decode cX7_heardFrom 28 = .ok (.iaload, 1) := by decide +kernel
theorem dX7_heardFrom_29 : decode cX7_heardFrom 29 = .ok (.aload_n 0, 1) := by decide +kernel
theorem dX7_heardFrom_30 : decode cX7_heardFrom 30 = .ok (.getfield 7, 3) := by decide +kernel
theorem dX7_heardFrom_33 : decode cX7_heardFrom 33 = .ok (.sipush 150, 3) := by decide +kernel
theorem dX7_heardFrom_36 : decode cX7_heardFrom 36 = .ok (.iload_n 2, 1) := by decide +kernel
theorem dX7_heardFrom_37 : decode cX7_heardFrom 37 = .ok (.iadd, 1) := by decide +kernel
theorem dX7_heardFrom_38 : decode cX7_heardFrom 38 = .ok (.iaload, 1) := by decide +kernel
theorem dX7_heardFrom_39 : decode cX7_heardFrom 39 = .ok (.invokestatic 155, 3) := by decide +kernel
theorem dX7_heardFrom_42 : decode cX7_heardFrom 42 = .ok (.imul, 1) := by decide +kernel
theorem dX7_heardFrom_43 : decode cX7_heardFrom 43 = .ok (.iadd, 1) := by decide +kernel
theorem dX7_heardFrom_44 : decode cX7_heardFrom 44 = .ok (.ireturn, 1) := by decide +kernel
theorem dX7_backward_0 : decode cX7_backward 0 = .ok (.aload_n 0, 1) := by decide +kernel
theorem dX7_backward_1 : decode cX7_backward 1 = .ok (.iload_n 1, 1) := by decide +kernel
theorem dX7_backward_2 : decode cX7_backward 2 = .ok (.iconst 1, 1) := by decide +kernel
theorem dX7_backward_3 : decode cX7_backward 3 = .ok (.invokevirtual 161, 3) := by decide +kernel
theorem dX7_backward_6 : decode cX7_backward 6 = .ok (.istore_n 2, 1) := by decide +kernel
theorem dX7_backward_7 : decode cX7_backward 7 = .ok (.iload_n 2, 1) := by decide +kernel
theorem dX7_backward_8 : decode cX7_backward 8 = .ok (.iconst (-1), 1) := by decide +kernel
theorem dX7_backward_9 : decode cX7_backward 9 = .ok (.if_icmp .ne 11, 3) := by decide +kernel
theorem dX7_backward_12 : decode cX7_backward 12 = .ok (.aload_n 0, 1) := by decide +kernel
theorem dX7_backward_13 : decode cX7_backward 13 = .ok (.iload_n 1, 1) := by decide +kernel
theorem dX7_backward_14 : decode cX7_backward 14 = .ok (.invokevirtual 165, 3) := by decide +kernel
theorem dX7_backward_17 : decode cX7_backward 17 = .ok (.goto 9, 3) := by decide +kernel
theorem dX7_backward_20 : decode cX7_backward 20 = .ok (.aload_n 0, 1) := by decide +kernel
theorem dX7_backward_21 : decode cX7_backward 21 = .ok (.iload_n 1, 1) := by decide +kernel
theorem dX7_backward_22 : decode cX7_backward 22 = .ok (.iload_n 2, 1) := by decide +kernel
theorem dX7_backward_23 : decode cX7_backward 23 = .ok (.invokevirtual 168, 3) := by decide +kernel
theorem dX7_backward_26 : decode cX7_backward 26 = .ok (.ireturn, 1) := by decide +kernel
theorem dX7_forward_0 : decode cX7_forward 0 = .ok (.aload_n 0, 1) := by decide +kernel
theorem dX7_forward_1 : decode cX7_forward 1 = .ok (.iload_n 1, 1) := by decide +kernel
theorem dX7_forward_2 : decode cX7_forward 2 = .ok (.iconst 0, 1) := by decide +kernel
theorem dX7_forward_3 : decode cX7_forward 3 = .ok (.invokevirtual 161, 3) := by decide +kernel
theorem dX7_forward_6 : decode cX7_forward 6 = .ok (.istore_n 2, 1) := by decide +kernel
theorem dX7_forward_7 : decode cX7_forward 7 = .ok (.iload_n 2, 1) := by decide +kernel
theorem dX7_forward_8 : decode cX7_forward 8 = .ok (.iconst (-1), 1) := by decide +kernel
theorem dX7_forward_9 : decode cX7_forward 9 = .ok (.if_icmp .ne 5, 3) := by decide +kernel
theorem dX7_forward_12 : decode cX7_forward 12 = .ok (.iconst 0, 1) := by decide +kernel
theorem dX7_forward_13 : decode cX7_forward 13 = .ok (.ireturn, 1) := by decide +kernel
theorem dX7_forward_14 : decode cX7_forward 14 = .ok (.aload_n 0, 1) := by decide +kernel
theorem dX7_forward_15 : decode cX7_forward 15 = .ok (.getfield 7, 3) := by decide +kernel
theorem dX7_forward_18 : decode cX7_forward 18 = .ok (.sipush 130, 3) := by decide +kernel
theorem dX7_forward_21 : decode cX7_forward 21 = .ok (.iload_n 2, 1) := by decide +kernel
theorem dX7_forward_22 : decode cX7_forward 22 = .ok (.iadd, 1) := by decide +kernel
theorem dX7_forward_23 : decode cX7_forward 23 = .ok (.iaload, 1) := by decide +kernel
theorem dX7_forward_24 : decode cX7_forward 24 = .ok (.iconst 2, 1) := by decide +kernel
theorem dX7_forward_25 : decode cX7_forward 25 = .ok (.if_icmp .eq 17, 3) := by decide +kernel
theorem dX7_forward_28 : decode cX7_forward 28 = .ok (.aload_n 0, 1) := by decide +kernel
theorem dX7_forward_29 : decode cX7_forward 29 = .ok (.getfield 7, 3) := by decide +kernel
theorem dX7_forward_32 : decode cX7_forward 32 = .ok (.sipush 130, 3) := by decide +kernel
theorem dX7_forward_35 : decode cX7_forward 35 = .ok (.iload_n 2, 1) := by decide +kernel
theorem dX7_forward_36 : decode cX7_forward 36 = .ok (.iadd, 1) := by decide +kernel
theorem dX7_forward_37 : decode cX7_forward 37 = .ok (.iaload, 1) := by decide +kernel
theorem dX7_forward_38 : decode cX7_forward 38 = .ok (.iconst 5, 1) := by decide +kernel
theorem dX7_forward_39 : decode cX7_forward 39 = .ok (.if_icmp .ne 11, 3) := by decide +kernel
theorem dX7_forward_42 : decode cX7_forward 42 = .ok (.aload_n 0, 1) := by decide +kernel
theorem dX7_forward_43 : decode cX7_forward 43 = .ok (.iload_n 1, 1) := by decide +kernel
theorem dX7_forward_44 : decode cX7_forward 44 = .ok (.invokevirtual 165, 3) := by decide +kernel
theorem dX7_forward_47 : decode cX7_forward 47 = .ok (.goto 9, 3) := by decide +kernel
theorem dX7_forward_50 : decode cX7_forward 50 = .ok (.aload_n 0, 1) := by decide +kernel
theorem dX7_forward_51 : decode cX7_forward 51 = .ok (.iload_n 1, 1) := by decide +kernel
theorem dX7_forward_52 : decode cX7_forward 52 = .ok (.iload_n 2, 1) := by decide +kernel
theorem dX7_forward_53 : decode cX7_forward 53 = .ok (.invokevirtual 168, 3) := by decide +kernel
theorem dX7_forward_56 : decode cX7_forward 56 = .ok (.ireturn, 1) := by decide +kernel
theorem dX7_playsAs_0 : decode cX7_playsAs 0 = .ok (.iconst 0, 1) := by decide +kernel
theorem dX7_playsAs_1 : decode cX7_playsAs 1 = .ok (.istore_n 3, 1) := by decide +kernel
theorem dX7_playsAs_2 : decode cX7_playsAs 2 = .ok (.iload_n 2, 1) := by decide +kernel
theorem dX7_playsAs_3 : decode cX7_playsAs 3 = .ok (.tableswitch 127 0 6 #[41, 127, 50, 59, 68, 83, 111], 41) := by decide +kernel
theorem dX7_playsAs_44 : decode cX7_playsAs 44 = .ok (.aload_n 0, 1) := by decide +kernel
theorem dX7_playsAs_45 : decode cX7_playsAs 45 = .ok (.iload_n 1, 1) := by decide +kernel
theorem dX7_playsAs_46 : decode cX7_playsAs 46 = .ok (.invokevirtual 165, 3) := by decide +kernel
theorem dX7_playsAs_49 : decode cX7_playsAs 49 = .ok (.istore_n 3, 1) := by decide +kernel
theorem dX7_playsAs_50 : decode cX7_playsAs 50 = .ok (.goto 80, 3) := by decide +kernel
theorem dX7_playsAs_53 : decode cX7_playsAs 53 = .ok (.aload_n 0, 1) := by decide +kernel
theorem dX7_playsAs_54 : decode cX7_playsAs 54 = .ok (.iload_n 1, 1) := by decide +kernel
theorem dX7_playsAs_55 : decode cX7_playsAs 55 = .ok (.invokevirtual 171, 3) := by decide +kernel
theorem dX7_playsAs_58 : decode cX7_playsAs 58 = .ok (.istore_n 3, 1) := by decide +kernel
theorem dX7_playsAs_59 : decode cX7_playsAs 59 = .ok (.goto 71, 3) := by decide +kernel
theorem dX7_playsAs_62 : decode cX7_playsAs 62 = .ok (.aload_n 0, 1) := by decide +kernel
theorem dX7_playsAs_63 : decode cX7_playsAs 63 = .ok (.iload_n 1, 1) := by decide +kernel
theorem dX7_playsAs_64 : decode cX7_playsAs 64 = .ok (.invokevirtual 174, 3) := by decide +kernel
theorem dX7_playsAs_67 : decode cX7_playsAs 67 = .ok (.istore_n 3, 1) := by decide +kernel
theorem dX7_playsAs_68 : decode cX7_playsAs 68 = .ok (.goto 62, 3) := by decide +kernel
theorem dX7_playsAs_71 : decode cX7_playsAs 71 = .ok (.aload_n 0, 1) := by decide +kernel
theorem dX7_playsAs_72 : decode cX7_playsAs 72 = .ok (.getfield 7, 3) := by decide +kernel
theorem dX7_playsAs_75 : decode cX7_playsAs 75 = .ok (.sipush 140, 3) := by decide +kernel
theorem dX7_playsAs_78 : decode cX7_playsAs 78 = .ok (.iload_n 1, 1) := by decide +kernel
theorem dX7_playsAs_79 : decode cX7_playsAs 79 = .ok (.iadd, 1) := by decide +kernel
theorem dX7_playsAs_80 : decode cX7_playsAs 80 = .ok (.iaload, 1) := by decide +kernel
theorem dX7_playsAs_81 : decode cX7_playsAs 81 = .ok (.ineg, 1) := by decide +kernel
theorem dX7_playsAs_82 : decode cX7_playsAs 82 = .ok (.istore_n 3, 1) := by decide +kernel
theorem dX7_playsAs_83 : decode cX7_playsAs 83 = .ok (.goto 47, 3) := by decide +kernel
theorem dX7_playsAs_86 : decode cX7_playsAs 86 = .ok (.aload_n 0, 1) := by decide +kernel
theorem dX7_playsAs_87 : decode cX7_playsAs 87 = .ok (.iload_n 1, 1) := by decide +kernel
theorem dX7_playsAs_88 : decode cX7_playsAs 88 = .ok (.invokevirtual 171, 3) := by decide +kernel
theorem dX7_playsAs_91 : decode cX7_playsAs 91 = .ok (.aload_n 0, 1) := by decide +kernel
theorem dX7_playsAs_92 : decode cX7_playsAs 92 = .ok (.invokevirtual 133, 3) := by decide +kernel
theorem dX7_playsAs_95 : decode cX7_playsAs 95 = .ok (.aload_n 0, 1) := by decide +kernel
theorem dX7_playsAs_96 : decode cX7_playsAs 96 = .ok (.getfield 7, 3) := by decide +kernel
theorem dX7_playsAs_99 : decode cX7_playsAs 99 = .ok (.sipush 150, 3) := by decide +kernel
theorem dX7_playsAs_102 : decode cX7_playsAs 102 = .ok (.iload_n 1, 1) := by decide +kernel
theorem dX7_playsAs_103 : decode cX7_playsAs 103 = .ok (.iadd, 1) := by decide +kernel
theorem dX7_playsAs_104 : decode cX7_playsAs 104 = .ok (.iaload, 1) := by decide +kernel
theorem dX7_playsAs_105 : decode cX7_playsAs 105 = .ok (.bipush 8, 2) := by decide +kernel
theorem dX7_playsAs_107 : decode cX7_playsAs 107 = .ok (.idiv, 1) := by decide +kernel
theorem dX7_playsAs_108 : decode cX7_playsAs 108 = .ok (.imul, 1) := by decide +kernel
theorem dX7_playsAs_109 : decode cX7_playsAs 109 = .ok (.iadd, 1) := by decide +kernel
theorem dX7_playsAs_110 : decode cX7_playsAs 110 = .ok (.istore_n 3, 1) := by decide +kernel
theorem dX7_playsAs_111 : decode cX7_playsAs 111 = .ok (.goto 19, 3) := by decide +kernel
theorem dX7_playsAs_114 : decode cX7_playsAs 114 = .ok (.aload_n 0, 1) := by decide +kernel
theorem dX7_playsAs_115 : decode cX7_playsAs 115 = .ok (.getfield 7, 3) := by decide +kernel
theorem dX7_playsAs_118 : decode cX7_playsAs 118 = .ok (.sipush 140, 3) := by decide +kernel
theorem dX7_playsAs_121 : decode cX7_playsAs 121 = .ok (.iload_n 1, 1) := by decide +kernel
theorem dX7_playsAs_122 : decode cX7_playsAs 122 = .ok (.iadd, 1) := by decide +kernel
theorem dX7_playsAs_123 : decode cX7_playsAs 123 = .ok (.iaload, 1) := by decide +kernel
theorem dX7_playsAs_124 : decode cX7_playsAs 124 = .ok (.iload_n 1, 1) := by decide +kernel
theorem dX7_playsAs_125 : decode cX7_playsAs 125 = .ok (.imul, 1) := by decide +kernel
theorem dX7_playsAs_126 : decode cX7_playsAs 126 = .ok (.istore_n 3, 1) := by decide +kernel
theorem dX7_playsAs_127 : decode cX7_playsAs 127 = .ok (.goto 3, 3) := by decide +kernel
theorem dX7_playsAs_130 : decode cX7_playsAs 130 = .ok (.aload_n 0, 1) := by decide +kernel
theorem dX7_playsAs_131 : decode cX7_playsAs 131 = .ok (.iload_n 1, 1) := by decide +kernel
theorem dX7_playsAs_132 : decode cX7_playsAs 132 = .ok (.iload_n 2, 1) := by decide +kernel
theorem dX7_playsAs_133 : decode cX7_playsAs 133 = .ok (.invokevirtual 177, 3) := by decide +kernel
theorem dX7_playsAs_136 : decode cX7_playsAs 136 = .ok (.aload_n 0, 1) := by decide +kernel
theorem dX7_playsAs_137 : decode cX7_playsAs 137 = .ok (.getfield 142, 3) := by decide +kernel
theorem dX7_playsAs_140 : decode cX7_playsAs 140 = .ok (.iload_n 3, 1) := by decide +kernel
theorem dX7_playsAs_141 : decode cX7_playsAs 141 = .ok (.iadd, 1) := by decide +kernel
theorem dX7_playsAs_142 : decode cX7_playsAs 142 = .ok (.ireturn, 1) := by decide +kernel
theorem dX7_playsOf_0 : decode cX7_playsOf 0 = .ok (.aload_n 0, 1) := by decide +kernel
theorem dX7_playsOf_1 : decode cX7_playsOf 1 = .ok (.iload_n 1, 1) := by decide +kernel
theorem dX7_playsOf_2 : decode cX7_playsOf 2 = .ok (.aload_n 0, 1) := by decide +kernel
theorem dX7_playsOf_3 : decode cX7_playsOf 3 = .ok (.getfield 7, 3) := by decide +kernel
theorem dX7_playsOf_6 : decode cX7_playsOf 6 = .ok (.sipush 130, 3) := by decide +kernel
theorem dX7_playsOf_9 : decode cX7_playsOf 9 = .ok (.iload_n 1, 1) := by decide +kernel
theorem dX7_playsOf_10 : decode cX7_playsOf 10 = .ok (.iadd, 1) := by decide +kernel
theorem dX7_playsOf_11 : decode cX7_playsOf 11 = .ok (.iaload, 1) := by decide +kernel
theorem dX7_playsOf_12 : decode cX7_playsOf 12 = .ok (.invokevirtual 158, 3) := by decide +kernel
theorem dX7_playsOf_15 : decode cX7_playsOf 15 = .ok (.ireturn, 1) := by decide +kernel
theorem dX7_loudOf_0 : decode cX7_loudOf 0 = .ok (.aload_n 0, 1) := by decide +kernel
theorem dX7_loudOf_1 : decode cX7_loudOf 1 = .ok (.iload_n 1, 1) := by decide +kernel
theorem dX7_loudOf_2 : decode cX7_loudOf 2 = .ok (.aload_n 0, 1) := by decide +kernel
theorem dX7_loudOf_3 : decode cX7_loudOf 3 = .ok (.getfield 7, 3) := by decide +kernel
theorem dX7_loudOf_6 : decode cX7_loudOf 6 = .ok (.sipush 130, 3) := by decide +kernel
theorem dX7_loudOf_9 : decode cX7_loudOf 9 = .ok (.iload_n 1, 1) := by decide +kernel
theorem dX7_loudOf_10 : decode cX7_loudOf 10 = .ok (.iadd, 1) := by decide +kernel
theorem dX7_loudOf_11 : decode cX7_loudOf 11 = .ok (.iaload, 1) := by decide +kernel
theorem dX7_loudOf_12 : decode cX7_loudOf 12 = .ok (.invokevirtual 177, 3) := by decide +kernel
theorem dX7_loudOf_15 : decode cX7_loudOf 15 = .ok (.aload_n 0, 1) := by decide +kernel
theorem dX7_loudOf_16 : decode cX7_loudOf 16 = .ok (.getfield 139, 3) := by decide +kernel
theorem dX7_loudOf_19 : decode cX7_loudOf 19 = .ok (.ireturn, 1) := by decide +kernel
theorem dX7_of_0 : decode cX7_of 0 = .ok (.aload_n 0, 1) := by decide +kernel
theorem dX7_of_1 : decode cX7_of 1 = .ok (.iload_n 1, 1) := by decide +kernel
theorem dX7_of_2 : decode cX7_of 2 = .ok (.invokevirtual 152, 3) := by decide +kernel
theorem dX7_of_5 : decode cX7_of 5 = .ok (.ifCond .eq 12, 3) := by decide +kernel
theorem dX7_of_8 : decode cX7_of 8 = .ok (.iload_n 2, 1) := by decide +kernel
theorem dX7_of_9 : decode cX7_of 9 = .ok (.iconst 0, 1) := by decide +kernel
theorem dX7_of_10 : decode cX7_of 10 = .ok (.iconst 5, 1) := by decide +kernel
theorem dX7_of_11 : decode cX7_of 11 = .ok (.invokestatic 39, 3) := by decide +kernel
theorem dX7_of_14 : decode cX7_of 14 = .ok (.ifCond .ne 7, 3) := by decide +kernel
theorem dX7_of_17 : decode cX7_of 17 = .ok (.sipush (-1001), 3) := by decide +kernel
theorem dX7_of_20 : decode cX7_of 20 = .ok (.ireturn, 1) := by decide +kernel
theorem dX7_of_21 : decode cX7_of 21 = .ok (.iload_n 2, 1) := by decide +kernel
theorem dX7_of_22 : decode cX7_of 22 = .ok (.iconst 3, 1) := by decide +kernel
theorem dX7_of_23 : decode cX7_of 23 = .ok (.if_icmp .ge 19, 3) := by decide +kernel
theorem dX7_of_26 : decode cX7_of 26 = .ok (.aload_n 0, 1) := by decide +kernel
theorem dX7_of_27 : decode cX7_of 27 = .ok (.getfield 7, 3) := by decide +kernel
theorem dX7_of_30 : decode cX7_of 30 = .ok (.sipush 130, 3) := by decide +kernel
theorem dX7_of_33 : decode cX7_of 33 = .ok (.bipush 10, 2) := by decide +kernel
theorem dX7_of_35 : decode cX7_of 35 = .ok (.iload_n 2, 1) := by decide +kernel
theorem dX7_of_36 : decode cX7_of 36 = .ok (.imul, 1) := by decide +kernel
theorem dX7_of_37 : decode cX7_of 37 = .ok (.iadd, 1) := by decide +kernel
theorem dX7_of_38 : decode cX7_of 38 = .ok (.iload_n 1, 1) := by decide +kernel
theorem dX7_of_39 : decode cX7_of 39 = .ok (.iadd, 1) := by decide +kernel
theorem dX7_of_40 : decode cX7_of 40 = .ok (.iaload, 1) := by decide +kernel
theorem dX7_of_41 : decode cX7_of 41 = .ok (.ireturn, 1) := by decide +kernel
theorem dX7_of_42 : decode cX7_of 42 = .ok (.aload_n 0, 1) := by decide +kernel
theorem dX7_of_43 : decode cX7_of 43 = .ok (.iload_n 1, 1) := by decide +kernel
theorem dX7_of_44 : decode cX7_of 44 = .ok (.aload_n 0, 1) := by decide +kernel
theorem dX7_of_45 : decode cX7_of 45 = .ok (.getfield 7, 3) := by decide +kernel
theorem dX7_of_48 : decode cX7_of 48 = .ok (.sipush 130, 3) := by decide +kernel
theorem dX7_of_51 : decode cX7_of 51 = .ok (.iload_n 1, 1) := by decide +kernel
theorem dX7_of_52 : decode cX7_of 52 = .ok (.iadd, 1) := by decide +kernel
theorem dX7_of_53 : decode cX7_of 53 = .ok (.iaload, 1) := by decide +kernel
theorem dX7_of_54 : decode cX7_of 54 = .ok (.invokevirtual 177, 3) := by decide +kernel
theorem dX7_of_57 : decode cX7_of 57 = .ok (.iload_n 2, 1) := by decide +kernel
theorem dX7_of_58 : decode cX7_of 58 = .ok (.iconst 3, 1) := by decide +kernel
theorem dX7_of_59 : decode cX7_of 59 = .ok (.if_icmp .ne 10, 3) := by decide +kernel
theorem dX7_of_62 : decode cX7_of 62 = .ok (.aload_n 0, 1) := by decide +kernel
theorem dX7_of_63 : decode cX7_of 63 = .ok (.getfield 139, 3) := by decide +kernel
theorem dX7_of_66 : decode cX7_of 66 = .ok (.goto 20, 3) := by decide +kernel
theorem dX7_of_69 : decode cX7_of 69 = .ok (.iload_n 2, 1) := by decide +kernel
theorem dX7_of_70 : decode cX7_of 70 = .ok (.iconst 4, 1) := by decide +kernel
theorem dX7_of_71 : decode cX7_of 71 = .ok (.if_icmp .ne 10, 3) := by decide +kernel
theorem dX7_of_74 : decode cX7_of 74 = .ok (.aload_n 0, 1) := by decide +kernel
theorem dX7_of_75 : decode cX7_of 75 = .ok (.getfield 142, 3) := by decide +kernel
theorem dX7_of_78 : decode cX7_of 78 = .ok (.goto 8, 3) := by decide +kernel
theorem dX7_of_81 : decode cX7_of 81 = .ok (.aload_n 0, 1) := by decide +kernel
theorem dX7_of_82 : decode cX7_of 82 = .ok (.iload_n 1, 1) := by decide +kernel
theorem dX7_of_83 : decode cX7_of 83 = .ok (.invokevirtual 181, 3) := by decide +kernel
theorem dX7_of_86 : decode cX7_of 86 = .ok (.ireturn, 1) := by decide +kernel
theorem dX7_heardAt_0 : decode cX7_heardAt 0 = .ok (.aload_n 0, 1) := by decide +kernel
theorem dX7_heardAt_1 : decode cX7_heardAt 1 = .ok (.iload_n 2, 1) := by decide +kernel
theorem dX7_heardAt_2 : decode cX7_heardAt 2 = .ok (.invokevirtual 181, 3) := by decide +kernel
theorem dX7_heardAt_5 : decode cX7_heardAt 5 = .ok (.aload_n 0, 1) := by decide +kernel
theorem dX7_heardAt_6 : decode cX7_heardAt 6 = .ok (.invokevirtual 133, 3) := by decide +kernel
theorem dX7_heardAt_9 : decode cX7_heardAt 9 = .ok (.iload_n 1, 1) := by decide +kernel
theorem dX7_heardAt_10 : decode cX7_heardAt 10 = .ok (.bipush 8, 2) := by decide +kernel
theorem dX7_heardAt_12 : decode cX7_heardAt 12 = .ok (.isub, 1) := by decide +kernel
theorem dX7_heardAt_13 : decode cX7_heardAt 13 = .ok (.aload_n 0, 1) := by decide +kernel
theorem dX7_heardAt_14 : decode cX7_heardAt 14 = .ok (.getfield 7, 3) := by decide +kernel
theorem dX7_heardAt_17 : decode cX7_heardAt 17 = .ok (.sipush 150, 3) := by decide +kernel
theorem dX7_heardAt_20 : decode cX7_heardAt 20 = .ok (.iload_n 2, 1) := by decide +kernel
theorem dX7_heardAt_21 : decode cX7_heardAt 21 = .ok (.iadd, 1) := by decide +kernel
theorem dX7_heardAt_22 : decode cX7_heardAt 22 = .ok (.iaload, 1) := by decide +kernel
theorem dX7_heardAt_23 : decode cX7_heardAt 23 = .ok (.invokestatic 155, 3) := by decide +kernel
theorem dX7_heardAt_26 : decode cX7_heardAt 26 = .ok (.imul, 1) := by decide +kernel
theorem dX7_heardAt_27 : decode cX7_heardAt 27 = .ok (.iadd, 1) := by decide +kernel
theorem dX7_heardAt_28 : decode cX7_heardAt 28 = .ok (.ireturn, 1) := by decide +kernel
theorem dX7_heard_0 : decode cX7_heard 0 = .ok (.iload_n 1, 1) := by decide +kernel
theorem dX7_heard_1 : decode cX7_heard 1 = .ok (.invokestatic 184, 3) := by decide +kernel
theorem dX7_heard_4 : decode cX7_heard 4 = .ok (.ifCond .eq 20, 3) := by decide +kernel
theorem dX7_heard_7 : decode cX7_heard 7 = .ok (.aload_n 0, 1) := by decide +kernel
theorem dX7_heard_8 : decode cX7_heard 8 = .ok (.iload_n 2, 1) := by decide +kernel
theorem dX7_heard_9 : decode cX7_heard 9 = .ok (.invokevirtual 152, 3) := by decide +kernel
theorem dX7_heard_12 : decode cX7_heard 12 = .ok (.ifCond .eq 12, 3) := by decide +kernel
theorem dX7_heard_15 : decode cX7_heard 15 = .ok (.aload_n 0, 1) := by decide +kernel
theorem dX7_heard_16 : decode cX7_heard 16 = .ok (.iload_n 1, 1) := by decide +kernel
theorem dX7_heard_17 : decode cX7_heard 17 = .ok (.iload_n 2, 1) := by decide +kernel
theorem dX7_heard_18 : decode cX7_heard 18 = .ok (.invokevirtual 187, 3) := by decide +kernel
theorem dX7_heard_21 : decode cX7_heard 21 = .ok (.goto 6, 3) := by decide +kernel
theorem dX7_heard_24 : decode cX7_heard 24 = .ok (.sipush (-1001), 3) := by decide +kernel
theorem dX7_heard_27 : decode cX7_heard 27 = .ok (.ireturn, 1) := by decide +kernel
theorem dX7_spreadAt_0 : decode cX7_spreadAt 0 = .ok (.iconst 0, 1) := by decide +kernel
theorem dX7_spreadAt_1 : decode cX7_spreadAt 1 = .ok (.istore_n 2, 1) := by decide +kernel
theorem dX7_spreadAt_2 : decode cX7_spreadAt 2 = .ok (.iconst 0, 1) := by decide +kernel
theorem dX7_spreadAt_3 : decode cX7_spreadAt 3 = .ok (.istore_n 3, 1) := by decide +kernel
theorem dX7_spreadAt_4 : decode cX7_spreadAt 4 = .ok (.aload_n 0, 1) := by decide +kernel
theorem dX7_spreadAt_5 : decode cX7_spreadAt 5 = .ok (.iconst 0, 1) := by decide +kernel
theorem dX7_spreadAt_6 : decode cX7_spreadAt 6 = .ok (.putfield 190, 3) := by decide +kernel
theorem dX7_spreadAt_9 : decode cX7_spreadAt 9 = .ok (.iconst 0, 1) := by decide +kernel
theorem dX7_spreadAt_10 : decode cX7_spreadAt 10 = .ok (.istore 4, 2) := by decide +kernel
theorem dX7_spreadAt_12 : decode cX7_spreadAt 12 = .ok (.iload 4, 2) := by decide +kernel
theorem dX7_spreadAt_14 : decode cX7_spreadAt 14 = .ok (.aload_n 0, 1) := by decide +kernel
theorem dX7_spreadAt_15 : decode cX7_spreadAt 15 = .ok (.getfield 7, 3) := by decide +kernel
theorem dX7_spreadAt_18 : decode cX7_spreadAt 18 = .ok (.iconst 0, 1) := by decide +kernel
theorem dX7_spreadAt_19 : decode cX7_spreadAt 19 = .ok (.iaload, 1) := by decide +kernel
theorem dX7_spreadAt_20 : decode cX7_spreadAt 20 = .ok (.if_icmp .ge 72, 3) := by decide +kernel
theorem dX7_spreadAt_23 : decode cX7_spreadAt 23 = .ok (.iload 4, 2) := by decide +kernel
theorem dX7_spreadAt_25 : decode cX7_spreadAt 25 = .ok (.aload_n 0, 1) := by decide +kernel
theorem dX7_spreadAt_26 : decode cX7_spreadAt 26 = .ok (.getfield 23, 3) := by decide +kernel
theorem dX7_spreadAt_29 : decode cX7_spreadAt 29 = .ok (.if_icmp .eq 57, 3) := by decide +kernel
theorem dX7_spreadAt_32 : decode cX7_spreadAt 32 = .ok (.aload_n 0, 1) := by decide +kernel
theorem dX7_spreadAt_33 : decode cX7_spreadAt 33 = .ok (.iload_n 1, 1) := by decide +kernel
theorem dX7_spreadAt_34 : decode cX7_spreadAt 34 = .ok (.iload 4, 2) := by decide +kernel
theorem dX7_spreadAt_36 : decode cX7_spreadAt 36 = .ok (.invokevirtual 187, 3) := by decide +kernel
theorem dX7_spreadAt_39 : decode cX7_spreadAt 39 = .ok (.istore 5, 2) := by decide +kernel
theorem dX7_spreadAt_41 : decode cX7_spreadAt 41 = .ok (.iload_n 2, 1) := by decide +kernel
theorem dX7_spreadAt_42 : decode cX7_spreadAt 42 = .ok (.ifCond .eq 9, 3) := by decide +kernel
theorem dX7_spreadAt_45 : decode cX7_spreadAt 45 = .ok (.iload 5, 2) := by decide +kernel
theorem dX7_spreadAt_47 : decode cX7_spreadAt 47 = .ok (.iload_n 3, 1) := by decide +kernel
theorem dX7_spreadAt_48 : decode cX7_spreadAt 48 = .ok (.if_icmp .le 8, 3) := by decide +kernel
theorem dX7_spreadAt_51 : decode cX7_spreadAt 51 = .ok (.iload 5, 2) := by decide +kernel
theorem dX7_spreadAt_53 : decode cX7_spreadAt 53 = .ok (.goto 4, 3) := by decide +kernel
theorem dX7_spreadAt_56 : decode cX7_spreadAt 56 = .ok (.iload_n 3, 1) := by decide +kernel
theorem dX7_spreadAt_57 : decode cX7_spreadAt 57 = .ok (.istore_n 3, 1) := by decide +kernel
theorem dX7_spreadAt_58 : decode cX7_spreadAt 58 = .ok (.aload_n 0, 1) := by decide +kernel
theorem dX7_spreadAt_59 : decode cX7_spreadAt 59 = .ok (.iload_n 2, 1) := by decide +kernel
theorem dX7_spreadAt_60 : decode cX7_spreadAt 60 = .ok (.ifCond .eq 12, 3) := by decide +kernel
theorem dX7_spreadAt_63 : decode cX7_spreadAt 63 = .ok (.iload 5, 2) := by decide +kernel
theorem dX7_spreadAt_65 : decode cX7_spreadAt 65 = .ok (.aload_n 0, 1) := by decide +kernel
theorem dX7_spreadAt_66 : decode cX7_spreadAt 66 = .ok (.getfield 190, 3) := by decide +kernel
theorem dX7_spreadAt_69 : decode cX7_spreadAt 69 = .ok (.if_icmp .ge 8, 3) := by decide +kernel
theorem dX7_spreadAt_72 : decode cX7_spreadAt 72 = .ok (.iload 5, 2) := by decide +kernel
theorem dX7_spreadAt_74 : decode cX7_spreadAt 74 = .ok (.goto 7, 3) := by decide +kernel
theorem dX7_spreadAt_77 : decode cX7_spreadAt 77 = .ok (.aload_n 0, 1) := by decide +kernel
theorem dX7_spreadAt_78 : decode cX7_spreadAt 78 = .ok (.getfield 190, 3) := by decide +kernel
theorem dX7_spreadAt_81 : decode cX7_spreadAt 81 = .ok (.putfield 190, 3) := by decide +kernel
theorem dX7_spreadAt_84 : decode cX7_spreadAt 84 = .ok (.iconst 1, 1) := by decide +kernel
theorem dX7_spreadAt_85 : decode cX7_spreadAt 85 = .ok (.istore_n 2, 1) := by decide +kernel
theorem dX7_spreadAt_86 : decode cX7_spreadAt 86 = .ok (.iinc 4 1, 3) := by decide +kernel
theorem dX7_spreadAt_89 : decode cX7_spreadAt 89 = .ok (.goto (-77), 3) := by decide +kernel
theorem dX7_spreadAt_92 : decode cX7_spreadAt 92 = .ok (.iload_n 3, 1) := by decide +kernel
theorem dX7_spreadAt_93 : decode cX7_spreadAt 93 = .ok (.aload_n 0, 1) := by decide +kernel
theorem dX7_spreadAt_94 : decode cX7_spreadAt 94 = .ok (.getfield 190, 3) := by decide +kernel
theorem dX7_spreadAt_97 : decode cX7_spreadAt 97 = .ok (.isub, 1) := by decide +kernel
theorem dX7_spreadAt_98 : decode cX7_spreadAt 98 = .ok (.ireturn, 1) := by decide +kernel
theorem dX7_allSpreads_0 : decode cX7_allSpreads 0 = .ok (.iconst 0, 1) := by decide +kernel
theorem dX7_allSpreads_1 : decode cX7_allSpreads 1 = .ok (.istore_n 1, 1) := by decide +kernel
theorem dX7_allSpreads_2 : decode cX7_allSpreads 2 = .ok (.iconst 0, 1) := by decide +kernel
theorem dX7_allSpreads_3 : decode cX7_allSpreads 3 = .ok (.istore_n 2, 1) := by decide +kernel
theorem dX7_allSpreads_4 : decode cX7_allSpreads 4 = .ok (.iload_n 2, 1) := by decide +kernel
theorem dX7_allSpreads_5 : decode cX7_allSpreads 5 = .ok (.bipush 8, 2) := by decide +kernel
theorem dX7_allSpreads_7 : decode cX7_allSpreads 7 = .ok (.if_icmp .ge 17, 3) := by decide +kernel
theorem dX7_allSpreads_10 : decode cX7_allSpreads 10 = .ok (.iload_n 1, 1) := by decide +kernel
theorem dX7_allSpreads_11 : decode cX7_allSpreads 11 = .ok (.aload_n 0, 1) := by decide +kernel
theorem dX7_allSpreads_12 : decode cX7_allSpreads 12 = .ok (.iload_n 2, 1) := by decide +kernel
theorem dX7_allSpreads_13 : decode cX7_allSpreads 13 = .ok (.invokevirtual 193, 3) := by decide +kernel
theorem dX7_allSpreads_16 : decode cX7_allSpreads 16 = .ok (.iadd, 1) := by decide +kernel
theorem dX7_allSpreads_17 : decode cX7_allSpreads 17 = .ok (.istore_n 1, 1) := by decide +kernel
theorem dX7_allSpreads_18 : decode cX7_allSpreads 18 = .ok (.iinc 2 1, 3) := by decide +kernel
theorem dX7_allSpreads_21 : decode cX7_allSpreads 21 = .ok (.goto (-17), 3) := by decide +kernel
theorem dX7_allSpreads_24 : decode cX7_allSpreads 24 = .ok (.iload_n 1, 1) := by decide +kernel
theorem dX7_allSpreads_25 : decode cX7_allSpreads 25 = .ok (.ireturn, 1) := by decide +kernel
theorem dX7_together_0 : decode cX7_together 0 = .ok (.iconst (-1), 1) := by decide +kernel
theorem dX7_together_1 : decode cX7_together 1 = .ok (.istore_n 3, 1) := by decide +kernel
theorem dX7_together_2 : decode cX7_together 2 = .ok (.iconst 0, 1) := by decide +kernel
theorem dX7_together_3 : decode cX7_together 3 = .ok (.istore 4, 2) := by decide +kernel
theorem dX7_together_5 : decode cX7_together 5 = .ok (.iload 4, 2) := by decide +kernel
theorem dX7_together_7 : decode cX7_together 7 = .ok (.aload_n 0, 1) := by decide +kernel
theorem dX7_together_8 : decode cX7_together 8 = .ok (.getfield 7, 3) := by decide +kernel
theorem dX7_together_11 : decode cX7_together 11 = .ok (.iconst 0, 1) := by decide +kernel
theorem dX7_together_12 : decode cX7_together 12 = .ok (.iaload, 1) := by decide +kernel
theorem dX7_together_13 : decode cX7_together 13 = .ok (.if_icmp .ge 35, 3) := by decide +kernel
theorem dX7_together_16 : decode cX7_together 16 = .ok (.iload_n 3, 1) := by decide +kernel
theorem dX7_together_17 : decode cX7_together 17 = .ok (.iconst (-1), 1) := by decide +kernel
theorem dX7_together_18 : decode cX7_together 18 = .ok (.if_icmp .eq 17, 3) := by decide +kernel
theorem dX7_together_21 : decode cX7_together 21 = .ok (.aload_n 0, 1) := by decide +kernel
theorem dX7_together_22 : decode cX7_together 22 = .ok (.iload 4, 2) := by decide +kernel
theorem dX7_together_24 : decode cX7_together 24 = .ok (.invokevirtual 196, 3) := by decide +kernel
theorem dX7_together_27 : decode cX7_together 27 = .ok (.aload_n 0, 1) := by decide +kernel
theorem dX7_together_28 : decode cX7_together 28 = .ok (.iload_n 3, 1) := by decide +kernel
theorem dX7_together_29 : decode cX7_together 29 = .ok (.invokevirtual 196, 3) := by decide +kernel
theorem dX7_together_32 : decode cX7_together 32 = .ok (.if_icmp .le 8, 3) := by decide +kernel
theorem dX7_together_35 : decode cX7_together 35 = .ok (.iload 4, 2) := by decide +kernel
theorem dX7_together_37 : decode cX7_together 37 = .ok (.goto 4, 3) := by decide +kernel
theorem dX7_together_40 : decode cX7_together 40 = .ok (.iload_n 3, 1) := by decide +kernel
theorem dX7_together_41 : decode cX7_together 41 = .ok (.istore_n 3, 1) := by decide +kernel
theorem dX7_together_42 : decode cX7_together 42 = .ok (.iinc 4 1, 3) := by decide +kernel
theorem dX7_together_45 : decode cX7_together 45 = .ok (.goto (-40), 3) := by decide +kernel
theorem dX7_together_48 : decode cX7_together 48 = .ok (.iconst 0, 1) := by decide +kernel
theorem dX7_together_49 : decode cX7_together 49 = .ok (.istore 4, 2) := by decide +kernel
theorem dX7_together_51 : decode cX7_together 51 = .ok (.iconst 0, 1) := by decide +kernel
theorem dX7_together_52 : decode cX7_together 52 = .ok (.istore 5, 2) := by decide +kernel
theorem dX7_together_54 : decode cX7_together 54 = .ok (.iload 5, 2) := by decide +kernel
theorem dX7_together_56 : decode cX7_together 56 = .ok (.aload_n 0, 1) := by decide +kernel
theorem dX7_together_57 : decode cX7_together 57 = .ok (.getfield 7, 3) := by decide +kernel
theorem dX7_together_60 : decode cX7_together 60 = .ok (.iconst 0, 1) := by decide +kernel
theorem dX7_together_61 : decode cX7_together 61 = .ok (.iaload, 1) := by decide +kernel
theorem dX7_together_62 : decode cX7_together 62 = .ok (.if_icmp .ge 45, 3) := by decide +kernel
theorem dX7_together_65 : decode cX7_together 65 = .ok (.iload 4, 2) := by decide +kernel
theorem dX7_together_67 : decode cX7_together 67 = .ok (.aload_n 0, 1) := by decide +kernel
theorem dX7_together_68 : decode cX7_together 68 = .ok (.iload_n 1, 1) := by decide +kernel
theorem dX7_together_69 : decode cX7_together 69 = .ok (.iload 5, 2) := by decide +kernel
theorem dX7_together_71 : decode cX7_together 71 = .ok (.invokevirtual 187, 3) := by decide +kernel
theorem dX7_together_74 : decode cX7_together 74 = .ok (.aload_n 0, 1) := by decide +kernel
theorem dX7_together_75 : decode cX7_together 75 = .ok (.iload_n 1, 1) := by decide +kernel
theorem dX7_together_76 : decode cX7_together 76 = .ok (.iload_n 3, 1) := by decide +kernel
theorem dX7_together_77 : decode cX7_together 77 = .ok (.invokevirtual 187, 3) := by decide +kernel
theorem dX7_together_80 : decode cX7_together 80 = .ok (.isub, 1) := by decide +kernel
theorem dX7_together_81 : decode cX7_together 81 = .ok (.invokestatic 43, 3) := by decide +kernel
theorem dX7_together_84 : decode cX7_together 84 = .ok (.iload_n 2, 1) := by decide +kernel
theorem dX7_together_85 : decode cX7_together 85 = .ok (.if_icmp .gt 12, 3) := by decide +kernel
theorem dX7_together_88 : decode cX7_together 88 = .ok (.aload_n 0, 1) := by decide +kernel
theorem dX7_together_89 : decode cX7_together 89 = .ok (.iload 5, 2) := by decide +kernel
theorem dX7_together_91 : decode cX7_together 91 = .ok (.invokevirtual 196, 3) := by decide +kernel
theorem dX7_together_94 : decode cX7_together 94 = .ok (.goto 4, 3) := by decide +kernel
theorem dX7_together_97 : decode cX7_together 97 = .ok (.iconst 0, 1) := by decide +kernel
theorem dX7_together_98 : decode cX7_together 98 = .ok (.iadd, 1) := by decide +kernel
theorem dX7_together_99 : decode cX7_together 99 = .ok (.istore 4, 2) := by decide +kernel
theorem dX7_together_101 : decode cX7_together 101 = .ok (.iinc 5 1, 3) := by decide +kernel
theorem dX7_together_104 : decode cX7_together 104 = .ok (.goto (-50), 3) := by decide +kernel
theorem dX7_together_107 : decode cX7_together 107 = .ok (.iload 4, 2) := by decide +kernel
theorem dX7_together_109 : decode cX7_together 109 = .ok (.ireturn, 1) := by decide +kernel
theorem dX7_spread_0 : decode cX7_spread 0 = .ok (.iload_n 1, 1) := by decide +kernel
theorem dX7_spread_1 : decode cX7_spread 1 = .ok (.invokestatic 184, 3) := by decide +kernel
theorem dX7_spread_4 : decode cX7_spread 4 = .ok (.ifCond .eq 13, 3) := by decide +kernel
theorem dX7_spread_7 : decode cX7_spread 7 = .ok (.iload_n 2, 1) := by decide +kernel
theorem dX7_spread_8 : decode cX7_spread 8 = .ok (.iconst 0, 1) := by decide +kernel
theorem dX7_spread_9 : decode cX7_spread 9 = .ok (.bipush 50, 2) := by decide +kernel
theorem dX7_spread_11 : decode cX7_spread 11 = .ok (.invokestatic 39, 3) := by decide +kernel
theorem dX7_spread_14 : decode cX7_spread 14 = .ok (.ifCond .ne 5, 3) := by decide +kernel
theorem dX7_spread_17 : decode cX7_spread 17 = .ok (.iconst (-1), 1) := by decide +kernel
theorem dX7_spread_18 : decode cX7_spread 18 = .ok (.ireturn, 1) := by decide +kernel
theorem dX7_spread_19 : decode cX7_spread 19 = .ok (.iload_n 2, 1) := by decide +kernel
theorem dX7_spread_20 : decode cX7_spread 20 = .ok (.ifCond .ne 11, 3) := by decide +kernel
theorem dX7_spread_23 : decode cX7_spread 23 = .ok (.aload_n 0, 1) := by decide +kernel
theorem dX7_spread_24 : decode cX7_spread 24 = .ok (.iload_n 1, 1) := by decide +kernel
theorem dX7_spread_25 : decode cX7_spread 25 = .ok (.invokevirtual 193, 3) := by decide +kernel
theorem dX7_spread_28 : decode cX7_spread 28 = .ok (.goto 11, 3) := by decide +kernel
theorem dX7_spread_31 : decode cX7_spread 31 = .ok (.aload_n 0, 1) := by decide +kernel
theorem dX7_spread_32 : decode cX7_spread 32 = .ok (.iload_n 1, 1) := by decide +kernel
theorem dX7_spread_33 : decode cX7_spread 33 = .ok (.iload_n 2, 1) := by decide +kernel
theorem dX7_spread_34 : decode cX7_spread 34 = .ok (.iconst 1, 1) := by decide +kernel
theorem dX7_spread_35 : decode cX7_spread 35 = .ok (.isub, 1) := by decide +kernel
theorem dX7_spread_36 : decode cX7_spread 36 = .ok (.invokevirtual 199, 3) := by decide +kernel
theorem dX7_spread_39 : decode cX7_spread 39 = .ok (.ireturn, 1) := by decide +kernel
theorem dX7_back_0 : decode cX7_back 0 = .ok (.iload_n 1, 1) := by decide +kernel
theorem dX7_back_1 : decode cX7_back 1 = .ok (.invokestatic 184, 3) := by decide +kernel
theorem dX7_back_4 : decode cX7_back 4 = .ok (.ifCond .ne 5, 3) := by decide +kernel
theorem dX7_back_7 : decode cX7_back 7 = .ok (.iconst (-1), 1) := by decide +kernel
theorem dX7_back_8 : decode cX7_back 8 = .ok (.ireturn, 1) := by decide +kernel
theorem dX7_back_9 : decode cX7_back 9 = .ok (.iload_n 2, 1) := by decide +kernel
theorem dX7_back_10 : decode cX7_back 10 = .ok (.iconst 0, 1) := by decide +kernel
theorem dX7_back_11 : decode cX7_back 11 = .ok (.bipush 99, 2) := by decide +kernel
theorem dX7_back_13 : decode cX7_back 13 = .ok (.invokestatic 39, 3) := by decide +kernel
theorem dX7_back_16 : decode cX7_back 16 = .ok (.ifCond .ne 6, 3) := by decide +kernel
theorem dX7_back_19 : decode cX7_back 19 = .ok (.bipush (-2), 2) := by decide +kernel
theorem dX7_back_21 : decode cX7_back 21 = .ok (.ireturn, 1) := by decide +kernel
theorem dX7_back_22 : decode cX7_back 22 = .ok (.iconst 0, 1) := by decide +kernel
theorem dX7_back_23 : decode cX7_back 23 = .ok (.istore_n 3, 1) := by decide +kernel
theorem dX7_back_24 : decode cX7_back 24 = .ok (.aload_n 0, 1) := by decide +kernel
theorem dX7_back_25 : decode cX7_back 25 = .ok (.invokevirtual 133, 3) := by decide +kernel
theorem dX7_back_28 : decode cX7_back 28 = .ok (.iload_n 1, 1) := by decide +kernel
theorem dX7_back_29 : decode cX7_back 29 = .ok (.bipush 8, 2) := by decide +kernel
theorem dX7_back_31 : decode cX7_back 31 = .ok (.isub, 1) := by decide +kernel
theorem dX7_back_32 : decode cX7_back 32 = .ok (.aload_n 0, 1) := by decide +kernel
theorem dX7_back_33 : decode cX7_back 33 = .ok (.getfield 7, 3) := by decide +kernel
theorem dX7_back_36 : decode cX7_back 36 = .ok (.iconst 5, 1) := by decide +kernel
theorem dX7_back_37 : decode cX7_back 37 = .ok (.iaload, 1) := by decide +kernel
theorem dX7_back_38 : decode cX7_back 38 = .ok (.invokestatic 155, 3) := by decide +kernel
theorem dX7_back_41 : decode cX7_back 41 = .ok (.imul, 1) := by decide +kernel
theorem dX7_back_42 : decode cX7_back 42 = .ok (.istore 4, 2) := by decide +kernel
theorem dX7_back_44 : decode cX7_back 44 = .ok (.iconst 0, 1) := by decide +kernel
theorem dX7_back_45 : decode cX7_back 45 = .ok (.istore 5, 2) := by decide +kernel
theorem dX7_back_47 : decode cX7_back 47 = .ok (.iload 5, 2) := by decide +kernel
theorem dX7_back_49 : decode cX7_back 49 = .ok (.aload_n 0, 1) := by decide +kernel
theorem dX7_back_50 : decode cX7_back 50 = .ok (.getfield 7, 3) := by decide +kernel
theorem dX7_back_53 : decode cX7_back 53 = .ok (.iconst 0, 1) := by decide +kernel
theorem dX7_back_54 : decode cX7_back 54 = .ok (.iaload, 1) := by decide +kernel
theorem dX7_back_55 : decode cX7_back 55 = .ok (.if_icmp .ge 65, 3) := by decide +kernel
theorem dX7_back_58 : decode cX7_back 58 = .ok (.aload_n 0, 1) := by decide +kernel
theorem dX7_back_59 : decode cX7_back 59 = .ok (.iload 5, 2) := by decide +kernel
theorem dX7_back_61 : decode cX7_back 61 = .ok (.iconst 0, 1) := by decide +kernel
theorem dX7_back_62 : decode cX7_back 62 = .ok (.invokevirtual 158, 3) := by decide +kernel
theorem dX7_back_65 : decode cX7_back 65 = .ok (.aload_n 0, 1) := by decide +kernel
theorem dX7_back_66 : decode cX7_back 66 = .ok (.invokevirtual 133, 3) := by decide +kernel
theorem dX7_back_69 : decode cX7_back 69 = .ok (.iload_n 1, 1) := by decide +kernel
theorem dX7_back_70 : decode cX7_back 70 = .ok (.bipush 8, 2) := by decide +kernel
theorem dX7_back_72 : decode cX7_back 72 = .ok (.isub, 1) := by decide +kernel
theorem dX7_back_73 : decode cX7_back 73 = .ok (.aload_n 0, 1) := by decide +kernel
theorem dX7_back_74 : decode cX7_back 74 = .ok (.getfield 7, 3) := by decide +kernel
theorem dX7_back_77 : decode cX7_back 77 = .ok (.sipush 150, 3) := by decide +kernel
theorem dX7_back_80 : decode cX7_back 80 = .ok (.iload 5, 2) := by decide +kernel
theorem dX7_back_82 : decode cX7_back 82 = .ok (.iadd, 1) := by decide +kernel
theorem dX7_back_83 : decode cX7_back 83 = .ok (.iaload, 1) := by decide +kernel
theorem dX7_back_84 : decode cX7_back 84 = .ok (.invokestatic 155, 3) := by decide +kernel
theorem dX7_back_87 : decode cX7_back 87 = .ok (.imul, 1) := by decide +kernel
theorem dX7_back_88 : decode cX7_back 88 = .ok (.iadd, 1) := by decide +kernel
theorem dX7_back_89 : decode cX7_back 89 = .ok (.istore 6, 2) := by decide +kernel
theorem dX7_back_91 : decode cX7_back 91 = .ok (.iload_n 3, 1) := by decide +kernel
theorem dX7_back_92 : decode cX7_back 92 = .ok (.iload 6, 2) := by decide +kernel
theorem dX7_back_94 : decode cX7_back 94 = .ok (.iload 4, 2) := by decide +kernel
theorem dX7_back_96 : decode cX7_back 96 = .ok (.isub, 1) := by decide +kernel
theorem dX7_back_97 : decode cX7_back 97 = .ok (.invokestatic 43, 3) := by decide +kernel
theorem dX7_back_100 : decode cX7_back 100 = .ok (.iload_n 2, 1) := by decide +kernel
theorem dX7_back_101 : decode cX7_back 101 = .ok (.if_icmp .gt 10, 3) := by decide +kernel
theorem dX7_back_104 : decode cX7_back 104 = .ok (.iconst 1, 1) := by decide +kernel
theorem dX7_back_105 : decode cX7_back 105 = .ok (.iload 5, 2) := by decide +kernel
theorem dX7_back_107 : decode cX7_back 107 = .ok (.ishl, 1) := by decide +kernel
theorem dX7_back_108 : decode cX7_back 108 = .ok (.goto 4, 3) := by decide +kernel
theorem dX7_back_111 : decode cX7_back 111 = .ok (.iconst 0, 1) := by decide +kernel
theorem dX7_back_112 : decode cX7_back 112 = .ok (.ior, 1) := by decide +kernel
theorem dX7_back_113 : decode cX7_back 113 = .ok (.istore_n 3, 1) := by decide +kernel
theorem dX7_back_114 : decode cX7_back 114 = .ok (.iinc 5 1, 3) := by decide +kernel
theorem dX7_back_117 : decode cX7_back 117 = .ok (.goto (-70), 3) := by decide +kernel
theorem dX7_back_120 : decode cX7_back 120 = .ok (.iload_n 3, 1) := by decide +kernel
theorem dX7_back_121 : decode cX7_back 121 = .ok (.ireturn, 1) := by decide +kernel
theorem dX7_best_0 : decode cX7_best 0 = .ok (.iload_n 1, 1) := by decide +kernel
theorem dX7_best_1 : decode cX7_best 1 = .ok (.iconst 0, 1) := by decide +kernel
theorem dX7_best_2 : decode cX7_best 2 = .ok (.iconst 1, 1) := by decide +kernel
theorem dX7_best_3 : decode cX7_best 3 = .ok (.invokestatic 39, 3) := by decide +kernel
theorem dX7_best_6 : decode cX7_best 6 = .ok (.ifCond .ne 5, 3) := by decide +kernel
theorem dX7_best_9 : decode cX7_best 9 = .ok (.iconst (-1), 1) := by decide +kernel
theorem dX7_best_10 : decode cX7_best 10 = .ok (.ireturn, 1) := by decide +kernel
theorem dX7_best_11 : decode cX7_best 11 = .ok (.aload_n 0, 1) := by decide +kernel
theorem dX7_best_12 : decode cX7_best 12 = .ok (.getfield 7, 3) := by decide +kernel
theorem dX7_best_15 : decode cX7_best 15 = .ok (.iconst 5, 1) := by decide +kernel
theorem dX7_best_16 : decode cX7_best 16 = .ok (.iaload, 1) := by decide +kernel
theorem dX7_best_17 : decode cX7_best 17 = .ok (.istore_n 2, 1) := by decide +kernel
theorem dX7_best_18 : decode cX7_best 18 = .ok (.iconst (-1), 1) := by decide +kernel
theorem dX7_best_19 : decode cX7_best 19 = .ok (.istore_n 3, 1) := by decide +kernel
theorem dX7_best_20 : decode cX7_best 20 = .ok (.iconst 0, 1) := by decide +kernel
theorem dX7_best_21 : decode cX7_best 21 = .ok (.istore 4, 2) := by decide +kernel
theorem dX7_best_23 : decode cX7_best 23 = .ok (.iconst 0, 1) := by decide +kernel
theorem dX7_best_24 : decode cX7_best 24 = .ok (.istore 5, 2) := by decide +kernel
theorem dX7_best_26 : decode cX7_best 26 = .ok (.iload 5, 2) := by decide +kernel
theorem dX7_best_28 : decode cX7_best 28 = .ok (.bipush 64, 2) := by decide +kernel
theorem dX7_best_30 : decode cX7_best 30 = .ok (.if_icmp .ge 78, 3) := by decide +kernel
theorem dX7_best_33 : decode cX7_best 33 = .ok (.aload_n 0, 1) := by decide +kernel
theorem dX7_best_34 : decode cX7_best 34 = .ok (.iload 5, 2) := by decide +kernel
theorem dX7_best_36 : decode cX7_best 36 = .ok (.invokevirtual 149, 3) := by decide +kernel
theorem dX7_best_39 : decode cX7_best 39 = .ok (.iconst (-1), 1) := by decide +kernel
theorem dX7_best_40 : decode cX7_best 40 = .ok (.if_icmp .ne 62, 3) := by decide +kernel
theorem dX7_best_43 : decode cX7_best 43 = .ok (.aload_n 0, 1) := by decide +kernel
theorem dX7_best_44 : decode cX7_best 44 = .ok (.getfield 7, 3) := by decide +kernel
theorem dX7_best_47 : decode cX7_best 47 = .ok (.iconst 5, 1) := by decide +kernel
theorem dX7_best_48 : decode cX7_best 48 = .ok (.iload 5, 2) := by decide +kernel
theorem dX7_best_50 : decode cX7_best 50 = .ok (.iastore, 1) := by decide +kernel
theorem dX7_best_51 : decode cX7_best 51 = .ok (.aload_n 0, 1) := by decide +kernel
theorem dX7_best_52 : decode cX7_best 52 = .ok (.invokevirtual 202, 3) := by decide +kernel
theorem dX7_best_55 : decode cX7_best 55 = .ok (.istore 6, 2) := by decide +kernel
theorem dX7_best_57 : decode cX7_best 57 = .ok (.iload_n 3, 1) := by decide +kernel
theorem dX7_best_58 : decode cX7_best 58 = .ok (.iconst (-1), 1) := by decide +kernel
theorem dX7_best_59 : decode cX7_best 59 = .ok (.if_icmp .eq 10, 3) := by decide +kernel
theorem dX7_best_62 : decode cX7_best 62 = .ok (.iload 6, 2) := by decide +kernel
theorem dX7_best_64 : decode cX7_best 64 = .ok (.iload 4, 2) := by decide +kernel
theorem dX7_best_66 : decode cX7_best 66 = .ok (.if_icmp .ge 7, 3) := by decide +kernel
theorem dX7_best_69 : decode cX7_best 69 = .ok (.iconst 1, 1) := by decide +kernel
theorem dX7_best_70 : decode cX7_best 70 = .ok (.goto 4, 3) := by decide +kernel
theorem dX7_best_73 : decode cX7_best 73 = .ok (.iconst 0, 1) := by decide +kernel
theorem dX7_best_74 : decode cX7_best 74 = .ok (.istore 7, 2) := by decide +kernel
theorem dX7_best_76 : decode cX7_best 76 = .ok (.iload 7, 2) := by decide +kernel
theorem dX7_best_78 : decode cX7_best 78 = .ok (.ifCond .eq 8, 3) := by decide +kernel
theorem dX7_best_81 : decode cX7_best 81 = .ok (.iload 5, 2) := by decide +kernel
theorem dX7_best_83 : decode cX7_best 83 = .ok (.goto 4, 3) := by decide +kernel
theorem dX7_best_86 : decode cX7_best 86 = .ok (.iload_n 3, 1) := by decide +kernel
theorem dX7_best_87 : decode cX7_best 87 = .ok (.istore_n 3, 1) := by decide +kernel
theorem dX7_best_88 : decode cX7_best 88 = .ok (.iload 7, 2) := by decide +kernel
theorem dX7_best_90 : decode cX7_best 90 = .ok (.ifCond .eq 8, 3) := by decide +kernel
theorem dX7_best_93 : decode cX7_best 93 = .ok (.iload 6, 2) := by decide +kernel
theorem dX7_best_95 : decode cX7_best 95 = .ok (.goto 5, 3) := by decide +kernel
theorem dX7_best_98 : decode cX7_best 98 = .ok (.iload 4, 2) := by decide +kernel
theorem dX7_best_100 : decode cX7_best 100 = .ok (.istore 4, 2) := by decide +kernel
theorem dX7_best_102 : decode cX7_best 102 = .ok (.iinc 5 1, 3) := by decide +kernel
theorem dX7_best_105 : decode cX7_best 105 = .ok (.goto (-79), 3) := by decide +kernel
theorem dX7_best_108 : decode cX7_best 108 = .ok (.aload_n 0, 1) := by decide +kernel
theorem dX7_best_109 : decode cX7_best 109 = .ok (.getfield 7, 3) := by decide +kernel
theorem dX7_best_112 : decode cX7_best 112 = .ok (.iconst 5, 1) := by decide +kernel
theorem dX7_best_113 : decode cX7_best 113 = .ok (.iload_n 2, 1) := by decide +kernel
theorem dX7_best_114 : decode cX7_best 114 = .ok (.iastore, 1) := by decide +kernel
theorem dX7_best_115 : decode cX7_best 115 = .ok (.iload_n 1, 1) := by decide +kernel
theorem dX7_best_116 : decode cX7_best 116 = .ok (.ifCond .ne 7, 3) := by decide +kernel
theorem dX7_best_119 : decode cX7_best 119 = .ok (.iload_n 3, 1) := by decide +kernel
theorem dX7_best_120 : decode cX7_best 120 = .ok (.goto 5, 3) := by decide +kernel
theorem dX7_best_123 : decode cX7_best 123 = .ok (.iload 4, 2) := by decide +kernel
theorem dX7_best_125 : decode cX7_best 125 = .ok (.ireturn, 1) := by decide +kernel
theorem dX7_early_0 : decode cX7_early 0 = .ok (.aload_n 0, 1) := by decide +kernel
theorem dX7_early_1 : decode cX7_early 1 = .ok (.iload_n 1, 1) := by decide +kernel
theorem dX7_early_2 : decode cX7_early 2 = .ok (.invokevirtual 152, 3) := by decide +kernel
theorem dX7_early_5 : decode cX7_early 5 = .ok (.ifCond .eq 10, 3) := by decide +kernel
theorem dX7_early_8 : decode cX7_early 8 = .ok (.iload_n 2, 1) := by decide +kernel
theorem dX7_early_9 : decode cX7_early 9 = .ok (.invokestatic 184, 3) := by decide +kernel
theorem dX7_early_12 : decode cX7_early 12 = .ok (.ifCond .ne 5, 3) := by decide +kernel
theorem dX7_early_15 : decode cX7_early 15 = .ok (.iconst (-1), 1) := by decide +kernel
theorem dX7_early_16 : decode cX7_early 16 = .ok (.ireturn, 1) := by decide +kernel
theorem dX7_early_17 : decode cX7_early 17 = .ok (.aload_n 0, 1) := by decide +kernel
theorem dX7_early_18 : decode cX7_early 18 = .ok (.iload_n 2, 1) := by decide +kernel
theorem dX7_early_19 : decode cX7_early 19 = .ok (.invokevirtual 193, 3) := by decide +kernel
theorem dX7_early_22 : decode cX7_early 22 = .ok (.istore_n 3, 1) := by decide +kernel
theorem dX7_early_23 : decode cX7_early 23 = .ok (.aload_n 0, 1) := by decide +kernel
theorem dX7_early_24 : decode cX7_early 24 = .ok (.iload_n 2, 1) := by decide +kernel
theorem dX7_early_25 : decode cX7_early 25 = .ok (.iload_n 1, 1) := by decide +kernel
theorem dX7_early_26 : decode cX7_early 26 = .ok (.invokevirtual 187, 3) := by decide +kernel
theorem dX7_early_29 : decode cX7_early 29 = .ok (.aload_n 0, 1) := by decide +kernel
theorem dX7_early_30 : decode cX7_early 30 = .ok (.getfield 190, 3) := by decide +kernel
theorem dX7_early_33 : decode cX7_early 33 = .ok (.isub, 1) := by decide +kernel
theorem dX7_early_34 : decode cX7_early 34 = .ok (.ireturn, 1) := by decide +kernel
theorem dX7_beats_0 : decode cX7_beats 0 = .ok (.iload_n 1, 1) := by decide +kernel
theorem dX7_beats_1 : decode cX7_beats 1 = .ok (.invokestatic 184, 3) := by decide +kernel
theorem dX7_beats_4 : decode cX7_beats 4 = .ok (.ifCond .eq 17, 3) := by decide +kernel
theorem dX7_beats_7 : decode cX7_beats 7 = .ok (.aload_n 0, 1) := by decide +kernel
theorem dX7_beats_8 : decode cX7_beats 8 = .ok (.iload_n 1, 1) := by decide +kernel
theorem dX7_beats_9 : decode cX7_beats 9 = .ok (.invokevirtual 193, 3) := by decide +kernel
theorem dX7_beats_12 : decode cX7_beats 12 = .ok (.aload_n 0, 1) := by decide +kernel
theorem dX7_beats_13 : decode cX7_beats 13 = .ok (.iconst 1, 1) := by decide +kernel
theorem dX7_beats_14 : decode cX7_beats 14 = .ok (.invokevirtual 205, 3) := by decide +kernel
theorem dX7_beats_17 : decode cX7_beats 17 = .ok (.idiv, 1) := by decide +kernel
theorem dX7_beats_18 : decode cX7_beats 18 = .ok (.goto 4, 3) := by decide +kernel
theorem dX7_beats_21 : decode cX7_beats 21 = .ok (.iconst (-1), 1) := by decide +kernel
theorem dX7_beats_22 : decode cX7_beats 22 = .ok (.ireturn, 1) := by decide +kernel
theorem dX7_form_0 : decode cX7_form 0 = .ok (.iload_n 1, 1) := by decide +kernel
theorem dX7_form_1 : decode cX7_form 1 = .ok (.iconst (-1), 1) := by decide +kernel
theorem dX7_form_2 : decode cX7_form 2 = .ok (.if_icmp .ne 12, 3) := by decide +kernel
theorem dX7_form_5 : decode cX7_form 5 = .ok (.aload_n 0, 1) := by decide +kernel
theorem dX7_form_6 : decode cX7_form 6 = .ok (.getfield 7, 3) := by decide +kernel
theorem dX7_form_9 : decode cX7_form 9 = .ok (.iconst 2, 1) := by decide +kernel
theorem dX7_form_10 : decode cX7_form 10 = .ok (.iconst 0, 1) := by decide +kernel
theorem dX7_form_11 : decode cX7_form 11 = .ok (.iastore, 1) := by decide +kernel
theorem dX7_form_12 : decode cX7_form 12 = .ok (.iconst 0, 1) := by decide +kernel
theorem dX7_form_13 : decode cX7_form 13 = .ok (.ireturn, 1) := by decide +kernel
theorem dX7_form_14 : decode cX7_form 14 = .ok (.iload_n 1, 1) := by decide +kernel
theorem dX7_form_15 : decode cX7_form 15 = .ok (.invokestatic 145, 3) := by decide +kernel
theorem dX7_form_18 : decode cX7_form 18 = .ok (.ifCond .ne 5, 3) := by decide +kernel
theorem dX7_form_21 : decode cX7_form 21 = .ok (.iconst (-1), 1) := by decide +kernel
theorem dX7_form_22 : decode cX7_form 22 = .ok (.ireturn, 1) := by decide +kernel
theorem dX7_form_23 : decode cX7_form 23 = .ok (.iconst 0, 1) := by decide +kernel
theorem dX7_form_24 : decode cX7_form 24 = .ok (.istore_n 2, 1) := by decide +kernel
theorem dX7_form_25 : decode cX7_form 25 = .ok (.iload_n 2, 1) := by decide +kernel
theorem dX7_form_26 : decode cX7_form 26 = .ok (.aload_n 0, 1) := by decide +kernel
theorem dX7_form_27 : decode cX7_form 27 = .ok (.getfield 7, 3) := by decide +kernel
theorem dX7_form_30 : decode cX7_form 30 = .ok (.iconst 2, 1) := by decide +kernel
theorem dX7_form_31 : decode cX7_form 31 = .ok (.iaload, 1) := by decide +kernel
theorem dX7_form_32 : decode cX7_form 32 = .ok (.if_icmp .ge 26, 3) := by decide +kernel
theorem dX7_form_35 : decode cX7_form 35 = .ok (.aload_n 0, 1) := by decide +kernel
theorem dX7_form_36 : decode cX7_form 36 = .ok (.getfield 7, 3) := by decide +kernel
theorem dX7_form_39 : decode cX7_form 39 = .ok (.sipush 160, 3) := by decide +kernel
theorem dX7_form_42 : decode cX7_form 42 = .ok (.iload_n 2, 1) := by decide +kernel
theorem dX7_form_43 : decode cX7_form 43 = .ok (.iadd, 1) := by decide +kernel
theorem dX7_form_44 : decode cX7_form 44 = .ok (.iaload, 1) := by decide +kernel
theorem dX7_form_45 : decode cX7_form 45 = .ok (.iload_n 1, 1) := by decide +kernel
theorem dX7_form_46 : decode cX7_form 46 = .ok (.if_icmp .ne 6, 3) := by decide +kernel
theorem dX7_form_49 : decode cX7_form 49 = .ok (.bipush (-3), 2) := by decide +kernel
theorem dX7_form_51 : decode cX7_form 51 = .ok (.ireturn, 1) := by decide +kernel
theorem dX7_form_52 : decode cX7_form 52 = .ok (.iinc 2 1, 3) := by decide +kernel
theorem dX7_form_55 : decode cX7_form 55 = .ok (.goto (-30), 3) := by decide +kernel
theorem dX7_form_58 : decode cX7_form 58 = .ok (.aload_n 0, 1) := by decide +kernel
theorem dX7_form_59 : decode cX7_form 59 = .ok (.getfield 7, 3) := by decide +kernel
theorem dX7_form_62 : decode cX7_form 62 = .ok (.iconst 2, 1) := by decide +kernel
theorem dX7_form_63 : decode cX7_form 63 = .ok (.iaload, 1) := by decide +kernel
theorem dX7_form_64 : decode cX7_form 64 = .ok (.bipush 10, 2) := by decide +kernel
theorem dX7_form_66 : decode cX7_form 66 = .ok (.if_icmp .ne 6, 3) := by decide +kernel
theorem dX7_form_69 : decode cX7_form 69 = .ok (.bipush (-4), 2) := by decide +kernel
theorem dX7_form_71 : decode cX7_form 71 = .ok (.ireturn, 1) := by decide +kernel
theorem dX7_form_72 : decode cX7_form 72 = .ok (.aload_n 0, 1) := by decide +kernel
theorem dX7_form_73 : decode cX7_form 73 = .ok (.getfield 7, 3) := by decide +kernel
theorem dX7_form_76 : decode cX7_form 76 = .ok (.sipush 160, 3) := by decide +kernel
theorem dX7_form_79 : decode cX7_form 79 = .ok (.aload_n 0, 1) := by decide +kernel
theorem dX7_form_80 : decode cX7_form 80 = .ok (.getfield 7, 3) := by decide +kernel
theorem dX7_form_83 : decode cX7_form 83 = .ok (.iconst 2, 1) := by decide +kernel
theorem dX7_form_84 : decode cX7_form 84 = .ok (.iaload, 1) := by decide +kernel
theorem dX7_form_85 : decode cX7_form 85 = .ok (.iadd, 1) := by decide +kernel
theorem dX7_form_86 : decode cX7_form 86 = .ok (.iload_n 1, 1) := by decide +kernel
theorem dX7_form_87 : decode cX7_form 87 = .ok (.iastore, 1) := by decide +kernel
theorem dX7_form_88 : decode cX7_form 88 = .ok (.aload_n 0, 1) := by decide +kernel
theorem dX7_form_89 : decode cX7_form 89 = .ok (.getfield 7, 3) := by decide +kernel
theorem dX7_form_92 : decode cX7_form 92 = .ok (.iconst 2, 1) := by decide +kernel
theorem dX7_form_93 : decode cX7_form 93 = .ok (.dup2, 1) := by decide +kernel
theorem dX7_form_94 : decode cX7_form 94 = .ok (.iaload, 1) := by decide +kernel
theorem dX7_form_95 : decode cX7_form 95 = .ok (.iconst 1, 1) := by decide +kernel
theorem dX7_form_96 : decode cX7_form 96 = .ok (.iadd, 1) := by decide +kernel
theorem dX7_form_97 : decode cX7_form 97 = .ok (.iastore, 1) := by decide +kernel
theorem dX7_form_98 : decode cX7_form 98 = .ok (.aload_n 0, 1) := by decide +kernel
theorem dX7_form_99 : decode cX7_form 99 = .ok (.getfield 7, 3) := by decide +kernel
theorem dX7_form_102 : decode cX7_form 102 = .ok (.iconst 2, 1) := by decide +kernel
theorem dX7_form_103 : decode cX7_form 103 = .ok (.iaload, 1) := by decide +kernel
theorem dX7_form_104 : decode cX7_form 104 = .ok (.ireturn, 1) := by decide +kernel
theorem dX7_isTooFew_0 : decode cX7_isTooFew 0 = .ok (.aload_n 0, 1) := by decide +kernel
theorem dX7_isTooFew_1 : decode cX7_isTooFew 1 = .ok (.getfield 7, 3) := by decide +kernel
theorem dX7_isTooFew_4 : decode cX7_isTooFew 4 = .ok (.iconst 2, 1) := by decide +kernel
theorem dX7_isTooFew_5 : decode cX7_isTooFew 5 = .ok (.iaload, 1) := by decide +kernel
theorem dX7_isTooFew_6 : decode cX7_isTooFew 6 = .ok (.aload_n 0, 1) := by decide +kernel
theorem dX7_isTooFew_7 : decode cX7_isTooFew 7 = .ok (.getfield 7, 3) := by decide +kernel
theorem dX7_isTooFew_10 : decode cX7_isTooFew 10 = .ok (.iconst 0, 1) := by decide +kernel
theorem dX7_isTooFew_11 : decode cX7_isTooFew 11 = .ok (.iaload, 1) := by decide +kernel
theorem dX7_isTooFew_12 : decode cX7_isTooFew 12 = .ok (.if_icmp .ge 7, 3) := by decide +kernel
theorem dX7_isTooFew_15 : decode cX7_isTooFew 15 = .ok (.iconst 1, 1) := by decide +kernel
theorem dX7_isTooFew_16 : decode cX7_isTooFew 16 = .ok (.goto 4, 3) := by decide +kernel
theorem dX7_isTooFew_19 : decode cX7_isTooFew 19 = .ok (.iconst 0, 1) := by decide +kernel
theorem dX7_isTooFew_20 : decode cX7_isTooFew 20 = .ok (.ireturn, 1) := by decide +kernel
theorem dX7_farTo_0 : decode cX7_farTo 0 = .ok (.aload_n 0, 1) := by decide +kernel
theorem dX7_farTo_1 : decode cX7_farTo 1 = .ok (.getfield 7, 3) := by decide +kernel
theorem dX7_farTo_4 : decode cX7_farTo 4 = .ok (.sipush 150, 3) := by decide +kernel
theorem dX7_farTo_7 : decode cX7_farTo 7 = .ok (.iload_n 1, 1) := by decide +kernel
theorem dX7_farTo_8 : decode cX7_farTo 8 = .ok (.iadd, 1) := by decide +kernel
theorem dX7_farTo_9 : decode cX7_farTo 9 = .ok (.iaload, 1) := by decide +kernel
theorem dX7_farTo_10 : decode cX7_farTo 10 = .ok (.aload_n 0, 1) := by decide +kernel
theorem dX7_farTo_11 : decode cX7_farTo 11 = .ok (.getfield 7, 3) := by decide +kernel
theorem dX7_farTo_14 : decode cX7_farTo 14 = .ok (.sipush 160, 3) := by decide +kernel
theorem dX7_farTo_17 : decode cX7_farTo 17 = .ok (.iload_n 2, 1) := by decide +kernel
theorem dX7_farTo_18 : decode cX7_farTo 18 = .ok (.iadd, 1) := by decide +kernel
theorem dX7_farTo_19 : decode cX7_farTo 19 = .ok (.iaload, 1) := by decide +kernel
theorem dX7_farTo_20 : decode cX7_farTo 20 = .ok (.invokestatic 155, 3) := by decide +kernel
theorem dX7_farTo_23 : decode cX7_farTo 23 = .ok (.ireturn, 1) := by decide +kernel
theorem dX7_rowsFrom_0 : decode cX7_rowsFrom 0 = .ok (.iload_n 1, 1) := by decide +kernel
theorem dX7_rowsFrom_1 : decode cX7_rowsFrom 1 = .ok (.aload_n 0, 1) := by decide +kernel
theorem dX7_rowsFrom_2 : decode cX7_rowsFrom 2 = .ok (.getfield 7, 3) := by decide +kernel
theorem dX7_rowsFrom_5 : decode cX7_rowsFrom 5 = .ok (.iconst 0, 1) := by decide +kernel
theorem dX7_rowsFrom_6 : decode cX7_rowsFrom 6 = .ok (.iaload, 1) := by decide +kernel
theorem dX7_rowsFrom_7 : decode cX7_rowsFrom 7 = .ok (.if_icmp .ne 77, 3) := by decide +kernel
theorem dX7_rowsFrom_10 : decode cX7_rowsFrom 10 = .ok (.aload_n 0, 1) := by decide +kernel
theorem dX7_rowsFrom_11 : decode cX7_rowsFrom 11 = .ok (.getfield 208, 3) := by decide +kernel
theorem dX7_rowsFrom_14 : decode cX7_rowsFrom 14 = .ok (.iconst (-1), 1) := by decide +kernel
theorem dX7_rowsFrom_15 : decode cX7_rowsFrom 15 = .ok (.if_icmp .eq 28, 3) := by decide +kernel
theorem dX7_rowsFrom_18 : decode cX7_rowsFrom 18 = .ok (.iload_n 3, 1) := by decide +kernel
theorem dX7_rowsFrom_19 : decode cX7_rowsFrom 19 = .ok (.aload_n 0, 1) := by decide +kernel
theorem dX7_rowsFrom_20 : decode cX7_rowsFrom 20 = .ok (.getfield 208, 3) := by decide +kernel
theorem dX7_rowsFrom_23 : decode cX7_rowsFrom 23 = .ok (.if_icmp .lt 20, 3) := by decide +kernel
theorem dX7_rowsFrom_26 : decode cX7_rowsFrom 26 = .ok (.iload_n 3, 1) := by decide +kernel
theorem dX7_rowsFrom_27 : decode cX7_rowsFrom 27 = .ok (.aload_n 0, 1) := by decide +kernel
theorem dX7_rowsFrom_28 : decode cX7_rowsFrom 28 = .ok (.getfield 208, 3) := by decide +kernel
theorem dX7_rowsFrom_31 : decode cX7_rowsFrom 31 = .ok (.if_icmp .ne 52, 3) := by decide +kernel
theorem dX7_rowsFrom_34 : decode cX7_rowsFrom 34 = .ok (.iload 4, 2) := by decide +kernel
theorem dX7_rowsFrom_36 : decode cX7_rowsFrom 36 = .ok (.aload_n 0, 1) := by decide +kernel
theorem dX7_rowsFrom_37 : decode cX7_rowsFrom 37 = .ok (.getfield 211, 3) := by decide +kernel
theorem dX7_rowsFrom_40 : decode cX7_rowsFrom 40 = .ok (.if_icmp .ge 43, 3) := by decide +kernel
theorem dX7_rowsFrom_43 : decode cX7_rowsFrom 43 = .ok (.aload_n 0, 1) := by decide +kernel
theorem dX7_rowsFrom_44 : decode cX7_rowsFrom 44 = .ok (.iload_n 3, 1) := by decide +kernel
theorem dX7_rowsFrom_45 : decode cX7_rowsFrom 45 = .ok (.putfield 208, 3) := by decide +kernel
theorem dX7_rowsFrom_48 : decode cX7_rowsFrom 48 = .ok (.aload_n 0, 1) := by decide +kernel
theorem dX7_rowsFrom_49 : decode cX7_rowsFrom 49 = .ok (.iload 4, 2) := by decide +kernel
theorem dX7_rowsFrom_51 : decode cX7_rowsFrom 51 = .ok (.putfield 211, 3) := by decide +kernel
theorem dX7_rowsFrom_54 : decode cX7_rowsFrom 54 = .ok (.iconst 0, 1) := by decide +kernel
theorem dX7_rowsFrom_55 : decode cX7_rowsFrom 55 = .ok (.istore 5, 2) := by decide +kernel
theorem dX7_rowsFrom_57 : decode cX7_rowsFrom 57 = .ok (.iload 5, 2) := by decide +kernel
theorem dX7_rowsFrom_59 : decode cX7_rowsFrom 59 = .ok (.iload_n 1, 1) := by decide +kernel
theorem dX7_rowsFrom_60 : decode cX7_rowsFrom 60 = .ok (.if_icmp .ge 23, 3) := by decide +kernel
theorem dX7_rowsFrom_63 : decode cX7_rowsFrom 63 = .ok (.aload_n 0, 1) := by decide +kernel
theorem dX7_rowsFrom_64 : decode cX7_rowsFrom 64 = .ok (.getfield 30, 3) := by decide +kernel
theorem dX7_rowsFrom_67 : decode cX7_rowsFrom 67 = .ok (.iload 5, 2) := by decide +kernel
theorem dX7_rowsFrom_69 : decode cX7_rowsFrom 69 = .ok (.aload_n 0, 1) := by decide +kernel
theorem dX7_rowsFrom_70 : decode cX7_rowsFrom 70 = .ok (.getfield 27, 3) := by decide +kernel
theorem dX7_rowsFrom_73 : decode cX7_rowsFrom 73 = .ok (.iload 5, 2) := by decide +kernel
theorem dX7_rowsFrom_75 : decode cX7_rowsFrom 75 = .ok (.iaload, 1) := by decide +kernel
theorem dX7_rowsFrom_76 : decode cX7_rowsFrom 76 = .ok (.iastore, 1) := by decide +kernel
theorem dX7_rowsFrom_77 : decode cX7_rowsFrom 77 = .ok (.iinc 5 1, 3) := by decide +kernel
theorem dX7_rowsFrom_80 : decode cX7_rowsFrom 80 = .ok (.goto (-23), 3) := by decide +kernel
theorem dX7_rowsFrom_83 : decode cX7_rowsFrom 83 = .ok (.return_, 1) := by decide +kernel
theorem dX7_rowsFrom_84 : decode cX7_rowsFrom 84 = .ok (.iconst 0, 1) := by decide +kernel
theorem dX7_rowsFrom_85 : decode cX7_rowsFrom 85 = .ok (.istore 5, 2) := by decide +kernel
theorem dX7_rowsFrom_87 : decode cX7_rowsFrom 87 = .ok (.iload 5, 2) := by decide +kernel
theorem dX7_rowsFrom_89 : decode cX7_rowsFrom 89 = .ok (.aload_n 0, 1) := by decide +kernel
theorem dX7_rowsFrom_90 : decode cX7_rowsFrom 90 = .ok (.getfield 7, 3) := by decide +kernel
theorem dX7_rowsFrom_93 : decode cX7_rowsFrom 93 = .ok (.iconst 0, 1) := by decide +kernel
theorem dX7_rowsFrom_94 : decode cX7_rowsFrom 94 = .ok (.iaload, 1) := by decide +kernel
theorem dX7_rowsFrom_95 : decode cX7_rowsFrom 95 = .ok (.if_icmp .ge 65, 3) := by decide +kernel
theorem dX7_rowsFrom_98 : decode cX7_rowsFrom 98 = .ok (.iload_n 2, 1) := by decide +kernel
theorem dX7_rowsFrom_99 : decode cX7_rowsFrom 99 = .ok (.iload 5, 2) := by decide +kernel
theorem dX7_rowsFrom_101 : decode cX7_rowsFrom 101 = .ok (.ishr, 1) := by decide +kernel
theorem dX7_rowsFrom_102 : decode cX7_rowsFrom 102 = .ok (.iconst 1, 1) := by decide +kernel
theorem dX7_rowsFrom_103 : decode cX7_rowsFrom 103 = .ok (.iand, 1) := by decide +kernel
theorem dX7_rowsFrom_104 : decode cX7_rowsFrom 104 = .ok (.ifCond .ne 50, 3) := by decide +kernel
theorem dX7_rowsFrom_107 : decode cX7_rowsFrom 107 = .ok (.aload_n 0, 1) := by decide +kernel
theorem dX7_rowsFrom_108 : decode cX7_rowsFrom 108 = .ok (.getfield 27, 3) := by decide +kernel
theorem dX7_rowsFrom_111 : decode cX7_rowsFrom 111 = .ok (.iload_n 1, 1) := by decide +kernel
theorem dX7_rowsFrom_112 : decode cX7_rowsFrom 112 = .ok (.iload 5, 2) := by decide +kernel
theorem dX7_rowsFrom_114 : decode cX7_rowsFrom 114 = .ok (.iastore, 1) := by decide +kernel
theorem dX7_rowsFrom_115 : decode cX7_rowsFrom 115 = .ok (.aload_n 0, 1) := by decide +kernel
theorem dX7_rowsFrom_116 : decode cX7_rowsFrom 116 = .ok (.iload_n 1, 1) := by decide +kernel
theorem dX7_rowsFrom_117 : decode cX7_rowsFrom 117 = .ok (.iload 5, 2) := by decide +kernel
theorem dX7_rowsFrom_119 : decode cX7_rowsFrom 119 = .ok (.invokevirtual 214, 3) := by decide +kernel
theorem dX7_rowsFrom_122 : decode cX7_rowsFrom 122 = .ok (.istore 6, 2) := by decide +kernel
theorem dX7_rowsFrom_124 : decode cX7_rowsFrom 124 = .ok (.aload_n 0, 1) := by decide +kernel
theorem dX7_rowsFrom_125 : decode cX7_rowsFrom 125 = .ok (.iload_n 1, 1) := by decide +kernel
theorem dX7_rowsFrom_126 : decode cX7_rowsFrom 126 = .ok (.iconst 1, 1) := by decide +kernel
theorem dX7_rowsFrom_127 : decode cX7_rowsFrom 127 = .ok (.iadd, 1) := by decide +kernel
theorem dX7_rowsFrom_128 : decode cX7_rowsFrom 128 = .ok (.iload_n 2, 1) := by decide +kernel
theorem dX7_rowsFrom_129 : decode cX7_rowsFrom 129 = .ok (.iconst 1, 1) := by decide +kernel
theorem dX7_rowsFrom_130 : decode cX7_rowsFrom 130 = .ok (.iload 5, 2) := by decide +kernel
theorem dX7_rowsFrom_132 : decode cX7_rowsFrom 132 = .ok (.ishl, 1) := by decide +kernel
theorem dX7_rowsFrom_133 : decode cX7_rowsFrom 133 = .ok (.ior, 1) := by decide +kernel
theorem dX7_rowsFrom_134 : decode cX7_rowsFrom 134 = .ok (.iload 6, 2) := by decide +kernel
theorem dX7_rowsFrom_136 : decode cX7_rowsFrom 136 = .ok (.iload_n 3, 1) := by decide +kernel
theorem dX7_rowsFrom_137 : decode cX7_rowsFrom 137 = .ok (.if_icmp .le 8, 3) := by decide +kernel
theorem dX7_rowsFrom_140 : decode cX7_rowsFrom 140 = .ok (.iload 6, 2) := by decide +kernel
theorem dX7_rowsFrom_142 : decode cX7_rowsFrom 142 = .ok (.goto 4, 3) := by decide +kernel
theorem dX7_rowsFrom_145 : decode cX7_rowsFrom 145 = .ok (.iload_n 3, 1) := by decide +kernel
theorem dX7_rowsFrom_146 : decode cX7_rowsFrom 146 = .ok (.iload 4, 2) := by decide +kernel
theorem dX7_rowsFrom_148 : decode cX7_rowsFrom 148 = .ok (.iload 6, 2) := by decide +kernel
theorem dX7_rowsFrom_150 : decode cX7_rowsFrom 150 = .ok (.iadd, 1) := by decide +kernel
theorem dX7_rowsFrom_151 : decode cX7_rowsFrom 151 = .ok (.invokevirtual 217, 3) := by decide +kernel
theorem dX7_rowsFrom_154 : decode cX7_rowsFrom 154 = .ok (.iinc 5 1, 3) := by decide +kernel
theorem dX7_rowsFrom_157 : decode cX7_rowsFrom 157 = .ok (.goto (-70), 3) := by decide +kernel
theorem dX7_rowsFrom_160 : decode cX7_rowsFrom 160 = .ok (.return_, 1) := by decide +kernel
theorem dX7_looksForWay_0 : decode cX7_looksForWay 0 = .ok (.aload_n 0, 1) := by decide +kernel
theorem dX7_looksForWay_1 : decode cX7_looksForWay 1 = .ok (.invokevirtual 221, 3) := by decide +kernel
theorem dX7_looksForWay_4 : decode cX7_looksForWay 4 = .ok (.ifCond .eq 6, 3) := by decide +kernel
theorem dX7_looksForWay_7 : decode cX7_looksForWay 7 = .ok (.bipush (-5), 2) := by decide +kernel
theorem dX7_looksForWay_9 : decode cX7_looksForWay 9 = .ok (.ireturn, 1) := by decide +kernel
theorem dX7_looksForWay_10 : decode cX7_looksForWay 10 = .ok (.aload_n 0, 1) := by decide +kernel
theorem dX7_looksForWay_11 : decode cX7_looksForWay 11 = .ok (.getfield 7, 3) := by decide +kernel
theorem dX7_looksForWay_14 : decode cX7_looksForWay 14 = .ok (.iconst 0, 1) := by decide +kernel
theorem dX7_looksForWay_15 : decode cX7_looksForWay 15 = .ok (.iaload, 1) := by decide +kernel
theorem dX7_looksForWay_16 : decode cX7_looksForWay 16 = .ok (.bipush 6, 2) := by decide +kernel
theorem dX7_looksForWay_18 : decode cX7_looksForWay 18 = .ok (.if_icmp .le 6, 3) := by decide +kernel
theorem dX7_looksForWay_21 : decode cX7_looksForWay 21 = .ok (.bipush (-9), 2) := by decide +kernel
theorem dX7_looksForWay_23 : decode cX7_looksForWay 23 = .ok (.ireturn, 1) := by decide +kernel
theorem dX7_looksForWay_24 : decode cX7_looksForWay 24 = .ok (.aload_n 0, 1) := by decide +kernel
theorem dX7_looksForWay_25 : decode cX7_looksForWay 25 = .ok (.iconst (-1), 1) := by decide +kernel
theorem dX7_looksForWay_26 : decode cX7_looksForWay 26 = .ok (.putfield 208, 3) := by decide +kernel
theorem dX7_looksForWay_29 : decode cX7_looksForWay 29 = .ok (.aload_n 0, 1) := by decide +kernel
theorem dX7_looksForWay_30 : decode cX7_looksForWay 30 = .ok (.iconst 0, 1) := by decide +kernel
theorem dX7_looksForWay_31 : decode cX7_looksForWay 31 = .ok (.putfield 211, 3) := by decide +kernel
theorem dX7_looksForWay_34 : decode cX7_looksForWay 34 = .ok (.aload_n 0, 1) := by decide +kernel
theorem dX7_looksForWay_35 : decode cX7_looksForWay 35 = .ok (.iconst 0, 1) := by decide +kernel
theorem dX7_looksForWay_36 : decode cX7_looksForWay 36 = .ok (.iconst 0, 1) := by decide +kernel
theorem dX7_looksForWay_37 : decode cX7_looksForWay 37 = .ok (.iconst 0, 1) := by decide +kernel
theorem dX7_looksForWay_38 : decode cX7_looksForWay 38 = .ok (.iconst 0, 1) := by decide +kernel
theorem dX7_looksForWay_39 : decode cX7_looksForWay 39 = .ok (.invokevirtual 217, 3) := by decide +kernel
theorem dX7_looksForWay_42 : decode cX7_looksForWay 42 = .ok (.iconst 0, 1) := by decide +kernel
theorem dX7_looksForWay_43 : decode cX7_looksForWay 43 = .ok (.ireturn, 1) := by decide +kernel
theorem dX7_way_0 : decode cX7_way 0 = .ok (.iload_n 1, 1) := by decide +kernel
theorem dX7_way_1 : decode cX7_way 1 = .ok (.bipush (-2), 2) := by decide +kernel
theorem dX7_way_3 : decode cX7_way 3 = .ok (.aload_n 0, 1) := by decide +kernel
theorem dX7_way_4 : decode cX7_way 4 = .ok (.getfield 7, 3) := by decide +kernel
theorem dX7_way_7 : decode cX7_way 7 = .ok (.iconst 0, 1) := by decide +kernel
theorem dX7_way_8 : decode cX7_way 8 = .ok (.iaload, 1) := by decide +kernel
theorem dX7_way_9 : decode cX7_way 9 = .ok (.iconst 1, 1) := by decide +kernel
theorem dX7_way_10 : decode cX7_way 10 = .ok (.isub, 1) := by decide +kernel
theorem dX7_way_11 : decode cX7_way 11 = .ok (.invokestatic 39, 3) := by decide +kernel
theorem dX7_way_14 : decode cX7_way 14 = .ok (.ifCond .ne 5, 3) := by decide +kernel
theorem dX7_way_17 : decode cX7_way 17 = .ok (.iconst (-1), 1) := by decide +kernel
theorem dX7_way_18 : decode cX7_way 18 = .ok (.ireturn, 1) := by decide +kernel
theorem dX7_way_19 : decode cX7_way 19 = .ok (.aload_n 0, 1) := by decide +kernel
theorem dX7_way_20 : decode cX7_way 20 = .ok (.invokevirtual 225, 3) := by decide +kernel
theorem dX7_way_23 : decode cX7_way 23 = .ok (.istore_n 2, 1) := by decide +kernel
theorem dX7_way_24 : decode cX7_way 24 = .ok (.iload_n 2, 1) := by decide +kernel
theorem dX7_way_25 : decode cX7_way 25 = .ok (.ifCond .ge 7, 3) := by decide +kernel
theorem dX7_way_28 : decode cX7_way 28 = .ok (.iload_n 2, 1) := by decide +kernel
theorem dX7_way_29 : decode cX7_way 29 = .ok (.goto 34, 3) := by decide +kernel
theorem dX7_way_32 : decode cX7_way 32 = .ok (.iload_n 1, 1) := by decide +kernel
theorem dX7_way_33 : decode cX7_way 33 = .ok (.iconst (-1), 1) := by decide +kernel
theorem dX7_way_34 : decode cX7_way 34 = .ok (.if_icmp .ne 10, 3) := by decide +kernel
theorem dX7_way_37 : decode cX7_way 37 = .ok (.aload_n 0, 1) := by decide +kernel
theorem dX7_way_38 : decode cX7_way 38 = .ok (.getfield 208, 3) := by decide +kernel
theorem dX7_way_41 : decode cX7_way 41 = .ok (.goto 22, 3) := by decide +kernel
theorem dX7_way_44 : decode cX7_way 44 = .ok (.iload_n 1, 1) := by decide +kernel
theorem dX7_way_45 : decode cX7_way 45 = .ok (.bipush (-2), 2) := by decide +kernel
theorem dX7_way_47 : decode cX7_way 47 = .ok (.if_icmp .ne 10, 3) := by decide +kernel
theorem dX7_way_50 : decode cX7_way 50 = .ok (.aload_n 0, 1) := by decide +kernel
theorem dX7_way_51 : decode cX7_way 51 = .ok (.getfield 211, 3) := by decide +kernel
theorem dX7_way_54 : decode cX7_way 54 = .ok (.goto 9, 3) := by decide +kernel
theorem dX7_way_57 : decode cX7_way 57 = .ok (.aload_n 0, 1) := by decide +kernel
theorem dX7_way_58 : decode cX7_way 58 = .ok (.getfield 30, 3) := by decide +kernel
theorem dX7_way_61 : decode cX7_way 61 = .ok (.iload_n 1, 1) := by decide +kernel
theorem dX7_way_62 : decode cX7_way 62 = .ok (.iaload, 1) := by decide +kernel
theorem dX7_way_63 : decode cX7_way 63 = .ok (.ireturn, 1) := by decide +kernel
theorem dX7_counts_0 : decode cX7_counts 0 = .ok (.aload_n 0, 1) := by decide +kernel
theorem dX7_counts_1 : decode cX7_counts 1 = .ok (.invokevirtual 225, 3) := by decide +kernel
theorem dX7_counts_4 : decode cX7_counts 4 = .ok (.istore_n 1, 1) := by decide +kernel
theorem dX7_counts_5 : decode cX7_counts 5 = .ok (.iload_n 1, 1) := by decide +kernel
theorem dX7_counts_6 : decode cX7_counts 6 = .ok (.ifCond .ge 7, 3) := by decide +kernel
theorem dX7_counts_9 : decode cX7_counts 9 = .ok (.iload_n 1, 1) := by decide +kernel
theorem dX7_counts_10 : decode cX7_counts 10 = .ok (.goto 21, 3) := by decide +kernel
theorem dX7_counts_13 : decode cX7_counts 13 = .ok (.aload_n 0, 1) := by decide +kernel
theorem dX7_counts_14 : decode cX7_counts 14 = .ok (.getfield 208, 3) := by decide +kernel
theorem dX7_counts_17 : decode cX7_counts 17 = .ok (.aload_n 0, 1) := by decide +kernel
theorem dX7_counts_18 : decode cX7_counts 18 = .ok (.iconst 2, 1) := by decide +kernel
theorem dX7_counts_19 : decode cX7_counts 19 = .ok (.invokevirtual 205, 3) := by decide +kernel
theorem dX7_counts_22 : decode cX7_counts 22 = .ok (.iadd, 1) := by decide +kernel
theorem dX7_counts_23 : decode cX7_counts 23 = .ok (.iconst 1, 1) := by decide +kernel
theorem dX7_counts_24 : decode cX7_counts 24 = .ok (.isub, 1) := by decide +kernel
theorem dX7_counts_25 : decode cX7_counts 25 = .ok (.aload_n 0, 1) := by decide +kernel
theorem dX7_counts_26 : decode cX7_counts 26 = .ok (.iconst 2, 1) := by decide +kernel
theorem dX7_counts_27 : decode cX7_counts 27 = .ok (.invokevirtual 205, 3) := by decide +kernel
theorem dX7_counts_30 : decode cX7_counts 30 = .ok (.idiv, 1) := by decide +kernel
theorem dX7_counts_31 : decode cX7_counts 31 = .ok (.ireturn, 1) := by decide +kernel
theorem dX7_meet_0 : decode cX7_meet 0 = .ok (.aload_n 0, 1) := by decide +kernel
theorem dX7_meet_1 : decode cX7_meet 1 = .ok (.invokevirtual 221, 3) := by decide +kernel
theorem dX7_meet_4 : decode cX7_meet 4 = .ok (.ifCond .eq 6, 3) := by decide +kernel
theorem dX7_meet_7 : decode cX7_meet 7 = .ok (.bipush (-5), 2) := by decide +kernel
theorem dX7_meet_9 : decode cX7_meet 9 = .ok (.ireturn, 1) := by decide +kernel
theorem dX7_meet_10 : decode cX7_meet 10 = .ok (.iconst 0, 1) := by decide +kernel
theorem dX7_meet_11 : decode cX7_meet 11 = .ok (.istore_n 1, 1) := by decide +kernel
theorem dX7_meet_12 : decode cX7_meet 12 = .ok (.iconst 0, 1) := by decide +kernel
theorem dX7_meet_13 : decode cX7_meet 13 = .ok (.istore_n 2, 1) := by decide +kernel
theorem dX7_meet_14 : decode cX7_meet 14 = .ok (.iload_n 2, 1) := by decide +kernel
theorem dX7_meet_15 : decode cX7_meet 15 = .ok (.aload_n 0, 1) := by decide +kernel
theorem dX7_meet_16 : decode cX7_meet 16 = .ok (.getfield 7, 3) := by decide +kernel
theorem dX7_meet_19 : decode cX7_meet 19 = .ok (.iconst 0, 1) := by decide +kernel
theorem dX7_meet_20 : decode cX7_meet 20 = .ok (.iaload, 1) := by decide +kernel
theorem dX7_meet_21 : decode cX7_meet 21 = .ok (.if_icmp .ge 168, 3) := by decide +kernel
theorem dX7_meet_24 : decode cX7_meet 24 = .ok (.iconst 0, 1) := by decide +kernel
theorem dX7_meet_25 : decode cX7_meet 25 = .ok (.istore_n 3, 1) := by decide +kernel
theorem dX7_meet_26 : decode cX7_meet 26 = .ok (.iload_n 3, 1) := by decide +kernel
theorem dX7_meet_27 : decode cX7_meet 27 = .ok (.iload_n 2, 1) := by decide +kernel
theorem dX7_meet_28 : decode cX7_meet 28 = .ok (.if_icmp .ge 155, 3) := by decide +kernel
theorem dX7_meet_31 : decode cX7_meet 31 = .ok (.aload_n 0, 1) := by decide +kernel
theorem dX7_meet_32 : decode cX7_meet 32 = .ok (.getfield 7, 3) := by decide +kernel
theorem dX7_meet_35 : decode cX7_meet 35 = .ok (.sipush 150, 3) := by decide +kernel
theorem dX7_meet_38 : decode cX7_meet 38 = .ok (.iload_n 2, 1) := by decide +kernel
theorem dX7_meet_39 : decode cX7_meet 39 = .ok (.iadd, 1) := by decide +kernel
theorem dX7_meet_40 : decode cX7_meet 40 = .ok (.iaload, 1) := by decide +kernel
theorem dX7_meet_41 : decode cX7_meet 41 = .ok (.bipush 8, 2) := by decide +kernel
theorem dX7_meet_43 : decode cX7_meet 43 = .ok (.idiv, 1) := by decide +kernel
theorem dX7_meet_44 : decode cX7_meet 44 = .ok (.aload_n 0, 1) := by decide +kernel
theorem dX7_meet_45 : decode cX7_meet 45 = .ok (.getfield 7, 3) := by decide +kernel
theorem dX7_meet_48 : decode cX7_meet 48 = .ok (.sipush 160, 3) := by decide +kernel
theorem dX7_meet_51 : decode cX7_meet 51 = .ok (.iload_n 2, 1) := by decide +kernel
theorem dX7_meet_52 : decode cX7_meet 52 = .ok (.iadd, 1) := by decide +kernel
theorem dX7_meet_53 : decode cX7_meet 53 = .ok (.iaload, 1) := by decide +kernel
theorem dX7_meet_54 : decode cX7_meet 54 = .ok (.bipush 8, 2) := by decide +kernel
theorem dX7_meet_56 : decode cX7_meet 56 = .ok (.idiv, 1) := by decide +kernel
theorem dX7_meet_57 : decode cX7_meet 57 = .ok (.iadd, 1) := by decide +kernel
theorem dX7_meet_58 : decode cX7_meet 58 = .ok (.aload_n 0, 1) := by decide +kernel
theorem dX7_meet_59 : decode cX7_meet 59 = .ok (.getfield 7, 3) := by decide +kernel
theorem dX7_meet_62 : decode cX7_meet 62 = .ok (.sipush 150, 3) := by decide +kernel
theorem dX7_meet_65 : decode cX7_meet 65 = .ok (.iload_n 3, 1) := by decide +kernel
theorem dX7_meet_66 : decode cX7_meet 66 = .ok (.iadd, 1) := by decide +kernel
theorem dX7_meet_67 : decode cX7_meet 67 = .ok (.iaload, 1) := by decide +kernel
theorem dX7_meet_68 : decode cX7_meet 68 = .ok (.bipush 8, 2) := by decide +kernel
theorem dX7_meet_70 : decode cX7_meet 70 = .ok (.idiv, 1) := by decide +kernel
theorem dX7_meet_71 : decode cX7_meet 71 = .ok (.aload_n 0, 1) := by decide +kernel
theorem dX7_meet_72 : decode cX7_meet 72 = .ok (.getfield 7, 3) := by decide +kernel
theorem dX7_meet_75 : decode cX7_meet 75 = .ok (.sipush 160, 3) := by decide +kernel
theorem dX7_meet_78 : decode cX7_meet 78 = .ok (.iload_n 3, 1) := by decide +kernel
theorem dX7_meet_79 : decode cX7_meet 79 = .ok (.iadd, 1) := by decide +kernel
theorem dX7_meet_80 : decode cX7_meet 80 = .ok (.iaload, 1) := by decide +kernel
theorem dX7_meet_81 : decode cX7_meet 81 = .ok (.bipush 8, 2) := by decide +kernel
theorem dX7_meet_83 : decode cX7_meet 83 = .ok (.idiv, 1) := by decide +kernel
theorem dX7_meet_84 : decode cX7_meet 84 = .ok (.iadd, 1) := by decide +kernel
theorem dX7_meet_85 : decode cX7_meet 85 = .ok (.if_icmp .ne 7, 3) := by decide +kernel
theorem dX7_meet_88 : decode cX7_meet 88 = .ok (.iconst 1, 1) := by decide +kernel
theorem dX7_meet_89 : decode cX7_meet 89 = .ok (.goto 4, 3) := by decide +kernel
theorem dX7_meet_92 : decode cX7_meet 92 = .ok (.iconst 0, 1) := by decide +kernel
theorem dX7_meet_93 : decode cX7_meet 93 = .ok (.istore 4, 2) := by decide +kernel
theorem dX7_meet_95 : decode cX7_meet 95 = .ok (.aload_n 0, 1) := by decide +kernel
theorem dX7_meet_96 : decode cX7_meet 96 = .ok (.getfield 7, 3) := by decide +kernel
theorem dX7_meet_99 : decode cX7_meet 99 = .ok (.sipush 150, 3) := by decide +kernel
theorem dX7_meet_102 : decode cX7_meet 102 = .ok (.iload_n 2, 1) := by decide +kernel
theorem dX7_meet_103 : decode cX7_meet 103 = .ok (.iadd, 1) := by decide +kernel
theorem dX7_meet_104 : decode cX7_meet 104 = .ok (.iaload, 1) := by decide +kernel
theorem dX7_meet_105 : decode cX7_meet 105 = .ok (.bipush 8, 2) := by decide +kernel
theorem dX7_meet_107 : decode cX7_meet 107 = .ok (.irem, 1) := by decide +kernel
theorem dX7_meet_108 : decode cX7_meet 108 = .ok (.aload_n 0, 1) := by decide +kernel
theorem dX7_meet_109 : decode cX7_meet 109 = .ok (.getfield 7, 3) := by decide +kernel
theorem dX7_meet_112 : decode cX7_meet 112 = .ok (.sipush 160, 3) := by decide +kernel
theorem dX7_meet_115 : decode cX7_meet 115 = .ok (.iload_n 2, 1) := by decide +kernel
theorem dX7_meet_116 : decode cX7_meet 116 = .ok (.iadd, 1) := by decide +kernel
theorem dX7_meet_117 : decode cX7_meet 117 = .ok (.iaload, 1) := by decide +kernel
theorem dX7_meet_118 : decode cX7_meet 118 = .ok (.bipush 8, 2) := by decide +kernel
theorem dX7_meet_120 : decode cX7_meet 120 = .ok (.irem, 1) := by decide +kernel
theorem dX7_meet_121 : decode cX7_meet 121 = .ok (.iadd, 1) := by decide +kernel
theorem dX7_meet_122 : decode cX7_meet 122 = .ok (.aload_n 0, 1) := by decide +kernel
theorem dX7_meet_123 : decode cX7_meet 123 = .ok (.getfield 7, 3) := by decide +kernel
theorem dX7_meet_126 : decode cX7_meet 126 = .ok (.sipush 150, 3) := by decide +kernel
theorem dX7_meet_129 : decode cX7_meet 129 = .ok (.iload_n 3, 1) := by decide +kernel
theorem dX7_meet_130 : decode cX7_meet 130 = .ok (.iadd, 1) := by decide +kernel
theorem dX7_meet_131 : decode cX7_meet 131 = .ok (.iaload, 1) := by decide +kernel
theorem dX7_meet_132 : decode cX7_meet 132 = .ok (.bipush 8, 2) := by decide +kernel
theorem dX7_meet_134 : decode cX7_meet 134 = .ok (.irem, 1) := by decide +kernel
theorem dX7_meet_135 : decode cX7_meet 135 = .ok (.aload_n 0, 1) := by decide +kernel
theorem dX7_meet_136 : decode cX7_meet 136 = .ok (.getfield 7, 3) := by decide +kernel
theorem dX7_meet_139 : decode cX7_meet 139 = .ok (.sipush 160, 3) := by decide +kernel
theorem dX7_meet_142 : decode cX7_meet 142 = .ok (.iload_n 3, 1) := by decide +kernel
theorem dX7_meet_143 : decode cX7_meet 143 = .ok (.iadd, 1) := by decide +kernel
theorem dX7_meet_144 : decode cX7_meet 144 = .ok (.iaload, 1) := by decide +kernel
theorem dX7_meet_145 : decode cX7_meet 145 = .ok (.bipush 8, 2) := by decide +kernel
theorem dX7_meet_147 : decode cX7_meet 147 = .ok (.irem, 1) := by decide +kernel
theorem dX7_meet_148 : decode cX7_meet 148 = .ok (.iadd, 1) := by decide +kernel
theorem dX7_meet_149 : decode cX7_meet 149 = .ok (.if_icmp .ne 7, 3) := by decide +kernel
theorem dX7_meet_152 : decode cX7_meet 152 = .ok (.iconst 1, 1) := by decide +kernel
theorem dX7_meet_153 : decode cX7_meet 153 = .ok (.goto 4, 3) := by decide +kernel
theorem dX7_meet_156 : decode cX7_meet 156 = .ok (.iconst 0, 1) := by decide +kernel
theorem dX7_meet_157 : decode cX7_meet 157 = .ok (.istore 5, 2) := by decide +kernel
theorem dX7_meet_159 : decode cX7_meet 159 = .ok (.iload_n 1, 1) := by decide +kernel
theorem dX7_meet_160 : decode cX7_meet 160 = .ok (.iload 4, 2) := by decide +kernel
theorem dX7_meet_162 : decode cX7_meet 162 = .ok (.ifCond .eq 12, 3) := by decide +kernel
theorem dX7_meet_165 : decode cX7_meet 165 = .ok (.iload 5, 2) := by decide +kernel
theorem dX7_meet_167 : decode cX7_meet 167 = .ok (.ifCond .eq 7, 3) := by decide +kernel
theorem dX7_meet_170 : decode cX7_meet 170 = .ok (.iconst 1, 1) := by decide +kernel
theorem dX7_meet_171 : decode cX7_meet 171 = .ok (.goto 4, 3) := by decide +kernel
theorem dX7_meet_174 : decode cX7_meet 174 = .ok (.iconst 0, 1) := by decide +kernel
theorem dX7_meet_175 : decode cX7_meet 175 = .ok (.iadd, 1) := by decide +kernel
theorem dX7_meet_176 : decode cX7_meet 176 = .ok (.istore_n 1, 1) := by decide +kernel
theorem dX7_meet_177 : decode cX7_meet 177 = .ok (.iinc 3 1, 3) := by decide +kernel
theorem dX7_meet_180 : decode cX7_meet 180 = .ok (.goto (-154), 3) := by decide +kernel
theorem dX7_meet_183 : decode cX7_meet 183 = .ok (.iinc 2 1, 3) := by decide +kernel
theorem dX7_meet_186 : decode cX7_meet 186 = .ok (.goto (-172), 3) := by decide +kernel
theorem dX7_meet_189 : decode cX7_meet 189 = .ok (.iload_n 1, 1) := by decide +kernel
theorem dX7_meet_190 : decode cX7_meet 190 = .ok (.ireturn, 1) := by decide +kernel
theorem dX7_hard_0 : decode cX7_hard 0 = .ok (.iload_n 1, 1) := by decide +kernel
theorem dX7_hard_1 : decode cX7_hard 1 = .ok (.iconst 0, 1) := by decide +kernel
theorem dX7_hard_2 : decode cX7_hard 2 = .ok (.iconst 1, 1) := by decide +kernel
theorem dX7_hard_3 : decode cX7_hard 3 = .ok (.invokestatic 39, 3) := by decide +kernel
theorem dX7_hard_6 : decode cX7_hard 6 = .ok (.ifCond .ne 5, 3) := by decide +kernel
theorem dX7_hard_9 : decode cX7_hard 9 = .ok (.iconst (-1), 1) := by decide +kernel
theorem dX7_hard_10 : decode cX7_hard 10 = .ok (.ireturn, 1) := by decide +kernel
theorem dX7_hard_11 : decode cX7_hard 11 = .ok (.aload_n 0, 1) := by decide +kernel
theorem dX7_hard_12 : decode cX7_hard 12 = .ok (.invokevirtual 221, 3) := by decide +kernel
theorem dX7_hard_15 : decode cX7_hard 15 = .ok (.ifCond .eq 6, 3) := by decide +kernel
theorem dX7_hard_18 : decode cX7_hard 18 = .ok (.bipush (-5), 2) := by decide +kernel
theorem dX7_hard_20 : decode cX7_hard 20 = .ok (.ireturn, 1) := by decide +kernel
theorem dX7_hard_21 : decode cX7_hard 21 = .ok (.iconst 0, 1) := by decide +kernel
theorem dX7_hard_22 : decode cX7_hard 22 = .ok (.istore_n 2, 1) := by decide +kernel
theorem dX7_hard_23 : decode cX7_hard 23 = .ok (.iconst 0, 1) := by decide +kernel
theorem dX7_hard_24 : decode cX7_hard 24 = .ok (.istore_n 3, 1) := by decide +kernel
theorem dX7_hard_25 : decode cX7_hard 25 = .ok (.iload_n 3, 1) := by decide +kernel
theorem dX7_hard_26 : decode cX7_hard 26 = .ok (.aload_n 0, 1) := by decide +kernel
theorem dX7_hard_27 : decode cX7_hard 27 = .ok (.getfield 7, 3) := by decide +kernel
theorem dX7_hard_30 : decode cX7_hard 30 = .ok (.iconst 0, 1) := by decide +kernel
theorem dX7_hard_31 : decode cX7_hard 31 = .ok (.iaload, 1) := by decide +kernel
theorem dX7_hard_32 : decode cX7_hard 32 = .ok (.if_icmp .ge 30, 3) := by decide +kernel
theorem dX7_hard_35 : decode cX7_hard 35 = .ok (.aload_n 0, 1) := by decide +kernel
theorem dX7_hard_36 : decode cX7_hard 36 = .ok (.iload_n 3, 1) := by decide +kernel
theorem dX7_hard_37 : decode cX7_hard 37 = .ok (.iload_n 3, 1) := by decide +kernel
theorem dX7_hard_38 : decode cX7_hard 38 = .ok (.invokevirtual 214, 3) := by decide +kernel
theorem dX7_hard_41 : decode cX7_hard 41 = .ok (.iload_n 2, 1) := by decide +kernel
theorem dX7_hard_42 : decode cX7_hard 42 = .ok (.if_icmp .le 12, 3) := by decide +kernel
theorem dX7_hard_45 : decode cX7_hard 45 = .ok (.aload_n 0, 1) := by decide +kernel
theorem dX7_hard_46 : decode cX7_hard 46 = .ok (.iload_n 3, 1) := by decide +kernel
theorem dX7_hard_47 : decode cX7_hard 47 = .ok (.iload_n 3, 1) := by decide +kernel
theorem dX7_hard_48 : decode cX7_hard 48 = .ok (.invokevirtual 214, 3) := by decide +kernel
theorem dX7_hard_51 : decode cX7_hard 51 = .ok (.goto 4, 3) := by decide +kernel
theorem dX7_hard_54 : decode cX7_hard 54 = .ok (.iload_n 2, 1) := by decide +kernel
theorem dX7_hard_55 : decode cX7_hard 55 = .ok (.istore_n 2, 1) := by decide +kernel
theorem dX7_hard_56 : decode cX7_hard 56 = .ok (.iinc 3 1, 3) := by decide +kernel
theorem dX7_hard_59 : decode cX7_hard 59 = .ok (.goto (-34), 3) := by decide +kernel
theorem dX7_hard_62 : decode cX7_hard 62 = .ok (.iconst 0, 1) := by decide +kernel
theorem dX7_hard_63 : decode cX7_hard 63 = .ok (.istore_n 3, 1) := by decide +kernel
theorem dX7_hard_64 : decode cX7_hard 64 = .ok (.iconst 0, 1) := by decide +kernel
theorem dX7_hard_65 : decode cX7_hard 65 = .ok (.istore 4, 2) := by decide +kernel
theorem dX7_hard_67 : decode cX7_hard 67 = .ok (.iload 4, 2) := by decide +kernel
theorem dX7_hard_69 : decode cX7_hard 69 = .ok (.aload_n 0, 1) := by decide +kernel
theorem dX7_hard_70 : decode cX7_hard 70 = .ok (.getfield 7, 3) := by decide +kernel
theorem dX7_hard_73 : decode cX7_hard 73 = .ok (.iconst 0, 1) := by decide +kernel
theorem dX7_hard_74 : decode cX7_hard 74 = .ok (.iaload, 1) := by decide +kernel
theorem dX7_hard_75 : decode cX7_hard 75 = .ok (.if_icmp .ge 32, 3) := by decide +kernel
theorem dX7_hard_78 : decode cX7_hard 78 = .ok (.iload_n 3, 1) := by decide +kernel
theorem dX7_hard_79 : decode cX7_hard 79 = .ok (.aload_n 0, 1) := by decide +kernel
theorem dX7_hard_80 : decode cX7_hard 80 = .ok (.iload 4, 2) := by decide +kernel
theorem dX7_hard_82 : decode cX7_hard 82 = .ok (.iload 4, 2) := by decide +kernel
theorem dX7_hard_84 : decode cX7_hard 84 = .ok (.invokevirtual 214, 3) := by decide +kernel
theorem dX7_hard_87 : decode cX7_hard 87 = .ok (.iload_n 2, 1) := by decide +kernel
theorem dX7_hard_88 : decode cX7_hard 88 = .ok (.if_icmp .ne 10, 3) := by decide +kernel
theorem dX7_hard_91 : decode cX7_hard 91 = .ok (.iconst 1, 1) := by decide +kernel
theorem dX7_hard_92 : decode cX7_hard 92 = .ok (.iload 4, 2) := by decide +kernel
theorem dX7_hard_94 : decode cX7_hard 94 = .ok (.ishl, 1) := by decide +kernel
theorem dX7_hard_95 : decode cX7_hard 95 = .ok (.goto 4, 3) := by decide +kernel
theorem dX7_hard_98 : decode cX7_hard 98 = .ok (.iconst 0, 1) := by decide +kernel
theorem dX7_hard_99 : decode cX7_hard 99 = .ok (.ior, 1) := by decide +kernel
theorem dX7_hard_100 : decode cX7_hard 100 = .ok (.istore_n 3, 1) := by decide +kernel
theorem dX7_hard_101 : decode cX7_hard 101 = .ok (.iinc 4 1, 3) := by decide +kernel
theorem dX7_hard_104 : decode cX7_hard 104 = .ok (.goto (-37), 3) := by decide +kernel
theorem dX7_hard_107 : decode cX7_hard 107 = .ok (.iload_n 1, 1) := by decide +kernel
theorem dX7_hard_108 : decode cX7_hard 108 = .ok (.ifCond .ne 7, 3) := by decide +kernel
theorem dX7_hard_111 : decode cX7_hard 111 = .ok (.iload_n 3, 1) := by decide +kernel
theorem dX7_hard_112 : decode cX7_hard 112 = .ok (.goto 4, 3) := by decide +kernel
theorem dX7_hard_115 : decode cX7_hard 115 = .ok (.iload_n 2, 1) := by decide +kernel
theorem dX7_hard_116 : decode cX7_hard 116 = .ok (.ireturn, 1) := by decide +kernel
theorem dX7_march_0 : decode cX7_march 0 = .ok (.aload_n 0, 1) := by decide +kernel
theorem dX7_march_1 : decode cX7_march 1 = .ok (.invokevirtual 221, 3) := by decide +kernel
theorem dX7_march_4 : decode cX7_march 4 = .ok (.ifCond .eq 6, 3) := by decide +kernel
theorem dX7_march_7 : decode cX7_march 7 = .ok (.bipush (-3), 2) := by decide +kernel
theorem dX7_march_9 : decode cX7_march 9 = .ok (.ireturn, 1) := by decide +kernel
theorem dX7_march_10 : decode cX7_march 10 = .ok (.iconst 0, 1) := by decide +kernel
theorem dX7_march_11 : decode cX7_march 11 = .ok (.istore_n 1, 1) := by decide +kernel
theorem dX7_march_12 : decode cX7_march 12 = .ok (.iconst 0, 1) := by decide +kernel
theorem dX7_march_13 : decode cX7_march 13 = .ok (.istore_n 2, 1) := by decide +kernel
theorem dX7_march_14 : decode cX7_march 14 = .ok (.iload_n 2, 1) := by decide +kernel
theorem dX7_march_15 : decode cX7_march 15 = .ok (.aload_n 0, 1) := by decide +kernel
theorem dX7_march_16 : decode cX7_march 16 = .ok (.getfield 7, 3) := by decide +kernel
theorem dX7_march_19 : decode cX7_march 19 = .ok (.iconst 0, 1) := by decide +kernel
theorem dX7_march_20 : decode cX7_march 20 = .ok (.iaload, 1) := by decide +kernel
theorem dX7_march_21 : decode cX7_march 21 = .ok (.if_icmp .ge 60, 3) := by decide +kernel
theorem dX7_march_24 : decode cX7_march 24 = .ok (.iload_n 1, 1) := by decide +kernel
theorem dX7_march_25 : decode cX7_march 25 = .ok (.aload_n 0, 1) := by decide +kernel
theorem dX7_march_26 : decode cX7_march 26 = .ok (.getfield 7, 3) := by decide +kernel
theorem dX7_march_29 : decode cX7_march 29 = .ok (.sipush 150, 3) := by decide +kernel
theorem dX7_march_32 : decode cX7_march 32 = .ok (.iload_n 2, 1) := by decide +kernel
theorem dX7_march_33 : decode cX7_march 33 = .ok (.iadd, 1) := by decide +kernel
theorem dX7_march_34 : decode cX7_march 34 = .ok (.iaload, 1) := by decide +kernel
theorem dX7_march_35 : decode cX7_march 35 = .ok (.aload_n 0, 1) := by decide +kernel
theorem dX7_march_36 : decode cX7_march 36 = .ok (.getfield 7, 3) := by decide +kernel
theorem dX7_march_39 : decode cX7_march 39 = .ok (.sipush 160, 3) := by decide +kernel
theorem dX7_march_42 : decode cX7_march 42 = .ok (.iload_n 2, 1) := by decide +kernel
theorem dX7_march_43 : decode cX7_march 43 = .ok (.iadd, 1) := by decide +kernel
theorem dX7_march_44 : decode cX7_march 44 = .ok (.iaload, 1) := by decide +kernel
theorem dX7_march_45 : decode cX7_march 45 = .ok (.if_icmp .ne 7, 3) := by decide +kernel
theorem dX7_march_48 : decode cX7_march 48 = .ok (.iconst 0, 1) := by decide +kernel
theorem dX7_march_49 : decode cX7_march 49 = .ok (.goto 4, 3) := by decide +kernel
theorem dX7_march_52 : decode cX7_march 52 = .ok (.iconst 1, 1) := by decide +kernel
theorem dX7_march_53 : decode cX7_march 53 = .ok (.iadd, 1) := by decide +kernel
theorem dX7_march_54 : decode cX7_march 54 = .ok (.istore_n 1, 1) := by decide +kernel
theorem dX7_march_55 : decode cX7_march 55 = .ok (.aload_n 0, 1) := by decide +kernel
theorem dX7_march_56 : decode cX7_march 56 = .ok (.getfield 7, 3) := by decide +kernel
theorem dX7_march_59 : decode cX7_march 59 = .ok (.sipush 150, 3) := by decide +kernel
theorem dX7_march_62 : decode cX7_march 62 = .ok (.iload_n 2, 1) := by decide +kernel
theorem dX7_march_63 : decode cX7_march 63 = .ok (.iadd, 1) := by decide +kernel
theorem dX7_march_64 : decode cX7_march 64 = .ok (.aload_n 0, 1) := by decide +kernel
theorem dX7_march_65 : decode cX7_march 65 = .ok (.getfield 7, 3) := by decide +kernel
theorem dX7_march_68 : decode cX7_march 68 = .ok (.sipush 160, 3) := by decide +kernel
theorem dX7_march_71 : decode cX7_march 71 = .ok (.iload_n 2, 1) := by decide +kernel
theorem dX7_march_72 : decode cX7_march 72 = .ok (.iadd, 1) := by decide +kernel
theorem dX7_march_73 : decode cX7_march 73 = .ok (.iaload, 1) := by decide +kernel
theorem dX7_march_74 : decode cX7_march 74 = .ok (.iastore, 1) := by decide +kernel
theorem dX7_march_75 : decode cX7_march 75 = .ok (.iinc 2 1, 3) := by decide +kernel
theorem dX7_march_78 : decode cX7_march 78 = .ok (.goto (-64), 3) := by decide +kernel
theorem dX7_march_81 : decode cX7_march 81 = .ok (.iload_n 1, 1) := by decide +kernel
theorem dX7_march_82 : decode cX7_march 82 = .ok (.ireturn, 1) := by decide +kernel
theorem dX7_seen_0 : decode cX7_seen 0 = .ok (.iload_n 1, 1) := by decide +kernel
theorem dX7_seen_1 : decode cX7_seen 1 = .ok (.iconst (-1), 1) := by decide +kernel
theorem dX7_seen_2 : decode cX7_seen 2 = .ok (.if_icmp .ne 12, 3) := by decide +kernel
theorem dX7_seen_5 : decode cX7_seen 5 = .ok (.aload_n 0, 1) := by decide +kernel
theorem dX7_seen_6 : decode cX7_seen 6 = .ok (.getfield 7, 3) := by decide +kernel
theorem dX7_seen_9 : decode cX7_seen 9 = .ok (.iconst 3, 1) := by decide +kernel
theorem dX7_seen_10 : decode cX7_seen 10 = .ok (.iconst 0, 1) := by decide +kernel
theorem dX7_seen_11 : decode cX7_seen 11 = .ok (.iastore, 1) := by decide +kernel
theorem dX7_seen_12 : decode cX7_seen 12 = .ok (.iconst 0, 1) := by decide +kernel
theorem dX7_seen_13 : decode cX7_seen 13 = .ok (.ireturn, 1) := by decide +kernel
theorem dX7_seen_14 : decode cX7_seen 14 = .ok (.iload_n 1, 1) := by decide +kernel
theorem dX7_seen_15 : decode cX7_seen 15 = .ok (.invokestatic 145, 3) := by decide +kernel
theorem dX7_seen_18 : decode cX7_seen 18 = .ok (.ifCond .ne 5, 3) := by decide +kernel
theorem dX7_seen_21 : decode cX7_seen 21 = .ok (.iconst (-1), 1) := by decide +kernel
theorem dX7_seen_22 : decode cX7_seen 22 = .ok (.ireturn, 1) := by decide +kernel
theorem dX7_seen_23 : decode cX7_seen 23 = .ok (.aload_n 0, 1) := by decide +kernel
theorem dX7_seen_24 : decode cX7_seen 24 = .ok (.getfield 7, 3) := by decide +kernel
theorem dX7_seen_27 : decode cX7_seen 27 = .ok (.iconst 3, 1) := by decide +kernel
theorem dX7_seen_28 : decode cX7_seen 28 = .ok (.iaload, 1) := by decide +kernel
theorem dX7_seen_29 : decode cX7_seen 29 = .ok (.bipush 10, 2) := by decide +kernel
theorem dX7_seen_31 : decode cX7_seen 31 = .ok (.if_icmp .ne 6, 3) := by decide +kernel
theorem dX7_seen_34 : decode cX7_seen 34 = .ok (.bipush (-4), 2) := by decide +kernel
theorem dX7_seen_36 : decode cX7_seen 36 = .ok (.ireturn, 1) := by decide +kernel
theorem dX7_seen_37 : decode cX7_seen 37 = .ok (.aload_n 0, 1) := by decide +kernel
theorem dX7_seen_38 : decode cX7_seen 38 = .ok (.getfield 7, 3) := by decide +kernel
theorem dX7_seen_41 : decode cX7_seen 41 = .ok (.sipush 170, 3) := by decide +kernel
theorem dX7_seen_44 : decode cX7_seen 44 = .ok (.aload_n 0, 1) := by decide +kernel
theorem dX7_seen_45 : decode cX7_seen 45 = .ok (.getfield 7, 3) := by decide +kernel
theorem dX7_seen_48 : decode cX7_seen 48 = .ok (.iconst 3, 1) := by decide +kernel
theorem dX7_seen_49 : decode cX7_seen 49 = .ok (.iaload, 1) := by decide +kernel
theorem dX7_seen_50 : decode cX7_seen 50 = .ok (.iadd, 1) := by decide +kernel
theorem dX7_seen_51 : decode cX7_seen 51 = .ok (.iload_n 1, 1) := by decide +kernel
theorem dX7_seen_52 : decode cX7_seen 52 = .ok (.iastore, 1) := by decide +kernel
theorem dX7_seen_53 : decode cX7_seen 53 = .ok (.aload_n 0, 1) := by decide +kernel
theorem dX7_seen_54 : decode cX7_seen 54 = .ok (.getfield 7, 3) := by decide +kernel
theorem dX7_seen_57 : decode cX7_seen 57 = .ok (.iconst 3, 1) := by decide +kernel
theorem dX7_seen_58 : decode cX7_seen 58 = .ok (.dup2, 1) := by decide +kernel
theorem dX7_seen_59 : decode cX7_seen 59 = .ok (.iaload, 1) := by decide +kernel
theorem dX7_seen_60 : decode cX7_seen 60 = .ok (.iconst 1, 1) := by decide +kernel
theorem dX7_seen_61 : decode cX7_seen 61 = .ok (.iadd, 1) := by decide +kernel
theorem dX7_seen_62 : decode cX7_seen 62 = .ok (.iastore, 1) := by decide +kernel
theorem dX7_seen_63 : decode cX7_seen 63 = .ok (.aload_n 0, 1) := by decide +kernel
theorem dX7_seen_64 : decode cX7_seen 64 = .ok (.getfield 7, 3) := by decide +kernel
theorem dX7_seen_67 : decode cX7_seen 67 = .ok (.iconst 3, 1) := by decide +kernel
theorem dX7_seen_68 : decode cX7_seen 68 = .ok (.iaload, 1) := by decide +kernel
theorem dX7_seen_69 : decode cX7_seen 69 = .ok (.ireturn, 1) := by decide +kernel
theorem dX7_off_0 : decode cX7_off 0 = .ok (.iload_n 1, 1) := by decide +kernel
theorem dX7_off_1 : decode cX7_off 1 = .ok (.iconst 0, 1) := by decide +kernel
theorem dX7_off_2 : decode cX7_off 2 = .ok (.iconst 1, 1) := by decide +kernel
theorem dX7_off_3 : decode cX7_off 3 = .ok (.invokestatic 39, 3) := by decide +kernel
theorem dX7_off_6 : decode cX7_off 6 = .ok (.ifCond .ne 5, 3) := by decide +kernel
theorem dX7_off_9 : decode cX7_off 9 = .ok (.iconst (-1), 1) := by decide +kernel
theorem dX7_off_10 : decode cX7_off 10 = .ok (.ireturn, 1) := by decide +kernel
theorem dX7_off_11 : decode cX7_off 11 = .ok (.iconst 0, 1) := by decide +kernel
theorem dX7_off_12 : decode cX7_off 12 = .ok (.istore_n 2, 1) := by decide +kernel
theorem dX7_off_13 : decode cX7_off 13 = .ok (.bipush (-5), 2) := by decide +kernel
theorem dX7_off_15 : decode cX7_off 15 = .ok (.istore_n 3, 1) := by decide +kernel
theorem dX7_off_16 : decode cX7_off 16 = .ok (.iconst 0, 1) := by decide +kernel
theorem dX7_off_17 : decode cX7_off 17 = .ok (.istore 4, 2) := by decide +kernel
theorem dX7_off_19 : decode cX7_off 19 = .ok (.iconst 0, 1) := by decide +kernel
theorem dX7_off_20 : decode cX7_off 20 = .ok (.istore 5, 2) := by decide +kernel
theorem dX7_off_22 : decode cX7_off 22 = .ok (.iload 5, 2) := by decide +kernel
theorem dX7_off_24 : decode cX7_off 24 = .ok (.aload_n 0, 1) := by decide +kernel
theorem dX7_off_25 : decode cX7_off 25 = .ok (.getfield 7, 3) := by decide +kernel
theorem dX7_off_28 : decode cX7_off 28 = .ok (.iconst 0, 1) := by decide +kernel
theorem dX7_off_29 : decode cX7_off 29 = .ok (.iaload, 1) := by decide +kernel
theorem dX7_off_30 : decode cX7_off 30 = .ok (.if_icmp .ge 90, 3) := by decide +kernel
theorem dX7_off_33 : decode cX7_off 33 = .ok (.iload 5, 2) := by decide +kernel
theorem dX7_off_35 : decode cX7_off 35 = .ok (.aload_n 0, 1) := by decide +kernel
theorem dX7_off_36 : decode cX7_off 36 = .ok (.getfield 7, 3) := by decide +kernel
theorem dX7_off_39 : decode cX7_off 39 = .ok (.iconst 3, 1) := by decide +kernel
theorem dX7_off_40 : decode cX7_off 40 = .ok (.iaload, 1) := by decide +kernel
theorem dX7_off_41 : decode cX7_off 41 = .ok (.if_icmp .ge 79, 3) := by decide +kernel
theorem dX7_off_44 : decode cX7_off 44 = .ok (.aload_n 0, 1) := by decide +kernel
theorem dX7_off_45 : decode cX7_off 45 = .ok (.getfield 7, 3) := by decide +kernel
theorem dX7_off_48 : decode cX7_off 48 = .ok (.sipush 150, 3) := by decide +kernel
theorem dX7_off_51 : decode cX7_off 51 = .ok (.iload 5, 2) := by decide +kernel
theorem dX7_off_53 : decode cX7_off 53 = .ok (.iadd, 1) := by decide +kernel
theorem dX7_off_54 : decode cX7_off 54 = .ok (.iaload, 1) := by decide +kernel
theorem dX7_off_55 : decode cX7_off 55 = .ok (.aload_n 0, 1) := by decide +kernel
theorem dX7_off_56 : decode cX7_off 56 = .ok (.getfield 7, 3) := by decide +kernel
theorem dX7_off_59 : decode cX7_off 59 = .ok (.sipush 170, 3) := by decide +kernel
theorem dX7_off_62 : decode cX7_off 62 = .ok (.iload 5, 2) := by decide +kernel
theorem dX7_off_64 : decode cX7_off 64 = .ok (.iadd, 1) := by decide +kernel
theorem dX7_off_65 : decode cX7_off 65 = .ok (.iaload, 1) := by decide +kernel
theorem dX7_off_66 : decode cX7_off 66 = .ok (.invokestatic 155, 3) := by decide +kernel
theorem dX7_off_69 : decode cX7_off 69 = .ok (.istore 6, 2) := by decide +kernel
theorem dX7_off_71 : decode cX7_off 71 = .ok (.iload_n 2, 1) := by decide +kernel
theorem dX7_off_72 : decode cX7_off 72 = .ok (.iload 6, 2) := by decide +kernel
theorem dX7_off_74 : decode cX7_off 74 = .ok (.ifCond .le 7, 3) := by decide +kernel
theorem dX7_off_77 : decode cX7_off 77 = .ok (.iconst 1, 1) := by decide +kernel
theorem dX7_off_78 : decode cX7_off 78 = .ok (.goto 4, 3) := by decide +kernel
theorem dX7_off_81 : decode cX7_off 81 = .ok (.iconst 0, 1) := by decide +kernel
theorem dX7_off_82 : decode cX7_off 82 = .ok (.iadd, 1) := by decide +kernel
theorem dX7_off_83 : decode cX7_off 83 = .ok (.istore_n 2, 1) := by decide +kernel
theorem dX7_off_84 : decode cX7_off 84 = .ok (.iload 6, 2) := by decide +kernel
theorem dX7_off_86 : decode cX7_off 86 = .ok (.iload 4, 2) := by decide +kernel
theorem dX7_off_88 : decode cX7_off 88 = .ok (.if_icmp .le 8, 3) := by decide +kernel
theorem dX7_off_91 : decode cX7_off 91 = .ok (.iload 5, 2) := by decide +kernel
theorem dX7_off_93 : decode cX7_off 93 = .ok (.goto 4, 3) := by decide +kernel
theorem dX7_off_96 : decode cX7_off 96 = .ok (.iload_n 3, 1) := by decide +kernel
theorem dX7_off_97 : decode cX7_off 97 = .ok (.istore_n 3, 1) := by decide +kernel
theorem dX7_off_98 : decode cX7_off 98 = .ok (.iload 6, 2) := by decide +kernel
theorem dX7_off_100 : decode cX7_off 100 = .ok (.iload 4, 2) := by decide +kernel
theorem dX7_off_102 : decode cX7_off 102 = .ok (.if_icmp .le 8, 3) := by decide +kernel
theorem dX7_off_105 : decode cX7_off 105 = .ok (.iload 6, 2) := by decide +kernel
theorem dX7_off_107 : decode cX7_off 107 = .ok (.goto 5, 3) := by decide +kernel
theorem dX7_off_110 : decode cX7_off 110 = .ok (.iload 4, 2) := by decide +kernel
theorem dX7_off_112 : decode cX7_off 112 = .ok (.istore 4, 2) := by decide +kernel
theorem dX7_off_114 : decode cX7_off 114 = .ok (.iinc 5 1, 3) := by decide +kernel
theorem dX7_off_117 : decode cX7_off 117 = .ok (.goto (-95), 3) := by decide +kernel
theorem dX7_off_120 : decode cX7_off 120 = .ok (.iload_n 1, 1) := by decide +kernel
theorem dX7_off_121 : decode cX7_off 121 = .ok (.ifCond .ne 7, 3) := by decide +kernel
theorem dX7_off_124 : decode cX7_off 124 = .ok (.iload_n 2, 1) := by decide +kernel
theorem dX7_off_125 : decode cX7_off 125 = .ok (.goto 4, 3) := by decide +kernel
theorem dX7_off_128 : decode cX7_off 128 = .ok (.iload_n 3, 1) := by decide +kernel
theorem dX7_off_129 : decode cX7_off 129 = .ok (.ireturn, 1) := by decide +kernel
theorem dX7_whom_0 : decode cX7_whom 0 = .ok (.aload_n 0, 1) := by decide +kernel
theorem dX7_whom_1 : decode cX7_whom 1 = .ok (.iload_n 1, 1) := by decide +kernel
theorem dX7_whom_2 : decode cX7_whom 2 = .ok (.invokevirtual 152, 3) := by decide +kernel
theorem dX7_whom_5 : decode cX7_whom 5 = .ok (.ifCond .eq 10, 3) := by decide +kernel
theorem dX7_whom_8 : decode cX7_whom 8 = .ok (.iload_n 2, 1) := by decide +kernel
theorem dX7_whom_9 : decode cX7_whom 9 = .ok (.invokestatic 184, 3) := by decide +kernel
theorem dX7_whom_12 : decode cX7_whom 12 = .ok (.ifCond .ne 5, 3) := by decide +kernel
theorem dX7_whom_15 : decode cX7_whom 15 = .ok (.iconst (-1), 1) := by decide +kernel
theorem dX7_whom_16 : decode cX7_whom 16 = .ok (.ireturn, 1) := by decide +kernel
theorem dX7_whom_17 : decode cX7_whom 17 = .ok (.iload_n 3, 1) := by decide +kernel
theorem dX7_whom_18 : decode cX7_whom 18 = .ok (.iconst 0, 1) := by decide +kernel
theorem dX7_whom_19 : decode cX7_whom 19 = .ok (.sipush 999, 3) := by decide +kernel
theorem dX7_whom_22 : decode cX7_whom 22 = .ok (.invokestatic 39, 3) := by decide +kernel
theorem dX7_whom_25 : decode cX7_whom 25 = .ok (.ifCond .ne 6, 3) := by decide +kernel
theorem dX7_whom_28 : decode cX7_whom 28 = .ok (.bipush (-2), 2) := by decide +kernel
theorem dX7_whom_30 : decode cX7_whom 30 = .ok (.ireturn, 1) := by decide +kernel
theorem dX7_whom_31 : decode cX7_whom 31 = .ok (.aload_n 0, 1) := by decide +kernel
theorem dX7_whom_32 : decode cX7_whom 32 = .ok (.getfield 7, 3) := by decide +kernel
theorem dX7_whom_35 : decode cX7_whom 35 = .ok (.sipush 130, 3) := by decide +kernel
theorem dX7_whom_38 : decode cX7_whom 38 = .ok (.iload_n 1, 1) := by decide +kernel
theorem dX7_whom_39 : decode cX7_whom 39 = .ok (.iadd, 1) := by decide +kernel
theorem dX7_whom_40 : decode cX7_whom 40 = .ok (.iaload, 1) := by decide +kernel
theorem dX7_whom_41 : decode cX7_whom 41 = .ok (.istore 4, 2) := by decide +kernel
theorem dX7_whom_43 : decode cX7_whom 43 = .ok (.iconst 0, 1) := by decide +kernel
theorem dX7_whom_44 : decode cX7_whom 44 = .ok (.istore 5, 2) := by decide +kernel
theorem dX7_whom_46 : decode cX7_whom 46 = .ok (.iconst 0, 1) := by decide +kernel
theorem dX7_whom_47 : decode cX7_whom 47 = .ok (.istore 6, 2) := by decide +kernel
theorem dX7_whom_49 : decode cX7_whom 49 = .ok (.iload 6, 2) := by decide +kernel
theorem dX7_whom_51 : decode cX7_whom 51 = .ok (.bipush 7, 2) := by decide +kernel
theorem dX7_whom_53 : decode cX7_whom 53 = .ok (.if_icmp .ge 44, 3) := by decide +kernel
theorem dX7_whom_56 : decode cX7_whom 56 = .ok (.aload_n 0, 1) := by decide +kernel
theorem dX7_whom_57 : decode cX7_whom 57 = .ok (.getfield 7, 3) := by decide +kernel
theorem dX7_whom_60 : decode cX7_whom 60 = .ok (.sipush 130, 3) := by decide +kernel
theorem dX7_whom_63 : decode cX7_whom 63 = .ok (.iload_n 1, 1) := by decide +kernel
theorem dX7_whom_64 : decode cX7_whom 64 = .ok (.iadd, 1) := by decide +kernel
theorem dX7_whom_65 : decode cX7_whom 65 = .ok (.iload 6, 2) := by decide +kernel
theorem dX7_whom_67 : decode cX7_whom 67 = .ok (.iastore, 1) := by decide +kernel
theorem dX7_whom_68 : decode cX7_whom 68 = .ok (.iload 5, 2) := by decide +kernel
theorem dX7_whom_70 : decode cX7_whom 70 = .ok (.aload_n 0, 1) := by decide +kernel
theorem dX7_whom_71 : decode cX7_whom 71 = .ok (.iload_n 2, 1) := by decide +kernel
theorem dX7_whom_72 : decode cX7_whom 72 = .ok (.iload_n 1, 1) := by decide +kernel
theorem dX7_whom_73 : decode cX7_whom 73 = .ok (.invokevirtual 187, 3) := by decide +kernel
theorem dX7_whom_76 : decode cX7_whom 76 = .ok (.iload_n 3, 1) := by decide +kernel
theorem dX7_whom_77 : decode cX7_whom 77 = .ok (.if_icmp .ne 10, 3) := by decide +kernel
theorem dX7_whom_80 : decode cX7_whom 80 = .ok (.iconst 1, 1) := by decide +kernel
theorem dX7_whom_81 : decode cX7_whom 81 = .ok (.iload 6, 2) := by decide +kernel
theorem dX7_whom_83 : decode cX7_whom 83 = .ok (.ishl, 1) := by decide +kernel
theorem dX7_whom_84 : decode cX7_whom 84 = .ok (.goto 4, 3) := by decide +kernel
theorem dX7_whom_87 : decode cX7_whom 87 = .ok (.iconst 0, 1) := by decide +kernel
theorem dX7_whom_88 : decode cX7_whom 88 = .ok (.ior, 1) := by decide +kernel
theorem dX7_whom_89 : decode cX7_whom 89 = .ok (.istore 5, 2) := by decide +kernel
theorem dX7_whom_91 : decode cX7_whom 91 = .ok (.iinc 6 1, 3) := by decide +kernel
theorem dX7_whom_94 : decode cX7_whom 94 = .ok (.goto (-45), 3) := by decide +kernel
theorem dX7_whom_97 : decode cX7_whom 97 = .ok (.aload_n 0, 1) := by decide +kernel
theorem dX7_whom_98 : decode cX7_whom 98 = .ok (.getfield 7, 3) := by decide +kernel
theorem dX7_whom_101 : decode cX7_whom 101 = .ok (.sipush 130, 3) := by decide +kernel
theorem dX7_whom_104 : decode cX7_whom 104 = .ok (.iload_n 1, 1) := by decide +kernel
theorem dX7_whom_105 : decode cX7_whom 105 = .ok (.iadd, 1) := by decide +kernel
theorem dX7_whom_106 : decode cX7_whom 106 = .ok (.iload 4, 2) := by decide +kernel
theorem dX7_whom_108 : decode cX7_whom 108 = .ok (.iastore, 1) := by decide +kernel
theorem dX7_whom_109 : decode cX7_whom 109 = .ok (.iload 5, 2) := by decide +kernel
theorem dX7_whom_111 : decode cX7_whom 111 = .ok (.ireturn, 1) := by decide +kernel
theorem dX7_out_0 : decode cX7_out 0 = .ok (.aload_n 0, 1) := by decide +kernel
theorem dX7_out_1 : decode cX7_out 1 = .ok (.getfield 7, 3) := by decide +kernel
theorem dX7_out_4 : decode cX7_out 4 = .ok (.iconst 0, 1) := by decide +kernel
theorem dX7_out_5 : decode cX7_out 5 = .ok (.iaload, 1) := by decide +kernel
theorem dX7_out_6 : decode cX7_out 6 = .ok (.iconst 2, 1) := by decide +kernel
theorem dX7_out_7 : decode cX7_out 7 = .ok (.if_icmp .ge 6, 3) := by decide +kernel
theorem dX7_out_10 : decode cX7_out 10 = .ok (.bipush (-5), 2) := by decide +kernel
theorem dX7_out_12 : decode cX7_out 12 = .ok (.ireturn, 1) := by decide +kernel
theorem dX7_out_13 : decode cX7_out 13 = .ok (.iconst (-1), 1) := by decide +kernel
theorem dX7_out_14 : decode cX7_out 14 = .ok (.istore_n 1, 1) := by decide +kernel
theorem dX7_out_15 : decode cX7_out 15 = .ok (.iconst 0, 1) := by decide +kernel
theorem dX7_out_16 : decode cX7_out 16 = .ok (.istore_n 2, 1) := by decide +kernel
theorem dX7_out_17 : decode cX7_out 17 = .ok (.iconst 0, 1) := by decide +kernel
theorem dX7_out_18 : decode cX7_out 18 = .ok (.istore_n 3, 1) := by decide +kernel
theorem dX7_out_19 : decode cX7_out 19 = .ok (.iload_n 3, 1) := by decide +kernel
theorem dX7_out_20 : decode cX7_out 20 = .ok (.aload_n 0, 1) := by decide +kernel
theorem dX7_out_21 : decode cX7_out 21 = .ok (.getfield 7, 3) := by decide +kernel
theorem dX7_out_24 : decode cX7_out 24 = .ok (.iconst 0, 1) := by decide +kernel
theorem dX7_out_25 : decode cX7_out 25 = .ok (.iaload, 1) := by decide +kernel
theorem dX7_out_26 : decode cX7_out 26 = .ok (.if_icmp .ge 61, 3) := by decide +kernel
theorem dX7_out_29 : decode cX7_out 29 = .ok (.aload_n 0, 1) := by decide +kernel
theorem dX7_out_30 : decode cX7_out 30 = .ok (.iload_n 3, 1) := by decide +kernel
theorem dX7_out_31 : decode cX7_out 31 = .ok (.putfield 23, 3) := by decide +kernel
theorem dX7_out_34 : decode cX7_out 34 = .ok (.aload_n 0, 1) := by decide +kernel
theorem dX7_out_35 : decode cX7_out 35 = .ok (.invokevirtual 202, 3) := by decide +kernel
theorem dX7_out_38 : decode cX7_out 38 = .ok (.istore 4, 2) := by decide +kernel
theorem dX7_out_40 : decode cX7_out 40 = .ok (.iload_n 1, 1) := by decide +kernel
theorem dX7_out_41 : decode cX7_out 41 = .ok (.iconst (-1), 1) := by decide +kernel
theorem dX7_out_42 : decode cX7_out 42 = .ok (.if_icmp .eq 9, 3) := by decide +kernel
theorem dX7_out_45 : decode cX7_out 45 = .ok (.iload 4, 2) := by decide +kernel
theorem dX7_out_47 : decode cX7_out 47 = .ok (.iload_n 2, 1) := by decide +kernel
theorem dX7_out_48 : decode cX7_out 48 = .ok (.if_icmp .ge 7, 3) := by decide +kernel
theorem dX7_out_51 : decode cX7_out 51 = .ok (.iconst 1, 1) := by decide +kernel
theorem dX7_out_52 : decode cX7_out 52 = .ok (.goto 4, 3) := by decide +kernel
theorem dX7_out_55 : decode cX7_out 55 = .ok (.iconst 0, 1) := by decide +kernel
theorem dX7_out_56 : decode cX7_out 56 = .ok (.istore 5, 2) := by decide +kernel
theorem dX7_out_58 : decode cX7_out 58 = .ok (.iload 5, 2) := by decide +kernel
theorem dX7_out_60 : decode cX7_out 60 = .ok (.ifCond .eq 7, 3) := by decide +kernel
theorem dX7_out_63 : decode cX7_out 63 = .ok (.iload_n 3, 1) := by decide +kernel
theorem dX7_out_64 : decode cX7_out 64 = .ok (.goto 4, 3) := by decide +kernel
theorem dX7_out_67 : decode cX7_out 67 = .ok (.iload_n 1, 1) := by decide +kernel
theorem dX7_out_68 : decode cX7_out 68 = .ok (.istore_n 1, 1) := by decide +kernel
theorem dX7_out_69 : decode cX7_out 69 = .ok (.iload 5, 2) := by decide +kernel
theorem dX7_out_71 : decode cX7_out 71 = .ok (.ifCond .eq 8, 3) := by decide +kernel
theorem dX7_out_74 : decode cX7_out 74 = .ok (.iload 4, 2) := by decide +kernel
theorem dX7_out_76 : decode cX7_out 76 = .ok (.goto 4, 3) := by decide +kernel
theorem dX7_out_79 : decode cX7_out 79 = .ok (.iload_n 2, 1) := by decide +kernel
theorem dX7_out_80 : decode cX7_out 80 = .ok (.istore_n 2, 1) := by decide +kernel
theorem dX7_out_81 : decode cX7_out 81 = .ok (.iinc 3 1, 3) := by decide +kernel
theorem dX7_out_84 : decode cX7_out 84 = .ok (.goto (-65), 3) := by decide +kernel
theorem dX7_out_87 : decode cX7_out 87 = .ok (.aload_n 0, 1) := by decide +kernel
theorem dX7_out_88 : decode cX7_out 88 = .ok (.iconst (-1), 1) := by decide +kernel
theorem dX7_out_89 : decode cX7_out 89 = .ok (.putfield 23, 3) := by decide +kernel
theorem dX7_out_92 : decode cX7_out 92 = .ok (.iload_n 1, 1) := by decide +kernel
theorem dX7_out_93 : decode cX7_out 93 = .ok (.ireturn, 1) := by decide +kernel
theorem dX7_runs_0 : decode cX7_runs 0 = .ok (.aload_n 0, 1) := by decide +kernel
theorem dX7_runs_1 : decode cX7_runs 1 = .ok (.getfield 228, 3) := by decide +kernel
theorem dX7_runs_4 : decode cX7_runs 4 = .ok (.bipush 20, 2) := by decide +kernel
theorem dX7_runs_6 : decode cX7_runs 6 = .ok (.if_icmp .ge 13, 3) := by decide +kernel
theorem dX7_runs_9 : decode cX7_runs 9 = .ok (.aload_n 0, 1) := by decide +kernel
theorem dX7_runs_10 : decode cX7_runs 10 = .ok (.getfield 33, 3) := by decide +kernel
theorem dX7_runs_13 : decode cX7_runs 13 = .ok (.aload_n 0, 1) := by decide +kernel
theorem dX7_runs_14 : decode cX7_runs 14 = .ok (.getfield 228, 3) := by decide +kernel
theorem dX7_runs_17 : decode cX7_runs 17 = .ok (.iload_n 1, 1) := by decide +kernel
theorem dX7_runs_18 : decode cX7_runs 18 = .ok (.iastore, 1) := by decide +kernel
theorem dX7_runs_19 : decode cX7_runs 19 = .ok (.aload_n 0, 1) := by decide +kernel
theorem dX7_runs_20 : decode cX7_runs 20 = .ok (.dup, 1) := by decide +kernel
theorem dX7_runs_21 : decode cX7_runs 21 = .ok (.getfield 228, 3) := by decide +kernel
theorem dX7_runs_24 : decode cX7_runs 24 = .ok (.iconst 1, 1) := by decide +kernel
theorem dX7_runs_25 : decode cX7_runs 25 = .ok (.iadd, 1) := by decide +kernel
theorem dX7_runs_26 : decode cX7_runs 26 = .ok (.putfield 228, 3) := by decide +kernel
theorem dX7_runs_29 : decode cX7_runs 29 = .ok (.return_, 1) := by decide +kernel
theorem dX7_isUnder_0 : decode cX7_isUnder 0 = .ok (.iload_n 1, 1) := by decide +kernel
theorem dX7_isUnder_1 : decode cX7_isUnder 1 = .ok (.ifCond .eq 39, 3) := by decide +kernel
theorem dX7_isUnder_4 : decode cX7_isUnder 4 = .ok (.iload_n 1, 1) := by decide +kernel
theorem dX7_isUnder_5 : decode cX7_isUnder 5 = .ok (.iload_n 0, 1) := by decide +kernel
theorem dX7_isUnder_6 : decode cX7_isUnder 6 = .ok (.if_icmp .eq 34, 3) := by decide +kernel
theorem dX7_isUnder_9 : decode cX7_isUnder 9 = .ok (.iload_n 1, 1) := by decide +kernel
theorem dX7_isUnder_10 : decode cX7_isUnder 10 = .ok (.iconst 1, 1) := by decide +kernel
theorem dX7_isUnder_11 : decode cX7_isUnder 11 = .ok (.if_icmp .ne 8, 3) := by decide +kernel
theorem dX7_isUnder_14 : decode cX7_isUnder 14 = .ok (.iload_n 0, 1) := by decide +kernel
theorem dX7_isUnder_15 : decode cX7_isUnder 15 = .ok (.iconst 4, 1) := by decide +kernel
theorem dX7_isUnder_16 : decode cX7_isUnder 16 = .ok (.if_icmp .eq 24, 3) := by decide +kernel
theorem dX7_isUnder_19 : decode cX7_isUnder 19 = .ok (.iload_n 1, 1) := by decide +kernel
theorem dX7_isUnder_20 : decode cX7_isUnder 20 = .ok (.iconst 2, 1) := by decide +kernel
theorem dX7_isUnder_21 : decode cX7_isUnder 21 = .ok (.if_icmp .ne 8, 3) := by decide +kernel
theorem dX7_isUnder_24 : decode cX7_isUnder 24 = .ok (.iload_n 0, 1) := by decide +kernel
theorem dX7_isUnder_25 : decode cX7_isUnder 25 = .ok (.iconst 5, 1) := by decide +kernel
theorem dX7_isUnder_26 : decode cX7_isUnder 26 = .ok (.if_icmp .eq 14, 3) := by decide +kernel
theorem dX7_isUnder_29 : decode cX7_isUnder 29 = .ok (.iload_n 1, 1) := by decide +kernel
theorem dX7_isUnder_30 : decode cX7_isUnder 30 = .ok (.iconst 3, 1) := by decide +kernel
theorem dX7_isUnder_31 : decode cX7_isUnder 31 = .ok (.if_icmp .ne 13, 3) := by decide +kernel
theorem dX7_isUnder_34 : decode cX7_isUnder 34 = .ok (.iload_n 0, 1) := by decide +kernel
theorem dX7_isUnder_35 : decode cX7_isUnder 35 = .ok (.bipush 6, 2) := by decide +kernel
theorem dX7_isUnder_37 : decode cX7_isUnder 37 = .ok (.if_icmp .ne 7, 3) := by decide +kernel
theorem dX7_isUnder_40 : decode cX7_isUnder 40 = .ok (.iconst 1, 1) := by decide +kernel
theorem dX7_isUnder_41 : decode cX7_isUnder 41 = .ok (.goto 4, 3) := by decide +kernel
theorem dX7_isUnder_44 : decode cX7_isUnder 44 = .ok (.iconst 0, 1) := by decide +kernel
theorem dX7_isUnder_45 : decode cX7_isUnder 45 = .ok (.ireturn, 1) := by decide +kernel
theorem dX7_plainGoes_0 : decode cX7_plainGoes 0 = .ok (.aload_n 0, 1) := by decide +kernel
theorem dX7_plainGoes_1 : decode cX7_plainGoes 1 = .ok (.iconst 1, 1) := by decide +kernel
theorem dX7_plainGoes_2 : decode cX7_plainGoes 2 = .ok (.invokevirtual 231, 3) := by decide +kernel
theorem dX7_plainGoes_5 : decode cX7_plainGoes 5 = .ok (.iload_n 1, 1) := by decide +kernel
theorem dX7_plainGoes_6 : decode cX7_plainGoes 6 = .ok (.aload_n 0, 1) := by decide +kernel
theorem dX7_plainGoes_7 : decode cX7_plainGoes 7 = .ok (.getfield 234, 3) := by decide +kernel
theorem dX7_plainGoes_10 : decode cX7_plainGoes 10 = .ok (.iadd, 1) := by decide +kernel
theorem dX7_plainGoes_11 : decode cX7_plainGoes 11 = .ok (.ireturn, 1) := by decide +kernel
theorem dX7_goesActs_0 : decode cX7_goesActs 0 = .ok (.aload_n 0, 1) := by decide +kernel
theorem dX7_goesActs_1 : decode cX7_goesActs 1 = .ok (.getfield 237, 3) := by decide +kernel
theorem dX7_goesActs_4 : decode cX7_goesActs 4 = .ok (.iconst 1, 1) := by decide +kernel
theorem dX7_goesActs_5 : decode cX7_goesActs 5 = .ok (.invokestatic 240, 3) := by decide +kernel
theorem dX7_goesActs_8 : decode cX7_goesActs 8 = .ok (.ifCond .eq 17, 3) := by decide +kernel
theorem dX7_goesActs_11 : decode cX7_goesActs 11 = .ok (.aload_n 0, 1) := by decide +kernel
theorem dX7_goesActs_12 : decode cX7_goesActs 12 = .ok (.bipush 11, 2) := by decide +kernel
theorem dX7_goesActs_14 : decode cX7_goesActs 14 = .ok (.invokevirtual 231, 3) := by decide +kernel
theorem dX7_goesActs_17 : decode cX7_goesActs 17 = .ok (.aload_n 0, 1) := by decide +kernel
theorem dX7_goesActs_18 : decode cX7_goesActs 18 = .ok (.iload_n 1, 1) := by decide +kernel
theorem dX7_goesActs_19 : decode cX7_goesActs 19 = .ok (.iconst 3, 1) := by decide +kernel
theorem dX7_goesActs_20 : decode cX7_goesActs 20 = .ok (.imul, 1) := by decide +kernel
theorem dX7_goesActs_21 : decode cX7_goesActs 21 = .ok (.invokevirtual 244, 3) := by decide +kernel
theorem dX7_goesActs_24 : decode cX7_goesActs 24 = .ok (.ireturn, 1) := by decide +kernel
theorem dX7_goesActs_25 : decode cX7_goesActs 25 = .ok (.aload_n 0, 1) := by decide +kernel
theorem dX7_goesActs_26 : decode cX7_goesActs 26 = .ok (.getfield 237, 3) := by decide +kernel
theorem dX7_goesActs_29 : decode cX7_goesActs 29 = .ok (.iconst 5, 1) := by decide +kernel
theorem dX7_goesActs_30 : decode cX7_goesActs 30 = .ok (.if_icmp .ne 20, 3) := by decide +kernel
theorem dX7_goesActs_33 : decode cX7_goesActs 33 = .ok (.aload_n 0, 1) := by decide +kernel
theorem dX7_goesActs_34 : decode cX7_goesActs 34 = .ok (.bipush 51, 2) := by decide +kernel
theorem dX7_goesActs_36 : decode cX7_goesActs 36 = .ok (.invokevirtual 231, 3) := by decide +kernel
theorem dX7_goesActs_39 : decode cX7_goesActs 39 = .ok (.aload_n 0, 1) := by decide +kernel
theorem dX7_goesActs_40 : decode cX7_goesActs 40 = .ok (.iload_n 1, 1) := by decide +kernel
theorem dX7_goesActs_41 : decode cX7_goesActs 41 = .ok (.invokevirtual 244, 3) := by decide +kernel
theorem dX7_goesActs_44 : decode cX7_goesActs 44 = .ok (.aload_n 0, 1) := by decide +kernel
theorem dX7_goesActs_45 : decode cX7_goesActs 45 = .ok (.getfield 234, 3) := by decide +kernel
theorem dX7_goesActs_48 : decode cX7_goesActs 48 = .ok (.ixor, 1) := by decide +kernel
theorem dX7_goesActs_49 : decode cX7_goesActs 49 = .ok (.ireturn, 1) := by decide +kernel
theorem dX7_goesActs_50 : decode cX7_goesActs 50 = .ok (.aload_n 0, 1) := by decide +kernel
theorem dX7_goesActs_51 : decode cX7_goesActs 51 = .ok (.iload_n 1, 1) := by decide +kernel
theorem dX7_goesActs_52 : decode cX7_goesActs 52 = .ok (.invokevirtual 244, 3) := by decide +kernel
theorem dX7_goesActs_55 : decode cX7_goesActs 55 = .ok (.ireturn, 1) := by decide +kernel
theorem dX7_plainPlays_0 : decode cX7_plainPlays 0 = .ok (.aload_n 0, 1) := by decide +kernel
theorem dX7_plainPlays_1 : decode cX7_plainPlays 1 = .ok (.iconst 2, 1) := by decide +kernel
theorem dX7_plainPlays_2 : decode cX7_plainPlays 2 = .ok (.invokevirtual 231, 3) := by decide +kernel
theorem dX7_plainPlays_5 : decode cX7_plainPlays 5 = .ok (.aload_n 0, 1) := by decide +kernel
theorem dX7_plainPlays_6 : decode cX7_plainPlays 6 = .ok (.iload_n 1, 1) := by decide +kernel
theorem dX7_plainPlays_7 : decode cX7_plainPlays 7 = .ok (.invokevirtual 247, 3) := by decide +kernel
theorem dX7_plainPlays_10 : decode cX7_plainPlays 10 = .ok (.aload_n 0, 1) := by decide +kernel
theorem dX7_plainPlays_11 : decode cX7_plainPlays 11 = .ok (.getfield 250, 3) := by decide +kernel
theorem dX7_plainPlays_14 : decode cX7_plainPlays 14 = .ok (.isub, 1) := by decide +kernel
theorem dX7_plainPlays_15 : decode cX7_plainPlays 15 = .ok (.ireturn, 1) := by decide +kernel
theorem dX7_playsActs_0 : decode cX7_playsActs 0 = .ok (.aload_n 0, 1) := by decide +kernel
theorem dX7_playsActs_1 : decode cX7_playsActs 1 = .ok (.getfield 237, 3) := by decide +kernel
theorem dX7_playsActs_4 : decode cX7_playsActs 4 = .ok (.iconst 2, 1) := by decide +kernel
theorem dX7_playsActs_5 : decode cX7_playsActs 5 = .ok (.invokestatic 240, 3) := by decide +kernel
theorem dX7_playsActs_8 : decode cX7_playsActs 8 = .ok (.ifCond .eq 16, 3) := by decide +kernel
theorem dX7_playsActs_11 : decode cX7_playsActs 11 = .ok (.aload_n 0, 1) := by decide +kernel
theorem dX7_playsActs_12 : decode cX7_playsActs 12 = .ok (.bipush 21, 2) := by decide +kernel
theorem dX7_playsActs_14 : decode cX7_playsActs 14 = .ok (.invokevirtual 231, 3) := by decide +kernel
theorem dX7_playsActs_17 : decode cX7_playsActs 17 = .ok (.aload_n 0, 1) := by decide +kernel
theorem dX7_playsActs_18 : decode cX7_playsActs 18 = .ok (.iload_n 1, 1) := by decide +kernel
theorem dX7_playsActs_19 : decode cX7_playsActs 19 = .ok (.invokevirtual 253, 3) := by decide +kernel
theorem dX7_playsActs_22 : decode cX7_playsActs 22 = .ok (.ineg, 1) := by decide +kernel
theorem dX7_playsActs_23 : decode cX7_playsActs 23 = .ok (.ireturn, 1) := by decide +kernel
theorem dX7_playsActs_24 : decode cX7_playsActs 24 = .ok (.aload_n 0, 1) := by decide +kernel
theorem dX7_playsActs_25 : decode cX7_playsActs 25 = .ok (.getfield 237, 3) := by decide +kernel
theorem dX7_playsActs_28 : decode cX7_playsActs 28 = .ok (.bipush 6, 2) := by decide +kernel
theorem dX7_playsActs_30 : decode cX7_playsActs 30 = .ok (.if_icmp .ne 20, 3) := by decide +kernel
theorem dX7_playsActs_33 : decode cX7_playsActs 33 = .ok (.aload_n 0, 1) := by decide +kernel
theorem dX7_playsActs_34 : decode cX7_playsActs 34 = .ok (.bipush 61, 2) := by decide +kernel
theorem dX7_playsActs_36 : decode cX7_playsActs 36 = .ok (.invokevirtual 231, 3) := by decide +kernel
theorem dX7_playsActs_39 : decode cX7_playsActs 39 = .ok (.aload_n 0, 1) := by decide +kernel
theorem dX7_playsActs_40 : decode cX7_playsActs 40 = .ok (.iload_n 1, 1) := by decide +kernel
theorem dX7_playsActs_41 : decode cX7_playsActs 41 = .ok (.invokevirtual 253, 3) := by decide +kernel
theorem dX7_playsActs_44 : decode cX7_playsActs 44 = .ok (.aload_n 0, 1) := by decide +kernel
theorem dX7_playsActs_45 : decode cX7_playsActs 45 = .ok (.getfield 250, 3) := by decide +kernel
theorem dX7_playsActs_48 : decode cX7_playsActs 48 = .ok (.iadd, 1) := by decide +kernel
theorem dX7_playsActs_49 : decode cX7_playsActs 49 = .ok (.ireturn, 1) := by decide +kernel
theorem dX7_playsActs_50 : decode cX7_playsActs 50 = .ok (.aload_n 0, 1) := by decide +kernel
theorem dX7_playsActs_51 : decode cX7_playsActs 51 = .ok (.iload_n 1, 1) := by decide +kernel
theorem dX7_playsActs_52 : decode cX7_playsActs 52 = .ok (.invokevirtual 253, 3) := by decide +kernel
theorem dX7_playsActs_55 : decode cX7_playsActs 55 = .ok (.ireturn, 1) := by decide +kernel
theorem dX7_plainFits_0 : decode cX7_plainFits 0 = .ok (.aload_n 0, 1) := by decide +kernel
theorem dX7_plainFits_1 : decode cX7_plainFits 1 = .ok (.iconst 3, 1) := by decide +kernel
theorem dX7_plainFits_2 : decode cX7_plainFits 2 = .ok (.invokevirtual 231, 3) := by decide +kernel
theorem dX7_plainFits_5 : decode cX7_plainFits 5 = .ok (.aload_n 0, 1) := by decide +kernel
theorem dX7_plainFits_6 : decode cX7_plainFits 6 = .ok (.iload_n 1, 1) := by decide +kernel
theorem dX7_plainFits_7 : decode cX7_plainFits 7 = .ok (.invokevirtual 256, 3) := by decide +kernel
theorem dX7_plainFits_10 : decode cX7_plainFits 10 = .ok (.iconst 2, 1) := by decide +kernel
theorem dX7_plainFits_11 : decode cX7_plainFits 11 = .ok (.imul, 1) := by decide +kernel
theorem dX7_plainFits_12 : decode cX7_plainFits 12 = .ok (.ireturn, 1) := by decide +kernel
theorem dX7_fitsActs_0 : decode cX7_fitsActs 0 = .ok (.aload_n 0, 1) := by decide +kernel
theorem dX7_fitsActs_1 : decode cX7_fitsActs 1 = .ok (.getfield 237, 3) := by decide +kernel
theorem dX7_fitsActs_4 : decode cX7_fitsActs 4 = .ok (.iconst 3, 1) := by decide +kernel
theorem dX7_fitsActs_5 : decode cX7_fitsActs 5 = .ok (.invokestatic 240, 3) := by decide +kernel
theorem dX7_fitsActs_8 : decode cX7_fitsActs 8 = .ok (.ifCond .eq 18, 3) := by decide +kernel
theorem dX7_fitsActs_11 : decode cX7_fitsActs 11 = .ok (.aload_n 0, 1) := by decide +kernel
theorem dX7_fitsActs_12 : decode cX7_fitsActs 12 = .ok (.bipush 31, 2) := by decide +kernel
theorem dX7_fitsActs_14 : decode cX7_fitsActs 14 = .ok (.invokevirtual 231, 3) := by decide +kernel
theorem dX7_fitsActs_17 : decode cX7_fitsActs 17 = .ok (.aload_n 0, 1) := by decide +kernel
theorem dX7_fitsActs_18 : decode cX7_fitsActs 18 = .ok (.iload_n 1, 1) := by decide +kernel
theorem dX7_fitsActs_19 : decode cX7_fitsActs 19 = .ok (.invokevirtual 259, 3) := by decide +kernel
theorem dX7_fitsActs_22 : decode cX7_fitsActs 22 = .ok (.bipush 7, 2) := by decide +kernel
theorem dX7_fitsActs_24 : decode cX7_fitsActs 24 = .ok (.ixor, 1) := by decide +kernel
theorem dX7_fitsActs_25 : decode cX7_fitsActs 25 = .ok (.ireturn, 1) := by decide +kernel
theorem dX7_fitsActs_26 : decode cX7_fitsActs 26 = .ok (.aload_n 0, 1) := by decide +kernel
theorem dX7_fitsActs_27 : decode cX7_fitsActs 27 = .ok (.getfield 237, 3) := by decide +kernel
theorem dX7_fitsActs_30 : decode cX7_fitsActs 30 = .ok (.iconst 4, 1) := by decide +kernel
theorem dX7_fitsActs_31 : decode cX7_fitsActs 31 = .ok (.if_icmp .ne 25, 3) := by decide +kernel
theorem dX7_fitsActs_34 : decode cX7_fitsActs 34 = .ok (.aload_n 0, 1) := by decide +kernel
theorem dX7_fitsActs_35 : decode cX7_fitsActs 35 = .ok (.bipush 41, 2) := by decide +kernel
theorem dX7_fitsActs_37 : decode cX7_fitsActs 37 = .ok (.invokevirtual 231, 3) := by decide +kernel
theorem dX7_fitsActs_40 : decode cX7_fitsActs 40 = .ok (.aload_n 0, 1) := by decide +kernel
theorem dX7_fitsActs_41 : decode cX7_fitsActs 41 = .ok (.iload_n 1, 1) := by decide +kernel
theorem dX7_fitsActs_42 : decode cX7_fitsActs 42 = .ok (.iconst 1, 1) := by decide +kernel
theorem dX7_fitsActs_43 : decode cX7_fitsActs 43 = .ok (.isub, 1) := by decide +kernel
theorem dX7_fitsActs_44 : decode cX7_fitsActs 44 = .ok (.invokevirtual 259, 3) := by decide +kernel
theorem dX7_fitsActs_47 : decode cX7_fitsActs 47 = .ok (.istore_n 2, 1) := by decide +kernel
theorem dX7_fitsActs_48 : decode cX7_fitsActs 48 = .ok (.iload_n 2, 1) := by decide +kernel
theorem dX7_fitsActs_49 : decode cX7_fitsActs 49 = .ok (.aload_n 0, 1) := by decide +kernel
theorem dX7_fitsActs_50 : decode cX7_fitsActs 50 = .ok (.iconst 2, 1) := by decide +kernel
theorem dX7_fitsActs_51 : decode cX7_fitsActs 51 = .ok (.invokevirtual 247, 3) := by decide +kernel
theorem dX7_fitsActs_54 : decode cX7_fitsActs 54 = .ok (.iadd, 1) := by decide +kernel
theorem dX7_fitsActs_55 : decode cX7_fitsActs 55 = .ok (.ireturn, 1) := by decide +kernel
theorem dX7_fitsActs_56 : decode cX7_fitsActs 56 = .ok (.aload_n 0, 1) := by decide +kernel
theorem dX7_fitsActs_57 : decode cX7_fitsActs 57 = .ok (.iload_n 1, 1) := by decide +kernel
theorem dX7_fitsActs_58 : decode cX7_fitsActs 58 = .ok (.invokevirtual 259, 3) := by decide +kernel
theorem dX7_fitsActs_61 : decode cX7_fitsActs 61 = .ok (.ireturn, 1) := by decide +kernel
theorem dX7_act_0 : decode cX7_act 0 = .ok (.aload_n 0, 1) := by decide +kernel
theorem dX7_act_1 : decode cX7_act 1 = .ok (.iconst 0, 1) := by decide +kernel
theorem dX7_act_2 : decode cX7_act 2 = .ok (.putfield 228, 3) := by decide +kernel
theorem dX7_act_5 : decode cX7_act 5 = .ok (.aload_n 0, 1) := by decide +kernel
theorem dX7_act_6 : decode cX7_act 6 = .ok (.iload_n 1, 1) := by decide +kernel
theorem dX7_act_7 : decode cX7_act 7 = .ok (.invokevirtual 152, 3) := by decide +kernel
theorem dX7_act_10 : decode cX7_act 10 = .ok (.ifCond .eq 12, 3) := by decide +kernel
theorem dX7_act_13 : decode cX7_act 13 = .ok (.iload_n 2, 1) := by decide +kernel
theorem dX7_act_14 : decode cX7_act 14 = .ok (.iconst 0, 1) := by decide +kernel
theorem dX7_act_15 : decode cX7_act 15 = .ok (.iconst 2, 1) := by decide +kernel
theorem dX7_act_16 : decode cX7_act 16 = .ok (.invokestatic 39, 3) := by decide +kernel
theorem dX7_act_19 : decode cX7_act 19 = .ok (.ifCond .ne 5, 3) := by decide +kernel
theorem dX7_act_22 : decode cX7_act 22 = .ok (.iconst 0, 1) := by decide +kernel
theorem dX7_act_23 : decode cX7_act 23 = .ok (.ireturn, 1) := by decide +kernel
theorem dX7_act_24 : decode cX7_act 24 = .ok (.aload_n 0, 1) := by decide +kernel
theorem dX7_act_25 : decode cX7_act 25 = .ok (.aload_n 0, 1) := by decide +kernel
theorem dX7_act_26 : decode cX7_act 26 = .ok (.getfield 7, 3) := by decide +kernel
theorem dX7_act_29 : decode cX7_act 29 = .ok (.sipush 130, 3) := by decide +kernel
theorem dX7_act_32 : decode cX7_act 32 = .ok (.iload_n 1, 1) := by decide +kernel
theorem dX7_act_33 : decode cX7_act 33 = .ok (.iadd, 1) := by decide +kernel
theorem dX7_act_34 : decode cX7_act 34 = .ok (.iaload, 1) := by decide +kernel
theorem dX7_act_35 : decode cX7_act 35 = .ok (.putfield 237, 3) := by decide +kernel
theorem dX7_act_38 : decode cX7_act 38 = .ok (.aload_n 0, 1) := by decide +kernel
theorem dX7_act_39 : decode cX7_act 39 = .ok (.iload_n 1, 1) := by decide +kernel
theorem dX7_act_40 : decode cX7_act 40 = .ok (.putfield 234, 3) := by decide +kernel
theorem dX7_act_43 : decode cX7_act 43 = .ok (.aload_n 0, 1) := by decide +kernel
theorem dX7_act_44 : decode cX7_act 44 = .ok (.aload_n 0, 1) := by decide +kernel
theorem dX7_act_45 : decode cX7_act 45 = .ok (.getfield 7, 3) := by decide +kernel
theorem dX7_act_48 : decode cX7_act 48 = .ok (.sipush 140, 3) := by decide +kernel
theorem dX7_act_51 : decode cX7_act 51 = .ok (.iload_n 1, 1) := by decide +kernel
theorem dX7_act_52 : decode cX7_act 52 = .ok (.iadd, 1) := by decide +kernel
theorem dX7_act_53 : decode cX7_act 53 = .ok (.iaload, 1) := by decide +kernel
theorem dX7_act_54 : decode cX7_act 54 = .ok (.putfield 250, 3) := by decide +kernel
theorem dX7_act_57 : decode cX7_act 57 = .ok (.iload_n 2, 1) := by decide +kernel
theorem dX7_act_58 : decode cX7_act 58 = .ok (.ifCond .ne 11, 3) := by decide +kernel
theorem dX7_act_61 : decode cX7_act 61 = .ok (.aload_n 0, 1) := by decide +kernel
theorem dX7_act_62 : decode cX7_act 62 = .ok (.iload_n 3, 1) := by decide +kernel
theorem dX7_act_63 : decode cX7_act 63 = .ok (.invokevirtual 247, 3) := by decide +kernel
theorem dX7_act_66 : decode cX7_act 66 = .ok (.goto 21, 3) := by decide +kernel
theorem dX7_act_69 : decode cX7_act 69 = .ok (.iload_n 2, 1) := by decide +kernel
theorem dX7_act_70 : decode cX7_act 70 = .ok (.iconst 1, 1) := by decide +kernel
theorem dX7_act_71 : decode cX7_act 71 = .ok (.if_icmp .ne 11, 3) := by decide +kernel
theorem dX7_act_74 : decode cX7_act 74 = .ok (.aload_n 0, 1) := by decide +kernel
theorem dX7_act_75 : decode cX7_act 75 = .ok (.iload_n 3, 1) := by decide +kernel
theorem dX7_act_76 : decode cX7_act 76 = .ok (.invokevirtual 256, 3) := by decide +kernel
theorem dX7_act_79 : decode cX7_act 79 = .ok (.goto 8, 3) := by decide +kernel
theorem dX7_act_82 : decode cX7_act 82 = .ok (.aload_n 0, 1) := by decide +kernel
theorem dX7_act_83 : decode cX7_act 83 = .ok (.iload_n 3, 1) := by decide +kernel
theorem dX7_act_84 : decode cX7_act 84 = .ok (.invokevirtual 262, 3) := by decide +kernel
theorem dX7_act_87 : decode cX7_act 87 = .ok (.ireturn, 1) := by decide +kernel
theorem dX7_trace_0 : decode cX7_trace 0 = .ok (.iload_n 1, 1) := by decide +kernel
theorem dX7_trace_1 : decode cX7_trace 1 = .ok (.iconst 0, 1) := by decide +kernel
theorem dX7_trace_2 : decode cX7_trace 2 = .ok (.aload_n 0, 1) := by decide +kernel
theorem dX7_trace_3 : decode cX7_trace 3 = .ok (.getfield 228, 3) := by decide +kernel
theorem dX7_trace_6 : decode cX7_trace 6 = .ok (.bipush 20, 2) := by decide +kernel
theorem dX7_trace_8 : decode cX7_trace 8 = .ok (.if_icmp .ge 10, 3) := by decide +kernel
theorem dX7_trace_11 : decode cX7_trace 11 = .ok (.aload_n 0, 1) := by decide +kernel
theorem dX7_trace_12 : decode cX7_trace 12 = .ok (.getfield 228, 3) := by decide +kernel
theorem dX7_trace_15 : decode cX7_trace 15 = .ok (.goto 5, 3) := by decide +kernel
theorem dX7_trace_18 : decode cX7_trace 18 = .ok (.bipush 20, 2) := by decide +kernel
theorem dX7_trace_20 : decode cX7_trace 20 = .ok (.iconst 1, 1) := by decide +kernel
theorem dX7_trace_21 : decode cX7_trace 21 = .ok (.isub, 1) := by decide +kernel
theorem dX7_trace_22 : decode cX7_trace 22 = .ok (.invokestatic 39, 3) := by decide +kernel
theorem dX7_trace_25 : decode cX7_trace 25 = .ok (.ifCond .eq 12, 3) := by decide +kernel
theorem dX7_trace_28 : decode cX7_trace 28 = .ok (.aload_n 0, 1) := by decide +kernel
theorem dX7_trace_29 : decode cX7_trace 29 = .ok (.getfield 33, 3) := by decide +kernel
theorem dX7_trace_32 : decode cX7_trace 32 = .ok (.iload_n 1, 1) := by decide +kernel
theorem dX7_trace_33 : decode cX7_trace 33 = .ok (.iaload, 1) := by decide +kernel
theorem dX7_trace_34 : decode cX7_trace 34 = .ok (.goto 4, 3) := by decide +kernel
theorem dX7_trace_37 : decode cX7_trace 37 = .ok (.iconst (-1), 1) := by decide +kernel
theorem dX7_trace_38 : decode cX7_trace 38 = .ok (.ireturn, 1) := by decide +kernel
theorem dX7_as_0 : decode cX7_as 0 = .ok (.aload_n 0, 1) := by decide +kernel
theorem dX7_as_1 : decode cX7_as 1 = .ok (.iload_n 1, 1) := by decide +kernel
theorem dX7_as_2 : decode cX7_as 2 = .ok (.invokevirtual 152, 3) := by decide +kernel
theorem dX7_as_5 : decode cX7_as 5 = .ok (.ifCond .eq 13, 3) := by decide +kernel
theorem dX7_as_8 : decode cX7_as 8 = .ok (.iload_n 2, 1) := by decide +kernel
theorem dX7_as_9 : decode cX7_as 9 = .ok (.iconst 0, 1) := by decide +kernel
theorem dX7_as_10 : decode cX7_as 10 = .ok (.bipush 6, 2) := by decide +kernel
theorem dX7_as_12 : decode cX7_as 12 = .ok (.invokestatic 39, 3) := by decide +kernel
theorem dX7_as_15 : decode cX7_as 15 = .ok (.ifCond .ne 5, 3) := by decide +kernel
theorem dX7_as_18 : decode cX7_as 18 = .ok (.iconst (-1), 1) := by decide +kernel
theorem dX7_as_19 : decode cX7_as 19 = .ok (.ireturn, 1) := by decide +kernel
theorem dX7_as_20 : decode cX7_as 20 = .ok (.aload_n 0, 1) := by decide +kernel
theorem dX7_as_21 : decode cX7_as 21 = .ok (.getfield 7, 3) := by decide +kernel
theorem dX7_as_24 : decode cX7_as 24 = .ok (.sipush 130, 3) := by decide +kernel
theorem dX7_as_27 : decode cX7_as 27 = .ok (.iload_n 1, 1) := by decide +kernel
theorem dX7_as_28 : decode cX7_as 28 = .ok (.iadd, 1) := by decide +kernel
theorem dX7_as_29 : decode cX7_as 29 = .ok (.iaload, 1) := by decide +kernel
theorem dX7_as_30 : decode cX7_as 30 = .ok (.iload_n 2, 1) := by decide +kernel
theorem dX7_as_31 : decode cX7_as 31 = .ok (.invokestatic 240, 3) := by decide +kernel
theorem dX7_as_34 : decode cX7_as 34 = .ok (.ifCond .eq 16, 3) := by decide +kernel
theorem dX7_as_37 : decode cX7_as 37 = .ok (.aload_n 0, 1) := by decide +kernel
theorem dX7_as_38 : decode cX7_as 38 = .ok (.getfield 7, 3) := by decide +kernel
theorem dX7_as_41 : decode cX7_as 41 = .ok (.sipush 140, 3) := by decide +kernel
theorem dX7_as_44 : decode cX7_as 44 = .ok (.iload_n 1, 1) := by decide +kernel
theorem dX7_as_45 : decode cX7_as 45 = .ok (.iadd, 1) := by decide +kernel
theorem dX7_as_46 : decode cX7_as 46 = .ok (.iaload, 1) := by decide +kernel
theorem dX7_as_47 : decode cX7_as 47 = .ok (.goto 5, 3) := by decide +kernel
theorem dX7_as_50 : decode cX7_as 50 = .ok (.bipush (-6), 2) := by decide +kernel
theorem dX7_as_52 : decode cX7_as 52 = .ok (.ireturn, 1) := by decide +kernel
theorem dX7_image_0 : decode cX7_image 0 = .ok (.iconst 0, 1) := by decide +kernel
theorem dX7_image_1 : decode cX7_image 1 = .ok (.istore_n 1, 1) := by decide +kernel
theorem dX7_image_2 : decode cX7_image 2 = .ok (.iload_n 1, 1) := by decide +kernel
theorem dX7_image_3 : decode cX7_image 3 = .ok (.sipush 900, 3) := by decide +kernel
theorem dX7_image_6 : decode cX7_image 6 = .ok (.if_icmp .ge 21, 3) := by decide +kernel
theorem dX7_image_9 : decode cX7_image 9 = .ok (.aload_n 0, 1) := by decide +kernel
theorem dX7_image_10 : decode cX7_image 10 = .ok (.getfield 13, 3) := by decide +kernel
theorem dX7_image_13 : decode cX7_image 13 = .ok (.iload_n 1, 1) := by decide +kernel
theorem dX7_image_14 : decode cX7_image 14 = .ok (.aload_n 0, 1) := by decide +kernel
theorem dX7_image_15 : decode cX7_image 15 = .ok (.getfield 7, 3) := by decide +kernel
theorem dX7_image_18 : decode cX7_image 18 = .ok (.iload_n 1, 1) := by decide +kernel
theorem dX7_image_19 : decode cX7_image 19 = .ok (.iaload, 1) := by decide +kernel
theorem dX7_image_20 : decode cX7_image 20 = .ok (.iastore, 1) := by decide +kernel
theorem dX7_image_21 : decode cX7_image 21 = .ok (.iinc 1 1, 3) := by decide +kernel
theorem dX7_image_24 : decode cX7_image 24 = .ok (.goto (-22), 3) := by decide +kernel
theorem dX7_image_27 : decode cX7_image 27 = .ok (.aload_n 0, 1) := by decide +kernel
theorem dX7_image_28 : decode cX7_image 28 = .ok (.iconst 1, 1) := by decide +kernel
theorem dX7_image_29 : decode cX7_image 29 = .ok (.putfield 265, 3) := by decide +kernel
theorem dX7_image_32 : decode cX7_image 32 = .ok (.aload_n 0, 1) := by decide +kernel
theorem dX7_image_33 : decode cX7_image 33 = .ok (.getfield 7, 3) := by decide +kernel
theorem dX7_image_36 : decode cX7_image 36 = .ok (.iconst 0, 1) := by decide +kernel
theorem dX7_image_37 : decode cX7_image 37 = .ok (.iaload, 1) := by decide +kernel
theorem dX7_image_38 : decode cX7_image 38 = .ok (.ireturn, 1) := by decide +kernel
theorem dX7_undo_0 : decode cX7_undo 0 = .ok (.aload_n 0, 1) := by decide +kernel
theorem dX7_undo_1 : decode cX7_undo 1 = .ok (.getfield 265, 3) := by decide +kernel
theorem dX7_undo_4 : decode cX7_undo 4 = .ok (.ifCond .ne 6, 3) := by decide +kernel
theorem dX7_undo_7 : decode cX7_undo 7 = .ok (.bipush (-3), 2) := by decide +kernel
theorem dX7_undo_9 : decode cX7_undo 9 = .ok (.ireturn, 1) := by decide +kernel
theorem dX7_undo_10 : decode cX7_undo 10 = .ok (.iconst 0, 1) := by decide +kernel
theorem dX7_undo_11 : decode cX7_undo 11 = .ok (.istore_n 1, 1) := by decide +kernel
theorem dX7_undo_12 : decode cX7_undo 12 = .ok (.iload_n 1, 1) := by decide +kernel
theorem dX7_undo_13 : decode cX7_undo 13 = .ok (.sipush 900, 3) := by decide +kernel
theorem dX7_undo_16 : decode cX7_undo 16 = .ok (.if_icmp .ge 21, 3) := by decide +kernel
theorem dX7_undo_19 : decode cX7_undo 19 = .ok (.aload_n 0, 1) := by decide +kernel
theorem dX7_undo_20 : decode cX7_undo 20 = .ok (.getfield 7, 3) := by decide +kernel
theorem dX7_undo_23 : decode cX7_undo 23 = .ok (.iload_n 1, 1) := by decide +kernel
theorem dX7_undo_24 : decode cX7_undo 24 = .ok (.aload_n 0, 1) := by decide +kernel
theorem dX7_undo_25 : decode cX7_undo 25 = .ok (.getfield 13, 3) := by decide +kernel
theorem dX7_undo_28 : decode cX7_undo 28 = .ok (.iload_n 1, 1) := by decide +kernel
theorem dX7_undo_29 : decode cX7_undo 29 = .ok (.iaload, 1) := by decide +kernel
theorem dX7_undo_30 : decode cX7_undo 30 = .ok (.iastore, 1) := by decide +kernel
theorem dX7_undo_31 : decode cX7_undo 31 = .ok (.iinc 1 1, 3) := by decide +kernel
theorem dX7_undo_34 : decode cX7_undo 34 = .ok (.goto (-22), 3) := by decide +kernel
theorem dX7_undo_37 : decode cX7_undo 37 = .ok (.aload_n 0, 1) := by decide +kernel
theorem dX7_undo_38 : decode cX7_undo 38 = .ok (.getfield 7, 3) := by decide +kernel
theorem dX7_undo_41 : decode cX7_undo 41 = .ok (.iconst 0, 1) := by decide +kernel
theorem dX7_undo_42 : decode cX7_undo 42 = .ok (.iaload, 1) := by decide +kernel
theorem dX7_undo_43 : decode cX7_undo 43 = .ok (.ireturn, 1) := by decide +kernel
theorem dX7_count_0 : decode cX7_count 0 = .ok (.iload_n 1, 1) := by decide +kernel
theorem dX7_count_1 : decode cX7_count 1 = .ok (.tableswitch 90 0 6 #[43, 50, 57, 64, 71, 78, 83], 43) := by decide +kernel
theorem dX7_count_44 : decode cX7_count 44 = .ok (.aload_n 0, 1) := by decide +kernel
theorem dX7_count_45 : decode cX7_count 45 = .ok (.getfield 7, 3) := by decide +kernel
theorem dX7_count_48 : decode cX7_count 48 = .ok (.iconst 0, 1) := by decide +kernel
theorem dX7_count_49 : decode cX7_count 49 = .ok (.iaload, 1) := by decide +kernel
theorem dX7_count_50 : decode cX7_count 50 = .ok (.ireturn, 1) := by decide +kernel
theorem dX7_count_51 : decode cX7_count 51 = .ok (.aload_n 0, 1) := by decide +kernel
theorem dX7_count_52 : decode cX7_count 52 = .ok (.getfield 7, 3) := by decide +kernel
theorem dX7_count_55 : decode cX7_count 55 = .ok (.iconst 1, 1) := by decide +kernel
theorem dX7_count_56 : decode cX7_count 56 = .ok (.iaload, 1) := by decide +kernel
theorem dX7_count_57 : decode cX7_count 57 = .ok (.ireturn, 1) := by decide +kernel
theorem dX7_count_58 : decode cX7_count 58 = .ok (.aload_n 0, 1) := by decide +kernel
theorem dX7_count_59 : decode cX7_count 59 = .ok (.getfield 7, 3) := by decide +kernel
theorem dX7_count_62 : decode cX7_count 62 = .ok (.iconst 2, 1) := by decide +kernel
theorem dX7_count_63 : decode cX7_count 63 = .ok (.iaload, 1) := by decide +kernel
theorem dX7_count_64 : decode cX7_count 64 = .ok (.ireturn, 1) := by decide +kernel
theorem dX7_count_65 : decode cX7_count 65 = .ok (.aload_n 0, 1) := by decide +kernel
theorem dX7_count_66 : decode cX7_count 66 = .ok (.getfield 7, 3) := by decide +kernel
theorem dX7_count_69 : decode cX7_count 69 = .ok (.iconst 3, 1) := by decide +kernel
theorem dX7_count_70 : decode cX7_count 70 = .ok (.iaload, 1) := by decide +kernel
theorem dX7_count_71 : decode cX7_count 71 = .ok (.ireturn, 1) := by decide +kernel
theorem dX7_count_72 : decode cX7_count 72 = .ok (.aload_n 0, 1) := by decide +kernel
theorem dX7_count_73 : decode cX7_count 73 = .ok (.getfield 7, 3) := by decide +kernel
theorem dX7_count_76 : decode cX7_count 76 = .ok (.iconst 4, 1) := by decide +kernel
theorem dX7_count_77 : decode cX7_count 77 = .ok (.iaload, 1) := by decide +kernel
theorem dX7_count_78 : decode cX7_count 78 = .ok (.ireturn, 1) := by decide +kernel
theorem dX7_count_79 : decode cX7_count 79 = .ok (.aload_n 0, 1) := by decide +kernel
theorem dX7_count_80 : decode cX7_count 80 = .ok (.getfield 228, 3) := by decide +kernel
theorem dX7_count_83 : decode cX7_count 83 = .ok (.ireturn, 1) := by decide +kernel
theorem dX7_count_84 : decode cX7_count 84 = .ok (.aload_n 0, 1) := by decide +kernel
theorem dX7_count_85 : decode cX7_count 85 = .ok (.getfield 7, 3) := by decide +kernel
theorem dX7_count_88 : decode cX7_count 88 = .ok (.iconst 5, 1) := by decide +kernel
theorem dX7_count_89 : decode cX7_count 89 = .ok (.iaload, 1) := by decide +kernel
theorem dX7_count_90 : decode cX7_count 90 = .ok (.ireturn, 1) := by decide +kernel
theorem dX7_count_91 : decode cX7_count 91 = .ok (.iconst (-1), 1) := by decide +kernel
theorem dX7_count_92 : decode cX7_count 92 = .ok (.ireturn, 1) := by decide +kernel
