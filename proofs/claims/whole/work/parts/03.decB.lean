theorem dX6_init_0 : decode cX6_init 0 = .ok (.aload_n 0, 1) := by decide +kernel
theorem dX6_init_1 : decode cX6_init 1 = .ok (.invokespecial 3, 3) := by decide +kernel
theorem dX6_init_4 : decode cX6_init 4 = .ok (.aload_n 0, 1) := by decide +kernel
theorem dX6_init_5 : decode cX6_init 5 = .ok (.new 9, 3) := by decide +kernel
theorem dX6_init_8 : decode cX6_init 8 = .ok (.dup, 1) := by decide +kernel
theorem dX6_init_9 : decode cX6_init 9 = .ok (.invokespecial 11, 3) := by decide +kernel
theorem dX6_init_12 : decode cX6_init 12 = .ok (.putfield 12, 3) := by decide +kernel
theorem dX6_init_15 : decode cX6_init 15 = .ok (.aload_n 0, 1) := by decide +kernel
theorem dX6_init_16 : decode cX6_init 16 = .ok (.new 9, 3) := by decide +kernel
theorem dX6_init_19 : decode cX6_init 19 = .ok (.dup, 1) := by decide +kernel
theorem dX6_init_20 : decode cX6_init 20 = .ok (.invokespecial 11, 3) := by decide +kernel
theorem dX6_init_23 : decode cX6_init 23 = .ok (.putfield 16, 3) := by decide +kernel
theorem dX6_init_26 : decode cX6_init 26 = .ok (.aload_n 0, 1) := by decide +kernel
theorem dX6_init_27 : decode cX6_init 27 = .ok (.iconst 0, 1) := by decide +kernel
theorem dX6_init_28 : decode cX6_init 28 = .ok (.putfield 19, 3) := by decide +kernel
theorem dX6_init_31 : decode cX6_init 31 = .ok (.aload_n 0, 1) := by decide +kernel
theorem dX6_init_32 : decode cX6_init 32 = .ok (.bipush 6, 2) := by decide +kernel
theorem dX6_init_34 : decode cX6_init 34 = .ok (.anewarray 23, 3) := by decide +kernel
theorem dX6_init_37 : decode cX6_init 37 = .ok (.putfield 25, 3) := by decide +kernel
theorem dX6_init_40 : decode cX6_init 40 = .ok (.aload_n 0, 1) := by decide +kernel
theorem dX6_init_41 : decode cX6_init 41 = .ok (.new 29, 3) := by decide +kernel
theorem dX6_init_44 : decode cX6_init 44 = .ok (.dup, 1) := by decide +kernel
theorem dX6_init_45 : decode cX6_init 45 = .ok (.aload_n 0, 1) := by decide +kernel
theorem dX6_init_46 : decode cX6_init 46 = .ok (.getfield 12, 3) := by decide +kernel
theorem dX6_init_49 : decode cX6_init 49 = .ok (.invokespecial 31, 3) := by decide +kernel
theorem dX6_init_52 : decode cX6_init 52 = .ok (.putfield 34, 3) := by decide +kernel
theorem dX6_init_55 : decode cX6_init 55 = .ok (.aload_n 0, 1) := by decide +kernel
theorem dX6_init_56 : decode cX6_init 56 = .ok (.new 38, 3) := by decide +kernel
theorem dX6_init_59 : decode cX6_init 59 = .ok (.dup, 1) := by decide +kernel
theorem dX6_init_60 : decode cX6_init 60 = .ok (.invokespecial 40, 3) := by decide +kernel
theorem dX6_init_63 : decode cX6_init 63 = .ok (.putfield 41, 3) := by decide +kernel
theorem dX6_init_66 : decode cX6_init 66 = .ok (.iconst 0, 1) := by decide +kernel
theorem dX6_init_67 : decode cX6_init 67 = .ok (.istore_n 1, 1) := by decide +kernel
theorem dX6_init_68 : decode cX6_init 68 = .ok (.iload_n 1, 1) := by decide +kernel
theorem dX6_init_69 : decode cX6_init 69 = .ok (.aload_n 0, 1) := by decide +kernel
theorem dX6_init_70 : decode cX6_init 70 = .ok (.getfield 25, 3) := by decide +kernel
theorem dX6_init_73 : decode cX6_init 73 = .ok (.arraylength, 1) := by decide +kernel
theorem dX6_init_74 : decode cX6_init 74 = .ok (.if_icmp .ge 22, 3) := by decide +kernel
theorem dX6_init_77 : decode cX6_init 77 = .ok (.aload_n 0, 1) := by decide +kernel
theorem dX6_init_78 : decode cX6_init 78 = .ok (.getfield 25, 3) := by decide +kernel
theorem dX6_init_81 : decode cX6_init 81 = .ok (.iload_n 1, 1) := by decide +kernel
theorem dX6_init_82 : decode cX6_init 82 = .ok (.new 23, 3) := by decide +kernel
theorem dX6_init_85 : decode cX6_init 85 = .ok (.dup, 1) := by decide +kernel
theorem dX6_init_86 : decode cX6_init 86 = .ok (.invokespecial 45, 3) := by decide +kernel
theorem dX6_init_89 : decode cX6_init 89 = .ok (.aastore, 1) := by decide +kernel
theorem dX6_init_90 : decode cX6_init 90 = .ok (.iinc 1 1, 3) := by decide +kernel
theorem dX6_init_93 : decode cX6_init 93 = .ok (.goto (-25), 3) := by decide +kernel
theorem dX6_init_96 : decode cX6_init 96 = .ok (.aload_n 0, 1) := by decide +kernel
theorem dX6_init_97 : decode cX6_init 97 = .ok (.new 46, 3) := by decide +kernel
theorem dX6_init_100 : decode cX6_init 100 = .ok (.dup, 1) := by decide +kernel
theorem dX6_init_101 : decode cX6_init 101 = .ok (.aload_n 0, 1) := by decide +kernel
theorem dX6_init_102 : decode cX6_init 102 = .ok (.getfield 12, 3) := by decide +kernel
theorem dX6_init_105 : decode cX6_init 105 = .ok (.aload_n 0, 1) := by decide +kernel
theorem dX6_init_106 : decode cX6_init 106 = .ok (.getfield 25, 3) := by decide +kernel
theorem dX6_init_109 : decode cX6_init 109 = .ok (.iconst 0, 1) := by decide +kernel
theorem dX6_init_110 : decode cX6_init 110 = .ok (.aaload, 1) := by decide +kernel
theorem dX6_init_111 : decode cX6_init 111 = .ok (.invokespecial 48, 3) := by decide +kernel
theorem dX6_init_114 : decode cX6_init 114 = .ok (.putfield 51, 3) := by decide +kernel
theorem dX6_init_117 : decode cX6_init 117 = .ok (.aload_n 0, 1) := by decide +kernel
theorem dX6_init_118 : decode cX6_init 118 = .ok (.new 55, 3) := by decide +kernel
theorem dX6_init_121 : decode cX6_init 121 = .ok (.dup, 1) := by decide +kernel
theorem dX6_init_122 : decode cX6_init 122 = .ok (.aload_n 0, 1) := by decide +kernel
theorem dX6_init_123 : decode cX6_init 123 = .ok (.getfield 12, 3) := by decide +kernel
theorem dX6_init_126 : decode cX6_init 126 = .ok (.aload_n 0, 1) := by decide +kernel
theorem dX6_init_127 : decode cX6_init 127 = .ok (.getfield 25, 3) := by decide +kernel
theorem dX6_init_130 : decode cX6_init 130 = .ok (.iconst 0, 1) := by decide +kernel
theorem dX6_init_131 : decode cX6_init 131 = .ok (.aaload, 1) := by decide +kernel
theorem dX6_init_132 : decode cX6_init 132 = .ok (.invokespecial 57, 3) := by decide +kernel
theorem dX6_init_135 : decode cX6_init 135 = .ok (.putfield 58, 3) := by decide +kernel
theorem dX6_init_138 : decode cX6_init 138 = .ok (.return_, 1) := by decide +kernel
theorem dX6_feed_0 : decode cX6_feed 0 = .ok (.iload_n 3, 1) := by decide +kernel
theorem dX6_feed_1 : decode cX6_feed 1 = .ok (.iconst 1, 1) := by decide +kernel
theorem dX6_feed_2 : decode cX6_feed 2 = .ok (.if_icmp .lt 9, 3) := by decide +kernel
theorem dX6_feed_5 : decode cX6_feed 5 = .ok (.iload_n 3, 1) := by decide +kernel
theorem dX6_feed_6 : decode cX6_feed 6 = .ok (.bipush 8, 2) := by decide +kernel
theorem dX6_feed_8 : decode cX6_feed 8 = .ok (.if_icmp .le 6, 3) := by decide +kernel
theorem dX6_feed_11 : decode cX6_feed 11 = .ok (.bipush (-2), 2) := by decide +kernel
theorem dX6_feed_13 : decode cX6_feed 13 = .ok (.ireturn, 1) := by decide +kernel
theorem dX6_feed_14 : decode cX6_feed 14 = .ok (.aload_n 0, 1) := by decide +kernel
theorem dX6_feed_15 : decode cX6_feed 15 = .ok (.getfield 12, 3) := by decide +kernel
theorem dX6_feed_18 : decode cX6_feed 18 = .ok (.getfield 62, 3) := by decide +kernel
theorem dX6_feed_21 : decode cX6_feed 21 = .ok (.iload_n 3, 1) := by decide +kernel
theorem dX6_feed_22 : decode cX6_feed 22 = .ok (.iadd, 1) := by decide +kernel
theorem dX6_feed_23 : decode cX6_feed 23 = .ok (.bipush 120, 2) := by decide +kernel
theorem dX6_feed_25 : decode cX6_feed 25 = .ok (.if_icmp .le 6, 3) := by decide +kernel
theorem dX6_feed_28 : decode cX6_feed 28 = .ok (.bipush (-4), 2) := by decide +kernel
theorem dX6_feed_30 : decode cX6_feed 30 = .ok (.ireturn, 1) := by decide +kernel
theorem dX6_feed_31 : decode cX6_feed 31 = .ok (.iload_n 3, 1) := by decide +kernel
theorem dX6_feed_32 : decode cX6_feed 32 = .ok (.iconst 1, 1) := by decide +kernel
theorem dX6_feed_33 : decode cX6_feed 33 = .ok (.isub, 1) := by decide +kernel
theorem dX6_feed_34 : decode cX6_feed 34 = .ok (.istore 4, 2) := by decide +kernel
theorem dX6_feed_36 : decode cX6_feed 36 = .ok (.iload 4, 2) := by decide +kernel
theorem dX6_feed_38 : decode cX6_feed 38 = .ok (.ifCond .lt 46, 3) := by decide +kernel
theorem dX6_feed_41 : decode cX6_feed 41 = .ok (.aload_n 0, 1) := by decide +kernel
theorem dX6_feed_42 : decode cX6_feed 42 = .ok (.getfield 12, 3) := by decide +kernel
theorem dX6_feed_45 : decode cX6_feed 45 = .ok (.getfield 66, 3) := by decide +kernel
theorem dX6_feed_48 : decode cX6_feed 48 = .ok (.aload_n 0, 1) := by decide +kernel
theorem dX6_feed_49 : decode cX6_feed 49 = .ok (.getfield 12, 3) := by decide +kernel
theorem dX6_feed_52 : decode cX6_feed 52 = .ok (.getfield 62, 3) := by decide +kernel
theorem dX6_feed_55 : decode cX6_feed 55 = .ok (.lload_n 1, 1) := by decide +kernel
theorem dX6_feed_56 : decode cX6_feed 56 = .ok (.bipush 8, 2) := by decide +kernel
theorem dX6_feed_58 : decode cX6_feed 58 = .ok (.iload 4, 2) := by decide +kernel
theorem dX6_feed_60 : decode cX6_feed 60 = .ok (.imul, 1) := by decide +kernel
theorem dX6_feed_61 : decode cX6_feed 61 = .ok (.lushr, 1) := by decide +kernel
theorem dX6_feed_62 : decode cX6_feed 62 = .ok (.l2i, 1) := by decide +kernel
theorem dX6_feed_63 : decode cX6_feed 63 = .ok (.i2b, 1) := by decide +kernel
theorem dX6_feed_64 : decode cX6_feed 64 = .ok (.bastore, 1) := by decide +kernel
theorem dX6_feed_65 : decode cX6_feed 65 = .ok (.aload_n 0, 1) := by decide +kernel
theorem dX6_feed_66 : decode cX6_feed 66 = .ok (.getfield 12, 3) := by decide +kernel
theorem dX6_feed_69 : decode cX6_feed 69 = .ok (.dup, 1) := by decide +kernel
theorem dX6_feed_70 : decode cX6_feed 70 = .ok (.getfield 62, 3) := by decide +kernel
theorem dX6_feed_73 : decode cX6_feed 73 = .ok (.iconst 1, 1) := by decide +kernel
theorem dX6_feed_74 : decode cX6_feed 74 = .ok (.iadd, 1) := by decide +kernel
theorem dX6_feed_75 : decode cX6_feed 75 = .ok (.putfield 62, 3) := by decide +kernel
theorem dX6_feed_78 : decode cX6_feed 78 = .ok (.iinc 4 (-1), 3) := by decide +kernel
theorem dX6_feed_81 : decode cX6_feed 81 = .ok (.goto (-45), 3) := by decide +kernel
theorem dX6_feed_84 : decode cX6_feed 84 = .ok (.aload_n 0, 1) := by decide +kernel
theorem dX6_feed_85 : decode cX6_feed 85 = .ok (.getfield 12, 3) := by decide +kernel
theorem dX6_feed_88 : decode cX6_feed 88 = .ok (.getfield 62, 3) := by decide +kernel
theorem dX6_feed_91 : decode cX6_feed 91 = .ok (.ireturn, 1) := by decide +kernel
theorem dX6_show_0 : decode cX6_show 0 = .ok (.aload_n 0, 1) := by decide +kernel
theorem dX6_show_1 : decode cX6_show 1 = .ok (.getfield 12, 3) := by decide +kernel
theorem dX6_show_4 : decode cX6_show 4 = .ok (.getfield 70, 3) := by decide +kernel
theorem dX6_show_7 : decode cX6_show 7 = .ok (.iconst 5, 1) := by decide +kernel
theorem dX6_show_8 : decode cX6_show 8 = .ok (.if_icmp .lt 6, 3) := by decide +kernel
theorem dX6_show_11 : decode cX6_show 11 = .ok (.bipush (-4), 2) := by decide +kernel
theorem dX6_show_13 : decode cX6_show 13 = .ok (.ireturn, 1) := by decide +kernel
theorem dX6_show_14 : decode cX6_show 14 = .ok (.aload_n 0, 1) := by decide +kernel
theorem dX6_show_15 : decode cX6_show 15 = .ok (.getfield 51, 3) := by decide +kernel
theorem dX6_show_18 : decode cX6_show 18 = .ok (.aload_n 0, 1) := by decide +kernel
theorem dX6_show_19 : decode cX6_show 19 = .ok (.getfield 25, 3) := by decide +kernel
theorem dX6_show_22 : decode cX6_show 22 = .ok (.aload_n 0, 1) := by decide +kernel
theorem dX6_show_23 : decode cX6_show 23 = .ok (.getfield 12, 3) := by decide +kernel
theorem dX6_show_26 : decode cX6_show 26 = .ok (.getfield 70, 3) := by decide +kernel
theorem dX6_show_29 : decode cX6_show 29 = .ok (.iconst 1, 1) := by decide +kernel
theorem dX6_show_30 : decode cX6_show 30 = .ok (.iadd, 1) := by decide +kernel
theorem dX6_show_31 : decode cX6_show 31 = .ok (.aaload, 1) := by decide +kernel
theorem dX6_show_32 : decode cX6_show 32 = .ok (.invokevirtual 72, 3) := by decide +kernel
theorem dX6_show_35 : decode cX6_show 35 = .ok (.istore_n 1, 1) := by decide +kernel
theorem dX6_show_36 : decode cX6_show 36 = .ok (.aload_n 0, 1) := by decide +kernel
theorem dX6_show_37 : decode cX6_show 37 = .ok (.getfield 12, 3) := by decide +kernel
theorem dX6_show_40 : decode cX6_show 40 = .ok (.iconst 0, 1) := by decide +kernel
theorem dX6_show_41 : decode cX6_show 41 = .ok (.putfield 62, 3) := by decide +kernel
theorem dX6_show_44 : decode cX6_show 44 = .ok (.iload_n 1, 1) := by decide +kernel
theorem dX6_show_45 : decode cX6_show 45 = .ok (.iconst (-1), 1) := by decide +kernel
theorem dX6_show_46 : decode cX6_show 46 = .ok (.if_icmp .eq 8, 3) := by decide +kernel
theorem dX6_show_49 : decode cX6_show 49 = .ok (.bipush (-10), 2) := by decide +kernel
theorem dX6_show_51 : decode cX6_show 51 = .ok (.iload_n 1, 1) := by decide +kernel
theorem dX6_show_52 : decode cX6_show 52 = .ok (.isub, 1) := by decide +kernel
theorem dX6_show_53 : decode cX6_show 53 = .ok (.ireturn, 1) := by decide +kernel
theorem dX6_show_54 : decode cX6_show 54 = .ok (.aload_n 0, 1) := by decide +kernel
theorem dX6_show_55 : decode cX6_show 55 = .ok (.getfield 12, 3) := by decide +kernel
theorem dX6_show_58 : decode cX6_show 58 = .ok (.dup, 1) := by decide +kernel
theorem dX6_show_59 : decode cX6_show 59 = .ok (.getfield 70, 3) := by decide +kernel
theorem dX6_show_62 : decode cX6_show 62 = .ok (.iconst 1, 1) := by decide +kernel
theorem dX6_show_63 : decode cX6_show 63 = .ok (.iadd, 1) := by decide +kernel
theorem dX6_show_64 : decode cX6_show 64 = .ok (.putfield 70, 3) := by decide +kernel
theorem dX6_show_67 : decode cX6_show 67 = .ok (.aload_n 0, 1) := by decide +kernel
theorem dX6_show_68 : decode cX6_show 68 = .ok (.getfield 12, 3) := by decide +kernel
theorem dX6_show_71 : decode cX6_show 71 = .ok (.getfield 70, 3) := by decide +kernel
theorem dX6_show_74 : decode cX6_show 74 = .ok (.iconst 1, 1) := by decide +kernel
theorem dX6_show_75 : decode cX6_show 75 = .ok (.isub, 1) := by decide +kernel
theorem dX6_show_76 : decode cX6_show 76 = .ok (.ireturn, 1) := by decide +kernel
theorem dX6_told_0 : decode cX6_told 0 = .ok (.iload_n 1, 1) := by decide +kernel
theorem dX6_told_1 : decode cX6_told 1 = .ok (.tableswitch 51 0 2 #[27, 35, 43], 27) := by decide +kernel
theorem dX6_told_28 : decode cX6_told 28 = .ok (.aload_n 0, 1) := by decide +kernel
theorem dX6_told_29 : decode cX6_told 29 = .ok (.invokevirtual 76, 3) := by decide +kernel
theorem dX6_told_32 : decode cX6_told 32 = .ok (.getfield 80, 3) := by decide +kernel
theorem dX6_told_35 : decode cX6_told 35 = .ok (.ireturn, 1) := by decide +kernel
theorem dX6_told_36 : decode cX6_told 36 = .ok (.aload_n 0, 1) := by decide +kernel
theorem dX6_told_37 : decode cX6_told 37 = .ok (.invokevirtual 76, 3) := by decide +kernel
theorem dX6_told_40 : decode cX6_told 40 = .ok (.getfield 83, 3) := by decide +kernel
theorem dX6_told_43 : decode cX6_told 43 = .ok (.ireturn, 1) := by decide +kernel
theorem dX6_told_44 : decode cX6_told 44 = .ok (.aload_n 0, 1) := by decide +kernel
theorem dX6_told_45 : decode cX6_told 45 = .ok (.invokevirtual 76, 3) := by decide +kernel
theorem dX6_told_48 : decode cX6_told 48 = .ok (.getfield 86, 3) := by decide +kernel
theorem dX6_told_51 : decode cX6_told 51 = .ok (.ireturn, 1) := by decide +kernel
theorem dX6_told_52 : decode cX6_told 52 = .ok (.iconst (-1), 1) := by decide +kernel
theorem dX6_told_53 : decode cX6_told 53 = .ok (.ireturn, 1) := by decide +kernel
theorem dX6_player_0 : decode cX6_player 0 = .ok (.iload_n 1, 1) := by decide +kernel
theorem dX6_player_1 : decode cX6_player 1 = .ok (.bipush 7, 2) := by decide +kernel
theorem dX6_player_3 : decode cX6_player 3 = .ok (.invokestatic 89, 3) := by decide +kernel
theorem dX6_player_6 : decode cX6_player 6 = .ok (.ifCond .eq 12, 3) := by decide +kernel
theorem dX6_player_9 : decode cX6_player 9 = .ok (.iload_n 3, 1) := by decide +kernel
theorem dX6_player_10 : decode cX6_player 10 = .ok (.bipush 64, 2) := by decide +kernel
theorem dX6_player_12 : decode cX6_player 12 = .ok (.invokestatic 89, 3) := by decide +kernel
theorem dX6_player_15 : decode cX6_player 15 = .ok (.ifCond .ne 5, 3) := by decide +kernel
theorem dX6_player_18 : decode cX6_player 18 = .ok (.iconst (-1), 1) := by decide +kernel
theorem dX6_player_19 : decode cX6_player 19 = .ok (.ireturn, 1) := by decide +kernel
theorem dX6_player_20 : decode cX6_player 20 = .ok (.iload_n 2, 1) := by decide +kernel
theorem dX6_player_21 : decode cX6_player 21 = .ok (.bipush 10, 2) := by decide +kernel
theorem dX6_player_23 : decode cX6_player 23 = .ok (.invokestatic 89, 3) := by decide +kernel
theorem dX6_player_26 : decode cX6_player 26 = .ok (.ifCond .ne 6, 3) := by decide +kernel
theorem dX6_player_29 : decode cX6_player 29 = .ok (.bipush (-2), 2) := by decide +kernel
theorem dX6_player_31 : decode cX6_player 31 = .ok (.ireturn, 1) := by decide +kernel
theorem dX6_player_32 : decode cX6_player 32 = .ok (.aload_n 0, 1) := by decide +kernel
theorem dX6_player_33 : decode cX6_player 33 = .ok (.getfield 12, 3) := by decide +kernel
theorem dX6_player_36 : decode cX6_player 36 = .ok (.iload_n 3, 1) := by decide +kernel
theorem dX6_player_37 : decode cX6_player 37 = .ok (.invokevirtual 93, 3) := by decide +kernel
theorem dX6_player_40 : decode cX6_player 40 = .ok (.iconst (-1), 1) := by decide +kernel
theorem dX6_player_41 : decode cX6_player 41 = .ok (.if_icmp .eq 6, 3) := by decide +kernel
theorem dX6_player_44 : decode cX6_player 44 = .ok (.bipush (-3), 2) := by decide +kernel
theorem dX6_player_46 : decode cX6_player 46 = .ok (.ireturn, 1) := by decide +kernel
theorem dX6_player_47 : decode cX6_player 47 = .ok (.aload_n 0, 1) := by decide +kernel
theorem dX6_player_48 : decode cX6_player 48 = .ok (.getfield 12, 3) := by decide +kernel
theorem dX6_player_51 : decode cX6_player 51 = .ok (.getfield 97, 3) := by decide +kernel
theorem dX6_player_54 : decode cX6_player 54 = .ok (.bipush 10, 2) := by decide +kernel
theorem dX6_player_56 : decode cX6_player 56 = .ok (.if_icmp .lt 6, 3) := by decide +kernel
theorem dX6_player_59 : decode cX6_player 59 = .ok (.bipush (-4), 2) := by decide +kernel
theorem dX6_player_61 : decode cX6_player 61 = .ok (.ireturn, 1) := by decide +kernel
theorem dX6_player_62 : decode cX6_player 62 = .ok (.aload_n 0, 1) := by decide +kernel
theorem dX6_player_63 : decode cX6_player 63 = .ok (.getfield 12, 3) := by decide +kernel
theorem dX6_player_66 : decode cX6_player 66 = .ok (.getfield 100, 3) := by decide +kernel
theorem dX6_player_69 : decode cX6_player 69 = .ok (.aload_n 0, 1) := by decide +kernel
theorem dX6_player_70 : decode cX6_player 70 = .ok (.getfield 12, 3) := by decide +kernel
theorem dX6_player_73 : decode cX6_player 73 = .ok (.getfield 97, 3) := by decide +kernel
theorem dX6_player_76 : decode cX6_player 76 = .ok (.iload_n 1, 1) := by decide +kernel
theorem dX6_player_77 : decode cX6_player 77 = .ok (.iastore, 1) := by decide +kernel
theorem dX6_player_78 : decode cX6_player 78 = .ok (.aload_n 0, 1) := by decide +kernel
theorem dX6_player_79 : decode cX6_player 79 = .ok (.getfield 12, 3) := by decide +kernel
theorem dX6_player_82 : decode cX6_player 82 = .ok (.getfield 104, 3) := by decide +kernel
theorem dX6_player_85 : decode cX6_player 85 = .ok (.aload_n 0, 1) := by decide +kernel
theorem dX6_player_86 : decode cX6_player 86 = .ok (.getfield 12, 3) := by decide +kernel
theorem dX6_player_89 : decode cX6_player 89 = .ok (.getfield 97, 3) := by decide +kernel
theorem dX6_player_92 : decode cX6_player 92 = .ok (.iload_n 2, 1) := by decide +kernel
theorem dX6_player_93 : decode cX6_player 93 = .ok (.iastore, 1) := by decide +kernel
theorem dX6_player_94 : decode cX6_player 94 = .ok (.aload_n 0, 1) := by decide +kernel
theorem dX6_player_95 : decode cX6_player 95 = .ok (.getfield 12, 3) := by decide +kernel
theorem dX6_player_98 : decode cX6_player 98 = .ok (.getfield 107, 3) := by decide +kernel
theorem dX6_player_101 : decode cX6_player 101 = .ok (.aload_n 0, 1) := by decide +kernel
theorem dX6_player_102 : decode cX6_player 102 = .ok (.getfield 12, 3) := by decide +kernel
theorem dX6_player_105 : decode cX6_player 105 = .ok (.getfield 97, 3) := by decide +kernel
theorem dX6_player_108 : decode cX6_player 108 = .ok (.iload_n 3, 1) := by decide +kernel
theorem dX6_player_109 : decode cX6_player 109 = .ok (.iastore, 1) := by decide +kernel
theorem dX6_player_110 : decode cX6_player 110 = .ok (.aload_n 0, 1) := by decide +kernel
theorem dX6_player_111 : decode cX6_player 111 = .ok (.getfield 12, 3) := by decide +kernel
theorem dX6_player_114 : decode cX6_player 114 = .ok (.dup, 1) := by decide +kernel
theorem dX6_player_115 : decode cX6_player 115 = .ok (.getfield 97, 3) := by decide +kernel
theorem dX6_player_118 : decode cX6_player 118 = .ok (.iconst 1, 1) := by decide +kernel
theorem dX6_player_119 : decode cX6_player 119 = .ok (.iadd, 1) := by decide +kernel
theorem dX6_player_120 : decode cX6_player 120 = .ok (.putfield 97, 3) := by decide +kernel
theorem dX6_player_123 : decode cX6_player 123 = .ok (.aload_n 0, 1) := by decide +kernel
theorem dX6_player_124 : decode cX6_player 124 = .ok (.getfield 12, 3) := by decide +kernel
theorem dX6_player_127 : decode cX6_player 127 = .ok (.getfield 97, 3) := by decide +kernel
theorem dX6_player_130 : decode cX6_player 130 = .ok (.iconst 1, 1) := by decide +kernel
theorem dX6_player_131 : decode cX6_player 131 = .ok (.isub, 1) := by decide +kernel
theorem dX6_player_132 : decode cX6_player 132 = .ok (.ireturn, 1) := by decide +kernel
theorem dX6_of_0 : decode cX6_of 0 = .ok (.aload_n 0, 1) := by decide +kernel
theorem dX6_of_1 : decode cX6_of 1 = .ok (.iload_n 1, 1) := by decide +kernel
theorem dX6_of_2 : decode cX6_of 2 = .ok (.invokevirtual 110, 3) := by decide +kernel
theorem dX6_of_5 : decode cX6_of 5 = .ok (.ifCond .ne 7, 3) := by decide +kernel
theorem dX6_of_8 : decode cX6_of 8 = .ok (.sipush (-1001), 3) := by decide +kernel
theorem dX6_of_11 : decode cX6_of 11 = .ok (.ireturn, 1) := by decide +kernel
theorem dX6_of_12 : decode cX6_of 12 = .ok (.iload_n 2, 1) := by decide +kernel
theorem dX6_of_13 : decode cX6_of 13 = .ok (.tableswitch 98 0 5 #[39, 49, 59, 69, 78, 88], 39) := by decide +kernel
theorem dX6_of_52 : decode cX6_of 52 = .ok (.aload_n 0, 1) := by decide +kernel
theorem dX6_of_53 : decode cX6_of 53 = .ok (.getfield 12, 3) := by decide +kernel
theorem dX6_of_56 : decode cX6_of 56 = .ok (.getfield 100, 3) := by decide +kernel
theorem dX6_of_59 : decode cX6_of 59 = .ok (.iload_n 1, 1) := by decide +kernel
theorem dX6_of_60 : decode cX6_of 60 = .ok (.iaload, 1) := by decide +kernel
theorem dX6_of_61 : decode cX6_of 61 = .ok (.ireturn, 1) := by decide +kernel
theorem dX6_of_62 : decode cX6_of 62 = .ok (.aload_n 0, 1) := by decide +kernel
theorem dX6_of_63 : decode cX6_of 63 = .ok (.getfield 12, 3) := by decide +kernel
theorem dX6_of_66 : decode cX6_of 66 = .ok (.getfield 104, 3) := by decide +kernel
theorem dX6_of_69 : decode cX6_of 69 = .ok (.iload_n 1, 1) := by decide +kernel
theorem dX6_of_70 : decode cX6_of 70 = .ok (.iaload, 1) := by decide +kernel
theorem dX6_of_71 : decode cX6_of 71 = .ok (.ireturn, 1) := by decide +kernel
theorem dX6_of_72 : decode cX6_of 72 = .ok (.aload_n 0, 1) := by decide +kernel
theorem dX6_of_73 : decode cX6_of 73 = .ok (.getfield 12, 3) := by decide +kernel
theorem dX6_of_76 : decode cX6_of 76 = .ok (.getfield 107, 3) := by decide +kernel
theorem dX6_of_79 : decode cX6_of 79 = .ok (.iload_n 1, 1) := by decide +kernel
theorem dX6_of_80 : decode cX6_of 80 = .ok (.iaload, 1) := by decide +kernel
theorem dX6_of_81 : decode cX6_of 81 = .ok (.ireturn, 1) := by decide +kernel
theorem dX6_of_82 : decode cX6_of 82 = .ok (.aload_n 0, 1) := by decide +kernel
theorem dX6_of_83 : decode cX6_of 83 = .ok (.invokevirtual 114, 3) := by decide +kernel
theorem dX6_of_86 : decode cX6_of 86 = .ok (.iload_n 1, 1) := by decide +kernel
theorem dX6_of_87 : decode cX6_of 87 = .ok (.invokevirtual 118, 3) := by decide +kernel
theorem dX6_of_90 : decode cX6_of 90 = .ok (.ireturn, 1) := by decide +kernel
theorem dX6_of_91 : decode cX6_of 91 = .ok (.aload_n 0, 1) := by decide +kernel
theorem dX6_of_92 : decode cX6_of 92 = .ok (.invokevirtual 114, 3) := by decide +kernel
theorem dX6_of_95 : decode cX6_of 95 = .ok (.getfield 121, 3) := by decide +kernel
theorem dX6_of_98 : decode cX6_of 98 = .ok (.iload_n 1, 1) := by decide +kernel
theorem dX6_of_99 : decode cX6_of 99 = .ok (.iaload, 1) := by decide +kernel
theorem dX6_of_100 : decode cX6_of 100 = .ok (.ireturn, 1) := by decide +kernel
theorem dX6_of_101 : decode cX6_of 101 = .ok (.aload_n 0, 1) := by decide +kernel
theorem dX6_of_102 : decode cX6_of 102 = .ok (.invokevirtual 114, 3) := by decide +kernel
theorem dX6_of_105 : decode cX6_of 105 = .ok (.getfield 124, 3) := by decide +kernel
theorem dX6_of_108 : decode cX6_of 108 = .ok (.iload_n 1, 1) := by decide +kernel
theorem dX6_of_109 : decode cX6_of 109 = .ok (.iaload, 1) := by decide +kernel
theorem dX6_of_110 : decode cX6_of 110 = .ok (.ireturn, 1) := by decide +kernel
theorem dX6_of_111 : decode cX6_of 111 = .ok (.sipush (-1001), 3) := by decide +kernel
theorem dX6_of_114 : decode cX6_of 114 = .ok (.ireturn, 1) := by decide +kernel
theorem dX6_drum_0 : decode cX6_drum 0 = .ok (.iload_n 1, 1) := by decide +kernel
theorem dX6_drum_1 : decode cX6_drum 1 = .ok (.bipush 64, 2) := by decide +kernel
theorem dX6_drum_3 : decode cX6_drum 3 = .ok (.invokestatic 89, 3) := by decide +kernel
theorem dX6_drum_6 : decode cX6_drum 6 = .ok (.ifCond .ne 5, 3) := by decide +kernel
theorem dX6_drum_9 : decode cX6_drum 9 = .ok (.iconst (-1), 1) := by decide +kernel
theorem dX6_drum_10 : decode cX6_drum 10 = .ok (.ireturn, 1) := by decide +kernel
theorem dX6_drum_11 : decode cX6_drum 11 = .ok (.aload_n 0, 1) := by decide +kernel
theorem dX6_drum_12 : decode cX6_drum 12 = .ok (.getfield 12, 3) := by decide +kernel
theorem dX6_drum_15 : decode cX6_drum 15 = .ok (.getfield 127, 3) := by decide +kernel
theorem dX6_drum_18 : decode cX6_drum 18 = .ok (.istore_n 2, 1) := by decide +kernel
theorem dX6_drum_19 : decode cX6_drum 19 = .ok (.aload_n 0, 1) := by decide +kernel
theorem dX6_drum_20 : decode cX6_drum 20 = .ok (.getfield 12, 3) := by decide +kernel
theorem dX6_drum_23 : decode cX6_drum 23 = .ok (.iload_n 1, 1) := by decide +kernel
theorem dX6_drum_24 : decode cX6_drum 24 = .ok (.putfield 127, 3) := by decide +kernel
theorem dX6_drum_27 : decode cX6_drum 27 = .ok (.iload_n 2, 1) := by decide +kernel
theorem dX6_drum_28 : decode cX6_drum 28 = .ok (.ireturn, 1) := by decide +kernel
theorem dX6_put_0 : decode cX6_put 0 = .ok (.aload_n 0, 1) := by decide +kernel
theorem dX6_put_1 : decode cX6_put 1 = .ok (.iload_n 1, 1) := by decide +kernel
theorem dX6_put_2 : decode cX6_put 2 = .ok (.invokevirtual 110, 3) := by decide +kernel
theorem dX6_put_5 : decode cX6_put 5 = .ok (.ifCond .eq 12, 3) := by decide +kernel
theorem dX6_put_8 : decode cX6_put 8 = .ok (.iload_n 2, 1) := by decide +kernel
theorem dX6_put_9 : decode cX6_put 9 = .ok (.bipush 64, 2) := by decide +kernel
theorem dX6_put_11 : decode cX6_put 11 = .ok (.invokestatic 89, 3) := by decide +kernel
theorem dX6_put_14 : decode cX6_put 14 = .ok (.ifCond .ne 5, 3) := by decide +kernel
theorem dX6_put_17 : decode cX6_put 17 = .ok (.iconst (-1), 1) := by decide +kernel
theorem dX6_put_18 : decode cX6_put 18 = .ok (.ireturn, 1) := by decide +kernel
theorem dX6_put_19 : decode cX6_put 19 = .ok (.aload_n 0, 1) := by decide +kernel
theorem dX6_put_20 : decode cX6_put 20 = .ok (.getfield 12, 3) := by decide +kernel
theorem dX6_put_23 : decode cX6_put 23 = .ok (.iload_n 2, 1) := by decide +kernel
theorem dX6_put_24 : decode cX6_put 24 = .ok (.invokevirtual 93, 3) := by decide +kernel
theorem dX6_put_27 : decode cX6_put 27 = .ok (.istore_n 3, 1) := by decide +kernel
theorem dX6_put_28 : decode cX6_put 28 = .ok (.iload_n 3, 1) := by decide +kernel
theorem dX6_put_29 : decode cX6_put 29 = .ok (.iconst (-1), 1) := by decide +kernel
theorem dX6_put_30 : decode cX6_put 30 = .ok (.if_icmp .eq 11, 3) := by decide +kernel
theorem dX6_put_33 : decode cX6_put 33 = .ok (.iload_n 3, 1) := by decide +kernel
theorem dX6_put_34 : decode cX6_put 34 = .ok (.iload_n 1, 1) := by decide +kernel
theorem dX6_put_35 : decode cX6_put 35 = .ok (.if_icmp .eq 6, 3) := by decide +kernel
theorem dX6_put_38 : decode cX6_put 38 = .ok (.bipush (-3), 2) := by decide +kernel
theorem dX6_put_40 : decode cX6_put 40 = .ok (.ireturn, 1) := by decide +kernel
theorem dX6_put_41 : decode cX6_put 41 = .ok (.aload_n 0, 1) := by decide +kernel
theorem dX6_put_42 : decode cX6_put 42 = .ok (.getfield 12, 3) := by decide +kernel
theorem dX6_put_45 : decode cX6_put 45 = .ok (.getfield 107, 3) := by decide +kernel
theorem dX6_put_48 : decode cX6_put 48 = .ok (.iload_n 1, 1) := by decide +kernel
theorem dX6_put_49 : decode cX6_put 49 = .ok (.iaload, 1) := by decide +kernel
theorem dX6_put_50 : decode cX6_put 50 = .ok (.istore 4, 2) := by decide +kernel
theorem dX6_put_52 : decode cX6_put 52 = .ok (.aload_n 0, 1) := by decide +kernel
theorem dX6_put_53 : decode cX6_put 53 = .ok (.getfield 12, 3) := by decide +kernel
theorem dX6_put_56 : decode cX6_put 56 = .ok (.getfield 107, 3) := by decide +kernel
theorem dX6_put_59 : decode cX6_put 59 = .ok (.iload_n 1, 1) := by decide +kernel
theorem dX6_put_60 : decode cX6_put 60 = .ok (.iload_n 2, 1) := by decide +kernel
theorem dX6_put_61 : decode cX6_put 61 = .ok (.iastore, 1) := by decide +kernel
theorem dX6_put_62 : decode cX6_put 62 = .ok (.iload 4, 2) := by decide +kernel
theorem dX6_put_64 : decode cX6_put 64 = .ok (.ireturn, 1) := by decide +kernel
theorem dX6_heard_0 : decode cX6_heard 0 = .ok (.iload_n 1, 1) := by decide +kernel
theorem dX6_heard_1 : decode cX6_heard 1 = .ok (.bipush 8, 2) := by decide +kernel
theorem dX6_heard_3 : decode cX6_heard 3 = .ok (.invokestatic 89, 3) := by decide +kernel
theorem dX6_heard_6 : decode cX6_heard 6 = .ok (.ifCond .eq 11, 3) := by decide +kernel
theorem dX6_heard_9 : decode cX6_heard 9 = .ok (.aload_n 0, 1) := by decide +kernel
theorem dX6_heard_10 : decode cX6_heard 10 = .ok (.iload_n 2, 1) := by decide +kernel
theorem dX6_heard_11 : decode cX6_heard 11 = .ok (.invokevirtual 110, 3) := by decide +kernel
theorem dX6_heard_14 : decode cX6_heard 14 = .ok (.ifCond .ne 7, 3) := by decide +kernel
theorem dX6_heard_17 : decode cX6_heard 17 = .ok (.sipush (-1001), 3) := by decide +kernel
theorem dX6_heard_20 : decode cX6_heard 20 = .ok (.ireturn, 1) := by decide +kernel
theorem dX6_heard_21 : decode cX6_heard 21 = .ok (.aload_n 0, 1) := by decide +kernel
theorem dX6_heard_22 : decode cX6_heard 22 = .ok (.invokevirtual 114, 3) := by decide +kernel
theorem dX6_heard_25 : decode cX6_heard 25 = .ok (.iload_n 1, 1) := by decide +kernel
theorem dX6_heard_26 : decode cX6_heard 26 = .ok (.iload_n 2, 1) := by decide +kernel
theorem dX6_heard_27 : decode cX6_heard 27 = .ok (.invokevirtual 130, 3) := by decide +kernel
theorem dX6_heard_30 : decode cX6_heard 30 = .ok (.ireturn, 1) := by decide +kernel
theorem dX6_spread_0 : decode cX6_spread 0 = .ok (.iload_n 1, 1) := by decide +kernel
theorem dX6_spread_1 : decode cX6_spread 1 = .ok (.bipush 8, 2) := by decide +kernel
theorem dX6_spread_3 : decode cX6_spread 3 = .ok (.invokestatic 89, 3) := by decide +kernel
theorem dX6_spread_6 : decode cX6_spread 6 = .ok (.ifCond .eq 12, 3) := by decide +kernel
theorem dX6_spread_9 : decode cX6_spread 9 = .ok (.iload_n 2, 1) := by decide +kernel
theorem dX6_spread_10 : decode cX6_spread 10 = .ok (.bipush 51, 2) := by decide +kernel
theorem dX6_spread_12 : decode cX6_spread 12 = .ok (.invokestatic 89, 3) := by decide +kernel
theorem dX6_spread_15 : decode cX6_spread 15 = .ok (.ifCond .ne 5, 3) := by decide +kernel
theorem dX6_spread_18 : decode cX6_spread 18 = .ok (.iconst (-1), 1) := by decide +kernel
theorem dX6_spread_19 : decode cX6_spread 19 = .ok (.ireturn, 1) := by decide +kernel
theorem dX6_spread_20 : decode cX6_spread 20 = .ok (.iload_n 2, 1) := by decide +kernel
theorem dX6_spread_21 : decode cX6_spread 21 = .ok (.ifCond .ne 14, 3) := by decide +kernel
theorem dX6_spread_24 : decode cX6_spread 24 = .ok (.aload_n 0, 1) := by decide +kernel
theorem dX6_spread_25 : decode cX6_spread 25 = .ok (.invokevirtual 114, 3) := by decide +kernel
theorem dX6_spread_28 : decode cX6_spread 28 = .ok (.iload_n 1, 1) := by decide +kernel
theorem dX6_spread_29 : decode cX6_spread 29 = .ok (.invokevirtual 134, 3) := by decide +kernel
theorem dX6_spread_32 : decode cX6_spread 32 = .ok (.goto 14, 3) := by decide +kernel
theorem dX6_spread_35 : decode cX6_spread 35 = .ok (.aload_n 0, 1) := by decide +kernel
theorem dX6_spread_36 : decode cX6_spread 36 = .ok (.invokevirtual 114, 3) := by decide +kernel
theorem dX6_spread_39 : decode cX6_spread 39 = .ok (.iload_n 1, 1) := by decide +kernel
theorem dX6_spread_40 : decode cX6_spread 40 = .ok (.iload_n 2, 1) := by decide +kernel
theorem dX6_spread_41 : decode cX6_spread 41 = .ok (.iconst 1, 1) := by decide +kernel
theorem dX6_spread_42 : decode cX6_spread 42 = .ok (.isub, 1) := by decide +kernel
theorem dX6_spread_43 : decode cX6_spread 43 = .ok (.invokevirtual 137, 3) := by decide +kernel
theorem dX6_spread_46 : decode cX6_spread 46 = .ok (.ireturn, 1) := by decide +kernel
theorem dX6_back_0 : decode cX6_back 0 = .ok (.iload_n 1, 1) := by decide +kernel
theorem dX6_back_1 : decode cX6_back 1 = .ok (.bipush 8, 2) := by decide +kernel
theorem dX6_back_3 : decode cX6_back 3 = .ok (.invokestatic 89, 3) := by decide +kernel
theorem dX6_back_6 : decode cX6_back 6 = .ok (.ifCond .ne 5, 3) := by decide +kernel
theorem dX6_back_9 : decode cX6_back 9 = .ok (.iconst (-1), 1) := by decide +kernel
theorem dX6_back_10 : decode cX6_back 10 = .ok (.ireturn, 1) := by decide +kernel
theorem dX6_back_11 : decode cX6_back 11 = .ok (.iload_n 2, 1) := by decide +kernel
theorem dX6_back_12 : decode cX6_back 12 = .ok (.bipush 100, 2) := by decide +kernel
theorem dX6_back_14 : decode cX6_back 14 = .ok (.invokestatic 89, 3) := by decide +kernel
theorem dX6_back_17 : decode cX6_back 17 = .ok (.ifCond .ne 6, 3) := by decide +kernel
theorem dX6_back_20 : decode cX6_back 20 = .ok (.bipush (-2), 2) := by decide +kernel
theorem dX6_back_22 : decode cX6_back 22 = .ok (.ireturn, 1) := by decide +kernel
theorem dX6_back_23 : decode cX6_back 23 = .ok (.aload_n 0, 1) := by decide +kernel
theorem dX6_back_24 : decode cX6_back 24 = .ok (.invokevirtual 114, 3) := by decide +kernel
theorem dX6_back_27 : decode cX6_back 27 = .ok (.iload_n 1, 1) := by decide +kernel
theorem dX6_back_28 : decode cX6_back 28 = .ok (.iload_n 2, 1) := by decide +kernel
theorem dX6_back_29 : decode cX6_back 29 = .ok (.invokevirtual 140, 3) := by decide +kernel
theorem dX6_back_32 : decode cX6_back 32 = .ok (.ireturn, 1) := by decide +kernel
theorem dX6_best_0 : decode cX6_best 0 = .ok (.iload_n 1, 1) := by decide +kernel
theorem dX6_best_1 : decode cX6_best 1 = .ok (.iconst 2, 1) := by decide +kernel
theorem dX6_best_2 : decode cX6_best 2 = .ok (.invokestatic 89, 3) := by decide +kernel
theorem dX6_best_5 : decode cX6_best 5 = .ok (.ifCond .ne 5, 3) := by decide +kernel
theorem dX6_best_8 : decode cX6_best 8 = .ok (.iconst (-1), 1) := by decide +kernel
theorem dX6_best_9 : decode cX6_best 9 = .ok (.ireturn, 1) := by decide +kernel
theorem dX6_best_10 : decode cX6_best 10 = .ok (.aload_n 0, 1) := by decide +kernel
theorem dX6_best_11 : decode cX6_best 11 = .ok (.invokevirtual 114, 3) := by decide +kernel
theorem dX6_best_14 : decode cX6_best 14 = .ok (.pop, 1) := by decide +kernel
theorem dX6_best_15 : decode cX6_best 15 = .ok (.iconst (-1), 1) := by decide +kernel
theorem dX6_best_16 : decode cX6_best 16 = .ok (.istore_n 2, 1) := by decide +kernel
theorem dX6_best_17 : decode cX6_best 17 = .ok (.iconst 0, 1) := by decide +kernel
theorem dX6_best_18 : decode cX6_best 18 = .ok (.istore_n 3, 1) := by decide +kernel
theorem dX6_best_19 : decode cX6_best 19 = .ok (.iconst 0, 1) := by decide +kernel
theorem dX6_best_20 : decode cX6_best 20 = .ok (.istore 4, 2) := by decide +kernel
theorem dX6_best_22 : decode cX6_best 22 = .ok (.iload 4, 2) := by decide +kernel
theorem dX6_best_24 : decode cX6_best 24 = .ok (.bipush 64, 2) := by decide +kernel
theorem dX6_best_26 : decode cX6_best 26 = .ok (.if_icmp .ge 50, 3) := by decide +kernel
theorem dX6_best_29 : decode cX6_best 29 = .ok (.aload_n 0, 1) := by decide +kernel
theorem dX6_best_30 : decode cX6_best 30 = .ok (.getfield 12, 3) := by decide +kernel
theorem dX6_best_33 : decode cX6_best 33 = .ok (.iload 4, 2) := by decide +kernel
theorem dX6_best_35 : decode cX6_best 35 = .ok (.invokevirtual 93, 3) := by decide +kernel
theorem dX6_best_38 : decode cX6_best 38 = .ok (.iconst (-1), 1) := by decide +kernel
theorem dX6_best_39 : decode cX6_best 39 = .ok (.if_icmp .ne 31, 3) := by decide +kernel
theorem dX6_best_42 : decode cX6_best 42 = .ok (.aload_n 0, 1) := by decide +kernel
theorem dX6_best_43 : decode cX6_best 43 = .ok (.getfield 58, 3) := by decide +kernel
theorem dX6_best_46 : decode cX6_best 46 = .ok (.iload 4, 2) := by decide +kernel
theorem dX6_best_48 : decode cX6_best 48 = .ok (.invokevirtual 143, 3) := by decide +kernel
theorem dX6_best_51 : decode cX6_best 51 = .ok (.istore 5, 2) := by decide +kernel
theorem dX6_best_53 : decode cX6_best 53 = .ok (.iload_n 2, 1) := by decide +kernel
theorem dX6_best_54 : decode cX6_best 54 = .ok (.iconst (-1), 1) := by decide +kernel
theorem dX6_best_55 : decode cX6_best 55 = .ok (.if_icmp .eq 9, 3) := by decide +kernel
theorem dX6_best_58 : decode cX6_best 58 = .ok (.iload 5, 2) := by decide +kernel
theorem dX6_best_60 : decode cX6_best 60 = .ok (.iload_n 3, 1) := by decide +kernel
theorem dX6_best_61 : decode cX6_best 61 = .ok (.if_icmp .ge 9, 3) := by decide +kernel
theorem dX6_best_64 : decode cX6_best 64 = .ok (.iload 4, 2) := by decide +kernel
theorem dX6_best_66 : decode cX6_best 66 = .ok (.istore_n 2, 1) := by decide +kernel
theorem dX6_best_67 : decode cX6_best 67 = .ok (.iload 5, 2) := by decide +kernel
theorem dX6_best_69 : decode cX6_best 69 = .ok (.istore_n 3, 1) := by decide +kernel
theorem dX6_best_70 : decode cX6_best 70 = .ok (.iinc 4 1, 3) := by decide +kernel
theorem dX6_best_73 : decode cX6_best 73 = .ok (.goto (-51), 3) := by decide +kernel
theorem dX6_best_76 : decode cX6_best 76 = .ok (.iload_n 1, 1) := by decide +kernel
theorem dX6_best_77 : decode cX6_best 77 = .ok (.ifCond .ne 7, 3) := by decide +kernel
theorem dX6_best_80 : decode cX6_best 80 = .ok (.iload_n 2, 1) := by decide +kernel
theorem dX6_best_81 : decode cX6_best 81 = .ok (.goto 4, 3) := by decide +kernel
theorem dX6_best_84 : decode cX6_best 84 = .ok (.iload_n 3, 1) := by decide +kernel
theorem dX6_best_85 : decode cX6_best 85 = .ok (.ireturn, 1) := by decide +kernel
theorem dX6_early_0 : decode cX6_early 0 = .ok (.aload_n 0, 1) := by decide +kernel
theorem dX6_early_1 : decode cX6_early 1 = .ok (.iload_n 1, 1) := by decide +kernel
theorem dX6_early_2 : decode cX6_early 2 = .ok (.invokevirtual 110, 3) := by decide +kernel
theorem dX6_early_5 : decode cX6_early 5 = .ok (.ifCond .eq 12, 3) := by decide +kernel
theorem dX6_early_8 : decode cX6_early 8 = .ok (.iload_n 2, 1) := by decide +kernel
theorem dX6_early_9 : decode cX6_early 9 = .ok (.bipush 8, 2) := by decide +kernel
theorem dX6_early_11 : decode cX6_early 11 = .ok (.invokestatic 89, 3) := by decide +kernel
theorem dX6_early_14 : decode cX6_early 14 = .ok (.ifCond .ne 5, 3) := by decide +kernel
theorem dX6_early_17 : decode cX6_early 17 = .ok (.iconst (-1), 1) := by decide +kernel
theorem dX6_early_18 : decode cX6_early 18 = .ok (.ireturn, 1) := by decide +kernel
theorem dX6_early_19 : decode cX6_early 19 = .ok (.aload_n 0, 1) := by decide +kernel
theorem dX6_early_20 : decode cX6_early 20 = .ok (.invokevirtual 114, 3) := by decide +kernel
theorem dX6_early_23 : decode cX6_early 23 = .ok (.pop, 1) := by decide +kernel
theorem dX6_early_24 : decode cX6_early 24 = .ok (.aload_n 0, 1) := by decide +kernel
theorem dX6_early_25 : decode cX6_early 25 = .ok (.getfield 58, 3) := by decide +kernel
theorem dX6_early_28 : decode cX6_early 28 = .ok (.iload_n 2, 1) := by decide +kernel
theorem dX6_early_29 : decode cX6_early 29 = .ok (.iload_n 1, 1) := by decide +kernel
theorem dX6_early_30 : decode cX6_early 30 = .ok (.invokevirtual 130, 3) := by decide +kernel
theorem dX6_early_33 : decode cX6_early 33 = .ok (.aload_n 0, 1) := by decide +kernel
theorem dX6_early_34 : decode cX6_early 34 = .ok (.getfield 58, 3) := by decide +kernel
theorem dX6_early_37 : decode cX6_early 37 = .ok (.iload_n 2, 1) := by decide +kernel
theorem dX6_early_38 : decode cX6_early 38 = .ok (.invokevirtual 146, 3) := by decide +kernel
theorem dX6_early_41 : decode cX6_early 41 = .ok (.isub, 1) := by decide +kernel
theorem dX6_early_42 : decode cX6_early 42 = .ok (.ireturn, 1) := by decide +kernel
theorem dX6_beats_0 : decode cX6_beats 0 = .ok (.iload_n 1, 1) := by decide +kernel
theorem dX6_beats_1 : decode cX6_beats 1 = .ok (.bipush 8, 2) := by decide +kernel
theorem dX6_beats_3 : decode cX6_beats 3 = .ok (.invokestatic 89, 3) := by decide +kernel
theorem dX6_beats_6 : decode cX6_beats 6 = .ok (.ifCond .ne 5, 3) := by decide +kernel
theorem dX6_beats_9 : decode cX6_beats 9 = .ok (.iconst (-1), 1) := by decide +kernel
theorem dX6_beats_10 : decode cX6_beats 10 = .ok (.ireturn, 1) := by decide +kernel
theorem dX6_beats_11 : decode cX6_beats 11 = .ok (.aload_n 0, 1) := by decide +kernel
theorem dX6_beats_12 : decode cX6_beats 12 = .ok (.invokevirtual 114, 3) := by decide +kernel
theorem dX6_beats_15 : decode cX6_beats 15 = .ok (.iload_n 1, 1) := by decide +kernel
theorem dX6_beats_16 : decode cX6_beats 16 = .ok (.invokevirtual 134, 3) := by decide +kernel
theorem dX6_beats_19 : decode cX6_beats 19 = .ok (.iconst 1, 1) := by decide +kernel
theorem dX6_beats_20 : decode cX6_beats 20 = .ok (.aload_n 0, 1) := by decide +kernel
theorem dX6_beats_21 : decode cX6_beats 21 = .ok (.invokevirtual 76, 3) := by decide +kernel
theorem dX6_beats_24 : decode cX6_beats 24 = .ok (.getfield 83, 3) := by decide +kernel
theorem dX6_beats_27 : decode cX6_beats 27 = .ok (.invokestatic 149, 3) := by decide +kernel
theorem dX6_beats_30 : decode cX6_beats 30 = .ok (.idiv, 1) := by decide +kernel
theorem dX6_beats_31 : decode cX6_beats 31 = .ok (.ireturn, 1) := by decide +kernel
theorem dX6_form_0 : decode cX6_form 0 = .ok (.iload_n 1, 1) := by decide +kernel
theorem dX6_form_1 : decode cX6_form 1 = .ok (.iconst (-1), 1) := by decide +kernel
theorem dX6_form_2 : decode cX6_form 2 = .ok (.if_icmp .ne 13, 3) := by decide +kernel
theorem dX6_form_5 : decode cX6_form 5 = .ok (.aload_n 0, 1) := by decide +kernel
theorem dX6_form_6 : decode cX6_form 6 = .ok (.getfield 12, 3) := by decide +kernel
theorem dX6_form_9 : decode cX6_form 9 = .ok (.iconst 0, 1) := by decide +kernel
theorem dX6_form_10 : decode cX6_form 10 = .ok (.putfield 154, 3) := by decide +kernel
theorem dX6_form_13 : decode cX6_form 13 = .ok (.iconst 0, 1) := by decide +kernel
theorem dX6_form_14 : decode cX6_form 14 = .ok (.ireturn, 1) := by decide +kernel
theorem dX6_form_15 : decode cX6_form 15 = .ok (.iload_n 1, 1) := by decide +kernel
theorem dX6_form_16 : decode cX6_form 16 = .ok (.bipush 64, 2) := by decide +kernel
theorem dX6_form_18 : decode cX6_form 18 = .ok (.invokestatic 89, 3) := by decide +kernel
theorem dX6_form_21 : decode cX6_form 21 = .ok (.ifCond .ne 5, 3) := by decide +kernel
theorem dX6_form_24 : decode cX6_form 24 = .ok (.iconst (-1), 1) := by decide +kernel
theorem dX6_form_25 : decode cX6_form 25 = .ok (.ireturn, 1) := by decide +kernel
theorem dX6_form_26 : decode cX6_form 26 = .ok (.aload_n 0, 1) := by decide +kernel
theorem dX6_form_27 : decode cX6_form 27 = .ok (.getfield 12, 3) := by decide +kernel
theorem dX6_form_30 : decode cX6_form 30 = .ok (.iload_n 1, 1) := by decide +kernel
theorem dX6_form_31 : decode cX6_form 31 = .ok (.invokevirtual 157, 3) := by decide +kernel
theorem dX6_form_34 : decode cX6_form 34 = .ok (.ifCond .eq 6, 3) := by decide +kernel
theorem dX6_form_37 : decode cX6_form 37 = .ok (.bipush (-3), 2) := by decide +kernel
theorem dX6_form_39 : decode cX6_form 39 = .ok (.ireturn, 1) := by decide +kernel
theorem dX6_form_40 : decode cX6_form 40 = .ok (.aload_n 0, 1) := by decide +kernel
theorem dX6_form_41 : decode cX6_form 41 = .ok (.getfield 12, 3) := by decide +kernel
theorem dX6_form_44 : decode cX6_form 44 = .ok (.getfield 154, 3) := by decide +kernel
theorem dX6_form_47 : decode cX6_form 47 = .ok (.bipush 10, 2) := by decide +kernel
theorem dX6_form_49 : decode cX6_form 49 = .ok (.if_icmp .lt 6, 3) := by decide +kernel
theorem dX6_form_52 : decode cX6_form 52 = .ok (.bipush (-4), 2) := by decide +kernel
theorem dX6_form_54 : decode cX6_form 54 = .ok (.ireturn, 1) := by decide +kernel
theorem dX6_form_55 : decode cX6_form 55 = .ok (.aload_n 0, 1) := by decide +kernel
theorem dX6_form_56 : decode cX6_form 56 = .ok (.getfield 12, 3) := by decide +kernel
theorem dX6_form_59 : decode cX6_form 59 = .ok (.getfield 160, 3) := by decide +kernel
theorem dX6_form_62 : decode cX6_form 62 = .ok (.aload_n 0, 1) := by decide +kernel
theorem dX6_form_63 : decode cX6_form 63 = .ok (.getfield 12, 3) := by decide +kernel
theorem dX6_form_66 : decode cX6_form 66 = .ok (.getfield 154, 3) := by decide +kernel
theorem dX6_form_69 : decode cX6_form 69 = .ok (.iload_n 1, 1) := by decide +kernel
theorem dX6_form_70 : decode cX6_form 70 = .ok (.iastore, 1) := by decide +kernel
theorem dX6_form_71 : decode cX6_form 71 = .ok (.aload_n 0, 1) := by decide +kernel
theorem dX6_form_72 : decode cX6_form 72 = .ok (.getfield 12, 3) := by decide +kernel
theorem dX6_form_75 : decode cX6_form 75 = .ok (.dup, 1) := by decide +kernel
theorem dX6_form_76 : decode cX6_form 76 = .ok (.getfield 154, 3) := by decide +kernel
theorem dX6_form_79 : decode cX6_form 79 = .ok (.iconst 1, 1) := by decide +kernel
theorem dX6_form_80 : decode cX6_form 80 = .ok (.iadd, 1) := by decide +kernel
theorem dX6_form_81 : decode cX6_form 81 = .ok (.putfield 154, 3) := by decide +kernel
theorem dX6_form_84 : decode cX6_form 84 = .ok (.aload_n 0, 1) := by decide +kernel
theorem dX6_form_85 : decode cX6_form 85 = .ok (.getfield 12, 3) := by decide +kernel
theorem dX6_form_88 : decode cX6_form 88 = .ok (.getfield 154, 3) := by decide +kernel
theorem dX6_form_91 : decode cX6_form 91 = .ok (.ireturn, 1) := by decide +kernel
theorem dX6_way_0 : decode cX6_way 0 = .ok (.iload_n 1, 1) := by decide +kernel
theorem dX6_way_1 : decode cX6_way 1 = .ok (.bipush (-2), 2) := by decide +kernel
theorem dX6_way_3 : decode cX6_way 3 = .ok (.if_icmp .lt 14, 3) := by decide +kernel
theorem dX6_way_6 : decode cX6_way 6 = .ok (.iload_n 1, 1) := by decide +kernel
theorem dX6_way_7 : decode cX6_way 7 = .ok (.aload_n 0, 1) := by decide +kernel
theorem dX6_way_8 : decode cX6_way 8 = .ok (.getfield 12, 3) := by decide +kernel
theorem dX6_way_11 : decode cX6_way 11 = .ok (.getfield 97, 3) := by decide +kernel
theorem dX6_way_14 : decode cX6_way 14 = .ok (.if_icmp .lt 5, 3) := by decide +kernel
theorem dX6_way_17 : decode cX6_way 17 = .ok (.iconst (-1), 1) := by decide +kernel
theorem dX6_way_18 : decode cX6_way 18 = .ok (.ireturn, 1) := by decide +kernel
theorem dX6_way_19 : decode cX6_way 19 = .ok (.aload_n 0, 1) := by decide +kernel
theorem dX6_way_20 : decode cX6_way 20 = .ok (.invokevirtual 163, 3) := by decide +kernel
theorem dX6_way_23 : decode cX6_way 23 = .ok (.istore_n 2, 1) := by decide +kernel
theorem dX6_way_24 : decode cX6_way 24 = .ok (.iload_n 2, 1) := by decide +kernel
theorem dX6_way_25 : decode cX6_way 25 = .ok (.ifCond .eq 5, 3) := by decide +kernel
theorem dX6_way_28 : decode cX6_way 28 = .ok (.iload_n 2, 1) := by decide +kernel
theorem dX6_way_29 : decode cX6_way 29 = .ok (.ireturn, 1) := by decide +kernel
theorem dX6_way_30 : decode cX6_way 30 = .ok (.iload_n 1, 1) := by decide +kernel
theorem dX6_way_31 : decode cX6_way 31 = .ok (.iconst (-1), 1) := by decide +kernel
theorem dX6_way_32 : decode cX6_way 32 = .ok (.if_icmp .ne 11, 3) := by decide +kernel
theorem dX6_way_35 : decode cX6_way 35 = .ok (.aload_n 0, 1) := by decide +kernel
theorem dX6_way_36 : decode cX6_way 36 = .ok (.getfield 34, 3) := by decide +kernel
theorem dX6_way_39 : decode cX6_way 39 = .ok (.getfield 167, 3) := by decide +kernel
theorem dX6_way_42 : decode cX6_way 42 = .ok (.ireturn, 1) := by decide +kernel
theorem dX6_way_43 : decode cX6_way 43 = .ok (.iload_n 1, 1) := by decide +kernel
theorem dX6_way_44 : decode cX6_way 44 = .ok (.bipush (-2), 2) := by decide +kernel
theorem dX6_way_46 : decode cX6_way 46 = .ok (.if_icmp .ne 13, 3) := by decide +kernel
theorem dX6_way_49 : decode cX6_way 49 = .ok (.aload_n 0, 1) := by decide +kernel
theorem dX6_way_50 : decode cX6_way 50 = .ok (.getfield 34, 3) := by decide +kernel
theorem dX6_way_53 : decode cX6_way 53 = .ok (.getfield 170, 3) := by decide +kernel
theorem dX6_way_56 : decode cX6_way 56 = .ok (.goto 12, 3) := by decide +kernel
theorem dX6_way_59 : decode cX6_way 59 = .ok (.aload_n 0, 1) := by decide +kernel
theorem dX6_way_60 : decode cX6_way 60 = .ok (.getfield 34, 3) := by decide +kernel
theorem dX6_way_63 : decode cX6_way 63 = .ok (.getfield 173, 3) := by decide +kernel
theorem dX6_way_66 : decode cX6_way 66 = .ok (.iload_n 1, 1) := by decide +kernel
theorem dX6_way_67 : decode cX6_way 67 = .ok (.iaload, 1) := by decide +kernel
theorem dX6_way_68 : decode cX6_way 68 = .ok (.ireturn, 1) := by decide +kernel
theorem dX6_counts_0 : decode cX6_counts 0 = .ok (.aload_n 0, 1) := by decide +kernel
theorem dX6_counts_1 : decode cX6_counts 1 = .ok (.invokevirtual 163, 3) := by decide +kernel
theorem dX6_counts_4 : decode cX6_counts 4 = .ok (.istore_n 1, 1) := by decide +kernel
theorem dX6_counts_5 : decode cX6_counts 5 = .ok (.iload_n 1, 1) := by decide +kernel
theorem dX6_counts_6 : decode cX6_counts 6 = .ok (.ifCond .eq 5, 3) := by decide +kernel
theorem dX6_counts_9 : decode cX6_counts 9 = .ok (.iload_n 1, 1) := by decide +kernel
theorem dX6_counts_10 : decode cX6_counts 10 = .ok (.ireturn, 1) := by decide +kernel
theorem dX6_counts_11 : decode cX6_counts 11 = .ok (.iconst 1, 1) := by decide +kernel
theorem dX6_counts_12 : decode cX6_counts 12 = .ok (.aload_n 0, 1) := by decide +kernel
theorem dX6_counts_13 : decode cX6_counts 13 = .ok (.invokevirtual 76, 3) := by decide +kernel
theorem dX6_counts_16 : decode cX6_counts 16 = .ok (.getfield 86, 3) := by decide +kernel
theorem dX6_counts_19 : decode cX6_counts 19 = .ok (.invokestatic 149, 3) := by decide +kernel
theorem dX6_counts_22 : decode cX6_counts 22 = .ok (.istore_n 2, 1) := by decide +kernel
theorem dX6_counts_23 : decode cX6_counts 23 = .ok (.aload_n 0, 1) := by decide +kernel
theorem dX6_counts_24 : decode cX6_counts 24 = .ok (.getfield 34, 3) := by decide +kernel
theorem dX6_counts_27 : decode cX6_counts 27 = .ok (.getfield 167, 3) := by decide +kernel
theorem dX6_counts_30 : decode cX6_counts 30 = .ok (.iload_n 2, 1) := by decide +kernel
theorem dX6_counts_31 : decode cX6_counts 31 = .ok (.iadd, 1) := by decide +kernel
theorem dX6_counts_32 : decode cX6_counts 32 = .ok (.iconst 1, 1) := by decide +kernel
theorem dX6_counts_33 : decode cX6_counts 33 = .ok (.isub, 1) := by decide +kernel
theorem dX6_counts_34 : decode cX6_counts 34 = .ok (.iload_n 2, 1) := by decide +kernel
theorem dX6_counts_35 : decode cX6_counts 35 = .ok (.idiv, 1) := by decide +kernel
theorem dX6_counts_36 : decode cX6_counts 36 = .ok (.ireturn, 1) := by decide +kernel
theorem dX6_meet_0 : decode cX6_meet 0 = .ok (.aload_n 0, 1) := by decide +kernel
theorem dX6_meet_1 : decode cX6_meet 1 = .ok (.getfield 12, 3) := by decide +kernel
theorem dX6_meet_4 : decode cX6_meet 4 = .ok (.invokevirtual 176, 3) := by decide +kernel
theorem dX6_meet_7 : decode cX6_meet 7 = .ok (.ifCond .eq 6, 3) := by decide +kernel
theorem dX6_meet_10 : decode cX6_meet 10 = .ok (.bipush (-5), 2) := by decide +kernel
theorem dX6_meet_12 : decode cX6_meet 12 = .ok (.ireturn, 1) := by decide +kernel
theorem dX6_meet_13 : decode cX6_meet 13 = .ok (.iconst 0, 1) := by decide +kernel
theorem dX6_meet_14 : decode cX6_meet 14 = .ok (.istore_n 1, 1) := by decide +kernel
theorem dX6_meet_15 : decode cX6_meet 15 = .ok (.iconst 0, 1) := by decide +kernel
theorem dX6_meet_16 : decode cX6_meet 16 = .ok (.istore_n 2, 1) := by decide +kernel
theorem dX6_meet_17 : decode cX6_meet 17 = .ok (.iload_n 2, 1) := by decide +kernel
theorem dX6_meet_18 : decode cX6_meet 18 = .ok (.aload_n 0, 1) := by decide +kernel
theorem dX6_meet_19 : decode cX6_meet 19 = .ok (.getfield 12, 3) := by decide +kernel
theorem dX6_meet_22 : decode cX6_meet 22 = .ok (.getfield 97, 3) := by decide +kernel
theorem dX6_meet_25 : decode cX6_meet 25 = .ok (.if_icmp .ge 45, 3) := by decide +kernel
theorem dX6_meet_28 : decode cX6_meet 28 = .ok (.iload_n 2, 1) := by decide +kernel
theorem dX6_meet_29 : decode cX6_meet 29 = .ok (.iconst 1, 1) := by decide +kernel
theorem dX6_meet_30 : decode cX6_meet 30 = .ok (.iadd, 1) := by decide +kernel
theorem dX6_meet_31 : decode cX6_meet 31 = .ok (.istore_n 3, 1) := by decide +kernel
theorem dX6_meet_32 : decode cX6_meet 32 = .ok (.iload_n 3, 1) := by decide +kernel
theorem dX6_meet_33 : decode cX6_meet 33 = .ok (.aload_n 0, 1) := by decide +kernel
theorem dX6_meet_34 : decode cX6_meet 34 = .ok (.getfield 12, 3) := by decide +kernel
theorem dX6_meet_37 : decode cX6_meet 37 = .ok (.getfield 97, 3) := by decide +kernel
theorem dX6_meet_40 : decode cX6_meet 40 = .ok (.if_icmp .ge 24, 3) := by decide +kernel
theorem dX6_meet_43 : decode cX6_meet 43 = .ok (.aload_n 0, 1) := by decide +kernel
theorem dX6_meet_44 : decode cX6_meet 44 = .ok (.getfield 12, 3) := by decide +kernel
theorem dX6_meet_47 : decode cX6_meet 47 = .ok (.iload_n 2, 1) := by decide +kernel
theorem dX6_meet_48 : decode cX6_meet 48 = .ok (.iload_n 3, 1) := by decide +kernel
theorem dX6_meet_49 : decode cX6_meet 49 = .ok (.invokevirtual 180, 3) := by decide +kernel
theorem dX6_meet_52 : decode cX6_meet 52 = .ok (.ifCond .eq 6, 3) := by decide +kernel
theorem dX6_meet_55 : decode cX6_meet 55 = .ok (.iinc 1 1, 3) := by decide +kernel
theorem dX6_meet_58 : decode cX6_meet 58 = .ok (.iinc 3 1, 3) := by decide +kernel
theorem dX6_meet_61 : decode cX6_meet 61 = .ok (.goto (-29), 3) := by decide +kernel
theorem dX6_meet_64 : decode cX6_meet 64 = .ok (.iinc 2 1, 3) := by decide +kernel
theorem dX6_meet_67 : decode cX6_meet 67 = .ok (.goto (-50), 3) := by decide +kernel
theorem dX6_meet_70 : decode cX6_meet 70 = .ok (.iload_n 1, 1) := by decide +kernel
theorem dX6_meet_71 : decode cX6_meet 71 = .ok (.ireturn, 1) := by decide +kernel
theorem dX6_hard_0 : decode cX6_hard 0 = .ok (.iload_n 1, 1) := by decide +kernel
theorem dX6_hard_1 : decode cX6_hard 1 = .ok (.iconst 2, 1) := by decide +kernel
theorem dX6_hard_2 : decode cX6_hard 2 = .ok (.invokestatic 89, 3) := by decide +kernel
theorem dX6_hard_5 : decode cX6_hard 5 = .ok (.ifCond .ne 5, 3) := by decide +kernel
theorem dX6_hard_8 : decode cX6_hard 8 = .ok (.iconst (-1), 1) := by decide +kernel
theorem dX6_hard_9 : decode cX6_hard 9 = .ok (.ireturn, 1) := by decide +kernel
theorem dX6_hard_10 : decode cX6_hard 10 = .ok (.aload_n 0, 1) := by decide +kernel
theorem dX6_hard_11 : decode cX6_hard 11 = .ok (.getfield 12, 3) := by decide +kernel
theorem dX6_hard_14 : decode cX6_hard 14 = .ok (.invokevirtual 176, 3) := by decide +kernel
theorem dX6_hard_17 : decode cX6_hard 17 = .ok (.ifCond .eq 6, 3) := by decide +kernel
theorem dX6_hard_20 : decode cX6_hard 20 = .ok (.bipush (-5), 2) := by decide +kernel
theorem dX6_hard_22 : decode cX6_hard 22 = .ok (.ireturn, 1) := by decide +kernel
theorem dX6_hard_23 : decode cX6_hard 23 = .ok (.iconst 0, 1) := by decide +kernel
theorem dX6_hard_24 : decode cX6_hard 24 = .ok (.istore_n 2, 1) := by decide +kernel
theorem dX6_hard_25 : decode cX6_hard 25 = .ok (.iconst 0, 1) := by decide +kernel
theorem dX6_hard_26 : decode cX6_hard 26 = .ok (.istore_n 3, 1) := by decide +kernel
theorem dX6_hard_27 : decode cX6_hard 27 = .ok (.iconst 0, 1) := by decide +kernel
theorem dX6_hard_28 : decode cX6_hard 28 = .ok (.istore 4, 2) := by decide +kernel
theorem dX6_hard_30 : decode cX6_hard 30 = .ok (.iload 4, 2) := by decide +kernel
theorem dX6_hard_32 : decode cX6_hard 32 = .ok (.aload_n 0, 1) := by decide +kernel
theorem dX6_hard_33 : decode cX6_hard 33 = .ok (.getfield 12, 3) := by decide +kernel
theorem dX6_hard_36 : decode cX6_hard 36 = .ok (.getfield 97, 3) := by decide +kernel
theorem dX6_hard_39 : decode cX6_hard 39 = .ok (.if_icmp .ge 58, 3) := by decide +kernel
theorem dX6_hard_42 : decode cX6_hard 42 = .ok (.aload_n 0, 1) := by decide +kernel
theorem dX6_hard_43 : decode cX6_hard 43 = .ok (.getfield 12, 3) := by decide +kernel
theorem dX6_hard_46 : decode cX6_hard 46 = .ok (.getfield 107, 3) := by decide +kernel
theorem dX6_hard_49 : decode cX6_hard 49 = .ok (.iload 4, 2) := by decide +kernel
theorem dX6_hard_51 : decode cX6_hard 51 = .ok (.iaload, 1) := by decide +kernel
theorem dX6_hard_52 : decode cX6_hard 52 = .ok (.aload_n 0, 1) := by decide +kernel
theorem dX6_hard_53 : decode cX6_hard 53 = .ok (.getfield 12, 3) := by decide +kernel
theorem dX6_hard_56 : decode cX6_hard 56 = .ok (.getfield 160, 3) := by decide +kernel
theorem dX6_hard_59 : decode cX6_hard 59 = .ok (.iload 4, 2) := by decide +kernel
theorem dX6_hard_61 : decode cX6_hard 61 = .ok (.iaload, 1) := by decide +kernel
theorem dX6_hard_62 : decode cX6_hard 62 = .ok (.invokestatic 183, 3) := by decide +kernel
theorem dX6_hard_65 : decode cX6_hard 65 = .ok (.istore 5, 2) := by decide +kernel
theorem dX6_hard_67 : decode cX6_hard 67 = .ok (.iload 5, 2) := by decide +kernel
theorem dX6_hard_69 : decode cX6_hard 69 = .ok (.iload_n 2, 1) := by decide +kernel
theorem dX6_hard_70 : decode cX6_hard 70 = .ok (.if_icmp .le 8, 3) := by decide +kernel
theorem dX6_hard_73 : decode cX6_hard 73 = .ok (.iload 5, 2) := by decide +kernel
theorem dX6_hard_75 : decode cX6_hard 75 = .ok (.istore_n 2, 1) := by decide +kernel
theorem dX6_hard_76 : decode cX6_hard 76 = .ok (.iconst 0, 1) := by decide +kernel
theorem dX6_hard_77 : decode cX6_hard 77 = .ok (.istore_n 3, 1) := by decide +kernel
theorem dX6_hard_78 : decode cX6_hard 78 = .ok (.iload 5, 2) := by decide +kernel
theorem dX6_hard_80 : decode cX6_hard 80 = .ok (.iload_n 2, 1) := by decide +kernel
theorem dX6_hard_81 : decode cX6_hard 81 = .ok (.if_icmp .ne 10, 3) := by decide +kernel
theorem dX6_hard_84 : decode cX6_hard 84 = .ok (.iload_n 3, 1) := by decide +kernel
theorem dX6_hard_85 : decode cX6_hard 85 = .ok (.iconst 1, 1) := by decide +kernel
theorem dX6_hard_86 : decode cX6_hard 86 = .ok (.iload 4, 2) := by decide +kernel
theorem dX6_hard_88 : decode cX6_hard 88 = .ok (.ishl, 1) := by decide +kernel
theorem dX6_hard_89 : decode cX6_hard 89 = .ok (.ior, 1) := by decide +kernel
theorem dX6_hard_90 : decode cX6_hard 90 = .ok (.istore_n 3, 1) := by decide +kernel
theorem dX6_hard_91 : decode cX6_hard 91 = .ok (.iinc 4 1, 3) := by decide +kernel
theorem dX6_hard_94 : decode cX6_hard 94 = .ok (.goto (-64), 3) := by decide +kernel
theorem dX6_hard_97 : decode cX6_hard 97 = .ok (.iload_n 1, 1) := by decide +kernel
theorem dX6_hard_98 : decode cX6_hard 98 = .ok (.ifCond .ne 7, 3) := by decide +kernel
theorem dX6_hard_101 : decode cX6_hard 101 = .ok (.iload_n 3, 1) := by decide +kernel
theorem dX6_hard_102 : decode cX6_hard 102 = .ok (.goto 4, 3) := by decide +kernel
theorem dX6_hard_105 : decode cX6_hard 105 = .ok (.iload_n 2, 1) := by decide +kernel
theorem dX6_hard_106 : decode cX6_hard 106 = .ok (.ireturn, 1) := by decide +kernel
theorem dX6_march_0 : decode cX6_march 0 = .ok (.aload_n 0, 1) := by decide +kernel
theorem dX6_march_1 : decode cX6_march 1 = .ok (.getfield 12, 3) := by decide +kernel
theorem dX6_march_4 : decode cX6_march 4 = .ok (.invokevirtual 176, 3) := by decide +kernel
theorem dX6_march_7 : decode cX6_march 7 = .ok (.ifCond .eq 6, 3) := by decide +kernel
theorem dX6_march_10 : decode cX6_march 10 = .ok (.bipush (-3), 2) := by decide +kernel
theorem dX6_march_12 : decode cX6_march 12 = .ok (.ireturn, 1) := by decide +kernel
theorem dX6_march_13 : decode cX6_march 13 = .ok (.iconst 0, 1) := by decide +kernel
theorem dX6_march_14 : decode cX6_march 14 = .ok (.istore_n 1, 1) := by decide +kernel
theorem dX6_march_15 : decode cX6_march 15 = .ok (.iconst 0, 1) := by decide +kernel
theorem dX6_march_16 : decode cX6_march 16 = .ok (.istore_n 2, 1) := by decide +kernel
theorem dX6_march_17 : decode cX6_march 17 = .ok (.iload_n 2, 1) := by decide +kernel
theorem dX6_march_18 : decode cX6_march 18 = .ok (.aload_n 0, 1) := by decide +kernel
theorem dX6_march_19 : decode cX6_march 19 = .ok (.getfield 12, 3) := by decide +kernel
theorem dX6_march_22 : decode cX6_march 22 = .ok (.getfield 97, 3) := by decide +kernel
theorem dX6_march_25 : decode cX6_march 25 = .ok (.if_icmp .ge 51, 3) := by decide +kernel
theorem dX6_march_28 : decode cX6_march 28 = .ok (.aload_n 0, 1) := by decide +kernel
theorem dX6_march_29 : decode cX6_march 29 = .ok (.getfield 12, 3) := by decide +kernel
theorem dX6_march_32 : decode cX6_march 32 = .ok (.getfield 107, 3) := by decide +kernel
theorem dX6_march_35 : decode cX6_march 35 = .ok (.iload_n 2, 1) := by decide +kernel
theorem dX6_march_36 : decode cX6_march 36 = .ok (.iaload, 1) := by decide +kernel
theorem dX6_march_37 : decode cX6_march 37 = .ok (.aload_n 0, 1) := by decide +kernel
theorem dX6_march_38 : decode cX6_march 38 = .ok (.getfield 12, 3) := by decide +kernel
theorem dX6_march_41 : decode cX6_march 41 = .ok (.getfield 160, 3) := by decide +kernel
theorem dX6_march_44 : decode cX6_march 44 = .ok (.iload_n 2, 1) := by decide +kernel
theorem dX6_march_45 : decode cX6_march 45 = .ok (.iaload, 1) := by decide +kernel
theorem dX6_march_46 : decode cX6_march 46 = .ok (.if_icmp .eq 6, 3) := by decide +kernel
theorem dX6_march_49 : decode cX6_march 49 = .ok (.iinc 1 1, 3) := by decide +kernel
theorem dX6_march_52 : decode cX6_march 52 = .ok (.aload_n 0, 1) := by decide +kernel
theorem dX6_march_53 : decode cX6_march 53 = .ok (.getfield 12, 3) := by decide +kernel
theorem dX6_march_56 : decode cX6_march 56 = .ok (.getfield 107, 3) := by decide +kernel
theorem dX6_march_59 : decode cX6_march 59 = .ok (.iload_n 2, 1) := by decide +kernel
theorem dX6_march_60 : decode cX6_march 60 = .ok (.aload_n 0, 1) := by decide +kernel
theorem dX6_march_61 : decode cX6_march 61 = .ok (.getfield 12, 3) := by decide +kernel
theorem dX6_march_64 : decode cX6_march 64 = .ok (.getfield 160, 3) := by decide +kernel
theorem dX6_march_67 : decode cX6_march 67 = .ok (.iload_n 2, 1) := by decide +kernel
theorem dX6_march_68 : decode cX6_march 68 = .ok (.iaload, 1) := by decide +kernel
theorem dX6_march_69 : decode cX6_march 69 = .ok (.iastore, 1) := by decide +kernel
theorem dX6_march_70 : decode cX6_march 70 = .ok (.iinc 2 1, 3) := by decide +kernel
theorem dX6_march_73 : decode cX6_march 73 = .ok (.goto (-56), 3) := by decide +kernel
theorem dX6_march_76 : decode cX6_march 76 = .ok (.iload_n 1, 1) := by decide +kernel
theorem dX6_march_77 : decode cX6_march 77 = .ok (.ireturn, 1) := by decide +kernel
theorem dX6_seen_0 : decode cX6_seen 0 = .ok (.iload_n 1, 1) := by decide +kernel
theorem dX6_seen_1 : decode cX6_seen 1 = .ok (.iconst (-1), 1) := by decide +kernel
theorem dX6_seen_2 : decode cX6_seen 2 = .ok (.if_icmp .ne 13, 3) := by decide +kernel
theorem dX6_seen_5 : decode cX6_seen 5 = .ok (.aload_n 0, 1) := by decide +kernel
theorem dX6_seen_6 : decode cX6_seen 6 = .ok (.getfield 12, 3) := by decide +kernel
theorem dX6_seen_9 : decode cX6_seen 9 = .ok (.iconst 0, 1) := by decide +kernel
theorem dX6_seen_10 : decode cX6_seen 10 = .ok (.putfield 186, 3) := by decide +kernel
theorem dX6_seen_13 : decode cX6_seen 13 = .ok (.iconst 0, 1) := by decide +kernel
theorem dX6_seen_14 : decode cX6_seen 14 = .ok (.ireturn, 1) := by decide +kernel
theorem dX6_seen_15 : decode cX6_seen 15 = .ok (.iload_n 1, 1) := by decide +kernel
theorem dX6_seen_16 : decode cX6_seen 16 = .ok (.bipush 64, 2) := by decide +kernel
theorem dX6_seen_18 : decode cX6_seen 18 = .ok (.invokestatic 89, 3) := by decide +kernel
theorem dX6_seen_21 : decode cX6_seen 21 = .ok (.ifCond .ne 5, 3) := by decide +kernel
theorem dX6_seen_24 : decode cX6_seen 24 = .ok (.iconst (-1), 1) := by decide +kernel
theorem dX6_seen_25 : decode cX6_seen 25 = .ok (.ireturn, 1) := by decide +kernel
theorem dX6_seen_26 : decode cX6_seen 26 = .ok (.aload_n 0, 1) := by decide +kernel
theorem dX6_seen_27 : decode cX6_seen 27 = .ok (.getfield 12, 3) := by decide +kernel
theorem dX6_seen_30 : decode cX6_seen 30 = .ok (.getfield 186, 3) := by decide +kernel
theorem dX6_seen_33 : decode cX6_seen 33 = .ok (.bipush 10, 2) := by decide +kernel
theorem dX6_seen_35 : decode cX6_seen 35 = .ok (.if_icmp .lt 6, 3) := by decide +kernel
theorem dX6_seen_38 : decode cX6_seen 38 = .ok (.bipush (-4), 2) := by decide +kernel
theorem dX6_seen_40 : decode cX6_seen 40 = .ok (.ireturn, 1) := by decide +kernel
theorem dX6_seen_41 : decode cX6_seen 41 = .ok (.aload_n 0, 1) := by decide +kernel
theorem dX6_seen_42 : decode cX6_seen 42 = .ok (.getfield 12, 3) := by decide +kernel
theorem dX6_seen_45 : decode cX6_seen 45 = .ok (.getfield 189, 3) := by decide +kernel
theorem dX6_seen_48 : decode cX6_seen 48 = .ok (.aload_n 0, 1) := by decide +kernel
theorem dX6_seen_49 : decode cX6_seen 49 = .ok (.getfield 12, 3) := by decide +kernel
theorem dX6_seen_52 : decode cX6_seen 52 = .ok (.getfield 186, 3) := by decide +kernel
theorem dX6_seen_55 : decode cX6_seen 55 = .ok (.iload_n 1, 1) := by decide +kernel
theorem dX6_seen_56 : decode cX6_seen 56 = .ok (.iastore, 1) := by decide +kernel
theorem dX6_seen_57 : decode cX6_seen 57 = .ok (.aload_n 0, 1) := by decide +kernel
theorem dX6_seen_58 : decode cX6_seen 58 = .ok (.getfield 12, 3) := by decide +kernel
theorem dX6_seen_61 : decode cX6_seen 61 = .ok (.dup, 1) := by decide +kernel
theorem dX6_seen_62 : decode cX6_seen 62 = .ok (.getfield 186, 3) := by decide +kernel
theorem dX6_seen_65 : decode cX6_seen 65 = .ok (.iconst 1, 1) := by decide +kernel
theorem dX6_seen_66 : decode cX6_seen 66 = .ok (.iadd, 1) := by decide +kernel
theorem dX6_seen_67 : decode cX6_seen 67 = .ok (.putfield 186, 3) := by decide +kernel
theorem dX6_seen_70 : decode cX6_seen 70 = .ok (.aload_n 0, 1) := by decide +kernel
theorem dX6_seen_71 : decode cX6_seen 71 = .ok (.getfield 12, 3) := by decide +kernel
theorem dX6_seen_74 : decode cX6_seen 74 = .ok (.getfield 186, 3) := by decide +kernel
theorem dX6_seen_77 : decode cX6_seen 77 = .ok (.ireturn, 1) := by decide +kernel
theorem dX6_off_0 : decode cX6_off 0 = .ok (.iload_n 1, 1) := by decide +kernel
theorem dX6_off_1 : decode cX6_off 1 = .ok (.iconst 2, 1) := by decide +kernel
theorem dX6_off_2 : decode cX6_off 2 = .ok (.invokestatic 89, 3) := by decide +kernel
theorem dX6_off_5 : decode cX6_off 5 = .ok (.ifCond .ne 5, 3) := by decide +kernel
theorem dX6_off_8 : decode cX6_off 8 = .ok (.iconst (-1), 1) := by decide +kernel
theorem dX6_off_9 : decode cX6_off 9 = .ok (.ireturn, 1) := by decide +kernel
theorem dX6_off_10 : decode cX6_off 10 = .ok (.iconst 0, 1) := by decide +kernel
theorem dX6_off_11 : decode cX6_off 11 = .ok (.istore_n 2, 1) := by decide +kernel
theorem dX6_off_12 : decode cX6_off 12 = .ok (.bipush (-5), 2) := by decide +kernel
theorem dX6_off_14 : decode cX6_off 14 = .ok (.istore_n 3, 1) := by decide +kernel
theorem dX6_off_15 : decode cX6_off 15 = .ok (.iconst 0, 1) := by decide +kernel
theorem dX6_off_16 : decode cX6_off 16 = .ok (.istore 4, 2) := by decide +kernel
theorem dX6_off_18 : decode cX6_off 18 = .ok (.iconst 0, 1) := by decide +kernel
theorem dX6_off_19 : decode cX6_off 19 = .ok (.istore 5, 2) := by decide +kernel
theorem dX6_off_21 : decode cX6_off 21 = .ok (.iload 5, 2) := by decide +kernel
theorem dX6_off_23 : decode cX6_off 23 = .ok (.aload_n 0, 1) := by decide +kernel
theorem dX6_off_24 : decode cX6_off 24 = .ok (.getfield 12, 3) := by decide +kernel
theorem dX6_off_27 : decode cX6_off 27 = .ok (.getfield 97, 3) := by decide +kernel
theorem dX6_off_30 : decode cX6_off 30 = .ok (.if_icmp .ge 68, 3) := by decide +kernel
theorem dX6_off_33 : decode cX6_off 33 = .ok (.iload 5, 2) := by decide +kernel
theorem dX6_off_35 : decode cX6_off 35 = .ok (.aload_n 0, 1) := by decide +kernel
theorem dX6_off_36 : decode cX6_off 36 = .ok (.getfield 12, 3) := by decide +kernel
theorem dX6_off_39 : decode cX6_off 39 = .ok (.getfield 186, 3) := by decide +kernel
theorem dX6_off_42 : decode cX6_off 42 = .ok (.if_icmp .ge 56, 3) := by decide +kernel
theorem dX6_off_45 : decode cX6_off 45 = .ok (.aload_n 0, 1) := by decide +kernel
theorem dX6_off_46 : decode cX6_off 46 = .ok (.getfield 12, 3) := by decide +kernel
theorem dX6_off_49 : decode cX6_off 49 = .ok (.getfield 107, 3) := by decide +kernel
theorem dX6_off_52 : decode cX6_off 52 = .ok (.iload 5, 2) := by decide +kernel
theorem dX6_off_54 : decode cX6_off 54 = .ok (.iaload, 1) := by decide +kernel
theorem dX6_off_55 : decode cX6_off 55 = .ok (.aload_n 0, 1) := by decide +kernel
theorem dX6_off_56 : decode cX6_off 56 = .ok (.getfield 12, 3) := by decide +kernel
theorem dX6_off_59 : decode cX6_off 59 = .ok (.getfield 189, 3) := by decide +kernel
theorem dX6_off_62 : decode cX6_off 62 = .ok (.iload 5, 2) := by decide +kernel
theorem dX6_off_64 : decode cX6_off 64 = .ok (.iaload, 1) := by decide +kernel
theorem dX6_off_65 : decode cX6_off 65 = .ok (.invokestatic 183, 3) := by decide +kernel
theorem dX6_off_68 : decode cX6_off 68 = .ok (.istore 6, 2) := by decide +kernel
theorem dX6_off_70 : decode cX6_off 70 = .ok (.iload 6, 2) := by decide +kernel
theorem dX6_off_72 : decode cX6_off 72 = .ok (.ifCond .le 6, 3) := by decide +kernel
theorem dX6_off_75 : decode cX6_off 75 = .ok (.iinc 2 1, 3) := by decide +kernel
theorem dX6_off_78 : decode cX6_off 78 = .ok (.iload 6, 2) := by decide +kernel
theorem dX6_off_80 : decode cX6_off 80 = .ok (.iload 4, 2) := by decide +kernel
theorem dX6_off_82 : decode cX6_off 82 = .ok (.if_icmp .le 10, 3) := by decide +kernel
theorem dX6_off_85 : decode cX6_off 85 = .ok (.iload 6, 2) := by decide +kernel
theorem dX6_off_87 : decode cX6_off 87 = .ok (.istore 4, 2) := by decide +kernel
theorem dX6_off_89 : decode cX6_off 89 = .ok (.iload 5, 2) := by decide +kernel
theorem dX6_off_91 : decode cX6_off 91 = .ok (.istore_n 3, 1) := by decide +kernel
theorem dX6_off_92 : decode cX6_off 92 = .ok (.iinc 5 1, 3) := by decide +kernel
theorem dX6_off_95 : decode cX6_off 95 = .ok (.goto (-74), 3) := by decide +kernel
theorem dX6_off_98 : decode cX6_off 98 = .ok (.iload_n 1, 1) := by decide +kernel
theorem dX6_off_99 : decode cX6_off 99 = .ok (.ifCond .ne 7, 3) := by decide +kernel
theorem dX6_off_102 : decode cX6_off 102 = .ok (.iload_n 2, 1) := by decide +kernel
theorem dX6_off_103 : decode cX6_off 103 = .ok (.goto 4, 3) := by decide +kernel
theorem dX6_off_106 : decode cX6_off 106 = .ok (.iload_n 3, 1) := by decide +kernel
theorem dX6_off_107 : decode cX6_off 107 = .ok (.ireturn, 1) := by decide +kernel
theorem dX6_whom_0 : decode cX6_whom 0 = .ok (.aload_n 0, 1) := by decide +kernel
theorem dX6_whom_1 : decode cX6_whom 1 = .ok (.iload_n 1, 1) := by decide +kernel
theorem dX6_whom_2 : decode cX6_whom 2 = .ok (.invokevirtual 110, 3) := by decide +kernel
theorem dX6_whom_5 : decode cX6_whom 5 = .ok (.ifCond .eq 12, 3) := by decide +kernel
theorem dX6_whom_8 : decode cX6_whom 8 = .ok (.iload_n 2, 1) := by decide +kernel
theorem dX6_whom_9 : decode cX6_whom 9 = .ok (.bipush 8, 2) := by decide +kernel
theorem dX6_whom_11 : decode cX6_whom 11 = .ok (.invokestatic 89, 3) := by decide +kernel
theorem dX6_whom_14 : decode cX6_whom 14 = .ok (.ifCond .ne 5, 3) := by decide +kernel
theorem dX6_whom_17 : decode cX6_whom 17 = .ok (.iconst (-1), 1) := by decide +kernel
theorem dX6_whom_18 : decode cX6_whom 18 = .ok (.ireturn, 1) := by decide +kernel
theorem dX6_whom_19 : decode cX6_whom 19 = .ok (.iload_n 3, 1) := by decide +kernel
theorem dX6_whom_20 : decode cX6_whom 20 = .ok (.sipush 1000, 3) := by decide +kernel
theorem dX6_whom_23 : decode cX6_whom 23 = .ok (.invokestatic 89, 3) := by decide +kernel
theorem dX6_whom_26 : decode cX6_whom 26 = .ok (.ifCond .ne 6, 3) := by decide +kernel
theorem dX6_whom_29 : decode cX6_whom 29 = .ok (.bipush (-2), 2) := by decide +kernel
theorem dX6_whom_31 : decode cX6_whom 31 = .ok (.ireturn, 1) := by decide +kernel
theorem dX6_whom_32 : decode cX6_whom 32 = .ok (.aload_n 0, 1) := by decide +kernel
theorem dX6_whom_33 : decode cX6_whom 33 = .ok (.invokevirtual 114, 3) := by decide +kernel
theorem dX6_whom_36 : decode cX6_whom 36 = .ok (.pop, 1) := by decide +kernel
theorem dX6_whom_37 : decode cX6_whom 37 = .ok (.iconst 0, 1) := by decide +kernel
theorem dX6_whom_38 : decode cX6_whom 38 = .ok (.istore 4, 2) := by decide +kernel
theorem dX6_whom_40 : decode cX6_whom 40 = .ok (.iconst 0, 1) := by decide +kernel
theorem dX6_whom_41 : decode cX6_whom 41 = .ok (.istore 5, 2) := by decide +kernel
theorem dX6_whom_43 : decode cX6_whom 43 = .ok (.iload 5, 2) := by decide +kernel
theorem dX6_whom_45 : decode cX6_whom 45 = .ok (.bipush 7, 2) := by decide +kernel
theorem dX6_whom_47 : decode cX6_whom 47 = .ok (.if_icmp .ge 33, 3) := by decide +kernel
theorem dX6_whom_50 : decode cX6_whom 50 = .ok (.aload_n 0, 1) := by decide +kernel
theorem dX6_whom_51 : decode cX6_whom 51 = .ok (.getfield 58, 3) := by decide +kernel
theorem dX6_whom_54 : decode cX6_whom 54 = .ok (.iload_n 2, 1) := by decide +kernel
theorem dX6_whom_55 : decode cX6_whom 55 = .ok (.iload_n 1, 1) := by decide +kernel
theorem dX6_whom_56 : decode cX6_whom 56 = .ok (.iload 5, 2) := by decide +kernel
theorem dX6_whom_58 : decode cX6_whom 58 = .ok (.invokevirtual 192, 3) := by decide +kernel
theorem dX6_whom_61 : decode cX6_whom 61 = .ok (.iload_n 3, 1) := by decide +kernel
theorem dX6_whom_62 : decode cX6_whom 62 = .ok (.if_icmp .ne 12, 3) := by decide +kernel
theorem dX6_whom_65 : decode cX6_whom 65 = .ok (.iload 4, 2) := by decide +kernel
theorem dX6_whom_67 : decode cX6_whom 67 = .ok (.iconst 1, 1) := by decide +kernel
theorem dX6_whom_68 : decode cX6_whom 68 = .ok (.iload 5, 2) := by decide +kernel
theorem dX6_whom_70 : decode cX6_whom 70 = .ok (.ishl, 1) := by decide +kernel
theorem dX6_whom_71 : decode cX6_whom 71 = .ok (.ior, 1) := by decide +kernel
theorem dX6_whom_72 : decode cX6_whom 72 = .ok (.istore 4, 2) := by decide +kernel
theorem dX6_whom_74 : decode cX6_whom 74 = .ok (.iinc 5 1, 3) := by decide +kernel
theorem dX6_whom_77 : decode cX6_whom 77 = .ok (.goto (-34), 3) := by decide +kernel
theorem dX6_whom_80 : decode cX6_whom 80 = .ok (.iload 4, 2) := by decide +kernel
theorem dX6_whom_82 : decode cX6_whom 82 = .ok (.ireturn, 1) := by decide +kernel
theorem dX6_out_0 : decode cX6_out 0 = .ok (.aload_n 0, 1) := by decide +kernel
theorem dX6_out_1 : decode cX6_out 1 = .ok (.getfield 12, 3) := by decide +kernel
theorem dX6_out_4 : decode cX6_out 4 = .ok (.getfield 97, 3) := by decide +kernel
theorem dX6_out_7 : decode cX6_out 7 = .ok (.iconst 2, 1) := by decide +kernel
theorem dX6_out_8 : decode cX6_out 8 = .ok (.if_icmp .ge 6, 3) := by decide +kernel
theorem dX6_out_11 : decode cX6_out 11 = .ok (.bipush (-5), 2) := by decide +kernel
theorem dX6_out_13 : decode cX6_out 13 = .ok (.ireturn, 1) := by decide +kernel
theorem dX6_out_14 : decode cX6_out 14 = .ok (.aload_n 0, 1) := by decide +kernel
theorem dX6_out_15 : decode cX6_out 15 = .ok (.invokevirtual 114, 3) := by decide +kernel
theorem dX6_out_18 : decode cX6_out 18 = .ok (.pop, 1) := by decide +kernel
theorem dX6_out_19 : decode cX6_out 19 = .ok (.iconst (-1), 1) := by decide +kernel
theorem dX6_out_20 : decode cX6_out 20 = .ok (.istore_n 1, 1) := by decide +kernel
theorem dX6_out_21 : decode cX6_out 21 = .ok (.iconst 0, 1) := by decide +kernel
theorem dX6_out_22 : decode cX6_out 22 = .ok (.istore_n 2, 1) := by decide +kernel
theorem dX6_out_23 : decode cX6_out 23 = .ok (.iconst 0, 1) := by decide +kernel
theorem dX6_out_24 : decode cX6_out 24 = .ok (.istore_n 3, 1) := by decide +kernel
theorem dX6_out_25 : decode cX6_out 25 = .ok (.iload_n 3, 1) := by decide +kernel
theorem dX6_out_26 : decode cX6_out 26 = .ok (.aload_n 0, 1) := by decide +kernel
theorem dX6_out_27 : decode cX6_out 27 = .ok (.getfield 12, 3) := by decide +kernel
theorem dX6_out_30 : decode cX6_out 30 = .ok (.getfield 97, 3) := by decide +kernel
theorem dX6_out_33 : decode cX6_out 33 = .ok (.if_icmp .ge 35, 3) := by decide +kernel
theorem dX6_out_36 : decode cX6_out 36 = .ok (.aload_n 0, 1) := by decide +kernel
theorem dX6_out_37 : decode cX6_out 37 = .ok (.getfield 58, 3) := by decide +kernel
theorem dX6_out_40 : decode cX6_out 40 = .ok (.iload_n 3, 1) := by decide +kernel
theorem dX6_out_41 : decode cX6_out 41 = .ok (.invokevirtual 196, 3) := by decide +kernel
theorem dX6_out_44 : decode cX6_out 44 = .ok (.istore 4, 2) := by decide +kernel
theorem dX6_out_46 : decode cX6_out 46 = .ok (.iload_n 1, 1) := by decide +kernel
theorem dX6_out_47 : decode cX6_out 47 = .ok (.iconst (-1), 1) := by decide +kernel
theorem dX6_out_48 : decode cX6_out 48 = .ok (.if_icmp .eq 9, 3) := by decide +kernel
theorem dX6_out_51 : decode cX6_out 51 = .ok (.iload 4, 2) := by decide +kernel
theorem dX6_out_53 : decode cX6_out 53 = .ok (.iload_n 2, 1) := by decide +kernel
theorem dX6_out_54 : decode cX6_out 54 = .ok (.if_icmp .ge 8, 3) := by decide +kernel
theorem dX6_out_57 : decode cX6_out 57 = .ok (.iload_n 3, 1) := by decide +kernel
theorem dX6_out_58 : decode cX6_out 58 = .ok (.istore_n 1, 1) := by decide +kernel
theorem dX6_out_59 : decode cX6_out 59 = .ok (.iload 4, 2) := by decide +kernel
theorem dX6_out_61 : decode cX6_out 61 = .ok (.istore_n 2, 1) := by decide +kernel
theorem dX6_out_62 : decode cX6_out 62 = .ok (.iinc 3 1, 3) := by decide +kernel
theorem dX6_out_65 : decode cX6_out 65 = .ok (.goto (-40), 3) := by decide +kernel
theorem dX6_out_68 : decode cX6_out 68 = .ok (.iload_n 1, 1) := by decide +kernel
theorem dX6_out_69 : decode cX6_out 69 = .ok (.ireturn, 1) := by decide +kernel
theorem dX6_act_0 : decode cX6_act 0 = .ok (.aload_n 0, 1) := by decide +kernel
theorem dX6_act_1 : decode cX6_act 1 = .ok (.getfield 41, 3) := by decide +kernel
theorem dX6_act_4 : decode cX6_act 4 = .ok (.iconst 0, 1) := by decide +kernel
theorem dX6_act_5 : decode cX6_act 5 = .ok (.putfield 199, 3) := by decide +kernel
theorem dX6_act_8 : decode cX6_act 8 = .ok (.aload_n 0, 1) := by decide +kernel
theorem dX6_act_9 : decode cX6_act 9 = .ok (.iload_n 1, 1) := by decide +kernel
theorem dX6_act_10 : decode cX6_act 10 = .ok (.invokevirtual 110, 3) := by decide +kernel
theorem dX6_act_13 : decode cX6_act 13 = .ok (.ifCond .eq 11, 3) := by decide +kernel
theorem dX6_act_16 : decode cX6_act 16 = .ok (.iload_n 2, 1) := by decide +kernel
theorem dX6_act_17 : decode cX6_act 17 = .ok (.iconst 3, 1) := by decide +kernel
theorem dX6_act_18 : decode cX6_act 18 = .ok (.invokestatic 89, 3) := by decide +kernel
theorem dX6_act_21 : decode cX6_act 21 = .ok (.ifCond .ne 5, 3) := by decide +kernel
theorem dX6_act_24 : decode cX6_act 24 = .ok (.iconst 0, 1) := by decide +kernel
theorem dX6_act_25 : decode cX6_act 25 = .ok (.ireturn, 1) := by decide +kernel
theorem dX6_act_26 : decode cX6_act 26 = .ok (.aload_n 0, 1) := by decide +kernel
theorem dX6_act_27 : decode cX6_act 27 = .ok (.getfield 41, 3) := by decide +kernel
theorem dX6_act_30 : decode cX6_act 30 = .ok (.aload_n 0, 1) := by decide +kernel
theorem dX6_act_31 : decode cX6_act 31 = .ok (.getfield 12, 3) := by decide +kernel
theorem dX6_act_34 : decode cX6_act 34 = .ok (.getfield 100, 3) := by decide +kernel
theorem dX6_act_37 : decode cX6_act 37 = .ok (.iload_n 1, 1) := by decide +kernel
theorem dX6_act_38 : decode cX6_act 38 = .ok (.iaload, 1) := by decide +kernel
theorem dX6_act_39 : decode cX6_act 39 = .ok (.putfield 202, 3) := by decide +kernel
theorem dX6_act_42 : decode cX6_act 42 = .ok (.aload_n 0, 1) := by decide +kernel
theorem dX6_act_43 : decode cX6_act 43 = .ok (.getfield 41, 3) := by decide +kernel
theorem dX6_act_46 : decode cX6_act 46 = .ok (.iload_n 1, 1) := by decide +kernel
theorem dX6_act_47 : decode cX6_act 47 = .ok (.putfield 204, 3) := by decide +kernel
theorem dX6_act_50 : decode cX6_act 50 = .ok (.aload_n 0, 1) := by decide +kernel
theorem dX6_act_51 : decode cX6_act 51 = .ok (.getfield 41, 3) := by decide +kernel
theorem dX6_act_54 : decode cX6_act 54 = .ok (.aload_n 0, 1) := by decide +kernel
theorem dX6_act_55 : decode cX6_act 55 = .ok (.getfield 12, 3) := by decide +kernel
theorem dX6_act_58 : decode cX6_act 58 = .ok (.getfield 104, 3) := by decide +kernel
theorem dX6_act_61 : decode cX6_act 61 = .ok (.iload_n 1, 1) := by decide +kernel
theorem dX6_act_62 : decode cX6_act 62 = .ok (.iaload, 1) := by decide +kernel
theorem dX6_act_63 : decode cX6_act 63 = .ok (.putfield 207, 3) := by decide +kernel
theorem dX6_act_66 : decode cX6_act 66 = .ok (.aload_n 0, 1) := by decide +kernel
theorem dX6_act_67 : decode cX6_act 67 = .ok (.getfield 41, 3) := by decide +kernel
theorem dX6_act_70 : decode cX6_act 70 = .ok (.aload_n 0, 1) := by decide +kernel
theorem dX6_act_71 : decode cX6_act 71 = .ok (.getfield 41, 3) := by decide +kernel
theorem dX6_act_74 : decode cX6_act 74 = .ok (.getfield 202, 3) := by decide +kernel
theorem dX6_act_77 : decode cX6_act 77 = .ok (.iload_n 2, 1) := by decide +kernel
theorem dX6_act_78 : decode cX6_act 78 = .ok (.iload_n 3, 1) := by decide +kernel
theorem dX6_act_79 : decode cX6_act 79 = .ok (.iconst 0, 1) := by decide +kernel
theorem dX6_act_80 : decode cX6_act 80 = .ok (.invokevirtual 209, 3) := by decide +kernel
theorem dX6_act_83 : decode cX6_act 83 = .ok (.ireturn, 1) := by decide +kernel
theorem dX6_trace_0 : decode cX6_trace 0 = .ok (.iload_n 1, 1) := by decide +kernel
theorem dX6_trace_1 : decode cX6_trace 1 = .ok (.ifCond .lt 20, 3) := by decide +kernel
theorem dX6_trace_4 : decode cX6_trace 4 = .ok (.iload_n 1, 1) := by decide +kernel
theorem dX6_trace_5 : decode cX6_trace 5 = .ok (.aload_n 0, 1) := by decide +kernel
theorem dX6_trace_6 : decode cX6_trace 6 = .ok (.getfield 41, 3) := by decide +kernel
theorem dX6_trace_9 : decode cX6_trace 9 = .ok (.getfield 199, 3) := by decide +kernel
theorem dX6_trace_12 : decode cX6_trace 12 = .ok (.if_icmp .ge 9, 3) := by decide +kernel
theorem dX6_trace_15 : decode cX6_trace 15 = .ok (.iload_n 1, 1) := by decide +kernel
theorem dX6_trace_16 : decode cX6_trace 16 = .ok (.bipush 20, 2) := by decide +kernel
theorem dX6_trace_18 : decode cX6_trace 18 = .ok (.if_icmp .lt 5, 3) := by decide +kernel
theorem dX6_trace_21 : decode cX6_trace 21 = .ok (.iconst (-1), 1) := by decide +kernel
theorem dX6_trace_22 : decode cX6_trace 22 = .ok (.ireturn, 1) := by decide +kernel
theorem dX6_trace_23 : decode cX6_trace 23 = .ok (.aload_n 0, 1) := by decide +kernel
theorem dX6_trace_24 : decode cX6_trace 24 = .ok (.getfield 41, 3) := by decide +kernel
theorem dX6_trace_27 : decode cX6_trace 27 = .ok (.getfield 213, 3) := by decide +kernel
theorem dX6_trace_30 : decode cX6_trace 30 = .ok (.iload_n 1, 1) := by decide +kernel
theorem dX6_trace_31 : decode cX6_trace 31 = .ok (.iaload, 1) := by decide +kernel
theorem dX6_trace_32 : decode cX6_trace 32 = .ok (.ireturn, 1) := by decide +kernel
theorem dX6_as_0 : decode cX6_as 0 = .ok (.aload_n 0, 1) := by decide +kernel
theorem dX6_as_1 : decode cX6_as 1 = .ok (.iload_n 1, 1) := by decide +kernel
theorem dX6_as_2 : decode cX6_as 2 = .ok (.invokevirtual 110, 3) := by decide +kernel
theorem dX6_as_5 : decode cX6_as 5 = .ok (.ifCond .eq 12, 3) := by decide +kernel
theorem dX6_as_8 : decode cX6_as 8 = .ok (.iload_n 2, 1) := by decide +kernel
theorem dX6_as_9 : decode cX6_as 9 = .ok (.bipush 7, 2) := by decide +kernel
theorem dX6_as_11 : decode cX6_as 11 = .ok (.invokestatic 89, 3) := by decide +kernel
theorem dX6_as_14 : decode cX6_as 14 = .ok (.ifCond .ne 5, 3) := by decide +kernel
theorem dX6_as_17 : decode cX6_as 17 = .ok (.iconst (-1), 1) := by decide +kernel
theorem dX6_as_18 : decode cX6_as 18 = .ok (.ireturn, 1) := by decide +kernel
theorem dX6_as_19 : decode cX6_as 19 = .ok (.aload_n 0, 1) := by decide +kernel
theorem dX6_as_20 : decode cX6_as 20 = .ok (.getfield 12, 3) := by decide +kernel
theorem dX6_as_23 : decode cX6_as 23 = .ok (.getfield 100, 3) := by decide +kernel
theorem dX6_as_26 : decode cX6_as 26 = .ok (.iload_n 1, 1) := by decide +kernel
theorem dX6_as_27 : decode cX6_as 27 = .ok (.iaload, 1) := by decide +kernel
theorem dX6_as_28 : decode cX6_as 28 = .ok (.iload_n 2, 1) := by decide +kernel
theorem dX6_as_29 : decode cX6_as 29 = .ok (.invokestatic 216, 3) := by decide +kernel
theorem dX6_as_32 : decode cX6_as 32 = .ok (.ifCond .eq 15, 3) := by decide +kernel
theorem dX6_as_35 : decode cX6_as 35 = .ok (.aload_n 0, 1) := by decide +kernel
theorem dX6_as_36 : decode cX6_as 36 = .ok (.getfield 12, 3) := by decide +kernel
theorem dX6_as_39 : decode cX6_as 39 = .ok (.getfield 104, 3) := by decide +kernel
theorem dX6_as_42 : decode cX6_as 42 = .ok (.iload_n 1, 1) := by decide +kernel
theorem dX6_as_43 : decode cX6_as 43 = .ok (.iaload, 1) := by decide +kernel
theorem dX6_as_44 : decode cX6_as 44 = .ok (.goto 5, 3) := by decide +kernel
theorem dX6_as_47 : decode cX6_as 47 = .ok (.bipush (-6), 2) := by decide +kernel
theorem dX6_as_49 : decode cX6_as 49 = .ok (.ireturn, 1) := by decide +kernel
theorem dX6_image_0 : decode cX6_image 0 = .ok (.aload_n 0, 1) := by decide +kernel
theorem dX6_image_1 : decode cX6_image 1 = .ok (.getfield 16, 3) := by decide +kernel
theorem dX6_image_4 : decode cX6_image 4 = .ok (.aload_n 0, 1) := by decide +kernel
theorem dX6_image_5 : decode cX6_image 5 = .ok (.getfield 12, 3) := by decide +kernel
theorem dX6_image_8 : decode cX6_image 8 = .ok (.invokevirtual 219, 3) := by decide +kernel
theorem dX6_image_11 : decode cX6_image 11 = .ok (.aload_n 0, 1) := by decide +kernel
theorem dX6_image_12 : decode cX6_image 12 = .ok (.iconst 1, 1) := by decide +kernel
theorem dX6_image_13 : decode cX6_image 13 = .ok (.putfield 19, 3) := by decide +kernel
theorem dX6_image_16 : decode cX6_image 16 = .ok (.aload_n 0, 1) := by decide +kernel
theorem dX6_image_17 : decode cX6_image 17 = .ok (.getfield 12, 3) := by decide +kernel
theorem dX6_image_20 : decode cX6_image 20 = .ok (.getfield 97, 3) := by decide +kernel
theorem dX6_image_23 : decode cX6_image 23 = .ok (.ireturn, 1) := by decide +kernel
theorem dX6_undo_0 : decode cX6_undo 0 = .ok (.aload_n 0, 1) := by decide +kernel
theorem dX6_undo_1 : decode cX6_undo 1 = .ok (.getfield 19, 3) := by decide +kernel
theorem dX6_undo_4 : decode cX6_undo 4 = .ok (.ifCond .ne 6, 3) := by decide +kernel
theorem dX6_undo_7 : decode cX6_undo 7 = .ok (.bipush (-3), 2) := by decide +kernel
theorem dX6_undo_9 : decode cX6_undo 9 = .ok (.ireturn, 1) := by decide +kernel
theorem dX6_undo_10 : decode cX6_undo 10 = .ok (.aload_n 0, 1) := by decide +kernel
theorem dX6_undo_11 : decode cX6_undo 11 = .ok (.getfield 12, 3) := by decide +kernel
theorem dX6_undo_14 : decode cX6_undo 14 = .ok (.aload_n 0, 1) := by decide +kernel
theorem dX6_undo_15 : decode cX6_undo 15 = .ok (.getfield 16, 3) := by decide +kernel
theorem dX6_undo_18 : decode cX6_undo 18 = .ok (.invokevirtual 219, 3) := by decide +kernel
theorem dX6_undo_21 : decode cX6_undo 21 = .ok (.aload_n 0, 1) := by decide +kernel
theorem dX6_undo_22 : decode cX6_undo 22 = .ok (.getfield 12, 3) := by decide +kernel
theorem dX6_undo_25 : decode cX6_undo 25 = .ok (.getfield 97, 3) := by decide +kernel
theorem dX6_undo_28 : decode cX6_undo 28 = .ok (.ireturn, 1) := by decide +kernel
theorem dX6_count_0 : decode cX6_count 0 = .ok (.iload_n 1, 1) := by decide +kernel
theorem dX6_count_1 : decode cX6_count 1 = .ok (.tableswitch 99 0 6 #[43, 51, 59, 67, 75, 83, 91], 43) := by decide +kernel
theorem dX6_count_44 : decode cX6_count 44 = .ok (.aload_n 0, 1) := by decide +kernel
theorem dX6_count_45 : decode cX6_count 45 = .ok (.getfield 12, 3) := by decide +kernel
theorem dX6_count_48 : decode cX6_count 48 = .ok (.getfield 97, 3) := by decide +kernel
theorem dX6_count_51 : decode cX6_count 51 = .ok (.ireturn, 1) := by decide +kernel
theorem dX6_count_52 : decode cX6_count 52 = .ok (.aload_n 0, 1) := by decide +kernel
theorem dX6_count_53 : decode cX6_count 53 = .ok (.getfield 12, 3) := by decide +kernel
theorem dX6_count_56 : decode cX6_count 56 = .ok (.getfield 70, 3) := by decide +kernel
theorem dX6_count_59 : decode cX6_count 59 = .ok (.ireturn, 1) := by decide +kernel
theorem dX6_count_60 : decode cX6_count 60 = .ok (.aload_n 0, 1) := by decide +kernel
theorem dX6_count_61 : decode cX6_count 61 = .ok (.getfield 12, 3) := by decide +kernel
theorem dX6_count_64 : decode cX6_count 64 = .ok (.getfield 154, 3) := by decide +kernel
theorem dX6_count_67 : decode cX6_count 67 = .ok (.ireturn, 1) := by decide +kernel
theorem dX6_count_68 : decode cX6_count 68 = .ok (.aload_n 0, 1) := by decide +kernel
theorem dX6_count_69 : decode cX6_count 69 = .ok (.getfield 12, 3) := by decide +kernel
theorem dX6_count_72 : decode cX6_count 72 = .ok (.getfield 186, 3) := by decide +kernel
theorem dX6_count_75 : decode cX6_count 75 = .ok (.ireturn, 1) := by decide +kernel
theorem dX6_count_76 : decode cX6_count 76 = .ok (.aload_n 0, 1) := by decide +kernel
theorem dX6_count_77 : decode cX6_count 77 = .ok (.getfield 12, 3) := by decide +kernel
theorem dX6_count_80 : decode cX6_count 80 = .ok (.getfield 62, 3) := by decide +kernel
theorem dX6_count_83 : decode cX6_count 83 = .ok (.ireturn, 1) := by decide +kernel
theorem dX6_count_84 : decode cX6_count 84 = .ok (.aload_n 0, 1) := by decide +kernel
theorem dX6_count_85 : decode cX6_count 85 = .ok (.getfield 41, 3) := by decide +kernel
theorem dX6_count_88 : decode cX6_count 88 = .ok (.getfield 199, 3) := by decide +kernel
theorem dX6_count_91 : decode cX6_count 91 = .ok (.ireturn, 1) := by decide +kernel
theorem dX6_count_92 : decode cX6_count 92 = .ok (.aload_n 0, 1) := by decide +kernel
theorem dX6_count_93 : decode cX6_count 93 = .ok (.getfield 12, 3) := by decide +kernel
theorem dX6_count_96 : decode cX6_count 96 = .ok (.getfield 127, 3) := by decide +kernel
theorem dX6_count_99 : decode cX6_count 99 = .ok (.ireturn, 1) := by decide +kernel
theorem dX6_count_100 : decode cX6_count 100 = .ok (.iconst (-1), 1) := by decide +kernel
theorem dX6_count_101 : decode cX6_count 101 = .ok (.ireturn, 1) := by decide +kernel
theorem dX6_isPlayer_0 : decode cX6_isPlayer 0 = .ok (.iload_n 1, 1) := by decide +kernel
theorem dX6_isPlayer_1 : decode cX6_isPlayer 1 = .ok (.aload_n 0, 1) := by decide +kernel
theorem dX6_isPlayer_2 : decode cX6_isPlayer 2 = .ok (.getfield 12, 3) := by decide +kernel
theorem dX6_isPlayer_5 : decode cX6_isPlayer 5 = .ok (.getfield 97, 3) := by decide +kernel
theorem dX6_isPlayer_8 : decode cX6_isPlayer 8 = .ok (.invokestatic 89, 3) := by decide +kernel
theorem dX6_isPlayer_11 : decode cX6_isPlayer 11 = .ok (.ireturn, 1) := by decide +kernel
theorem dX6_held_0 : decode cX6_held 0 = .ok (.aload_n 0, 1) := by decide +kernel
theorem dX6_held_1 : decode cX6_held 1 = .ok (.getfield 25, 3) := by decide +kernel
theorem dX6_held_4 : decode cX6_held 4 = .ok (.aload_n 0, 1) := by decide +kernel
theorem dX6_held_5 : decode cX6_held 5 = .ok (.getfield 12, 3) := by decide +kernel
theorem dX6_held_8 : decode cX6_held 8 = .ok (.getfield 70, 3) := by decide +kernel
theorem dX6_held_11 : decode cX6_held 11 = .ok (.aaload, 1) := by decide +kernel
theorem dX6_held_12 : decode cX6_held 12 = .ok (.areturn, 1) := by decide +kernel
theorem dX6_listen_0 : decode cX6_listen 0 = .ok (.aload_n 0, 1) := by decide +kernel
theorem dX6_listen_1 : decode cX6_listen 1 = .ok (.getfield 58, 3) := by decide +kernel
theorem dX6_listen_4 : decode cX6_listen 4 = .ok (.aload_n 0, 1) := by decide +kernel
theorem dX6_listen_5 : decode cX6_listen 5 = .ok (.invokevirtual 76, 3) := by decide +kernel
theorem dX6_listen_8 : decode cX6_listen 8 = .ok (.invokevirtual 222, 3) := by decide +kernel
theorem dX6_listen_11 : decode cX6_listen 11 = .ok (.aload_n 0, 1) := by decide +kernel
theorem dX6_listen_12 : decode cX6_listen 12 = .ok (.getfield 58, 3) := by decide +kernel
theorem dX6_listen_15 : decode cX6_listen 15 = .ok (.areturn, 1) := by decide +kernel
theorem dX6_findWay_0 : decode cX6_findWay 0 = .ok (.aload_n 0, 1) := by decide +kernel
theorem dX6_findWay_1 : decode cX6_findWay 1 = .ok (.getfield 12, 3) := by decide +kernel
theorem dX6_findWay_4 : decode cX6_findWay 4 = .ok (.invokevirtual 176, 3) := by decide +kernel
theorem dX6_findWay_7 : decode cX6_findWay 7 = .ok (.ifCond .eq 6, 3) := by decide +kernel
theorem dX6_findWay_10 : decode cX6_findWay 10 = .ok (.bipush (-5), 2) := by decide +kernel
theorem dX6_findWay_12 : decode cX6_findWay 12 = .ok (.ireturn, 1) := by decide +kernel
theorem dX6_findWay_13 : decode cX6_findWay 13 = .ok (.aload_n 0, 1) := by decide +kernel
theorem dX6_findWay_14 : decode cX6_findWay 14 = .ok (.getfield 12, 3) := by decide +kernel
theorem dX6_findWay_17 : decode cX6_findWay 17 = .ok (.getfield 97, 3) := by decide +kernel
theorem dX6_findWay_20 : decode cX6_findWay 20 = .ok (.bipush 6, 2) := by decide +kernel
theorem dX6_findWay_22 : decode cX6_findWay 22 = .ok (.if_icmp .le 6, 3) := by decide +kernel
theorem dX6_findWay_25 : decode cX6_findWay 25 = .ok (.bipush (-9), 2) := by decide +kernel
theorem dX6_findWay_27 : decode cX6_findWay 27 = .ok (.ireturn, 1) := by decide +kernel
theorem dX6_findWay_28 : decode cX6_findWay 28 = .ok (.aload_n 0, 1) := by decide +kernel
theorem dX6_findWay_29 : decode cX6_findWay 29 = .ok (.getfield 34, 3) := by decide +kernel
theorem dX6_findWay_32 : decode cX6_findWay 32 = .ok (.invokevirtual 226, 3) := by decide +kernel
theorem dX6_findWay_35 : decode cX6_findWay 35 = .ok (.iconst 0, 1) := by decide +kernel
theorem dX6_findWay_36 : decode cX6_findWay 36 = .ok (.ireturn, 1) := by decide +kernel
theorem dX6_isBelow_0 : decode cX6_isBelow 0 = .ok (.iload_n 0, 1) := by decide +kernel
theorem dX6_isBelow_1 : decode cX6_isBelow 1 = .ok (.ifCond .lt 12, 3) := by decide +kernel
theorem dX6_isBelow_4 : decode cX6_isBelow 4 = .ok (.iload_n 0, 1) := by decide +kernel
theorem dX6_isBelow_5 : decode cX6_isBelow 5 = .ok (.iload_n 1, 1) := by decide +kernel
theorem dX6_isBelow_6 : decode cX6_isBelow 6 = .ok (.if_icmp .ge 7, 3) := by decide +kernel
theorem dX6_isBelow_9 : decode cX6_isBelow 9 = .ok (.iconst 1, 1) := by decide +kernel
theorem dX6_isBelow_10 : decode cX6_isBelow 10 = .ok (.goto 4, 3) := by decide +kernel
theorem dX6_isBelow_13 : decode cX6_isBelow 13 = .ok (.iconst 0, 1) := by decide +kernel
theorem dX6_isBelow_14 : decode cX6_isBelow 14 = .ok (.ireturn, 1) := by decide +kernel
theorem dX6_rowOf_0 : decode cX6_rowOf 0 = .ok (.iload_n 0, 1) := by decide +kernel
theorem dX6_rowOf_1 : decode cX6_rowOf 1 = .ok (.iconst 3, 1) := by decide +kernel
theorem dX6_rowOf_2 : decode cX6_rowOf 2 = .ok (.ishr, 1) := by decide +kernel
theorem dX6_rowOf_3 : decode cX6_rowOf 3 = .ok (.ireturn, 1) := by decide +kernel
theorem dX6_columnOf_0 : decode cX6_columnOf 0 = .ok (.iload_n 0, 1) := by decide +kernel
theorem dX6_columnOf_1 : decode cX6_columnOf 1 = .ok (.bipush 7, 2) := by decide +kernel
theorem dX6_columnOf_3 : decode cX6_columnOf 3 = .ok (.iand, 1) := by decide +kernel
theorem dX6_columnOf_4 : decode cX6_columnOf 4 = .ok (.ireturn, 1) := by decide +kernel
theorem dX6_placeOfSeat_0 : decode cX6_placeOfSeat 0 = .ok (.iload_n 0, 1) := by decide +kernel
theorem dX6_placeOfSeat_1 : decode cX6_placeOfSeat 1 = .ok (.bipush 8, 2) := by decide +kernel
theorem dX6_placeOfSeat_3 : decode cX6_placeOfSeat 3 = .ok (.isub, 1) := by decide +kernel
theorem dX6_placeOfSeat_4 : decode cX6_placeOfSeat 4 = .ok (.ireturn, 1) := by decide +kernel
theorem dX6_far_0 : decode cX6_far 0 = .ok (.iload_n 0, 1) := by decide +kernel
theorem dX6_far_1 : decode cX6_far 1 = .ok (.invokestatic 229, 3) := by decide +kernel
theorem dX6_far_4 : decode cX6_far 4 = .ok (.iload_n 1, 1) := by decide +kernel
theorem dX6_far_5 : decode cX6_far 5 = .ok (.invokestatic 229, 3) := by decide +kernel
theorem dX6_far_8 : decode cX6_far 8 = .ok (.isub, 1) := by decide +kernel
theorem dX6_far_9 : decode cX6_far 9 = .ok (.invokestatic 232, 3) := by decide +kernel
theorem dX6_far_12 : decode cX6_far 12 = .ok (.iload_n 0, 1) := by decide +kernel
theorem dX6_far_13 : decode cX6_far 13 = .ok (.invokestatic 235, 3) := by decide +kernel
theorem dX6_far_16 : decode cX6_far 16 = .ok (.iload_n 1, 1) := by decide +kernel
theorem dX6_far_17 : decode cX6_far 17 = .ok (.invokestatic 235, 3) := by decide +kernel
theorem dX6_far_20 : decode cX6_far 20 = .ok (.isub, 1) := by decide +kernel
theorem dX6_far_21 : decode cX6_far 21 = .ok (.invokestatic 232, 3) := by decide +kernel
theorem dX6_far_24 : decode cX6_far 24 = .ok (.invokestatic 149, 3) := by decide +kernel
theorem dX6_far_27 : decode cX6_far 27 = .ok (.ireturn, 1) := by decide +kernel
theorem dX6_isUnder_0 : decode cX6_isUnder 0 = .ok (.iload_n 0, 1) := by decide +kernel
theorem dX6_isUnder_1 : decode cX6_isUnder 1 = .ok (.istore_n 2, 1) := by decide +kernel
theorem dX6_isUnder_2 : decode cX6_isUnder 2 = .ok (.iconst 0, 1) := by decide +kernel
theorem dX6_isUnder_3 : decode cX6_isUnder 3 = .ok (.istore_n 3, 1) := by decide +kernel
theorem dX6_isUnder_4 : decode cX6_isUnder 4 = .ok (.iload_n 3, 1) := by decide +kernel
theorem dX6_isUnder_5 : decode cX6_isUnder 5 = .ok (.bipush 7, 2) := by decide +kernel
theorem dX6_isUnder_7 : decode cX6_isUnder 7 = .ok (.if_icmp .ge 27, 3) := by decide +kernel
theorem dX6_isUnder_10 : decode cX6_isUnder 10 = .ok (.iload_n 2, 1) := by decide +kernel
theorem dX6_isUnder_11 : decode cX6_isUnder 11 = .ok (.iconst (-1), 1) := by decide +kernel
theorem dX6_isUnder_12 : decode cX6_isUnder 12 = .ok (.if_icmp .eq 22, 3) := by decide +kernel
theorem dX6_isUnder_15 : decode cX6_isUnder 15 = .ok (.iload_n 2, 1) := by decide +kernel
theorem dX6_isUnder_16 : decode cX6_isUnder 16 = .ok (.iload_n 1, 1) := by decide +kernel
theorem dX6_isUnder_17 : decode cX6_isUnder 17 = .ok (.if_icmp .ne 5, 3) := by decide +kernel
theorem dX6_isUnder_20 : decode cX6_isUnder 20 = .ok (.iconst 1, 1) := by decide +kernel
theorem dX6_isUnder_21 : decode cX6_isUnder 21 = .ok (.ireturn, 1) := by decide +kernel
theorem dX6_isUnder_22 : decode cX6_isUnder 22 = .ok (.getstatic 238, 3) := by decide +kernel
theorem dX6_isUnder_25 : decode cX6_isUnder 25 = .ok (.iload_n 2, 1) := by decide +kernel
theorem dX6_isUnder_26 : decode cX6_isUnder 26 = .ok (.iaload, 1) := by decide +kernel
theorem dX6_isUnder_27 : decode cX6_isUnder 27 = .ok (.istore_n 2, 1) := by decide +kernel
theorem dX6_isUnder_28 : decode cX6_isUnder 28 = .ok (.iinc 3 1, 3) := by decide +kernel
theorem dX6_isUnder_31 : decode cX6_isUnder 31 = .ok (.goto (-27), 3) := by decide +kernel
theorem dX6_isUnder_34 : decode cX6_isUnder 34 = .ok (.iconst 0, 1) := by decide +kernel
theorem dX6_isUnder_35 : decode cX6_isUnder 35 = .ok (.ireturn, 1) := by decide +kernel
