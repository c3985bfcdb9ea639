theorem dX4_init_32 : decode cX4_init 32 = .ok (.getfield 12, 3) := by decide +kernel
theorem dX4_init_35 : decode cX4_init 35 = .ok (.invokespecial 25, 3) := by decide +kernel
theorem dX4_init_38 : decode cX4_init 38 = .ok (.putfield 28, 3) := by decide +kernel
theorem dX4_init_41 : decode cX4_init 41 = .ok (.aload_n 0, 1) := by decide +kernel
theorem dX4_init_42 : decode cX4_init 42 = .ok (.new 32, 3) := by decide +kernel
theorem dX4_init_45 : decode cX4_init 45 = .ok (.dup, 1) := by decide +kernel
theorem dX4_init_46 : decode cX4_init 46 = .ok (.aload_n 0, 1) := by decide +kernel
theorem dX4_init_47 : decode cX4_init 47 = .ok (.getfield 12, 3) := by decide +kernel
theorem dX4_init_50 : decode cX4_init 50 = .ok (.invokespecial 34, 3) := by decide +kernel
theorem dX4_init_53 : decode cX4_init 53 = .ok (.putfield 35, 3) := by decide +kernel
theorem dX4_init_56 : decode cX4_init 56 = .ok (.aload_n 0, 1) := by decide +kernel
theorem dX4_init_57 : decode cX4_init 57 = .ok (.sipush 180, 3) := by decide +kernel
theorem dX4_init_60 : decode cX4_init 60 = .ok (.putfield 39, 3) := by decide +kernel
theorem dX4_init_63 : decode cX4_init 63 = .ok (.aload_n 0, 1) := by decide +kernel
theorem dX4_init_64 : decode cX4_init 64 = .ok (.iconst 1, 1) := by decide +kernel
theorem dX4_init_65 : decode cX4_init 65 = .ok (.putfield 43, 3) := by decide +kernel
theorem dX4_init_68 : decode cX4_init 68 = .ok (.return_, 1) := by decide +kernel
theorem dX4_posts_0 : decode cX4_posts 0 = .ok (.iload_n 1, 1) := by decide +kernel
theorem dX4_posts_1 : decode cX4_posts 1 = .ok (.iconst 3, 1) := by decide +kernel
theorem dX4_posts_2 : decode cX4_posts 2 = .ok (.if_icmp .lt 9, 3) := by decide +kernel
theorem dX4_posts_5 : decode cX4_posts 5 = .ok (.iload_n 1, 1) := by decide +kernel
theorem dX4_posts_6 : decode cX4_posts 6 = .ok (.bipush 9, 2) := by decide +kernel
theorem dX4_posts_8 : decode cX4_posts 8 = .ok (.if_icmp .le 6, 3) := by decide +kernel
theorem dX4_posts_11 : decode cX4_posts 11 = .ok (.bipush (-2), 2) := by decide +kernel
theorem dX4_posts_13 : decode cX4_posts 13 = .ok (.ireturn, 1) := by decide +kernel
theorem dX4_posts_14 : decode cX4_posts 14 = .ok (.aload_n 0, 1) := by decide +kernel
theorem dX4_posts_15 : decode cX4_posts 15 = .ok (.getfield 12, 3) := by decide +kernel
theorem dX4_posts_18 : decode cX4_posts 18 = .ok (.invokevirtual 46, 3) := by decide +kernel
theorem dX4_posts_21 : decode cX4_posts 21 = .ok (.istore_n 2, 1) := by decide +kernel
theorem dX4_posts_22 : decode cX4_posts 22 = .ok (.aload_n 0, 1) := by decide +kernel
theorem dX4_posts_23 : decode cX4_posts 23 = .ok (.getfield 12, 3) := by decide +kernel
theorem dX4_posts_26 : decode cX4_posts 26 = .ok (.iload_n 1, 1) := by decide +kernel
theorem dX4_posts_27 : decode cX4_posts 27 = .ok (.invokevirtual 50, 3) := by decide +kernel
theorem dX4_posts_30 : decode cX4_posts 30 = .ok (.aload_n 0, 1) := by decide +kernel
theorem dX4_posts_31 : decode cX4_posts 31 = .ok (.getfield 19, 3) := by decide +kernel
theorem dX4_posts_34 : decode cX4_posts 34 = .ok (.invokevirtual 54, 3) := by decide +kernel
theorem dX4_posts_37 : decode cX4_posts 37 = .ok (.aload_n 0, 1) := by decide +kernel
theorem dX4_posts_38 : decode cX4_posts 38 = .ok (.getfield 28, 3) := by decide +kernel
theorem dX4_posts_41 : decode cX4_posts 41 = .ok (.invokevirtual 57, 3) := by decide +kernel
theorem dX4_posts_44 : decode cX4_posts 44 = .ok (.iload_n 2, 1) := by decide +kernel
theorem dX4_posts_45 : decode cX4_posts 45 = .ok (.ireturn, 1) := by decide +kernel
theorem dX4_third_0 : decode cX4_third 0 = .ok (.aload_n 0, 1) := by decide +kernel
theorem dX4_third_1 : decode cX4_third 1 = .ok (.getfield 12, 3) := by decide +kernel
theorem dX4_third_4 : decode cX4_third 4 = .ok (.iload_n 1, 1) := by decide +kernel
theorem dX4_third_5 : decode cX4_third 5 = .ok (.iload_n 2, 1) := by decide +kernel
theorem dX4_third_6 : decode cX4_third 6 = .ok (.invokevirtual 60, 3) := by decide +kernel
theorem dX4_third_9 : decode cX4_third 9 = .ok (.ifCond .eq 27, 3) := by decide +kernel
theorem dX4_third_12 : decode cX4_third 12 = .ok (.aload_n 0, 1) := by decide +kernel
theorem dX4_third_13 : decode cX4_third 13 = .ok (.getfield 12, 3) := by decide +kernel
theorem dX4_third_16 : decode cX4_third 16 = .ok (.iload_n 2, 1) := by decide +kernel
theorem dX4_third_17 : decode cX4_third 17 = .ok (.iload_n 3, 1) := by decide +kernel
theorem dX4_third_18 : decode cX4_third 18 = .ok (.invokevirtual 60, 3) := by decide +kernel
theorem dX4_third_21 : decode cX4_third 21 = .ok (.ifCond .eq 15, 3) := by decide +kernel
theorem dX4_third_24 : decode cX4_third 24 = .ok (.aload_n 0, 1) := by decide +kernel
theorem dX4_third_25 : decode cX4_third 25 = .ok (.getfield 12, 3) := by decide +kernel
theorem dX4_third_28 : decode cX4_third 28 = .ok (.iload_n 3, 1) := by decide +kernel
theorem dX4_third_29 : decode cX4_third 29 = .ok (.iload_n 1, 1) := by decide +kernel
theorem dX4_third_30 : decode cX4_third 30 = .ok (.invokevirtual 60, 3) := by decide +kernel
theorem dX4_third_33 : decode cX4_third 33 = .ok (.ifCond .ne 5, 3) := by decide +kernel
theorem dX4_third_36 : decode cX4_third 36 = .ok (.iconst (-1), 1) := by decide +kernel
theorem dX4_third_37 : decode cX4_third 37 = .ok (.ireturn, 1) := by decide +kernel
theorem dX4_third_38 : decode cX4_third 38 = .ok (.aload_n 0, 1) := by decide +kernel
theorem dX4_third_39 : decode cX4_third 39 = .ok (.getfield 12, 3) := by decide +kernel
theorem dX4_third_42 : decode cX4_third 42 = .ok (.invokevirtual 64, 3) := by decide +kernel
theorem dX4_third_45 : decode cX4_third 45 = .ok (.istore 4, 2) := by decide +kernel
theorem dX4_third_47 : decode cX4_third 47 = .ok (.iload 4, 2) := by decide +kernel
theorem dX4_third_49 : decode cX4_third 49 = .ok (.bipush 12, 2) := by decide +kernel
theorem dX4_third_51 : decode cX4_third 51 = .ok (.if_icmp .lt 6, 3) := by decide +kernel
theorem dX4_third_54 : decode cX4_third 54 = .ok (.bipush (-4), 2) := by decide +kernel
theorem dX4_third_56 : decode cX4_third 56 = .ok (.ireturn, 1) := by decide +kernel
theorem dX4_third_57 : decode cX4_third 57 = .ok (.aload_n 0, 1) := by decide +kernel
theorem dX4_third_58 : decode cX4_third 58 = .ok (.getfield 12, 3) := by decide +kernel
theorem dX4_third_61 : decode cX4_third 61 = .ok (.iload_n 1, 1) := by decide +kernel
theorem dX4_third_62 : decode cX4_third 62 = .ok (.iload_n 2, 1) := by decide +kernel
theorem dX4_third_63 : decode cX4_third 63 = .ok (.invokevirtual 67, 3) := by decide +kernel
theorem dX4_third_66 : decode cX4_third 66 = .ok (.ifCond .ne 27, 3) := by decide +kernel
theorem dX4_third_69 : decode cX4_third 69 = .ok (.aload_n 0, 1) := by decide +kernel
theorem dX4_third_70 : decode cX4_third 70 = .ok (.getfield 12, 3) := by decide +kernel
theorem dX4_third_73 : decode cX4_third 73 = .ok (.iload_n 2, 1) := by decide +kernel
theorem dX4_third_74 : decode cX4_third 74 = .ok (.iload_n 3, 1) := by decide +kernel
theorem dX4_third_75 : decode cX4_third 75 = .ok (.invokevirtual 67, 3) := by decide +kernel
theorem dX4_third_78 : decode cX4_third 78 = .ok (.ifCond .ne 15, 3) := by decide +kernel
theorem dX4_third_81 : decode cX4_third 81 = .ok (.aload_n 0, 1) := by decide +kernel
theorem dX4_third_82 : decode cX4_third 82 = .ok (.getfield 12, 3) := by decide +kernel
theorem dX4_third_85 : decode cX4_third 85 = .ok (.iload_n 3, 1) := by decide +kernel
theorem dX4_third_86 : decode cX4_third 86 = .ok (.iload_n 1, 1) := by decide +kernel
theorem dX4_third_87 : decode cX4_third 87 = .ok (.invokevirtual 67, 3) := by decide +kernel
theorem dX4_third_90 : decode cX4_third 90 = .ok (.ifCond .eq 6, 3) := by decide +kernel
theorem dX4_third_93 : decode cX4_third 93 = .ok (.bipush (-5), 2) := by decide +kernel
theorem dX4_third_95 : decode cX4_third 95 = .ok (.ireturn, 1) := by decide +kernel
theorem dX4_third_96 : decode cX4_third 96 = .ok (.aload_n 0, 1) := by decide +kernel
theorem dX4_third_97 : decode cX4_third 97 = .ok (.getfield 19, 3) := by decide +kernel
theorem dX4_third_100 : decode cX4_third 100 = .ok (.invokevirtual 70, 3) := by decide +kernel
theorem dX4_third_103 : decode cX4_third 103 = .ok (.aload_n 0, 1) := by decide +kernel
theorem dX4_third_104 : decode cX4_third 104 = .ok (.getfield 19, 3) := by decide +kernel
theorem dX4_third_107 : decode cX4_third 107 = .ok (.iconst 0, 1) := by decide +kernel
theorem dX4_third_108 : decode cX4_third 108 = .ok (.iload 4, 2) := by decide +kernel
theorem dX4_third_110 : decode cX4_third 110 = .ok (.iconst (-1), 1) := by decide +kernel
theorem dX4_third_111 : decode cX4_third 111 = .ok (.iload_n 1, 1) := by decide +kernel
theorem dX4_third_112 : decode cX4_third 112 = .ok (.iload_n 2, 1) := by decide +kernel
theorem dX4_third_113 : decode cX4_third 113 = .ok (.iload_n 3, 1) := by decide +kernel
theorem dX4_third_114 : decode cX4_third 114 = .ok (.invokestatic 73, 3) := by decide +kernel
theorem dX4_third_117 : decode cX4_third 117 = .ok (.invokevirtual 77, 3) := by decide +kernel
theorem dX4_third_120 : decode cX4_third 120 = .ok (.aload_n 0, 1) := by decide +kernel
theorem dX4_third_121 : decode cX4_third 121 = .ok (.invokevirtual 81, 3) := by decide +kernel
theorem dX4_third_124 : decode cX4_third 124 = .ok (.iload 4, 2) := by decide +kernel
theorem dX4_third_126 : decode cX4_third 126 = .ok (.ireturn, 1) := by decide +kernel
theorem dX4_at_0 : decode cX4_at 0 = .ok (.aload_n 0, 1) := by decide +kernel
theorem dX4_at_1 : decode cX4_at 1 = .ok (.getfield 12, 3) := by decide +kernel
theorem dX4_at_4 : decode cX4_at 4 = .ok (.iload_n 1, 1) := by decide +kernel
theorem dX4_at_5 : decode cX4_at 5 = .ok (.invokevirtual 84, 3) := by decide +kernel
theorem dX4_at_8 : decode cX4_at 8 = .ok (.ifCond .eq 14, 3) := by decide +kernel
theorem dX4_at_11 : decode cX4_at 11 = .ok (.aload_n 0, 1) := by decide +kernel
theorem dX4_at_12 : decode cX4_at 12 = .ok (.getfield 12, 3) := by decide +kernel
theorem dX4_at_15 : decode cX4_at 15 = .ok (.iload_n 1, 1) := by decide +kernel
theorem dX4_at_16 : decode cX4_at 16 = .ok (.invokevirtual 88, 3) := by decide +kernel
theorem dX4_at_19 : decode cX4_at 19 = .ok (.goto 4, 3) := by decide +kernel
theorem dX4_at_22 : decode cX4_at 22 = .ok (.iconst (-1), 1) := by decide +kernel
theorem dX4_at_23 : decode cX4_at 23 = .ok (.ireturn, 1) := by decide +kernel
theorem dX4_side_0 : decode cX4_side 0 = .ok (.aload_n 0, 1) := by decide +kernel
theorem dX4_side_1 : decode cX4_side 1 = .ok (.getfield 12, 3) := by decide +kernel
theorem dX4_side_4 : decode cX4_side 4 = .ok (.iload_n 1, 1) := by decide +kernel
theorem dX4_side_5 : decode cX4_side 5 = .ok (.iload_n 2, 1) := by decide +kernel
theorem dX4_side_6 : decode cX4_side 6 = .ok (.invokevirtual 60, 3) := by decide +kernel
theorem dX4_side_9 : decode cX4_side 9 = .ok (.ifCond .eq 15, 3) := by decide +kernel
theorem dX4_side_12 : decode cX4_side 12 = .ok (.aload_n 0, 1) := by decide +kernel
theorem dX4_side_13 : decode cX4_side 13 = .ok (.getfield 12, 3) := by decide +kernel
theorem dX4_side_16 : decode cX4_side 16 = .ok (.iload_n 1, 1) := by decide +kernel
theorem dX4_side_17 : decode cX4_side 17 = .ok (.iload_n 2, 1) := by decide +kernel
theorem dX4_side_18 : decode cX4_side 18 = .ok (.invokevirtual 92, 3) := by decide +kernel
theorem dX4_side_21 : decode cX4_side 21 = .ok (.goto 4, 3) := by decide +kernel
theorem dX4_side_24 : decode cX4_side 24 = .ok (.iconst (-1), 1) := by decide +kernel
theorem dX4_side_25 : decode cX4_side 25 = .ok (.ireturn, 1) := by decide +kernel
theorem dX4_arrow_0 : decode cX4_arrow 0 = .ok (.aload_n 0, 1) := by decide +kernel
theorem dX4_arrow_1 : decode cX4_arrow 1 = .ok (.getfield 12, 3) := by decide +kernel
theorem dX4_arrow_4 : decode cX4_arrow 4 = .ok (.iload_n 1, 1) := by decide +kernel
theorem dX4_arrow_5 : decode cX4_arrow 5 = .ok (.iload_n 2, 1) := by decide +kernel
theorem dX4_arrow_6 : decode cX4_arrow 6 = .ok (.invokevirtual 60, 3) := by decide +kernel
theorem dX4_arrow_9 : decode cX4_arrow 9 = .ok (.ifCond .ne 5, 3) := by decide +kernel
theorem dX4_arrow_12 : decode cX4_arrow 12 = .ok (.iconst (-1), 1) := by decide +kernel
theorem dX4_arrow_13 : decode cX4_arrow 13 = .ok (.ireturn, 1) := by decide +kernel
theorem dX4_arrow_14 : decode cX4_arrow 14 = .ok (.aload_n 0, 1) := by decide +kernel
theorem dX4_arrow_15 : decode cX4_arrow 15 = .ok (.getfield 12, 3) := by decide +kernel
theorem dX4_arrow_18 : decode cX4_arrow 18 = .ok (.iload_n 1, 1) := by decide +kernel
theorem dX4_arrow_19 : decode cX4_arrow 19 = .ok (.iload_n 2, 1) := by decide +kernel
theorem dX4_arrow_20 : decode cX4_arrow 20 = .ok (.invokevirtual 67, 3) := by decide +kernel
theorem dX4_arrow_23 : decode cX4_arrow 23 = .ok (.ifCond .eq 15, 3) := by decide +kernel
theorem dX4_arrow_26 : decode cX4_arrow 26 = .ok (.aload_n 0, 1) := by decide +kernel
theorem dX4_arrow_27 : decode cX4_arrow 27 = .ok (.getfield 12, 3) := by decide +kernel
theorem dX4_arrow_30 : decode cX4_arrow 30 = .ok (.iload_n 1, 1) := by decide +kernel
theorem dX4_arrow_31 : decode cX4_arrow 31 = .ok (.iload_n 2, 1) := by decide +kernel
theorem dX4_arrow_32 : decode cX4_arrow 32 = .ok (.invokevirtual 96, 3) := by decide +kernel
theorem dX4_arrow_35 : decode cX4_arrow 35 = .ok (.goto 5, 3) := by decide +kernel
theorem dX4_arrow_38 : decode cX4_arrow 38 = .ok (.bipush (-6), 2) := by decide +kernel
theorem dX4_arrow_40 : decode cX4_arrow 40 = .ok (.ireturn, 1) := by decide +kernel
theorem dX4_turn_0 : decode cX4_turn 0 = .ok (.aload_n 0, 1) := by decide +kernel
theorem dX4_turn_1 : decode cX4_turn 1 = .ok (.getfield 12, 3) := by decide +kernel
theorem dX4_turn_4 : decode cX4_turn 4 = .ok (.iload_n 1, 1) := by decide +kernel
theorem dX4_turn_5 : decode cX4_turn 5 = .ok (.iload_n 2, 1) := by decide +kernel
theorem dX4_turn_6 : decode cX4_turn 6 = .ok (.invokevirtual 99, 3) := by decide +kernel
theorem dX4_turn_9 : decode cX4_turn 9 = .ok (.ifCond .ne 5, 3) := by decide +kernel
theorem dX4_turn_12 : decode cX4_turn 12 = .ok (.iconst (-1), 1) := by decide +kernel
theorem dX4_turn_13 : decode cX4_turn 13 = .ok (.ireturn, 1) := by decide +kernel
theorem dX4_turn_14 : decode cX4_turn 14 = .ok (.aload_n 0, 1) := by decide +kernel
theorem dX4_turn_15 : decode cX4_turn 15 = .ok (.getfield 12, 3) := by decide +kernel
theorem dX4_turn_18 : decode cX4_turn 18 = .ok (.iload_n 1, 1) := by decide +kernel
theorem dX4_turn_19 : decode cX4_turn 19 = .ok (.iload_n 2, 1) := by decide +kernel
theorem dX4_turn_20 : decode cX4_turn 20 = .ok (.invokevirtual 92, 3) := by decide +kernel
theorem dX4_turn_23 : decode cX4_turn 23 = .ok (.iconst 1, 1) := by decide +kernel
theorem dX4_turn_24 : decode cX4_turn 24 = .ok (.if_icmp .ne 6, 3) := by decide +kernel
theorem dX4_turn_27 : decode cX4_turn 27 = .ok (.bipush (-3), 2) := by decide +kernel
theorem dX4_turn_29 : decode cX4_turn 29 = .ok (.ireturn, 1) := by decide +kernel
theorem dX4_turn_30 : decode cX4_turn 30 = .ok (.aload_n 0, 1) := by decide +kernel
theorem dX4_turn_31 : decode cX4_turn 31 = .ok (.getfield 12, 3) := by decide +kernel
theorem dX4_turn_34 : decode cX4_turn 34 = .ok (.iload_n 1, 1) := by decide +kernel
theorem dX4_turn_35 : decode cX4_turn 35 = .ok (.iload_n 2, 1) := by decide +kernel
theorem dX4_turn_36 : decode cX4_turn 36 = .ok (.invokevirtual 96, 3) := by decide +kernel
theorem dX4_turn_39 : decode cX4_turn 39 = .ok (.istore_n 3, 1) := by decide +kernel
theorem dX4_turn_40 : decode cX4_turn 40 = .ok (.aload_n 0, 1) := by decide +kernel
theorem dX4_turn_41 : decode cX4_turn 41 = .ok (.getfield 12, 3) := by decide +kernel
theorem dX4_turn_44 : decode cX4_turn 44 = .ok (.iload_n 2, 1) := by decide +kernel
theorem dX4_turn_45 : decode cX4_turn 45 = .ok (.iload_n 1, 1) := by decide +kernel
theorem dX4_turn_46 : decode cX4_turn 46 = .ok (.invokevirtual 96, 3) := by decide +kernel
theorem dX4_turn_49 : decode cX4_turn 49 = .ok (.istore 4, 2) := by decide +kernel
theorem dX4_turn_51 : decode cX4_turn 51 = .ok (.aload_n 0, 1) := by decide +kernel
theorem dX4_turn_52 : decode cX4_turn 52 = .ok (.getfield 12, 3) := by decide +kernel
theorem dX4_turn_55 : decode cX4_turn 55 = .ok (.aload_n 0, 1) := by decide +kernel
theorem dX4_turn_56 : decode cX4_turn 56 = .ok (.getfield 12, 3) := by decide +kernel
theorem dX4_turn_59 : decode cX4_turn 59 = .ok (.iload_n 3, 1) := by decide +kernel
theorem dX4_turn_60 : decode cX4_turn 60 = .ok (.iload_n 1, 1) := by decide +kernel
theorem dX4_turn_61 : decode cX4_turn 61 = .ok (.iload_n 2, 1) := by decide +kernel
theorem dX4_turn_62 : decode cX4_turn 62 = .ok (.invokevirtual 102, 3) := by decide +kernel
theorem dX4_turn_65 : decode cX4_turn 65 = .ok (.invokevirtual 88, 3) := by decide +kernel
theorem dX4_turn_68 : decode cX4_turn 68 = .ok (.istore 5, 2) := by decide +kernel
theorem dX4_turn_70 : decode cX4_turn 70 = .ok (.aload_n 0, 1) := by decide +kernel
theorem dX4_turn_71 : decode cX4_turn 71 = .ok (.getfield 12, 3) := by decide +kernel
theorem dX4_turn_74 : decode cX4_turn 74 = .ok (.aload_n 0, 1) := by decide +kernel
theorem dX4_turn_75 : decode cX4_turn 75 = .ok (.getfield 12, 3) := by decide +kernel
theorem dX4_turn_78 : decode cX4_turn 78 = .ok (.iload 4, 2) := by decide +kernel
theorem dX4_turn_80 : decode cX4_turn 80 = .ok (.iload_n 1, 1) := by decide +kernel
theorem dX4_turn_81 : decode cX4_turn 81 = .ok (.iload_n 2, 1) := by decide +kernel
theorem dX4_turn_82 : decode cX4_turn 82 = .ok (.invokevirtual 102, 3) := by decide +kernel
theorem dX4_turn_85 : decode cX4_turn 85 = .ok (.invokevirtual 88, 3) := by decide +kernel
theorem dX4_turn_88 : decode cX4_turn 88 = .ok (.istore 6, 2) := by decide +kernel
theorem dX4_turn_90 : decode cX4_turn 90 = .ok (.iload 5, 2) := by decide +kernel
theorem dX4_turn_92 : decode cX4_turn 92 = .ok (.iload 6, 2) := by decide +kernel
theorem dX4_turn_94 : decode cX4_turn 94 = .ok (.if_icmp .eq 17, 3) := by decide +kernel
theorem dX4_turn_97 : decode cX4_turn 97 = .ok (.aload_n 0, 1) := by decide +kernel
theorem dX4_turn_98 : decode cX4_turn 98 = .ok (.getfield 12, 3) := by decide +kernel
theorem dX4_turn_101 : decode cX4_turn 101 = .ok (.iload 5, 2) := by decide +kernel
theorem dX4_turn_103 : decode cX4_turn 103 = .ok (.iload 6, 2) := by decide +kernel
theorem dX4_turn_105 : decode cX4_turn 105 = .ok (.invokevirtual 99, 3) := by decide +kernel
theorem dX4_turn_108 : decode cX4_turn 108 = .ok (.ifCond .eq 6, 3) := by decide +kernel
theorem dX4_turn_111 : decode cX4_turn 111 = .ok (.bipush (-5), 2) := by decide +kernel
theorem dX4_turn_113 : decode cX4_turn 113 = .ok (.ireturn, 1) := by decide +kernel
theorem dX4_turn_114 : decode cX4_turn 114 = .ok (.aload_n 0, 1) := by decide +kernel
theorem dX4_turn_115 : decode cX4_turn 115 = .ok (.getfield 19, 3) := by decide +kernel
theorem dX4_turn_118 : decode cX4_turn 118 = .ok (.invokevirtual 70, 3) := by decide +kernel
theorem dX4_turn_121 : decode cX4_turn 121 = .ok (.aload_n 0, 1) := by decide +kernel
theorem dX4_turn_122 : decode cX4_turn 122 = .ok (.getfield 19, 3) := by decide +kernel
theorem dX4_turn_125 : decode cX4_turn 125 = .ok (.iconst 0, 1) := by decide +kernel
theorem dX4_turn_126 : decode cX4_turn 126 = .ok (.iload_n 3, 1) := by decide +kernel
theorem dX4_turn_127 : decode cX4_turn 127 = .ok (.aload_n 0, 1) := by decide +kernel
theorem dX4_turn_128 : decode cX4_turn 128 = .ok (.getfield 12, 3) := by decide +kernel
theorem dX4_turn_131 : decode cX4_turn 131 = .ok (.iload_n 3, 1) := by decide +kernel
theorem dX4_turn_132 : decode cX4_turn 132 = .ok (.invokevirtual 105, 3) := by decide +kernel
theorem dX4_turn_135 : decode cX4_turn 135 = .ok (.iload_n 1, 1) := by decide +kernel
theorem dX4_turn_136 : decode cX4_turn 136 = .ok (.iload 6, 2) := by decide +kernel
theorem dX4_turn_138 : decode cX4_turn 138 = .ok (.iload 5, 2) := by decide +kernel
theorem dX4_turn_140 : decode cX4_turn 140 = .ok (.invokestatic 73, 3) := by decide +kernel
theorem dX4_turn_143 : decode cX4_turn 143 = .ok (.invokevirtual 77, 3) := by decide +kernel
theorem dX4_turn_146 : decode cX4_turn 146 = .ok (.aload_n 0, 1) := by decide +kernel
theorem dX4_turn_147 : decode cX4_turn 147 = .ok (.getfield 19, 3) := by decide +kernel
theorem dX4_turn_150 : decode cX4_turn 150 = .ok (.iconst 1, 1) := by decide +kernel
theorem dX4_turn_151 : decode cX4_turn 151 = .ok (.iload 4, 2) := by decide +kernel
theorem dX4_turn_153 : decode cX4_turn 153 = .ok (.aload_n 0, 1) := by decide +kernel
theorem dX4_turn_154 : decode cX4_turn 154 = .ok (.getfield 12, 3) := by decide +kernel
theorem dX4_turn_157 : decode cX4_turn 157 = .ok (.iload 4, 2) := by decide +kernel
theorem dX4_turn_159 : decode cX4_turn 159 = .ok (.invokevirtual 105, 3) := by decide +kernel
theorem dX4_turn_162 : decode cX4_turn 162 = .ok (.iload 6, 2) := by decide +kernel
theorem dX4_turn_164 : decode cX4_turn 164 = .ok (.iload_n 2, 1) := by decide +kernel
theorem dX4_turn_165 : decode cX4_turn 165 = .ok (.iload 5, 2) := by decide +kernel
theorem dX4_turn_167 : decode cX4_turn 167 = .ok (.invokestatic 73, 3) := by decide +kernel
theorem dX4_turn_170 : decode cX4_turn 170 = .ok (.invokevirtual 77, 3) := by decide +kernel
theorem dX4_turn_173 : decode cX4_turn 173 = .ok (.aload_n 0, 1) := by decide +kernel
theorem dX4_turn_174 : decode cX4_turn 174 = .ok (.invokevirtual 81, 3) := by decide +kernel
theorem dX4_turn_177 : decode cX4_turn 177 = .ok (.iconst 1, 1) := by decide +kernel
theorem dX4_turn_178 : decode cX4_turn 178 = .ok (.ireturn, 1) := by decide +kernel
theorem dX4_about_0 : decode cX4_about 0 = .ok (.aload_n 0, 1) := by decide +kernel
theorem dX4_about_1 : decode cX4_about 1 = .ok (.getfield 12, 3) := by decide +kernel
theorem dX4_about_4 : decode cX4_about 4 = .ok (.iload_n 1, 1) := by decide +kernel
theorem dX4_about_5 : decode cX4_about 5 = .ok (.invokevirtual 108, 3) := by decide +kernel
theorem dX4_about_8 : decode cX4_about 8 = .ok (.ifCond .ne 5, 3) := by decide +kernel
theorem dX4_about_11 : decode cX4_about 11 = .ok (.iconst (-1), 1) := by decide +kernel
theorem dX4_about_12 : decode cX4_about 12 = .ok (.ireturn, 1) := by decide +kernel
theorem dX4_about_13 : decode cX4_about 13 = .ok (.iload_n 2, 1) := by decide +kernel
theorem dX4_about_14 : decode cX4_about 14 = .ok (.tableswitch 139 0 5 #[38, 47, 67, 84, 101, 107], 38) := by decide +kernel
theorem dX4_about_52 : decode cX4_about 52 = .ok (.aload_n 0, 1) := by decide +kernel
theorem dX4_about_53 : decode cX4_about 53 = .ok (.getfield 12, 3) := by decide +kernel
theorem dX4_about_56 : decode cX4_about 56 = .ok (.iload_n 1, 1) := by decide +kernel
theorem dX4_about_57 : decode cX4_about 57 = .ok (.invokevirtual 111, 3) := by decide +kernel
theorem dX4_about_60 : decode cX4_about 60 = .ok (.ireturn, 1) := by decide +kernel
theorem dX4_about_61 : decode cX4_about 61 = .ok (.aload_n 0, 1) := by decide +kernel
theorem dX4_about_62 : decode cX4_about 62 = .ok (.getfield 12, 3) := by decide +kernel
theorem dX4_about_65 : decode cX4_about 65 = .ok (.iload_n 1, 1) := by decide +kernel
theorem dX4_about_66 : decode cX4_about 66 = .ok (.iconst 1, 1) := by decide +kernel
theorem dX4_about_67 : decode cX4_about 67 = .ok (.invokevirtual 114, 3) := by decide +kernel
theorem dX4_about_70 : decode cX4_about 70 = .ok (.aload_n 0, 1) := by decide +kernel
theorem dX4_about_71 : decode cX4_about 71 = .ok (.getfield 12, 3) := by decide +kernel
theorem dX4_about_74 : decode cX4_about 74 = .ok (.iload_n 1, 1) := by decide +kernel
theorem dX4_about_75 : decode cX4_about 75 = .ok (.iconst 2, 1) := by decide +kernel
theorem dX4_about_76 : decode cX4_about 76 = .ok (.invokevirtual 114, 3) := by decide +kernel
theorem dX4_about_79 : decode cX4_about 79 = .ok (.iadd, 1) := by decide +kernel
theorem dX4_about_80 : decode cX4_about 80 = .ok (.ireturn, 1) := by decide +kernel
theorem dX4_about_81 : decode cX4_about 81 = .ok (.aload_n 0, 1) := by decide +kernel
theorem dX4_about_82 : decode cX4_about 82 = .ok (.getfield 12, 3) := by decide +kernel
theorem dX4_about_85 : decode cX4_about 85 = .ok (.iload_n 1, 1) := by decide +kernel
theorem dX4_about_86 : decode cX4_about 86 = .ok (.invokevirtual 117, 3) := by decide +kernel
theorem dX4_about_89 : decode cX4_about 89 = .ok (.ifCond .eq 7, 3) := by decide +kernel
theorem dX4_about_92 : decode cX4_about 92 = .ok (.iconst 1, 1) := by decide +kernel
theorem dX4_about_93 : decode cX4_about 93 = .ok (.goto 4, 3) := by decide +kernel
theorem dX4_about_96 : decode cX4_about 96 = .ok (.iconst 0, 1) := by decide +kernel
theorem dX4_about_97 : decode cX4_about 97 = .ok (.ireturn, 1) := by decide +kernel
theorem dX4_about_98 : decode cX4_about 98 = .ok (.aload_n 0, 1) := by decide +kernel
theorem dX4_about_99 : decode cX4_about 99 = .ok (.getfield 12, 3) := by decide +kernel
theorem dX4_about_102 : decode cX4_about 102 = .ok (.iload_n 1, 1) := by decide +kernel
theorem dX4_about_103 : decode cX4_about 103 = .ok (.invokevirtual 120, 3) := by decide +kernel
theorem dX4_about_106 : decode cX4_about 106 = .ok (.ifCond .eq 7, 3) := by decide +kernel
theorem dX4_about_109 : decode cX4_about 109 = .ok (.iconst 1, 1) := by decide +kernel
theorem dX4_about_110 : decode cX4_about 110 = .ok (.goto 4, 3) := by decide +kernel
theorem dX4_about_113 : decode cX4_about 113 = .ok (.iconst 0, 1) := by decide +kernel
theorem dX4_about_114 : decode cX4_about 114 = .ok (.ireturn, 1) := by decide +kernel
theorem dX4_about_115 : decode cX4_about 115 = .ok (.aload_n 0, 1) := by decide +kernel
theorem dX4_about_116 : decode cX4_about 116 = .ok (.iload_n 1, 1) := by decide +kernel
theorem dX4_about_117 : decode cX4_about 117 = .ok (.invokevirtual 123, 3) := by decide +kernel
theorem dX4_about_120 : decode cX4_about 120 = .ok (.ireturn, 1) := by decide +kernel
theorem dX4_about_121 : decode cX4_about 121 = .ok (.aload_n 0, 1) := by decide +kernel
theorem dX4_about_122 : decode cX4_about 122 = .ok (.getfield 28, 3) := by decide +kernel
theorem dX4_about_125 : decode cX4_about 125 = .ok (.aload_n 0, 1) := by decide +kernel
theorem dX4_about_126 : decode cX4_about 126 = .ok (.getfield 39, 3) := by decide +kernel
theorem dX4_about_129 : decode cX4_about 129 = .ok (.aload_n 0, 1) := by decide +kernel
theorem dX4_about_130 : decode cX4_about 130 = .ok (.getfield 43, 3) := by decide +kernel
theorem dX4_about_133 : decode cX4_about 133 = .ok (.invokevirtual 126, 3) := by decide +kernel
theorem dX4_about_136 : decode cX4_about 136 = .ok (.ifCond .eq 14, 3) := by decide +kernel
theorem dX4_about_139 : decode cX4_about 139 = .ok (.aload_n 0, 1) := by decide +kernel
theorem dX4_about_140 : decode cX4_about 140 = .ok (.getfield 28, 3) := by decide +kernel
theorem dX4_about_143 : decode cX4_about 143 = .ok (.iload_n 1, 1) := by decide +kernel
theorem dX4_about_144 : decode cX4_about 144 = .ok (.invokevirtual 129, 3) := by decide +kernel
theorem dX4_about_147 : decode cX4_about 147 = .ok (.goto 5, 3) := by decide +kernel
theorem dX4_about_150 : decode cX4_about 150 = .ok (.bipush (-6), 2) := by decide +kernel
theorem dX4_about_152 : decode cX4_about 152 = .ok (.ireturn, 1) := by decide +kernel
theorem dX4_about_153 : decode cX4_about 153 = .ok (.bipush (-2), 2) := by decide +kernel
theorem dX4_about_155 : decode cX4_about 155 = .ok (.ireturn, 1) := by decide +kernel
theorem dX4_told_0 : decode cX4_told 0 = .ok (.iload_n 1, 1) := by decide +kernel
theorem dX4_told_1 : decode cX4_told 1 = .ok (.tableswitch 128 0 8 #[51, 59, 67, 85, 94, 102, 110, 115, 120], 51) := by decide +kernel
theorem dX4_told_52 : decode cX4_told 52 = .ok (.aload_n 0, 1) := by decide +kernel
theorem dX4_told_53 : decode cX4_told 53 = .ok (.getfield 12, 3) := by decide +kernel
theorem dX4_told_56 : decode cX4_told 56 = .ok (.invokevirtual 46, 3) := by decide +kernel
theorem dX4_told_59 : decode cX4_told 59 = .ok (.ireturn, 1) := by decide +kernel
theorem dX4_told_60 : decode cX4_told 60 = .ok (.aload_n 0, 1) := by decide +kernel
theorem dX4_told_61 : decode cX4_told 61 = .ok (.getfield 12, 3) := by decide +kernel
theorem dX4_told_64 : decode cX4_told 64 = .ok (.invokevirtual 64, 3) := by decide +kernel
theorem dX4_told_67 : decode cX4_told 67 = .ok (.ireturn, 1) := by decide +kernel
theorem dX4_told_68 : decode cX4_told 68 = .ok (.aload_n 0, 1) := by decide +kernel
theorem dX4_told_69 : decode cX4_told 69 = .ok (.getfield 12, 3) := by decide +kernel
theorem dX4_told_72 : decode cX4_told 72 = .ok (.iconst 1, 1) := by decide +kernel
theorem dX4_told_73 : decode cX4_told 73 = .ok (.invokevirtual 132, 3) := by decide +kernel
theorem dX4_told_76 : decode cX4_told 76 = .ok (.aload_n 0, 1) := by decide +kernel
theorem dX4_told_77 : decode cX4_told 77 = .ok (.getfield 12, 3) := by decide +kernel
theorem dX4_told_80 : decode cX4_told 80 = .ok (.iconst 2, 1) := by decide +kernel
theorem dX4_told_81 : decode cX4_told 81 = .ok (.invokevirtual 132, 3) := by decide +kernel
theorem dX4_told_84 : decode cX4_told 84 = .ok (.iadd, 1) := by decide +kernel
theorem dX4_told_85 : decode cX4_told 85 = .ok (.ireturn, 1) := by decide +kernel
theorem dX4_told_86 : decode cX4_told 86 = .ok (.aload_n 0, 1) := by decide +kernel
theorem dX4_told_87 : decode cX4_told 87 = .ok (.getfield 12, 3) := by decide +kernel
theorem dX4_told_90 : decode cX4_told 90 = .ok (.iconst 1, 1) := by decide +kernel
theorem dX4_told_91 : decode cX4_told 91 = .ok (.invokevirtual 132, 3) := by decide +kernel
theorem dX4_told_94 : decode cX4_told 94 = .ok (.ireturn, 1) := by decide +kernel
theorem dX4_told_95 : decode cX4_told 95 = .ok (.aload_n 0, 1) := by decide +kernel
theorem dX4_told_96 : decode cX4_told 96 = .ok (.getfield 12, 3) := by decide +kernel
theorem dX4_told_99 : decode cX4_told 99 = .ok (.invokevirtual 135, 3) := by decide +kernel
theorem dX4_told_102 : decode cX4_told 102 = .ok (.ireturn, 1) := by decide +kernel
theorem dX4_told_103 : decode cX4_told 103 = .ok (.aload_n 0, 1) := by decide +kernel
theorem dX4_told_104 : decode cX4_told 104 = .ok (.getfield 12, 3) := by decide +kernel
theorem dX4_told_107 : decode cX4_told 107 = .ok (.invokevirtual 138, 3) := by decide +kernel
theorem dX4_told_110 : decode cX4_told 110 = .ok (.ireturn, 1) := by decide +kernel
theorem dX4_told_111 : decode cX4_told 111 = .ok (.aload_n 0, 1) := by decide +kernel
theorem dX4_told_112 : decode cX4_told 112 = .ok (.getfield 39, 3) := by decide +kernel
theorem dX4_told_115 : decode cX4_told 115 = .ok (.ireturn, 1) := by decide +kernel
theorem dX4_told_116 : decode cX4_told 116 = .ok (.aload_n 0, 1) := by decide +kernel
theorem dX4_told_117 : decode cX4_told 117 = .ok (.getfield 43, 3) := by decide +kernel
theorem dX4_told_120 : decode cX4_told 120 = .ok (.ireturn, 1) := by decide +kernel
theorem dX4_told_121 : decode cX4_told 121 = .ok (.aload_n 0, 1) := by decide +kernel
theorem dX4_told_122 : decode cX4_told 122 = .ok (.getfield 12, 3) := by decide +kernel
theorem dX4_told_125 : decode cX4_told 125 = .ok (.invokevirtual 141, 3) := by decide +kernel
theorem dX4_told_128 : decode cX4_told 128 = .ok (.ireturn, 1) := by decide +kernel
theorem dX4_told_129 : decode cX4_told 129 = .ok (.sipush (-1002), 3) := by decide +kernel
theorem dX4_told_132 : decode cX4_told 132 = .ok (.ireturn, 1) := by decide +kernel
theorem dX4_straight_0 : decode cX4_straight 0 = .ok (.iload_n 1, 1) := by decide +kernel
theorem dX4_straight_1 : decode cX4_straight 1 = .ok (.bipush 6, 2) := by decide +kernel
theorem dX4_straight_3 : decode cX4_straight 3 = .ok (.if_icmp .lt 20, 3) := by decide +kernel
theorem dX4_straight_6 : decode cX4_straight 6 = .ok (.iload_n 1, 1) := by decide +kernel
theorem dX4_straight_7 : decode cX4_straight 7 = .ok (.sipush 360, 3) := by decide +kernel
theorem dX4_straight_10 : decode cX4_straight 10 = .ok (.if_icmp .gt 13, 3) := by decide +kernel
theorem dX4_straight_13 : decode cX4_straight 13 = .ok (.iconst 3, 1) := by decide +kernel
theorem dX4_straight_14 : decode cX4_straight 14 = .ok (.aload_n 0, 1) := by decide +kernel
theorem dX4_straight_15 : decode cX4_straight 15 = .ok (.getfield 43, 3) := by decide +kernel
theorem dX4_straight_18 : decode cX4_straight 18 = .ok (.imul, 1) := by decide +kernel
theorem dX4_straight_19 : decode cX4_straight 19 = .ok (.iload_n 1, 1) := by decide +kernel
theorem dX4_straight_20 : decode cX4_straight 20 = .ok (.if_icmp .le 6, 3) := by decide +kernel
theorem dX4_straight_23 : decode cX4_straight 23 = .ok (.bipush (-2), 2) := by decide +kernel
theorem dX4_straight_25 : decode cX4_straight 25 = .ok (.ireturn, 1) := by decide +kernel
theorem dX4_straight_26 : decode cX4_straight 26 = .ok (.aload_n 0, 1) := by decide +kernel
theorem dX4_straight_27 : decode cX4_straight 27 = .ok (.getfield 39, 3) := by decide +kernel
theorem dX4_straight_30 : decode cX4_straight 30 = .ok (.istore_n 2, 1) := by decide +kernel
theorem dX4_straight_31 : decode cX4_straight 31 = .ok (.aload_n 0, 1) := by decide +kernel
theorem dX4_straight_32 : decode cX4_straight 32 = .ok (.iload_n 1, 1) := by decide +kernel
theorem dX4_straight_33 : decode cX4_straight 33 = .ok (.putfield 39, 3) := by decide +kernel
theorem dX4_straight_36 : decode cX4_straight 36 = .ok (.aload_n 0, 1) := by decide +kernel
theorem dX4_straight_37 : decode cX4_straight 37 = .ok (.getfield 28, 3) := by decide +kernel
theorem dX4_straight_40 : decode cX4_straight 40 = .ok (.invokevirtual 57, 3) := by decide +kernel
theorem dX4_straight_43 : decode cX4_straight 43 = .ok (.iload_n 2, 1) := by decide +kernel
theorem dX4_straight_44 : decode cX4_straight 44 = .ok (.ireturn, 1) := by decide +kernel
theorem dX4_least_0 : decode cX4_least 0 = .ok (.iload_n 1, 1) := by decide +kernel
theorem dX4_least_1 : decode cX4_least 1 = .ok (.iconst 1, 1) := by decide +kernel
theorem dX4_least_2 : decode cX4_least 2 = .ok (.if_icmp .lt 19, 3) := by decide +kernel
theorem dX4_least_5 : decode cX4_least 5 = .ok (.iload_n 1, 1) := by decide +kernel
theorem dX4_least_6 : decode cX4_least 6 = .ok (.bipush 60, 2) := by decide +kernel
theorem dX4_least_8 : decode cX4_least 8 = .ok (.if_icmp .gt 13, 3) := by decide +kernel
theorem dX4_least_11 : decode cX4_least 11 = .ok (.iconst 3, 1) := by decide +kernel
theorem dX4_least_12 : decode cX4_least 12 = .ok (.iload_n 1, 1) := by decide +kernel
theorem dX4_least_13 : decode cX4_least 13 = .ok (.imul, 1) := by decide +kernel
theorem dX4_least_14 : decode cX4_least 14 = .ok (.aload_n 0, 1) := by decide +kernel
theorem dX4_least_15 : decode cX4_least 15 = .ok (.getfield 39, 3) := by decide +kernel
theorem dX4_least_18 : decode cX4_least 18 = .ok (.if_icmp .le 6, 3) := by decide +kernel
theorem dX4_least_21 : decode cX4_least 21 = .ok (.bipush (-2), 2) := by decide +kernel
theorem dX4_least_23 : decode cX4_least 23 = .ok (.ireturn, 1) := by decide +kernel
theorem dX4_least_24 : decode cX4_least 24 = .ok (.aload_n 0, 1) := by decide +kernel
theorem dX4_least_25 : decode cX4_least 25 = .ok (.getfield 43, 3) := by decide +kernel
theorem dX4_least_28 : decode cX4_least 28 = .ok (.istore_n 2, 1) := by decide +kernel
theorem dX4_least_29 : decode cX4_least 29 = .ok (.aload_n 0, 1) := by decide +kernel
theorem dX4_least_30 : decode cX4_least 30 = .ok (.iload_n 1, 1) := by decide +kernel
theorem dX4_least_31 : decode cX4_least 31 = .ok (.putfield 43, 3) := by decide +kernel
theorem dX4_least_34 : decode cX4_least 34 = .ok (.aload_n 0, 1) := by decide +kernel
theorem dX4_least_35 : decode cX4_least 35 = .ok (.getfield 28, 3) := by decide +kernel
theorem dX4_least_38 : decode cX4_least 38 = .ok (.invokevirtual 57, 3) := by decide +kernel
theorem dX4_least_41 : decode cX4_least 41 = .ok (.iload_n 2, 1) := by decide +kernel
theorem dX4_least_42 : decode cX4_least 42 = .ok (.ireturn, 1) := by decide +kernel
theorem dX4_tell_0 : decode cX4_tell 0 = .ok (.aload_n 0, 1) := by decide +kernel
theorem dX4_tell_1 : decode cX4_tell 1 = .ok (.getfield 12, 3) := by decide +kernel
theorem dX4_tell_4 : decode cX4_tell 4 = .ok (.iload_n 1, 1) := by decide +kernel
theorem dX4_tell_5 : decode cX4_tell 5 = .ok (.invokevirtual 108, 3) := by decide +kernel
theorem dX4_tell_8 : decode cX4_tell 8 = .ok (.ifCond .ne 5, 3) := by decide +kernel
theorem dX4_tell_11 : decode cX4_tell 11 = .ok (.iconst (-1), 1) := by decide +kernel
theorem dX4_tell_12 : decode cX4_tell 12 = .ok (.ireturn, 1) := by decide +kernel
theorem dX4_tell_13 : decode cX4_tell 13 = .ok (.iload_n 2, 1) := by decide +kernel
theorem dX4_tell_14 : decode cX4_tell 14 = .ok (.iconst (-1), 1) := by decide +kernel
theorem dX4_tell_15 : decode cX4_tell 15 = .ok (.if_icmp .lt 10, 3) := by decide +kernel
theorem dX4_tell_18 : decode cX4_tell 18 = .ok (.iload_n 2, 1) := by decide +kernel
theorem dX4_tell_19 : decode cX4_tell 19 = .ok (.sipush 4000, 3) := by decide +kernel
theorem dX4_tell_22 : decode cX4_tell 22 = .ok (.if_icmp .le 6, 3) := by decide +kernel
theorem dX4_tell_25 : decode cX4_tell 25 = .ok (.bipush (-2), 2) := by decide +kernel
theorem dX4_tell_27 : decode cX4_tell 27 = .ok (.ireturn, 1) := by decide +kernel
theorem dX4_tell_28 : decode cX4_tell 28 = .ok (.aload_n 0, 1) := by decide +kernel
theorem dX4_tell_29 : decode cX4_tell 29 = .ok (.iload_n 1, 1) := by decide +kernel
theorem dX4_tell_30 : decode cX4_tell 30 = .ok (.invokevirtual 123, 3) := by decide +kernel
theorem dX4_tell_33 : decode cX4_tell 33 = .ok (.istore_n 3, 1) := by decide +kernel
theorem dX4_tell_34 : decode cX4_tell 34 = .ok (.aload_n 0, 1) := by decide +kernel
theorem dX4_tell_35 : decode cX4_tell 35 = .ok (.getfield 19, 3) := by decide +kernel
theorem dX4_tell_38 : decode cX4_tell 38 = .ok (.invokevirtual 70, 3) := by decide +kernel
theorem dX4_tell_41 : decode cX4_tell 41 = .ok (.aload_n 0, 1) := by decide +kernel
theorem dX4_tell_42 : decode cX4_tell 42 = .ok (.getfield 19, 3) := by decide +kernel
theorem dX4_tell_45 : decode cX4_tell 45 = .ok (.iconst 0, 1) := by decide +kernel
theorem dX4_tell_46 : decode cX4_tell 46 = .ok (.bipush 12, 2) := by decide +kernel
theorem dX4_tell_48 : decode cX4_tell 48 = .ok (.iload_n 1, 1) := by decide +kernel
theorem dX4_tell_49 : decode cX4_tell 49 = .ok (.iadd, 1) := by decide +kernel
theorem dX4_tell_50 : decode cX4_tell 50 = .ok (.aload_n 0, 1) := by decide +kernel
theorem dX4_tell_51 : decode cX4_tell 51 = .ok (.getfield 12, 3) := by decide +kernel
theorem dX4_tell_54 : decode cX4_tell 54 = .ok (.iload_n 1, 1) := by decide +kernel
theorem dX4_tell_55 : decode cX4_tell 55 = .ok (.invokevirtual 144, 3) := by decide +kernel
theorem dX4_tell_58 : decode cX4_tell 58 = .ok (.iload_n 2, 1) := by decide +kernel
theorem dX4_tell_59 : decode cX4_tell 59 = .ok (.invokevirtual 77, 3) := by decide +kernel
theorem dX4_tell_62 : decode cX4_tell 62 = .ok (.aload_n 0, 1) := by decide +kernel
theorem dX4_tell_63 : decode cX4_tell 63 = .ok (.invokevirtual 81, 3) := by decide +kernel
theorem dX4_tell_66 : decode cX4_tell 66 = .ok (.iload_n 3, 1) := by decide +kernel
theorem dX4_tell_67 : decode cX4_tell 67 = .ok (.ireturn, 1) := by decide +kernel
theorem dX4_can_0 : decode cX4_can 0 = .ok (.aload_n 0, 1) := by decide +kernel
theorem dX4_can_1 : decode cX4_can 1 = .ok (.getfield 28, 3) := by decide +kernel
theorem dX4_can_4 : decode cX4_can 4 = .ok (.aload_n 0, 1) := by decide +kernel
theorem dX4_can_5 : decode cX4_can 5 = .ok (.getfield 39, 3) := by decide +kernel
theorem dX4_can_8 : decode cX4_can 8 = .ok (.aload_n 0, 1) := by decide +kernel
theorem dX4_can_9 : decode cX4_can 9 = .ok (.getfield 43, 3) := by decide +kernel
theorem dX4_can_12 : decode cX4_can 12 = .ok (.invokevirtual 126, 3) := by decide +kernel
theorem dX4_can_15 : decode cX4_can 15 = .ok (.ifCond .eq 7, 3) := by decide +kernel
theorem dX4_can_18 : decode cX4_can 18 = .ok (.iconst 1, 1) := by decide +kernel
theorem dX4_can_19 : decode cX4_can 19 = .ok (.goto 4, 3) := by decide +kernel
theorem dX4_can_22 : decode cX4_can 22 = .ok (.iconst 0, 1) := by decide +kernel
theorem dX4_can_23 : decode cX4_can 23 = .ok (.ireturn, 1) := by decide +kernel
theorem dX4_angle_0 : decode cX4_angle 0 = .ok (.aload_n 0, 1) := by decide +kernel
theorem dX4_angle_1 : decode cX4_angle 1 = .ok (.getfield 12, 3) := by decide +kernel
theorem dX4_angle_4 : decode cX4_angle 4 = .ok (.iload_n 1, 1) := by decide +kernel
theorem dX4_angle_5 : decode cX4_angle 5 = .ok (.invokevirtual 84, 3) := by decide +kernel
theorem dX4_angle_8 : decode cX4_angle 8 = .ok (.ifCond .ne 5, 3) := by decide +kernel
theorem dX4_angle_11 : decode cX4_angle 11 = .ok (.iconst (-1), 1) := by decide +kernel
theorem dX4_angle_12 : decode cX4_angle 12 = .ok (.ireturn, 1) := by decide +kernel
theorem dX4_angle_13 : decode cX4_angle 13 = .ok (.aload_n 0, 1) := by decide +kernel
theorem dX4_angle_14 : decode cX4_angle 14 = .ok (.getfield 28, 3) := by decide +kernel
theorem dX4_angle_17 : decode cX4_angle 17 = .ok (.aload_n 0, 1) := by decide +kernel
theorem dX4_angle_18 : decode cX4_angle 18 = .ok (.getfield 39, 3) := by decide +kernel
theorem dX4_angle_21 : decode cX4_angle 21 = .ok (.aload_n 0, 1) := by decide +kernel
theorem dX4_angle_22 : decode cX4_angle 22 = .ok (.getfield 43, 3) := by decide +kernel
theorem dX4_angle_25 : decode cX4_angle 25 = .ok (.invokevirtual 126, 3) := by decide +kernel
theorem dX4_angle_28 : decode cX4_angle 28 = .ok (.ifCond .eq 14, 3) := by decide +kernel
theorem dX4_angle_31 : decode cX4_angle 31 = .ok (.aload_n 0, 1) := by decide +kernel
theorem dX4_angle_32 : decode cX4_angle 32 = .ok (.getfield 28, 3) := by decide +kernel
theorem dX4_angle_35 : decode cX4_angle 35 = .ok (.iload_n 1, 1) := by decide +kernel
theorem dX4_angle_36 : decode cX4_angle 36 = .ok (.invokevirtual 147, 3) := by decide +kernel
theorem dX4_angle_39 : decode cX4_angle 39 = .ok (.goto 5, 3) := by decide +kernel
theorem dX4_angle_42 : decode cX4_angle 42 = .ok (.bipush (-6), 2) := by decide +kernel
theorem dX4_angle_44 : decode cX4_angle 44 = .ok (.ireturn, 1) := by decide +kernel
theorem dX4_best_0 : decode cX4_best 0 = .ok (.iconst 0, 1) := by decide +kernel
theorem dX4_best_1 : decode cX4_best 1 = .ok (.istore_n 1, 1) := by decide +kernel
theorem dX4_best_2 : decode cX4_best 2 = .ok (.bipush 60, 2) := by decide +kernel
theorem dX4_best_4 : decode cX4_best 4 = .ok (.aload_n 0, 1) := by decide +kernel
theorem dX4_best_5 : decode cX4_best 5 = .ok (.getfield 39, 3) := by decide +kernel
theorem dX4_best_8 : decode cX4_best 8 = .ok (.iconst 3, 1) := by decide +kernel
theorem dX4_best_9 : decode cX4_best 9 = .ok (.idiv, 1) := by decide +kernel
theorem dX4_best_10 : decode cX4_best 10 = .ok (.invokestatic 150, 3) := by decide +kernel
theorem dX4_best_13 : decode cX4_best 13 = .ok (.iconst 1, 1) := by decide +kernel
theorem dX4_best_14 : decode cX4_best 14 = .ok (.iadd, 1) := by decide +kernel
theorem dX4_best_15 : decode cX4_best 15 = .ok (.istore_n 2, 1) := by decide +kernel
theorem dX4_best_16 : decode cX4_best 16 = .ok (.iconst 0, 1) := by decide +kernel
theorem dX4_best_17 : decode cX4_best 17 = .ok (.istore_n 3, 1) := by decide +kernel
theorem dX4_best_18 : decode cX4_best 18 = .ok (.iload_n 3, 1) := by decide +kernel
theorem dX4_best_19 : decode cX4_best 19 = .ok (.bipush 60, 2) := by decide +kernel
theorem dX4_best_21 : decode cX4_best 21 = .ok (.if_icmp .ge 48, 3) := by decide +kernel
theorem dX4_best_24 : decode cX4_best 24 = .ok (.iload_n 2, 1) := by decide +kernel
theorem dX4_best_25 : decode cX4_best 25 = .ok (.iload_n 1, 1) := by decide +kernel
theorem dX4_best_26 : decode cX4_best 26 = .ok (.isub, 1) := by decide +kernel
theorem dX4_best_27 : decode cX4_best 27 = .ok (.iconst 1, 1) := by decide +kernel
theorem dX4_best_28 : decode cX4_best 28 = .ok (.if_icmp .le 41, 3) := by decide +kernel
theorem dX4_best_31 : decode cX4_best 31 = .ok (.iload_n 1, 1) := by decide +kernel
theorem dX4_best_32 : decode cX4_best 32 = .ok (.iload_n 2, 1) := by decide +kernel
theorem dX4_best_33 : decode cX4_best 33 = .ok (.iadd, 1) := by decide +kernel
theorem dX4_best_34 : decode cX4_best 34 = .ok (.iconst 2, 1) := by decide +kernel
theorem dX4_best_35 : decode cX4_best 35 = .ok (.idiv, 1) := by decide +kernel
theorem dX4_best_36 : decode cX4_best 36 = .ok (.istore 4, 2) := by decide +kernel
theorem dX4_best_38 : decode cX4_best 38 = .ok (.aload_n 0, 1) := by decide +kernel
theorem dX4_best_39 : decode cX4_best 39 = .ok (.getfield 28, 3) := by decide +kernel
theorem dX4_best_42 : decode cX4_best 42 = .ok (.aload_n 0, 1) := by decide +kernel
theorem dX4_best_43 : decode cX4_best 43 = .ok (.getfield 39, 3) := by decide +kernel
theorem dX4_best_46 : decode cX4_best 46 = .ok (.iload 4, 2) := by decide +kernel
theorem dX4_best_48 : decode cX4_best 48 = .ok (.invokevirtual 155, 3) := by decide +kernel
theorem dX4_best_51 : decode cX4_best 51 = .ok (.ifCond .eq 9, 3) := by decide +kernel
theorem dX4_best_54 : decode cX4_best 54 = .ok (.iload 4, 2) := by decide +kernel
theorem dX4_best_56 : decode cX4_best 56 = .ok (.istore_n 1, 1) := by decide +kernel
theorem dX4_best_57 : decode cX4_best 57 = .ok (.goto 6, 3) := by decide +kernel
theorem dX4_best_60 : decode cX4_best 60 = .ok (.iload 4, 2) := by decide +kernel
theorem dX4_best_62 : decode cX4_best 62 = .ok (.istore_n 2, 1) := by decide +kernel
theorem dX4_best_63 : decode cX4_best 63 = .ok (.iinc 3 1, 3) := by decide +kernel
theorem dX4_best_66 : decode cX4_best 66 = .ok (.goto (-48), 3) := by decide +kernel
theorem dX4_best_69 : decode cX4_best 69 = .ok (.iload_n 1, 1) := by decide +kernel
theorem dX4_best_70 : decode cX4_best 70 = .ok (.ifCond .ne 8, 3) := by decide +kernel
theorem dX4_best_73 : decode cX4_best 73 = .ok (.bipush (-6), 2) := by decide +kernel
theorem dX4_best_75 : decode cX4_best 75 = .ok (.goto 4, 3) := by decide +kernel
theorem dX4_best_78 : decode cX4_best 78 = .ok (.iload_n 1, 1) := by decide +kernel
theorem dX4_best_79 : decode cX4_best 79 = .ok (.ireturn, 1) := by decide +kernel
theorem dX4_bar_0 : decode cX4_bar 0 = .ok (.iload_n 1, 1) := by decide +kernel
theorem dX4_bar_1 : decode cX4_bar 1 = .ok (.ifCond .lt 8, 3) := by decide +kernel
theorem dX4_bar_4 : decode cX4_bar 4 = .ok (.iload_n 1, 1) := by decide +kernel
theorem dX4_bar_5 : decode cX4_bar 5 = .ok (.iconst 2, 1) := by decide +kernel
theorem dX4_bar_6 : decode cX4_bar 6 = .ok (.if_icmp .le 6, 3) := by decide +kernel
theorem dX4_bar_9 : decode cX4_bar 9 = .ok (.bipush (-2), 2) := by decide +kernel
theorem dX4_bar_11 : decode cX4_bar 11 = .ok (.ireturn, 1) := by decide +kernel
theorem dX4_bar_12 : decode cX4_bar 12 = .ok (.aload_n 0, 1) := by decide +kernel
theorem dX4_bar_13 : decode cX4_bar 13 = .ok (.getfield 28, 3) := by decide +kernel
theorem dX4_bar_16 : decode cX4_bar 16 = .ok (.aload_n 0, 1) := by decide +kernel
theorem dX4_bar_17 : decode cX4_bar 17 = .ok (.getfield 39, 3) := by decide +kernel
theorem dX4_bar_20 : decode cX4_bar 20 = .ok (.aload_n 0, 1) := by decide +kernel
theorem dX4_bar_21 : decode cX4_bar 21 = .ok (.getfield 43, 3) := by decide +kernel
theorem dX4_bar_24 : decode cX4_bar 24 = .ok (.invokevirtual 126, 3) := by decide +kernel
theorem dX4_bar_27 : decode cX4_bar 27 = .ok (.ifCond .eq 7, 3) := by decide +kernel
theorem dX4_bar_30 : decode cX4_bar 30 = .ok (.iconst 0, 1) := by decide +kernel
theorem dX4_bar_31 : decode cX4_bar 31 = .ok (.goto 19, 3) := by decide +kernel
theorem dX4_bar_34 : decode cX4_bar 34 = .ok (.aload_n 0, 1) := by decide +kernel
theorem dX4_bar_35 : decode cX4_bar 35 = .ok (.getfield 35, 3) := by decide +kernel
theorem dX4_bar_38 : decode cX4_bar 38 = .ok (.iload_n 1, 1) := by decide +kernel
theorem dX4_bar_39 : decode cX4_bar 39 = .ok (.aload_n 0, 1) := by decide +kernel
theorem dX4_bar_40 : decode cX4_bar 40 = .ok (.getfield 39, 3) := by decide +kernel
theorem dX4_bar_43 : decode cX4_bar 43 = .ok (.aload_n 0, 1) := by decide +kernel
theorem dX4_bar_44 : decode cX4_bar 44 = .ok (.getfield 43, 3) := by decide +kernel
theorem dX4_bar_47 : decode cX4_bar 47 = .ok (.invokevirtual 158, 3) := by decide +kernel
theorem dX4_bar_50 : decode cX4_bar 50 = .ok (.ireturn, 1) := by decide +kernel
theorem dX4_opposite_0 : decode cX4_opposite 0 = .ok (.aload_n 0, 1) := by decide +kernel
theorem dX4_opposite_1 : decode cX4_opposite 1 = .ok (.getfield 12, 3) := by decide +kernel
theorem dX4_opposite_4 : decode cX4_opposite 4 = .ok (.iload_n 1, 1) := by decide +kernel
theorem dX4_opposite_5 : decode cX4_opposite 5 = .ok (.iload_n 2, 1) := by decide +kernel
theorem dX4_opposite_6 : decode cX4_opposite 6 = .ok (.invokevirtual 99, 3) := by decide +kernel
theorem dX4_opposite_9 : decode cX4_opposite 9 = .ok (.ifCond .ne 5, 3) := by decide +kernel
theorem dX4_opposite_12 : decode cX4_opposite 12 = .ok (.iconst (-1), 1) := by decide +kernel
theorem dX4_opposite_13 : decode cX4_opposite 13 = .ok (.ireturn, 1) := by decide +kernel
theorem dX4_opposite_14 : decode cX4_opposite 14 = .ok (.aload_n 0, 1) := by decide +kernel
theorem dX4_opposite_15 : decode cX4_opposite 15 = .ok (.getfield 28, 3) := by decide +kernel
theorem dX4_opposite_18 : decode cX4_opposite 18 = .ok (.aload_n 0, 1) := by decide +kernel
theorem dX4_opposite_19 : decode cX4_opposite 19 = .ok (.getfield 39, 3) := by decide +kernel
theorem dX4_opposite_22 : decode cX4_opposite 22 = .ok (.aload_n 0, 1) := by decide +kernel
theorem dX4_opposite_23 : decode cX4_opposite 23 = .ok (.getfield 43, 3) := by decide +kernel
theorem dX4_opposite_26 : decode cX4_opposite 26 = .ok (.invokevirtual 126, 3) := by decide +kernel
theorem dX4_opposite_29 : decode cX4_opposite 29 = .ok (.ifCond .eq 12, 3) := by decide +kernel
theorem dX4_opposite_32 : decode cX4_opposite 32 = .ok (.aload_n 0, 1) := by decide +kernel
theorem dX4_opposite_33 : decode cX4_opposite 33 = .ok (.iload_n 1, 1) := by decide +kernel
theorem dX4_opposite_34 : decode cX4_opposite 34 = .ok (.iload_n 2, 1) := by decide +kernel
theorem dX4_opposite_35 : decode cX4_opposite 35 = .ok (.invokevirtual 161, 3) := by decide +kernel
theorem dX4_opposite_38 : decode cX4_opposite 38 = .ok (.goto 5, 3) := by decide +kernel
theorem dX4_opposite_41 : decode cX4_opposite 41 = .ok (.bipush (-6), 2) := by decide +kernel
theorem dX4_opposite_43 : decode cX4_opposite 43 = .ok (.ireturn, 1) := by decide +kernel
theorem dX4_fit_0 : decode cX4_fit 0 = .ok (.aload_n 0, 1) := by decide +kernel
theorem dX4_fit_1 : decode cX4_fit 1 = .ok (.getfield 28, 3) := by decide +kernel
theorem dX4_fit_4 : decode cX4_fit 4 = .ok (.aload_n 0, 1) := by decide +kernel
theorem dX4_fit_5 : decode cX4_fit 5 = .ok (.getfield 39, 3) := by decide +kernel
theorem dX4_fit_8 : decode cX4_fit 8 = .ok (.aload_n 0, 1) := by decide +kernel
theorem dX4_fit_9 : decode cX4_fit 9 = .ok (.getfield 43, 3) := by decide +kernel
theorem dX4_fit_12 : decode cX4_fit 12 = .ok (.invokevirtual 126, 3) := by decide +kernel
theorem dX4_fit_15 : decode cX4_fit 15 = .ok (.ifCond .ne 6, 3) := by decide +kernel
theorem dX4_fit_18 : decode cX4_fit 18 = .ok (.bipush (-6), 2) := by decide +kernel
theorem dX4_fit_20 : decode cX4_fit 20 = .ok (.ireturn, 1) := by decide +kernel
theorem dX4_fit_21 : decode cX4_fit 21 = .ok (.iconst 0, 1) := by decide +kernel
theorem dX4_fit_22 : decode cX4_fit 22 = .ok (.istore_n 1, 1) := by decide +kernel
theorem dX4_fit_23 : decode cX4_fit 23 = .ok (.iconst 0, 1) := by decide +kernel
theorem dX4_fit_24 : decode cX4_fit 24 = .ok (.istore_n 2, 1) := by decide +kernel
theorem dX4_fit_25 : decode cX4_fit 25 = .ok (.iload_n 2, 1) := by decide +kernel
theorem dX4_fit_26 : decode cX4_fit 26 = .ok (.aload_n 0, 1) := by decide +kernel
theorem dX4_fit_27 : decode cX4_fit 27 = .ok (.getfield 12, 3) := by decide +kernel
theorem dX4_fit_30 : decode cX4_fit 30 = .ok (.invokevirtual 46, 3) := by decide +kernel
theorem dX4_fit_33 : decode cX4_fit 33 = .ok (.if_icmp .ge 59, 3) := by decide +kernel
theorem dX4_fit_36 : decode cX4_fit 36 = .ok (.iload_n 2, 1) := by decide +kernel
theorem dX4_fit_37 : decode cX4_fit 37 = .ok (.iconst 1, 1) := by decide +kernel
theorem dX4_fit_38 : decode cX4_fit 38 = .ok (.iadd, 1) := by decide +kernel
theorem dX4_fit_39 : decode cX4_fit 39 = .ok (.istore_n 3, 1) := by decide +kernel
theorem dX4_fit_40 : decode cX4_fit 40 = .ok (.iload_n 3, 1) := by decide +kernel
theorem dX4_fit_41 : decode cX4_fit 41 = .ok (.aload_n 0, 1) := by decide +kernel
theorem dX4_fit_42 : decode cX4_fit 42 = .ok (.getfield 12, 3) := by decide +kernel
theorem dX4_fit_45 : decode cX4_fit 45 = .ok (.invokevirtual 46, 3) := by decide +kernel
theorem dX4_fit_48 : decode cX4_fit 48 = .ok (.if_icmp .ge 38, 3) := by decide +kernel
theorem dX4_fit_51 : decode cX4_fit 51 = .ok (.aload_n 0, 1) := by decide +kernel
theorem dX4_fit_52 : decode cX4_fit 52 = .ok (.getfield 12, 3) := by decide +kernel
theorem dX4_fit_55 : decode cX4_fit 55 = .ok (.iload_n 2, 1) := by decide +kernel
theorem dX4_fit_56 : decode cX4_fit 56 = .ok (.iload_n 3, 1) := by decide +kernel
theorem dX4_fit_57 : decode cX4_fit 57 = .ok (.invokevirtual 92, 3) := by decide +kernel
theorem dX4_fit_60 : decode cX4_fit 60 = .ok (.iconst 2, 1) := by decide +kernel
theorem dX4_fit_61 : decode cX4_fit 61 = .ok (.if_icmp .ne 19, 3) := by decide +kernel
theorem dX4_fit_64 : decode cX4_fit 64 = .ok (.aload_n 0, 1) := by decide +kernel
theorem dX4_fit_65 : decode cX4_fit 65 = .ok (.iload_n 2, 1) := by decide +kernel
theorem dX4_fit_66 : decode cX4_fit 66 = .ok (.iload_n 3, 1) := by decide +kernel
theorem dX4_fit_67 : decode cX4_fit 67 = .ok (.invokevirtual 161, 3) := by decide +kernel
theorem dX4_fit_70 : decode cX4_fit 70 = .ok (.aload_n 0, 1) := by decide +kernel
theorem dX4_fit_71 : decode cX4_fit 71 = .ok (.getfield 39, 3) := by decide +kernel
theorem dX4_fit_74 : decode cX4_fit 74 = .ok (.if_icmp .gt 6, 3) := by decide +kernel
theorem dX4_fit_77 : decode cX4_fit 77 = .ok (.iinc 1 1, 3) := by decide +kernel
theorem dX4_fit_80 : decode cX4_fit 80 = .ok (.iinc 3 1, 3) := by decide +kernel
theorem dX4_fit_83 : decode cX4_fit 83 = .ok (.goto (-43), 3) := by decide +kernel
theorem dX4_fit_86 : decode cX4_fit 86 = .ok (.iinc 2 1, 3) := by decide +kernel
theorem dX4_fit_89 : decode cX4_fit 89 = .ok (.goto (-64), 3) := by decide +kernel
theorem dX4_fit_92 : decode cX4_fit 92 = .ok (.iload_n 1, 1) := by decide +kernel
theorem dX4_fit_93 : decode cX4_fit 93 = .ok (.ireturn, 1) := by decide +kernel
theorem dX4_undo_0 : decode cX4_undo 0 = .ok (.aload_n 0, 1) := by decide +kernel
theorem dX4_undo_1 : decode cX4_undo 1 = .ok (.getfield 19, 3) := by decide +kernel
theorem dX4_undo_4 : decode cX4_undo 4 = .ok (.invokevirtual 164, 3) := by decide +kernel
theorem dX4_undo_7 : decode cX4_undo 7 = .ok (.ifCond .ne 6, 3) := by decide +kernel
theorem dX4_undo_10 : decode cX4_undo 10 = .ok (.bipush (-3), 2) := by decide +kernel
theorem dX4_undo_12 : decode cX4_undo 12 = .ok (.ireturn, 1) := by decide +kernel
theorem dX4_undo_13 : decode cX4_undo 13 = .ok (.aload_n 0, 1) := by decide +kernel
theorem dX4_undo_14 : decode cX4_undo 14 = .ok (.getfield 19, 3) := by decide +kernel
theorem dX4_undo_17 : decode cX4_undo 17 = .ok (.aload_n 0, 1) := by decide +kernel
theorem dX4_undo_18 : decode cX4_undo 18 = .ok (.getfield 12, 3) := by decide +kernel
theorem dX4_undo_21 : decode cX4_undo 21 = .ok (.invokevirtual 167, 3) := by decide +kernel
theorem dX4_undo_24 : decode cX4_undo 24 = .ok (.aload_n 0, 1) := by decide +kernel
theorem dX4_undo_25 : decode cX4_undo 25 = .ok (.getfield 28, 3) := by decide +kernel
theorem dX4_undo_28 : decode cX4_undo 28 = .ok (.invokevirtual 57, 3) := by decide +kernel
theorem dX4_undo_31 : decode cX4_undo 31 = .ok (.aload_n 0, 1) := by decide +kernel
theorem dX4_undo_32 : decode cX4_undo 32 = .ok (.getfield 19, 3) := by decide +kernel
theorem dX4_undo_35 : decode cX4_undo 35 = .ok (.invokevirtual 164, 3) := by decide +kernel
theorem dX4_undo_38 : decode cX4_undo 38 = .ok (.ireturn, 1) := by decide +kernel
theorem dX4_redo_0 : decode cX4_redo 0 = .ok (.aload_n 0, 1) := by decide +kernel
theorem dX4_redo_1 : decode cX4_redo 1 = .ok (.getfield 19, 3) := by decide +kernel
theorem dX4_redo_4 : decode cX4_redo 4 = .ok (.invokevirtual 170, 3) := by decide +kernel
theorem dX4_redo_7 : decode cX4_redo 7 = .ok (.ifCond .ne 6, 3) := by decide +kernel
theorem dX4_redo_10 : decode cX4_redo 10 = .ok (.bipush (-3), 2) := by decide +kernel
theorem dX4_redo_12 : decode cX4_redo 12 = .ok (.ireturn, 1) := by decide +kernel
theorem dX4_redo_13 : decode cX4_redo 13 = .ok (.aload_n 0, 1) := by decide +kernel
theorem dX4_redo_14 : decode cX4_redo 14 = .ok (.invokevirtual 81, 3) := by decide +kernel
theorem dX4_redo_17 : decode cX4_redo 17 = .ok (.aload_n 0, 1) := by decide +kernel
theorem dX4_redo_18 : decode cX4_redo 18 = .ok (.getfield 19, 3) := by decide +kernel
theorem dX4_redo_21 : decode cX4_redo 21 = .ok (.invokevirtual 170, 3) := by decide +kernel
theorem dX4_redo_24 : decode cX4_redo 24 = .ok (.ireturn, 1) := by decide +kernel
theorem dX4_goForward_0 : decode cX4_goForward 0 = .ok (.aload_n 0, 1) := by decide +kernel
theorem dX4_goForward_1 : decode cX4_goForward 1 = .ok (.getfield 19, 3) := by decide +kernel
theorem dX4_goForward_4 : decode cX4_goForward 4 = .ok (.aload_n 0, 1) := by decide +kernel
theorem dX4_goForward_5 : decode cX4_goForward 5 = .ok (.getfield 12, 3) := by decide +kernel
theorem dX4_goForward_8 : decode cX4_goForward 8 = .ok (.invokevirtual 173, 3) := by decide +kernel
theorem dX4_goForward_11 : decode cX4_goForward 11 = .ok (.aload_n 0, 1) := by decide +kernel
theorem dX4_goForward_12 : decode cX4_goForward 12 = .ok (.getfield 28, 3) := by decide +kernel
theorem dX4_goForward_15 : decode cX4_goForward 15 = .ok (.invokevirtual 57, 3) := by decide +kernel
theorem dX4_goForward_18 : decode cX4_goForward 18 = .ok (.return_, 1) := by decide +kernel
theorem dX4_sumOrNone_0 : decode cX4_sumOrNone 0 = .ok (.aload_n 0, 1) := by decide +kernel
theorem dX4_sumOrNone_1 : decode cX4_sumOrNone 1 = .ok (.getfield 12, 3) := by decide +kernel
theorem dX4_sumOrNone_4 : decode cX4_sumOrNone 4 = .ok (.iload_n 1, 1) := by decide +kernel
theorem dX4_sumOrNone_5 : decode cX4_sumOrNone 5 = .ok (.invokevirtual 144, 3) := by decide +kernel
theorem dX4_sumOrNone_8 : decode cX4_sumOrNone 8 = .ok (.istore_n 2, 1) := by decide +kernel
theorem dX4_sumOrNone_9 : decode cX4_sumOrNone 9 = .ok (.iload_n 2, 1) := by decide +kernel
theorem dX4_sumOrNone_10 : decode cX4_sumOrNone 10 = .ok (.iconst (-1), 1) := by decide +kernel
theorem dX4_sumOrNone_11 : decode cX4_sumOrNone 11 = .ok (.if_icmp .ne 8, 3) := by decide +kernel
theorem dX4_sumOrNone_14 : decode cX4_sumOrNone 14 = .ok (.bipush (-6), 2) := by decide +kernel
theorem dX4_sumOrNone_16 : decode cX4_sumOrNone 16 = .ok (.goto 4, 3) := by decide +kernel
theorem dX4_sumOrNone_19 : decode cX4_sumOrNone 19 = .ok (.iload_n 2, 1) := by decide +kernel
theorem dX4_sumOrNone_20 : decode cX4_sumOrNone 20 = .ok (.ireturn, 1) := by decide +kernel
theorem dX4_givenOpposite_0 : decode cX4_givenOpposite 0 = .ok (.iconst 0, 1) := by decide +kernel
theorem dX4_givenOpposite_1 : decode cX4_givenOpposite 1 = .ok (.istore_n 3, 1) := by decide +kernel
theorem dX4_givenOpposite_2 : decode cX4_givenOpposite 2 = .ok (.aload_n 0, 1) := by decide +kernel
theorem dX4_givenOpposite_3 : decode cX4_givenOpposite 3 = .ok (.getfield 12, 3) := by decide +kernel
theorem dX4_givenOpposite_6 : decode cX4_givenOpposite 6 = .ok (.iload_n 1, 1) := by decide +kernel
theorem dX4_givenOpposite_7 : decode cX4_givenOpposite 7 = .ok (.iload_n 2, 1) := by decide +kernel
theorem dX4_givenOpposite_8 : decode cX4_givenOpposite 8 = .ok (.invokevirtual 67, 3) := by decide +kernel
theorem dX4_givenOpposite_11 : decode cX4_givenOpposite 11 = .ok (.ifCond .eq 31, 3) := by decide +kernel
theorem dX4_givenOpposite_14 : decode cX4_givenOpposite 14 = .ok (.iload_n 3, 1) := by decide +kernel
theorem dX4_givenOpposite_15 : decode cX4_givenOpposite 15 = .ok (.aload_n 0, 1) := by decide +kernel
theorem dX4_givenOpposite_16 : decode cX4_givenOpposite 16 = .ok (.getfield 28, 3) := by decide +kernel
theorem dX4_givenOpposite_19 : decode cX4_givenOpposite 19 = .ok (.aload_n 0, 1) := by decide +kernel
theorem dX4_givenOpposite_20 : decode cX4_givenOpposite 20 = .ok (.getfield 12, 3) := by decide +kernel
theorem dX4_givenOpposite_23 : decode cX4_givenOpposite 23 = .ok (.aload_n 0, 1) := by decide +kernel
theorem dX4_givenOpposite_24 : decode cX4_givenOpposite 24 = .ok (.getfield 12, 3) := by decide +kernel
theorem dX4_givenOpposite_27 : decode cX4_givenOpposite 27 = .ok (.iload_n 1, 1) := by decide +kernel
theorem dX4_givenOpposite_28 : decode cX4_givenOpposite 28 = .ok (.iload_n 2, 1) := by decide +kernel
theorem dX4_givenOpposite_29 : decode cX4_givenOpposite 29 = .ok (.invokevirtual 96, 3) := by decide +kernel
theorem dX4_givenOpposite_32 : decode cX4_givenOpposite 32 = .ok (.iload_n 1, 1) := by decide +kernel
theorem dX4_givenOpposite_33 : decode cX4_givenOpposite 33 = .ok (.iload_n 2, 1) := by decide +kernel
theorem dX4_givenOpposite_34 : decode cX4_givenOpposite 34 = .ok (.invokevirtual 102, 3) := by decide +kernel
theorem dX4_givenOpposite_37 : decode cX4_givenOpposite 37 = .ok (.invokevirtual 147, 3) := by decide +kernel
theorem dX4_givenOpposite_40 : decode cX4_givenOpposite 40 = .ok (.iadd, 1) := by decide +kernel
theorem dX4_givenOpposite_41 : decode cX4_givenOpposite 41 = .ok (.istore_n 3, 1) := by decide +kernel
theorem dX4_givenOpposite_42 : decode cX4_givenOpposite 42 = .ok (.aload_n 0, 1) := by decide +kernel
theorem dX4_givenOpposite_43 : decode cX4_givenOpposite 43 = .ok (.getfield 12, 3) := by decide +kernel
theorem dX4_givenOpposite_46 : decode cX4_givenOpposite 46 = .ok (.iload_n 2, 1) := by decide +kernel
theorem dX4_givenOpposite_47 : decode cX4_givenOpposite 47 = .ok (.iload_n 1, 1) := by decide +kernel
theorem dX4_givenOpposite_48 : decode cX4_givenOpposite 48 = .ok (.invokevirtual 67, 3) := by decide +kernel
theorem dX4_givenOpposite_51 : decode cX4_givenOpposite 51 = .ok (.ifCond .eq 31, 3) := by decide +kernel
theorem dX4_givenOpposite_54 : decode cX4_givenOpposite 54 = .ok (.iload_n 3, 1) := by decide +kernel
theorem dX4_givenOpposite_55 : decode cX4_givenOpposite 55 = .ok (.aload_n 0, 1) := by decide +kernel
theorem dX4_givenOpposite_56 : decode cX4_givenOpposite 56 = .ok (.getfield 28, 3) := by decide +kernel
theorem dX4_givenOpposite_59 : decode cX4_givenOpposite 59 = .ok (.aload_n 0, 1) := by decide +kernel
theorem dX4_givenOpposite_60 : decode cX4_givenOpposite 60 = .ok (.getfield 12, 3) := by decide +kernel
theorem dX4_givenOpposite_63 : decode cX4_givenOpposite 63 = .ok (.aload_n 0, 1) := by decide +kernel
theorem dX4_givenOpposite_64 : decode cX4_givenOpposite 64 = .ok (.getfield 12, 3) := by decide +kernel
theorem dX4_givenOpposite_67 : decode cX4_givenOpposite 67 = .ok (.iload_n 2, 1) := by decide +kernel
theorem dX4_givenOpposite_68 : decode cX4_givenOpposite 68 = .ok (.iload_n 1, 1) := by decide +kernel
theorem dX4_givenOpposite_69 : decode cX4_givenOpposite 69 = .ok (.invokevirtual 96, 3) := by decide +kernel
theorem dX4_givenOpposite_72 : decode cX4_givenOpposite 72 = .ok (.iload_n 1, 1) := by decide +kernel
theorem dX4_givenOpposite_73 : decode cX4_givenOpposite 73 = .ok (.iload_n 2, 1) := by decide +kernel
theorem dX4_givenOpposite_74 : decode cX4_givenOpposite 74 = .ok (.invokevirtual 102, 3) := by decide +kernel
theorem dX4_givenOpposite_77 : decode cX4_givenOpposite 77 = .ok (.invokevirtual 147, 3) := by decide +kernel
theorem dX4_givenOpposite_80 : decode cX4_givenOpposite 80 = .ok (.iadd, 1) := by decide +kernel
theorem dX4_givenOpposite_81 : decode cX4_givenOpposite 81 = .ok (.istore_n 3, 1) := by decide +kernel
theorem dX4_givenOpposite_82 : decode cX4_givenOpposite 82 = .ok (.iload_n 3, 1) := by decide +kernel
theorem dX4_givenOpposite_83 : decode cX4_givenOpposite 83 = .ok (.ireturn, 1) := by decide +kernel
theorem dX5_init_0 : decode cX5_init 0 = .ok (.aload_n 0, 1) := by decide +kernel
theorem dX5_init_1 : decode cX5_init 1 = .ok (.invokespecial 1, 3) := by decide +kernel
theorem dX5_init_4 : decode cX5_init 4 = .ok (.aload_n 0, 1) := by decide +kernel
theorem dX5_init_5 : decode cX5_init 5 = .ok (.iconst 4, 1) := by decide +kernel
theorem dX5_init_6 : decode cX5_init 6 = .ok (.putfield 7, 3) := by decide +kernel
theorem dX5_init_9 : decode cX5_init 9 = .ok (.aload_n 0, 1) := by decide +kernel
theorem dX5_init_10 : decode cX5_init 10 = .ok (.bipush 36, 2) := by decide +kernel
theorem dX5_init_12 : decode cX5_init 12 = .ok (.newarray .int, 2) := by decide +kernel
theorem dX5_init_14 : decode cX5_init 14 = .ok (.putfield 13, 3) := by decide +kernel
theorem dX5_init_17 : decode cX5_init 17 = .ok (.aload_n 0, 1) := by decide +kernel
theorem dX5_init_18 : decode cX5_init 18 = .ok (.sipush 180, 3) := by decide +kernel
theorem dX5_init_21 : decode cX5_init 21 = .ok (.putfield 17, 3) := by decide +kernel
theorem dX5_init_24 : decode cX5_init 24 = .ok (.aload_n 0, 1) := by decide +kernel
theorem dX5_init_25 : decode cX5_init 25 = .ok (.iconst 1, 1) := by decide +kernel
theorem dX5_init_26 : decode cX5_init 26 = .ok (.putfield 20, 3) := by decide +kernel
theorem dX5_init_29 : decode cX5_init 29 = .ok (.aload_n 0, 1) := by decide +kernel
theorem dX5_init_30 : decode cX5_init 30 = .ok (.bipush 9, 2) := by decide +kernel
theorem dX5_init_32 : decode cX5_init 32 = .ok (.newarray .int, 2) := by decide +kernel
theorem dX5_init_34 : decode cX5_init 34 = .ok (.putfield 23, 3) := by decide +kernel
theorem dX5_init_37 : decode cX5_init 37 = .ok (.aload_n 0, 1) := by decide +kernel
theorem dX5_init_38 : decode cX5_init 38 = .ok (.bipush 36, 2) := by decide +kernel
theorem dX5_init_40 : decode cX5_init 40 = .ok (.newarray .int, 2) := by decide +kernel
theorem dX5_init_42 : decode cX5_init 42 = .ok (.putfield 26, 3) := by decide +kernel
theorem dX5_init_45 : decode cX5_init 45 = .ok (.aload_n 0, 1) := by decide +kernel
theorem dX5_init_46 : decode cX5_init 46 = .ok (.sipush 900, 3) := by decide +kernel
theorem dX5_init_49 : decode cX5_init 49 = .ok (.newarray .int, 2) := by decide +kernel
theorem dX5_init_51 : decode cX5_init 51 = .ok (.putfield 29, 3) := by decide +kernel
theorem dX5_init_54 : decode cX5_init 54 = .ok (.aload_n 0, 1) := by decide +kernel
theorem dX5_init_55 : decode cX5_init 55 = .ok (.bipush 12, 2) := by decide +kernel
theorem dX5_init_57 : decode cX5_init 57 = .ok (.newarray .int, 2) := by decide +kernel
theorem dX5_init_59 : decode cX5_init 59 = .ok (.putfield 32, 3) := by decide +kernel
theorem dX5_init_62 : decode cX5_init 62 = .ok (.aload_n 0, 1) := by decide +kernel
theorem dX5_init_63 : decode cX5_init 63 = .ok (.bipush 12, 2) := by decide +kernel
theorem dX5_init_65 : decode cX5_init 65 = .ok (.newarray .int, 2) := by decide +kernel
theorem dX5_init_67 : decode cX5_init 67 = .ok (.putfield 35, 3) := by decide +kernel
theorem dX5_init_70 : decode cX5_init 70 = .ok (.aload_n 0, 1) := by decide +kernel
theorem dX5_init_71 : decode cX5_init 71 = .ok (.bipush 9, 2) := by decide +kernel
theorem dX5_init_73 : decode cX5_init 73 = .ok (.newarray .int, 2) := by decide +kernel
theorem dX5_init_75 : decode cX5_init 75 = .ok (.putfield 38, 3) := by decide +kernel
theorem dX5_init_78 : decode cX5_init 78 = .ok (.aload_n 0, 1) := by decide +kernel
theorem dX5_init_79 : decode cX5_init 79 = .ok (.bipush 21, 2) := by decide +kernel
theorem dX5_init_81 : decode cX5_init 81 = .ok (.newarray .int, 2) := by decide +kernel
theorem dX5_init_83 : decode cX5_init 83 = .ok (.putfield 41, 3) := by decide +kernel
theorem dX5_init_86 : decode cX5_init 86 = .ok (.aload_n 0, 1) := by decide +kernel
theorem dX5_init_87 : decode cX5_init 87 = .ok (.bipush 21, 2) := by decide +kernel
theorem dX5_init_89 : decode cX5_init 89 = .ok (.newarray .int, 2) := by decide +kernel
theorem dX5_init_91 : decode cX5_init 91 = .ok (.putfield 44, 3) := by decide +kernel
theorem dX5_init_94 : decode cX5_init 94 = .ok (.aload_n 0, 1) := by decide +kernel
theorem dX5_init_95 : decode cX5_init 95 = .ok (.bipush 21, 2) := by decide +kernel
theorem dX5_init_97 : decode cX5_init 97 = .ok (.newarray .int, 2) := by decide +kernel
theorem dX5_init_99 : decode cX5_init 99 = .ok (.putfield 47, 3) := by decide +kernel
theorem dX5_init_102 : decode cX5_init 102 = .ok (.aload_n 0, 1) := by decide +kernel
theorem dX5_init_103 : decode cX5_init 103 = .ok (.invokevirtual 50, 3) := by decide +kernel
theorem dX5_init_106 : decode cX5_init 106 = .ok (.return_, 1) := by decide +kernel
theorem dX5_in_0 : decode cX5_in 0 = .ok (.iload_n 0, 1) := by decide +kernel
theorem dX5_in_1 : decode cX5_in 1 = .ok (.iload_n 1, 1) := by decide +kernel
theorem dX5_in_2 : decode cX5_in 2 = .ok (.if_icmp .lt 12, 3) := by decide +kernel
theorem dX5_in_5 : decode cX5_in 5 = .ok (.iload_n 0, 1) := by decide +kernel
theorem dX5_in_6 : decode cX5_in 6 = .ok (.iload_n 2, 1) := by decide +kernel
theorem dX5_in_7 : decode cX5_in 7 = .ok (.if_icmp .gt 7, 3) := by decide +kernel
theorem dX5_in_10 : decode cX5_in 10 = .ok (.iconst 1, 1) := by decide +kernel
theorem dX5_in_11 : decode cX5_in 11 = .ok (.goto 4, 3) := by decide +kernel
theorem dX5_in_14 : decode cX5_in 14 = .ok (.iconst 0, 1) := by decide +kernel
theorem dX5_in_15 : decode cX5_in 15 = .ok (.ireturn, 1) := by decide +kernel
theorem dX5_begin_0 : decode cX5_begin 0 = .ok (.aload_n 0, 1) := by decide +kernel
theorem dX5_begin_1 : decode cX5_begin 1 = .ok (.iconst 0, 1) := by decide +kernel
theorem dX5_begin_2 : decode cX5_begin 2 = .ok (.putfield 53, 3) := by decide +kernel
theorem dX5_begin_5 : decode cX5_begin 5 = .ok (.iconst 0, 1) := by decide +kernel
theorem dX5_begin_6 : decode cX5_begin 6 = .ok (.istore_n 1, 1) := by decide +kernel
theorem dX5_begin_7 : decode cX5_begin 7 = .ok (.iload_n 1, 1) := by decide +kernel
theorem dX5_begin_8 : decode cX5_begin 8 = .ok (.bipush 9, 2) := by decide +kernel
theorem dX5_begin_10 : decode cX5_begin 10 = .ok (.if_icmp .ge 17, 3) := by decide +kernel
theorem dX5_begin_13 : decode cX5_begin 13 = .ok (.aload_n 0, 1) := by decide +kernel
theorem dX5_begin_14 : decode cX5_begin 14 = .ok (.getfield 23, 3) := by decide +kernel
theorem dX5_begin_17 : decode cX5_begin 17 = .ok (.iload_n 1, 1) := by decide +kernel
theorem dX5_begin_18 : decode cX5_begin 18 = .ok (.bipush (-6), 2) := by decide +kernel
theorem dX5_begin_20 : decode cX5_begin 20 = .ok (.iastore, 1) := by decide +kernel
theorem dX5_begin_21 : decode cX5_begin 21 = .ok (.iinc 1 1, 3) := by decide +kernel
theorem dX5_begin_24 : decode cX5_begin 24 = .ok (.goto (-17), 3) := by decide +kernel
theorem dX5_begin_27 : decode cX5_begin 27 = .ok (.aload_n 0, 1) := by decide +kernel
theorem dX5_begin_28 : decode cX5_begin 28 = .ok (.iconst 0, 1) := by decide +kernel
theorem dX5_begin_29 : decode cX5_begin 29 = .ok (.putfield 56, 3) := by decide +kernel
theorem dX5_begin_32 : decode cX5_begin 32 = .ok (.aload_n 0, 1) := by decide +kernel
theorem dX5_begin_33 : decode cX5_begin 33 = .ok (.iconst 0, 1) := by decide +kernel
theorem dX5_begin_34 : decode cX5_begin 34 = .ok (.putfield 59, 3) := by decide +kernel
theorem dX5_begin_37 : decode cX5_begin 37 = .ok (.aload_n 0, 1) := by decide +kernel
theorem dX5_begin_38 : decode cX5_begin 38 = .ok (.iconst 0, 1) := by decide +kernel
theorem dX5_begin_39 : decode cX5_begin 39 = .ok (.putfield 62, 3) := by decide +kernel
theorem dX5_begin_42 : decode cX5_begin 42 = .ok (.return_, 1) := by decide +kernel
theorem dX5_isPost_0 : decode cX5_isPost 0 = .ok (.iload_n 1, 1) := by decide +kernel
theorem dX5_isPost_1 : decode cX5_isPost 1 = .ok (.iconst 0, 1) := by decide +kernel
theorem dX5_isPost_2 : decode cX5_isPost 2 = .ok (.aload_n 0, 1) := by decide +kernel
theorem dX5_isPost_3 : decode cX5_isPost 3 = .ok (.getfield 7, 3) := by decide +kernel
theorem dX5_isPost_6 : decode cX5_isPost 6 = .ok (.iconst 1, 1) := by decide +kernel
theorem dX5_isPost_7 : decode cX5_isPost 7 = .ok (.isub, 1) := by decide +kernel
theorem dX5_isPost_8 : decode cX5_isPost 8 = .ok (.invokestatic 66, 3) := by decide +kernel
theorem dX5_isPost_11 : decode cX5_isPost 11 = .ok (.ireturn, 1) := by decide +kernel
theorem dX5_arePair_0 : decode cX5_arePair 0 = .ok (.aload_n 0, 1) := by decide +kernel
theorem dX5_arePair_1 : decode cX5_arePair 1 = .ok (.iload_n 1, 1) := by decide +kernel
theorem dX5_arePair_2 : decode cX5_arePair 2 = .ok (.invokevirtual 70, 3) := by decide +kernel
theorem dX5_arePair_5 : decode cX5_arePair 5 = .ok (.ifCond .eq 20, 3) := by decide +kernel
theorem dX5_arePair_8 : decode cX5_arePair 8 = .ok (.aload_n 0, 1) := by decide +kernel
theorem dX5_arePair_9 : decode cX5_arePair 9 = .ok (.iload_n 2, 1) := by decide +kernel
theorem dX5_arePair_10 : decode cX5_arePair 10 = .ok (.invokevirtual 70, 3) := by decide +kernel
theorem dX5_arePair_13 : decode cX5_arePair 13 = .ok (.ifCond .eq 12, 3) := by decide +kernel
theorem dX5_arePair_16 : decode cX5_arePair 16 = .ok (.iload_n 1, 1) := by decide +kernel
theorem dX5_arePair_17 : decode cX5_arePair 17 = .ok (.iload_n 2, 1) := by decide +kernel
theorem dX5_arePair_18 : decode cX5_arePair 18 = .ok (.if_icmp .eq 7, 3) := by decide +kernel
theorem dX5_arePair_21 : decode cX5_arePair 21 = .ok (.iconst 1, 1) := by decide +kernel
theorem dX5_arePair_22 : decode cX5_arePair 22 = .ok (.goto 4, 3) := by decide +kernel
theorem dX5_arePair_25 : decode cX5_arePair 25 = .ok (.iconst 0, 1) := by decide +kernel
theorem dX5_arePair_26 : decode cX5_arePair 26 = .ok (.ireturn, 1) := by decide +kernel
theorem dX5_posts_0 : decode cX5_posts 0 = .ok (.iload_n 1, 1) := by decide +kernel
theorem dX5_posts_1 : decode cX5_posts 1 = .ok (.iconst 3, 1) := by decide +kernel
theorem dX5_posts_2 : decode cX5_posts 2 = .ok (.bipush 9, 2) := by decide +kernel
theorem dX5_posts_4 : decode cX5_posts 4 = .ok (.invokestatic 66, 3) := by decide +kernel
theorem dX5_posts_7 : decode cX5_posts 7 = .ok (.ifCond .ne 6, 3) := by decide +kernel
theorem dX5_posts_10 : decode cX5_posts 10 = .ok (.bipush (-2), 2) := by decide +kernel
theorem dX5_posts_12 : decode cX5_posts 12 = .ok (.ireturn, 1) := by decide +kernel
theorem dX5_posts_13 : decode cX5_posts 13 = .ok (.aload_n 0, 1) := by decide +kernel
theorem dX5_posts_14 : decode cX5_posts 14 = .ok (.getfield 7, 3) := by decide +kernel
theorem dX5_posts_17 : decode cX5_posts 17 = .ok (.istore_n 2, 1) := by decide +kernel
theorem dX5_posts_18 : decode cX5_posts 18 = .ok (.aload_n 0, 1) := by decide +kernel
theorem dX5_posts_19 : decode cX5_posts 19 = .ok (.iload_n 1, 1) := by decide +kernel
theorem dX5_posts_20 : decode cX5_posts 20 = .ok (.putfield 7, 3) := by decide +kernel
theorem dX5_posts_23 : decode cX5_posts 23 = .ok (.aload_n 0, 1) := by decide +kernel
theorem dX5_posts_24 : decode cX5_posts 24 = .ok (.invokevirtual 50, 3) := by decide +kernel
theorem dX5_posts_27 : decode cX5_posts 27 = .ok (.iload_n 2, 1) := by decide +kernel
theorem dX5_posts_28 : decode cX5_posts 28 = .ok (.ireturn, 1) := by decide +kernel
theorem dX5_arrowOf_0 : decode cX5_arrowOf 0 = .ok (.iconst 0, 1) := by decide +kernel
theorem dX5_arrowOf_1 : decode cX5_arrowOf 1 = .ok (.istore_n 3, 1) := by decide +kernel
theorem dX5_arrowOf_2 : decode cX5_arrowOf 2 = .ok (.iload_n 3, 1) := by decide +kernel
theorem dX5_arrowOf_3 : decode cX5_arrowOf 3 = .ok (.iconst 3, 1) := by decide +kernel
theorem dX5_arrowOf_4 : decode cX5_arrowOf 4 = .ok (.aload_n 0, 1) := by decide +kernel
theorem dX5_arrowOf_5 : decode cX5_arrowOf 5 = .ok (.getfield 53, 3) := by decide +kernel
theorem dX5_arrowOf_8 : decode cX5_arrowOf 8 = .ok (.imul, 1) := by decide +kernel
theorem dX5_arrowOf_9 : decode cX5_arrowOf 9 = .ok (.if_icmp .ge 43, 3) := by decide +kernel
theorem dX5_arrowOf_12 : decode cX5_arrowOf 12 = .ok (.aload_n 0, 1) := by decide +kernel
theorem dX5_arrowOf_13 : decode cX5_arrowOf 13 = .ok (.getfield 13, 3) := by decide +kernel
theorem dX5_arrowOf_16 : decode cX5_arrowOf 16 = .ok (.iload_n 3, 1) := by decide +kernel
theorem dX5_arrowOf_17 : decode cX5_arrowOf 17 = .ok (.iaload, 1) := by decide +kernel
theorem dX5_arrowOf_18 : decode cX5_arrowOf 18 = .ok (.iload_n 1, 1) := by decide +kernel
theorem dX5_arrowOf_19 : decode cX5_arrowOf 19 = .ok (.if_icmp .ne 27, 3) := by decide +kernel
theorem dX5_arrowOf_22 : decode cX5_arrowOf 22 = .ok (.aload_n 0, 1) := by decide +kernel
theorem dX5_arrowOf_23 : decode cX5_arrowOf 23 = .ok (.getfield 13, 3) := by decide +kernel
theorem dX5_arrowOf_26 : decode cX5_arrowOf 26 = .ok (.iload_n 3, 1) := by decide +kernel
theorem dX5_arrowOf_27 : decode cX5_arrowOf 27 = .ok (.iconst 3, 1) := by decide +kernel
theorem dX5_arrowOf_28 : decode cX5_arrowOf 28 = .ok (.idiv, 1) := by decide +kernel
theorem dX5_arrowOf_29 : decode cX5_arrowOf 29 = .ok (.iconst 3, 1) := by decide +kernel
theorem dX5_arrowOf_30 : decode cX5_arrowOf 30 = .ok (.imul, 1) := by decide +kernel
theorem dX5_arrowOf_31 : decode cX5_arrowOf 31 = .ok (.iload_n 3, 1) := by decide +kernel
theorem dX5_arrowOf_32 : decode cX5_arrowOf 32 = .ok (.iconst 1, 1) := by decide +kernel
theorem dX5_arrowOf_33 : decode cX5_arrowOf 33 = .ok (.iadd, 1) := by decide +kernel
theorem dX5_arrowOf_34 : decode cX5_arrowOf 34 = .ok (.iconst 3, 1) := by decide +kernel
theorem dX5_arrowOf_35 : decode cX5_arrowOf 35 = .ok (.irem, 1) := by decide +kernel
theorem dX5_arrowOf_36 : decode cX5_arrowOf 36 = .ok (.iadd, 1) := by decide +kernel
theorem dX5_arrowOf_37 : decode cX5_arrowOf 37 = .ok (.iaload, 1) := by decide +kernel
theorem dX5_arrowOf_38 : decode cX5_arrowOf 38 = .ok (.iload_n 2, 1) := by decide +kernel
theorem dX5_arrowOf_39 : decode cX5_arrowOf 39 = .ok (.if_icmp .ne 7, 3) := by decide +kernel
theorem dX5_arrowOf_42 : decode cX5_arrowOf 42 = .ok (.iload_n 3, 1) := by decide +kernel
theorem dX5_arrowOf_43 : decode cX5_arrowOf 43 = .ok (.iconst 3, 1) := by decide +kernel
theorem dX5_arrowOf_44 : decode cX5_arrowOf 44 = .ok (.idiv, 1) := by decide +kernel
theorem dX5_arrowOf_45 : decode cX5_arrowOf 45 = .ok (.ireturn, 1) := by decide +kernel
theorem dX5_arrowOf_46 : decode cX5_arrowOf 46 = .ok (.iinc 3 1, 3) := by decide +kernel
theorem dX5_arrowOf_49 : decode cX5_arrowOf 49 = .ok (.goto (-47), 3) := by decide +kernel
theorem dX5_arrowOf_52 : decode cX5_arrowOf 52 = .ok (.bipush (-6), 2) := by decide +kernel
theorem dX5_arrowOf_54 : decode cX5_arrowOf 54 = .ok (.ireturn, 1) := by decide +kernel
theorem dX5_sideOf_0 : decode cX5_sideOf 0 = .ok (.aload_n 0, 1) := by decide +kernel
theorem dX5_sideOf_1 : decode cX5_sideOf 1 = .ok (.iload_n 1, 1) := by decide +kernel
theorem dX5_sideOf_2 : decode cX5_sideOf 2 = .ok (.iload_n 2, 1) := by decide +kernel
theorem dX5_sideOf_3 : decode cX5_sideOf 3 = .ok (.invokevirtual 74, 3) := by decide +kernel
theorem dX5_sideOf_6 : decode cX5_sideOf 6 = .ok (.ifCond .lt 7, 3) := by decide +kernel
theorem dX5_sideOf_9 : decode cX5_sideOf 9 = .ok (.iconst 1, 1) := by decide +kernel
theorem dX5_sideOf_10 : decode cX5_sideOf 10 = .ok (.goto 4, 3) := by decide +kernel
theorem dX5_sideOf_13 : decode cX5_sideOf 13 = .ok (.iconst 0, 1) := by decide +kernel
theorem dX5_sideOf_14 : decode cX5_sideOf 14 = .ok (.aload_n 0, 1) := by decide +kernel
