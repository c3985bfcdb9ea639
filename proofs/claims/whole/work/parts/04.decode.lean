theorem dX2_sink_68 : decode cX2_sink 68 = .ok (.iload_n 3, 1) := by decide +kernel
theorem dX2_sink_69 : decode cX2_sink 69 = .ok (.isub, 1) := by decide +kernel
theorem dX2_sink_70 : decode cX2_sink 70 = .ok (.iastore, 1) := by decide +kernel
theorem dX2_sink_71 : decode cX2_sink 71 = .ok (.iinc 2 1, 3) := by decide +kernel
theorem dX2_sink_74 : decode cX2_sink 74 = .ok (.goto (-65), 3) := by decide +kernel
theorem dX2_sink_77 : decode cX2_sink 77 = .ok (.return_, 1) := by decide +kernel
theorem dX2_push_0 : decode cX2_push 0 = .ok (.aload_n 0, 1) := by decide +kernel
theorem dX2_push_1 : decode cX2_push 1 = .ok (.iload_n 1, 1) := by decide +kernel
theorem dX2_push_2 : decode cX2_push 2 = .ok (.iload_n 2, 1) := by decide +kernel
theorem dX2_push_3 : decode cX2_push 3 = .ok (.invokevirtual 109, 3) := by decide +kernel
theorem dX2_push_6 : decode cX2_push 6 = .ok (.ifCond .ne 5, 3) := by decide +kernel
theorem dX2_push_9 : decode cX2_push 9 = .ok (.iconst 0, 1) := by decide +kernel
theorem dX2_push_10 : decode cX2_push 10 = .ok (.ireturn, 1) := by decide +kernel
theorem dX2_push_11 : decode cX2_push 11 = .ok (.iload_n 3, 1) := by decide +kernel
theorem dX2_push_12 : decode cX2_push 12 = .ok (.istore 4, 2) := by decide +kernel
theorem dX2_push_14 : decode cX2_push 14 = .ok (.iload_n 2, 1) := by decide +kernel
theorem dX2_push_15 : decode cX2_push 15 = .ok (.istore 5, 2) := by decide +kernel
theorem dX2_push_17 : decode cX2_push 17 = .ok (.iconst 0, 1) := by decide +kernel
theorem dX2_push_18 : decode cX2_push 18 = .ok (.istore 6, 2) := by decide +kernel
theorem dX2_push_20 : decode cX2_push 20 = .ok (.iload 6, 2) := by decide +kernel
theorem dX2_push_22 : decode cX2_push 22 = .ok (.bipush 22, 2) := by decide +kernel
theorem dX2_push_24 : decode cX2_push 24 = .ok (.if_icmp .ge 54, 3) := by decide +kernel
theorem dX2_push_27 : decode cX2_push 27 = .ok (.iload 5, 2) := by decide +kernel
theorem dX2_push_29 : decode cX2_push 29 = .ok (.iload_n 1, 1) := by decide +kernel
theorem dX2_push_30 : decode cX2_push 30 = .ok (.if_icmp .eq 48, 3) := by decide +kernel
theorem dX2_push_33 : decode cX2_push 33 = .ok (.iload 5, 2) := by decide +kernel
theorem dX2_push_35 : decode cX2_push 35 = .ok (.bipush 10, 2) := by decide +kernel
theorem dX2_push_37 : decode cX2_push 37 = .ok (.if_icmp .lt 27, 3) := by decide +kernel
theorem dX2_push_40 : decode cX2_push 40 = .ok (.iload 4, 2) := by decide +kernel
theorem dX2_push_42 : decode cX2_push 42 = .ok (.aload_n 0, 1) := by decide +kernel
theorem dX2_push_43 : decode cX2_push 43 = .ok (.getfield 15, 3) := by decide +kernel
theorem dX2_push_46 : decode cX2_push 46 = .ok (.aload_n 0, 1) := by decide +kernel
theorem dX2_push_47 : decode cX2_push 47 = .ok (.getfield 25, 3) := by decide +kernel
theorem dX2_push_50 : decode cX2_push 50 = .ok (.iload 5, 2) := by decide +kernel
theorem dX2_push_52 : decode cX2_push 52 = .ok (.iaload, 1) := by decide +kernel
theorem dX2_push_53 : decode cX2_push 53 = .ok (.iaload, 1) := by decide +kernel
theorem dX2_push_54 : decode cX2_push 54 = .ok (.aload_n 0, 1) := by decide +kernel
theorem dX2_push_55 : decode cX2_push 55 = .ok (.getfield 70, 3) := by decide +kernel
theorem dX2_push_58 : decode cX2_push 58 = .ok (.isub, 1) := by decide +kernel
theorem dX2_push_59 : decode cX2_push 59 = .ok (.invokestatic 99, 3) := by decide +kernel
theorem dX2_push_62 : decode cX2_push 62 = .ok (.istore 4, 2) := by decide +kernel
theorem dX2_push_64 : decode cX2_push 64 = .ok (.aload_n 0, 1) := by decide +kernel
theorem dX2_push_65 : decode cX2_push 65 = .ok (.iload 5, 2) := by decide +kernel
theorem dX2_push_67 : decode cX2_push 67 = .ok (.invokevirtual 112, 3) := by decide +kernel
theorem dX2_push_70 : decode cX2_push 70 = .ok (.istore 5, 2) := by decide +kernel
theorem dX2_push_72 : decode cX2_push 72 = .ok (.iinc 6 1, 3) := by decide +kernel
theorem dX2_push_75 : decode cX2_push 75 = .ok (.goto (-55), 3) := by decide +kernel
theorem dX2_push_78 : decode cX2_push 78 = .ok (.iload_n 2, 1) := by decide +kernel
theorem dX2_push_79 : decode cX2_push 79 = .ok (.istore 5, 2) := by decide +kernel
theorem dX2_push_81 : decode cX2_push 81 = .ok (.iconst 0, 1) := by decide +kernel
theorem dX2_push_82 : decode cX2_push 82 = .ok (.istore 6, 2) := by decide +kernel
theorem dX2_push_84 : decode cX2_push 84 = .ok (.iload 6, 2) := by decide +kernel
theorem dX2_push_86 : decode cX2_push 86 = .ok (.bipush 22, 2) := by decide +kernel
theorem dX2_push_88 : decode cX2_push 88 = .ok (.if_icmp .ge 53, 3) := by decide +kernel
theorem dX2_push_91 : decode cX2_push 91 = .ok (.iload 5, 2) := by decide +kernel
theorem dX2_push_93 : decode cX2_push 93 = .ok (.iload_n 1, 1) := by decide +kernel
theorem dX2_push_94 : decode cX2_push 94 = .ok (.if_icmp .eq 47, 3) := by decide +kernel
theorem dX2_push_97 : decode cX2_push 97 = .ok (.aload_n 0, 1) := by decide +kernel
theorem dX2_push_98 : decode cX2_push 98 = .ok (.getfield 15, 3) := by decide +kernel
theorem dX2_push_101 : decode cX2_push 101 = .ok (.aload_n 0, 1) := by decide +kernel
theorem dX2_push_102 : decode cX2_push 102 = .ok (.getfield 25, 3) := by decide +kernel
theorem dX2_push_105 : decode cX2_push 105 = .ok (.iload 5, 2) := by decide +kernel
theorem dX2_push_107 : decode cX2_push 107 = .ok (.iaload, 1) := by decide +kernel
theorem dX2_push_108 : decode cX2_push 108 = .ok (.dup2, 1) := by decide +kernel
theorem dX2_push_109 : decode cX2_push 109 = .ok (.iaload, 1) := by decide +kernel
theorem dX2_push_110 : decode cX2_push 110 = .ok (.iload 5, 2) := by decide +kernel
theorem dX2_push_112 : decode cX2_push 112 = .ok (.bipush 10, 2) := by decide +kernel
theorem dX2_push_114 : decode cX2_push 114 = .ok (.if_icmp .lt 9, 3) := by decide +kernel
theorem dX2_push_117 : decode cX2_push 117 = .ok (.iload 4, 2) := by decide +kernel
theorem dX2_push_119 : decode cX2_push 119 = .ok (.ineg, 1) := by decide +kernel
theorem dX2_push_120 : decode cX2_push 120 = .ok (.goto 5, 3) := by decide +kernel
theorem dX2_push_123 : decode cX2_push 123 = .ok (.iload 4, 2) := by decide +kernel
theorem dX2_push_125 : decode cX2_push 125 = .ok (.iadd, 1) := by decide +kernel
theorem dX2_push_126 : decode cX2_push 126 = .ok (.iastore, 1) := by decide +kernel
theorem dX2_push_127 : decode cX2_push 127 = .ok (.aload_n 0, 1) := by decide +kernel
theorem dX2_push_128 : decode cX2_push 128 = .ok (.iload 5, 2) := by decide +kernel
theorem dX2_push_130 : decode cX2_push 130 = .ok (.invokevirtual 112, 3) := by decide +kernel
theorem dX2_push_133 : decode cX2_push 133 = .ok (.istore 5, 2) := by decide +kernel
theorem dX2_push_135 : decode cX2_push 135 = .ok (.iinc 6 1, 3) := by decide +kernel
theorem dX2_push_138 : decode cX2_push 138 = .ok (.goto (-54), 3) := by decide +kernel
theorem dX2_push_141 : decode cX2_push 141 = .ok (.iload 4, 2) := by decide +kernel
theorem dX2_push_143 : decode cX2_push 143 = .ok (.ireturn, 1) := by decide +kernel
theorem dX2_nodeBefore_0 : decode cX2_nodeBefore 0 = .ok (.aload_n 0, 1) := by decide +kernel
theorem dX2_nodeBefore_1 : decode cX2_nodeBefore 1 = .ok (.getfield 25, 3) := by decide +kernel
theorem dX2_nodeBefore_4 : decode cX2_nodeBefore 4 = .ok (.iload_n 1, 1) := by decide +kernel
theorem dX2_nodeBefore_5 : decode cX2_nodeBefore 5 = .ok (.iaload, 1) := by decide +kernel
theorem dX2_nodeBefore_6 : decode cX2_nodeBefore 6 = .ok (.istore_n 2, 1) := by decide +kernel
theorem dX2_nodeBefore_7 : decode cX2_nodeBefore 7 = .ok (.iload_n 1, 1) := by decide +kernel
theorem dX2_nodeBefore_8 : decode cX2_nodeBefore 8 = .ok (.bipush 10, 2) := by decide +kernel
theorem dX2_nodeBefore_10 : decode cX2_nodeBefore 10 = .ok (.if_icmp .lt 12, 3) := by decide +kernel
theorem dX2_nodeBefore_13 : decode cX2_nodeBefore 13 = .ok (.aload_n 0, 1) := by decide +kernel
theorem dX2_nodeBefore_14 : decode cX2_nodeBefore 14 = .ok (.getfield 19, 3) := by decide +kernel
theorem dX2_nodeBefore_17 : decode cX2_nodeBefore 17 = .ok (.iload_n 2, 1) := by decide +kernel
theorem dX2_nodeBefore_18 : decode cX2_nodeBefore 18 = .ok (.iaload, 1) := by decide +kernel
theorem dX2_nodeBefore_19 : decode cX2_nodeBefore 19 = .ok (.goto 9, 3) := by decide +kernel
theorem dX2_nodeBefore_22 : decode cX2_nodeBefore 22 = .ok (.bipush 10, 2) := by decide +kernel
theorem dX2_nodeBefore_24 : decode cX2_nodeBefore 24 = .ok (.iload_n 2, 1) := by decide +kernel
theorem dX2_nodeBefore_25 : decode cX2_nodeBefore 25 = .ok (.iconst 3, 1) := by decide +kernel
theorem dX2_nodeBefore_26 : decode cX2_nodeBefore 26 = .ok (.idiv, 1) := by decide +kernel
theorem dX2_nodeBefore_27 : decode cX2_nodeBefore 27 = .ok (.iadd, 1) := by decide +kernel
theorem dX2_nodeBefore_28 : decode cX2_nodeBefore 28 = .ok (.ireturn, 1) := by decide +kernel
theorem dX2_reaches_0 : decode cX2_reaches 0 = .ok (.aload_n 0, 1) := by decide +kernel
theorem dX2_reaches_1 : decode cX2_reaches 1 = .ok (.getfield 25, 3) := by decide +kernel
theorem dX2_reaches_4 : decode cX2_reaches 4 = .ok (.iconst (-1), 1) := by decide +kernel
theorem dX2_reaches_5 : decode cX2_reaches 5 = .ok (.invokestatic 80, 3) := by decide +kernel
theorem dX2_reaches_8 : decode cX2_reaches 8 = .ok (.aload_n 0, 1) := by decide +kernel
theorem dX2_reaches_9 : decode cX2_reaches 9 = .ok (.getfield 25, 3) := by decide +kernel
theorem dX2_reaches_12 : decode cX2_reaches 12 = .ok (.iload_n 1, 1) := by decide +kernel
theorem dX2_reaches_13 : decode cX2_reaches 13 = .ok (.bipush (-2), 2) := by decide +kernel
theorem dX2_reaches_15 : decode cX2_reaches 15 = .ok (.iastore, 1) := by decide +kernel
theorem dX2_reaches_16 : decode cX2_reaches 16 = .ok (.aload_n 0, 1) := by decide +kernel
theorem dX2_reaches_17 : decode cX2_reaches 17 = .ok (.getfield 28, 3) := by decide +kernel
theorem dX2_reaches_20 : decode cX2_reaches 20 = .ok (.iconst 0, 1) := by decide +kernel
theorem dX2_reaches_21 : decode cX2_reaches 21 = .ok (.iload_n 1, 1) := by decide +kernel
theorem dX2_reaches_22 : decode cX2_reaches 22 = .ok (.iastore, 1) := by decide +kernel
theorem dX2_reaches_23 : decode cX2_reaches 23 = .ok (.iconst 1, 1) := by decide +kernel
theorem dX2_reaches_24 : decode cX2_reaches 24 = .ok (.istore_n 3, 1) := by decide +kernel
theorem dX2_reaches_25 : decode cX2_reaches 25 = .ok (.iconst 0, 1) := by decide +kernel
theorem dX2_reaches_26 : decode cX2_reaches 26 = .ok (.istore 4, 2) := by decide +kernel
theorem dX2_reaches_28 : decode cX2_reaches 28 = .ok (.iload 4, 2) := by decide +kernel
theorem dX2_reaches_30 : decode cX2_reaches 30 = .ok (.bipush 22, 2) := by decide +kernel
theorem dX2_reaches_32 : decode cX2_reaches 32 = .ok (.if_icmp .ge 59, 3) := by decide +kernel
theorem dX2_reaches_35 : decode cX2_reaches 35 = .ok (.iload 4, 2) := by decide +kernel
theorem dX2_reaches_37 : decode cX2_reaches 37 = .ok (.iload_n 3, 1) := by decide +kernel
theorem dX2_reaches_38 : decode cX2_reaches 38 = .ok (.if_icmp .ge 53, 3) := by decide +kernel
theorem dX2_reaches_41 : decode cX2_reaches 41 = .ok (.aload_n 0, 1) := by decide +kernel
theorem dX2_reaches_42 : decode cX2_reaches 42 = .ok (.getfield 25, 3) := by decide +kernel
theorem dX2_reaches_45 : decode cX2_reaches 45 = .ok (.iload_n 2, 1) := by decide +kernel
theorem dX2_reaches_46 : decode cX2_reaches 46 = .ok (.iaload, 1) := by decide +kernel
theorem dX2_reaches_47 : decode cX2_reaches 47 = .ok (.iconst (-1), 1) := by decide +kernel
theorem dX2_reaches_48 : decode cX2_reaches 48 = .ok (.if_icmp .ne 43, 3) := by decide +kernel
theorem dX2_reaches_51 : decode cX2_reaches 51 = .ok (.aload_n 0, 1) := by decide +kernel
theorem dX2_reaches_52 : decode cX2_reaches 52 = .ok (.getfield 28, 3) := by decide +kernel
theorem dX2_reaches_55 : decode cX2_reaches 55 = .ok (.iload 4, 2) := by decide +kernel
theorem dX2_reaches_57 : decode cX2_reaches 57 = .ok (.iaload, 1) := by decide +kernel
theorem dX2_reaches_58 : decode cX2_reaches 58 = .ok (.istore 5, 2) := by decide +kernel
theorem dX2_reaches_60 : decode cX2_reaches 60 = .ok (.iload 5, 2) := by decide +kernel
theorem dX2_reaches_62 : decode cX2_reaches 62 = .ok (.bipush 10, 2) := by decide +kernel
theorem dX2_reaches_64 : decode cX2_reaches 64 = .ok (.if_icmp .lt 13, 3) := by decide +kernel
theorem dX2_reaches_67 : decode cX2_reaches 67 = .ok (.aload_n 0, 1) := by decide +kernel
theorem dX2_reaches_68 : decode cX2_reaches 68 = .ok (.iload 5, 2) := by decide +kernel
theorem dX2_reaches_70 : decode cX2_reaches 70 = .ok (.iload_n 3, 1) := by decide +kernel
theorem dX2_reaches_71 : decode cX2_reaches 71 = .ok (.invokevirtual 115, 3) := by decide +kernel
theorem dX2_reaches_74 : decode cX2_reaches 74 = .ok (.goto 10, 3) := by decide +kernel
theorem dX2_reaches_77 : decode cX2_reaches 77 = .ok (.aload_n 0, 1) := by decide +kernel
theorem dX2_reaches_78 : decode cX2_reaches 78 = .ok (.iload 5, 2) := by decide +kernel
theorem dX2_reaches_80 : decode cX2_reaches 80 = .ok (.iload_n 3, 1) := by decide +kernel
theorem dX2_reaches_81 : decode cX2_reaches 81 = .ok (.invokevirtual 118, 3) := by decide +kernel
theorem dX2_reaches_84 : decode cX2_reaches 84 = .ok (.istore_n 3, 1) := by decide +kernel
theorem dX2_reaches_85 : decode cX2_reaches 85 = .ok (.iinc 4 1, 3) := by decide +kernel
theorem dX2_reaches_88 : decode cX2_reaches 88 = .ok (.goto (-60), 3) := by decide +kernel
theorem dX2_reaches_91 : decode cX2_reaches 91 = .ok (.aload_n 0, 1) := by decide +kernel
theorem dX2_reaches_92 : decode cX2_reaches 92 = .ok (.getfield 25, 3) := by decide +kernel
theorem dX2_reaches_95 : decode cX2_reaches 95 = .ok (.iload_n 2, 1) := by decide +kernel
theorem dX2_reaches_96 : decode cX2_reaches 96 = .ok (.iaload, 1) := by decide +kernel
theorem dX2_reaches_97 : decode cX2_reaches 97 = .ok (.iconst (-1), 1) := by decide +kernel
theorem dX2_reaches_98 : decode cX2_reaches 98 = .ok (.if_icmp .eq 7, 3) := by decide +kernel
theorem dX2_reaches_101 : decode cX2_reaches 101 = .ok (.iconst 1, 1) := by decide +kernel
theorem dX2_reaches_102 : decode cX2_reaches 102 = .ok (.goto 4, 3) := by decide +kernel
theorem dX2_reaches_105 : decode cX2_reaches 105 = .ok (.iconst 0, 1) := by decide +kernel
theorem dX2_reaches_106 : decode cX2_reaches 106 = .ok (.ireturn, 1) := by decide +kernel
theorem dX2_seeFromThird_0 : decode cX2_seeFromThird 0 = .ok (.iload_n 2, 1) := by decide +kernel
theorem dX2_seeFromThird_1 : decode cX2_seeFromThird 1 = .ok (.istore_n 3, 1) := by decide +kernel
theorem dX2_seeFromThird_2 : decode cX2_seeFromThird 2 = .ok (.iconst 3, 1) := by decide +kernel
theorem dX2_seeFromThird_3 : decode cX2_seeFromThird 3 = .ok (.iload_n 1, 1) := by decide +kernel
theorem dX2_seeFromThird_4 : decode cX2_seeFromThird 4 = .ok (.bipush 10, 2) := by decide +kernel
theorem dX2_seeFromThird_6 : decode cX2_seeFromThird 6 = .ok (.isub, 1) := by decide +kernel
theorem dX2_seeFromThird_7 : decode cX2_seeFromThird 7 = .ok (.imul, 1) := by decide +kernel
theorem dX2_seeFromThird_8 : decode cX2_seeFromThird 8 = .ok (.istore 4, 2) := by decide +kernel
theorem dX2_seeFromThird_10 : decode cX2_seeFromThird 10 = .ok (.iload 4, 2) := by decide +kernel
theorem dX2_seeFromThird_12 : decode cX2_seeFromThird 12 = .ok (.aload_n 0, 1) := by decide +kernel
theorem dX2_seeFromThird_13 : decode cX2_seeFromThird 13 = .ok (.getfield 73, 3) := by decide +kernel
theorem dX2_seeFromThird_16 : decode cX2_seeFromThird 16 = .ok (.invokestatic 121, 3) := by decide +kernel
theorem dX2_seeFromThird_19 : decode cX2_seeFromThird 19 = .ok (.istore 5, 2) := by decide +kernel
theorem dX2_seeFromThird_21 : decode cX2_seeFromThird 21 = .ok (.iload 5, 2) := by decide +kernel
theorem dX2_seeFromThird_23 : decode cX2_seeFromThird 23 = .ok (.iload 4, 2) := by decide +kernel
theorem dX2_seeFromThird_25 : decode cX2_seeFromThird 25 = .ok (.iconst 3, 1) := by decide +kernel
theorem dX2_seeFromThird_26 : decode cX2_seeFromThird 26 = .ok (.iadd, 1) := by decide +kernel
theorem dX2_seeFromThird_27 : decode cX2_seeFromThird 27 = .ok (.if_icmp .ge 49, 3) := by decide +kernel
theorem dX2_seeFromThird_30 : decode cX2_seeFromThird 30 = .ok (.aload_n 0, 1) := by decide +kernel
theorem dX2_seeFromThird_31 : decode cX2_seeFromThird 31 = .ok (.getfield 19, 3) := by decide +kernel
theorem dX2_seeFromThird_34 : decode cX2_seeFromThird 34 = .ok (.iload 5, 2) := by decide +kernel
theorem dX2_seeFromThird_36 : decode cX2_seeFromThird 36 = .ok (.iaload, 1) := by decide +kernel
theorem dX2_seeFromThird_37 : decode cX2_seeFromThird 37 = .ok (.istore 6, 2) := by decide +kernel
theorem dX2_seeFromThird_39 : decode cX2_seeFromThird 39 = .ok (.aload_n 0, 1) := by decide +kernel
theorem dX2_seeFromThird_40 : decode cX2_seeFromThird 40 = .ok (.getfield 25, 3) := by decide +kernel
theorem dX2_seeFromThird_43 : decode cX2_seeFromThird 43 = .ok (.iload 6, 2) := by decide +kernel
theorem dX2_seeFromThird_45 : decode cX2_seeFromThird 45 = .ok (.iaload, 1) := by decide +kernel
theorem dX2_seeFromThird_46 : decode cX2_seeFromThird 46 = .ok (.iconst (-1), 1) := by decide +kernel
theorem dX2_seeFromThird_47 : decode cX2_seeFromThird 47 = .ok (.if_icmp .ne 23, 3) := by decide +kernel
theorem dX2_seeFromThird_50 : decode cX2_seeFromThird 50 = .ok (.aload_n 0, 1) := by decide +kernel
theorem dX2_seeFromThird_51 : decode cX2_seeFromThird 51 = .ok (.getfield 25, 3) := by decide +kernel
theorem dX2_seeFromThird_54 : decode cX2_seeFromThird 54 = .ok (.iload 6, 2) := by decide +kernel
theorem dX2_seeFromThird_56 : decode cX2_seeFromThird 56 = .ok (.iload 5, 2) := by decide +kernel
theorem dX2_seeFromThird_58 : decode cX2_seeFromThird 58 = .ok (.iastore, 1) := by decide +kernel
theorem dX2_seeFromThird_59 : decode cX2_seeFromThird 59 = .ok (.aload_n 0, 1) := by decide +kernel
theorem dX2_seeFromThird_60 : decode cX2_seeFromThird 60 = .ok (.getfield 28, 3) := by decide +kernel
theorem dX2_seeFromThird_63 : decode cX2_seeFromThird 63 = .ok (.iload_n 3, 1) := by decide +kernel
theorem dX2_seeFromThird_64 : decode cX2_seeFromThird 64 = .ok (.iload 6, 2) := by decide +kernel
theorem dX2_seeFromThird_66 : decode cX2_seeFromThird 66 = .ok (.iastore, 1) := by decide +kernel
theorem dX2_seeFromThird_67 : decode cX2_seeFromThird 67 = .ok (.iinc 3 1, 3) := by decide +kernel
theorem dX2_seeFromThird_70 : decode cX2_seeFromThird 70 = .ok (.iinc 5 1, 3) := by decide +kernel
theorem dX2_seeFromThird_73 : decode cX2_seeFromThird 73 = .ok (.goto (-52), 3) := by decide +kernel
theorem dX2_seeFromThird_76 : decode cX2_seeFromThird 76 = .ok (.iload_n 3, 1) := by decide +kernel
theorem dX2_seeFromThird_77 : decode cX2_seeFromThird 77 = .ok (.ireturn, 1) := by decide +kernel
theorem dX2_seeFromPost_0 : decode cX2_seeFromPost 0 = .ok (.iload_n 2, 1) := by decide +kernel
theorem dX2_seeFromPost_1 : decode cX2_seeFromPost 1 = .ok (.istore_n 3, 1) := by decide +kernel
theorem dX2_seeFromPost_2 : decode cX2_seeFromPost 2 = .ok (.aload_n 0, 1) := by decide +kernel
theorem dX2_seeFromPost_3 : decode cX2_seeFromPost 3 = .ok (.getfield 73, 3) := by decide +kernel
theorem dX2_seeFromPost_6 : decode cX2_seeFromPost 6 = .ok (.istore 4, 2) := by decide +kernel
theorem dX2_seeFromPost_8 : decode cX2_seeFromPost 8 = .ok (.iload 4, 2) := by decide +kernel
theorem dX2_seeFromPost_10 : decode cX2_seeFromPost 10 = .ok (.aload_n 0, 1) := by decide +kernel
theorem dX2_seeFromPost_11 : decode cX2_seeFromPost 11 = .ok (.getfield 35, 3) := by decide +kernel
theorem dX2_seeFromPost_14 : decode cX2_seeFromPost 14 = .ok (.if_icmp .ge 74, 3) := by decide +kernel
theorem dX2_seeFromPost_17 : decode cX2_seeFromPost 17 = .ok (.bipush 10, 2) := by decide +kernel
theorem dX2_seeFromPost_19 : decode cX2_seeFromPost 19 = .ok (.iload 4, 2) := by decide +kernel
theorem dX2_seeFromPost_21 : decode cX2_seeFromPost 21 = .ok (.iconst 3, 1) := by decide +kernel
theorem dX2_seeFromPost_22 : decode cX2_seeFromPost 22 = .ok (.idiv, 1) := by decide +kernel
theorem dX2_seeFromPost_23 : decode cX2_seeFromPost 23 = .ok (.iadd, 1) := by decide +kernel
theorem dX2_seeFromPost_24 : decode cX2_seeFromPost 24 = .ok (.istore 5, 2) := by decide +kernel
theorem dX2_seeFromPost_26 : decode cX2_seeFromPost 26 = .ok (.aload_n 0, 1) := by decide +kernel
theorem dX2_seeFromPost_27 : decode cX2_seeFromPost 27 = .ok (.getfield 19, 3) := by decide +kernel
theorem dX2_seeFromPost_30 : decode cX2_seeFromPost 30 = .ok (.iload 4, 2) := by decide +kernel
theorem dX2_seeFromPost_32 : decode cX2_seeFromPost 32 = .ok (.iaload, 1) := by decide +kernel
theorem dX2_seeFromPost_33 : decode cX2_seeFromPost 33 = .ok (.iload_n 1, 1) := by decide +kernel
theorem dX2_seeFromPost_34 : decode cX2_seeFromPost 34 = .ok (.if_icmp .ne 48, 3) := by decide +kernel
theorem dX2_seeFromPost_37 : decode cX2_seeFromPost 37 = .ok (.aload_n 0, 1) := by decide +kernel
theorem dX2_seeFromPost_38 : decode cX2_seeFromPost 38 = .ok (.getfield 15, 3) := by decide +kernel
theorem dX2_seeFromPost_41 : decode cX2_seeFromPost 41 = .ok (.iload 4, 2) := by decide +kernel
theorem dX2_seeFromPost_43 : decode cX2_seeFromPost 43 = .ok (.iaload, 1) := by decide +kernel
theorem dX2_seeFromPost_44 : decode cX2_seeFromPost 44 = .ok (.aload_n 0, 1) := by decide +kernel
theorem dX2_seeFromPost_45 : decode cX2_seeFromPost 45 = .ok (.getfield 70, 3) := by decide +kernel
theorem dX2_seeFromPost_48 : decode cX2_seeFromPost 48 = .ok (.if_icmp .le 34, 3) := by decide +kernel
theorem dX2_seeFromPost_51 : decode cX2_seeFromPost 51 = .ok (.aload_n 0, 1) := by decide +kernel
theorem dX2_seeFromPost_52 : decode cX2_seeFromPost 52 = .ok (.getfield 25, 3) := by decide +kernel
theorem dX2_seeFromPost_55 : decode cX2_seeFromPost 55 = .ok (.iload 5, 2) := by decide +kernel
theorem dX2_seeFromPost_57 : decode cX2_seeFromPost 57 = .ok (.iaload, 1) := by decide +kernel
theorem dX2_seeFromPost_58 : decode cX2_seeFromPost 58 = .ok (.iconst (-1), 1) := by decide +kernel
theorem dX2_seeFromPost_59 : decode cX2_seeFromPost 59 = .ok (.if_icmp .ne 23, 3) := by decide +kernel
theorem dX2_seeFromPost_62 : decode cX2_seeFromPost 62 = .ok (.aload_n 0, 1) := by decide +kernel
theorem dX2_seeFromPost_63 : decode cX2_seeFromPost 63 = .ok (.getfield 25, 3) := by decide +kernel
theorem dX2_seeFromPost_66 : decode cX2_seeFromPost 66 = .ok (.iload 5, 2) := by decide +kernel
theorem dX2_seeFromPost_68 : decode cX2_seeFromPost 68 = .ok (.iload 4, 2) := by decide +kernel
theorem dX2_seeFromPost_70 : decode cX2_seeFromPost 70 = .ok (.iastore, 1) := by decide +kernel
theorem dX2_seeFromPost_71 : decode cX2_seeFromPost 71 = .ok (.aload_n 0, 1) := by decide +kernel
theorem dX2_seeFromPost_72 : decode cX2_seeFromPost 72 = .ok (.getfield 28, 3) := by decide +kernel
theorem dX2_seeFromPost_75 : decode cX2_seeFromPost 75 = .ok (.iload_n 3, 1) := by decide +kernel
theorem dX2_seeFromPost_76 : decode cX2_seeFromPost 76 = .ok (.iload 5, 2) := by decide +kernel
theorem dX2_seeFromPost_78 : decode cX2_seeFromPost 78 = .ok (.iastore, 1) := by decide +kernel
theorem dX2_seeFromPost_79 : decode cX2_seeFromPost 79 = .ok (.iinc 3 1, 3) := by decide +kernel
theorem dX2_seeFromPost_82 : decode cX2_seeFromPost 82 = .ok (.iinc 4 1, 3) := by decide +kernel
theorem dX2_seeFromPost_85 : decode cX2_seeFromPost 85 = .ok (.goto (-77), 3) := by decide +kernel
theorem dX2_seeFromPost_88 : decode cX2_seeFromPost 88 = .ok (.iload_n 3, 1) := by decide +kernel
theorem dX2_seeFromPost_89 : decode cX2_seeFromPost 89 = .ok (.ireturn, 1) := by decide +kernel
theorem dX3_init_0 : decode cX3_init 0 = .ok (.aload_n 0, 1) := by decide +kernel
theorem dX3_init_1 : decode cX3_init 1 = .ok (.invokespecial 5, 3) := by decide +kernel
theorem dX3_init_4 : decode cX3_init 4 = .ok (.aload_n 0, 1) := by decide +kernel
theorem dX3_init_5 : decode cX3_init 5 = .ok (.bipush 36, 2) := by decide +kernel
theorem dX3_init_7 : decode cX3_init 7 = .ok (.newarray .int, 2) := by decide +kernel
theorem dX3_init_9 : decode cX3_init 9 = .ok (.putfield 11, 3) := by decide +kernel
theorem dX3_init_12 : decode cX3_init 12 = .ok (.aload_n 0, 1) := by decide +kernel
theorem dX3_init_13 : decode cX3_init 13 = .ok (.bipush 9, 2) := by decide +kernel
theorem dX3_init_15 : decode cX3_init 15 = .ok (.newarray .int, 2) := by decide +kernel
theorem dX3_init_17 : decode cX3_init 17 = .ok (.putfield 15, 3) := by decide +kernel
theorem dX3_init_20 : decode cX3_init 20 = .ok (.aload_n 0, 1) := by decide +kernel
theorem dX3_init_21 : decode cX3_init 21 = .ok (.bipush 81, 2) := by decide +kernel
theorem dX3_init_23 : decode cX3_init 23 = .ok (.newarray .int, 2) := by decide +kernel
theorem dX3_init_25 : decode cX3_init 25 = .ok (.putfield 18, 3) := by decide +kernel
theorem dX3_init_28 : decode cX3_init 28 = .ok (.aload_n 0, 1) := by decide +kernel
theorem dX3_init_29 : decode cX3_init 29 = .ok (.iconst 4, 1) := by decide +kernel
theorem dX3_init_30 : decode cX3_init 30 = .ok (.putfield 21, 3) := by decide +kernel
theorem dX3_init_33 : decode cX3_init 33 = .ok (.aload_n 0, 1) := by decide +kernel
theorem dX3_init_34 : decode cX3_init 34 = .ok (.iconst 0, 1) := by decide +kernel
theorem dX3_init_35 : decode cX3_init 35 = .ok (.putfield 25, 3) := by decide +kernel
theorem dX3_init_38 : decode cX3_init 38 = .ok (.aload_n 0, 1) := by decide +kernel
theorem dX3_init_39 : decode cX3_init 39 = .ok (.getfield 15, 3) := by decide +kernel
theorem dX3_init_42 : decode cX3_init 42 = .ok (.iconst (-1), 1) := by decide +kernel
theorem dX3_init_43 : decode cX3_init 43 = .ok (.invokestatic 28, 3) := by decide +kernel
theorem dX3_init_46 : decode cX3_init 46 = .ok (.aload_n 0, 1) := by decide +kernel
theorem dX3_init_47 : decode cX3_init 47 = .ok (.getfield 18, 3) := by decide +kernel
theorem dX3_init_50 : decode cX3_init 50 = .ok (.iconst (-1), 1) := by decide +kernel
theorem dX3_init_51 : decode cX3_init 51 = .ok (.invokestatic 28, 3) := by decide +kernel
theorem dX3_init_54 : decode cX3_init 54 = .ok (.return_, 1) := by decide +kernel
theorem dX3_beginAnew_0 : decode cX3_beginAnew 0 = .ok (.aload_n 0, 1) := by decide +kernel
theorem dX3_beginAnew_1 : decode cX3_beginAnew 1 = .ok (.iload_n 1, 1) := by decide +kernel
theorem dX3_beginAnew_2 : decode cX3_beginAnew 2 = .ok (.putfield 21, 3) := by decide +kernel
theorem dX3_beginAnew_5 : decode cX3_beginAnew 5 = .ok (.aload_n 0, 1) := by decide +kernel
theorem dX3_beginAnew_6 : decode cX3_beginAnew 6 = .ok (.iconst 0, 1) := by decide +kernel
theorem dX3_beginAnew_7 : decode cX3_beginAnew 7 = .ok (.putfield 25, 3) := by decide +kernel
theorem dX3_beginAnew_10 : decode cX3_beginAnew 10 = .ok (.aload_n 0, 1) := by decide +kernel
theorem dX3_beginAnew_11 : decode cX3_beginAnew 11 = .ok (.getfield 15, 3) := by decide +kernel
theorem dX3_beginAnew_14 : decode cX3_beginAnew 14 = .ok (.iconst (-1), 1) := by decide +kernel
theorem dX3_beginAnew_15 : decode cX3_beginAnew 15 = .ok (.invokestatic 28, 3) := by decide +kernel
theorem dX3_beginAnew_18 : decode cX3_beginAnew 18 = .ok (.aload_n 0, 1) := by decide +kernel
theorem dX3_beginAnew_19 : decode cX3_beginAnew 19 = .ok (.invokevirtual 34, 3) := by decide +kernel
theorem dX3_beginAnew_22 : decode cX3_beginAnew 22 = .ok (.return_, 1) := by decide +kernel
theorem dX3_pack_0 : decode cX3_pack 0 = .ok (.iload_n 0, 1) := by decide +kernel
theorem dX3_pack_1 : decode cX3_pack 1 = .ok (.iload_n 1, 1) := by decide +kernel
theorem dX3_pack_2 : decode cX3_pack 2 = .ok (.iconst 4, 1) := by decide +kernel
theorem dX3_pack_3 : decode cX3_pack 3 = .ok (.ishl, 1) := by decide +kernel
theorem dX3_pack_4 : decode cX3_pack 4 = .ok (.ior, 1) := by decide +kernel
theorem dX3_pack_5 : decode cX3_pack 5 = .ok (.iload_n 2, 1) := by decide +kernel
theorem dX3_pack_6 : decode cX3_pack 6 = .ok (.bipush 8, 2) := by decide +kernel
theorem dX3_pack_8 : decode cX3_pack 8 = .ok (.ishl, 1) := by decide +kernel
theorem dX3_pack_9 : decode cX3_pack 9 = .ok (.ior, 1) := by decide +kernel
theorem dX3_pack_10 : decode cX3_pack 10 = .ok (.ireturn, 1) := by decide +kernel
theorem dX3_packed_0 : decode cX3_packed 0 = .ok (.aload_n 0, 1) := by decide +kernel
theorem dX3_packed_1 : decode cX3_packed 1 = .ok (.getfield 11, 3) := by decide +kernel
theorem dX3_packed_4 : decode cX3_packed 4 = .ok (.iconst 3, 1) := by decide +kernel
theorem dX3_packed_5 : decode cX3_packed 5 = .ok (.iload_n 1, 1) := by decide +kernel
theorem dX3_packed_6 : decode cX3_packed 6 = .ok (.imul, 1) := by decide +kernel
theorem dX3_packed_7 : decode cX3_packed 7 = .ok (.iaload, 1) := by decide +kernel
theorem dX3_packed_8 : decode cX3_packed 8 = .ok (.aload_n 0, 1) := by decide +kernel
theorem dX3_packed_9 : decode cX3_packed 9 = .ok (.getfield 11, 3) := by decide +kernel
theorem dX3_packed_12 : decode cX3_packed 12 = .ok (.iconst 3, 1) := by decide +kernel
theorem dX3_packed_13 : decode cX3_packed 13 = .ok (.iload_n 1, 1) := by decide +kernel
theorem dX3_packed_14 : decode cX3_packed 14 = .ok (.imul, 1) := by decide +kernel
theorem dX3_packed_15 : decode cX3_packed 15 = .ok (.iconst 1, 1) := by decide +kernel
theorem dX3_packed_16 : decode cX3_packed 16 = .ok (.iadd, 1) := by decide +kernel
theorem dX3_packed_17 : decode cX3_packed 17 = .ok (.iaload, 1) := by decide +kernel
theorem dX3_packed_18 : decode cX3_packed 18 = .ok (.aload_n 0, 1) := by decide +kernel
theorem dX3_packed_19 : decode cX3_packed 19 = .ok (.getfield 11, 3) := by decide +kernel
theorem dX3_packed_22 : decode cX3_packed 22 = .ok (.iconst 3, 1) := by decide +kernel
theorem dX3_packed_23 : decode cX3_packed 23 = .ok (.iload_n 1, 1) := by decide +kernel
theorem dX3_packed_24 : decode cX3_packed 24 = .ok (.imul, 1) := by decide +kernel
theorem dX3_packed_25 : decode cX3_packed 25 = .ok (.iconst 2, 1) := by decide +kernel
theorem dX3_packed_26 : decode cX3_packed 26 = .ok (.iadd, 1) := by decide +kernel
theorem dX3_packed_27 : decode cX3_packed 27 = .ok (.iaload, 1) := by decide +kernel
theorem dX3_packed_28 : decode cX3_packed 28 = .ok (.invokestatic 37, 3) := by decide +kernel
theorem dX3_packed_31 : decode cX3_packed 31 = .ok (.ireturn, 1) := by decide +kernel
theorem dX3_put_0 : decode cX3_put 0 = .ok (.iload_n 1, 1) := by decide +kernel
theorem dX3_put_1 : decode cX3_put 1 = .ok (.ifCond .lt 9, 3) := by decide +kernel
theorem dX3_put_4 : decode cX3_put 4 = .ok (.iload_n 1, 1) := by decide +kernel
theorem dX3_put_5 : decode cX3_put 5 = .ok (.bipush 21, 2) := by decide +kernel
theorem dX3_put_7 : decode cX3_put 7 = .ok (.if_icmp .lt 4, 3) := by decide +kernel
theorem dX3_put_10 : decode cX3_put 10 = .ok (.return_, 1) := by decide +kernel
theorem dX3_put_11 : decode cX3_put 11 = .ok (.iload_n 1, 1) := by decide +kernel
theorem dX3_put_12 : decode cX3_put 12 = .ok (.bipush 12, 2) := by decide +kernel
theorem dX3_put_14 : decode cX3_put 14 = .ok (.if_icmp .lt 16, 3) := by decide +kernel
theorem dX3_put_17 : decode cX3_put 17 = .ok (.aload_n 0, 1) := by decide +kernel
theorem dX3_put_18 : decode cX3_put 18 = .ok (.getfield 15, 3) := by decide +kernel
theorem dX3_put_21 : decode cX3_put 21 = .ok (.iload_n 1, 1) := by decide +kernel
theorem dX3_put_22 : decode cX3_put 22 = .ok (.bipush 12, 2) := by decide +kernel
theorem dX3_put_24 : decode cX3_put 24 = .ok (.isub, 1) := by decide +kernel
theorem dX3_put_25 : decode cX3_put 25 = .ok (.iload_n 2, 1) := by decide +kernel
theorem dX3_put_26 : decode cX3_put 26 = .ok (.iastore, 1) := by decide +kernel
theorem dX3_put_27 : decode cX3_put 27 = .ok (.goto 75, 3) := by decide +kernel
theorem dX3_put_30 : decode cX3_put 30 = .ok (.iload_n 2, 1) := by decide +kernel
theorem dX3_put_31 : decode cX3_put 31 = .ok (.iconst (-1), 1) := by decide +kernel
theorem dX3_put_32 : decode cX3_put 32 = .ok (.if_icmp .ne 11, 3) := by decide +kernel
theorem dX3_put_35 : decode cX3_put 35 = .ok (.aload_n 0, 1) := by decide +kernel
theorem dX3_put_36 : decode cX3_put 36 = .ok (.iload_n 1, 1) := by decide +kernel
theorem dX3_put_37 : decode cX3_put 37 = .ok (.putfield 25, 3) := by decide +kernel
theorem dX3_put_40 : decode cX3_put 40 = .ok (.goto 62, 3) := by decide +kernel
theorem dX3_put_43 : decode cX3_put 43 = .ok (.aload_n 0, 1) := by decide +kernel
theorem dX3_put_44 : decode cX3_put 44 = .ok (.getfield 11, 3) := by decide +kernel
theorem dX3_put_47 : decode cX3_put 47 = .ok (.iconst 3, 1) := by decide +kernel
theorem dX3_put_48 : decode cX3_put 48 = .ok (.iload_n 1, 1) := by decide +kernel
theorem dX3_put_49 : decode cX3_put 49 = .ok (.imul, 1) := by decide +kernel
theorem dX3_put_50 : decode cX3_put 50 = .ok (.iload_n 2, 1) := by decide +kernel
theorem dX3_put_51 : decode cX3_put 51 = .ok (.bipush 15, 2) := by decide +kernel
theorem dX3_put_53 : decode cX3_put 53 = .ok (.iand, 1) := by decide +kernel
theorem dX3_put_54 : decode cX3_put 54 = .ok (.iastore, 1) := by decide +kernel
theorem dX3_put_55 : decode cX3_put 55 = .ok (.aload_n 0, 1) := by decide +kernel
theorem dX3_put_56 : decode cX3_put 56 = .ok (.getfield 11, 3) := by decide +kernel
theorem dX3_put_59 : decode cX3_put 59 = .ok (.iconst 3, 1) := by decide +kernel
theorem dX3_put_60 : decode cX3_put 60 = .ok (.iload_n 1, 1) := by decide +kernel
theorem dX3_put_61 : decode cX3_put 61 = .ok (.imul, 1) := by decide +kernel
theorem dX3_put_62 : decode cX3_put 62 = .ok (.iconst 1, 1) := by decide +kernel
theorem dX3_put_63 : decode cX3_put 63 = .ok (.iadd, 1) := by decide +kernel
theorem dX3_put_64 : decode cX3_put 64 = .ok (.iload_n 2, 1) := by decide +kernel
theorem dX3_put_65 : decode cX3_put 65 = .ok (.iconst 4, 1) := by decide +kernel
theorem dX3_put_66 : decode cX3_put 66 = .ok (.ishr, 1) := by decide +kernel
theorem dX3_put_67 : decode cX3_put 67 = .ok (.bipush 15, 2) := by decide +kernel
theorem dX3_put_69 : decode cX3_put 69 = .ok (.iand, 1) := by decide +kernel
theorem dX3_put_70 : decode cX3_put 70 = .ok (.iastore, 1) := by decide +kernel
theorem dX3_put_71 : decode cX3_put 71 = .ok (.aload_n 0, 1) := by decide +kernel
theorem dX3_put_72 : decode cX3_put 72 = .ok (.getfield 11, 3) := by decide +kernel
theorem dX3_put_75 : decode cX3_put 75 = .ok (.iconst 3, 1) := by decide +kernel
theorem dX3_put_76 : decode cX3_put 76 = .ok (.iload_n 1, 1) := by decide +kernel
theorem dX3_put_77 : decode cX3_put 77 = .ok (.imul, 1) := by decide +kernel
theorem dX3_put_78 : decode cX3_put 78 = .ok (.iconst 2, 1) := by decide +kernel
theorem dX3_put_79 : decode cX3_put 79 = .ok (.iadd, 1) := by decide +kernel
theorem dX3_put_80 : decode cX3_put 80 = .ok (.iload_n 2, 1) := by decide +kernel
theorem dX3_put_81 : decode cX3_put 81 = .ok (.bipush 8, 2) := by decide +kernel
theorem dX3_put_83 : decode cX3_put 83 = .ok (.ishr, 1) := by decide +kernel
theorem dX3_put_84 : decode cX3_put 84 = .ok (.bipush 15, 2) := by decide +kernel
theorem dX3_put_86 : decode cX3_put 86 = .ok (.iand, 1) := by decide +kernel
theorem dX3_put_87 : decode cX3_put 87 = .ok (.iastore, 1) := by decide +kernel
theorem dX3_put_88 : decode cX3_put 88 = .ok (.aload_n 0, 1) := by decide +kernel
theorem dX3_put_89 : decode cX3_put 89 = .ok (.aload_n 0, 1) := by decide +kernel
theorem dX3_put_90 : decode cX3_put 90 = .ok (.getfield 25, 3) := by decide +kernel
theorem dX3_put_93 : decode cX3_put 93 = .ok (.iload_n 1, 1) := by decide +kernel
theorem dX3_put_94 : decode cX3_put 94 = .ok (.iconst 1, 1) := by decide +kernel
theorem dX3_put_95 : decode cX3_put 95 = .ok (.iadd, 1) := by decide +kernel
theorem dX3_put_96 : decode cX3_put 96 = .ok (.invokestatic 41, 3) := by decide +kernel
theorem dX3_put_99 : decode cX3_put 99 = .ok (.putfield 25, 3) := by decide +kernel
theorem dX3_put_102 : decode cX3_put 102 = .ok (.return_, 1) := by decide +kernel
theorem dX3_drawArrows_0 : decode cX3_drawArrows 0 = .ok (.aload_n 0, 1) := by decide +kernel
theorem dX3_drawArrows_1 : decode cX3_drawArrows 1 = .ok (.getfield 18, 3) := by decide +kernel
theorem dX3_drawArrows_4 : decode cX3_drawArrows 4 = .ok (.iconst (-1), 1) := by decide +kernel
theorem dX3_drawArrows_5 : decode cX3_drawArrows 5 = .ok (.invokestatic 28, 3) := by decide +kernel
theorem dX3_drawArrows_8 : decode cX3_drawArrows 8 = .ok (.iconst 0, 1) := by decide +kernel
theorem dX3_drawArrows_9 : decode cX3_drawArrows 9 = .ok (.istore_n 1, 1) := by decide +kernel
theorem dX3_drawArrows_10 : decode cX3_drawArrows 10 = .ok (.iload_n 1, 1) := by decide +kernel
theorem dX3_drawArrows_11 : decode cX3_drawArrows 11 = .ok (.aload_n 0, 1) := by decide +kernel
theorem dX3_drawArrows_12 : decode cX3_drawArrows 12 = .ok (.getfield 25, 3) := by decide +kernel
theorem dX3_drawArrows_15 : decode cX3_drawArrows 15 = .ok (.if_icmp .ge 79, 3) := by decide +kernel
theorem dX3_drawArrows_18 : decode cX3_drawArrows 18 = .ok (.aload_n 0, 1) := by decide +kernel
theorem dX3_drawArrows_19 : decode cX3_drawArrows 19 = .ok (.getfield 11, 3) := by decide +kernel
theorem dX3_drawArrows_22 : decode cX3_drawArrows 22 = .ok (.iconst 3, 1) := by decide +kernel
theorem dX3_drawArrows_23 : decode cX3_drawArrows 23 = .ok (.iload_n 1, 1) := by decide +kernel
theorem dX3_drawArrows_24 : decode cX3_drawArrows 24 = .ok (.imul, 1) := by decide +kernel
theorem dX3_drawArrows_25 : decode cX3_drawArrows 25 = .ok (.iaload, 1) := by decide +kernel
theorem dX3_drawArrows_26 : decode cX3_drawArrows 26 = .ok (.istore_n 2, 1) := by decide +kernel
theorem dX3_drawArrows_27 : decode cX3_drawArrows 27 = .ok (.aload_n 0, 1) := by decide +kernel
theorem dX3_drawArrows_28 : decode cX3_drawArrows 28 = .ok (.getfield 11, 3) := by decide +kernel
theorem dX3_drawArrows_31 : decode cX3_drawArrows 31 = .ok (.iconst 3, 1) := by decide +kernel
theorem dX3_drawArrows_32 : decode cX3_drawArrows 32 = .ok (.iload_n 1, 1) := by decide +kernel
theorem dX3_drawArrows_33 : decode cX3_drawArrows 33 = .ok (.imul, 1) := by decide +kernel
theorem dX3_drawArrows_34 : decode cX3_drawArrows 34 = .ok (.iconst 1, 1) := by decide +kernel
theorem dX3_drawArrows_35 : decode cX3_drawArrows 35 = .ok (.iadd, 1) := by decide +kernel
theorem dX3_drawArrows_36 : decode cX3_drawArrows 36 = .ok (.iaload, 1) := by decide +kernel
theorem dX3_drawArrows_37 : decode cX3_drawArrows 37 = .ok (.istore_n 3, 1) := by decide +kernel
theorem dX3_drawArrows_38 : decode cX3_drawArrows 38 = .ok (.aload_n 0, 1) := by decide +kernel
theorem dX3_drawArrows_39 : decode cX3_drawArrows 39 = .ok (.getfield 11, 3) := by decide +kernel
theorem dX3_drawArrows_42 : decode cX3_drawArrows 42 = .ok (.iconst 3, 1) := by decide +kernel
theorem dX3_drawArrows_43 : decode cX3_drawArrows 43 = .ok (.iload_n 1, 1) := by decide +kernel
theorem dX3_drawArrows_44 : decode cX3_drawArrows 44 = .ok (.imul, 1) := by decide +kernel
theorem dX3_drawArrows_45 : decode cX3_drawArrows 45 = .ok (.iconst 2, 1) := by decide +kernel
theorem dX3_drawArrows_46 : decode cX3_drawArrows 46 = .ok (.iadd, 1) := by decide +kernel
theorem dX3_drawArrows_47 : decode cX3_drawArrows 47 = .ok (.iaload, 1) := by decide +kernel
theorem dX3_drawArrows_48 : decode cX3_drawArrows 48 = .ok (.istore 4, 2) := by decide +kernel
theorem dX3_drawArrows_50 : decode cX3_drawArrows 50 = .ok (.aload_n 0, 1) := by decide +kernel
theorem dX3_drawArrows_51 : decode cX3_drawArrows 51 = .ok (.getfield 18, 3) := by decide +kernel
theorem dX3_drawArrows_54 : decode cX3_drawArrows 54 = .ok (.iload_n 2, 1) := by decide +kernel
theorem dX3_drawArrows_55 : decode cX3_drawArrows 55 = .ok (.bipush 9, 2) := by decide +kernel
theorem dX3_drawArrows_57 : decode cX3_drawArrows 57 = .ok (.imul, 1) := by decide +kernel
theorem dX3_drawArrows_58 : decode cX3_drawArrows 58 = .ok (.iload_n 3, 1) := by decide +kernel
theorem dX3_drawArrows_59 : decode cX3_drawArrows 59 = .ok (.iadd, 1) := by decide +kernel
theorem dX3_drawArrows_60 : decode cX3_drawArrows 60 = .ok (.iload_n 1, 1) := by decide +kernel
theorem dX3_drawArrows_61 : decode cX3_drawArrows 61 = .ok (.iastore, 1) := by decide +kernel
theorem dX3_drawArrows_62 : decode cX3_drawArrows 62 = .ok (.aload_n 0, 1) := by decide +kernel
theorem dX3_drawArrows_63 : decode cX3_drawArrows 63 = .ok (.getfield 18, 3) := by decide +kernel
theorem dX3_drawArrows_66 : decode cX3_drawArrows 66 = .ok (.iload_n 3, 1) := by decide +kernel
theorem dX3_drawArrows_67 : decode cX3_drawArrows 67 = .ok (.bipush 9, 2) := by decide +kernel
theorem dX3_drawArrows_69 : decode cX3_drawArrows 69 = .ok (.imul, 1) := by decide +kernel
theorem dX3_drawArrows_70 : decode cX3_drawArrows 70 = .ok (.iload 4, 2) := by decide +kernel
theorem dX3_drawArrows_72 : decode cX3_drawArrows 72 = .ok (.iadd, 1) := by decide +kernel
theorem dX3_drawArrows_73 : decode cX3_drawArrows 73 = .ok (.iload_n 1, 1) := by decide +kernel
theorem dX3_drawArrows_74 : decode cX3_drawArrows 74 = .ok (.iastore, 1) := by decide +kernel
theorem dX3_drawArrows_75 : decode cX3_drawArrows 75 = .ok (.aload_n 0, 1) := by decide +kernel
theorem dX3_drawArrows_76 : decode cX3_drawArrows 76 = .ok (.getfield 18, 3) := by decide +kernel
theorem dX3_drawArrows_79 : decode cX3_drawArrows 79 = .ok (.iload 4, 2) := by decide +kernel
theorem dX3_drawArrows_81 : decode cX3_drawArrows 81 = .ok (.bipush 9, 2) := by decide +kernel
theorem dX3_drawArrows_83 : decode cX3_drawArrows 83 = .ok (.imul, 1) := by decide +kernel
theorem dX3_drawArrows_84 : decode cX3_drawArrows 84 = .ok (.iload_n 2, 1) := by decide +kernel
theorem dX3_drawArrows_85 : decode cX3_drawArrows 85 = .ok (.iadd, 1) := by decide +kernel
theorem dX3_drawArrows_86 : decode cX3_drawArrows 86 = .ok (.iload_n 1, 1) := by decide +kernel
theorem dX3_drawArrows_87 : decode cX3_drawArrows 87 = .ok (.iastore, 1) := by decide +kernel
theorem dX3_drawArrows_88 : decode cX3_drawArrows 88 = .ok (.iinc 1 1, 3) := by decide +kernel
theorem dX3_drawArrows_91 : decode cX3_drawArrows 91 = .ok (.goto (-81), 3) := by decide +kernel
theorem dX3_drawArrows_94 : decode cX3_drawArrows 94 = .ok (.return_, 1) := by decide +kernel
theorem dX3_postCount_0 : decode cX3_postCount 0 = .ok (.aload_n 0, 1) := by decide +kernel
theorem dX3_postCount_1 : decode cX3_postCount 1 = .ok (.getfield 21, 3) := by decide +kernel
theorem dX3_postCount_4 : decode cX3_postCount 4 = .ok (.ireturn, 1) := by decide +kernel
theorem dX3_thirdCount_0 : decode cX3_thirdCount 0 = .ok (.aload_n 0, 1) := by decide +kernel
theorem dX3_thirdCount_1 : decode cX3_thirdCount 1 = .ok (.getfield 25, 3) := by decide +kernel
theorem dX3_thirdCount_4 : decode cX3_thirdCount 4 = .ok (.ireturn, 1) := by decide +kernel
theorem dX3_cornerCount_0 : decode cX3_cornerCount 0 = .ok (.iconst 3, 1) := by decide +kernel
theorem dX3_cornerCount_1 : decode cX3_cornerCount 1 = .ok (.aload_n 0, 1) := by decide +kernel
theorem dX3_cornerCount_2 : decode cX3_cornerCount 2 = .ok (.getfield 25, 3) := by decide +kernel
theorem dX3_cornerCount_5 : decode cX3_cornerCount 5 = .ok (.imul, 1) := by decide +kernel
theorem dX3_cornerCount_6 : decode cX3_cornerCount 6 = .ok (.ireturn, 1) := by decide +kernel
theorem dX3_hasPost_0 : decode cX3_hasPost 0 = .ok (.iload_n 1, 1) := by decide +kernel
theorem dX3_hasPost_1 : decode cX3_hasPost 1 = .ok (.ifCond .lt 15, 3) := by decide +kernel
theorem dX3_hasPost_4 : decode cX3_hasPost 4 = .ok (.iload_n 1, 1) := by decide +kernel
theorem dX3_hasPost_5 : decode cX3_hasPost 5 = .ok (.aload_n 0, 1) := by decide +kernel
theorem dX3_hasPost_6 : decode cX3_hasPost 6 = .ok (.getfield 21, 3) := by decide +kernel
theorem dX3_hasPost_9 : decode cX3_hasPost 9 = .ok (.if_icmp .ge 7, 3) := by decide +kernel
theorem dX3_hasPost_12 : decode cX3_hasPost 12 = .ok (.iconst 1, 1) := by decide +kernel
theorem dX3_hasPost_13 : decode cX3_hasPost 13 = .ok (.goto 4, 3) := by decide +kernel
theorem dX3_hasPost_16 : decode cX3_hasPost 16 = .ok (.iconst 0, 1) := by decide +kernel
theorem dX3_hasPost_17 : decode cX3_hasPost 17 = .ok (.ireturn, 1) := by decide +kernel
theorem dX3_hasCorner_0 : decode cX3_hasCorner 0 = .ok (.iload_n 1, 1) := by decide +kernel
theorem dX3_hasCorner_1 : decode cX3_hasCorner 1 = .ok (.ifCond .lt 15, 3) := by decide +kernel
theorem dX3_hasCorner_4 : decode cX3_hasCorner 4 = .ok (.iload_n 1, 1) := by decide +kernel
theorem dX3_hasCorner_5 : decode cX3_hasCorner 5 = .ok (.aload_n 0, 1) := by decide +kernel
theorem dX3_hasCorner_6 : decode cX3_hasCorner 6 = .ok (.invokevirtual 47, 3) := by decide +kernel
theorem dX3_hasCorner_9 : decode cX3_hasCorner 9 = .ok (.if_icmp .ge 7, 3) := by decide +kernel
theorem dX3_hasCorner_12 : decode cX3_hasCorner 12 = .ok (.iconst 1, 1) := by decide +kernel
theorem dX3_hasCorner_13 : decode cX3_hasCorner 13 = .ok (.goto 4, 3) := by decide +kernel
theorem dX3_hasCorner_16 : decode cX3_hasCorner 16 = .ok (.iconst 0, 1) := by decide +kernel
theorem dX3_hasCorner_17 : decode cX3_hasCorner 17 = .ok (.ireturn, 1) := by decide +kernel
theorem dX3_areUnlike_0 : decode cX3_areUnlike 0 = .ok (.aload_n 0, 1) := by decide +kernel
theorem dX3_areUnlike_1 : decode cX3_areUnlike 1 = .ok (.iload_n 1, 1) := by decide +kernel
theorem dX3_areUnlike_2 : decode cX3_areUnlike 2 = .ok (.invokevirtual 51, 3) := by decide +kernel
theorem dX3_areUnlike_5 : decode cX3_areUnlike 5 = .ok (.ifCond .eq 20, 3) := by decide +kernel
theorem dX3_areUnlike_8 : decode cX3_areUnlike 8 = .ok (.aload_n 0, 1) := by decide +kernel
theorem dX3_areUnlike_9 : decode cX3_areUnlike 9 = .ok (.iload_n 2, 1) := by decide +kernel
theorem dX3_areUnlike_10 : decode cX3_areUnlike 10 = .ok (.invokevirtual 51, 3) := by decide +kernel
theorem dX3_areUnlike_13 : decode cX3_areUnlike 13 = .ok (.ifCond .eq 12, 3) := by decide +kernel
theorem dX3_areUnlike_16 : decode cX3_areUnlike 16 = .ok (.iload_n 1, 1) := by decide +kernel
theorem dX3_areUnlike_17 : decode cX3_areUnlike 17 = .ok (.iload_n 2, 1) := by decide +kernel
theorem dX3_areUnlike_18 : decode cX3_areUnlike 18 = .ok (.if_icmp .eq 7, 3) := by decide +kernel
theorem dX3_areUnlike_21 : decode cX3_areUnlike 21 = .ok (.iconst 1, 1) := by decide +kernel
theorem dX3_areUnlike_22 : decode cX3_areUnlike 22 = .ok (.goto 4, 3) := by decide +kernel
theorem dX3_areUnlike_25 : decode cX3_areUnlike 25 = .ok (.iconst 0, 1) := by decide +kernel
theorem dX3_areUnlike_26 : decode cX3_areUnlike 26 = .ok (.ireturn, 1) := by decide +kernel
theorem dX3_postOf_0 : decode cX3_postOf 0 = .ok (.aload_n 0, 1) := by decide +kernel
theorem dX3_postOf_1 : decode cX3_postOf 1 = .ok (.getfield 11, 3) := by decide +kernel
theorem dX3_postOf_4 : decode cX3_postOf 4 = .ok (.iload_n 1, 1) := by decide +kernel
theorem dX3_postOf_5 : decode cX3_postOf 5 = .ok (.iaload, 1) := by decide +kernel
theorem dX3_postOf_6 : decode cX3_postOf 6 = .ok (.ireturn, 1) := by decide +kernel
theorem dX3_sumOf_0 : decode cX3_sumOf 0 = .ok (.aload_n 0, 1) := by decide +kernel
theorem dX3_sumOf_1 : decode cX3_sumOf 1 = .ok (.getfield 15, 3) := by decide +kernel
theorem dX3_sumOf_4 : decode cX3_sumOf 4 = .ok (.iload_n 1, 1) := by decide +kernel
theorem dX3_sumOf_5 : decode cX3_sumOf 5 = .ok (.iaload, 1) := by decide +kernel
theorem dX3_sumOf_6 : decode cX3_sumOf 6 = .ok (.ireturn, 1) := by decide +kernel
theorem dX3_isTold_0 : decode cX3_isTold 0 = .ok (.aload_n 0, 1) := by decide +kernel
theorem dX3_isTold_1 : decode cX3_isTold 1 = .ok (.getfield 15, 3) := by decide +kernel
theorem dX3_isTold_4 : decode cX3_isTold 4 = .ok (.iload_n 1, 1) := by decide +kernel
theorem dX3_isTold_5 : decode cX3_isTold 5 = .ok (.iaload, 1) := by decide +kernel
theorem dX3_isTold_6 : decode cX3_isTold 6 = .ok (.iconst (-1), 1) := by decide +kernel
theorem dX3_isTold_7 : decode cX3_isTold 7 = .ok (.if_icmp .eq 7, 3) := by decide +kernel
theorem dX3_isTold_10 : decode cX3_isTold 10 = .ok (.iconst 1, 1) := by decide +kernel
theorem dX3_isTold_11 : decode cX3_isTold 11 = .ok (.goto 4, 3) := by decide +kernel
theorem dX3_isTold_14 : decode cX3_isTold 14 = .ok (.iconst 0, 1) := by decide +kernel
theorem dX3_isTold_15 : decode cX3_isTold 15 = .ok (.ireturn, 1) := by decide +kernel
theorem dX3_thirdWith_0 : decode cX3_thirdWith 0 = .ok (.aload_n 0, 1) := by decide +kernel
theorem dX3_thirdWith_1 : decode cX3_thirdWith 1 = .ok (.getfield 18, 3) := by decide +kernel
theorem dX3_thirdWith_4 : decode cX3_thirdWith 4 = .ok (.iload_n 1, 1) := by decide +kernel
theorem dX3_thirdWith_5 : decode cX3_thirdWith 5 = .ok (.bipush 9, 2) := by decide +kernel
theorem dX3_thirdWith_7 : decode cX3_thirdWith 7 = .ok (.imul, 1) := by decide +kernel
theorem dX3_thirdWith_8 : decode cX3_thirdWith 8 = .ok (.iload_n 2, 1) := by decide +kernel
theorem dX3_thirdWith_9 : decode cX3_thirdWith 9 = .ok (.iadd, 1) := by decide +kernel
theorem dX3_thirdWith_10 : decode cX3_thirdWith 10 = .ok (.iaload, 1) := by decide +kernel
theorem dX3_thirdWith_11 : decode cX3_thirdWith 11 = .ok (.ireturn, 1) := by decide +kernel
theorem dX3_hasArrow_0 : decode cX3_hasArrow 0 = .ok (.aload_n 0, 1) := by decide +kernel
theorem dX3_hasArrow_1 : decode cX3_hasArrow 1 = .ok (.iload_n 1, 1) := by decide +kernel
theorem dX3_hasArrow_2 : decode cX3_hasArrow 2 = .ok (.iload_n 2, 1) := by decide +kernel
theorem dX3_hasArrow_3 : decode cX3_hasArrow 3 = .ok (.invokevirtual 55, 3) := by decide +kernel
theorem dX3_hasArrow_6 : decode cX3_hasArrow 6 = .ok (.iconst (-1), 1) := by decide +kernel
theorem dX3_hasArrow_7 : decode cX3_hasArrow 7 = .ok (.if_icmp .eq 7, 3) := by decide +kernel
theorem dX3_hasArrow_10 : decode cX3_hasArrow 10 = .ok (.iconst 1, 1) := by decide +kernel
theorem dX3_hasArrow_11 : decode cX3_hasArrow 11 = .ok (.goto 4, 3) := by decide +kernel
theorem dX3_hasArrow_14 : decode cX3_hasArrow 14 = .ok (.iconst 0, 1) := by decide +kernel
theorem dX3_hasArrow_15 : decode cX3_hasArrow 15 = .ok (.ireturn, 1) := by decide +kernel
theorem dX3_thirdsAtSide_0 : decode cX3_thirdsAtSide 0 = .ok (.aload_n 0, 1) := by decide +kernel
theorem dX3_thirdsAtSide_1 : decode cX3_thirdsAtSide 1 = .ok (.iload_n 1, 1) := by decide +kernel
theorem dX3_thirdsAtSide_2 : decode cX3_thirdsAtSide 2 = .ok (.iload_n 2, 1) := by decide +kernel
theorem dX3_thirdsAtSide_3 : decode cX3_thirdsAtSide 3 = .ok (.invokevirtual 58, 3) := by decide +kernel
theorem dX3_thirdsAtSide_6 : decode cX3_thirdsAtSide 6 = .ok (.ifCond .eq 7, 3) := by decide +kernel
theorem dX3_thirdsAtSide_9 : decode cX3_thirdsAtSide 9 = .ok (.iconst 1, 1) := by decide +kernel
theorem dX3_thirdsAtSide_10 : decode cX3_thirdsAtSide 10 = .ok (.goto 4, 3) := by decide +kernel
theorem dX3_thirdsAtSide_13 : decode cX3_thirdsAtSide 13 = .ok (.iconst 0, 1) := by decide +kernel
theorem dX3_thirdsAtSide_14 : decode cX3_thirdsAtSide 14 = .ok (.aload_n 0, 1) := by decide +kernel
theorem dX3_thirdsAtSide_15 : decode cX3_thirdsAtSide 15 = .ok (.iload_n 2, 1) := by decide +kernel
theorem dX3_thirdsAtSide_16 : decode cX3_thirdsAtSide 16 = .ok (.iload_n 1, 1) := by decide +kernel
theorem dX3_thirdsAtSide_17 : decode cX3_thirdsAtSide 17 = .ok (.invokevirtual 58, 3) := by decide +kernel
theorem dX3_thirdsAtSide_20 : decode cX3_thirdsAtSide 20 = .ok (.ifCond .eq 7, 3) := by decide +kernel
theorem dX3_thirdsAtSide_23 : decode cX3_thirdsAtSide 23 = .ok (.iconst 1, 1) := by decide +kernel
theorem dX3_thirdsAtSide_24 : decode cX3_thirdsAtSide 24 = .ok (.goto 4, 3) := by decide +kernel
theorem dX3_thirdsAtSide_27 : decode cX3_thirdsAtSide 27 = .ok (.iconst 0, 1) := by decide +kernel
theorem dX3_thirdsAtSide_28 : decode cX3_thirdsAtSide 28 = .ok (.iadd, 1) := by decide +kernel
theorem dX3_thirdsAtSide_29 : decode cX3_thirdsAtSide 29 = .ok (.ireturn, 1) := by decide +kernel
theorem dX3_isSide_0 : decode cX3_isSide 0 = .ok (.aload_n 0, 1) := by decide +kernel
theorem dX3_isSide_1 : decode cX3_isSide 1 = .ok (.iload_n 1, 1) := by decide +kernel
theorem dX3_isSide_2 : decode cX3_isSide 2 = .ok (.iload_n 2, 1) := by decide +kernel
theorem dX3_isSide_3 : decode cX3_isSide 3 = .ok (.invokevirtual 62, 3) := by decide +kernel
theorem dX3_isSide_6 : decode cX3_isSide 6 = .ok (.ifCond .eq 16, 3) := by decide +kernel
theorem dX3_isSide_9 : decode cX3_isSide 9 = .ok (.aload_n 0, 1) := by decide +kernel
theorem dX3_isSide_10 : decode cX3_isSide 10 = .ok (.iload_n 1, 1) := by decide +kernel
theorem dX3_isSide_11 : decode cX3_isSide 11 = .ok (.iload_n 2, 1) := by decide +kernel
theorem dX3_isSide_12 : decode cX3_isSide 12 = .ok (.invokevirtual 65, 3) := by decide +kernel
theorem dX3_isSide_15 : decode cX3_isSide 15 = .ok (.ifCond .le 7, 3) := by decide +kernel
theorem dX3_isSide_18 : decode cX3_isSide 18 = .ok (.iconst 1, 1) := by decide +kernel
theorem dX3_isSide_19 : decode cX3_isSide 19 = .ok (.goto 4, 3) := by decide +kernel
theorem dX3_isSide_22 : decode cX3_isSide 22 = .ok (.iconst 0, 1) := by decide +kernel
theorem dX3_isSide_23 : decode cX3_isSide 23 = .ok (.ireturn, 1) := by decide +kernel
theorem dX3_cornerOpposite_0 : decode cX3_cornerOpposite 0 = .ok (.iconst 3, 1) := by decide +kernel
theorem dX3_cornerOpposite_1 : decode cX3_cornerOpposite 1 = .ok (.iload_n 1, 1) := by decide +kernel
theorem dX3_cornerOpposite_2 : decode cX3_cornerOpposite 2 = .ok (.imul, 1) := by decide +kernel
theorem dX3_cornerOpposite_3 : decode cX3_cornerOpposite 3 = .ok (.istore 4, 2) := by decide +kernel
theorem dX3_cornerOpposite_5 : decode cX3_cornerOpposite 5 = .ok (.iconst 0, 1) := by decide +kernel
theorem dX3_cornerOpposite_6 : decode cX3_cornerOpposite 6 = .ok (.istore 5, 2) := by decide +kernel
theorem dX3_cornerOpposite_8 : decode cX3_cornerOpposite 8 = .ok (.iload 5, 2) := by decide +kernel
theorem dX3_cornerOpposite_10 : decode cX3_cornerOpposite 10 = .ok (.iconst 2, 1) := by decide +kernel
theorem dX3_cornerOpposite_11 : decode cX3_cornerOpposite 11 = .ok (.if_icmp .ge 34, 3) := by decide +kernel
theorem dX3_cornerOpposite_14 : decode cX3_cornerOpposite 14 = .ok (.aload_n 0, 1) := by decide +kernel
theorem dX3_cornerOpposite_15 : decode cX3_cornerOpposite 15 = .ok (.getfield 11, 3) := by decide +kernel
theorem dX3_cornerOpposite_18 : decode cX3_cornerOpposite 18 = .ok (.iload 4, 2) := by decide +kernel
theorem dX3_cornerOpposite_20 : decode cX3_cornerOpposite 20 = .ok (.iaload, 1) := by decide +kernel
theorem dX3_cornerOpposite_21 : decode cX3_cornerOpposite 21 = .ok (.iload_n 2, 1) := by decide +kernel
theorem dX3_cornerOpposite_22 : decode cX3_cornerOpposite 22 = .ok (.if_icmp .eq 14, 3) := by decide +kernel
theorem dX3_cornerOpposite_25 : decode cX3_cornerOpposite 25 = .ok (.aload_n 0, 1) := by decide +kernel
theorem dX3_cornerOpposite_26 : decode cX3_cornerOpposite 26 = .ok (.getfield 11, 3) := by decide +kernel
theorem dX3_cornerOpposite_29 : decode cX3_cornerOpposite 29 = .ok (.iload 4, 2) := by decide +kernel
theorem dX3_cornerOpposite_31 : decode cX3_cornerOpposite 31 = .ok (.iaload, 1) := by decide +kernel
theorem dX3_cornerOpposite_32 : decode cX3_cornerOpposite 32 = .ok (.iload_n 3, 1) := by decide +kernel
theorem dX3_cornerOpposite_33 : decode cX3_cornerOpposite 33 = .ok (.if_icmp .ne 12, 3) := by decide +kernel
theorem dX3_cornerOpposite_36 : decode cX3_cornerOpposite 36 = .ok (.iinc 4 1, 3) := by decide +kernel
theorem dX3_cornerOpposite_39 : decode cX3_cornerOpposite 39 = .ok (.iinc 5 1, 3) := by decide +kernel
theorem dX3_cornerOpposite_42 : decode cX3_cornerOpposite 42 = .ok (.goto (-34), 3) := by decide +kernel
theorem dX3_cornerOpposite_45 : decode cX3_cornerOpposite 45 = .ok (.iload 4, 2) := by decide +kernel
theorem dX3_cornerOpposite_47 : decode cX3_cornerOpposite 47 = .ok (.ireturn, 1) := by decide +kernel
theorem dX3_cornersAt_0 : decode cX3_cornersAt 0 = .ok (.iconst 0, 1) := by decide +kernel
theorem dX3_cornersAt_1 : decode cX3_cornersAt 1 = .ok (.istore_n 2, 1) := by decide +kernel
theorem dX3_cornersAt_2 : decode cX3_cornersAt 2 = .ok (.iconst 0, 1) := by decide +kernel
theorem dX3_cornersAt_3 : decode cX3_cornersAt 3 = .ok (.istore_n 3, 1) := by decide +kernel
theorem dX3_cornersAt_4 : decode cX3_cornersAt 4 = .ok (.iload_n 3, 1) := by decide +kernel
theorem dX3_cornersAt_5 : decode cX3_cornersAt 5 = .ok (.aload_n 0, 1) := by decide +kernel
theorem dX3_cornersAt_6 : decode cX3_cornersAt 6 = .ok (.invokevirtual 47, 3) := by decide +kernel
theorem dX3_cornersAt_9 : decode cX3_cornersAt 9 = .ok (.if_icmp .ge 22, 3) := by decide +kernel
theorem dX3_cornersAt_12 : decode cX3_cornersAt 12 = .ok (.aload_n 0, 1) := by decide +kernel
theorem dX3_cornersAt_13 : decode cX3_cornersAt 13 = .ok (.getfield 11, 3) := by decide +kernel
theorem dX3_cornersAt_16 : decode cX3_cornersAt 16 = .ok (.iload_n 3, 1) := by decide +kernel
theorem dX3_cornersAt_17 : decode cX3_cornersAt 17 = .ok (.iaload, 1) := by decide +kernel
theorem dX3_cornersAt_18 : decode cX3_cornersAt 18 = .ok (.iload_n 1, 1) := by decide +kernel
theorem dX3_cornersAt_19 : decode cX3_cornersAt 19 = .ok (.if_icmp .ne 6, 3) := by decide +kernel
theorem dX3_cornersAt_22 : decode cX3_cornersAt 22 = .ok (.iinc 2 1, 3) := by decide +kernel
theorem dX3_cornersAt_25 : decode cX3_cornersAt 25 = .ok (.iinc 3 1, 3) := by decide +kernel
theorem dX3_cornersAt_28 : decode cX3_cornersAt 28 = .ok (.goto (-24), 3) := by decide +kernel
theorem dX3_cornersAt_31 : decode cX3_cornersAt 31 = .ok (.iload_n 2, 1) := by decide +kernel
theorem dX3_cornersAt_32 : decode cX3_cornersAt 32 = .ok (.ireturn, 1) := by decide +kernel
theorem dX3_sidesAt_0 : decode cX3_sidesAt 0 = .ok (.iconst 0, 1) := by decide +kernel
theorem dX3_sidesAt_1 : decode cX3_sidesAt 1 = .ok (.istore_n 3, 1) := by decide +kernel
theorem dX3_sidesAt_2 : decode cX3_sidesAt 2 = .ok (.iconst 0, 1) := by decide +kernel
theorem dX3_sidesAt_3 : decode cX3_sidesAt 3 = .ok (.istore 4, 2) := by decide +kernel
theorem dX3_sidesAt_5 : decode cX3_sidesAt 5 = .ok (.iload 4, 2) := by decide +kernel
theorem dX3_sidesAt_7 : decode cX3_sidesAt 7 = .ok (.aload_n 0, 1) := by decide +kernel
theorem dX3_sidesAt_8 : decode cX3_sidesAt 8 = .ok (.getfield 21, 3) := by decide +kernel
theorem dX3_sidesAt_11 : decode cX3_sidesAt 11 = .ok (.if_icmp .ge 29, 3) := by decide +kernel
theorem dX3_sidesAt_14 : decode cX3_sidesAt 14 = .ok (.iload 4, 2) := by decide +kernel
theorem dX3_sidesAt_16 : decode cX3_sidesAt 16 = .ok (.iload_n 1, 1) := by decide +kernel
theorem dX3_sidesAt_17 : decode cX3_sidesAt 17 = .ok (.if_icmp .eq 17, 3) := by decide +kernel
theorem dX3_sidesAt_20 : decode cX3_sidesAt 20 = .ok (.aload_n 0, 1) := by decide +kernel
theorem dX3_sidesAt_21 : decode cX3_sidesAt 21 = .ok (.iload_n 1, 1) := by decide +kernel
theorem dX3_sidesAt_22 : decode cX3_sidesAt 22 = .ok (.iload 4, 2) := by decide +kernel
theorem dX3_sidesAt_24 : decode cX3_sidesAt 24 = .ok (.invokevirtual 65, 3) := by decide +kernel
theorem dX3_sidesAt_27 : decode cX3_sidesAt 27 = .ok (.iload_n 2, 1) := by decide +kernel
theorem dX3_sidesAt_28 : decode cX3_sidesAt 28 = .ok (.if_icmp .ne 6, 3) := by decide +kernel
theorem dX3_sidesAt_31 : decode cX3_sidesAt 31 = .ok (.iinc 3 1, 3) := by decide +kernel
theorem dX3_sidesAt_34 : decode cX3_sidesAt 34 = .ok (.iinc 4 1, 3) := by decide +kernel
theorem dX3_sidesAt_37 : decode cX3_sidesAt 37 = .ok (.goto (-32), 3) := by decide +kernel
theorem dX3_sidesAt_40 : decode cX3_sidesAt 40 = .ok (.iload_n 3, 1) := by decide +kernel
theorem dX3_sidesAt_41 : decode cX3_sidesAt 41 = .ok (.ireturn, 1) := by decide +kernel
theorem dX3_sidesWith_0 : decode cX3_sidesWith 0 = .ok (.iconst 0, 1) := by decide +kernel
theorem dX3_sidesWith_1 : decode cX3_sidesWith 1 = .ok (.istore_n 2, 1) := by decide +kernel
theorem dX3_sidesWith_2 : decode cX3_sidesWith 2 = .ok (.iconst 0, 1) := by decide +kernel
theorem dX3_sidesWith_3 : decode cX3_sidesWith 3 = .ok (.istore_n 3, 1) := by decide +kernel
theorem dX3_sidesWith_4 : decode cX3_sidesWith 4 = .ok (.iload_n 3, 1) := by decide +kernel
theorem dX3_sidesWith_5 : decode cX3_sidesWith 5 = .ok (.aload_n 0, 1) := by decide +kernel
theorem dX3_sidesWith_6 : decode cX3_sidesWith 6 = .ok (.getfield 21, 3) := by decide +kernel
theorem dX3_sidesWith_9 : decode cX3_sidesWith 9 = .ok (.if_icmp .ge 18, 3) := by decide +kernel
theorem dX3_sidesWith_12 : decode cX3_sidesWith 12 = .ok (.iload_n 2, 1) := by decide +kernel
theorem dX3_sidesWith_13 : decode cX3_sidesWith 13 = .ok (.aload_n 0, 1) := by decide +kernel
theorem dX3_sidesWith_14 : decode cX3_sidesWith 14 = .ok (.iload_n 3, 1) := by decide +kernel
theorem dX3_sidesWith_15 : decode cX3_sidesWith 15 = .ok (.iload_n 1, 1) := by decide +kernel
theorem dX3_sidesWith_16 : decode cX3_sidesWith 16 = .ok (.invokevirtual 68, 3) := by decide +kernel
theorem dX3_sidesWith_19 : decode cX3_sidesWith 19 = .ok (.iadd, 1) := by decide +kernel
theorem dX3_sidesWith_20 : decode cX3_sidesWith 20 = .ok (.istore_n 2, 1) := by decide +kernel
theorem dX3_sidesWith_21 : decode cX3_sidesWith 21 = .ok (.iinc 3 1, 3) := by decide +kernel
theorem dX3_sidesWith_24 : decode cX3_sidesWith 24 = .ok (.goto (-20), 3) := by decide +kernel
theorem dX3_sidesWith_27 : decode cX3_sidesWith 27 = .ok (.iload_n 2, 1) := by decide +kernel
theorem dX3_sidesWith_28 : decode cX3_sidesWith 28 = .ok (.iconst 2, 1) := by decide +kernel
theorem dX3_sidesWith_29 : decode cX3_sidesWith 29 = .ok (.idiv, 1) := by decide +kernel
theorem dX3_sidesWith_30 : decode cX3_sidesWith 30 = .ok (.ireturn, 1) := by decide +kernel
theorem dX3_isFreeOfRim_0 : decode cX3_isFreeOfRim 0 = .ok (.aload_n 0, 1) := by decide +kernel
theorem dX3_isFreeOfRim_1 : decode cX3_isFreeOfRim 1 = .ok (.iload_n 1, 1) := by decide +kernel
theorem dX3_isFreeOfRim_2 : decode cX3_isFreeOfRim 2 = .ok (.invokevirtual 71, 3) := by decide +kernel
theorem dX3_isFreeOfRim_5 : decode cX3_isFreeOfRim 5 = .ok (.ifCond .le 16, 3) := by decide +kernel
theorem dX3_isFreeOfRim_8 : decode cX3_isFreeOfRim 8 = .ok (.aload_n 0, 1) := by decide +kernel
theorem dX3_isFreeOfRim_9 : decode cX3_isFreeOfRim 9 = .ok (.iload_n 1, 1) := by decide +kernel
theorem dX3_isFreeOfRim_10 : decode cX3_isFreeOfRim 10 = .ok (.iconst 1, 1) := by decide +kernel
theorem dX3_isFreeOfRim_11 : decode cX3_isFreeOfRim 11 = .ok (.invokevirtual 68, 3) := by decide +kernel
theorem dX3_isFreeOfRim_14 : decode cX3_isFreeOfRim 14 = .ok (.ifCond .ne 7, 3) := by decide +kernel
theorem dX3_isFreeOfRim_17 : decode cX3_isFreeOfRim 17 = .ok (.iconst 1, 1) := by decide +kernel
theorem dX3_isFreeOfRim_18 : decode cX3_isFreeOfRim 18 = .ok (.goto 4, 3) := by decide +kernel
theorem dX3_isFreeOfRim_21 : decode cX3_isFreeOfRim 21 = .ok (.iconst 0, 1) := by decide +kernel
theorem dX3_isFreeOfRim_22 : decode cX3_isFreeOfRim 22 = .ok (.ireturn, 1) := by decide +kernel
theorem dX3_isRound_0 : decode cX3_isRound 0 = .ok (.aload_n 0, 1) := by decide +kernel
theorem dX3_isRound_1 : decode cX3_isRound 1 = .ok (.iload_n 1, 1) := by decide +kernel
theorem dX3_isRound_2 : decode cX3_isRound 2 = .ok (.invokevirtual 75, 3) := by decide +kernel
theorem dX3_isRound_5 : decode cX3_isRound 5 = .ok (.istore_n 2, 1) := by decide +kernel
theorem dX3_isRound_6 : decode cX3_isRound 6 = .ok (.iload_n 2, 1) := by decide +kernel
theorem dX3_isRound_7 : decode cX3_isRound 7 = .ok (.ifCond .eq 20, 3) := by decide +kernel
theorem dX3_isRound_10 : decode cX3_isRound 10 = .ok (.aload_n 0, 1) := by decide +kernel
theorem dX3_isRound_11 : decode cX3_isRound 11 = .ok (.iload_n 2, 1) := by decide +kernel
theorem dX3_isRound_12 : decode cX3_isRound 12 = .ok (.iload_n 2, 1) := by decide +kernel
theorem dX3_isRound_13 : decode cX3_isRound 13 = .ok (.ineg, 1) := by decide +kernel
theorem dX3_isRound_14 : decode cX3_isRound 14 = .ok (.iand, 1) := by decide +kernel
theorem dX3_isRound_15 : decode cX3_isRound 15 = .ok (.iload_n 1, 1) := by decide +kernel
theorem dX3_isRound_16 : decode cX3_isRound 16 = .ok (.invokevirtual 78, 3) := by decide +kernel
theorem dX3_isRound_19 : decode cX3_isRound 19 = .ok (.iload_n 2, 1) := by decide +kernel
theorem dX3_isRound_20 : decode cX3_isRound 20 = .ok (.if_icmp .ne 7, 3) := by decide +kernel
theorem dX3_isRound_23 : decode cX3_isRound 23 = .ok (.iconst 1, 1) := by decide +kernel
theorem dX3_isRound_24 : decode cX3_isRound 24 = .ok (.goto 4, 3) := by decide +kernel
theorem dX3_isRound_27 : decode cX3_isRound 27 = .ok (.iconst 0, 1) := by decide +kernel
theorem dX3_isRound_28 : decode cX3_isRound 28 = .ok (.ireturn, 1) := by decide +kernel
theorem dX3_character_0 : decode cX3_character 0 = .ok (.iconst 0, 1) := by decide +kernel
theorem dX3_character_1 : decode cX3_character 1 = .ok (.istore_n 1, 1) := by decide +kernel
theorem dX3_character_2 : decode cX3_character 2 = .ok (.iconst 0, 1) := by decide +kernel
theorem dX3_character_3 : decode cX3_character 3 = .ok (.istore_n 2, 1) := by decide +kernel
theorem dX3_character_4 : decode cX3_character 4 = .ok (.iload_n 2, 1) := by decide +kernel
theorem dX3_character_5 : decode cX3_character 5 = .ok (.aload_n 0, 1) := by decide +kernel
theorem dX3_character_6 : decode cX3_character 6 = .ok (.getfield 21, 3) := by decide +kernel
theorem dX3_character_9 : decode cX3_character 9 = .ok (.if_icmp .ge 20, 3) := by decide +kernel
theorem dX3_character_12 : decode cX3_character 12 = .ok (.aload_n 0, 1) := by decide +kernel
theorem dX3_character_13 : decode cX3_character 13 = .ok (.iload_n 2, 1) := by decide +kernel
theorem dX3_character_14 : decode cX3_character 14 = .ok (.invokevirtual 71, 3) := by decide +kernel
theorem dX3_character_17 : decode cX3_character 17 = .ok (.ifCond .le 6, 3) := by decide +kernel
theorem dX3_character_20 : decode cX3_character 20 = .ok (.iinc 1 1, 3) := by decide +kernel
theorem dX3_character_23 : decode cX3_character 23 = .ok (.iinc 2 1, 3) := by decide +kernel
theorem dX3_character_26 : decode cX3_character 26 = .ok (.goto (-22), 3) := by decide +kernel
theorem dX3_character_29 : decode cX3_character 29 = .ok (.iload_n 1, 1) := by decide +kernel
theorem dX3_character_30 : decode cX3_character 30 = .ok (.aload_n 0, 1) := by decide +kernel
theorem dX3_character_31 : decode cX3_character 31 = .ok (.iconst 1, 1) := by decide +kernel
theorem dX3_character_32 : decode cX3_character 32 = .ok (.invokevirtual 81, 3) := by decide +kernel
theorem dX3_character_35 : decode cX3_character 35 = .ok (.isub, 1) := by decide +kernel
theorem dX3_character_36 : decode cX3_character 36 = .ok (.aload_n 0, 1) := by decide +kernel
theorem dX3_character_37 : decode cX3_character 37 = .ok (.iconst 2, 1) := by decide +kernel
theorem dX3_character_38 : decode cX3_character 38 = .ok (.invokevirtual 81, 3) := by decide +kernel
theorem dX3_character_41 : decode cX3_character 41 = .ok (.isub, 1) := by decide +kernel
theorem dX3_character_42 : decode cX3_character 42 = .ok (.aload_n 0, 1) := by decide +kernel
theorem dX3_character_43 : decode cX3_character 43 = .ok (.getfield 25, 3) := by decide +kernel
theorem dX3_character_46 : decode cX3_character 46 = .ok (.iadd, 1) := by decide +kernel
theorem dX3_character_47 : decode cX3_character 47 = .ok (.ireturn, 1) := by decide +kernel
theorem dX3_pieces_0 : decode cX3_pieces 0 = .ok (.iconst 0, 1) := by decide +kernel
theorem dX3_pieces_1 : decode cX3_pieces 1 = .ok (.istore_n 1, 1) := by decide +kernel
theorem dX3_pieces_2 : decode cX3_pieces 2 = .ok (.iconst 1, 1) := by decide +kernel
theorem dX3_pieces_3 : decode cX3_pieces 3 = .ok (.aload_n 0, 1) := by decide +kernel
theorem dX3_pieces_4 : decode cX3_pieces 4 = .ok (.getfield 25, 3) := by decide +kernel
theorem dX3_pieces_7 : decode cX3_pieces 7 = .ok (.ishl, 1) := by decide +kernel
theorem dX3_pieces_8 : decode cX3_pieces 8 = .ok (.iconst 1, 1) := by decide +kernel
theorem dX3_pieces_9 : decode cX3_pieces 9 = .ok (.isub, 1) := by decide +kernel
theorem dX3_pieces_10 : decode cX3_pieces 10 = .ok (.istore_n 2, 1) := by decide +kernel
theorem dX3_pieces_11 : decode cX3_pieces 11 = .ok (.iconst 0, 1) := by decide +kernel
theorem dX3_pieces_12 : decode cX3_pieces 12 = .ok (.istore_n 3, 1) := by decide +kernel
theorem dX3_pieces_13 : decode cX3_pieces 13 = .ok (.iload_n 3, 1) := by decide +kernel
theorem dX3_pieces_14 : decode cX3_pieces 14 = .ok (.bipush 12, 2) := by decide +kernel
theorem dX3_pieces_16 : decode cX3_pieces 16 = .ok (.if_icmp .ge 30, 3) := by decide +kernel
theorem dX3_pieces_19 : decode cX3_pieces 19 = .ok (.iload_n 2, 1) := by decide +kernel
theorem dX3_pieces_20 : decode cX3_pieces 20 = .ok (.ifCond .eq 26, 3) := by decide +kernel
theorem dX3_pieces_23 : decode cX3_pieces 23 = .ok (.iload_n 2, 1) := by decide +kernel
theorem dX3_pieces_24 : decode cX3_pieces 24 = .ok (.aload_n 0, 1) := by decide +kernel
theorem dX3_pieces_25 : decode cX3_pieces 25 = .ok (.iload_n 2, 1) := by decide +kernel
theorem dX3_pieces_26 : decode cX3_pieces 26 = .ok (.iload_n 2, 1) := by decide +kernel
theorem dX3_pieces_27 : decode cX3_pieces 27 = .ok (.ineg, 1) := by decide +kernel
theorem dX3_pieces_28 : decode cX3_pieces 28 = .ok (.iand, 1) := by decide +kernel
theorem dX3_pieces_29 : decode cX3_pieces 29 = .ok (.iconst (-1), 1) := by decide +kernel
theorem dX3_pieces_30 : decode cX3_pieces 30 = .ok (.invokevirtual 78, 3) := by decide +kernel
theorem dX3_pieces_33 : decode cX3_pieces 33 = .ok (.iconst (-1), 1) := by decide +kernel
theorem dX3_pieces_34 : decode cX3_pieces 34 = .ok (.ixor, 1) := by decide +kernel
theorem dX3_pieces_35 : decode cX3_pieces 35 = .ok (.iand, 1) := by decide +kernel
theorem dX3_pieces_36 : decode cX3_pieces 36 = .ok (.istore_n 2, 1) := by decide +kernel
theorem dX3_pieces_37 : decode cX3_pieces 37 = .ok (.iinc 1 1, 3) := by decide +kernel
theorem dX3_pieces_40 : decode cX3_pieces 40 = .ok (.iinc 3 1, 3) := by decide +kernel
theorem dX3_pieces_43 : decode cX3_pieces 43 = .ok (.goto (-30), 3) := by decide +kernel
theorem dX3_pieces_46 : decode cX3_pieces 46 = .ok (.iload_n 1, 1) := by decide +kernel
theorem dX3_pieces_47 : decode cX3_pieces 47 = .ok (.ireturn, 1) := by decide +kernel
theorem dX3_allSums_0 : decode cX3_allSums 0 = .ok (.iconst 0, 1) := by decide +kernel
theorem dX3_allSums_1 : decode cX3_allSums 1 = .ok (.istore_n 1, 1) := by decide +kernel
theorem dX3_allSums_2 : decode cX3_allSums 2 = .ok (.iconst 0, 1) := by decide +kernel
theorem dX3_allSums_3 : decode cX3_allSums 3 = .ok (.istore_n 2, 1) := by decide +kernel
theorem dX3_allSums_4 : decode cX3_allSums 4 = .ok (.iload_n 2, 1) := by decide +kernel
theorem dX3_allSums_5 : decode cX3_allSums 5 = .ok (.aload_n 0, 1) := by decide +kernel
theorem dX3_allSums_6 : decode cX3_allSums 6 = .ok (.getfield 21, 3) := by decide +kernel
theorem dX3_allSums_9 : decode cX3_allSums 9 = .ok (.if_icmp .ge 26, 3) := by decide +kernel
theorem dX3_allSums_12 : decode cX3_allSums 12 = .ok (.aload_n 0, 1) := by decide +kernel
theorem dX3_allSums_13 : decode cX3_allSums 13 = .ok (.iload_n 2, 1) := by decide +kernel
theorem dX3_allSums_14 : decode cX3_allSums 14 = .ok (.invokevirtual 84, 3) := by decide +kernel
theorem dX3_allSums_17 : decode cX3_allSums 17 = .ok (.ifCond .eq 12, 3) := by decide +kernel
theorem dX3_allSums_20 : decode cX3_allSums 20 = .ok (.iload_n 1, 1) := by decide +kernel
theorem dX3_allSums_21 : decode cX3_allSums 21 = .ok (.aload_n 0, 1) := by decide +kernel
theorem dX3_allSums_22 : decode cX3_allSums 22 = .ok (.getfield 15, 3) := by decide +kernel
theorem dX3_allSums_25 : decode cX3_allSums 25 = .ok (.iload_n 2, 1) := by decide +kernel
theorem dX3_allSums_26 : decode cX3_allSums 26 = .ok (.iaload, 1) := by decide +kernel
theorem dX3_allSums_27 : decode cX3_allSums 27 = .ok (.iadd, 1) := by decide +kernel
theorem dX3_allSums_28 : decode cX3_allSums 28 = .ok (.istore_n 1, 1) := by decide +kernel
theorem dX3_allSums_29 : decode cX3_allSums 29 = .ok (.iinc 2 1, 3) := by decide +kernel
theorem dX3_allSums_32 : decode cX3_allSums 32 = .ok (.goto (-28), 3) := by decide +kernel
theorem dX3_allSums_35 : decode cX3_allSums 35 = .ok (.iload_n 1, 1) := by decide +kernel
theorem dX3_allSums_36 : decode cX3_allSums 36 = .ok (.ireturn, 1) := by decide +kernel
theorem dX3_thirdsAt_0 : decode cX3_thirdsAt 0 = .ok (.iconst 0, 1) := by decide +kernel
theorem dX3_thirdsAt_1 : decode cX3_thirdsAt 1 = .ok (.istore_n 2, 1) := by decide +kernel
theorem dX3_thirdsAt_2 : decode cX3_thirdsAt 2 = .ok (.iconst 0, 1) := by decide +kernel
theorem dX3_thirdsAt_3 : decode cX3_thirdsAt 3 = .ok (.istore_n 3, 1) := by decide +kernel
theorem dX3_thirdsAt_4 : decode cX3_thirdsAt 4 = .ok (.iload_n 3, 1) := by decide +kernel
theorem dX3_thirdsAt_5 : decode cX3_thirdsAt 5 = .ok (.aload_n 0, 1) := by decide +kernel
theorem dX3_thirdsAt_6 : decode cX3_thirdsAt 6 = .ok (.getfield 21, 3) := by decide +kernel
theorem dX3_thirdsAt_9 : decode cX3_thirdsAt 9 = .ok (.if_icmp .ge 18, 3) := by decide +kernel
theorem dX3_thirdsAt_12 : decode cX3_thirdsAt 12 = .ok (.iload_n 2, 1) := by decide +kernel
theorem dX3_thirdsAt_13 : decode cX3_thirdsAt 13 = .ok (.aload_n 0, 1) := by decide +kernel
theorem dX3_thirdsAt_14 : decode cX3_thirdsAt 14 = .ok (.iload_n 1, 1) := by decide +kernel
theorem dX3_thirdsAt_15 : decode cX3_thirdsAt 15 = .ok (.iload_n 3, 1) := by decide +kernel
theorem dX3_thirdsAt_16 : decode cX3_thirdsAt 16 = .ok (.invokevirtual 87, 3) := by decide +kernel
theorem dX3_thirdsAt_19 : decode cX3_thirdsAt 19 = .ok (.ior, 1) := by decide +kernel
theorem dX3_thirdsAt_20 : decode cX3_thirdsAt 20 = .ok (.istore_n 2, 1) := by decide +kernel
theorem dX3_thirdsAt_21 : decode cX3_thirdsAt 21 = .ok (.iinc 3 1, 3) := by decide +kernel
theorem dX3_thirdsAt_24 : decode cX3_thirdsAt 24 = .ok (.goto (-20), 3) := by decide +kernel
theorem dX3_thirdsAt_27 : decode cX3_thirdsAt 27 = .ok (.iload_n 2, 1) := by decide +kernel
theorem dX3_thirdsAt_28 : decode cX3_thirdsAt 28 = .ok (.ireturn, 1) := by decide +kernel
theorem dX3_hangingWith_0 : decode cX3_hangingWith 0 = .ok (.iload_n 1, 1) := by decide +kernel
theorem dX3_hangingWith_1 : decode cX3_hangingWith 1 = .ok (.istore_n 3, 1) := by decide +kernel
theorem dX3_hangingWith_2 : decode cX3_hangingWith 2 = .ok (.iconst 0, 1) := by decide +kernel
theorem dX3_hangingWith_3 : decode cX3_hangingWith 3 = .ok (.istore 4, 2) := by decide +kernel
theorem dX3_hangingWith_5 : decode cX3_hangingWith 5 = .ok (.iconst 0, 1) := by decide +kernel
theorem dX3_hangingWith_6 : decode cX3_hangingWith 6 = .ok (.istore 5, 2) := by decide +kernel
theorem dX3_hangingWith_8 : decode cX3_hangingWith 8 = .ok (.iload 5, 2) := by decide +kernel
theorem dX3_hangingWith_10 : decode cX3_hangingWith 10 = .ok (.bipush 12, 2) := by decide +kernel
theorem dX3_hangingWith_12 : decode cX3_hangingWith 12 = .ok (.if_icmp .gt 55, 3) := by decide +kernel
theorem dX3_hangingWith_15 : decode cX3_hangingWith 15 = .ok (.iload_n 3, 1) := by decide +kernel
theorem dX3_hangingWith_16 : decode cX3_hangingWith 16 = .ok (.iload 4, 2) := by decide +kernel
theorem dX3_hangingWith_18 : decode cX3_hangingWith 18 = .ok (.if_icmp .eq 49, 3) := by decide +kernel
theorem dX3_hangingWith_21 : decode cX3_hangingWith 21 = .ok (.iload_n 3, 1) := by decide +kernel
theorem dX3_hangingWith_22 : decode cX3_hangingWith 22 = .ok (.istore 4, 2) := by decide +kernel
theorem dX3_hangingWith_24 : decode cX3_hangingWith 24 = .ok (.iconst 0, 1) := by decide +kernel
theorem dX3_hangingWith_25 : decode cX3_hangingWith 25 = .ok (.istore 6, 2) := by decide +kernel
theorem dX3_hangingWith_27 : decode cX3_hangingWith 27 = .ok (.iload 6, 2) := by decide +kernel
theorem dX3_hangingWith_29 : decode cX3_hangingWith 29 = .ok (.aload_n 0, 1) := by decide +kernel
theorem dX3_hangingWith_30 : decode cX3_hangingWith 30 = .ok (.getfield 21, 3) := by decide +kernel
theorem dX3_hangingWith_33 : decode cX3_hangingWith 33 = .ok (.if_icmp .ge 28, 3) := by decide +kernel
theorem dX3_hangingWith_36 : decode cX3_hangingWith 36 = .ok (.iload_n 2, 1) := by decide +kernel
theorem dX3_hangingWith_37 : decode cX3_hangingWith 37 = .ok (.iconst (-1), 1) := by decide +kernel
theorem dX3_hangingWith_38 : decode cX3_hangingWith 38 = .ok (.if_icmp .eq 9, 3) := by decide +kernel
theorem dX3_hangingWith_41 : decode cX3_hangingWith 41 = .ok (.iload_n 2, 1) := by decide +kernel
theorem dX3_hangingWith_42 : decode cX3_hangingWith 42 = .ok (.iload 6, 2) := by decide +kernel
theorem dX3_hangingWith_44 : decode cX3_hangingWith 44 = .ok (.if_icmp .ne 11, 3) := by decide +kernel
theorem dX3_hangingWith_47 : decode cX3_hangingWith 47 = .ok (.aload_n 0, 1) := by decide +kernel
theorem dX3_hangingWith_48 : decode cX3_hangingWith 48 = .ok (.iload_n 3, 1) := by decide +kernel
theorem dX3_hangingWith_49 : decode cX3_hangingWith 49 = .ok (.iload 6, 2) := by decide +kernel
theorem dX3_hangingWith_51 : decode cX3_hangingWith 51 = .ok (.invokevirtual 90, 3) := by decide +kernel
theorem dX3_hangingWith_54 : decode cX3_hangingWith 54 = .ok (.istore_n 3, 1) := by decide +kernel
theorem dX3_hangingWith_55 : decode cX3_hangingWith 55 = .ok (.iinc 6 1, 3) := by decide +kernel
theorem dX3_hangingWith_58 : decode cX3_hangingWith 58 = .ok (.goto (-31), 3) := by decide +kernel
theorem dX3_hangingWith_61 : decode cX3_hangingWith 61 = .ok (.iinc 5 1, 3) := by decide +kernel
theorem dX3_hangingWith_64 : decode cX3_hangingWith 64 = .ok (.goto (-56), 3) := by decide +kernel
theorem dX3_hangingWith_67 : decode cX3_hangingWith 67 = .ok (.iload_n 3, 1) := by decide +kernel
theorem dX3_hangingWith_68 : decode cX3_hangingWith 68 = .ok (.ireturn, 1) := by decide +kernel
theorem dX3_widened_0 : decode cX3_widened 0 = .ok (.iload_n 1, 1) := by decide +kernel
theorem dX3_widened_1 : decode cX3_widened 1 = .ok (.istore_n 3, 1) := by decide +kernel
theorem dX3_widened_2 : decode cX3_widened 2 = .ok (.iconst 0, 1) := by decide +kernel
theorem dX3_widened_3 : decode cX3_widened 3 = .ok (.istore 4, 2) := by decide +kernel
theorem dX3_widened_5 : decode cX3_widened 5 = .ok (.iload 4, 2) := by decide +kernel
theorem dX3_widened_7 : decode cX3_widened 7 = .ok (.aload_n 0, 1) := by decide +kernel
theorem dX3_widened_8 : decode cX3_widened 8 = .ok (.getfield 21, 3) := by decide +kernel
theorem dX3_widened_11 : decode cX3_widened 11 = .ok (.if_icmp .ge 38, 3) := by decide +kernel
theorem dX3_widened_14 : decode cX3_widened 14 = .ok (.aload_n 0, 1) := by decide +kernel
theorem dX3_widened_15 : decode cX3_widened 15 = .ok (.iload_n 2, 1) := by decide +kernel
theorem dX3_widened_16 : decode cX3_widened 16 = .ok (.iload 4, 2) := by decide +kernel
theorem dX3_widened_18 : decode cX3_widened 18 = .ok (.invokevirtual 87, 3) := by decide +kernel
theorem dX3_widened_21 : decode cX3_widened 21 = .ok (.aload_n 0, 1) := by decide +kernel
theorem dX3_widened_22 : decode cX3_widened 22 = .ok (.iload 4, 2) := by decide +kernel
theorem dX3_widened_24 : decode cX3_widened 24 = .ok (.iload_n 2, 1) := by decide +kernel
theorem dX3_widened_25 : decode cX3_widened 25 = .ok (.invokevirtual 87, 3) := by decide +kernel
theorem dX3_widened_28 : decode cX3_widened 28 = .ok (.ior, 1) := by decide +kernel
theorem dX3_widened_29 : decode cX3_widened 29 = .ok (.istore 5, 2) := by decide +kernel
theorem dX3_widened_31 : decode cX3_widened 31 = .ok (.iload_n 3, 1) := by decide +kernel
theorem dX3_widened_32 : decode cX3_widened 32 = .ok (.iload 5, 2) := by decide +kernel
theorem dX3_widened_34 : decode cX3_widened 34 = .ok (.iand, 1) := by decide +kernel
theorem dX3_widened_35 : decode cX3_widened 35 = .ok (.ifCond .eq 8, 3) := by decide +kernel
theorem dX3_widened_38 : decode cX3_widened 38 = .ok (.iload_n 3, 1) := by decide +kernel
theorem dX3_widened_39 : decode cX3_widened 39 = .ok (.iload 5, 2) := by decide +kernel
theorem dX3_widened_41 : decode cX3_widened 41 = .ok (.ior, 1) := by decide +kernel
theorem dX3_widened_42 : decode cX3_widened 42 = .ok (.istore_n 3, 1) := by decide +kernel
theorem dX3_widened_43 : decode cX3_widened 43 = .ok (.iinc 4 1, 3) := by decide +kernel
theorem dX3_widened_46 : decode cX3_widened 46 = .ok (.goto (-41), 3) := by decide +kernel
theorem dX3_widened_49 : decode cX3_widened 49 = .ok (.iload_n 3, 1) := by decide +kernel
theorem dX3_widened_50 : decode cX3_widened 50 = .ok (.ireturn, 1) := by decide +kernel
theorem dX3_bitOf_0 : decode cX3_bitOf 0 = .ok (.aload_n 0, 1) := by decide +kernel
theorem dX3_bitOf_1 : decode cX3_bitOf 1 = .ok (.iload_n 1, 1) := by decide +kernel
theorem dX3_bitOf_2 : decode cX3_bitOf 2 = .ok (.iload_n 2, 1) := by decide +kernel
theorem dX3_bitOf_3 : decode cX3_bitOf 3 = .ok (.invokevirtual 58, 3) := by decide +kernel
theorem dX3_bitOf_6 : decode cX3_bitOf 6 = .ok (.ifCond .eq 14, 3) := by decide +kernel
theorem dX3_bitOf_9 : decode cX3_bitOf 9 = .ok (.iconst 1, 1) := by decide +kernel
theorem dX3_bitOf_10 : decode cX3_bitOf 10 = .ok (.aload_n 0, 1) := by decide +kernel
theorem dX3_bitOf_11 : decode cX3_bitOf 11 = .ok (.iload_n 1, 1) := by decide +kernel
theorem dX3_bitOf_12 : decode cX3_bitOf 12 = .ok (.iload_n 2, 1) := by decide +kernel
theorem dX3_bitOf_13 : decode cX3_bitOf 13 = .ok (.invokevirtual 55, 3) := by decide +kernel
theorem dX3_bitOf_16 : decode cX3_bitOf 16 = .ok (.ishl, 1) := by decide +kernel
theorem dX3_bitOf_17 : decode cX3_bitOf 17 = .ok (.goto 4, 3) := by decide +kernel
theorem dX3_bitOf_20 : decode cX3_bitOf 20 = .ok (.iconst 0, 1) := by decide +kernel
theorem dX3_bitOf_21 : decode cX3_bitOf 21 = .ok (.ireturn, 1) := by decide +kernel
theorem dX4_init_0 : decode cX4_init 0 = .ok (.aload_n 0, 1) := by decide +kernel
theorem dX4_init_1 : decode cX4_init 1 = .ok (.invokespecial 3, 3) := by decide +kernel
theorem dX4_init_4 : decode cX4_init 4 = .ok (.aload_n 0, 1) := by decide +kernel
theorem dX4_init_5 : decode cX4_init 5 = .ok (.new 9, 3) := by decide +kernel
theorem dX4_init_8 : decode cX4_init 8 = .ok (.dup, 1) := by decide +kernel
theorem dX4_init_9 : decode cX4_init 9 = .ok (.invokespecial 11, 3) := by decide +kernel
theorem dX4_init_12 : decode cX4_init 12 = .ok (.putfield 12, 3) := by decide +kernel
theorem dX4_init_15 : decode cX4_init 15 = .ok (.aload_n 0, 1) := by decide +kernel
theorem dX4_init_16 : decode cX4_init 16 = .ok (.new 16, 3) := by decide +kernel
theorem dX4_init_19 : decode cX4_init 19 = .ok (.dup, 1) := by decide +kernel
theorem dX4_init_20 : decode cX4_init 20 = .ok (.invokespecial 18, 3) := by decide +kernel
theorem dX4_init_23 : decode cX4_init 23 = .ok (.putfield 19, 3) := by decide +kernel
theorem dX4_init_26 : decode cX4_init 26 = .ok (.aload_n 0, 1) := by decide +kernel
theorem dX4_init_27 : decode cX4_init 27 = .ok (.new 23, 3) := by decide +kernel
theorem dX4_init_30 : decode cX4_init 30 = .ok (.dup, 1) := by decide +kernel
theorem dX4_init_31 : decode cX4_init 31 = .ok (.aload_n 0, 1) := by decide +kernel
