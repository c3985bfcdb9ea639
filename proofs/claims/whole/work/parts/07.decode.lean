theorem dX5_sumOfRow_58 : decode cX5_sumOfRow 58 = .ok (.iload_n 2, 1) := by decide +kernel
theorem dX5_sumOfRow_59 : decode cX5_sumOfRow 59 = .ok (.ireturn, 1) := by decide +kernel
theorem dX5_about_0 : decode cX5_about 0 = .ok (.aload_n 0, 1) := by decide +kernel
theorem dX5_about_1 : decode cX5_about 1 = .ok (.iload_n 1, 1) := by decide +kernel
theorem dX5_about_2 : decode cX5_about 2 = .ok (.invokevirtual 70, 3) := by decide +kernel
theorem dX5_about_5 : decode cX5_about 5 = .ok (.ifCond .ne 5, 3) := by decide +kernel
theorem dX5_about_8 : decode cX5_about 8 = .ok (.iconst (-1), 1) := by decide +kernel
theorem dX5_about_9 : decode cX5_about 9 = .ok (.ireturn, 1) := by decide +kernel
theorem dX5_about_10 : decode cX5_about 10 = .ok (.iload_n 2, 1) := by decide +kernel
theorem dX5_about_11 : decode cX5_about 11 = .ok (.tableswitch 103 0 5 #[37, 43, 51, 75, 90, 97], 37) := by decide +kernel
theorem dX5_about_48 : decode cX5_about 48 = .ok (.aload_n 0, 1) := by decide +kernel
theorem dX5_about_49 : decode cX5_about 49 = .ok (.iload_n 1, 1) := by decide +kernel
theorem dX5_about_50 : decode cX5_about 50 = .ok (.invokevirtual 113, 3) := by decide +kernel
theorem dX5_about_53 : decode cX5_about 53 = .ok (.ireturn, 1) := by decide +kernel
theorem dX5_about_54 : decode cX5_about 54 = .ok (.aload_n 0, 1) := by decide +kernel
theorem dX5_about_55 : decode cX5_about 55 = .ok (.iload_n 1, 1) := by decide +kernel
theorem dX5_about_56 : decode cX5_about 56 = .ok (.iconst 1, 1) := by decide +kernel
theorem dX5_about_57 : decode cX5_about 57 = .ok (.iconst 2, 1) := by decide +kernel
theorem dX5_about_58 : decode cX5_about 58 = .ok (.invokevirtual 117, 3) := by decide +kernel
theorem dX5_about_61 : decode cX5_about 61 = .ok (.ireturn, 1) := by decide +kernel
theorem dX5_about_62 : decode cX5_about 62 = .ok (.aload_n 0, 1) := by decide +kernel
theorem dX5_about_63 : decode cX5_about 63 = .ok (.iload_n 1, 1) := by decide +kernel
theorem dX5_about_64 : decode cX5_about 64 = .ok (.invokevirtual 113, 3) := by decide +kernel
theorem dX5_about_67 : decode cX5_about 67 = .ok (.ifCond .le 17, 3) := by decide +kernel
theorem dX5_about_70 : decode cX5_about 70 = .ok (.aload_n 0, 1) := by decide +kernel
theorem dX5_about_71 : decode cX5_about 71 = .ok (.iload_n 1, 1) := by decide +kernel
theorem dX5_about_72 : decode cX5_about 72 = .ok (.iconst 1, 1) := by decide +kernel
theorem dX5_about_73 : decode cX5_about 73 = .ok (.iconst 1, 1) := by decide +kernel
theorem dX5_about_74 : decode cX5_about 74 = .ok (.invokevirtual 117, 3) := by decide +kernel
theorem dX5_about_77 : decode cX5_about 77 = .ok (.ifCond .ne 7, 3) := by decide +kernel
theorem dX5_about_80 : decode cX5_about 80 = .ok (.iconst 1, 1) := by decide +kernel
theorem dX5_about_81 : decode cX5_about 81 = .ok (.goto 4, 3) := by decide +kernel
theorem dX5_about_84 : decode cX5_about 84 = .ok (.iconst 0, 1) := by decide +kernel
theorem dX5_about_85 : decode cX5_about 85 = .ok (.ireturn, 1) := by decide +kernel
theorem dX5_about_86 : decode cX5_about 86 = .ok (.aload_n 0, 1) := by decide +kernel
theorem dX5_about_87 : decode cX5_about 87 = .ok (.iload_n 1, 1) := by decide +kernel
theorem dX5_about_88 : decode cX5_about 88 = .ok (.invokevirtual 120, 3) := by decide +kernel
theorem dX5_about_91 : decode cX5_about 91 = .ok (.iconst 1, 1) := by decide +kernel
theorem dX5_about_92 : decode cX5_about 92 = .ok (.if_icmp .ne 7, 3) := by decide +kernel
theorem dX5_about_95 : decode cX5_about 95 = .ok (.iconst 1, 1) := by decide +kernel
theorem dX5_about_96 : decode cX5_about 96 = .ok (.goto 4, 3) := by decide +kernel
theorem dX5_about_99 : decode cX5_about 99 = .ok (.iconst 0, 1) := by decide +kernel
theorem dX5_about_100 : decode cX5_about 100 = .ok (.ireturn, 1) := by decide +kernel
theorem dX5_about_101 : decode cX5_about 101 = .ok (.aload_n 0, 1) := by decide +kernel
theorem dX5_about_102 : decode cX5_about 102 = .ok (.getfield 23, 3) := by decide +kernel
theorem dX5_about_105 : decode cX5_about 105 = .ok (.iload_n 1, 1) := by decide +kernel
theorem dX5_about_106 : decode cX5_about 106 = .ok (.iaload, 1) := by decide +kernel
theorem dX5_about_107 : decode cX5_about 107 = .ok (.ireturn, 1) := by decide +kernel
theorem dX5_about_108 : decode cX5_about 108 = .ok (.aload_n 0, 1) := by decide +kernel
theorem dX5_about_109 : decode cX5_about 109 = .ok (.iload_n 1, 1) := by decide +kernel
theorem dX5_about_110 : decode cX5_about 110 = .ok (.invokevirtual 123, 3) := by decide +kernel
theorem dX5_about_113 : decode cX5_about 113 = .ok (.ireturn, 1) := by decide +kernel
theorem dX5_about_114 : decode cX5_about 114 = .ok (.bipush (-2), 2) := by decide +kernel
theorem dX5_about_116 : decode cX5_about 116 = .ok (.ireturn, 1) := by decide +kernel
theorem dX5_sides_0 : decode cX5_sides 0 = .ok (.iconst 0, 1) := by decide +kernel
theorem dX5_sides_1 : decode cX5_sides 1 = .ok (.istore_n 2, 1) := by decide +kernel
theorem dX5_sides_2 : decode cX5_sides 2 = .ok (.iconst 0, 1) := by decide +kernel
theorem dX5_sides_3 : decode cX5_sides 3 = .ok (.istore_n 3, 1) := by decide +kernel
theorem dX5_sides_4 : decode cX5_sides 4 = .ok (.iload_n 3, 1) := by decide +kernel
theorem dX5_sides_5 : decode cX5_sides 5 = .ok (.aload_n 0, 1) := by decide +kernel
theorem dX5_sides_6 : decode cX5_sides 6 = .ok (.getfield 7, 3) := by decide +kernel
theorem dX5_sides_9 : decode cX5_sides 9 = .ok (.if_icmp .ge 43, 3) := by decide +kernel
theorem dX5_sides_12 : decode cX5_sides 12 = .ok (.iconst 0, 1) := by decide +kernel
theorem dX5_sides_13 : decode cX5_sides 13 = .ok (.istore 4, 2) := by decide +kernel
theorem dX5_sides_15 : decode cX5_sides 15 = .ok (.iload 4, 2) := by decide +kernel
theorem dX5_sides_17 : decode cX5_sides 17 = .ok (.iload_n 3, 1) := by decide +kernel
theorem dX5_sides_18 : decode cX5_sides 18 = .ok (.if_icmp .ge 28, 3) := by decide +kernel
theorem dX5_sides_21 : decode cX5_sides 21 = .ok (.iload_n 2, 1) := by decide +kernel
theorem dX5_sides_22 : decode cX5_sides 22 = .ok (.aload_n 0, 1) := by decide +kernel
theorem dX5_sides_23 : decode cX5_sides 23 = .ok (.iload_n 3, 1) := by decide +kernel
theorem dX5_sides_24 : decode cX5_sides 24 = .ok (.iload 4, 2) := by decide +kernel
theorem dX5_sides_26 : decode cX5_sides 26 = .ok (.invokevirtual 93, 3) := by decide +kernel
theorem dX5_sides_29 : decode cX5_sides 29 = .ok (.iload_n 1, 1) := by decide +kernel
theorem dX5_sides_30 : decode cX5_sides 30 = .ok (.if_icmp .lt 7, 3) := by decide +kernel
theorem dX5_sides_33 : decode cX5_sides 33 = .ok (.iconst 1, 1) := by decide +kernel
theorem dX5_sides_34 : decode cX5_sides 34 = .ok (.goto 4, 3) := by decide +kernel
theorem dX5_sides_37 : decode cX5_sides 37 = .ok (.iconst 0, 1) := by decide +kernel
theorem dX5_sides_38 : decode cX5_sides 38 = .ok (.iadd, 1) := by decide +kernel
theorem dX5_sides_39 : decode cX5_sides 39 = .ok (.istore_n 2, 1) := by decide +kernel
theorem dX5_sides_40 : decode cX5_sides 40 = .ok (.iinc 4 1, 3) := by decide +kernel
theorem dX5_sides_43 : decode cX5_sides 43 = .ok (.goto (-28), 3) := by decide +kernel
theorem dX5_sides_46 : decode cX5_sides 46 = .ok (.iinc 3 1, 3) := by decide +kernel
theorem dX5_sides_49 : decode cX5_sides 49 = .ok (.goto (-45), 3) := by decide +kernel
theorem dX5_sides_52 : decode cX5_sides 52 = .ok (.iload_n 2, 1) := by decide +kernel
theorem dX5_sides_53 : decode cX5_sides 53 = .ok (.ireturn, 1) := by decide +kernel
theorem dX5_told_0 : decode cX5_told 0 = .ok (.iconst 0, 1) := by decide +kernel
theorem dX5_told_1 : decode cX5_told 1 = .ok (.istore_n 2, 1) := by decide +kernel
theorem dX5_told_2 : decode cX5_told 2 = .ok (.iconst 0, 1) := by decide +kernel
theorem dX5_told_3 : decode cX5_told 3 = .ok (.istore_n 3, 1) := by decide +kernel
theorem dX5_told_4 : decode cX5_told 4 = .ok (.iconst 0, 1) := by decide +kernel
theorem dX5_told_5 : decode cX5_told 5 = .ok (.istore 4, 2) := by decide +kernel
theorem dX5_told_7 : decode cX5_told 7 = .ok (.iload 4, 2) := by decide +kernel
theorem dX5_told_9 : decode cX5_told 9 = .ok (.aload_n 0, 1) := by decide +kernel
theorem dX5_told_10 : decode cX5_told 10 = .ok (.getfield 7, 3) := by decide +kernel
theorem dX5_told_13 : decode cX5_told 13 = .ok (.if_icmp .ge 52, 3) := by decide +kernel
theorem dX5_told_16 : decode cX5_told 16 = .ok (.iload_n 2, 1) := by decide +kernel
theorem dX5_told_17 : decode cX5_told 17 = .ok (.aload_n 0, 1) := by decide +kernel
theorem dX5_told_18 : decode cX5_told 18 = .ok (.iload 4, 2) := by decide +kernel
theorem dX5_told_20 : decode cX5_told 20 = .ok (.invokevirtual 113, 3) := by decide +kernel
theorem dX5_told_23 : decode cX5_told 23 = .ok (.ifCond .le 7, 3) := by decide +kernel
theorem dX5_told_26 : decode cX5_told 26 = .ok (.iconst 1, 1) := by decide +kernel
theorem dX5_told_27 : decode cX5_told 27 = .ok (.goto 4, 3) := by decide +kernel
theorem dX5_told_30 : decode cX5_told 30 = .ok (.iconst 0, 1) := by decide +kernel
theorem dX5_told_31 : decode cX5_told 31 = .ok (.iadd, 1) := by decide +kernel
theorem dX5_told_32 : decode cX5_told 32 = .ok (.istore_n 2, 1) := by decide +kernel
theorem dX5_told_33 : decode cX5_told 33 = .ok (.iload_n 3, 1) := by decide +kernel
theorem dX5_told_34 : decode cX5_told 34 = .ok (.aload_n 0, 1) := by decide +kernel
theorem dX5_told_35 : decode cX5_told 35 = .ok (.getfield 23, 3) := by decide +kernel
theorem dX5_told_38 : decode cX5_told 38 = .ok (.iload 4, 2) := by decide +kernel
theorem dX5_told_40 : decode cX5_told 40 = .ok (.iaload, 1) := by decide +kernel
theorem dX5_told_41 : decode cX5_told 41 = .ok (.bipush (-6), 2) := by decide +kernel
theorem dX5_told_43 : decode cX5_told 43 = .ok (.if_icmp .ne 7, 3) := by decide +kernel
theorem dX5_told_46 : decode cX5_told 46 = .ok (.iconst 0, 1) := by decide +kernel
theorem dX5_told_47 : decode cX5_told 47 = .ok (.goto 10, 3) := by decide +kernel
theorem dX5_told_50 : decode cX5_told 50 = .ok (.aload_n 0, 1) := by decide +kernel
theorem dX5_told_51 : decode cX5_told 51 = .ok (.getfield 23, 3) := by decide +kernel
theorem dX5_told_54 : decode cX5_told 54 = .ok (.iload 4, 2) := by decide +kernel
theorem dX5_told_56 : decode cX5_told 56 = .ok (.iaload, 1) := by decide +kernel
theorem dX5_told_57 : decode cX5_told 57 = .ok (.iadd, 1) := by decide +kernel
theorem dX5_told_58 : decode cX5_told 58 = .ok (.istore_n 3, 1) := by decide +kernel
theorem dX5_told_59 : decode cX5_told 59 = .ok (.iinc 4 1, 3) := by decide +kernel
theorem dX5_told_62 : decode cX5_told 62 = .ok (.goto (-55), 3) := by decide +kernel
theorem dX5_told_65 : decode cX5_told 65 = .ok (.iload_n 1, 1) := by decide +kernel
theorem dX5_told_66 : decode cX5_told 66 = .ok (.tableswitch 109 0 8 #[50, 55, 60, 66, 78, 91, 97, 102, 107], 50) := by decide +kernel
theorem dX5_told_116 : decode cX5_told 116 = .ok (.aload_n 0, 1) := by decide +kernel
theorem dX5_told_117 : decode cX5_told 117 = .ok (.getfield 7, 3) := by decide +kernel
theorem dX5_told_120 : decode cX5_told 120 = .ok (.ireturn, 1) := by decide +kernel
theorem dX5_told_121 : decode cX5_told 121 = .ok (.aload_n 0, 1) := by decide +kernel
theorem dX5_told_122 : decode cX5_told 122 = .ok (.getfield 53, 3) := by decide +kernel
theorem dX5_told_125 : decode cX5_told 125 = .ok (.ireturn, 1) := by decide +kernel
theorem dX5_told_126 : decode cX5_told 126 = .ok (.aload_n 0, 1) := by decide +kernel
theorem dX5_told_127 : decode cX5_told 127 = .ok (.iconst 1, 1) := by decide +kernel
theorem dX5_told_128 : decode cX5_told 128 = .ok (.invokevirtual 126, 3) := by decide +kernel
theorem dX5_told_131 : decode cX5_told 131 = .ok (.ireturn, 1) := by decide +kernel
theorem dX5_told_132 : decode cX5_told 132 = .ok (.aload_n 0, 1) := by decide +kernel
theorem dX5_told_133 : decode cX5_told 133 = .ok (.iconst 1, 1) := by decide +kernel
theorem dX5_told_134 : decode cX5_told 134 = .ok (.invokevirtual 126, 3) := by decide +kernel
theorem dX5_told_137 : decode cX5_told 137 = .ok (.aload_n 0, 1) := by decide +kernel
theorem dX5_told_138 : decode cX5_told 138 = .ok (.iconst 2, 1) := by decide +kernel
theorem dX5_told_139 : decode cX5_told 139 = .ok (.invokevirtual 126, 3) := by decide +kernel
theorem dX5_told_142 : decode cX5_told 142 = .ok (.isub, 1) := by decide +kernel
theorem dX5_told_143 : decode cX5_told 143 = .ok (.ireturn, 1) := by decide +kernel
theorem dX5_told_144 : decode cX5_told 144 = .ok (.iload_n 2, 1) := by decide +kernel
theorem dX5_told_145 : decode cX5_told 145 = .ok (.aload_n 0, 1) := by decide +kernel
theorem dX5_told_146 : decode cX5_told 146 = .ok (.iconst 1, 1) := by decide +kernel
theorem dX5_told_147 : decode cX5_told 147 = .ok (.invokevirtual 126, 3) := by decide +kernel
theorem dX5_told_150 : decode cX5_told 150 = .ok (.isub, 1) := by decide +kernel
theorem dX5_told_151 : decode cX5_told 151 = .ok (.aload_n 0, 1) := by decide +kernel
theorem dX5_told_152 : decode cX5_told 152 = .ok (.getfield 53, 3) := by decide +kernel
theorem dX5_told_155 : decode cX5_told 155 = .ok (.iadd, 1) := by decide +kernel
theorem dX5_told_156 : decode cX5_told 156 = .ok (.ireturn, 1) := by decide +kernel
theorem dX5_told_157 : decode cX5_told 157 = .ok (.aload_n 0, 1) := by decide +kernel
theorem dX5_told_158 : decode cX5_told 158 = .ok (.iconst (-1), 1) := by decide +kernel
theorem dX5_told_159 : decode cX5_told 159 = .ok (.invokevirtual 120, 3) := by decide +kernel
theorem dX5_told_162 : decode cX5_told 162 = .ok (.ireturn, 1) := by decide +kernel
theorem dX5_told_163 : decode cX5_told 163 = .ok (.aload_n 0, 1) := by decide +kernel
theorem dX5_told_164 : decode cX5_told 164 = .ok (.getfield 17, 3) := by decide +kernel
theorem dX5_told_167 : decode cX5_told 167 = .ok (.ireturn, 1) := by decide +kernel
theorem dX5_told_168 : decode cX5_told 168 = .ok (.aload_n 0, 1) := by decide +kernel
theorem dX5_told_169 : decode cX5_told 169 = .ok (.getfield 20, 3) := by decide +kernel
theorem dX5_told_172 : decode cX5_told 172 = .ok (.ireturn, 1) := by decide +kernel
theorem dX5_told_173 : decode cX5_told 173 = .ok (.iload_n 3, 1) := by decide +kernel
theorem dX5_told_174 : decode cX5_told 174 = .ok (.ireturn, 1) := by decide +kernel
theorem dX5_told_175 : decode cX5_told 175 = .ok (.sipush (-1002), 3) := by decide +kernel
theorem dX5_told_178 : decode cX5_told 178 = .ok (.ireturn, 1) := by decide +kernel
theorem dX5_straight_0 : decode cX5_straight 0 = .ok (.iload_n 1, 1) := by decide +kernel
theorem dX5_straight_1 : decode cX5_straight 1 = .ok (.bipush 6, 2) := by decide +kernel
theorem dX5_straight_3 : decode cX5_straight 3 = .ok (.sipush 360, 3) := by decide +kernel
theorem dX5_straight_6 : decode cX5_straight 6 = .ok (.invokestatic 66, 3) := by decide +kernel
theorem dX5_straight_9 : decode cX5_straight 9 = .ok (.ifCond .eq 13, 3) := by decide +kernel
theorem dX5_straight_12 : decode cX5_straight 12 = .ok (.iconst 3, 1) := by decide +kernel
theorem dX5_straight_13 : decode cX5_straight 13 = .ok (.aload_n 0, 1) := by decide +kernel
theorem dX5_straight_14 : decode cX5_straight 14 = .ok (.getfield 20, 3) := by decide +kernel
theorem dX5_straight_17 : decode cX5_straight 17 = .ok (.imul, 1) := by decide +kernel
theorem dX5_straight_18 : decode cX5_straight 18 = .ok (.iload_n 1, 1) := by decide +kernel
theorem dX5_straight_19 : decode cX5_straight 19 = .ok (.if_icmp .le 6, 3) := by decide +kernel
theorem dX5_straight_22 : decode cX5_straight 22 = .ok (.bipush (-2), 2) := by decide +kernel
theorem dX5_straight_24 : decode cX5_straight 24 = .ok (.ireturn, 1) := by decide +kernel
theorem dX5_straight_25 : decode cX5_straight 25 = .ok (.aload_n 0, 1) := by decide +kernel
theorem dX5_straight_26 : decode cX5_straight 26 = .ok (.getfield 17, 3) := by decide +kernel
theorem dX5_straight_29 : decode cX5_straight 29 = .ok (.istore_n 2, 1) := by decide +kernel
theorem dX5_straight_30 : decode cX5_straight 30 = .ok (.aload_n 0, 1) := by decide +kernel
theorem dX5_straight_31 : decode cX5_straight 31 = .ok (.iload_n 1, 1) := by decide +kernel
theorem dX5_straight_32 : decode cX5_straight 32 = .ok (.putfield 17, 3) := by decide +kernel
theorem dX5_straight_35 : decode cX5_straight 35 = .ok (.aload_n 0, 1) := by decide +kernel
theorem dX5_straight_36 : decode cX5_straight 36 = .ok (.iconst 0, 1) := by decide +kernel
theorem dX5_straight_37 : decode cX5_straight 37 = .ok (.putfield 62, 3) := by decide +kernel
theorem dX5_straight_40 : decode cX5_straight 40 = .ok (.iload_n 2, 1) := by decide +kernel
theorem dX5_straight_41 : decode cX5_straight 41 = .ok (.ireturn, 1) := by decide +kernel
theorem dX5_least_0 : decode cX5_least 0 = .ok (.iload_n 1, 1) := by decide +kernel
theorem dX5_least_1 : decode cX5_least 1 = .ok (.iconst 1, 1) := by decide +kernel
theorem dX5_least_2 : decode cX5_least 2 = .ok (.bipush 60, 2) := by decide +kernel
theorem dX5_least_4 : decode cX5_least 4 = .ok (.invokestatic 66, 3) := by decide +kernel
theorem dX5_least_7 : decode cX5_least 7 = .ok (.ifCond .eq 13, 3) := by decide +kernel
theorem dX5_least_10 : decode cX5_least 10 = .ok (.iconst 3, 1) := by decide +kernel
theorem dX5_least_11 : decode cX5_least 11 = .ok (.iload_n 1, 1) := by decide +kernel
theorem dX5_least_12 : decode cX5_least 12 = .ok (.imul, 1) := by decide +kernel
theorem dX5_least_13 : decode cX5_least 13 = .ok (.aload_n 0, 1) := by decide +kernel
theorem dX5_least_14 : decode cX5_least 14 = .ok (.getfield 17, 3) := by decide +kernel
theorem dX5_least_17 : decode cX5_least 17 = .ok (.if_icmp .le 6, 3) := by decide +kernel
theorem dX5_least_20 : decode cX5_least 20 = .ok (.bipush (-2), 2) := by decide +kernel
theorem dX5_least_22 : decode cX5_least 22 = .ok (.ireturn, 1) := by decide +kernel
theorem dX5_least_23 : decode cX5_least 23 = .ok (.aload_n 0, 1) := by decide +kernel
theorem dX5_least_24 : decode cX5_least 24 = .ok (.getfield 20, 3) := by decide +kernel
theorem dX5_least_27 : decode cX5_least 27 = .ok (.istore_n 2, 1) := by decide +kernel
theorem dX5_least_28 : decode cX5_least 28 = .ok (.aload_n 0, 1) := by decide +kernel
theorem dX5_least_29 : decode cX5_least 29 = .ok (.iload_n 1, 1) := by decide +kernel
theorem dX5_least_30 : decode cX5_least 30 = .ok (.putfield 20, 3) := by decide +kernel
theorem dX5_least_33 : decode cX5_least 33 = .ok (.aload_n 0, 1) := by decide +kernel
theorem dX5_least_34 : decode cX5_least 34 = .ok (.iconst 0, 1) := by decide +kernel
theorem dX5_least_35 : decode cX5_least 35 = .ok (.putfield 62, 3) := by decide +kernel
theorem dX5_least_38 : decode cX5_least 38 = .ok (.iload_n 2, 1) := by decide +kernel
theorem dX5_least_39 : decode cX5_least 39 = .ok (.ireturn, 1) := by decide +kernel
theorem dX5_clearWays_0 : decode cX5_clearWays 0 = .ok (.aload_n 0, 1) := by decide +kernel
theorem dX5_clearWays_1 : decode cX5_clearWays 1 = .ok (.iconst 0, 1) := by decide +kernel
theorem dX5_clearWays_2 : decode cX5_clearWays 2 = .ok (.putfield 129, 3) := by decide +kernel
theorem dX5_clearWays_5 : decode cX5_clearWays 5 = .ok (.iconst 0, 1) := by decide +kernel
theorem dX5_clearWays_6 : decode cX5_clearWays 6 = .ok (.istore_n 1, 1) := by decide +kernel
theorem dX5_clearWays_7 : decode cX5_clearWays 7 = .ok (.iload_n 1, 1) := by decide +kernel
theorem dX5_clearWays_8 : decode cX5_clearWays 8 = .ok (.bipush 21, 2) := by decide +kernel
theorem dX5_clearWays_10 : decode cX5_clearWays 10 = .ok (.if_icmp .ge 17, 3) := by decide +kernel
theorem dX5_clearWays_13 : decode cX5_clearWays 13 = .ok (.aload_n 0, 1) := by decide +kernel
theorem dX5_clearWays_14 : decode cX5_clearWays 14 = .ok (.getfield 41, 3) := by decide +kernel
theorem dX5_clearWays_17 : decode cX5_clearWays 17 = .ok (.iload_n 1, 1) := by decide +kernel
theorem dX5_clearWays_18 : decode cX5_clearWays 18 = .ok (.bipush (-2), 2) := by decide +kernel
theorem dX5_clearWays_20 : decode cX5_clearWays 20 = .ok (.iastore, 1) := by decide +kernel
theorem dX5_clearWays_21 : decode cX5_clearWays 21 = .ok (.iinc 1 1, 3) := by decide +kernel
theorem dX5_clearWays_24 : decode cX5_clearWays 24 = .ok (.goto (-17), 3) := by decide +kernel
theorem dX5_clearWays_27 : decode cX5_clearWays 27 = .ok (.return_, 1) := by decide +kernel
theorem dX5_come_0 : decode cX5_come 0 = .ok (.aload_n 0, 1) := by decide +kernel
theorem dX5_come_1 : decode cX5_come 1 = .ok (.getfield 41, 3) := by decide +kernel
theorem dX5_come_4 : decode cX5_come 4 = .ok (.iload_n 1, 1) := by decide +kernel
theorem dX5_come_5 : decode cX5_come 5 = .ok (.iaload, 1) := by decide +kernel
theorem dX5_come_6 : decode cX5_come 6 = .ok (.bipush (-2), 2) := by decide +kernel
theorem dX5_come_8 : decode cX5_come 8 = .ok (.if_icmp .ne 37, 3) := by decide +kernel
theorem dX5_come_11 : decode cX5_come 11 = .ok (.aload_n 0, 1) := by decide +kernel
theorem dX5_come_12 : decode cX5_come 12 = .ok (.getfield 41, 3) := by decide +kernel
theorem dX5_come_15 : decode cX5_come 15 = .ok (.iload_n 1, 1) := by decide +kernel
theorem dX5_come_16 : decode cX5_come 16 = .ok (.iload_n 2, 1) := by decide +kernel
theorem dX5_come_17 : decode cX5_come 17 = .ok (.iastore, 1) := by decide +kernel
theorem dX5_come_18 : decode cX5_come 18 = .ok (.aload_n 0, 1) := by decide +kernel
theorem dX5_come_19 : decode cX5_come 19 = .ok (.getfield 44, 3) := by decide +kernel
theorem dX5_come_22 : decode cX5_come 22 = .ok (.iload_n 1, 1) := by decide +kernel
theorem dX5_come_23 : decode cX5_come 23 = .ok (.iload_n 3, 1) := by decide +kernel
theorem dX5_come_24 : decode cX5_come 24 = .ok (.iastore, 1) := by decide +kernel
theorem dX5_come_25 : decode cX5_come 25 = .ok (.aload_n 0, 1) := by decide +kernel
theorem dX5_come_26 : decode cX5_come 26 = .ok (.getfield 47, 3) := by decide +kernel
theorem dX5_come_29 : decode cX5_come 29 = .ok (.aload_n 0, 1) := by decide +kernel
theorem dX5_come_30 : decode cX5_come 30 = .ok (.getfield 129, 3) := by decide +kernel
theorem dX5_come_33 : decode cX5_come 33 = .ok (.iload_n 1, 1) := by decide +kernel
theorem dX5_come_34 : decode cX5_come 34 = .ok (.iastore, 1) := by decide +kernel
theorem dX5_come_35 : decode cX5_come 35 = .ok (.aload_n 0, 1) := by decide +kernel
theorem dX5_come_36 : decode cX5_come 36 = .ok (.dup, 1) := by decide +kernel
theorem dX5_come_37 : decode cX5_come 37 = .ok (.getfield 129, 3) := by decide +kernel
theorem dX5_come_40 : decode cX5_come 40 = .ok (.iconst 1, 1) := by decide +kernel
theorem dX5_come_41 : decode cX5_come 41 = .ok (.iadd, 1) := by decide +kernel
theorem dX5_come_42 : decode cX5_come 42 = .ok (.putfield 129, 3) := by decide +kernel
theorem dX5_come_45 : decode cX5_come 45 = .ok (.return_, 1) := by decide +kernel
theorem dX5_spread_0 : decode cX5_spread 0 = .ok (.iconst 0, 1) := by decide +kernel
theorem dX5_spread_1 : decode cX5_spread 1 = .ok (.istore_n 3, 1) := by decide +kernel
theorem dX5_spread_2 : decode cX5_spread 2 = .ok (.iload_n 3, 1) := by decide +kernel
theorem dX5_spread_3 : decode cX5_spread 3 = .ok (.aload_n 0, 1) := by decide +kernel
theorem dX5_spread_4 : decode cX5_spread 4 = .ok (.getfield 129, 3) := by decide +kernel
theorem dX5_spread_7 : decode cX5_spread 7 = .ok (.if_icmp .ge 183, 3) := by decide +kernel
theorem dX5_spread_10 : decode cX5_spread 10 = .ok (.aload_n 0, 1) := by decide +kernel
theorem dX5_spread_11 : decode cX5_spread 11 = .ok (.getfield 47, 3) := by decide +kernel
theorem dX5_spread_14 : decode cX5_spread 14 = .ok (.iload_n 3, 1) := by decide +kernel
theorem dX5_spread_15 : decode cX5_spread 15 = .ok (.iaload, 1) := by decide +kernel
theorem dX5_spread_16 : decode cX5_spread 16 = .ok (.istore 4, 2) := by decide +kernel
theorem dX5_spread_18 : decode cX5_spread 18 = .ok (.iload_n 1, 1) := by decide +kernel
theorem dX5_spread_19 : decode cX5_spread 19 = .ok (.istore 5, 2) := by decide +kernel
theorem dX5_spread_21 : decode cX5_spread 21 = .ok (.iload 5, 2) := by decide +kernel
theorem dX5_spread_23 : decode cX5_spread 23 = .ok (.iconst 3, 1) := by decide +kernel
theorem dX5_spread_24 : decode cX5_spread 24 = .ok (.aload_n 0, 1) := by decide +kernel
theorem dX5_spread_25 : decode cX5_spread 25 = .ok (.getfield 53, 3) := by decide +kernel
theorem dX5_spread_28 : decode cX5_spread 28 = .ok (.imul, 1) := by decide +kernel
theorem dX5_spread_29 : decode cX5_spread 29 = .ok (.if_icmp .ge 87, 3) := by decide +kernel
theorem dX5_spread_32 : decode cX5_spread 32 = .ok (.iload 4, 2) := by decide +kernel
theorem dX5_spread_34 : decode cX5_spread 34 = .ok (.bipush 12, 2) := by decide +kernel
theorem dX5_spread_36 : decode cX5_spread 36 = .ok (.if_icmp .ge 30, 3) := by decide +kernel
theorem dX5_spread_39 : decode cX5_spread 39 = .ok (.iload 5, 2) := by decide +kernel
theorem dX5_spread_41 : decode cX5_spread 41 = .ok (.iconst 3, 1) := by decide +kernel
theorem dX5_spread_42 : decode cX5_spread 42 = .ok (.idiv, 1) := by decide +kernel
theorem dX5_spread_43 : decode cX5_spread 43 = .ok (.iload 4, 2) := by decide +kernel
theorem dX5_spread_45 : decode cX5_spread 45 = .ok (.if_icmp .ne 21, 3) := by decide +kernel
theorem dX5_spread_48 : decode cX5_spread 48 = .ok (.aload_n 0, 1) := by decide +kernel
theorem dX5_spread_49 : decode cX5_spread 49 = .ok (.bipush 12, 2) := by decide +kernel
theorem dX5_spread_51 : decode cX5_spread 51 = .ok (.aload_n 0, 1) := by decide +kernel
theorem dX5_spread_52 : decode cX5_spread 52 = .ok (.getfield 13, 3) := by decide +kernel
theorem dX5_spread_55 : decode cX5_spread 55 = .ok (.iload 5, 2) := by decide +kernel
theorem dX5_spread_57 : decode cX5_spread 57 = .ok (.iaload, 1) := by decide +kernel
theorem dX5_spread_58 : decode cX5_spread 58 = .ok (.iadd, 1) := by decide +kernel
theorem dX5_spread_59 : decode cX5_spread 59 = .ok (.iload 4, 2) := by decide +kernel
theorem dX5_spread_61 : decode cX5_spread 61 = .ok (.iload 5, 2) := by decide +kernel
theorem dX5_spread_63 : decode cX5_spread 63 = .ok (.invokevirtual 132, 3) := by decide +kernel
theorem dX5_spread_66 : decode cX5_spread 66 = .ok (.iload 4, 2) := by decide +kernel
theorem dX5_spread_68 : decode cX5_spread 68 = .ok (.bipush 12, 2) := by decide +kernel
theorem dX5_spread_70 : decode cX5_spread 70 = .ok (.if_icmp .lt 40, 3) := by decide +kernel
theorem dX5_spread_73 : decode cX5_spread 73 = .ok (.aload_n 0, 1) := by decide +kernel
theorem dX5_spread_74 : decode cX5_spread 74 = .ok (.getfield 13, 3) := by decide +kernel
theorem dX5_spread_77 : decode cX5_spread 77 = .ok (.iload 5, 2) := by decide +kernel
theorem dX5_spread_79 : decode cX5_spread 79 = .ok (.iaload, 1) := by decide +kernel
theorem dX5_spread_80 : decode cX5_spread 80 = .ok (.iload 4, 2) := by decide +kernel
theorem dX5_spread_82 : decode cX5_spread 82 = .ok (.bipush 12, 2) := by decide +kernel
theorem dX5_spread_84 : decode cX5_spread 84 = .ok (.isub, 1) := by decide +kernel
theorem dX5_spread_85 : decode cX5_spread 85 = .ok (.if_icmp .ne 25, 3) := by decide +kernel
theorem dX5_spread_88 : decode cX5_spread 88 = .ok (.aload_n 0, 1) := by decide +kernel
theorem dX5_spread_89 : decode cX5_spread 89 = .ok (.getfield 26, 3) := by decide +kernel
theorem dX5_spread_92 : decode cX5_spread 92 = .ok (.iload 5, 2) := by decide +kernel
theorem dX5_spread_94 : decode cX5_spread 94 = .ok (.iaload, 1) := by decide +kernel
theorem dX5_spread_95 : decode cX5_spread 95 = .ok (.ifCond .le 15, 3) := by decide +kernel
theorem dX5_spread_98 : decode cX5_spread 98 = .ok (.aload_n 0, 1) := by decide +kernel
theorem dX5_spread_99 : decode cX5_spread 99 = .ok (.iload 5, 2) := by decide +kernel
theorem dX5_spread_101 : decode cX5_spread 101 = .ok (.iconst 3, 1) := by decide +kernel
theorem dX5_spread_102 : decode cX5_spread 102 = .ok (.idiv, 1) := by decide +kernel
theorem dX5_spread_103 : decode cX5_spread 103 = .ok (.iload 4, 2) := by decide +kernel
theorem dX5_spread_105 : decode cX5_spread 105 = .ok (.iload 5, 2) := by decide +kernel
theorem dX5_spread_107 : decode cX5_spread 107 = .ok (.invokevirtual 132, 3) := by decide +kernel
theorem dX5_spread_110 : decode cX5_spread 110 = .ok (.iinc 5 1, 3) := by decide +kernel
theorem dX5_spread_113 : decode cX5_spread 113 = .ok (.goto (-92), 3) := by decide +kernel
theorem dX5_spread_116 : decode cX5_spread 116 = .ok (.iconst 0, 1) := by decide +kernel
theorem dX5_spread_117 : decode cX5_spread 117 = .ok (.istore 5, 2) := by decide +kernel
theorem dX5_spread_119 : decode cX5_spread 119 = .ok (.iload 5, 2) := by decide +kernel
theorem dX5_spread_121 : decode cX5_spread 121 = .ok (.aload_n 0, 1) := by decide +kernel
theorem dX5_spread_122 : decode cX5_spread 122 = .ok (.getfield 7, 3) := by decide +kernel
theorem dX5_spread_125 : decode cX5_spread 125 = .ok (.if_icmp .ge 59, 3) := by decide +kernel
theorem dX5_spread_128 : decode cX5_spread 128 = .ok (.iload_n 2, 1) := by decide +kernel
theorem dX5_spread_129 : decode cX5_spread 129 = .ok (.ifCond .eq 55, 3) := by decide +kernel
theorem dX5_spread_132 : decode cX5_spread 132 = .ok (.iload 4, 2) := by decide +kernel
theorem dX5_spread_134 : decode cX5_spread 134 = .ok (.bipush 12, 2) := by decide +kernel
theorem dX5_spread_136 : decode cX5_spread 136 = .ok (.if_icmp .lt 48, 3) := by decide +kernel
theorem dX5_spread_139 : decode cX5_spread 139 = .ok (.aload_n 0, 1) := by decide +kernel
theorem dX5_spread_140 : decode cX5_spread 140 = .ok (.getfield 23, 3) := by decide +kernel
theorem dX5_spread_143 : decode cX5_spread 143 = .ok (.iload 4, 2) := by decide +kernel
theorem dX5_spread_145 : decode cX5_spread 145 = .ok (.bipush 12, 2) := by decide +kernel
theorem dX5_spread_147 : decode cX5_spread 147 = .ok (.isub, 1) := by decide +kernel
theorem dX5_spread_148 : decode cX5_spread 148 = .ok (.iaload, 1) := by decide +kernel
theorem dX5_spread_149 : decode cX5_spread 149 = .ok (.bipush (-6), 2) := by decide +kernel
theorem dX5_spread_151 : decode cX5_spread 151 = .ok (.if_icmp .ne 27, 3) := by decide +kernel
theorem dX5_spread_154 : decode cX5_spread 154 = .ok (.aload_n 0, 1) := by decide +kernel
theorem dX5_spread_155 : decode cX5_spread 155 = .ok (.getfield 23, 3) := by decide +kernel
theorem dX5_spread_158 : decode cX5_spread 158 = .ok (.iload 5, 2) := by decide +kernel
theorem dX5_spread_160 : decode cX5_spread 160 = .ok (.iaload, 1) := by decide +kernel
theorem dX5_spread_161 : decode cX5_spread 161 = .ok (.bipush (-6), 2) := by decide +kernel
theorem dX5_spread_163 : decode cX5_spread 163 = .ok (.if_icmp .ne 15, 3) := by decide +kernel
theorem dX5_spread_166 : decode cX5_spread 166 = .ok (.aload_n 0, 1) := by decide +kernel
theorem dX5_spread_167 : decode cX5_spread 167 = .ok (.bipush 12, 2) := by decide +kernel
theorem dX5_spread_169 : decode cX5_spread 169 = .ok (.iload 5, 2) := by decide +kernel
theorem dX5_spread_171 : decode cX5_spread 171 = .ok (.iadd, 1) := by decide +kernel
theorem dX5_spread_172 : decode cX5_spread 172 = .ok (.iload 4, 2) := by decide +kernel
theorem dX5_spread_174 : decode cX5_spread 174 = .ok (.iconst (-1), 1) := by decide +kernel
theorem dX5_spread_175 : decode cX5_spread 175 = .ok (.invokevirtual 132, 3) := by decide +kernel
theorem dX5_spread_178 : decode cX5_spread 178 = .ok (.iinc 5 1, 3) := by decide +kernel
theorem dX5_spread_181 : decode cX5_spread 181 = .ok (.goto (-62), 3) := by decide +kernel
theorem dX5_spread_184 : decode cX5_spread 184 = .ok (.iinc 3 1, 3) := by decide +kernel
theorem dX5_spread_187 : decode cX5_spread 187 = .ok (.goto (-185), 3) := by decide +kernel
theorem dX5_spread_190 : decode cX5_spread 190 = .ok (.return_, 1) := by decide +kernel
theorem dX5_wayRoom_0 : decode cX5_wayRoom 0 = .ok (.iload_n 2, 1) := by decide +kernel
theorem dX5_wayRoom_1 : decode cX5_wayRoom 1 = .ok (.istore_n 3, 1) := by decide +kernel
theorem dX5_wayRoom_2 : decode cX5_wayRoom 2 = .ok (.iload_n 1, 1) := by decide +kernel
theorem dX5_wayRoom_3 : decode cX5_wayRoom 3 = .ok (.istore 4, 2) := by decide +kernel
theorem dX5_wayRoom_5 : decode cX5_wayRoom 5 = .ok (.aload_n 0, 1) := by decide +kernel
theorem dX5_wayRoom_6 : decode cX5_wayRoom 6 = .ok (.getfield 41, 3) := by decide +kernel
theorem dX5_wayRoom_9 : decode cX5_wayRoom 9 = .ok (.iload 4, 2) := by decide +kernel
theorem dX5_wayRoom_11 : decode cX5_wayRoom 11 = .ok (.iaload, 1) := by decide +kernel
theorem dX5_wayRoom_12 : decode cX5_wayRoom 12 = .ok (.ifCond .lt 51, 3) := by decide +kernel
theorem dX5_wayRoom_15 : decode cX5_wayRoom 15 = .ok (.iload 4, 2) := by decide +kernel
theorem dX5_wayRoom_17 : decode cX5_wayRoom 17 = .ok (.bipush 12, 2) := by decide +kernel
theorem dX5_wayRoom_19 : decode cX5_wayRoom 19 = .ok (.if_icmp .ge 32, 3) := by decide +kernel
theorem dX5_wayRoom_22 : decode cX5_wayRoom 22 = .ok (.aload_n 0, 1) := by decide +kernel
theorem dX5_wayRoom_23 : decode cX5_wayRoom 23 = .ok (.getfield 26, 3) := by decide +kernel
theorem dX5_wayRoom_26 : decode cX5_wayRoom 26 = .ok (.aload_n 0, 1) := by decide +kernel
theorem dX5_wayRoom_27 : decode cX5_wayRoom 27 = .ok (.getfield 44, 3) := by decide +kernel
theorem dX5_wayRoom_30 : decode cX5_wayRoom 30 = .ok (.iload 4, 2) := by decide +kernel
theorem dX5_wayRoom_32 : decode cX5_wayRoom 32 = .ok (.iaload, 1) := by decide +kernel
theorem dX5_wayRoom_33 : decode cX5_wayRoom 33 = .ok (.iaload, 1) := by decide +kernel
theorem dX5_wayRoom_34 : decode cX5_wayRoom 34 = .ok (.iload_n 3, 1) := by decide +kernel
theorem dX5_wayRoom_35 : decode cX5_wayRoom 35 = .ok (.if_icmp .ge 16, 3) := by decide +kernel
theorem dX5_wayRoom_38 : decode cX5_wayRoom 38 = .ok (.aload_n 0, 1) := by decide +kernel
theorem dX5_wayRoom_39 : decode cX5_wayRoom 39 = .ok (.getfield 26, 3) := by decide +kernel
theorem dX5_wayRoom_42 : decode cX5_wayRoom 42 = .ok (.aload_n 0, 1) := by decide +kernel
theorem dX5_wayRoom_43 : decode cX5_wayRoom 43 = .ok (.getfield 44, 3) := by decide +kernel
theorem dX5_wayRoom_46 : decode cX5_wayRoom 46 = .ok (.iload 4, 2) := by decide +kernel
theorem dX5_wayRoom_48 : decode cX5_wayRoom 48 = .ok (.iaload, 1) := by decide +kernel
theorem dX5_wayRoom_49 : decode cX5_wayRoom 49 = .ok (.iaload, 1) := by decide +kernel
theorem dX5_wayRoom_50 : decode cX5_wayRoom 50 = .ok (.istore_n 3, 1) := by decide +kernel
theorem dX5_wayRoom_51 : decode cX5_wayRoom 51 = .ok (.aload_n 0, 1) := by decide +kernel
theorem dX5_wayRoom_52 : decode cX5_wayRoom 52 = .ok (.getfield 41, 3) := by decide +kernel
theorem dX5_wayRoom_55 : decode cX5_wayRoom 55 = .ok (.iload 4, 2) := by decide +kernel
theorem dX5_wayRoom_57 : decode cX5_wayRoom 57 = .ok (.iaload, 1) := by decide +kernel
theorem dX5_wayRoom_58 : decode cX5_wayRoom 58 = .ok (.istore 4, 2) := by decide +kernel
theorem dX5_wayRoom_60 : decode cX5_wayRoom 60 = .ok (.goto (-55), 3) := by decide +kernel
theorem dX5_wayRoom_63 : decode cX5_wayRoom 63 = .ok (.iload 4, 2) := by decide +kernel
theorem dX5_wayRoom_65 : decode cX5_wayRoom 65 = .ok (.bipush 12, 2) := by decide +kernel
theorem dX5_wayRoom_67 : decode cX5_wayRoom 67 = .ok (.if_icmp .ge 34, 3) := by decide +kernel
theorem dX5_wayRoom_70 : decode cX5_wayRoom 70 = .ok (.iload_n 3, 1) := by decide +kernel
theorem dX5_wayRoom_71 : decode cX5_wayRoom 71 = .ok (.aload_n 0, 1) := by decide +kernel
theorem dX5_wayRoom_72 : decode cX5_wayRoom 72 = .ok (.getfield 35, 3) := by decide +kernel
theorem dX5_wayRoom_75 : decode cX5_wayRoom 75 = .ok (.iload 4, 2) := by decide +kernel
theorem dX5_wayRoom_77 : decode cX5_wayRoom 77 = .ok (.iaload, 1) := by decide +kernel
theorem dX5_wayRoom_78 : decode cX5_wayRoom 78 = .ok (.if_icmp .le 23, 3) := by decide +kernel
theorem dX5_wayRoom_81 : decode cX5_wayRoom 81 = .ok (.aload_n 0, 1) := by decide +kernel
theorem dX5_wayRoom_82 : decode cX5_wayRoom 82 = .ok (.getfield 35, 3) := by decide +kernel
theorem dX5_wayRoom_85 : decode cX5_wayRoom 85 = .ok (.iload 4, 2) := by decide +kernel
theorem dX5_wayRoom_87 : decode cX5_wayRoom 87 = .ok (.iaload, 1) := by decide +kernel
theorem dX5_wayRoom_88 : decode cX5_wayRoom 88 = .ok (.ifCond .le 13, 3) := by decide +kernel
theorem dX5_wayRoom_91 : decode cX5_wayRoom 91 = .ok (.aload_n 0, 1) := by decide +kernel
theorem dX5_wayRoom_92 : decode cX5_wayRoom 92 = .ok (.getfield 35, 3) := by decide +kernel
theorem dX5_wayRoom_95 : decode cX5_wayRoom 95 = .ok (.iload 4, 2) := by decide +kernel
theorem dX5_wayRoom_97 : decode cX5_wayRoom 97 = .ok (.iaload, 1) := by decide +kernel
theorem dX5_wayRoom_98 : decode cX5_wayRoom 98 = .ok (.goto 4, 3) := by decide +kernel
theorem dX5_wayRoom_101 : decode cX5_wayRoom 101 = .ok (.iload_n 3, 1) := by decide +kernel
theorem dX5_wayRoom_102 : decode cX5_wayRoom 102 = .ok (.ireturn, 1) := by decide +kernel
theorem dX5_goWay_0 : decode cX5_goWay 0 = .ok (.iload_n 1, 1) := by decide +kernel
theorem dX5_goWay_1 : decode cX5_goWay 1 = .ok (.istore_n 3, 1) := by decide +kernel
theorem dX5_goWay_2 : decode cX5_goWay 2 = .ok (.aload_n 0, 1) := by decide +kernel
theorem dX5_goWay_3 : decode cX5_goWay 3 = .ok (.getfield 41, 3) := by decide +kernel
theorem dX5_goWay_6 : decode cX5_goWay 6 = .ok (.iload_n 3, 1) := by decide +kernel
theorem dX5_goWay_7 : decode cX5_goWay 7 = .ok (.iaload, 1) := by decide +kernel
theorem dX5_goWay_8 : decode cX5_goWay 8 = .ok (.ifCond .lt 48, 3) := by decide +kernel
theorem dX5_goWay_11 : decode cX5_goWay 11 = .ok (.aload_n 0, 1) := by decide +kernel
theorem dX5_goWay_12 : decode cX5_goWay 12 = .ok (.getfield 44, 3) := by decide +kernel
theorem dX5_goWay_15 : decode cX5_goWay 15 = .ok (.iload_n 3, 1) := by decide +kernel
theorem dX5_goWay_16 : decode cX5_goWay 16 = .ok (.iaload, 1) := by decide +kernel
theorem dX5_goWay_17 : decode cX5_goWay 17 = .ok (.ifCond .lt 29, 3) := by decide +kernel
theorem dX5_goWay_20 : decode cX5_goWay 20 = .ok (.aload_n 0, 1) := by decide +kernel
theorem dX5_goWay_21 : decode cX5_goWay 21 = .ok (.getfield 26, 3) := by decide +kernel
theorem dX5_goWay_24 : decode cX5_goWay 24 = .ok (.aload_n 0, 1) := by decide +kernel
theorem dX5_goWay_25 : decode cX5_goWay 25 = .ok (.getfield 44, 3) := by decide +kernel
theorem dX5_goWay_28 : decode cX5_goWay 28 = .ok (.iload_n 3, 1) := by decide +kernel
theorem dX5_goWay_29 : decode cX5_goWay 29 = .ok (.iaload, 1) := by decide +kernel
theorem dX5_goWay_30 : decode cX5_goWay 30 = .ok (.dup2, 1) := by decide +kernel
theorem dX5_goWay_31 : decode cX5_goWay 31 = .ok (.iaload, 1) := by decide +kernel
theorem dX5_goWay_32 : decode cX5_goWay 32 = .ok (.iload_n 3, 1) := by decide +kernel
theorem dX5_goWay_33 : decode cX5_goWay 33 = .ok (.bipush 12, 2) := by decide +kernel
theorem dX5_goWay_35 : decode cX5_goWay 35 = .ok (.if_icmp .ge 8, 3) := by decide +kernel
theorem dX5_goWay_38 : decode cX5_goWay 38 = .ok (.iload_n 2, 1) := by decide +kernel
theorem dX5_goWay_39 : decode cX5_goWay 39 = .ok (.ineg, 1) := by decide +kernel
theorem dX5_goWay_40 : decode cX5_goWay 40 = .ok (.goto 4, 3) := by decide +kernel
theorem dX5_goWay_43 : decode cX5_goWay 43 = .ok (.iload_n 2, 1) := by decide +kernel
theorem dX5_goWay_44 : decode cX5_goWay 44 = .ok (.iadd, 1) := by decide +kernel
theorem dX5_goWay_45 : decode cX5_goWay 45 = .ok (.iastore, 1) := by decide +kernel
theorem dX5_goWay_46 : decode cX5_goWay 46 = .ok (.aload_n 0, 1) := by decide +kernel
theorem dX5_goWay_47 : decode cX5_goWay 47 = .ok (.getfield 41, 3) := by decide +kernel
theorem dX5_goWay_50 : decode cX5_goWay 50 = .ok (.iload_n 3, 1) := by decide +kernel
theorem dX5_goWay_51 : decode cX5_goWay 51 = .ok (.iaload, 1) := by decide +kernel
theorem dX5_goWay_52 : decode cX5_goWay 52 = .ok (.istore_n 3, 1) := by decide +kernel
theorem dX5_goWay_53 : decode cX5_goWay 53 = .ok (.goto (-51), 3) := by decide +kernel
theorem dX5_goWay_56 : decode cX5_goWay 56 = .ok (.iload_n 3, 1) := by decide +kernel
theorem dX5_goWay_57 : decode cX5_goWay 57 = .ok (.ireturn, 1) := by decide +kernel
theorem dX5_wanting_0 : decode cX5_wanting 0 = .ok (.iconst 0, 1) := by decide +kernel
theorem dX5_wanting_1 : decode cX5_wanting 1 = .ok (.istore_n 2, 1) := by decide +kernel
theorem dX5_wanting_2 : decode cX5_wanting 2 = .ok (.iload_n 2, 1) := by decide +kernel
theorem dX5_wanting_3 : decode cX5_wanting 3 = .ok (.aload_n 0, 1) := by decide +kernel
theorem dX5_wanting_4 : decode cX5_wanting 4 = .ok (.getfield 7, 3) := by decide +kernel
theorem dX5_wanting_7 : decode cX5_wanting 7 = .ok (.if_icmp .ge 78, 3) := by decide +kernel
theorem dX5_wanting_10 : decode cX5_wanting 10 = .ok (.iload_n 1, 1) := by decide +kernel
theorem dX5_wanting_11 : decode cX5_wanting 11 = .ok (.ifCond .eq 31, 3) := by decide +kernel
theorem dX5_wanting_14 : decode cX5_wanting 14 = .ok (.aload_n 0, 1) := by decide +kernel
theorem dX5_wanting_15 : decode cX5_wanting 15 = .ok (.getfield 23, 3) := by decide +kernel
theorem dX5_wanting_18 : decode cX5_wanting 18 = .ok (.iload_n 2, 1) := by decide +kernel
theorem dX5_wanting_19 : decode cX5_wanting 19 = .ok (.iaload, 1) := by decide +kernel
theorem dX5_wanting_20 : decode cX5_wanting 20 = .ok (.bipush (-6), 2) := by decide +kernel
theorem dX5_wanting_22 : decode cX5_wanting 22 = .ok (.if_icmp .eq 16, 3) := by decide +kernel
theorem dX5_wanting_25 : decode cX5_wanting 25 = .ok (.aload_n 0, 1) := by decide +kernel
theorem dX5_wanting_26 : decode cX5_wanting 26 = .ok (.getfield 38, 3) := by decide +kernel
theorem dX5_wanting_29 : decode cX5_wanting 29 = .ok (.iload_n 2, 1) := by decide +kernel
theorem dX5_wanting_30 : decode cX5_wanting 30 = .ok (.iaload, 1) := by decide +kernel
theorem dX5_wanting_31 : decode cX5_wanting 31 = .ok (.ifCond .le 7, 3) := by decide +kernel
theorem dX5_wanting_34 : decode cX5_wanting 34 = .ok (.iconst 1, 1) := by decide +kernel
theorem dX5_wanting_35 : decode cX5_wanting 35 = .ok (.goto 23, 3) := by decide +kernel
theorem dX5_wanting_38 : decode cX5_wanting 38 = .ok (.iconst 0, 1) := by decide +kernel
theorem dX5_wanting_39 : decode cX5_wanting 39 = .ok (.goto 19, 3) := by decide +kernel
theorem dX5_wanting_42 : decode cX5_wanting 42 = .ok (.aload_n 0, 1) := by decide +kernel
theorem dX5_wanting_43 : decode cX5_wanting 43 = .ok (.getfield 23, 3) := by decide +kernel
theorem dX5_wanting_46 : decode cX5_wanting 46 = .ok (.iload_n 2, 1) := by decide +kernel
theorem dX5_wanting_47 : decode cX5_wanting 47 = .ok (.iaload, 1) := by decide +kernel
theorem dX5_wanting_48 : decode cX5_wanting 48 = .ok (.bipush (-6), 2) := by decide +kernel
theorem dX5_wanting_50 : decode cX5_wanting 50 = .ok (.if_icmp .ne 7, 3) := by decide +kernel
theorem dX5_wanting_53 : decode cX5_wanting 53 = .ok (.iconst 1, 1) := by decide +kernel
theorem dX5_wanting_54 : decode cX5_wanting 54 = .ok (.goto 4, 3) := by decide +kernel
theorem dX5_wanting_57 : decode cX5_wanting 57 = .ok (.iconst 0, 1) := by decide +kernel
theorem dX5_wanting_58 : decode cX5_wanting 58 = .ok (.istore_n 3, 1) := by decide +kernel
theorem dX5_wanting_59 : decode cX5_wanting 59 = .ok (.iload_n 3, 1) := by decide +kernel
theorem dX5_wanting_60 : decode cX5_wanting 60 = .ok (.ifCond .eq 19, 3) := by decide +kernel
theorem dX5_wanting_63 : decode cX5_wanting 63 = .ok (.aload_n 0, 1) := by decide +kernel
theorem dX5_wanting_64 : decode cX5_wanting 64 = .ok (.getfield 41, 3) := by decide +kernel
theorem dX5_wanting_67 : decode cX5_wanting 67 = .ok (.bipush 12, 2) := by decide +kernel
theorem dX5_wanting_69 : decode cX5_wanting 69 = .ok (.iload_n 2, 1) := by decide +kernel
theorem dX5_wanting_70 : decode cX5_wanting 70 = .ok (.iadd, 1) := by decide +kernel
theorem dX5_wanting_71 : decode cX5_wanting 71 = .ok (.iaload, 1) := by decide +kernel
theorem dX5_wanting_72 : decode cX5_wanting 72 = .ok (.bipush (-2), 2) := by decide +kernel
theorem dX5_wanting_74 : decode cX5_wanting 74 = .ok (.if_icmp .eq 5, 3) := by decide +kernel
theorem dX5_wanting_77 : decode cX5_wanting 77 = .ok (.iload_n 2, 1) := by decide +kernel
theorem dX5_wanting_78 : decode cX5_wanting 78 = .ok (.ireturn, 1) := by decide +kernel
theorem dX5_wanting_79 : decode cX5_wanting 79 = .ok (.iinc 2 1, 3) := by decide +kernel
theorem dX5_wanting_82 : decode cX5_wanting 82 = .ok (.goto (-80), 3) := by decide +kernel
theorem dX5_wanting_85 : decode cX5_wanting 85 = .ok (.bipush (-6), 2) := by decide +kernel
theorem dX5_wanting_87 : decode cX5_wanting 87 = .ok (.ireturn, 1) := by decide +kernel
theorem dX5_fill_0 : decode cX5_fill 0 = .ok (.iconst 1, 1) := by decide +kernel
theorem dX5_fill_1 : decode cX5_fill 1 = .ok (.istore_n 2, 1) := by decide +kernel
theorem dX5_fill_2 : decode cX5_fill 2 = .ok (.iload_n 2, 1) := by decide +kernel
theorem dX5_fill_3 : decode cX5_fill 3 = .ok (.ifCond .eq 137, 3) := by decide +kernel
theorem dX5_fill_6 : decode cX5_fill 6 = .ok (.aload_n 0, 1) := by decide +kernel
theorem dX5_fill_7 : decode cX5_fill 7 = .ok (.invokevirtual 135, 3) := by decide +kernel
theorem dX5_fill_10 : decode cX5_fill 10 = .ok (.iconst 0, 1) := by decide +kernel
theorem dX5_fill_11 : decode cX5_fill 11 = .ok (.istore_n 3, 1) := by decide +kernel
theorem dX5_fill_12 : decode cX5_fill 12 = .ok (.iload_n 3, 1) := by decide +kernel
theorem dX5_fill_13 : decode cX5_fill 13 = .ok (.aload_n 0, 1) := by decide +kernel
theorem dX5_fill_14 : decode cX5_fill 14 = .ok (.getfield 53, 3) := by decide +kernel
theorem dX5_fill_17 : decode cX5_fill 17 = .ok (.if_icmp .ge 25, 3) := by decide +kernel
theorem dX5_fill_20 : decode cX5_fill 20 = .ok (.aload_n 0, 1) := by decide +kernel
theorem dX5_fill_21 : decode cX5_fill 21 = .ok (.getfield 35, 3) := by decide +kernel
theorem dX5_fill_24 : decode cX5_fill 24 = .ok (.iload_n 3, 1) := by decide +kernel
theorem dX5_fill_25 : decode cX5_fill 25 = .ok (.iaload, 1) := by decide +kernel
theorem dX5_fill_26 : decode cX5_fill 26 = .ok (.ifCond .le 10, 3) := by decide +kernel
theorem dX5_fill_29 : decode cX5_fill 29 = .ok (.aload_n 0, 1) := by decide +kernel
theorem dX5_fill_30 : decode cX5_fill 30 = .ok (.iload_n 3, 1) := by decide +kernel
theorem dX5_fill_31 : decode cX5_fill 31 = .ok (.iconst (-1), 1) := by decide +kernel
theorem dX5_fill_32 : decode cX5_fill 32 = .ok (.iconst (-1), 1) := by decide +kernel
theorem dX5_fill_33 : decode cX5_fill 33 = .ok (.invokevirtual 132, 3) := by decide +kernel
theorem dX5_fill_36 : decode cX5_fill 36 = .ok (.iinc 3 1, 3) := by decide +kernel
theorem dX5_fill_39 : decode cX5_fill 39 = .ok (.goto (-27), 3) := by decide +kernel
theorem dX5_fill_42 : decode cX5_fill 42 = .ok (.aload_n 0, 1) := by decide +kernel
theorem dX5_fill_43 : decode cX5_fill 43 = .ok (.iconst 0, 1) := by decide +kernel
theorem dX5_fill_44 : decode cX5_fill 44 = .ok (.iconst 0, 1) := by decide +kernel
theorem dX5_fill_45 : decode cX5_fill 45 = .ok (.invokevirtual 138, 3) := by decide +kernel
theorem dX5_fill_48 : decode cX5_fill 48 = .ok (.aload_n 0, 1) := by decide +kernel
theorem dX5_fill_49 : decode cX5_fill 49 = .ok (.iload_n 1, 1) := by decide +kernel
theorem dX5_fill_50 : decode cX5_fill 50 = .ok (.invokevirtual 142, 3) := by decide +kernel
theorem dX5_fill_53 : decode cX5_fill 53 = .ok (.istore_n 3, 1) := by decide +kernel
theorem dX5_fill_54 : decode cX5_fill 54 = .ok (.iload_n 3, 1) := by decide +kernel
theorem dX5_fill_55 : decode cX5_fill 55 = .ok (.ifCond .lt 7, 3) := by decide +kernel
theorem dX5_fill_58 : decode cX5_fill 58 = .ok (.iconst 1, 1) := by decide +kernel
theorem dX5_fill_59 : decode cX5_fill 59 = .ok (.goto 4, 3) := by decide +kernel
theorem dX5_fill_62 : decode cX5_fill 62 = .ok (.iconst 0, 1) := by decide +kernel
theorem dX5_fill_63 : decode cX5_fill 63 = .ok (.istore_n 2, 1) := by decide +kernel
theorem dX5_fill_64 : decode cX5_fill 64 = .ok (.iload_n 2, 1) := by decide +kernel
theorem dX5_fill_65 : decode cX5_fill 65 = .ok (.ifCond .eq 72, 3) := by decide +kernel
theorem dX5_fill_68 : decode cX5_fill 68 = .ok (.aload_n 0, 1) := by decide +kernel
theorem dX5_fill_69 : decode cX5_fill 69 = .ok (.bipush 12, 2) := by decide +kernel
theorem dX5_fill_71 : decode cX5_fill 71 = .ok (.iload_n 3, 1) := by decide +kernel
theorem dX5_fill_72 : decode cX5_fill 72 = .ok (.iadd, 1) := by decide +kernel
theorem dX5_fill_73 : decode cX5_fill 73 = .ok (.iload_n 1, 1) := by decide +kernel
theorem dX5_fill_74 : decode cX5_fill 74 = .ok (.ifCond .eq 12, 3) := by decide +kernel
theorem dX5_fill_77 : decode cX5_fill 77 = .ok (.aload_n 0, 1) := by decide +kernel
theorem dX5_fill_78 : decode cX5_fill 78 = .ok (.getfield 38, 3) := by decide +kernel
theorem dX5_fill_81 : decode cX5_fill 81 = .ok (.iload_n 3, 1) := by decide +kernel
theorem dX5_fill_82 : decode cX5_fill 82 = .ok (.iaload, 1) := by decide +kernel
theorem dX5_fill_83 : decode cX5_fill 83 = .ok (.goto 6, 3) := by decide +kernel
theorem dX5_fill_86 : decode cX5_fill 86 = .ok (.sipush 4000, 3) := by decide +kernel
theorem dX5_fill_89 : decode cX5_fill 89 = .ok (.invokevirtual 146, 3) := by decide +kernel
theorem dX5_fill_92 : decode cX5_fill 92 = .ok (.istore 4, 2) := by decide +kernel
theorem dX5_fill_94 : decode cX5_fill 94 = .ok (.aload_n 0, 1) := by decide +kernel
theorem dX5_fill_95 : decode cX5_fill 95 = .ok (.bipush 12, 2) := by decide +kernel
theorem dX5_fill_97 : decode cX5_fill 97 = .ok (.iload_n 3, 1) := by decide +kernel
theorem dX5_fill_98 : decode cX5_fill 98 = .ok (.iadd, 1) := by decide +kernel
theorem dX5_fill_99 : decode cX5_fill 99 = .ok (.iload 4, 2) := by decide +kernel
theorem dX5_fill_101 : decode cX5_fill 101 = .ok (.invokevirtual 149, 3) := by decide +kernel
theorem dX5_fill_104 : decode cX5_fill 104 = .ok (.istore 5, 2) := by decide +kernel
theorem dX5_fill_106 : decode cX5_fill 106 = .ok (.aload_n 0, 1) := by decide +kernel
theorem dX5_fill_107 : decode cX5_fill 107 = .ok (.getfield 35, 3) := by decide +kernel
theorem dX5_fill_110 : decode cX5_fill 110 = .ok (.iload 5, 2) := by decide +kernel
theorem dX5_fill_112 : decode cX5_fill 112 = .ok (.dup2, 1) := by decide +kernel
theorem dX5_fill_113 : decode cX5_fill 113 = .ok (.iaload, 1) := by decide +kernel
theorem dX5_fill_114 : decode cX5_fill 114 = .ok (.iload 4, 2) := by decide +kernel
theorem dX5_fill_116 : decode cX5_fill 116 = .ok (.isub, 1) := by decide +kernel
theorem dX5_fill_117 : decode cX5_fill 117 = .ok (.iastore, 1) := by decide +kernel
theorem dX5_fill_118 : decode cX5_fill 118 = .ok (.aload_n 0, 1) := by decide +kernel
theorem dX5_fill_119 : decode cX5_fill 119 = .ok (.getfield 38, 3) := by decide +kernel
theorem dX5_fill_122 : decode cX5_fill 122 = .ok (.iload_n 3, 1) := by decide +kernel
theorem dX5_fill_123 : decode cX5_fill 123 = .ok (.dup2, 1) := by decide +kernel
theorem dX5_fill_124 : decode cX5_fill 124 = .ok (.iaload, 1) := by decide +kernel
theorem dX5_fill_125 : decode cX5_fill 125 = .ok (.iload_n 1, 1) := by decide +kernel
theorem dX5_fill_126 : decode cX5_fill 126 = .ok (.ifCond .eq 8, 3) := by decide +kernel
theorem dX5_fill_129 : decode cX5_fill 129 = .ok (.iload 4, 2) := by decide +kernel
theorem dX5_fill_131 : decode cX5_fill 131 = .ok (.goto 4, 3) := by decide +kernel
theorem dX5_fill_134 : decode cX5_fill 134 = .ok (.iconst 0, 1) := by decide +kernel
theorem dX5_fill_135 : decode cX5_fill 135 = .ok (.isub, 1) := by decide +kernel
theorem dX5_fill_136 : decode cX5_fill 136 = .ok (.iastore, 1) := by decide +kernel
theorem dX5_fill_137 : decode cX5_fill 137 = .ok (.goto (-135), 3) := by decide +kernel
theorem dX5_fill_140 : decode cX5_fill 140 = .ok (.return_, 1) := by decide +kernel
theorem dX5_canWith_0 : decode cX5_canWith 0 = .ok (.iconst 1, 1) := by decide +kernel
theorem dX5_canWith_1 : decode cX5_canWith 1 = .ok (.istore_n 2, 1) := by decide +kernel
theorem dX5_canWith_2 : decode cX5_canWith 2 = .ok (.iconst 0, 1) := by decide +kernel
theorem dX5_canWith_3 : decode cX5_canWith 3 = .ok (.istore_n 3, 1) := by decide +kernel
theorem dX5_canWith_4 : decode cX5_canWith 4 = .ok (.iload_n 3, 1) := by decide +kernel
theorem dX5_canWith_5 : decode cX5_canWith 5 = .ok (.bipush 36, 2) := by decide +kernel
theorem dX5_canWith_7 : decode cX5_canWith 7 = .ok (.if_icmp .ge 16, 3) := by decide +kernel
theorem dX5_canWith_10 : decode cX5_canWith 10 = .ok (.aload_n 0, 1) := by decide +kernel
theorem dX5_canWith_11 : decode cX5_canWith 11 = .ok (.getfield 26, 3) := by decide +kernel
theorem dX5_canWith_14 : decode cX5_canWith 14 = .ok (.iload_n 3, 1) := by decide +kernel
theorem dX5_canWith_15 : decode cX5_canWith 15 = .ok (.iconst 0, 1) := by decide +kernel
theorem dX5_canWith_16 : decode cX5_canWith 16 = .ok (.iastore, 1) := by decide +kernel
theorem dX5_canWith_17 : decode cX5_canWith 17 = .ok (.iinc 3 1, 3) := by decide +kernel
theorem dX5_canWith_20 : decode cX5_canWith 20 = .ok (.goto (-16), 3) := by decide +kernel
theorem dX5_canWith_23 : decode cX5_canWith 23 = .ok (.iconst 0, 1) := by decide +kernel
theorem dX5_canWith_24 : decode cX5_canWith 24 = .ok (.istore_n 3, 1) := by decide +kernel
theorem dX5_canWith_25 : decode cX5_canWith 25 = .ok (.iload_n 3, 1) := by decide +kernel
theorem dX5_canWith_26 : decode cX5_canWith 26 = .ok (.aload_n 0, 1) := by decide +kernel
theorem dX5_canWith_27 : decode cX5_canWith 27 = .ok (.getfield 53, 3) := by decide +kernel
theorem dX5_canWith_30 : decode cX5_canWith 30 = .ok (.if_icmp .ge 23, 3) := by decide +kernel
theorem dX5_canWith_33 : decode cX5_canWith 33 = .ok (.aload_n 0, 1) := by decide +kernel
theorem dX5_canWith_34 : decode cX5_canWith 34 = .ok (.getfield 35, 3) := by decide +kernel
theorem dX5_canWith_37 : decode cX5_canWith 37 = .ok (.iload_n 3, 1) := by decide +kernel
theorem dX5_canWith_38 : decode cX5_canWith 38 = .ok (.aload_n 0, 1) := by decide +kernel
theorem dX5_canWith_39 : decode cX5_canWith 39 = .ok (.getfield 17, 3) := by decide +kernel
theorem dX5_canWith_42 : decode cX5_canWith 42 = .ok (.iconst 3, 1) := by decide +kernel
theorem dX5_canWith_43 : decode cX5_canWith 43 = .ok (.iload_n 1, 1) := by decide +kernel
theorem dX5_canWith_44 : decode cX5_canWith 44 = .ok (.imul, 1) := by decide +kernel
theorem dX5_canWith_45 : decode cX5_canWith 45 = .ok (.isub, 1) := by decide +kernel
theorem dX5_canWith_46 : decode cX5_canWith 46 = .ok (.iastore, 1) := by decide +kernel
theorem dX5_canWith_47 : decode cX5_canWith 47 = .ok (.iinc 3 1, 3) := by decide +kernel
theorem dX5_canWith_50 : decode cX5_canWith 50 = .ok (.goto (-25), 3) := by decide +kernel
theorem dX5_canWith_53 : decode cX5_canWith 53 = .ok (.iconst 0, 1) := by decide +kernel
theorem dX5_canWith_54 : decode cX5_canWith 54 = .ok (.istore_n 3, 1) := by decide +kernel
theorem dX5_canWith_55 : decode cX5_canWith 55 = .ok (.iload_n 3, 1) := by decide +kernel
theorem dX5_canWith_56 : decode cX5_canWith 56 = .ok (.aload_n 0, 1) := by decide +kernel
theorem dX5_canWith_57 : decode cX5_canWith 57 = .ok (.getfield 7, 3) := by decide +kernel
theorem dX5_canWith_60 : decode cX5_canWith 60 = .ok (.if_icmp .ge 63, 3) := by decide +kernel
theorem dX5_canWith_63 : decode cX5_canWith 63 = .ok (.aload_n 0, 1) := by decide +kernel
theorem dX5_canWith_64 : decode cX5_canWith 64 = .ok (.getfield 38, 3) := by decide +kernel
theorem dX5_canWith_67 : decode cX5_canWith 67 = .ok (.iload_n 3, 1) := by decide +kernel
theorem dX5_canWith_68 : decode cX5_canWith 68 = .ok (.aload_n 0, 1) := by decide +kernel
theorem dX5_canWith_69 : decode cX5_canWith 69 = .ok (.getfield 23, 3) := by decide +kernel
theorem dX5_canWith_72 : decode cX5_canWith 72 = .ok (.iload_n 3, 1) := by decide +kernel
theorem dX5_canWith_73 : decode cX5_canWith 73 = .ok (.iaload, 1) := by decide +kernel
theorem dX5_canWith_74 : decode cX5_canWith 74 = .ok (.bipush (-6), 2) := by decide +kernel
theorem dX5_canWith_76 : decode cX5_canWith 76 = .ok (.if_icmp .ne 7, 3) := by decide +kernel
theorem dX5_canWith_79 : decode cX5_canWith 79 = .ok (.iconst 0, 1) := by decide +kernel
theorem dX5_canWith_80 : decode cX5_canWith 80 = .ok (.goto 17, 3) := by decide +kernel
theorem dX5_canWith_83 : decode cX5_canWith 83 = .ok (.aload_n 0, 1) := by decide +kernel
theorem dX5_canWith_84 : decode cX5_canWith 84 = .ok (.getfield 23, 3) := by decide +kernel
theorem dX5_canWith_87 : decode cX5_canWith 87 = .ok (.iload_n 3, 1) := by decide +kernel
theorem dX5_canWith_88 : decode cX5_canWith 88 = .ok (.iaload, 1) := by decide +kernel
theorem dX5_canWith_89 : decode cX5_canWith 89 = .ok (.iload_n 1, 1) := by decide +kernel
theorem dX5_canWith_90 : decode cX5_canWith 90 = .ok (.aload_n 0, 1) := by decide +kernel
theorem dX5_canWith_91 : decode cX5_canWith 91 = .ok (.iload_n 3, 1) := by decide +kernel
theorem dX5_canWith_92 : decode cX5_canWith 92 = .ok (.invokevirtual 113, 3) := by decide +kernel
theorem dX5_canWith_95 : decode cX5_canWith 95 = .ok (.imul, 1) := by decide +kernel
theorem dX5_canWith_96 : decode cX5_canWith 96 = .ok (.isub, 1) := by decide +kernel
theorem dX5_canWith_97 : decode cX5_canWith 97 = .ok (.iastore, 1) := by decide +kernel
theorem dX5_canWith_98 : decode cX5_canWith 98 = .ok (.iload_n 2, 1) := by decide +kernel
theorem dX5_canWith_99 : decode cX5_canWith 99 = .ok (.ifCond .eq 16, 3) := by decide +kernel
theorem dX5_canWith_102 : decode cX5_canWith 102 = .ok (.aload_n 0, 1) := by decide +kernel
theorem dX5_canWith_103 : decode cX5_canWith 103 = .ok (.getfield 38, 3) := by decide +kernel
theorem dX5_canWith_106 : decode cX5_canWith 106 = .ok (.iload_n 3, 1) := by decide +kernel
theorem dX5_canWith_107 : decode cX5_canWith 107 = .ok (.iaload, 1) := by decide +kernel
theorem dX5_canWith_108 : decode cX5_canWith 108 = .ok (.ifCond .lt 7, 3) := by decide +kernel
theorem dX5_canWith_111 : decode cX5_canWith 111 = .ok (.iconst 1, 1) := by decide +kernel
theorem dX5_canWith_112 : decode cX5_canWith 112 = .ok (.goto 4, 3) := by decide +kernel
theorem dX5_canWith_115 : decode cX5_canWith 115 = .ok (.iconst 0, 1) := by decide +kernel
theorem dX5_canWith_116 : decode cX5_canWith 116 = .ok (.istore_n 2, 1) := by decide +kernel
theorem dX5_canWith_117 : decode cX5_canWith 117 = .ok (.iinc 3 1, 3) := by decide +kernel
theorem dX5_canWith_120 : decode cX5_canWith 120 = .ok (.goto (-65), 3) := by decide +kernel
theorem dX5_canWith_123 : decode cX5_canWith 123 = .ok (.iload_n 2, 1) := by decide +kernel
theorem dX5_canWith_124 : decode cX5_canWith 124 = .ok (.ifCond .ne 5, 3) := by decide +kernel
theorem dX5_canWith_127 : decode cX5_canWith 127 = .ok (.iconst 0, 1) := by decide +kernel
theorem dX5_canWith_128 : decode cX5_canWith 128 = .ok (.ireturn, 1) := by decide +kernel
theorem dX5_canWith_129 : decode cX5_canWith 129 = .ok (.aload_n 0, 1) := by decide +kernel
theorem dX5_canWith_130 : decode cX5_canWith 130 = .ok (.iconst 1, 1) := by decide +kernel
theorem dX5_canWith_131 : decode cX5_canWith 131 = .ok (.invokevirtual 152, 3) := by decide +kernel
theorem dX5_canWith_134 : decode cX5_canWith 134 = .ok (.aload_n 0, 1) := by decide +kernel
theorem dX5_canWith_135 : decode cX5_canWith 135 = .ok (.iconst 0, 1) := by decide +kernel
theorem dX5_canWith_136 : decode cX5_canWith 136 = .ok (.invokevirtual 152, 3) := by decide +kernel
theorem dX5_canWith_139 : decode cX5_canWith 139 = .ok (.iconst 0, 1) := by decide +kernel
theorem dX5_canWith_140 : decode cX5_canWith 140 = .ok (.istore_n 3, 1) := by decide +kernel
theorem dX5_canWith_141 : decode cX5_canWith 141 = .ok (.iload_n 3, 1) := by decide +kernel
theorem dX5_canWith_142 : decode cX5_canWith 142 = .ok (.aload_n 0, 1) := by decide +kernel
theorem dX5_canWith_143 : decode cX5_canWith 143 = .ok (.getfield 53, 3) := by decide +kernel
theorem dX5_canWith_146 : decode cX5_canWith 146 = .ok (.if_icmp .ge 28, 3) := by decide +kernel
theorem dX5_canWith_149 : decode cX5_canWith 149 = .ok (.iload_n 2, 1) := by decide +kernel
theorem dX5_canWith_150 : decode cX5_canWith 150 = .ok (.ifCond .eq 16, 3) := by decide +kernel
theorem dX5_canWith_153 : decode cX5_canWith 153 = .ok (.aload_n 0, 1) := by decide +kernel
theorem dX5_canWith_154 : decode cX5_canWith 154 = .ok (.getfield 35, 3) := by decide +kernel
theorem dX5_canWith_157 : decode cX5_canWith 157 = .ok (.iload_n 3, 1) := by decide +kernel
theorem dX5_canWith_158 : decode cX5_canWith 158 = .ok (.iaload, 1) := by decide +kernel
theorem dX5_canWith_159 : decode cX5_canWith 159 = .ok (.ifCond .ne 7, 3) := by decide +kernel
theorem dX5_canWith_162 : decode cX5_canWith 162 = .ok (.iconst 1, 1) := by decide +kernel
theorem dX5_canWith_163 : decode cX5_canWith 163 = .ok (.goto 4, 3) := by decide +kernel
theorem dX5_canWith_166 : decode cX5_canWith 166 = .ok (.iconst 0, 1) := by decide +kernel
theorem dX5_canWith_167 : decode cX5_canWith 167 = .ok (.istore_n 2, 1) := by decide +kernel
theorem dX5_canWith_168 : decode cX5_canWith 168 = .ok (.iinc 3 1, 3) := by decide +kernel
theorem dX5_canWith_171 : decode cX5_canWith 171 = .ok (.goto (-30), 3) := by decide +kernel
theorem dX5_canWith_174 : decode cX5_canWith 174 = .ok (.iconst 0, 1) := by decide +kernel
theorem dX5_canWith_175 : decode cX5_canWith 175 = .ok (.istore_n 3, 1) := by decide +kernel
theorem dX5_canWith_176 : decode cX5_canWith 176 = .ok (.iload_n 3, 1) := by decide +kernel
theorem dX5_canWith_177 : decode cX5_canWith 177 = .ok (.aload_n 0, 1) := by decide +kernel
theorem dX5_canWith_178 : decode cX5_canWith 178 = .ok (.getfield 7, 3) := by decide +kernel
theorem dX5_canWith_181 : decode cX5_canWith 181 = .ok (.if_icmp .ge 28, 3) := by decide +kernel
theorem dX5_canWith_184 : decode cX5_canWith 184 = .ok (.iload_n 2, 1) := by decide +kernel
theorem dX5_canWith_185 : decode cX5_canWith 185 = .ok (.ifCond .eq 16, 3) := by decide +kernel
theorem dX5_canWith_188 : decode cX5_canWith 188 = .ok (.aload_n 0, 1) := by decide +kernel
theorem dX5_canWith_189 : decode cX5_canWith 189 = .ok (.getfield 38, 3) := by decide +kernel
theorem dX5_canWith_192 : decode cX5_canWith 192 = .ok (.iload_n 3, 1) := by decide +kernel
theorem dX5_canWith_193 : decode cX5_canWith 193 = .ok (.iaload, 1) := by decide +kernel
theorem dX5_canWith_194 : decode cX5_canWith 194 = .ok (.ifCond .ne 7, 3) := by decide +kernel
theorem dX5_canWith_197 : decode cX5_canWith 197 = .ok (.iconst 1, 1) := by decide +kernel
theorem dX5_canWith_198 : decode cX5_canWith 198 = .ok (.goto 4, 3) := by decide +kernel
theorem dX5_canWith_201 : decode cX5_canWith 201 = .ok (.iconst 0, 1) := by decide +kernel
theorem dX5_canWith_202 : decode cX5_canWith 202 = .ok (.istore_n 2, 1) := by decide +kernel
theorem dX5_canWith_203 : decode cX5_canWith 203 = .ok (.iinc 3 1, 3) := by decide +kernel
theorem dX5_canWith_206 : decode cX5_canWith 206 = .ok (.goto (-30), 3) := by decide +kernel
theorem dX5_canWith_209 : decode cX5_canWith 209 = .ok (.iload_n 2, 1) := by decide +kernel
theorem dX5_canWith_210 : decode cX5_canWith 210 = .ok (.ireturn, 1) := by decide +kernel
theorem dX5_lower_0 : decode cX5_lower 0 = .ok (.aload_n 0, 1) := by decide +kernel
theorem dX5_lower_1 : decode cX5_lower 1 = .ok (.getfield 26, 3) := by decide +kernel
theorem dX5_lower_4 : decode cX5_lower 4 = .ok (.iload_n 1, 1) := by decide +kernel
theorem dX5_lower_5 : decode cX5_lower 5 = .ok (.iaload, 1) := by decide +kernel
theorem dX5_lower_6 : decode cX5_lower 6 = .ok (.ifCond .le 7, 3) := by decide +kernel
theorem dX5_lower_9 : decode cX5_lower 9 = .ok (.iconst 1, 1) := by decide +kernel
theorem dX5_lower_10 : decode cX5_lower 10 = .ok (.goto 4, 3) := by decide +kernel
theorem dX5_lower_13 : decode cX5_lower 13 = .ok (.iconst 0, 1) := by decide +kernel
theorem dX5_lower_14 : decode cX5_lower 14 = .ok (.istore_n 2, 1) := by decide +kernel
theorem dX5_lower_15 : decode cX5_lower 15 = .ok (.iload_n 2, 1) := by decide +kernel
theorem dX5_lower_16 : decode cX5_lower 16 = .ok (.ifCond .eq 111, 3) := by decide +kernel
theorem dX5_lower_19 : decode cX5_lower 19 = .ok (.aload_n 0, 1) := by decide +kernel
theorem dX5_lower_20 : decode cX5_lower 20 = .ok (.invokevirtual 135, 3) := by decide +kernel
theorem dX5_lower_23 : decode cX5_lower 23 = .ok (.aload_n 0, 1) := by decide +kernel
theorem dX5_lower_24 : decode cX5_lower 24 = .ok (.iload_n 1, 1) := by decide +kernel
theorem dX5_lower_25 : decode cX5_lower 25 = .ok (.iconst 3, 1) := by decide +kernel
theorem dX5_lower_26 : decode cX5_lower 26 = .ok (.idiv, 1) := by decide +kernel
theorem dX5_lower_27 : decode cX5_lower 27 = .ok (.iconst (-1), 1) := by decide +kernel
theorem dX5_lower_28 : decode cX5_lower 28 = .ok (.iconst (-1), 1) := by decide +kernel
theorem dX5_lower_29 : decode cX5_lower 29 = .ok (.invokevirtual 132, 3) := by decide +kernel
theorem dX5_lower_32 : decode cX5_lower 32 = .ok (.aload_n 0, 1) := by decide +kernel
theorem dX5_lower_33 : decode cX5_lower 33 = .ok (.iload_n 1, 1) := by decide +kernel
theorem dX5_lower_34 : decode cX5_lower 34 = .ok (.iconst 1, 1) := by decide +kernel
theorem dX5_lower_35 : decode cX5_lower 35 = .ok (.iadd, 1) := by decide +kernel
theorem dX5_lower_36 : decode cX5_lower 36 = .ok (.iconst 1, 1) := by decide +kernel
theorem dX5_lower_37 : decode cX5_lower 37 = .ok (.invokevirtual 138, 3) := by decide +kernel
theorem dX5_lower_40 : decode cX5_lower 40 = .ok (.bipush 12, 2) := by decide +kernel
theorem dX5_lower_42 : decode cX5_lower 42 = .ok (.aload_n 0, 1) := by decide +kernel
theorem dX5_lower_43 : decode cX5_lower 43 = .ok (.getfield 13, 3) := by decide +kernel
theorem dX5_lower_46 : decode cX5_lower 46 = .ok (.iload_n 1, 1) := by decide +kernel
theorem dX5_lower_47 : decode cX5_lower 47 = .ok (.iaload, 1) := by decide +kernel
theorem dX5_lower_48 : decode cX5_lower 48 = .ok (.iadd, 1) := by decide +kernel
theorem dX5_lower_49 : decode cX5_lower 49 = .ok (.istore_n 3, 1) := by decide +kernel
theorem dX5_lower_50 : decode cX5_lower 50 = .ok (.aload_n 0, 1) := by decide +kernel
theorem dX5_lower_51 : decode cX5_lower 51 = .ok (.getfield 41, 3) := by decide +kernel
theorem dX5_lower_54 : decode cX5_lower 54 = .ok (.iload_n 3, 1) := by decide +kernel
theorem dX5_lower_55 : decode cX5_lower 55 = .ok (.iaload, 1) := by decide +kernel
theorem dX5_lower_56 : decode cX5_lower 56 = .ok (.bipush (-2), 2) := by decide +kernel
theorem dX5_lower_58 : decode cX5_lower 58 = .ok (.if_icmp .eq 7, 3) := by decide +kernel
theorem dX5_lower_61 : decode cX5_lower 61 = .ok (.iconst 1, 1) := by decide +kernel
theorem dX5_lower_62 : decode cX5_lower 62 = .ok (.goto 4, 3) := by decide +kernel
theorem dX5_lower_65 : decode cX5_lower 65 = .ok (.iconst 0, 1) := by decide +kernel
theorem dX5_lower_66 : decode cX5_lower 66 = .ok (.istore_n 2, 1) := by decide +kernel
theorem dX5_lower_67 : decode cX5_lower 67 = .ok (.iload_n 2, 1) := by decide +kernel
theorem dX5_lower_68 : decode cX5_lower 68 = .ok (.ifCond .eq 56, 3) := by decide +kernel
theorem dX5_lower_71 : decode cX5_lower 71 = .ok (.aload_n 0, 1) := by decide +kernel
theorem dX5_lower_72 : decode cX5_lower 72 = .ok (.iload_n 3, 1) := by decide +kernel
theorem dX5_lower_73 : decode cX5_lower 73 = .ok (.aload_n 0, 1) := by decide +kernel
theorem dX5_lower_74 : decode cX5_lower 74 = .ok (.getfield 26, 3) := by decide +kernel
theorem dX5_lower_77 : decode cX5_lower 77 = .ok (.iload_n 1, 1) := by decide +kernel
theorem dX5_lower_78 : decode cX5_lower 78 = .ok (.iaload, 1) := by decide +kernel
theorem dX5_lower_79 : decode cX5_lower 79 = .ok (.invokevirtual 146, 3) := by decide +kernel
theorem dX5_lower_82 : decode cX5_lower 82 = .ok (.istore 4, 2) := by decide +kernel
theorem dX5_lower_84 : decode cX5_lower 84 = .ok (.aload_n 0, 1) := by decide +kernel
theorem dX5_lower_85 : decode cX5_lower 85 = .ok (.iload_n 3, 1) := by decide +kernel
theorem dX5_lower_86 : decode cX5_lower 86 = .ok (.iload 4, 2) := by decide +kernel
theorem dX5_lower_88 : decode cX5_lower 88 = .ok (.invokevirtual 149, 3) := by decide +kernel
theorem dX5_lower_91 : decode cX5_lower 91 = .ok (.istore 5, 2) := by decide +kernel
theorem dX5_lower_93 : decode cX5_lower 93 = .ok (.aload_n 0, 1) := by decide +kernel
theorem dX5_lower_94 : decode cX5_lower 94 = .ok (.getfield 26, 3) := by decide +kernel
theorem dX5_lower_97 : decode cX5_lower 97 = .ok (.iload_n 1, 1) := by decide +kernel
theorem dX5_lower_98 : decode cX5_lower 98 = .ok (.dup2, 1) := by decide +kernel
theorem dX5_lower_99 : decode cX5_lower 99 = .ok (.iaload, 1) := by decide +kernel
theorem dX5_lower_100 : decode cX5_lower 100 = .ok (.iload 4, 2) := by decide +kernel
theorem dX5_lower_102 : decode cX5_lower 102 = .ok (.isub, 1) := by decide +kernel
theorem dX5_lower_103 : decode cX5_lower 103 = .ok (.iastore, 1) := by decide +kernel
theorem dX5_lower_104 : decode cX5_lower 104 = .ok (.aload_n 0, 1) := by decide +kernel
theorem dX5_lower_105 : decode cX5_lower 105 = .ok (.getfield 26, 3) := by decide +kernel
theorem dX5_lower_108 : decode cX5_lower 108 = .ok (.iload_n 1, 1) := by decide +kernel
theorem dX5_lower_109 : decode cX5_lower 109 = .ok (.iaload, 1) := by decide +kernel
theorem dX5_lower_110 : decode cX5_lower 110 = .ok (.ifCond .le 12, 3) := by decide +kernel
theorem dX5_lower_113 : decode cX5_lower 113 = .ok (.iload 5, 2) := by decide +kernel
theorem dX5_lower_115 : decode cX5_lower 115 = .ok (.ifCond .lt 7, 3) := by decide +kernel
theorem dX5_lower_118 : decode cX5_lower 118 = .ok (.iconst 1, 1) := by decide +kernel
theorem dX5_lower_119 : decode cX5_lower 119 = .ok (.goto 4, 3) := by decide +kernel
theorem dX5_lower_122 : decode cX5_lower 122 = .ok (.iconst 0, 1) := by decide +kernel
theorem dX5_lower_123 : decode cX5_lower 123 = .ok (.istore_n 2, 1) := by decide +kernel
theorem dX5_lower_124 : decode cX5_lower 124 = .ok (.goto (-109), 3) := by decide +kernel
theorem dX5_lower_127 : decode cX5_lower 127 = .ok (.return_, 1) := by decide +kernel
theorem dX5_hasRow_0 : decode cX5_hasRow 0 = .ok (.aload_n 0, 1) := by decide +kernel
theorem dX5_hasRow_1 : decode cX5_hasRow 1 = .ok (.getfield 62, 3) := by decide +kernel
theorem dX5_hasRow_4 : decode cX5_hasRow 4 = .ok (.ifCond .ne 50, 3) := by decide +kernel
theorem dX5_hasRow_7 : decode cX5_hasRow 7 = .ok (.aload_n 0, 1) := by decide +kernel
theorem dX5_hasRow_8 : decode cX5_hasRow 8 = .ok (.aload_n 0, 1) := by decide +kernel
theorem dX5_hasRow_9 : decode cX5_hasRow 9 = .ok (.aload_n 0, 1) := by decide +kernel
theorem dX5_hasRow_10 : decode cX5_hasRow 10 = .ok (.getfield 20, 3) := by decide +kernel
theorem dX5_hasRow_13 : decode cX5_hasRow 13 = .ok (.invokevirtual 156, 3) := by decide +kernel
theorem dX5_hasRow_16 : decode cX5_hasRow 16 = .ok (.putfield 159, 3) := by decide +kernel
theorem dX5_hasRow_19 : decode cX5_hasRow 19 = .ok (.iconst 0, 1) := by decide +kernel
theorem dX5_hasRow_20 : decode cX5_hasRow 20 = .ok (.istore_n 1, 1) := by decide +kernel
theorem dX5_hasRow_21 : decode cX5_hasRow 21 = .ok (.iload_n 1, 1) := by decide +kernel
theorem dX5_hasRow_22 : decode cX5_hasRow 22 = .ok (.iconst 3, 1) := by decide +kernel
theorem dX5_hasRow_23 : decode cX5_hasRow 23 = .ok (.aload_n 0, 1) := by decide +kernel
theorem dX5_hasRow_24 : decode cX5_hasRow 24 = .ok (.getfield 53, 3) := by decide +kernel
theorem dX5_hasRow_27 : decode cX5_hasRow 27 = .ok (.imul, 1) := by decide +kernel
theorem dX5_hasRow_28 : decode cX5_hasRow 28 = .ok (.if_icmp .ge 21, 3) := by decide +kernel
theorem dX5_hasRow_31 : decode cX5_hasRow 31 = .ok (.aload_n 0, 1) := by decide +kernel
theorem dX5_hasRow_32 : decode cX5_hasRow 32 = .ok (.getfield 159, 3) := by decide +kernel
theorem dX5_hasRow_35 : decode cX5_hasRow 35 = .ok (.ifCond .eq 14, 3) := by decide +kernel
theorem dX5_hasRow_38 : decode cX5_hasRow 38 = .ok (.aload_n 0, 1) := by decide +kernel
theorem dX5_hasRow_39 : decode cX5_hasRow 39 = .ok (.iload_n 1, 1) := by decide +kernel
theorem dX5_hasRow_40 : decode cX5_hasRow 40 = .ok (.invokevirtual 162, 3) := by decide +kernel
theorem dX5_hasRow_43 : decode cX5_hasRow 43 = .ok (.iinc 1 1, 3) := by decide +kernel
theorem dX5_hasRow_46 : decode cX5_hasRow 46 = .ok (.goto (-25), 3) := by decide +kernel
theorem dX5_hasRow_49 : decode cX5_hasRow 49 = .ok (.aload_n 0, 1) := by decide +kernel
theorem dX5_hasRow_50 : decode cX5_hasRow 50 = .ok (.iconst 1, 1) := by decide +kernel
theorem dX5_hasRow_51 : decode cX5_hasRow 51 = .ok (.putfield 62, 3) := by decide +kernel
theorem dX5_hasRow_54 : decode cX5_hasRow 54 = .ok (.aload_n 0, 1) := by decide +kernel
theorem dX5_hasRow_55 : decode cX5_hasRow 55 = .ok (.getfield 159, 3) := by decide +kernel
theorem dX5_hasRow_58 : decode cX5_hasRow 58 = .ok (.ireturn, 1) := by decide +kernel
theorem dX5_can_0 : decode cX5_can 0 = .ok (.aload_n 0, 1) := by decide +kernel
theorem dX5_can_1 : decode cX5_can 1 = .ok (.invokevirtual 109, 3) := by decide +kernel
theorem dX5_can_4 : decode cX5_can 4 = .ok (.ifCond .eq 7, 3) := by decide +kernel
theorem dX5_can_7 : decode cX5_can 7 = .ok (.iconst 1, 1) := by decide +kernel
theorem dX5_can_8 : decode cX5_can 8 = .ok (.goto 4, 3) := by decide +kernel
theorem dX5_can_11 : decode cX5_can 11 = .ok (.iconst 0, 1) := by decide +kernel
theorem dX5_can_12 : decode cX5_can 12 = .ok (.ireturn, 1) := by decide +kernel
theorem dX5_angle_0 : decode cX5_angle 0 = .ok (.iload_n 1, 1) := by decide +kernel
theorem dX5_angle_1 : decode cX5_angle 1 = .ok (.iconst 0, 1) := by decide +kernel
theorem dX5_angle_2 : decode cX5_angle 2 = .ok (.iconst 3, 1) := by decide +kernel
theorem dX5_angle_3 : decode cX5_angle 3 = .ok (.aload_n 0, 1) := by decide +kernel
theorem dX5_angle_4 : decode cX5_angle 4 = .ok (.getfield 53, 3) := by decide +kernel
theorem dX5_angle_7 : decode cX5_angle 7 = .ok (.imul, 1) := by decide +kernel
theorem dX5_angle_8 : decode cX5_angle 8 = .ok (.iconst 1, 1) := by decide +kernel
theorem dX5_angle_9 : decode cX5_angle 9 = .ok (.isub, 1) := by decide +kernel
theorem dX5_angle_10 : decode cX5_angle 10 = .ok (.invokestatic 66, 3) := by decide +kernel
theorem dX5_angle_13 : decode cX5_angle 13 = .ok (.ifCond .ne 5, 3) := by decide +kernel
theorem dX5_angle_16 : decode cX5_angle 16 = .ok (.iconst (-1), 1) := by decide +kernel
theorem dX5_angle_17 : decode cX5_angle 17 = .ok (.ireturn, 1) := by decide +kernel
theorem dX5_angle_18 : decode cX5_angle 18 = .ok (.aload_n 0, 1) := by decide +kernel
theorem dX5_angle_19 : decode cX5_angle 19 = .ok (.invokevirtual 109, 3) := by decide +kernel
theorem dX5_angle_22 : decode cX5_angle 22 = .ok (.ifCond .eq 17, 3) := by decide +kernel
theorem dX5_angle_25 : decode cX5_angle 25 = .ok (.aload_n 0, 1) := by decide +kernel
theorem dX5_angle_26 : decode cX5_angle 26 = .ok (.getfield 20, 3) := by decide +kernel
theorem dX5_angle_29 : decode cX5_angle 29 = .ok (.aload_n 0, 1) := by decide +kernel
theorem dX5_angle_30 : decode cX5_angle 30 = .ok (.getfield 26, 3) := by decide +kernel
theorem dX5_angle_33 : decode cX5_angle 33 = .ok (.iload_n 1, 1) := by decide +kernel
theorem dX5_angle_34 : decode cX5_angle 34 = .ok (.iaload, 1) := by decide +kernel
theorem dX5_angle_35 : decode cX5_angle 35 = .ok (.iadd, 1) := by decide +kernel
theorem dX5_angle_36 : decode cX5_angle 36 = .ok (.goto 5, 3) := by decide +kernel
theorem dX5_angle_39 : decode cX5_angle 39 = .ok (.bipush (-6), 2) := by decide +kernel
theorem dX5_angle_41 : decode cX5_angle 41 = .ok (.ireturn, 1) := by decide +kernel
theorem dX5_best_0 : decode cX5_best 0 = .ok (.aload_n 0, 1) := by decide +kernel
theorem dX5_best_1 : decode cX5_best 1 = .ok (.iconst 0, 1) := by decide +kernel
theorem dX5_best_2 : decode cX5_best 2 = .ok (.putfield 62, 3) := by decide +kernel
theorem dX5_best_5 : decode cX5_best 5 = .ok (.bipush 60, 2) := by decide +kernel
theorem dX5_best_7 : decode cX5_best 7 = .ok (.istore_n 1, 1) := by decide +kernel
theorem dX5_best_8 : decode cX5_best 8 = .ok (.iload_n 1, 1) := by decide +kernel
theorem dX5_best_9 : decode cX5_best 9 = .ok (.iconst 1, 1) := by decide +kernel
theorem dX5_best_10 : decode cX5_best 10 = .ok (.if_icmp .lt 29, 3) := by decide +kernel
theorem dX5_best_13 : decode cX5_best 13 = .ok (.iconst 3, 1) := by decide +kernel
theorem dX5_best_14 : decode cX5_best 14 = .ok (.iload_n 1, 1) := by decide +kernel
theorem dX5_best_15 : decode cX5_best 15 = .ok (.imul, 1) := by decide +kernel
theorem dX5_best_16 : decode cX5_best 16 = .ok (.aload_n 0, 1) := by decide +kernel
theorem dX5_best_17 : decode cX5_best 17 = .ok (.getfield 17, 3) := by decide +kernel
theorem dX5_best_20 : decode cX5_best 20 = .ok (.if_icmp .gt 13, 3) := by decide +kernel
theorem dX5_best_23 : decode cX5_best 23 = .ok (.aload_n 0, 1) := by decide +kernel
theorem dX5_best_24 : decode cX5_best 24 = .ok (.iload_n 1, 1) := by decide +kernel
theorem dX5_best_25 : decode cX5_best 25 = .ok (.invokevirtual 156, 3) := by decide +kernel
theorem dX5_best_28 : decode cX5_best 28 = .ok (.ifCond .eq 5, 3) := by decide +kernel
theorem dX5_best_31 : decode cX5_best 31 = .ok (.iload_n 1, 1) := by decide +kernel
theorem dX5_best_32 : decode cX5_best 32 = .ok (.ireturn, 1) := by decide +kernel
theorem dX5_best_33 : decode cX5_best 33 = .ok (.iinc 1 (-1), 3) := by decide +kernel
theorem dX5_best_36 : decode cX5_best 36 = .ok (.goto (-28), 3) := by decide +kernel
theorem dX5_best_39 : decode cX5_best 39 = .ok (.bipush (-6), 2) := by decide +kernel
theorem dX5_best_41 : decode cX5_best 41 = .ok (.ireturn, 1) := by decide +kernel
theorem dX5_bits_0 : decode cX5_bits 0 = .ok (.iconst 0, 1) := by decide +kernel
theorem dX5_bits_1 : decode cX5_bits 1 = .ok (.istore_n 1, 1) := by decide +kernel
theorem dX5_bits_2 : decode cX5_bits 2 = .ok (.iconst 0, 1) := by decide +kernel
theorem dX5_bits_3 : decode cX5_bits 3 = .ok (.istore_n 2, 1) := by decide +kernel
theorem dX5_bits_4 : decode cX5_bits 4 = .ok (.iload_n 2, 1) := by decide +kernel
theorem dX5_bits_5 : decode cX5_bits 5 = .ok (.bipush 12, 2) := by decide +kernel
theorem dX5_bits_7 : decode cX5_bits 7 = .ok (.if_icmp .ge 17, 3) := by decide +kernel
theorem dX5_bits_10 : decode cX5_bits 10 = .ok (.iload_n 1, 1) := by decide +kernel
theorem dX5_bits_11 : decode cX5_bits 11 = .ok (.iload_n 0, 1) := by decide +kernel
theorem dX5_bits_12 : decode cX5_bits 12 = .ok (.iload_n 2, 1) := by decide +kernel
theorem dX5_bits_13 : decode cX5_bits 13 = .ok (.ishr, 1) := by decide +kernel
theorem dX5_bits_14 : decode cX5_bits 14 = .ok (.iconst 1, 1) := by decide +kernel
theorem dX5_bits_15 : decode cX5_bits 15 = .ok (.iand, 1) := by decide +kernel
theorem dX5_bits_16 : decode cX5_bits 16 = .ok (.iadd, 1) := by decide +kernel
theorem dX5_bits_17 : decode cX5_bits 17 = .ok (.istore_n 1, 1) := by decide +kernel
theorem dX5_bits_18 : decode cX5_bits 18 = .ok (.iinc 2 1, 3) := by decide +kernel
theorem dX5_bits_21 : decode cX5_bits 21 = .ok (.goto (-17), 3) := by decide +kernel
theorem dX5_bits_24 : decode cX5_bits 24 = .ok (.iload_n 1, 1) := by decide +kernel
theorem dX5_bits_25 : decode cX5_bits 25 = .ok (.ireturn, 1) := by decide +kernel
theorem dX5_thirdsBar_0 : decode cX5_thirdsBar 0 = .ok (.iconst 0, 1) := by decide +kernel
theorem dX5_thirdsBar_1 : decode cX5_thirdsBar 1 = .ok (.istore_n 2, 1) := by decide +kernel
theorem dX5_thirdsBar_2 : decode cX5_thirdsBar 2 = .ok (.iconst 0, 1) := by decide +kernel
theorem dX5_thirdsBar_3 : decode cX5_thirdsBar 3 = .ok (.istore_n 3, 1) := by decide +kernel
theorem dX5_thirdsBar_4 : decode cX5_thirdsBar 4 = .ok (.iload_n 3, 1) := by decide +kernel
theorem dX5_thirdsBar_5 : decode cX5_thirdsBar 5 = .ok (.iconst 3, 1) := by decide +kernel
theorem dX5_thirdsBar_6 : decode cX5_thirdsBar 6 = .ok (.aload_n 0, 1) := by decide +kernel
theorem dX5_thirdsBar_7 : decode cX5_thirdsBar 7 = .ok (.getfield 53, 3) := by decide +kernel
theorem dX5_thirdsBar_10 : decode cX5_thirdsBar 10 = .ok (.imul, 1) := by decide +kernel
theorem dX5_thirdsBar_11 : decode cX5_thirdsBar 11 = .ok (.if_icmp .ge 49, 3) := by decide +kernel
