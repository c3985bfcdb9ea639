theorem dX5_thirdsBar_14 : decode cX5_thirdsBar 14 = .ok (.iload_n 1, 1) := by decide +kernel
theorem dX5_thirdsBar_15 : decode cX5_thirdsBar 15 = .ok (.iload_n 3, 1) := by decide +kernel
theorem dX5_thirdsBar_16 : decode cX5_thirdsBar 16 = .ok (.iconst 3, 1) := by decide +kernel
theorem dX5_thirdsBar_17 : decode cX5_thirdsBar 17 = .ok (.idiv, 1) := by decide +kernel
theorem dX5_thirdsBar_18 : decode cX5_thirdsBar 18 = .ok (.ishr, 1) := by decide +kernel
theorem dX5_thirdsBar_19 : decode cX5_thirdsBar 19 = .ok (.iconst 1, 1) := by decide +kernel
theorem dX5_thirdsBar_20 : decode cX5_thirdsBar 20 = .ok (.iand, 1) := by decide +kernel
theorem dX5_thirdsBar_21 : decode cX5_thirdsBar 21 = .ok (.iconst 1, 1) := by decide +kernel
theorem dX5_thirdsBar_22 : decode cX5_thirdsBar 22 = .ok (.if_icmp .ne 32, 3) := by decide +kernel
theorem dX5_thirdsBar_25 : decode cX5_thirdsBar 25 = .ok (.aload_n 0, 1) := by decide +kernel
theorem dX5_thirdsBar_26 : decode cX5_thirdsBar 26 = .ok (.getfield 23, 3) := by decide +kernel
theorem dX5_thirdsBar_29 : decode cX5_thirdsBar 29 = .ok (.aload_n 0, 1) := by decide +kernel
theorem dX5_thirdsBar_30 : decode cX5_thirdsBar 30 = .ok (.getfield 13, 3) := by decide +kernel
theorem dX5_thirdsBar_33 : decode cX5_thirdsBar 33 = .ok (.iload_n 3, 1) := by decide +kernel
theorem dX5_thirdsBar_34 : decode cX5_thirdsBar 34 = .ok (.iaload, 1) := by decide +kernel
theorem dX5_thirdsBar_35 : decode cX5_thirdsBar 35 = .ok (.iaload, 1) := by decide +kernel
theorem dX5_thirdsBar_36 : decode cX5_thirdsBar 36 = .ok (.bipush (-6), 2) := by decide +kernel
theorem dX5_thirdsBar_38 : decode cX5_thirdsBar 38 = .ok (.if_icmp .ne 5, 3) := by decide +kernel
theorem dX5_thirdsBar_41 : decode cX5_thirdsBar 41 = .ok (.iconst 0, 1) := by decide +kernel
theorem dX5_thirdsBar_42 : decode cX5_thirdsBar 42 = .ok (.ireturn, 1) := by decide +kernel
theorem dX5_thirdsBar_43 : decode cX5_thirdsBar 43 = .ok (.iload_n 2, 1) := by decide +kernel
theorem dX5_thirdsBar_44 : decode cX5_thirdsBar 44 = .ok (.iconst 1, 1) := by decide +kernel
theorem dX5_thirdsBar_45 : decode cX5_thirdsBar 45 = .ok (.aload_n 0, 1) := by decide +kernel
theorem dX5_thirdsBar_46 : decode cX5_thirdsBar 46 = .ok (.getfield 13, 3) := by decide +kernel
theorem dX5_thirdsBar_49 : decode cX5_thirdsBar 49 = .ok (.iload_n 3, 1) := by decide +kernel
theorem dX5_thirdsBar_50 : decode cX5_thirdsBar 50 = .ok (.iaload, 1) := by decide +kernel
theorem dX5_thirdsBar_51 : decode cX5_thirdsBar 51 = .ok (.ishl, 1) := by decide +kernel
theorem dX5_thirdsBar_52 : decode cX5_thirdsBar 52 = .ok (.ior, 1) := by decide +kernel
theorem dX5_thirdsBar_53 : decode cX5_thirdsBar 53 = .ok (.istore_n 2, 1) := by decide +kernel
theorem dX5_thirdsBar_54 : decode cX5_thirdsBar 54 = .ok (.iinc 3 1, 3) := by decide +kernel
theorem dX5_thirdsBar_57 : decode cX5_thirdsBar 57 = .ok (.goto (-53), 3) := by decide +kernel
theorem dX5_thirdsBar_60 : decode cX5_thirdsBar 60 = .ok (.iconst 0, 1) := by decide +kernel
theorem dX5_thirdsBar_61 : decode cX5_thirdsBar 61 = .ok (.istore_n 3, 1) := by decide +kernel
theorem dX5_thirdsBar_62 : decode cX5_thirdsBar 62 = .ok (.iconst 0, 1) := by decide +kernel
theorem dX5_thirdsBar_63 : decode cX5_thirdsBar 63 = .ok (.istore 4, 2) := by decide +kernel
theorem dX5_thirdsBar_65 : decode cX5_thirdsBar 65 = .ok (.iload 4, 2) := by decide +kernel
theorem dX5_thirdsBar_67 : decode cX5_thirdsBar 67 = .ok (.aload_n 0, 1) := by decide +kernel
theorem dX5_thirdsBar_68 : decode cX5_thirdsBar 68 = .ok (.getfield 7, 3) := by decide +kernel
theorem dX5_thirdsBar_71 : decode cX5_thirdsBar 71 = .ok (.if_icmp .ge 33, 3) := by decide +kernel
theorem dX5_thirdsBar_74 : decode cX5_thirdsBar 74 = .ok (.iload_n 3, 1) := by decide +kernel
theorem dX5_thirdsBar_75 : decode cX5_thirdsBar 75 = .ok (.iload_n 2, 1) := by decide +kernel
theorem dX5_thirdsBar_76 : decode cX5_thirdsBar 76 = .ok (.iload 4, 2) := by decide +kernel
theorem dX5_thirdsBar_78 : decode cX5_thirdsBar 78 = .ok (.ishr, 1) := by decide +kernel
theorem dX5_thirdsBar_79 : decode cX5_thirdsBar 79 = .ok (.iconst 1, 1) := by decide +kernel
theorem dX5_thirdsBar_80 : decode cX5_thirdsBar 80 = .ok (.iand, 1) := by decide +kernel
theorem dX5_thirdsBar_81 : decode cX5_thirdsBar 81 = .ok (.iconst 1, 1) := by decide +kernel
theorem dX5_thirdsBar_82 : decode cX5_thirdsBar 82 = .ok (.if_icmp .ne 13, 3) := by decide +kernel
theorem dX5_thirdsBar_85 : decode cX5_thirdsBar 85 = .ok (.aload_n 0, 1) := by decide +kernel
theorem dX5_thirdsBar_86 : decode cX5_thirdsBar 86 = .ok (.getfield 23, 3) := by decide +kernel
theorem dX5_thirdsBar_89 : decode cX5_thirdsBar 89 = .ok (.iload 4, 2) := by decide +kernel
theorem dX5_thirdsBar_91 : decode cX5_thirdsBar 91 = .ok (.iaload, 1) := by decide +kernel
theorem dX5_thirdsBar_92 : decode cX5_thirdsBar 92 = .ok (.goto 4, 3) := by decide +kernel
theorem dX5_thirdsBar_95 : decode cX5_thirdsBar 95 = .ok (.iconst 0, 1) := by decide +kernel
theorem dX5_thirdsBar_96 : decode cX5_thirdsBar 96 = .ok (.iadd, 1) := by decide +kernel
theorem dX5_thirdsBar_97 : decode cX5_thirdsBar 97 = .ok (.istore_n 3, 1) := by decide +kernel
theorem dX5_thirdsBar_98 : decode cX5_thirdsBar 98 = .ok (.iinc 4 1, 3) := by decide +kernel
theorem dX5_thirdsBar_101 : decode cX5_thirdsBar 101 = .ok (.goto (-36), 3) := by decide +kernel
theorem dX5_thirdsBar_104 : decode cX5_thirdsBar 104 = .ok (.iconst 0, 1) := by decide +kernel
theorem dX5_thirdsBar_105 : decode cX5_thirdsBar 105 = .ok (.istore 4, 2) := by decide +kernel
theorem dX5_thirdsBar_107 : decode cX5_thirdsBar 107 = .ok (.iload 4, 2) := by decide +kernel
theorem dX5_thirdsBar_109 : decode cX5_thirdsBar 109 = .ok (.iconst 3, 1) := by decide +kernel
theorem dX5_thirdsBar_110 : decode cX5_thirdsBar 110 = .ok (.aload_n 0, 1) := by decide +kernel
theorem dX5_thirdsBar_111 : decode cX5_thirdsBar 111 = .ok (.getfield 53, 3) := by decide +kernel
theorem dX5_thirdsBar_114 : decode cX5_thirdsBar 114 = .ok (.imul, 1) := by decide +kernel
theorem dX5_thirdsBar_115 : decode cX5_thirdsBar 115 = .ok (.if_icmp .ge 46, 3) := by decide +kernel
theorem dX5_thirdsBar_118 : decode cX5_thirdsBar 118 = .ok (.iload_n 3, 1) := by decide +kernel
theorem dX5_thirdsBar_119 : decode cX5_thirdsBar 119 = .ok (.iload_n 1, 1) := by decide +kernel
theorem dX5_thirdsBar_120 : decode cX5_thirdsBar 120 = .ok (.iload 4, 2) := by decide +kernel
theorem dX5_thirdsBar_122 : decode cX5_thirdsBar 122 = .ok (.iconst 3, 1) := by decide +kernel
theorem dX5_thirdsBar_123 : decode cX5_thirdsBar 123 = .ok (.idiv, 1) := by decide +kernel
theorem dX5_thirdsBar_124 : decode cX5_thirdsBar 124 = .ok (.ishr, 1) := by decide +kernel
theorem dX5_thirdsBar_125 : decode cX5_thirdsBar 125 = .ok (.iconst 1, 1) := by decide +kernel
theorem dX5_thirdsBar_126 : decode cX5_thirdsBar 126 = .ok (.iand, 1) := by decide +kernel
theorem dX5_thirdsBar_127 : decode cX5_thirdsBar 127 = .ok (.ifCond .ne 25, 3) := by decide +kernel
theorem dX5_thirdsBar_130 : decode cX5_thirdsBar 130 = .ok (.iload_n 2, 1) := by decide +kernel
theorem dX5_thirdsBar_131 : decode cX5_thirdsBar 131 = .ok (.aload_n 0, 1) := by decide +kernel
theorem dX5_thirdsBar_132 : decode cX5_thirdsBar 132 = .ok (.getfield 13, 3) := by decide +kernel
theorem dX5_thirdsBar_135 : decode cX5_thirdsBar 135 = .ok (.iload 4, 2) := by decide +kernel
theorem dX5_thirdsBar_137 : decode cX5_thirdsBar 137 = .ok (.iaload, 1) := by decide +kernel
theorem dX5_thirdsBar_138 : decode cX5_thirdsBar 138 = .ok (.ishr, 1) := by decide +kernel
theorem dX5_thirdsBar_139 : decode cX5_thirdsBar 139 = .ok (.iconst 1, 1) := by decide +kernel
theorem dX5_thirdsBar_140 : decode cX5_thirdsBar 140 = .ok (.iand, 1) := by decide +kernel
theorem dX5_thirdsBar_141 : decode cX5_thirdsBar 141 = .ok (.iconst 1, 1) := by decide +kernel
theorem dX5_thirdsBar_142 : decode cX5_thirdsBar 142 = .ok (.if_icmp .ne 10, 3) := by decide +kernel
theorem dX5_thirdsBar_145 : decode cX5_thirdsBar 145 = .ok (.aload_n 0, 1) := by decide +kernel
theorem dX5_thirdsBar_146 : decode cX5_thirdsBar 146 = .ok (.getfield 20, 3) := by decide +kernel
theorem dX5_thirdsBar_149 : decode cX5_thirdsBar 149 = .ok (.goto 4, 3) := by decide +kernel
theorem dX5_thirdsBar_152 : decode cX5_thirdsBar 152 = .ok (.iconst 0, 1) := by decide +kernel
theorem dX5_thirdsBar_153 : decode cX5_thirdsBar 153 = .ok (.isub, 1) := by decide +kernel
theorem dX5_thirdsBar_154 : decode cX5_thirdsBar 154 = .ok (.istore_n 3, 1) := by decide +kernel
theorem dX5_thirdsBar_155 : decode cX5_thirdsBar 155 = .ok (.iinc 4 1, 3) := by decide +kernel
theorem dX5_thirdsBar_158 : decode cX5_thirdsBar 158 = .ok (.goto (-51), 3) := by decide +kernel
theorem dX5_thirdsBar_161 : decode cX5_thirdsBar 161 = .ok (.aload_n 0, 1) := by decide +kernel
theorem dX5_thirdsBar_162 : decode cX5_thirdsBar 162 = .ok (.getfield 17, 3) := by decide +kernel
theorem dX5_thirdsBar_165 : decode cX5_thirdsBar 165 = .ok (.iload_n 1, 1) := by decide +kernel
theorem dX5_thirdsBar_166 : decode cX5_thirdsBar 166 = .ok (.invokestatic 166, 3) := by decide +kernel
theorem dX5_thirdsBar_169 : decode cX5_thirdsBar 169 = .ok (.imul, 1) := by decide +kernel
theorem dX5_thirdsBar_170 : decode cX5_thirdsBar 170 = .ok (.iload_n 3, 1) := by decide +kernel
theorem dX5_thirdsBar_171 : decode cX5_thirdsBar 171 = .ok (.if_icmp .le 7, 3) := by decide +kernel
theorem dX5_thirdsBar_174 : decode cX5_thirdsBar 174 = .ok (.iconst 1, 1) := by decide +kernel
theorem dX5_thirdsBar_175 : decode cX5_thirdsBar 175 = .ok (.goto 4, 3) := by decide +kernel
theorem dX5_thirdsBar_178 : decode cX5_thirdsBar 178 = .ok (.iconst 0, 1) := by decide +kernel
theorem dX5_thirdsBar_179 : decode cX5_thirdsBar 179 = .ok (.ireturn, 1) := by decide +kernel
theorem dX5_postsBar_0 : decode cX5_postsBar 0 = .ok (.iconst 0, 1) := by decide +kernel
theorem dX5_postsBar_1 : decode cX5_postsBar 1 = .ok (.istore_n 3, 1) := by decide +kernel
theorem dX5_postsBar_2 : decode cX5_postsBar 2 = .ok (.iconst 0, 1) := by decide +kernel
theorem dX5_postsBar_3 : decode cX5_postsBar 3 = .ok (.istore 4, 2) := by decide +kernel
theorem dX5_postsBar_5 : decode cX5_postsBar 5 = .ok (.iload 4, 2) := by decide +kernel
theorem dX5_postsBar_7 : decode cX5_postsBar 7 = .ok (.aload_n 0, 1) := by decide +kernel
theorem dX5_postsBar_8 : decode cX5_postsBar 8 = .ok (.getfield 7, 3) := by decide +kernel
theorem dX5_postsBar_11 : decode cX5_postsBar 11 = .ok (.if_icmp .ge 43, 3) := by decide +kernel
theorem dX5_postsBar_14 : decode cX5_postsBar 14 = .ok (.iload_n 1, 1) := by decide +kernel
theorem dX5_postsBar_15 : decode cX5_postsBar 15 = .ok (.iload 4, 2) := by decide +kernel
theorem dX5_postsBar_17 : decode cX5_postsBar 17 = .ok (.ishr, 1) := by decide +kernel
theorem dX5_postsBar_18 : decode cX5_postsBar 18 = .ok (.iconst 1, 1) := by decide +kernel
theorem dX5_postsBar_19 : decode cX5_postsBar 19 = .ok (.iand, 1) := by decide +kernel
theorem dX5_postsBar_20 : decode cX5_postsBar 20 = .ok (.iconst 1, 1) := by decide +kernel
theorem dX5_postsBar_21 : decode cX5_postsBar 21 = .ok (.if_icmp .ne 27, 3) := by decide +kernel
theorem dX5_postsBar_24 : decode cX5_postsBar 24 = .ok (.aload_n 0, 1) := by decide +kernel
theorem dX5_postsBar_25 : decode cX5_postsBar 25 = .ok (.getfield 23, 3) := by decide +kernel
theorem dX5_postsBar_28 : decode cX5_postsBar 28 = .ok (.iload 4, 2) := by decide +kernel
theorem dX5_postsBar_30 : decode cX5_postsBar 30 = .ok (.iaload, 1) := by decide +kernel
theorem dX5_postsBar_31 : decode cX5_postsBar 31 = .ok (.bipush (-6), 2) := by decide +kernel
theorem dX5_postsBar_33 : decode cX5_postsBar 33 = .ok (.if_icmp .ne 5, 3) := by decide +kernel
theorem dX5_postsBar_36 : decode cX5_postsBar 36 = .ok (.iconst 0, 1) := by decide +kernel
theorem dX5_postsBar_37 : decode cX5_postsBar 37 = .ok (.ireturn, 1) := by decide +kernel
theorem dX5_postsBar_38 : decode cX5_postsBar 38 = .ok (.iload_n 3, 1) := by decide +kernel
theorem dX5_postsBar_39 : decode cX5_postsBar 39 = .ok (.aload_n 0, 1) := by decide +kernel
theorem dX5_postsBar_40 : decode cX5_postsBar 40 = .ok (.getfield 23, 3) := by decide +kernel
theorem dX5_postsBar_43 : decode cX5_postsBar 43 = .ok (.iload 4, 2) := by decide +kernel
theorem dX5_postsBar_45 : decode cX5_postsBar 45 = .ok (.iaload, 1) := by decide +kernel
theorem dX5_postsBar_46 : decode cX5_postsBar 46 = .ok (.iadd, 1) := by decide +kernel
theorem dX5_postsBar_47 : decode cX5_postsBar 47 = .ok (.istore_n 3, 1) := by decide +kernel
theorem dX5_postsBar_48 : decode cX5_postsBar 48 = .ok (.iinc 4 1, 3) := by decide +kernel
theorem dX5_postsBar_51 : decode cX5_postsBar 51 = .ok (.goto (-46), 3) := by decide +kernel
theorem dX5_postsBar_54 : decode cX5_postsBar 54 = .ok (.iconst 0, 1) := by decide +kernel
theorem dX5_postsBar_55 : decode cX5_postsBar 55 = .ok (.istore 4, 2) := by decide +kernel
theorem dX5_postsBar_57 : decode cX5_postsBar 57 = .ok (.iconst 0, 1) := by decide +kernel
theorem dX5_postsBar_58 : decode cX5_postsBar 58 = .ok (.istore 5, 2) := by decide +kernel
theorem dX5_postsBar_60 : decode cX5_postsBar 60 = .ok (.iconst 0, 1) := by decide +kernel
theorem dX5_postsBar_61 : decode cX5_postsBar 61 = .ok (.istore 6, 2) := by decide +kernel
theorem dX5_postsBar_63 : decode cX5_postsBar 63 = .ok (.iload 6, 2) := by decide +kernel
theorem dX5_postsBar_65 : decode cX5_postsBar 65 = .ok (.aload_n 0, 1) := by decide +kernel
theorem dX5_postsBar_66 : decode cX5_postsBar 66 = .ok (.getfield 53, 3) := by decide +kernel
theorem dX5_postsBar_69 : decode cX5_postsBar 69 = .ok (.if_icmp .ge 101, 3) := by decide +kernel
theorem dX5_postsBar_72 : decode cX5_postsBar 72 = .ok (.iconst 0, 1) := by decide +kernel
theorem dX5_postsBar_73 : decode cX5_postsBar 73 = .ok (.istore 7, 2) := by decide +kernel
theorem dX5_postsBar_75 : decode cX5_postsBar 75 = .ok (.iconst 0, 1) := by decide +kernel
theorem dX5_postsBar_76 : decode cX5_postsBar 76 = .ok (.istore 8, 2) := by decide +kernel
theorem dX5_postsBar_78 : decode cX5_postsBar 78 = .ok (.iload 8, 2) := by decide +kernel
theorem dX5_postsBar_80 : decode cX5_postsBar 80 = .ok (.iconst 3, 1) := by decide +kernel
theorem dX5_postsBar_81 : decode cX5_postsBar 81 = .ok (.if_icmp .ge 30, 3) := by decide +kernel
theorem dX5_postsBar_84 : decode cX5_postsBar 84 = .ok (.iload 7, 2) := by decide +kernel
theorem dX5_postsBar_86 : decode cX5_postsBar 86 = .ok (.iload_n 1, 1) := by decide +kernel
theorem dX5_postsBar_87 : decode cX5_postsBar 87 = .ok (.aload_n 0, 1) := by decide +kernel
theorem dX5_postsBar_88 : decode cX5_postsBar 88 = .ok (.getfield 13, 3) := by decide +kernel
theorem dX5_postsBar_91 : decode cX5_postsBar 91 = .ok (.iconst 3, 1) := by decide +kernel
theorem dX5_postsBar_92 : decode cX5_postsBar 92 = .ok (.iload 6, 2) := by decide +kernel
theorem dX5_postsBar_94 : decode cX5_postsBar 94 = .ok (.imul, 1) := by decide +kernel
theorem dX5_postsBar_95 : decode cX5_postsBar 95 = .ok (.iload 8, 2) := by decide +kernel
theorem dX5_postsBar_97 : decode cX5_postsBar 97 = .ok (.iadd, 1) := by decide +kernel
theorem dX5_postsBar_98 : decode cX5_postsBar 98 = .ok (.iaload, 1) := by decide +kernel
theorem dX5_postsBar_99 : decode cX5_postsBar 99 = .ok (.ishr, 1) := by decide +kernel
theorem dX5_postsBar_100 : decode cX5_postsBar 100 = .ok (.iconst 1, 1) := by decide +kernel
theorem dX5_postsBar_101 : decode cX5_postsBar 101 = .ok (.iand, 1) := by decide +kernel
theorem dX5_postsBar_102 : decode cX5_postsBar 102 = .ok (.iadd, 1) := by decide +kernel
theorem dX5_postsBar_103 : decode cX5_postsBar 103 = .ok (.istore 7, 2) := by decide +kernel
theorem dX5_postsBar_105 : decode cX5_postsBar 105 = .ok (.iinc 8 1, 3) := by decide +kernel
theorem dX5_postsBar_108 : decode cX5_postsBar 108 = .ok (.goto (-30), 3) := by decide +kernel
theorem dX5_postsBar_111 : decode cX5_postsBar 111 = .ok (.iload 4, 2) := by decide +kernel
theorem dX5_postsBar_113 : decode cX5_postsBar 113 = .ok (.iload 7, 2) := by decide +kernel
theorem dX5_postsBar_115 : decode cX5_postsBar 115 = .ok (.ifCond .ne 7, 3) := by decide +kernel
theorem dX5_postsBar_118 : decode cX5_postsBar 118 = .ok (.iconst 0, 1) := by decide +kernel
theorem dX5_postsBar_119 : decode cX5_postsBar 119 = .ok (.goto 17, 3) := by decide +kernel
theorem dX5_postsBar_122 : decode cX5_postsBar 122 = .ok (.aload_n 0, 1) := by decide +kernel
theorem dX5_postsBar_123 : decode cX5_postsBar 123 = .ok (.getfield 17, 3) := by decide +kernel
theorem dX5_postsBar_126 : decode cX5_postsBar 126 = .ok (.aload_n 0, 1) := by decide +kernel
theorem dX5_postsBar_127 : decode cX5_postsBar 127 = .ok (.getfield 20, 3) := by decide +kernel
theorem dX5_postsBar_130 : decode cX5_postsBar 130 = .ok (.iconst 3, 1) := by decide +kernel
theorem dX5_postsBar_131 : decode cX5_postsBar 131 = .ok (.iload 7, 2) := by decide +kernel
theorem dX5_postsBar_133 : decode cX5_postsBar 133 = .ok (.isub, 1) := by decide +kernel
theorem dX5_postsBar_134 : decode cX5_postsBar 134 = .ok (.imul, 1) := by decide +kernel
theorem dX5_postsBar_135 : decode cX5_postsBar 135 = .ok (.isub, 1) := by decide +kernel
theorem dX5_postsBar_136 : decode cX5_postsBar 136 = .ok (.iadd, 1) := by decide +kernel
theorem dX5_postsBar_137 : decode cX5_postsBar 137 = .ok (.istore 4, 2) := by decide +kernel
theorem dX5_postsBar_139 : decode cX5_postsBar 139 = .ok (.iload 5, 2) := by decide +kernel
theorem dX5_postsBar_141 : decode cX5_postsBar 141 = .ok (.iload 7, 2) := by decide +kernel
theorem dX5_postsBar_143 : decode cX5_postsBar 143 = .ok (.iconst 3, 1) := by decide +kernel
theorem dX5_postsBar_144 : decode cX5_postsBar 144 = .ok (.if_icmp .ne 10, 3) := by decide +kernel
theorem dX5_postsBar_147 : decode cX5_postsBar 147 = .ok (.aload_n 0, 1) := by decide +kernel
theorem dX5_postsBar_148 : decode cX5_postsBar 148 = .ok (.getfield 17, 3) := by decide +kernel
theorem dX5_postsBar_151 : decode cX5_postsBar 151 = .ok (.goto 10, 3) := by decide +kernel
theorem dX5_postsBar_154 : decode cX5_postsBar 154 = .ok (.aload_n 0, 1) := by decide +kernel
theorem dX5_postsBar_155 : decode cX5_postsBar 155 = .ok (.getfield 20, 3) := by decide +kernel
theorem dX5_postsBar_158 : decode cX5_postsBar 158 = .ok (.iload 7, 2) := by decide +kernel
theorem dX5_postsBar_160 : decode cX5_postsBar 160 = .ok (.imul, 1) := by decide +kernel
theorem dX5_postsBar_161 : decode cX5_postsBar 161 = .ok (.iadd, 1) := by decide +kernel
theorem dX5_postsBar_162 : decode cX5_postsBar 162 = .ok (.istore 5, 2) := by decide +kernel
theorem dX5_postsBar_164 : decode cX5_postsBar 164 = .ok (.iinc 6 1, 3) := by decide +kernel
theorem dX5_postsBar_167 : decode cX5_postsBar 167 = .ok (.goto (-104), 3) := by decide +kernel
theorem dX5_postsBar_170 : decode cX5_postsBar 170 = .ok (.iload_n 2, 1) := by decide +kernel
theorem dX5_postsBar_171 : decode cX5_postsBar 171 = .ok (.iconst 1, 1) := by decide +kernel
theorem dX5_postsBar_172 : decode cX5_postsBar 172 = .ok (.if_icmp .ne 17, 3) := by decide +kernel
theorem dX5_postsBar_175 : decode cX5_postsBar 175 = .ok (.iload_n 3, 1) := by decide +kernel
theorem dX5_postsBar_176 : decode cX5_postsBar 176 = .ok (.iload 4, 2) := by decide +kernel
theorem dX5_postsBar_178 : decode cX5_postsBar 178 = .ok (.if_icmp .le 7, 3) := by decide +kernel
theorem dX5_postsBar_181 : decode cX5_postsBar 181 = .ok (.iconst 1, 1) := by decide +kernel
theorem dX5_postsBar_182 : decode cX5_postsBar 182 = .ok (.goto 18, 3) := by decide +kernel
theorem dX5_postsBar_185 : decode cX5_postsBar 185 = .ok (.iconst 0, 1) := by decide +kernel
theorem dX5_postsBar_186 : decode cX5_postsBar 186 = .ok (.goto 14, 3) := by decide +kernel
theorem dX5_postsBar_189 : decode cX5_postsBar 189 = .ok (.iload_n 3, 1) := by decide +kernel
theorem dX5_postsBar_190 : decode cX5_postsBar 190 = .ok (.iload 5, 2) := by decide +kernel
theorem dX5_postsBar_192 : decode cX5_postsBar 192 = .ok (.if_icmp .ge 7, 3) := by decide +kernel
theorem dX5_postsBar_195 : decode cX5_postsBar 195 = .ok (.iconst 1, 1) := by decide +kernel
theorem dX5_postsBar_196 : decode cX5_postsBar 196 = .ok (.goto 4, 3) := by decide +kernel
theorem dX5_postsBar_199 : decode cX5_postsBar 199 = .ok (.iconst 0, 1) := by decide +kernel
theorem dX5_postsBar_200 : decode cX5_postsBar 200 = .ok (.ireturn, 1) := by decide +kernel
theorem dX5_bar_0 : decode cX5_bar 0 = .ok (.iload_n 1, 1) := by decide +kernel
theorem dX5_bar_1 : decode cX5_bar 1 = .ok (.iconst 0, 1) := by decide +kernel
theorem dX5_bar_2 : decode cX5_bar 2 = .ok (.iconst 2, 1) := by decide +kernel
theorem dX5_bar_3 : decode cX5_bar 3 = .ok (.invokestatic 66, 3) := by decide +kernel
theorem dX5_bar_6 : decode cX5_bar 6 = .ok (.ifCond .ne 6, 3) := by decide +kernel
theorem dX5_bar_9 : decode cX5_bar 9 = .ok (.bipush (-2), 2) := by decide +kernel
theorem dX5_bar_11 : decode cX5_bar 11 = .ok (.ireturn, 1) := by decide +kernel
theorem dX5_bar_12 : decode cX5_bar 12 = .ok (.iconst 0, 1) := by decide +kernel
theorem dX5_bar_13 : decode cX5_bar 13 = .ok (.istore_n 2, 1) := by decide +kernel
theorem dX5_bar_14 : decode cX5_bar 14 = .ok (.iconst 1, 1) := by decide +kernel
theorem dX5_bar_15 : decode cX5_bar 15 = .ok (.iload_n 1, 1) := by decide +kernel
theorem dX5_bar_16 : decode cX5_bar 16 = .ok (.ifCond .ne 10, 3) := by decide +kernel
theorem dX5_bar_19 : decode cX5_bar 19 = .ok (.aload_n 0, 1) := by decide +kernel
theorem dX5_bar_20 : decode cX5_bar 20 = .ok (.getfield 53, 3) := by decide +kernel
theorem dX5_bar_23 : decode cX5_bar 23 = .ok (.goto 7, 3) := by decide +kernel
theorem dX5_bar_26 : decode cX5_bar 26 = .ok (.aload_n 0, 1) := by decide +kernel
theorem dX5_bar_27 : decode cX5_bar 27 = .ok (.getfield 7, 3) := by decide +kernel
theorem dX5_bar_30 : decode cX5_bar 30 = .ok (.ishl, 1) := by decide +kernel
theorem dX5_bar_31 : decode cX5_bar 31 = .ok (.istore_n 3, 1) := by decide +kernel
theorem dX5_bar_32 : decode cX5_bar 32 = .ok (.iconst 1, 1) := by decide +kernel
theorem dX5_bar_33 : decode cX5_bar 33 = .ok (.istore 4, 2) := by decide +kernel
theorem dX5_bar_35 : decode cX5_bar 35 = .ok (.iload 4, 2) := by decide +kernel
theorem dX5_bar_37 : decode cX5_bar 37 = .ok (.iload_n 3, 1) := by decide +kernel
theorem dX5_bar_38 : decode cX5_bar 38 = .ok (.if_icmp .ge 66, 3) := by decide +kernel
theorem dX5_bar_41 : decode cX5_bar 41 = .ok (.iload_n 2, 1) := by decide +kernel
theorem dX5_bar_42 : decode cX5_bar 42 = .ok (.ifCond .eq 15, 3) := by decide +kernel
theorem dX5_bar_45 : decode cX5_bar 45 = .ok (.iload 4, 2) := by decide +kernel
theorem dX5_bar_47 : decode cX5_bar 47 = .ok (.invokestatic 166, 3) := by decide +kernel
theorem dX5_bar_50 : decode cX5_bar 50 = .ok (.iload_n 2, 1) := by decide +kernel
theorem dX5_bar_51 : decode cX5_bar 51 = .ok (.invokestatic 166, 3) := by decide +kernel
theorem dX5_bar_54 : decode cX5_bar 54 = .ok (.if_icmp .ge 7, 3) := by decide +kernel
theorem dX5_bar_57 : decode cX5_bar 57 = .ok (.iconst 1, 1) := by decide +kernel
theorem dX5_bar_58 : decode cX5_bar 58 = .ok (.goto 4, 3) := by decide +kernel
theorem dX5_bar_61 : decode cX5_bar 61 = .ok (.iconst 0, 1) := by decide +kernel
theorem dX5_bar_62 : decode cX5_bar 62 = .ok (.istore 5, 2) := by decide +kernel
theorem dX5_bar_64 : decode cX5_bar 64 = .ok (.iload 5, 2) := by decide +kernel
theorem dX5_bar_66 : decode cX5_bar 66 = .ok (.ifCond .eq 32, 3) := by decide +kernel
theorem dX5_bar_69 : decode cX5_bar 69 = .ok (.iload_n 1, 1) := by decide +kernel
theorem dX5_bar_70 : decode cX5_bar 70 = .ok (.ifCond .ne 15, 3) := by decide +kernel
theorem dX5_bar_73 : decode cX5_bar 73 = .ok (.aload_n 0, 1) := by decide +kernel
theorem dX5_bar_74 : decode cX5_bar 74 = .ok (.iload 4, 2) := by decide +kernel
theorem dX5_bar_76 : decode cX5_bar 76 = .ok (.invokevirtual 169, 3) := by decide +kernel
theorem dX5_bar_79 : decode cX5_bar 79 = .ok (.ifCond .eq 19, 3) := by decide +kernel
theorem dX5_bar_82 : decode cX5_bar 82 = .ok (.goto 13, 3) := by decide +kernel
theorem dX5_bar_85 : decode cX5_bar 85 = .ok (.aload_n 0, 1) := by decide +kernel
theorem dX5_bar_86 : decode cX5_bar 86 = .ok (.iload 4, 2) := by decide +kernel
theorem dX5_bar_88 : decode cX5_bar 88 = .ok (.iload_n 1, 1) := by decide +kernel
theorem dX5_bar_89 : decode cX5_bar 89 = .ok (.invokevirtual 172, 3) := by decide +kernel
theorem dX5_bar_92 : decode cX5_bar 92 = .ok (.ifCond .eq 6, 3) := by decide +kernel
theorem dX5_bar_95 : decode cX5_bar 95 = .ok (.iload 4, 2) := by decide +kernel
theorem dX5_bar_97 : decode cX5_bar 97 = .ok (.istore_n 2, 1) := by decide +kernel
theorem dX5_bar_98 : decode cX5_bar 98 = .ok (.iinc 4 1, 3) := by decide +kernel
theorem dX5_bar_101 : decode cX5_bar 101 = .ok (.goto (-66), 3) := by decide +kernel
theorem dX5_bar_104 : decode cX5_bar 104 = .ok (.iload_n 2, 1) := by decide +kernel
theorem dX5_bar_105 : decode cX5_bar 105 = .ok (.ireturn, 1) := by decide +kernel
theorem dX5_oppositeOf_0 : decode cX5_oppositeOf 0 = .ok (.iconst 0, 1) := by decide +kernel
theorem dX5_oppositeOf_1 : decode cX5_oppositeOf 1 = .ok (.istore_n 3, 1) := by decide +kernel
theorem dX5_oppositeOf_2 : decode cX5_oppositeOf 2 = .ok (.iconst 0, 1) := by decide +kernel
theorem dX5_oppositeOf_3 : decode cX5_oppositeOf 3 = .ok (.istore 4, 2) := by decide +kernel
theorem dX5_oppositeOf_5 : decode cX5_oppositeOf 5 = .ok (.iload 4, 2) := by decide +kernel
theorem dX5_oppositeOf_7 : decode cX5_oppositeOf 7 = .ok (.iconst 2, 1) := by decide +kernel
theorem dX5_oppositeOf_8 : decode cX5_oppositeOf 8 = .ok (.if_icmp .ge 61, 3) := by decide +kernel
theorem dX5_oppositeOf_11 : decode cX5_oppositeOf 11 = .ok (.iload 4, 2) := by decide +kernel
theorem dX5_oppositeOf_13 : decode cX5_oppositeOf 13 = .ok (.ifCond .ne 12, 3) := by decide +kernel
theorem dX5_oppositeOf_16 : decode cX5_oppositeOf 16 = .ok (.aload_n 0, 1) := by decide +kernel
theorem dX5_oppositeOf_17 : decode cX5_oppositeOf 17 = .ok (.iload_n 1, 1) := by decide +kernel
theorem dX5_oppositeOf_18 : decode cX5_oppositeOf 18 = .ok (.iload_n 2, 1) := by decide +kernel
theorem dX5_oppositeOf_19 : decode cX5_oppositeOf 19 = .ok (.invokevirtual 74, 3) := by decide +kernel
theorem dX5_oppositeOf_22 : decode cX5_oppositeOf 22 = .ok (.goto 9, 3) := by decide +kernel
theorem dX5_oppositeOf_25 : decode cX5_oppositeOf 25 = .ok (.aload_n 0, 1) := by decide +kernel
theorem dX5_oppositeOf_26 : decode cX5_oppositeOf 26 = .ok (.iload_n 2, 1) := by decide +kernel
theorem dX5_oppositeOf_27 : decode cX5_oppositeOf 27 = .ok (.iload_n 1, 1) := by decide +kernel
theorem dX5_oppositeOf_28 : decode cX5_oppositeOf 28 = .ok (.invokevirtual 74, 3) := by decide +kernel
theorem dX5_oppositeOf_31 : decode cX5_oppositeOf 31 = .ok (.istore 5, 2) := by decide +kernel
theorem dX5_oppositeOf_33 : decode cX5_oppositeOf 33 = .ok (.iload_n 3, 1) := by decide +kernel
theorem dX5_oppositeOf_34 : decode cX5_oppositeOf 34 = .ok (.iload 5, 2) := by decide +kernel
theorem dX5_oppositeOf_36 : decode cX5_oppositeOf 36 = .ok (.ifCond .ge 7, 3) := by decide +kernel
theorem dX5_oppositeOf_39 : decode cX5_oppositeOf 39 = .ok (.iconst 0, 1) := by decide +kernel
theorem dX5_oppositeOf_40 : decode cX5_oppositeOf 40 = .ok (.goto 21, 3) := by decide +kernel
theorem dX5_oppositeOf_43 : decode cX5_oppositeOf 43 = .ok (.aload_n 0, 1) := by decide +kernel
theorem dX5_oppositeOf_44 : decode cX5_oppositeOf 44 = .ok (.getfield 20, 3) := by decide +kernel
theorem dX5_oppositeOf_47 : decode cX5_oppositeOf 47 = .ok (.aload_n 0, 1) := by decide +kernel
theorem dX5_oppositeOf_48 : decode cX5_oppositeOf 48 = .ok (.getfield 26, 3) := by decide +kernel
theorem dX5_oppositeOf_51 : decode cX5_oppositeOf 51 = .ok (.aload_n 0, 1) := by decide +kernel
theorem dX5_oppositeOf_52 : decode cX5_oppositeOf 52 = .ok (.iload 5, 2) := by decide +kernel
theorem dX5_oppositeOf_54 : decode cX5_oppositeOf 54 = .ok (.iload_n 1, 1) := by decide +kernel
theorem dX5_oppositeOf_55 : decode cX5_oppositeOf 55 = .ok (.iload_n 2, 1) := by decide +kernel
theorem dX5_oppositeOf_56 : decode cX5_oppositeOf 56 = .ok (.invokevirtual 96, 3) := by decide +kernel
theorem dX5_oppositeOf_59 : decode cX5_oppositeOf 59 = .ok (.iaload, 1) := by decide +kernel
theorem dX5_oppositeOf_60 : decode cX5_oppositeOf 60 = .ok (.iadd, 1) := by decide +kernel
theorem dX5_oppositeOf_61 : decode cX5_oppositeOf 61 = .ok (.iadd, 1) := by decide +kernel
theorem dX5_oppositeOf_62 : decode cX5_oppositeOf 62 = .ok (.istore_n 3, 1) := by decide +kernel
theorem dX5_oppositeOf_63 : decode cX5_oppositeOf 63 = .ok (.iinc 4 1, 3) := by decide +kernel
theorem dX5_oppositeOf_66 : decode cX5_oppositeOf 66 = .ok (.goto (-61), 3) := by decide +kernel
theorem dX5_oppositeOf_69 : decode cX5_oppositeOf 69 = .ok (.iload_n 3, 1) := by decide +kernel
theorem dX5_oppositeOf_70 : decode cX5_oppositeOf 70 = .ok (.ireturn, 1) := by decide +kernel
theorem dX5_opposite_0 : decode cX5_opposite 0 = .ok (.aload_n 0, 1) := by decide +kernel
theorem dX5_opposite_1 : decode cX5_opposite 1 = .ok (.iload_n 1, 1) := by decide +kernel
theorem dX5_opposite_2 : decode cX5_opposite 2 = .ok (.iload_n 2, 1) := by decide +kernel
theorem dX5_opposite_3 : decode cX5_opposite 3 = .ok (.invokevirtual 78, 3) := by decide +kernel
theorem dX5_opposite_6 : decode cX5_opposite 6 = .ok (.ifCond .eq 12, 3) := by decide +kernel
theorem dX5_opposite_9 : decode cX5_opposite 9 = .ok (.aload_n 0, 1) := by decide +kernel
theorem dX5_opposite_10 : decode cX5_opposite 10 = .ok (.iload_n 1, 1) := by decide +kernel
theorem dX5_opposite_11 : decode cX5_opposite 11 = .ok (.iload_n 2, 1) := by decide +kernel
theorem dX5_opposite_12 : decode cX5_opposite 12 = .ok (.invokevirtual 93, 3) := by decide +kernel
theorem dX5_opposite_15 : decode cX5_opposite 15 = .ok (.ifCond .ne 5, 3) := by decide +kernel
theorem dX5_opposite_18 : decode cX5_opposite 18 = .ok (.iconst (-1), 1) := by decide +kernel
theorem dX5_opposite_19 : decode cX5_opposite 19 = .ok (.ireturn, 1) := by decide +kernel
theorem dX5_opposite_20 : decode cX5_opposite 20 = .ok (.aload_n 0, 1) := by decide +kernel
theorem dX5_opposite_21 : decode cX5_opposite 21 = .ok (.invokevirtual 109, 3) := by decide +kernel
theorem dX5_opposite_24 : decode cX5_opposite 24 = .ok (.ifCond .eq 12, 3) := by decide +kernel
theorem dX5_opposite_27 : decode cX5_opposite 27 = .ok (.aload_n 0, 1) := by decide +kernel
theorem dX5_opposite_28 : decode cX5_opposite 28 = .ok (.iload_n 1, 1) := by decide +kernel
theorem dX5_opposite_29 : decode cX5_opposite 29 = .ok (.iload_n 2, 1) := by decide +kernel
theorem dX5_opposite_30 : decode cX5_opposite 30 = .ok (.invokevirtual 175, 3) := by decide +kernel
theorem dX5_opposite_33 : decode cX5_opposite 33 = .ok (.goto 5, 3) := by decide +kernel
theorem dX5_opposite_36 : decode cX5_opposite 36 = .ok (.bipush (-6), 2) := by decide +kernel
theorem dX5_opposite_38 : decode cX5_opposite 38 = .ok (.ireturn, 1) := by decide +kernel
theorem dX5_fit_0 : decode cX5_fit 0 = .ok (.aload_n 0, 1) := by decide +kernel
theorem dX5_fit_1 : decode cX5_fit 1 = .ok (.invokevirtual 109, 3) := by decide +kernel
theorem dX5_fit_4 : decode cX5_fit 4 = .ok (.ifCond .ne 6, 3) := by decide +kernel
theorem dX5_fit_7 : decode cX5_fit 7 = .ok (.bipush (-6), 2) := by decide +kernel
theorem dX5_fit_9 : decode cX5_fit 9 = .ok (.ireturn, 1) := by decide +kernel
theorem dX5_fit_10 : decode cX5_fit 10 = .ok (.iconst 0, 1) := by decide +kernel
theorem dX5_fit_11 : decode cX5_fit 11 = .ok (.istore_n 1, 1) := by decide +kernel
theorem dX5_fit_12 : decode cX5_fit 12 = .ok (.iconst 0, 1) := by decide +kernel
theorem dX5_fit_13 : decode cX5_fit 13 = .ok (.istore_n 2, 1) := by decide +kernel
theorem dX5_fit_14 : decode cX5_fit 14 = .ok (.iload_n 2, 1) := by decide +kernel
theorem dX5_fit_15 : decode cX5_fit 15 = .ok (.aload_n 0, 1) := by decide +kernel
theorem dX5_fit_16 : decode cX5_fit 16 = .ok (.getfield 7, 3) := by decide +kernel
theorem dX5_fit_19 : decode cX5_fit 19 = .ok (.if_icmp .ge 53, 3) := by decide +kernel
theorem dX5_fit_22 : decode cX5_fit 22 = .ok (.iconst 0, 1) := by decide +kernel
theorem dX5_fit_23 : decode cX5_fit 23 = .ok (.istore_n 3, 1) := by decide +kernel
theorem dX5_fit_24 : decode cX5_fit 24 = .ok (.iload_n 3, 1) := by decide +kernel
theorem dX5_fit_25 : decode cX5_fit 25 = .ok (.iload_n 2, 1) := by decide +kernel
theorem dX5_fit_26 : decode cX5_fit 26 = .ok (.if_icmp .ge 40, 3) := by decide +kernel
theorem dX5_fit_29 : decode cX5_fit 29 = .ok (.iload_n 1, 1) := by decide +kernel
theorem dX5_fit_30 : decode cX5_fit 30 = .ok (.aload_n 0, 1) := by decide +kernel
theorem dX5_fit_31 : decode cX5_fit 31 = .ok (.iload_n 2, 1) := by decide +kernel
theorem dX5_fit_32 : decode cX5_fit 32 = .ok (.iload_n 3, 1) := by decide +kernel
theorem dX5_fit_33 : decode cX5_fit 33 = .ok (.invokevirtual 93, 3) := by decide +kernel
theorem dX5_fit_36 : decode cX5_fit 36 = .ok (.iconst 2, 1) := by decide +kernel
theorem dX5_fit_37 : decode cX5_fit 37 = .ok (.if_icmp .ne 20, 3) := by decide +kernel
theorem dX5_fit_40 : decode cX5_fit 40 = .ok (.aload_n 0, 1) := by decide +kernel
theorem dX5_fit_41 : decode cX5_fit 41 = .ok (.iload_n 2, 1) := by decide +kernel
theorem dX5_fit_42 : decode cX5_fit 42 = .ok (.iload_n 3, 1) := by decide +kernel
theorem dX5_fit_43 : decode cX5_fit 43 = .ok (.invokevirtual 175, 3) := by decide +kernel
theorem dX5_fit_46 : decode cX5_fit 46 = .ok (.aload_n 0, 1) := by decide +kernel
theorem dX5_fit_47 : decode cX5_fit 47 = .ok (.getfield 17, 3) := by decide +kernel
theorem dX5_fit_50 : decode cX5_fit 50 = .ok (.if_icmp .gt 7, 3) := by decide +kernel
theorem dX5_fit_53 : decode cX5_fit 53 = .ok (.iconst 1, 1) := by decide +kernel
theorem dX5_fit_54 : decode cX5_fit 54 = .ok (.goto 4, 3) := by decide +kernel
theorem dX5_fit_57 : decode cX5_fit 57 = .ok (.iconst 0, 1) := by decide +kernel
theorem dX5_fit_58 : decode cX5_fit 58 = .ok (.iadd, 1) := by decide +kernel
theorem dX5_fit_59 : decode cX5_fit 59 = .ok (.istore_n 1, 1) := by decide +kernel
theorem dX5_fit_60 : decode cX5_fit 60 = .ok (.iinc 3 1, 3) := by decide +kernel
theorem dX5_fit_63 : decode cX5_fit 63 = .ok (.goto (-39), 3) := by decide +kernel
theorem dX5_fit_66 : decode cX5_fit 66 = .ok (.iinc 2 1, 3) := by decide +kernel
theorem dX5_fit_69 : decode cX5_fit 69 = .ok (.goto (-55), 3) := by decide +kernel
theorem dX5_fit_72 : decode cX5_fit 72 = .ok (.iload_n 1, 1) := by decide +kernel
theorem dX5_fit_73 : decode cX5_fit 73 = .ok (.ireturn, 1) := by decide +kernel
theorem dJ6_bitCount_0f7a4_0 : decode cJ6_bitCount_0f7a4 0 = .ok (.iload_n 0, 1) := by decide +kernel
theorem dJ6_bitCount_0f7a4_1 : decode cJ6_bitCount_0f7a4 1 = .ok (.iload_n 0, 1) := by decide +kernel
theorem dJ6_bitCount_0f7a4_2 : decode cJ6_bitCount_0f7a4 2 = .ok (.iconst 1, 1) := by decide +kernel
theorem dJ6_bitCount_0f7a4_3 : decode cJ6_bitCount_0f7a4 3 = .ok (.iushr, 1) := by decide +kernel
theorem dJ6_bitCount_0f7a4_4 : decode cJ6_bitCount_0f7a4 4 = .ok (.ldc_w 265, 3) := by decide +kernel
theorem dJ6_bitCount_0f7a4_7 : decode cJ6_bitCount_0f7a4 7 = .ok (.iand, 1) := by decide +kernel
theorem dJ6_bitCount_0f7a4_8 : decode cJ6_bitCount_0f7a4 8 = .ok (.isub, 1) := by decide +kernel
theorem dJ6_bitCount_0f7a4_9 : decode cJ6_bitCount_0f7a4 9 = .ok (.istore_n 0, 1) := by decide +kernel
theorem dJ6_bitCount_0f7a4_10 : decode cJ6_bitCount_0f7a4 10 = .ok (.iload_n 0, 1) := by decide +kernel
theorem dJ6_bitCount_0f7a4_11 : decode cJ6_bitCount_0f7a4 11 = .ok (.ldc_w 266, 3) := by decide +kernel
theorem dJ6_bitCount_0f7a4_14 : decode cJ6_bitCount_0f7a4 14 = .ok (.iand, 1) := by decide +kernel
theorem dJ6_bitCount_0f7a4_15 : decode cJ6_bitCount_0f7a4 15 = .ok (.iload_n 0, 1) := by decide +kernel
theorem dJ6_bitCount_0f7a4_16 : decode cJ6_bitCount_0f7a4 16 = .ok (.iconst 2, 1) := by decide +kernel
theorem dJ6_bitCount_0f7a4_17 : decode cJ6_bitCount_0f7a4 17 = .ok (.iushr, 1) := by decide +kernel
theorem dJ6_bitCount_0f7a4_18 : decode cJ6_bitCount_0f7a4 18 = .ok (.ldc_w 266, 3) := by decide +kernel
theorem dJ6_bitCount_0f7a4_21 : decode cJ6_bitCount_0f7a4 21 = .ok (.iand, 1) := by decide +kernel
theorem dJ6_bitCount_0f7a4_22 : decode cJ6_bitCount_0f7a4 22 = .ok (.iadd, 1) := by decide +kernel
theorem dJ6_bitCount_0f7a4_23 : decode cJ6_bitCount_0f7a4 23 = .ok (.istore_n 0, 1) := by decide +kernel
theorem dJ6_bitCount_0f7a4_24 : decode cJ6_bitCount_0f7a4 24 = .ok (.iload_n 0, 1) := by decide +kernel
theorem dJ6_bitCount_0f7a4_25 : decode cJ6_bitCount_0f7a4 25 = .ok (.iload_n 0, 1) := by decide +kernel
theorem dJ6_bitCount_0f7a4_26 : decode cJ6_bitCount_0f7a4 26 = .ok (.iconst 4, 1) := by decide +kernel
theorem dJ6_bitCount_0f7a4_27 : decode cJ6_bitCount_0f7a4 27 = .ok (.iushr, 1) := by decide +kernel
theorem dJ6_bitCount_0f7a4_28 : decode cJ6_bitCount_0f7a4 28 = .ok (.iadd, 1) := by decide +kernel
theorem dJ6_bitCount_0f7a4_29 : decode cJ6_bitCount_0f7a4 29 = .ok (.ldc_w 267, 3) := by decide +kernel
theorem dJ6_bitCount_0f7a4_32 : decode cJ6_bitCount_0f7a4 32 = .ok (.iand, 1) := by decide +kernel
theorem dJ6_bitCount_0f7a4_33 : decode cJ6_bitCount_0f7a4 33 = .ok (.istore_n 0, 1) := by decide +kernel
theorem dJ6_bitCount_0f7a4_34 : decode cJ6_bitCount_0f7a4 34 = .ok (.iload_n 0, 1) := by decide +kernel
theorem dJ6_bitCount_0f7a4_35 : decode cJ6_bitCount_0f7a4 35 = .ok (.iload_n 0, 1) := by decide +kernel
theorem dJ6_bitCount_0f7a4_36 : decode cJ6_bitCount_0f7a4 36 = .ok (.bipush 8, 2) := by decide +kernel
theorem dJ6_bitCount_0f7a4_38 : decode cJ6_bitCount_0f7a4 38 = .ok (.iushr, 1) := by decide +kernel
theorem dJ6_bitCount_0f7a4_39 : decode cJ6_bitCount_0f7a4 39 = .ok (.iadd, 1) := by decide +kernel
theorem dJ6_bitCount_0f7a4_40 : decode cJ6_bitCount_0f7a4 40 = .ok (.istore_n 0, 1) := by decide +kernel
theorem dJ6_bitCount_0f7a4_41 : decode cJ6_bitCount_0f7a4 41 = .ok (.iload_n 0, 1) := by decide +kernel
theorem dJ6_bitCount_0f7a4_42 : decode cJ6_bitCount_0f7a4 42 = .ok (.iload_n 0, 1) := by decide +kernel
theorem dJ6_bitCount_0f7a4_43 : decode cJ6_bitCount_0f7a4 43 = .ok (.bipush 16, 2) := by decide +kernel
theorem dJ6_bitCount_0f7a4_45 : decode cJ6_bitCount_0f7a4 45 = .ok (.iushr, 1) := by decide +kernel
theorem dJ6_bitCount_0f7a4_46 : decode cJ6_bitCount_0f7a4 46 = .ok (.iadd, 1) := by decide +kernel
theorem dJ6_bitCount_0f7a4_47 : decode cJ6_bitCount_0f7a4 47 = .ok (.istore_n 0, 1) := by decide +kernel
theorem dJ6_bitCount_0f7a4_48 : decode cJ6_bitCount_0f7a4 48 = .ok (.iload_n 0, 1) := by decide +kernel
theorem dJ6_bitCount_0f7a4_49 : decode cJ6_bitCount_0f7a4 49 = .ok (.bipush 63, 2) := by decide +kernel
theorem dJ6_bitCount_0f7a4_51 : decode cJ6_bitCount_0f7a4 51 = .ok (.iand, 1) := by decide +kernel
theorem dJ6_bitCount_0f7a4_52 : decode cJ6_bitCount_0f7a4 52 = .ok (.ireturn, 1) := by decide +kernel
theorem dJ9_max_7cf53_0 : decode cJ9_max_7cf53 0 = .ok (.iload_n 0, 1) := by decide +kernel
theorem dJ9_max_7cf53_1 : decode cJ9_max_7cf53 1 = .ok (.iload_n 1, 1) := by decide +kernel
theorem dJ9_max_7cf53_2 : decode cJ9_max_7cf53 2 = .ok (.if_icmp .lt 7, 3) := by decide +kernel
theorem dJ9_max_7cf53_5 : decode cJ9_max_7cf53 5 = .ok (.iload_n 0, 1) := by decide +kernel
theorem dJ9_max_7cf53_6 : decode cJ9_max_7cf53 6 = .ok (.goto 4, 3) := by decide +kernel
theorem dJ9_max_7cf53_9 : decode cJ9_max_7cf53 9 = .ok (.iload_n 1, 1) := by decide +kernel
theorem dJ9_max_7cf53_10 : decode cJ9_max_7cf53 10 = .ok (.ireturn, 1) := by decide +kernel
theorem dJ9_min_7cf53_0 : decode cJ9_min_7cf53 0 = .ok (.iload_n 0, 1) := by decide +kernel
theorem dJ9_min_7cf53_1 : decode cJ9_min_7cf53 1 = .ok (.iload_n 1, 1) := by decide +kernel
theorem dJ9_min_7cf53_2 : decode cJ9_min_7cf53 2 = .ok (.if_icmp .gt 7, 3) := by decide +kernel
theorem dJ9_min_7cf53_5 : decode cJ9_min_7cf53 5 = .ok (.iload_n 0, 1) := by decide +kernel
theorem dJ9_min_7cf53_6 : decode cJ9_min_7cf53 6 = .ok (.goto 4, 3) := by decide +kernel
theorem dJ9_min_7cf53_9 : decode cJ9_min_7cf53 9 = .ok (.iload_n 1, 1) := by decide +kernel
theorem dJ9_min_7cf53_10 : decode cJ9_min_7cf53 10 = .ok (.ireturn, 1) := by decide +kernel
theorem dJ7_fill_53178_0 : decode cJ7_fill_53178 0 = .ok (.iconst 0, 1) := by decide +kernel
theorem dJ7_fill_53178_1 : decode cJ7_fill_53178 1 = .ok (.istore_n 2, 1) := by decide +kernel
theorem dJ7_fill_53178_2 : decode cJ7_fill_53178 2 = .ok (.aload_n 0, 1) := by decide +kernel
theorem dJ7_fill_53178_3 : decode cJ7_fill_53178 3 = .ok (.arraylength, 1) := by decide +kernel
theorem dJ7_fill_53178_4 : decode cJ7_fill_53178 4 = .ok (.istore_n 3, 1) := by decide +kernel
theorem dJ7_fill_53178_5 : decode cJ7_fill_53178 5 = .ok (.iload_n 2, 1) := by decide +kernel
theorem dJ7_fill_53178_6 : decode cJ7_fill_53178 6 = .ok (.iload_n 3, 1) := by decide +kernel
theorem dJ7_fill_53178_7 : decode cJ7_fill_53178 7 = .ok (.if_icmp .ge 13, 3) := by decide +kernel
theorem dJ7_fill_53178_10 : decode cJ7_fill_53178 10 = .ok (.aload_n 0, 1) := by decide +kernel
theorem dJ7_fill_53178_11 : decode cJ7_fill_53178 11 = .ok (.iload_n 2, 1) := by decide +kernel
theorem dJ7_fill_53178_12 : decode cJ7_fill_53178 12 = .ok (.iload_n 1, 1) := by decide +kernel
theorem dJ7_fill_53178_13 : decode cJ7_fill_53178 13 = .ok (.iastore, 1) := by decide +kernel
theorem dJ7_fill_53178_14 : decode cJ7_fill_53178 14 = .ok (.iinc 2 1, 3) := by decide +kernel
theorem dJ7_fill_53178_17 : decode cJ7_fill_53178 17 = .ok (.goto (-12), 3) := by decide +kernel
theorem dJ7_fill_53178_20 : decode cJ7_fill_53178 20 = .ok (.return_, 1) := by decide +kernel
theorem dL_law_0 : decode cL_law 0 = .ok (.new 7, 3) := by decide +kernel
theorem dL_law_3 : decode cL_law 3 = .ok (.dup, 1) := by decide +kernel
theorem dL_law_4 : decode cL_law 4 = .ok (.invokespecial 9, 3) := by decide +kernel
theorem dL_law_7 : decode cL_law 7 = .ok (.astore_n 1, 1) := by decide +kernel
theorem dL_law_8 : decode cL_law 8 = .ok (.new 10, 3) := by decide +kernel
theorem dL_law_11 : decode cL_law 11 = .ok (.dup, 1) := by decide +kernel
theorem dL_law_12 : decode cL_law 12 = .ok (.invokespecial 12, 3) := by decide +kernel
theorem dL_law_15 : decode cL_law 15 = .ok (.astore_n 2, 1) := by decide +kernel
theorem dL_law_16 : decode cL_law 16 = .ok (.iconst 0, 1) := by decide +kernel
theorem dL_law_17 : decode cL_law 17 = .ok (.istore_n 3, 1) := by decide +kernel
theorem dL_law_18 : decode cL_law 18 = .ok (.iload_n 3, 1) := by decide +kernel
theorem dL_law_19 : decode cL_law 19 = .ok (.aload_n 0, 1) := by decide +kernel
theorem dL_law_20 : decode cL_law 20 = .ok (.arraylength, 1) := by decide +kernel
theorem dL_law_21 : decode cL_law 21 = .ok (.iconst 4, 1) := by decide +kernel
theorem dL_law_22 : decode cL_law 22 = .ok (.isub, 1) := by decide +kernel
theorem dL_law_23 : decode cL_law 23 = .ok (.if_icmp .gt 574, 3) := by decide +kernel
theorem dL_law_26 : decode cL_law 26 = .ok (.aload_n 0, 1) := by decide +kernel
theorem dL_law_27 : decode cL_law 27 = .ok (.iload_n 3, 1) := by decide +kernel
theorem dL_law_28 : decode cL_law 28 = .ok (.iaload, 1) := by decide +kernel
theorem dL_law_29 : decode cL_law 29 = .ok (.bipush 31, 2) := by decide +kernel
theorem dL_law_31 : decode cL_law 31 = .ok (.iand, 1) := by decide +kernel
theorem dL_law_32 : decode cL_law 32 = .ok (.tableswitch 559 0 18 #[92, 115, 158, 181, 214, 247, 280, 313, 336, 359, 382, 415, 428, 451, 464, 487, 520, 533, 546], 92) := by decide +kernel
theorem dL_law_124 : decode cL_law 124 = .ok (.aload_n 1, 1) := by decide +kernel
theorem dL_law_125 : decode cL_law 125 = .ok (.aload_n 0, 1) := by decide +kernel
theorem dL_law_126 : decode cL_law 126 = .ok (.iload_n 3, 1) := by decide +kernel
theorem dL_law_127 : decode cL_law 127 = .ok (.iconst 1, 1) := by decide +kernel
theorem dL_law_128 : decode cL_law 128 = .ok (.iadd, 1) := by decide +kernel
theorem dL_law_129 : decode cL_law 129 = .ok (.iaload, 1) := by decide +kernel
theorem dL_law_130 : decode cL_law 130 = .ok (.invokevirtual 13, 3) := by decide +kernel
theorem dL_law_133 : decode cL_law 133 = .ok (.aload_n 2, 1) := by decide +kernel
theorem dL_law_134 : decode cL_law 134 = .ok (.aload_n 0, 1) := by decide +kernel
theorem dL_law_135 : decode cL_law 135 = .ok (.iload_n 3, 1) := by decide +kernel
theorem dL_law_136 : decode cL_law 136 = .ok (.iconst 1, 1) := by decide +kernel
theorem dL_law_137 : decode cL_law 137 = .ok (.iadd, 1) := by decide +kernel
theorem dL_law_138 : decode cL_law 138 = .ok (.iaload, 1) := by decide +kernel
theorem dL_law_139 : decode cL_law 139 = .ok (.invokevirtual 17, 3) := by decide +kernel
theorem dL_law_142 : decode cL_law 142 = .ok (.if_icmp .eq 449, 3) := by decide +kernel
theorem dL_law_145 : decode cL_law 145 = .ok (.iconst 0, 1) := by decide +kernel
theorem dL_law_146 : decode cL_law 146 = .ok (.ireturn, 1) := by decide +kernel
theorem dL_law_147 : decode cL_law 147 = .ok (.aload_n 1, 1) := by decide +kernel
theorem dL_law_148 : decode cL_law 148 = .ok (.aload_n 0, 1) := by decide +kernel
theorem dL_law_149 : decode cL_law 149 = .ok (.iload_n 3, 1) := by decide +kernel
theorem dL_law_150 : decode cL_law 150 = .ok (.iconst 1, 1) := by decide +kernel
theorem dL_law_151 : decode cL_law 151 = .ok (.iadd, 1) := by decide +kernel
theorem dL_law_152 : decode cL_law 152 = .ok (.iaload, 1) := by decide +kernel
theorem dL_law_153 : decode cL_law 153 = .ok (.aload_n 0, 1) := by decide +kernel
theorem dL_law_154 : decode cL_law 154 = .ok (.iload_n 3, 1) := by decide +kernel
theorem dL_law_155 : decode cL_law 155 = .ok (.iconst 2, 1) := by decide +kernel
theorem dL_law_156 : decode cL_law 156 = .ok (.iadd, 1) := by decide +kernel
theorem dL_law_157 : decode cL_law 157 = .ok (.iaload, 1) := by decide +kernel
theorem dL_law_158 : decode cL_law 158 = .ok (.aload_n 0, 1) := by decide +kernel
theorem dL_law_159 : decode cL_law 159 = .ok (.iload_n 3, 1) := by decide +kernel
theorem dL_law_160 : decode cL_law 160 = .ok (.iconst 3, 1) := by decide +kernel
theorem dL_law_161 : decode cL_law 161 = .ok (.iadd, 1) := by decide +kernel
theorem dL_law_162 : decode cL_law 162 = .ok (.iaload, 1) := by decide +kernel
theorem dL_law_163 : decode cL_law 163 = .ok (.invokevirtual 18, 3) := by decide +kernel
theorem dL_law_166 : decode cL_law 166 = .ok (.aload_n 2, 1) := by decide +kernel
theorem dL_law_167 : decode cL_law 167 = .ok (.aload_n 0, 1) := by decide +kernel
theorem dL_law_168 : decode cL_law 168 = .ok (.iload_n 3, 1) := by decide +kernel
theorem dL_law_169 : decode cL_law 169 = .ok (.iconst 1, 1) := by decide +kernel
theorem dL_law_170 : decode cL_law 170 = .ok (.iadd, 1) := by decide +kernel
theorem dL_law_171 : decode cL_law 171 = .ok (.iaload, 1) := by decide +kernel
theorem dL_law_172 : decode cL_law 172 = .ok (.aload_n 0, 1) := by decide +kernel
theorem dL_law_173 : decode cL_law 173 = .ok (.iload_n 3, 1) := by decide +kernel
theorem dL_law_174 : decode cL_law 174 = .ok (.iconst 2, 1) := by decide +kernel
theorem dL_law_175 : decode cL_law 175 = .ok (.iadd, 1) := by decide +kernel
theorem dL_law_176 : decode cL_law 176 = .ok (.iaload, 1) := by decide +kernel
theorem dL_law_177 : decode cL_law 177 = .ok (.aload_n 0, 1) := by decide +kernel
theorem dL_law_178 : decode cL_law 178 = .ok (.iload_n 3, 1) := by decide +kernel
theorem dL_law_179 : decode cL_law 179 = .ok (.iconst 3, 1) := by decide +kernel
theorem dL_law_180 : decode cL_law 180 = .ok (.iadd, 1) := by decide +kernel
theorem dL_law_181 : decode cL_law 181 = .ok (.iaload, 1) := by decide +kernel
theorem dL_law_182 : decode cL_law 182 = .ok (.invokevirtual 22, 3) := by decide +kernel
theorem dL_law_185 : decode cL_law 185 = .ok (.if_icmp .eq 406, 3) := by decide +kernel
theorem dL_law_188 : decode cL_law 188 = .ok (.iconst 0, 1) := by decide +kernel
theorem dL_law_189 : decode cL_law 189 = .ok (.ireturn, 1) := by decide +kernel
theorem dL_law_190 : decode cL_law 190 = .ok (.aload_n 1, 1) := by decide +kernel
theorem dL_law_191 : decode cL_law 191 = .ok (.aload_n 0, 1) := by decide +kernel
theorem dL_law_192 : decode cL_law 192 = .ok (.iload_n 3, 1) := by decide +kernel
theorem dL_law_193 : decode cL_law 193 = .ok (.iconst 1, 1) := by decide +kernel
theorem dL_law_194 : decode cL_law 194 = .ok (.iadd, 1) := by decide +kernel
theorem dL_law_195 : decode cL_law 195 = .ok (.iaload, 1) := by decide +kernel
theorem dL_law_196 : decode cL_law 196 = .ok (.invokevirtual 23, 3) := by decide +kernel
theorem dL_law_199 : decode cL_law 199 = .ok (.aload_n 2, 1) := by decide +kernel
theorem dL_law_200 : decode cL_law 200 = .ok (.aload_n 0, 1) := by decide +kernel
theorem dL_law_201 : decode cL_law 201 = .ok (.iload_n 3, 1) := by decide +kernel
theorem dL_law_202 : decode cL_law 202 = .ok (.iconst 1, 1) := by decide +kernel
theorem dL_law_203 : decode cL_law 203 = .ok (.iadd, 1) := by decide +kernel
theorem dL_law_204 : decode cL_law 204 = .ok (.iaload, 1) := by decide +kernel
theorem dL_law_205 : decode cL_law 205 = .ok (.invokevirtual 26, 3) := by decide +kernel
theorem dL_law_208 : decode cL_law 208 = .ok (.if_icmp .eq 383, 3) := by decide +kernel
theorem dL_law_211 : decode cL_law 211 = .ok (.iconst 0, 1) := by decide +kernel
theorem dL_law_212 : decode cL_law 212 = .ok (.ireturn, 1) := by decide +kernel
theorem dL_law_213 : decode cL_law 213 = .ok (.aload_n 1, 1) := by decide +kernel
theorem dL_law_214 : decode cL_law 214 = .ok (.aload_n 0, 1) := by decide +kernel
theorem dL_law_215 : decode cL_law 215 = .ok (.iload_n 3, 1) := by decide +kernel
theorem dL_law_216 : decode cL_law 216 = .ok (.iconst 1, 1) := by decide +kernel
theorem dL_law_217 : decode cL_law 217 = .ok (.iadd, 1) := by decide +kernel
theorem dL_law_218 : decode cL_law 218 = .ok (.iaload, 1) := by decide +kernel
theorem dL_law_219 : decode cL_law 219 = .ok (.aload_n 0, 1) := by decide +kernel
theorem dL_law_220 : decode cL_law 220 = .ok (.iload_n 3, 1) := by decide +kernel
theorem dL_law_221 : decode cL_law 221 = .ok (.iconst 2, 1) := by decide +kernel
theorem dL_law_222 : decode cL_law 222 = .ok (.iadd, 1) := by decide +kernel
theorem dL_law_223 : decode cL_law 223 = .ok (.iaload, 1) := by decide +kernel
theorem dL_law_224 : decode cL_law 224 = .ok (.invokevirtual 27, 3) := by decide +kernel
theorem dL_law_227 : decode cL_law 227 = .ok (.aload_n 2, 1) := by decide +kernel
theorem dL_law_228 : decode cL_law 228 = .ok (.aload_n 0, 1) := by decide +kernel
theorem dL_law_229 : decode cL_law 229 = .ok (.iload_n 3, 1) := by decide +kernel
theorem dL_law_230 : decode cL_law 230 = .ok (.iconst 1, 1) := by decide +kernel
theorem dL_law_231 : decode cL_law 231 = .ok (.iadd, 1) := by decide +kernel
theorem dL_law_232 : decode cL_law 232 = .ok (.iaload, 1) := by decide +kernel
theorem dL_law_233 : decode cL_law 233 = .ok (.aload_n 0, 1) := by decide +kernel
theorem dL_law_234 : decode cL_law 234 = .ok (.iload_n 3, 1) := by decide +kernel
theorem dL_law_235 : decode cL_law 235 = .ok (.iconst 2, 1) := by decide +kernel
theorem dL_law_236 : decode cL_law 236 = .ok (.iadd, 1) := by decide +kernel
theorem dL_law_237 : decode cL_law 237 = .ok (.iaload, 1) := by decide +kernel
theorem dL_law_238 : decode cL_law 238 = .ok (.invokevirtual 31, 3) := by decide +kernel
theorem dL_law_241 : decode cL_law 241 = .ok (.if_icmp .eq 350, 3) := by decide +kernel
theorem dL_law_244 : decode cL_law 244 = .ok (.iconst 0, 1) := by decide +kernel
theorem dL_law_245 : decode cL_law 245 = .ok (.ireturn, 1) := by decide +kernel
theorem dL_law_246 : decode cL_law 246 = .ok (.aload_n 1, 1) := by decide +kernel
theorem dL_law_247 : decode cL_law 247 = .ok (.aload_n 0, 1) := by decide +kernel
theorem dL_law_248 : decode cL_law 248 = .ok (.iload_n 3, 1) := by decide +kernel
theorem dL_law_249 : decode cL_law 249 = .ok (.iconst 1, 1) := by decide +kernel
theorem dL_law_250 : decode cL_law 250 = .ok (.iadd, 1) := by decide +kernel
theorem dL_law_251 : decode cL_law 251 = .ok (.iaload, 1) := by decide +kernel
theorem dL_law_252 : decode cL_law 252 = .ok (.aload_n 0, 1) := by decide +kernel
theorem dL_law_253 : decode cL_law 253 = .ok (.iload_n 3, 1) := by decide +kernel
theorem dL_law_254 : decode cL_law 254 = .ok (.iconst 2, 1) := by decide +kernel
theorem dL_law_255 : decode cL_law 255 = .ok (.iadd, 1) := by decide +kernel
theorem dL_law_256 : decode cL_law 256 = .ok (.iaload, 1) := by decide +kernel
theorem dL_law_257 : decode cL_law 257 = .ok (.invokevirtual 32, 3) := by decide +kernel
theorem dL_law_260 : decode cL_law 260 = .ok (.aload_n 2, 1) := by decide +kernel
theorem dL_law_261 : decode cL_law 261 = .ok (.aload_n 0, 1) := by decide +kernel
theorem dL_law_262 : decode cL_law 262 = .ok (.iload_n 3, 1) := by decide +kernel
theorem dL_law_263 : decode cL_law 263 = .ok (.iconst 1, 1) := by decide +kernel
theorem dL_law_264 : decode cL_law 264 = .ok (.iadd, 1) := by decide +kernel
theorem dL_law_265 : decode cL_law 265 = .ok (.iaload, 1) := by decide +kernel
theorem dL_law_266 : decode cL_law 266 = .ok (.aload_n 0, 1) := by decide +kernel
theorem dL_law_267 : decode cL_law 267 = .ok (.iload_n 3, 1) := by decide +kernel
theorem dL_law_268 : decode cL_law 268 = .ok (.iconst 2, 1) := by decide +kernel
theorem dL_law_269 : decode cL_law 269 = .ok (.iadd, 1) := by decide +kernel
theorem dL_law_270 : decode cL_law 270 = .ok (.iaload, 1) := by decide +kernel
theorem dL_law_271 : decode cL_law 271 = .ok (.invokevirtual 35, 3) := by decide +kernel
theorem dL_law_274 : decode cL_law 274 = .ok (.if_icmp .eq 317, 3) := by decide +kernel
theorem dL_law_277 : decode cL_law 277 = .ok (.iconst 0, 1) := by decide +kernel
theorem dL_law_278 : decode cL_law 278 = .ok (.ireturn, 1) := by decide +kernel
theorem dL_law_279 : decode cL_law 279 = .ok (.aload_n 1, 1) := by decide +kernel
theorem dL_law_280 : decode cL_law 280 = .ok (.aload_n 0, 1) := by decide +kernel
theorem dL_law_281 : decode cL_law 281 = .ok (.iload_n 3, 1) := by decide +kernel
theorem dL_law_282 : decode cL_law 282 = .ok (.iconst 1, 1) := by decide +kernel
theorem dL_law_283 : decode cL_law 283 = .ok (.iadd, 1) := by decide +kernel
theorem dL_law_284 : decode cL_law 284 = .ok (.iaload, 1) := by decide +kernel
theorem dL_law_285 : decode cL_law 285 = .ok (.aload_n 0, 1) := by decide +kernel
theorem dL_law_286 : decode cL_law 286 = .ok (.iload_n 3, 1) := by decide +kernel
theorem dL_law_287 : decode cL_law 287 = .ok (.iconst 2, 1) := by decide +kernel
theorem dL_law_288 : decode cL_law 288 = .ok (.iadd, 1) := by decide +kernel
theorem dL_law_289 : decode cL_law 289 = .ok (.iaload, 1) := by decide +kernel
theorem dL_law_290 : decode cL_law 290 = .ok (.invokevirtual 36, 3) := by decide +kernel
theorem dL_law_293 : decode cL_law 293 = .ok (.aload_n 2, 1) := by decide +kernel
theorem dL_law_294 : decode cL_law 294 = .ok (.aload_n 0, 1) := by decide +kernel
theorem dL_law_295 : decode cL_law 295 = .ok (.iload_n 3, 1) := by decide +kernel
theorem dL_law_296 : decode cL_law 296 = .ok (.iconst 1, 1) := by decide +kernel
theorem dL_law_297 : decode cL_law 297 = .ok (.iadd, 1) := by decide +kernel
theorem dL_law_298 : decode cL_law 298 = .ok (.iaload, 1) := by decide +kernel
theorem dL_law_299 : decode cL_law 299 = .ok (.aload_n 0, 1) := by decide +kernel
theorem dL_law_300 : decode cL_law 300 = .ok (.iload_n 3, 1) := by decide +kernel
theorem dL_law_301 : decode cL_law 301 = .ok (.iconst 2, 1) := by decide +kernel
theorem dL_law_302 : decode cL_law 302 = .ok (.iadd, 1) := by decide +kernel
theorem dL_law_303 : decode cL_law 303 = .ok (.iaload, 1) := by decide +kernel
theorem dL_law_304 : decode cL_law 304 = .ok (.invokevirtual 39, 3) := by decide +kernel
theorem dL_law_307 : decode cL_law 307 = .ok (.if_icmp .eq 284, 3) := by decide +kernel
theorem dL_law_310 : decode cL_law 310 = .ok (.iconst 0, 1) := by decide +kernel
theorem dL_law_311 : decode cL_law 311 = .ok (.ireturn, 1) := by decide +kernel
theorem dL_law_312 : decode cL_law 312 = .ok (.aload_n 1, 1) := by decide +kernel
theorem dL_law_313 : decode cL_law 313 = .ok (.aload_n 0, 1) := by decide +kernel
theorem dL_law_314 : decode cL_law 314 = .ok (.iload_n 3, 1) := by decide +kernel
theorem dL_law_315 : decode cL_law 315 = .ok (.iconst 1, 1) := by decide +kernel
theorem dL_law_316 : decode cL_law 316 = .ok (.iadd, 1) := by decide +kernel
theorem dL_law_317 : decode cL_law 317 = .ok (.iaload, 1) := by decide +kernel
theorem dL_law_318 : decode cL_law 318 = .ok (.aload_n 0, 1) := by decide +kernel
theorem dL_law_319 : decode cL_law 319 = .ok (.iload_n 3, 1) := by decide +kernel
theorem dL_law_320 : decode cL_law 320 = .ok (.iconst 2, 1) := by decide +kernel
theorem dL_law_321 : decode cL_law 321 = .ok (.iadd, 1) := by decide +kernel
theorem dL_law_322 : decode cL_law 322 = .ok (.iaload, 1) := by decide +kernel
theorem dL_law_323 : decode cL_law 323 = .ok (.invokevirtual 40, 3) := by decide +kernel
theorem dL_law_326 : decode cL_law 326 = .ok (.aload_n 2, 1) := by decide +kernel
theorem dL_law_327 : decode cL_law 327 = .ok (.aload_n 0, 1) := by decide +kernel
theorem dL_law_328 : decode cL_law 328 = .ok (.iload_n 3, 1) := by decide +kernel
theorem dL_law_329 : decode cL_law 329 = .ok (.iconst 1, 1) := by decide +kernel
theorem dL_law_330 : decode cL_law 330 = .ok (.iadd, 1) := by decide +kernel
theorem dL_law_331 : decode cL_law 331 = .ok (.iaload, 1) := by decide +kernel
theorem dL_law_332 : decode cL_law 332 = .ok (.aload_n 0, 1) := by decide +kernel
theorem dL_law_333 : decode cL_law 333 = .ok (.iload_n 3, 1) := by decide +kernel
theorem dL_law_334 : decode cL_law 334 = .ok (.iconst 2, 1) := by decide +kernel
theorem dL_law_335 : decode cL_law 335 = .ok (.iadd, 1) := by decide +kernel
theorem dL_law_336 : decode cL_law 336 = .ok (.iaload, 1) := by decide +kernel
theorem dL_law_337 : decode cL_law 337 = .ok (.invokevirtual 43, 3) := by decide +kernel
theorem dL_law_340 : decode cL_law 340 = .ok (.if_icmp .eq 251, 3) := by decide +kernel
theorem dL_law_343 : decode cL_law 343 = .ok (.iconst 0, 1) := by decide +kernel
theorem dL_law_344 : decode cL_law 344 = .ok (.ireturn, 1) := by decide +kernel
theorem dL_law_345 : decode cL_law 345 = .ok (.aload_n 1, 1) := by decide +kernel
theorem dL_law_346 : decode cL_law 346 = .ok (.aload_n 0, 1) := by decide +kernel
theorem dL_law_347 : decode cL_law 347 = .ok (.iload_n 3, 1) := by decide +kernel
theorem dL_law_348 : decode cL_law 348 = .ok (.iconst 1, 1) := by decide +kernel
theorem dL_law_349 : decode cL_law 349 = .ok (.iadd, 1) := by decide +kernel
theorem dL_law_350 : decode cL_law 350 = .ok (.iaload, 1) := by decide +kernel
theorem dL_law_351 : decode cL_law 351 = .ok (.invokevirtual 44, 3) := by decide +kernel
theorem dL_law_354 : decode cL_law 354 = .ok (.aload_n 2, 1) := by decide +kernel
theorem dL_law_355 : decode cL_law 355 = .ok (.aload_n 0, 1) := by decide +kernel
theorem dL_law_356 : decode cL_law 356 = .ok (.iload_n 3, 1) := by decide +kernel
theorem dL_law_357 : decode cL_law 357 = .ok (.iconst 1, 1) := by decide +kernel
theorem dL_law_358 : decode cL_law 358 = .ok (.iadd, 1) := by decide +kernel
theorem dL_law_359 : decode cL_law 359 = .ok (.iaload, 1) := by decide +kernel
theorem dL_law_360 : decode cL_law 360 = .ok (.invokevirtual 47, 3) := by decide +kernel
theorem dL_law_363 : decode cL_law 363 = .ok (.if_icmp .eq 228, 3) := by decide +kernel
theorem dL_law_366 : decode cL_law 366 = .ok (.iconst 0, 1) := by decide +kernel
theorem dL_law_367 : decode cL_law 367 = .ok (.ireturn, 1) := by decide +kernel
theorem dL_law_368 : decode cL_law 368 = .ok (.aload_n 1, 1) := by decide +kernel
theorem dL_law_369 : decode cL_law 369 = .ok (.aload_n 0, 1) := by decide +kernel
theorem dL_law_370 : decode cL_law 370 = .ok (.iload_n 3, 1) := by decide +kernel
theorem dL_law_371 : decode cL_law 371 = .ok (.iconst 1, 1) := by decide +kernel
theorem dL_law_372 : decode cL_law 372 = .ok (.iadd, 1) := by decide +kernel
theorem dL_law_373 : decode cL_law 373 = .ok (.iaload, 1) := by decide +kernel
theorem dL_law_374 : decode cL_law 374 = .ok (.invokevirtual 48, 3) := by decide +kernel
theorem dL_law_377 : decode cL_law 377 = .ok (.aload_n 2, 1) := by decide +kernel
theorem dL_law_378 : decode cL_law 378 = .ok (.aload_n 0, 1) := by decide +kernel
theorem dL_law_379 : decode cL_law 379 = .ok (.iload_n 3, 1) := by decide +kernel
theorem dL_law_380 : decode cL_law 380 = .ok (.iconst 1, 1) := by decide +kernel
theorem dL_law_381 : decode cL_law 381 = .ok (.iadd, 1) := by decide +kernel
theorem dL_law_382 : decode cL_law 382 = .ok (.iaload, 1) := by decide +kernel
theorem dL_law_383 : decode cL_law 383 = .ok (.invokevirtual 51, 3) := by decide +kernel
theorem dL_law_386 : decode cL_law 386 = .ok (.if_icmp .eq 205, 3) := by decide +kernel
theorem dL_law_389 : decode cL_law 389 = .ok (.iconst 0, 1) := by decide +kernel
theorem dL_law_390 : decode cL_law 390 = .ok (.ireturn, 1) := by decide +kernel
theorem dL_law_391 : decode cL_law 391 = .ok (.aload_n 1, 1) := by decide +kernel
theorem dL_law_392 : decode cL_law 392 = .ok (.aload_n 0, 1) := by decide +kernel
theorem dL_law_393 : decode cL_law 393 = .ok (.iload_n 3, 1) := by decide +kernel
theorem dL_law_394 : decode cL_law 394 = .ok (.iconst 1, 1) := by decide +kernel
theorem dL_law_395 : decode cL_law 395 = .ok (.iadd, 1) := by decide +kernel
theorem dL_law_396 : decode cL_law 396 = .ok (.iaload, 1) := by decide +kernel
theorem dL_law_397 : decode cL_law 397 = .ok (.invokevirtual 52, 3) := by decide +kernel
theorem dL_law_400 : decode cL_law 400 = .ok (.aload_n 2, 1) := by decide +kernel
theorem dL_law_401 : decode cL_law 401 = .ok (.aload_n 0, 1) := by decide +kernel
theorem dL_law_402 : decode cL_law 402 = .ok (.iload_n 3, 1) := by decide +kernel
theorem dL_law_403 : decode cL_law 403 = .ok (.iconst 1, 1) := by decide +kernel
theorem dL_law_404 : decode cL_law 404 = .ok (.iadd, 1) := by decide +kernel
theorem dL_law_405 : decode cL_law 405 = .ok (.iaload, 1) := by decide +kernel
theorem dL_law_406 : decode cL_law 406 = .ok (.invokevirtual 55, 3) := by decide +kernel
theorem dL_law_409 : decode cL_law 409 = .ok (.if_icmp .eq 182, 3) := by decide +kernel
theorem dL_law_412 : decode cL_law 412 = .ok (.iconst 0, 1) := by decide +kernel
theorem dL_law_413 : decode cL_law 413 = .ok (.ireturn, 1) := by decide +kernel
theorem dL_law_414 : decode cL_law 414 = .ok (.aload_n 1, 1) := by decide +kernel
theorem dL_law_415 : decode cL_law 415 = .ok (.aload_n 0, 1) := by decide +kernel
theorem dL_law_416 : decode cL_law 416 = .ok (.iload_n 3, 1) := by decide +kernel
theorem dL_law_417 : decode cL_law 417 = .ok (.iconst 1, 1) := by decide +kernel
theorem dL_law_418 : decode cL_law 418 = .ok (.iadd, 1) := by decide +kernel
theorem dL_law_419 : decode cL_law 419 = .ok (.iaload, 1) := by decide +kernel
theorem dL_law_420 : decode cL_law 420 = .ok (.aload_n 0, 1) := by decide +kernel
theorem dL_law_421 : decode cL_law 421 = .ok (.iload_n 3, 1) := by decide +kernel
theorem dL_law_422 : decode cL_law 422 = .ok (.iconst 2, 1) := by decide +kernel
theorem dL_law_423 : decode cL_law 423 = .ok (.iadd, 1) := by decide +kernel
theorem dL_law_424 : decode cL_law 424 = .ok (.iaload, 1) := by decide +kernel
theorem dL_law_425 : decode cL_law 425 = .ok (.invokevirtual 56, 3) := by decide +kernel
theorem dL_law_428 : decode cL_law 428 = .ok (.aload_n 2, 1) := by decide +kernel
theorem dL_law_429 : decode cL_law 429 = .ok (.aload_n 0, 1) := by decide +kernel
theorem dL_law_430 : decode cL_law 430 = .ok (.iload_n 3, 1) := by decide +kernel
theorem dL_law_431 : decode cL_law 431 = .ok (.iconst 1, 1) := by decide +kernel
theorem dL_law_432 : decode cL_law 432 = .ok (.iadd, 1) := by decide +kernel
theorem dL_law_433 : decode cL_law 433 = .ok (.iaload, 1) := by decide +kernel
theorem dL_law_434 : decode cL_law 434 = .ok (.aload_n 0, 1) := by decide +kernel
theorem dL_law_435 : decode cL_law 435 = .ok (.iload_n 3, 1) := by decide +kernel
theorem dL_law_436 : decode cL_law 436 = .ok (.iconst 2, 1) := by decide +kernel
theorem dL_law_437 : decode cL_law 437 = .ok (.iadd, 1) := by decide +kernel
theorem dL_law_438 : decode cL_law 438 = .ok (.iaload, 1) := by decide +kernel
theorem dL_law_439 : decode cL_law 439 = .ok (.invokevirtual 59, 3) := by decide +kernel
theorem dL_law_442 : decode cL_law 442 = .ok (.if_icmp .eq 149, 3) := by decide +kernel
theorem dL_law_445 : decode cL_law 445 = .ok (.iconst 0, 1) := by decide +kernel
theorem dL_law_446 : decode cL_law 446 = .ok (.ireturn, 1) := by decide +kernel
theorem dL_law_447 : decode cL_law 447 = .ok (.aload_n 1, 1) := by decide +kernel
theorem dL_law_448 : decode cL_law 448 = .ok (.invokevirtual 60, 3) := by decide +kernel
theorem dL_law_451 : decode cL_law 451 = .ok (.aload_n 2, 1) := by decide +kernel
theorem dL_law_452 : decode cL_law 452 = .ok (.invokevirtual 64, 3) := by decide +kernel
theorem dL_law_455 : decode cL_law 455 = .ok (.if_icmp .eq 136, 3) := by decide +kernel
theorem dL_law_458 : decode cL_law 458 = .ok (.iconst 0, 1) := by decide +kernel
theorem dL_law_459 : decode cL_law 459 = .ok (.ireturn, 1) := by decide +kernel
theorem dL_law_460 : decode cL_law 460 = .ok (.aload_n 1, 1) := by decide +kernel
theorem dL_law_461 : decode cL_law 461 = .ok (.aload_n 0, 1) := by decide +kernel
theorem dL_law_462 : decode cL_law 462 = .ok (.iload_n 3, 1) := by decide +kernel
theorem dL_law_463 : decode cL_law 463 = .ok (.iconst 1, 1) := by decide +kernel
theorem dL_law_464 : decode cL_law 464 = .ok (.iadd, 1) := by decide +kernel
theorem dL_law_465 : decode cL_law 465 = .ok (.iaload, 1) := by decide +kernel
theorem dL_law_466 : decode cL_law 466 = .ok (.invokevirtual 65, 3) := by decide +kernel
theorem dL_law_469 : decode cL_law 469 = .ok (.aload_n 2, 1) := by decide +kernel
theorem dL_law_470 : decode cL_law 470 = .ok (.aload_n 0, 1) := by decide +kernel
theorem dL_law_471 : decode cL_law 471 = .ok (.iload_n 3, 1) := by decide +kernel
theorem dL_law_472 : decode cL_law 472 = .ok (.iconst 1, 1) := by decide +kernel
theorem dL_law_473 : decode cL_law 473 = .ok (.iadd, 1) := by decide +kernel
theorem dL_law_474 : decode cL_law 474 = .ok (.iaload, 1) := by decide +kernel
theorem dL_law_475 : decode cL_law 475 = .ok (.invokevirtual 68, 3) := by decide +kernel
theorem dL_law_478 : decode cL_law 478 = .ok (.if_icmp .eq 113, 3) := by decide +kernel
theorem dL_law_481 : decode cL_law 481 = .ok (.iconst 0, 1) := by decide +kernel
theorem dL_law_482 : decode cL_law 482 = .ok (.ireturn, 1) := by decide +kernel
theorem dL_law_483 : decode cL_law 483 = .ok (.aload_n 1, 1) := by decide +kernel
theorem dL_law_484 : decode cL_law 484 = .ok (.invokevirtual 69, 3) := by decide +kernel
theorem dL_law_487 : decode cL_law 487 = .ok (.aload_n 2, 1) := by decide +kernel
theorem dL_law_488 : decode cL_law 488 = .ok (.invokevirtual 72, 3) := by decide +kernel
theorem dL_law_491 : decode cL_law 491 = .ok (.if_icmp .eq 100, 3) := by decide +kernel
theorem dL_law_494 : decode cL_law 494 = .ok (.iconst 0, 1) := by decide +kernel
theorem dL_law_495 : decode cL_law 495 = .ok (.ireturn, 1) := by decide +kernel
theorem dL_law_496 : decode cL_law 496 = .ok (.aload_n 1, 1) := by decide +kernel
theorem dL_law_497 : decode cL_law 497 = .ok (.aload_n 0, 1) := by decide +kernel
theorem dL_law_498 : decode cL_law 498 = .ok (.iload_n 3, 1) := by decide +kernel
theorem dL_law_499 : decode cL_law 499 = .ok (.iconst 1, 1) := by decide +kernel
theorem dL_law_500 : decode cL_law 500 = .ok (.iadd, 1) := by decide +kernel
theorem dL_law_501 : decode cL_law 501 = .ok (.iaload, 1) := by decide +kernel
theorem dL_law_502 : decode cL_law 502 = .ok (.invokevirtual 73, 3) := by decide +kernel
theorem dL_law_505 : decode cL_law 505 = .ok (.aload_n 2, 1) := by decide +kernel
theorem dL_law_506 : decode cL_law 506 = .ok (.aload_n 0, 1) := by decide +kernel
theorem dL_law_507 : decode cL_law 507 = .ok (.iload_n 3, 1) := by decide +kernel
theorem dL_law_508 : decode cL_law 508 = .ok (.iconst 1, 1) := by decide +kernel
theorem dL_law_509 : decode cL_law 509 = .ok (.iadd, 1) := by decide +kernel
theorem dL_law_510 : decode cL_law 510 = .ok (.iaload, 1) := by decide +kernel
theorem dL_law_511 : decode cL_law 511 = .ok (.invokevirtual 76, 3) := by decide +kernel
theorem dL_law_514 : decode cL_law 514 = .ok (.if_icmp .eq 77, 3) := by decide +kernel
theorem dL_law_517 : decode cL_law 517 = .ok (.iconst 0, 1) := by decide +kernel
theorem dL_law_518 : decode cL_law 518 = .ok (.ireturn, 1) := by decide +kernel
theorem dL_law_519 : decode cL_law 519 = .ok (.aload_n 1, 1) := by decide +kernel
theorem dL_law_520 : decode cL_law 520 = .ok (.aload_n 0, 1) := by decide +kernel
theorem dL_law_521 : decode cL_law 521 = .ok (.iload_n 3, 1) := by decide +kernel
theorem dL_law_522 : decode cL_law 522 = .ok (.iconst 1, 1) := by decide +kernel
theorem dL_law_523 : decode cL_law 523 = .ok (.iadd, 1) := by decide +kernel
theorem dL_law_524 : decode cL_law 524 = .ok (.iaload, 1) := by decide +kernel
theorem dL_law_525 : decode cL_law 525 = .ok (.aload_n 0, 1) := by decide +kernel
theorem dL_law_526 : decode cL_law 526 = .ok (.iload_n 3, 1) := by decide +kernel
theorem dL_law_527 : decode cL_law 527 = .ok (.iconst 2, 1) := by decide +kernel
theorem dL_law_528 : decode cL_law 528 = .ok (.iadd, 1) := by decide +kernel
theorem dL_law_529 : decode cL_law 529 = .ok (.iaload, 1) := by decide +kernel
theorem dL_law_530 : decode cL_law 530 = .ok (.invokevirtual 77, 3) := by decide +kernel
theorem dL_law_533 : decode cL_law 533 = .ok (.aload_n 2, 1) := by decide +kernel
theorem dL_law_534 : decode cL_law 534 = .ok (.aload_n 0, 1) := by decide +kernel
theorem dL_law_535 : decode cL_law 535 = .ok (.iload_n 3, 1) := by decide +kernel
theorem dL_law_536 : decode cL_law 536 = .ok (.iconst 1, 1) := by decide +kernel
theorem dL_law_537 : decode cL_law 537 = .ok (.iadd, 1) := by decide +kernel
theorem dL_law_538 : decode cL_law 538 = .ok (.iaload, 1) := by decide +kernel
theorem dL_law_539 : decode cL_law 539 = .ok (.aload_n 0, 1) := by decide +kernel
theorem dL_law_540 : decode cL_law 540 = .ok (.iload_n 3, 1) := by decide +kernel
theorem dL_law_541 : decode cL_law 541 = .ok (.iconst 2, 1) := by decide +kernel
theorem dL_law_542 : decode cL_law 542 = .ok (.iadd, 1) := by decide +kernel
theorem dL_law_543 : decode cL_law 543 = .ok (.iaload, 1) := by decide +kernel
theorem dL_law_544 : decode cL_law 544 = .ok (.invokevirtual 80, 3) := by decide +kernel
theorem dL_law_547 : decode cL_law 547 = .ok (.if_icmp .eq 44, 3) := by decide +kernel
theorem dL_law_550 : decode cL_law 550 = .ok (.iconst 0, 1) := by decide +kernel
theorem dL_law_551 : decode cL_law 551 = .ok (.ireturn, 1) := by decide +kernel
theorem dL_law_552 : decode cL_law 552 = .ok (.aload_n 1, 1) := by decide +kernel
theorem dL_law_553 : decode cL_law 553 = .ok (.invokevirtual 81, 3) := by decide +kernel
theorem dL_law_556 : decode cL_law 556 = .ok (.aload_n 2, 1) := by decide +kernel
theorem dL_law_557 : decode cL_law 557 = .ok (.invokevirtual 84, 3) := by decide +kernel
theorem dL_law_560 : decode cL_law 560 = .ok (.if_icmp .eq 31, 3) := by decide +kernel
theorem dL_law_563 : decode cL_law 563 = .ok (.iconst 0, 1) := by decide +kernel
theorem dL_law_564 : decode cL_law 564 = .ok (.ireturn, 1) := by decide +kernel
theorem dL_law_565 : decode cL_law 565 = .ok (.aload_n 1, 1) := by decide +kernel
theorem dL_law_566 : decode cL_law 566 = .ok (.invokevirtual 85, 3) := by decide +kernel
theorem dL_law_569 : decode cL_law 569 = .ok (.aload_n 2, 1) := by decide +kernel
theorem dL_law_570 : decode cL_law 570 = .ok (.invokevirtual 88, 3) := by decide +kernel
theorem dL_law_573 : decode cL_law 573 = .ok (.if_icmp .eq 18, 3) := by decide +kernel
theorem dL_law_576 : decode cL_law 576 = .ok (.iconst 0, 1) := by decide +kernel
theorem dL_law_577 : decode cL_law 577 = .ok (.ireturn, 1) := by decide +kernel
theorem dL_law_578 : decode cL_law 578 = .ok (.aload_n 1, 1) := by decide +kernel
theorem dL_law_579 : decode cL_law 579 = .ok (.invokevirtual 89, 3) := by decide +kernel
theorem dL_law_582 : decode cL_law 582 = .ok (.aload_n 2, 1) := by decide +kernel
theorem dL_law_583 : decode cL_law 583 = .ok (.invokevirtual 92, 3) := by decide +kernel
theorem dL_law_586 : decode cL_law 586 = .ok (.if_icmp .eq 5, 3) := by decide +kernel
theorem dL_law_589 : decode cL_law 589 = .ok (.iconst 0, 1) := by decide +kernel
theorem dL_law_590 : decode cL_law 590 = .ok (.ireturn, 1) := by decide +kernel
theorem dL_law_591 : decode cL_law 591 = .ok (.iinc 3 4, 3) := by decide +kernel
theorem dL_law_594 : decode cL_law 594 = .ok (.goto (-576), 3) := by decide +kernel
theorem dL_law_597 : decode cL_law 597 = .ok (.iconst 1, 1) := by decide +kernel
theorem dL_law_598 : decode cL_law 598 = .ok (.ireturn, 1) := by decide +kernel
