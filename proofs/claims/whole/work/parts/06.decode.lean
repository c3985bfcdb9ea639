theorem dX5_sideOf_15 : decode cX5_sideOf 15 = .ok (.iload_n 2, 1) := by decide +kernel
theorem dX5_sideOf_16 : decode cX5_sideOf 16 = .ok (.iload_n 1, 1) := by decide +kernel
theorem dX5_sideOf_17 : decode cX5_sideOf 17 = .ok (.invokevirtual 74, 3) := by decide +kernel
theorem dX5_sideOf_20 : decode cX5_sideOf 20 = .ok (.ifCond .lt 7, 3) := by decide +kernel
theorem dX5_sideOf_23 : decode cX5_sideOf 23 = .ok (.iconst 1, 1) := by decide +kernel
theorem dX5_sideOf_24 : decode cX5_sideOf 24 = .ok (.goto 4, 3) := by decide +kernel
theorem dX5_sideOf_27 : decode cX5_sideOf 27 = .ok (.iconst 0, 1) := by decide +kernel
theorem dX5_sideOf_28 : decode cX5_sideOf 28 = .ok (.iadd, 1) := by decide +kernel
theorem dX5_sideOf_29 : decode cX5_sideOf 29 = .ok (.ireturn, 1) := by decide +kernel
theorem dX5_put_0 : decode cX5_put 0 = .ok (.aload_n 0, 1) := by decide +kernel
theorem dX5_put_1 : decode cX5_put 1 = .ok (.getfield 13, 3) := by decide +kernel
theorem dX5_put_4 : decode cX5_put 4 = .ok (.iconst 3, 1) := by decide +kernel
theorem dX5_put_5 : decode cX5_put 5 = .ok (.iload_n 1, 1) := by decide +kernel
theorem dX5_put_6 : decode cX5_put 6 = .ok (.imul, 1) := by decide +kernel
theorem dX5_put_7 : decode cX5_put 7 = .ok (.iload_n 2, 1) := by decide +kernel
theorem dX5_put_8 : decode cX5_put 8 = .ok (.iastore, 1) := by decide +kernel
theorem dX5_put_9 : decode cX5_put 9 = .ok (.aload_n 0, 1) := by decide +kernel
theorem dX5_put_10 : decode cX5_put 10 = .ok (.getfield 13, 3) := by decide +kernel
theorem dX5_put_13 : decode cX5_put 13 = .ok (.iconst 3, 1) := by decide +kernel
theorem dX5_put_14 : decode cX5_put 14 = .ok (.iload_n 1, 1) := by decide +kernel
theorem dX5_put_15 : decode cX5_put 15 = .ok (.imul, 1) := by decide +kernel
theorem dX5_put_16 : decode cX5_put 16 = .ok (.iconst 1, 1) := by decide +kernel
theorem dX5_put_17 : decode cX5_put 17 = .ok (.iadd, 1) := by decide +kernel
theorem dX5_put_18 : decode cX5_put 18 = .ok (.iload_n 3, 1) := by decide +kernel
theorem dX5_put_19 : decode cX5_put 19 = .ok (.iastore, 1) := by decide +kernel
theorem dX5_put_20 : decode cX5_put 20 = .ok (.aload_n 0, 1) := by decide +kernel
theorem dX5_put_21 : decode cX5_put 21 = .ok (.getfield 13, 3) := by decide +kernel
theorem dX5_put_24 : decode cX5_put 24 = .ok (.iconst 3, 1) := by decide +kernel
theorem dX5_put_25 : decode cX5_put 25 = .ok (.iload_n 1, 1) := by decide +kernel
theorem dX5_put_26 : decode cX5_put 26 = .ok (.imul, 1) := by decide +kernel
theorem dX5_put_27 : decode cX5_put 27 = .ok (.iconst 2, 1) := by decide +kernel
theorem dX5_put_28 : decode cX5_put 28 = .ok (.iadd, 1) := by decide +kernel
theorem dX5_put_29 : decode cX5_put 29 = .ok (.iload 4, 2) := by decide +kernel
theorem dX5_put_31 : decode cX5_put 31 = .ok (.iastore, 1) := by decide +kernel
theorem dX5_put_32 : decode cX5_put 32 = .ok (.return_, 1) := by decide +kernel
theorem dX5_write_0 : decode cX5_write 0 = .ok (.aload_n 0, 1) := by decide +kernel
theorem dX5_write_1 : decode cX5_write 1 = .ok (.getfield 59, 3) := by decide +kernel
theorem dX5_write_4 : decode cX5_write 4 = .ok (.bipush 60, 2) := by decide +kernel
theorem dX5_write_6 : decode cX5_write 6 = .ok (.if_icmp .ne 47, 3) := by decide +kernel
theorem dX5_write_9 : decode cX5_write 9 = .ok (.iconst 0, 1) := by decide +kernel
theorem dX5_write_10 : decode cX5_write 10 = .ok (.istore 4, 2) := by decide +kernel
theorem dX5_write_12 : decode cX5_write 12 = .ok (.iload 4, 2) := by decide +kernel
theorem dX5_write_14 : decode cX5_write 14 = .ok (.sipush 885, 3) := by decide +kernel
theorem dX5_write_17 : decode cX5_write 17 = .ok (.if_icmp .ge 26, 3) := by decide +kernel
theorem dX5_write_20 : decode cX5_write 20 = .ok (.aload_n 0, 1) := by decide +kernel
theorem dX5_write_21 : decode cX5_write 21 = .ok (.getfield 29, 3) := by decide +kernel
theorem dX5_write_24 : decode cX5_write 24 = .ok (.iload 4, 2) := by decide +kernel
theorem dX5_write_26 : decode cX5_write 26 = .ok (.aload_n 0, 1) := by decide +kernel
theorem dX5_write_27 : decode cX5_write 27 = .ok (.getfield 29, 3) := by decide +kernel
theorem dX5_write_30 : decode cX5_write 30 = .ok (.iload 4, 2) := by decide +kernel
theorem dX5_write_32 : decode cX5_write 32 = .ok (.bipush 15, 2) := by decide +kernel
theorem dX5_write_34 : decode cX5_write 34 = .ok (.iadd, 1) := by decide +kernel
theorem dX5_write_35 : decode cX5_write 35 = .ok (.iaload, 1) := by decide +kernel
theorem dX5_write_36 : decode cX5_write 36 = .ok (.iastore, 1) := by decide +kernel
theorem dX5_write_37 : decode cX5_write 37 = .ok (.iinc 4 1, 3) := by decide +kernel
theorem dX5_write_40 : decode cX5_write 40 = .ok (.goto (-28), 3) := by decide +kernel
theorem dX5_write_43 : decode cX5_write 43 = .ok (.aload_n 0, 1) := by decide +kernel
theorem dX5_write_44 : decode cX5_write 44 = .ok (.dup, 1) := by decide +kernel
theorem dX5_write_45 : decode cX5_write 45 = .ok (.getfield 59, 3) := by decide +kernel
theorem dX5_write_48 : decode cX5_write 48 = .ok (.iconst 1, 1) := by decide +kernel
theorem dX5_write_49 : decode cX5_write 49 = .ok (.isub, 1) := by decide +kernel
theorem dX5_write_50 : decode cX5_write 50 = .ok (.putfield 59, 3) := by decide +kernel
theorem dX5_write_53 : decode cX5_write 53 = .ok (.aload_n 0, 1) := by decide +kernel
theorem dX5_write_54 : decode cX5_write 54 = .ok (.getfield 29, 3) := by decide +kernel
theorem dX5_write_57 : decode cX5_write 57 = .ok (.bipush 15, 2) := by decide +kernel
theorem dX5_write_59 : decode cX5_write 59 = .ok (.aload_n 0, 1) := by decide +kernel
theorem dX5_write_60 : decode cX5_write 60 = .ok (.getfield 59, 3) := by decide +kernel
theorem dX5_write_63 : decode cX5_write 63 = .ok (.imul, 1) := by decide +kernel
theorem dX5_write_64 : decode cX5_write 64 = .ok (.iload_n 1, 1) := by decide +kernel
theorem dX5_write_65 : decode cX5_write 65 = .ok (.iastore, 1) := by decide +kernel
theorem dX5_write_66 : decode cX5_write 66 = .ok (.aload_n 0, 1) := by decide +kernel
theorem dX5_write_67 : decode cX5_write 67 = .ok (.getfield 29, 3) := by decide +kernel
theorem dX5_write_70 : decode cX5_write 70 = .ok (.bipush 15, 2) := by decide +kernel
theorem dX5_write_72 : decode cX5_write 72 = .ok (.aload_n 0, 1) := by decide +kernel
theorem dX5_write_73 : decode cX5_write 73 = .ok (.getfield 59, 3) := by decide +kernel
theorem dX5_write_76 : decode cX5_write 76 = .ok (.imul, 1) := by decide +kernel
theorem dX5_write_77 : decode cX5_write 77 = .ok (.iconst 1, 1) := by decide +kernel
theorem dX5_write_78 : decode cX5_write 78 = .ok (.iadd, 1) := by decide +kernel
theorem dX5_write_79 : decode cX5_write 79 = .ok (.iload_n 2, 1) := by decide +kernel
theorem dX5_write_80 : decode cX5_write 80 = .ok (.iastore, 1) := by decide +kernel
theorem dX5_write_81 : decode cX5_write 81 = .ok (.aload_n 0, 1) := by decide +kernel
theorem dX5_write_82 : decode cX5_write 82 = .ok (.getfield 29, 3) := by decide +kernel
theorem dX5_write_85 : decode cX5_write 85 = .ok (.bipush 15, 2) := by decide +kernel
theorem dX5_write_87 : decode cX5_write 87 = .ok (.aload_n 0, 1) := by decide +kernel
theorem dX5_write_88 : decode cX5_write 88 = .ok (.getfield 59, 3) := by decide +kernel
theorem dX5_write_91 : decode cX5_write 91 = .ok (.imul, 1) := by decide +kernel
theorem dX5_write_92 : decode cX5_write 92 = .ok (.iconst 2, 1) := by decide +kernel
theorem dX5_write_93 : decode cX5_write 93 = .ok (.iadd, 1) := by decide +kernel
theorem dX5_write_94 : decode cX5_write 94 = .ok (.iload_n 3, 1) := by decide +kernel
theorem dX5_write_95 : decode cX5_write 95 = .ok (.iastore, 1) := by decide +kernel
theorem dX5_write_96 : decode cX5_write 96 = .ok (.aload_n 0, 1) := by decide +kernel
theorem dX5_write_97 : decode cX5_write 97 = .ok (.dup, 1) := by decide +kernel
theorem dX5_write_98 : decode cX5_write 98 = .ok (.getfield 59, 3) := by decide +kernel
theorem dX5_write_101 : decode cX5_write 101 = .ok (.iconst 1, 1) := by decide +kernel
theorem dX5_write_102 : decode cX5_write 102 = .ok (.iadd, 1) := by decide +kernel
theorem dX5_write_103 : decode cX5_write 103 = .ok (.putfield 59, 3) := by decide +kernel
theorem dX5_write_106 : decode cX5_write 106 = .ok (.aload_n 0, 1) := by decide +kernel
theorem dX5_write_107 : decode cX5_write 107 = .ok (.aload_n 0, 1) := by decide +kernel
theorem dX5_write_108 : decode cX5_write 108 = .ok (.getfield 59, 3) := by decide +kernel
theorem dX5_write_111 : decode cX5_write 111 = .ok (.putfield 56, 3) := by decide +kernel
theorem dX5_write_114 : decode cX5_write 114 = .ok (.aload_n 0, 1) := by decide +kernel
theorem dX5_write_115 : decode cX5_write 115 = .ok (.iconst 0, 1) := by decide +kernel
theorem dX5_write_116 : decode cX5_write 116 = .ok (.putfield 62, 3) := by decide +kernel
theorem dX5_write_119 : decode cX5_write 119 = .ok (.return_, 1) := by decide +kernel
theorem dX5_keepThirds_0 : decode cX5_keepThirds 0 = .ok (.iconst 0, 1) := by decide +kernel
theorem dX5_keepThirds_1 : decode cX5_keepThirds 1 = .ok (.istore 4, 2) := by decide +kernel
theorem dX5_keepThirds_3 : decode cX5_keepThirds 3 = .ok (.iload 4, 2) := by decide +kernel
theorem dX5_keepThirds_5 : decode cX5_keepThirds 5 = .ok (.iconst 3, 1) := by decide +kernel
theorem dX5_keepThirds_6 : decode cX5_keepThirds 6 = .ok (.if_icmp .ge 51, 3) := by decide +kernel
theorem dX5_keepThirds_9 : decode cX5_keepThirds 9 = .ok (.aload_n 0, 1) := by decide +kernel
theorem dX5_keepThirds_10 : decode cX5_keepThirds 10 = .ok (.getfield 29, 3) := by decide +kernel
theorem dX5_keepThirds_13 : decode cX5_keepThirds 13 = .ok (.iload_n 1, 1) := by decide +kernel
theorem dX5_keepThirds_14 : decode cX5_keepThirds 14 = .ok (.iload 4, 2) := by decide +kernel
theorem dX5_keepThirds_16 : decode cX5_keepThirds 16 = .ok (.iadd, 1) := by decide +kernel
theorem dX5_keepThirds_17 : decode cX5_keepThirds 17 = .ok (.aload_n 0, 1) := by decide +kernel
theorem dX5_keepThirds_18 : decode cX5_keepThirds 18 = .ok (.getfield 13, 3) := by decide +kernel
theorem dX5_keepThirds_21 : decode cX5_keepThirds 21 = .ok (.iconst 3, 1) := by decide +kernel
theorem dX5_keepThirds_22 : decode cX5_keepThirds 22 = .ok (.iload_n 2, 1) := by decide +kernel
theorem dX5_keepThirds_23 : decode cX5_keepThirds 23 = .ok (.imul, 1) := by decide +kernel
theorem dX5_keepThirds_24 : decode cX5_keepThirds 24 = .ok (.iload 4, 2) := by decide +kernel
theorem dX5_keepThirds_26 : decode cX5_keepThirds 26 = .ok (.iadd, 1) := by decide +kernel
theorem dX5_keepThirds_27 : decode cX5_keepThirds 27 = .ok (.iaload, 1) := by decide +kernel
theorem dX5_keepThirds_28 : decode cX5_keepThirds 28 = .ok (.iastore, 1) := by decide +kernel
theorem dX5_keepThirds_29 : decode cX5_keepThirds 29 = .ok (.aload_n 0, 1) := by decide +kernel
theorem dX5_keepThirds_30 : decode cX5_keepThirds 30 = .ok (.getfield 29, 3) := by decide +kernel
theorem dX5_keepThirds_33 : decode cX5_keepThirds 33 = .ok (.iload_n 1, 1) := by decide +kernel
theorem dX5_keepThirds_34 : decode cX5_keepThirds 34 = .ok (.iconst 3, 1) := by decide +kernel
theorem dX5_keepThirds_35 : decode cX5_keepThirds 35 = .ok (.iadd, 1) := by decide +kernel
theorem dX5_keepThirds_36 : decode cX5_keepThirds 36 = .ok (.iload 4, 2) := by decide +kernel
theorem dX5_keepThirds_38 : decode cX5_keepThirds 38 = .ok (.iadd, 1) := by decide +kernel
theorem dX5_keepThirds_39 : decode cX5_keepThirds 39 = .ok (.aload_n 0, 1) := by decide +kernel
theorem dX5_keepThirds_40 : decode cX5_keepThirds 40 = .ok (.getfield 13, 3) := by decide +kernel
theorem dX5_keepThirds_43 : decode cX5_keepThirds 43 = .ok (.iconst 3, 1) := by decide +kernel
theorem dX5_keepThirds_44 : decode cX5_keepThirds 44 = .ok (.iload_n 3, 1) := by decide +kernel
theorem dX5_keepThirds_45 : decode cX5_keepThirds 45 = .ok (.imul, 1) := by decide +kernel
theorem dX5_keepThirds_46 : decode cX5_keepThirds 46 = .ok (.iload 4, 2) := by decide +kernel
theorem dX5_keepThirds_48 : decode cX5_keepThirds 48 = .ok (.iadd, 1) := by decide +kernel
theorem dX5_keepThirds_49 : decode cX5_keepThirds 49 = .ok (.iaload, 1) := by decide +kernel
theorem dX5_keepThirds_50 : decode cX5_keepThirds 50 = .ok (.iastore, 1) := by decide +kernel
theorem dX5_keepThirds_51 : decode cX5_keepThirds 51 = .ok (.iinc 4 1, 3) := by decide +kernel
theorem dX5_keepThirds_54 : decode cX5_keepThirds 54 = .ok (.goto (-51), 3) := by decide +kernel
theorem dX5_keepThirds_57 : decode cX5_keepThirds 57 = .ok (.return_, 1) := by decide +kernel
theorem dX5_takeThirds_0 : decode cX5_takeThirds 0 = .ok (.iconst 0, 1) := by decide +kernel
theorem dX5_takeThirds_1 : decode cX5_takeThirds 1 = .ok (.istore 4, 2) := by decide +kernel
theorem dX5_takeThirds_3 : decode cX5_takeThirds 3 = .ok (.iload 4, 2) := by decide +kernel
theorem dX5_takeThirds_5 : decode cX5_takeThirds 5 = .ok (.iconst 3, 1) := by decide +kernel
theorem dX5_takeThirds_6 : decode cX5_takeThirds 6 = .ok (.if_icmp .ge 51, 3) := by decide +kernel
theorem dX5_takeThirds_9 : decode cX5_takeThirds 9 = .ok (.aload_n 0, 1) := by decide +kernel
theorem dX5_takeThirds_10 : decode cX5_takeThirds 10 = .ok (.getfield 13, 3) := by decide +kernel
theorem dX5_takeThirds_13 : decode cX5_takeThirds 13 = .ok (.iconst 3, 1) := by decide +kernel
theorem dX5_takeThirds_14 : decode cX5_takeThirds 14 = .ok (.iload_n 2, 1) := by decide +kernel
theorem dX5_takeThirds_15 : decode cX5_takeThirds 15 = .ok (.imul, 1) := by decide +kernel
theorem dX5_takeThirds_16 : decode cX5_takeThirds 16 = .ok (.iload 4, 2) := by decide +kernel
theorem dX5_takeThirds_18 : decode cX5_takeThirds 18 = .ok (.iadd, 1) := by decide +kernel
theorem dX5_takeThirds_19 : decode cX5_takeThirds 19 = .ok (.aload_n 0, 1) := by decide +kernel
theorem dX5_takeThirds_20 : decode cX5_takeThirds 20 = .ok (.getfield 29, 3) := by decide +kernel
theorem dX5_takeThirds_23 : decode cX5_takeThirds 23 = .ok (.iload_n 1, 1) := by decide +kernel
theorem dX5_takeThirds_24 : decode cX5_takeThirds 24 = .ok (.iload 4, 2) := by decide +kernel
theorem dX5_takeThirds_26 : decode cX5_takeThirds 26 = .ok (.iadd, 1) := by decide +kernel
theorem dX5_takeThirds_27 : decode cX5_takeThirds 27 = .ok (.iaload, 1) := by decide +kernel
theorem dX5_takeThirds_28 : decode cX5_takeThirds 28 = .ok (.iastore, 1) := by decide +kernel
theorem dX5_takeThirds_29 : decode cX5_takeThirds 29 = .ok (.aload_n 0, 1) := by decide +kernel
theorem dX5_takeThirds_30 : decode cX5_takeThirds 30 = .ok (.getfield 13, 3) := by decide +kernel
theorem dX5_takeThirds_33 : decode cX5_takeThirds 33 = .ok (.iconst 3, 1) := by decide +kernel
theorem dX5_takeThirds_34 : decode cX5_takeThirds 34 = .ok (.iload_n 3, 1) := by decide +kernel
theorem dX5_takeThirds_35 : decode cX5_takeThirds 35 = .ok (.imul, 1) := by decide +kernel
theorem dX5_takeThirds_36 : decode cX5_takeThirds 36 = .ok (.iload 4, 2) := by decide +kernel
theorem dX5_takeThirds_38 : decode cX5_takeThirds 38 = .ok (.iadd, 1) := by decide +kernel
theorem dX5_takeThirds_39 : decode cX5_takeThirds 39 = .ok (.aload_n 0, 1) := by decide +kernel
theorem dX5_takeThirds_40 : decode cX5_takeThirds 40 = .ok (.getfield 29, 3) := by decide +kernel
theorem dX5_takeThirds_43 : decode cX5_takeThirds 43 = .ok (.iload_n 1, 1) := by decide +kernel
theorem dX5_takeThirds_44 : decode cX5_takeThirds 44 = .ok (.iconst 3, 1) := by decide +kernel
theorem dX5_takeThirds_45 : decode cX5_takeThirds 45 = .ok (.iadd, 1) := by decide +kernel
theorem dX5_takeThirds_46 : decode cX5_takeThirds 46 = .ok (.iload 4, 2) := by decide +kernel
theorem dX5_takeThirds_48 : decode cX5_takeThirds 48 = .ok (.iadd, 1) := by decide +kernel
theorem dX5_takeThirds_49 : decode cX5_takeThirds 49 = .ok (.iaload, 1) := by decide +kernel
theorem dX5_takeThirds_50 : decode cX5_takeThirds 50 = .ok (.iastore, 1) := by decide +kernel
theorem dX5_takeThirds_51 : decode cX5_takeThirds 51 = .ok (.iinc 4 1, 3) := by decide +kernel
theorem dX5_takeThirds_54 : decode cX5_takeThirds 54 = .ok (.goto (-51), 3) := by decide +kernel
theorem dX5_takeThirds_57 : decode cX5_takeThirds 57 = .ok (.return_, 1) := by decide +kernel
theorem dX5_third_0 : decode cX5_third 0 = .ok (.aload_n 0, 1) := by decide +kernel
theorem dX5_third_1 : decode cX5_third 1 = .ok (.iload_n 1, 1) := by decide +kernel
theorem dX5_third_2 : decode cX5_third 2 = .ok (.iload_n 2, 1) := by decide +kernel
theorem dX5_third_3 : decode cX5_third 3 = .ok (.invokevirtual 78, 3) := by decide +kernel
theorem dX5_third_6 : decode cX5_third 6 = .ok (.ifCond .eq 17, 3) := by decide +kernel
theorem dX5_third_9 : decode cX5_third 9 = .ok (.aload_n 0, 1) := by decide +kernel
theorem dX5_third_10 : decode cX5_third 10 = .ok (.iload_n 2, 1) := by decide +kernel
theorem dX5_third_11 : decode cX5_third 11 = .ok (.iload_n 3, 1) := by decide +kernel
theorem dX5_third_12 : decode cX5_third 12 = .ok (.invokevirtual 78, 3) := by decide +kernel
theorem dX5_third_15 : decode cX5_third 15 = .ok (.ifCond .eq 8, 3) := by decide +kernel
theorem dX5_third_18 : decode cX5_third 18 = .ok (.iload_n 1, 1) := by decide +kernel
theorem dX5_third_19 : decode cX5_third 19 = .ok (.iload_n 3, 1) := by decide +kernel
theorem dX5_third_20 : decode cX5_third 20 = .ok (.if_icmp .ne 5, 3) := by decide +kernel
theorem dX5_third_23 : decode cX5_third 23 = .ok (.iconst (-1), 1) := by decide +kernel
theorem dX5_third_24 : decode cX5_third 24 = .ok (.ireturn, 1) := by decide +kernel
theorem dX5_third_25 : decode cX5_third 25 = .ok (.aload_n 0, 1) := by decide +kernel
theorem dX5_third_26 : decode cX5_third 26 = .ok (.getfield 53, 3) := by decide +kernel
theorem dX5_third_29 : decode cX5_third 29 = .ok (.bipush 12, 2) := by decide +kernel
theorem dX5_third_31 : decode cX5_third 31 = .ok (.if_icmp .ne 6, 3) := by decide +kernel
theorem dX5_third_34 : decode cX5_third 34 = .ok (.bipush (-4), 2) := by decide +kernel
theorem dX5_third_36 : decode cX5_third 36 = .ok (.ireturn, 1) := by decide +kernel
theorem dX5_third_37 : decode cX5_third 37 = .ok (.aload_n 0, 1) := by decide +kernel
theorem dX5_third_38 : decode cX5_third 38 = .ok (.iload_n 1, 1) := by decide +kernel
theorem dX5_third_39 : decode cX5_third 39 = .ok (.iload_n 2, 1) := by decide +kernel
theorem dX5_third_40 : decode cX5_third 40 = .ok (.invokevirtual 74, 3) := by decide +kernel
theorem dX5_third_43 : decode cX5_third 43 = .ok (.ifCond .ge 21, 3) := by decide +kernel
theorem dX5_third_46 : decode cX5_third 46 = .ok (.aload_n 0, 1) := by decide +kernel
theorem dX5_third_47 : decode cX5_third 47 = .ok (.iload_n 2, 1) := by decide +kernel
theorem dX5_third_48 : decode cX5_third 48 = .ok (.iload_n 3, 1) := by decide +kernel
theorem dX5_third_49 : decode cX5_third 49 = .ok (.invokevirtual 74, 3) := by decide +kernel
theorem dX5_third_52 : decode cX5_third 52 = .ok (.ifCond .ge 12, 3) := by decide +kernel
theorem dX5_third_55 : decode cX5_third 55 = .ok (.aload_n 0, 1) := by decide +kernel
theorem dX5_third_56 : decode cX5_third 56 = .ok (.iload_n 3, 1) := by decide +kernel
theorem dX5_third_57 : decode cX5_third 57 = .ok (.iload_n 1, 1) := by decide +kernel
theorem dX5_third_58 : decode cX5_third 58 = .ok (.invokevirtual 74, 3) := by decide +kernel
theorem dX5_third_61 : decode cX5_third 61 = .ok (.ifCond .lt 6, 3) := by decide +kernel
theorem dX5_third_64 : decode cX5_third 64 = .ok (.bipush (-5), 2) := by decide +kernel
theorem dX5_third_66 : decode cX5_third 66 = .ok (.ireturn, 1) := by decide +kernel
theorem dX5_third_67 : decode cX5_third 67 = .ok (.aload_n 0, 1) := by decide +kernel
theorem dX5_third_68 : decode cX5_third 68 = .ok (.aload_n 0, 1) := by decide +kernel
theorem dX5_third_69 : decode cX5_third 69 = .ok (.getfield 53, 3) := by decide +kernel
theorem dX5_third_72 : decode cX5_third 72 = .ok (.iload_n 1, 1) := by decide +kernel
theorem dX5_third_73 : decode cX5_third 73 = .ok (.iload_n 2, 1) := by decide +kernel
theorem dX5_third_74 : decode cX5_third 74 = .ok (.iload_n 3, 1) := by decide +kernel
theorem dX5_third_75 : decode cX5_third 75 = .ok (.invokevirtual 82, 3) := by decide +kernel
theorem dX5_third_78 : decode cX5_third 78 = .ok (.aload_n 0, 1) := by decide +kernel
theorem dX5_third_79 : decode cX5_third 79 = .ok (.iconst 0, 1) := by decide +kernel
theorem dX5_third_80 : decode cX5_third 80 = .ok (.aload_n 0, 1) := by decide +kernel
theorem dX5_third_81 : decode cX5_third 81 = .ok (.getfield 53, 3) := by decide +kernel
theorem dX5_third_84 : decode cX5_third 84 = .ok (.aload_n 0, 1) := by decide +kernel
theorem dX5_third_85 : decode cX5_third 85 = .ok (.getfield 53, 3) := by decide +kernel
theorem dX5_third_88 : decode cX5_third 88 = .ok (.invokevirtual 86, 3) := by decide +kernel
theorem dX5_third_91 : decode cX5_third 91 = .ok (.aload_n 0, 1) := by decide +kernel
theorem dX5_third_92 : decode cX5_third 92 = .ok (.bipush 15, 2) := by decide +kernel
theorem dX5_third_94 : decode cX5_third 94 = .ok (.aload_n 0, 1) := by decide +kernel
theorem dX5_third_95 : decode cX5_third 95 = .ok (.getfield 59, 3) := by decide +kernel
theorem dX5_third_98 : decode cX5_third 98 = .ok (.iconst 1, 1) := by decide +kernel
theorem dX5_third_99 : decode cX5_third 99 = .ok (.isub, 1) := by decide +kernel
theorem dX5_third_100 : decode cX5_third 100 = .ok (.imul, 1) := by decide +kernel
theorem dX5_third_101 : decode cX5_third 101 = .ok (.bipush 9, 2) := by decide +kernel
theorem dX5_third_103 : decode cX5_third 103 = .ok (.iadd, 1) := by decide +kernel
theorem dX5_third_104 : decode cX5_third 104 = .ok (.aload_n 0, 1) := by decide +kernel
theorem dX5_third_105 : decode cX5_third 105 = .ok (.getfield 53, 3) := by decide +kernel
theorem dX5_third_108 : decode cX5_third 108 = .ok (.aload_n 0, 1) := by decide +kernel
theorem dX5_third_109 : decode cX5_third 109 = .ok (.getfield 53, 3) := by decide +kernel
theorem dX5_third_112 : decode cX5_third 112 = .ok (.invokevirtual 90, 3) := by decide +kernel
theorem dX5_third_115 : decode cX5_third 115 = .ok (.aload_n 0, 1) := by decide +kernel
theorem dX5_third_116 : decode cX5_third 116 = .ok (.dup, 1) := by decide +kernel
theorem dX5_third_117 : decode cX5_third 117 = .ok (.getfield 53, 3) := by decide +kernel
theorem dX5_third_120 : decode cX5_third 120 = .ok (.iconst 1, 1) := by decide +kernel
theorem dX5_third_121 : decode cX5_third 121 = .ok (.iadd, 1) := by decide +kernel
theorem dX5_third_122 : decode cX5_third 122 = .ok (.putfield 53, 3) := by decide +kernel
theorem dX5_third_125 : decode cX5_third 125 = .ok (.aload_n 0, 1) := by decide +kernel
theorem dX5_third_126 : decode cX5_third 126 = .ok (.getfield 53, 3) := by decide +kernel
theorem dX5_third_129 : decode cX5_third 129 = .ok (.iconst 1, 1) := by decide +kernel
theorem dX5_third_130 : decode cX5_third 130 = .ok (.isub, 1) := by decide +kernel
theorem dX5_third_131 : decode cX5_third 131 = .ok (.ireturn, 1) := by decide +kernel
theorem dX5_at_0 : decode cX5_at 0 = .ok (.iload_n 1, 1) := by decide +kernel
theorem dX5_at_1 : decode cX5_at 1 = .ok (.iconst 0, 1) := by decide +kernel
theorem dX5_at_2 : decode cX5_at 2 = .ok (.iconst 3, 1) := by decide +kernel
theorem dX5_at_3 : decode cX5_at 3 = .ok (.aload_n 0, 1) := by decide +kernel
theorem dX5_at_4 : decode cX5_at 4 = .ok (.getfield 53, 3) := by decide +kernel
theorem dX5_at_7 : decode cX5_at 7 = .ok (.imul, 1) := by decide +kernel
theorem dX5_at_8 : decode cX5_at 8 = .ok (.iconst 1, 1) := by decide +kernel
theorem dX5_at_9 : decode cX5_at 9 = .ok (.isub, 1) := by decide +kernel
theorem dX5_at_10 : decode cX5_at 10 = .ok (.invokestatic 66, 3) := by decide +kernel
theorem dX5_at_13 : decode cX5_at 13 = .ok (.ifCond .eq 12, 3) := by decide +kernel
theorem dX5_at_16 : decode cX5_at 16 = .ok (.aload_n 0, 1) := by decide +kernel
theorem dX5_at_17 : decode cX5_at 17 = .ok (.getfield 13, 3) := by decide +kernel
theorem dX5_at_20 : decode cX5_at 20 = .ok (.iload_n 1, 1) := by decide +kernel
theorem dX5_at_21 : decode cX5_at 21 = .ok (.iaload, 1) := by decide +kernel
theorem dX5_at_22 : decode cX5_at 22 = .ok (.goto 4, 3) := by decide +kernel
theorem dX5_at_25 : decode cX5_at 25 = .ok (.iconst (-1), 1) := by decide +kernel
theorem dX5_at_26 : decode cX5_at 26 = .ok (.ireturn, 1) := by decide +kernel
theorem dX5_side_0 : decode cX5_side 0 = .ok (.aload_n 0, 1) := by decide +kernel
theorem dX5_side_1 : decode cX5_side 1 = .ok (.iload_n 1, 1) := by decide +kernel
theorem dX5_side_2 : decode cX5_side 2 = .ok (.iload_n 2, 1) := by decide +kernel
theorem dX5_side_3 : decode cX5_side 3 = .ok (.invokevirtual 78, 3) := by decide +kernel
theorem dX5_side_6 : decode cX5_side 6 = .ok (.ifCond .eq 12, 3) := by decide +kernel
theorem dX5_side_9 : decode cX5_side 9 = .ok (.aload_n 0, 1) := by decide +kernel
theorem dX5_side_10 : decode cX5_side 10 = .ok (.iload_n 1, 1) := by decide +kernel
theorem dX5_side_11 : decode cX5_side 11 = .ok (.iload_n 2, 1) := by decide +kernel
theorem dX5_side_12 : decode cX5_side 12 = .ok (.invokevirtual 93, 3) := by decide +kernel
theorem dX5_side_15 : decode cX5_side 15 = .ok (.goto 4, 3) := by decide +kernel
theorem dX5_side_18 : decode cX5_side 18 = .ok (.iconst (-1), 1) := by decide +kernel
theorem dX5_side_19 : decode cX5_side 19 = .ok (.ireturn, 1) := by decide +kernel
theorem dX5_arrow_0 : decode cX5_arrow 0 = .ok (.aload_n 0, 1) := by decide +kernel
theorem dX5_arrow_1 : decode cX5_arrow 1 = .ok (.iload_n 1, 1) := by decide +kernel
theorem dX5_arrow_2 : decode cX5_arrow 2 = .ok (.iload_n 2, 1) := by decide +kernel
theorem dX5_arrow_3 : decode cX5_arrow 3 = .ok (.invokevirtual 78, 3) := by decide +kernel
theorem dX5_arrow_6 : decode cX5_arrow 6 = .ok (.ifCond .eq 12, 3) := by decide +kernel
theorem dX5_arrow_9 : decode cX5_arrow 9 = .ok (.aload_n 0, 1) := by decide +kernel
theorem dX5_arrow_10 : decode cX5_arrow 10 = .ok (.iload_n 1, 1) := by decide +kernel
theorem dX5_arrow_11 : decode cX5_arrow 11 = .ok (.iload_n 2, 1) := by decide +kernel
theorem dX5_arrow_12 : decode cX5_arrow 12 = .ok (.invokevirtual 74, 3) := by decide +kernel
theorem dX5_arrow_15 : decode cX5_arrow 15 = .ok (.goto 4, 3) := by decide +kernel
theorem dX5_arrow_18 : decode cX5_arrow 18 = .ok (.iconst (-1), 1) := by decide +kernel
theorem dX5_arrow_19 : decode cX5_arrow 19 = .ok (.ireturn, 1) := by decide +kernel
theorem dX5_oppositeCorner_0 : decode cX5_oppositeCorner 0 = .ok (.iconst 3, 1) := by decide +kernel
theorem dX5_oppositeCorner_1 : decode cX5_oppositeCorner 1 = .ok (.iload_n 1, 1) := by decide +kernel
theorem dX5_oppositeCorner_2 : decode cX5_oppositeCorner 2 = .ok (.imul, 1) := by decide +kernel
theorem dX5_oppositeCorner_3 : decode cX5_oppositeCorner 3 = .ok (.istore 4, 2) := by decide +kernel
theorem dX5_oppositeCorner_5 : decode cX5_oppositeCorner 5 = .ok (.aload_n 0, 1) := by decide +kernel
theorem dX5_oppositeCorner_6 : decode cX5_oppositeCorner 6 = .ok (.getfield 13, 3) := by decide +kernel
theorem dX5_oppositeCorner_9 : decode cX5_oppositeCorner 9 = .ok (.iload 4, 2) := by decide +kernel
theorem dX5_oppositeCorner_11 : decode cX5_oppositeCorner 11 = .ok (.iaload, 1) := by decide +kernel
theorem dX5_oppositeCorner_12 : decode cX5_oppositeCorner 12 = .ok (.iload_n 2, 1) := by decide +kernel
theorem dX5_oppositeCorner_13 : decode cX5_oppositeCorner 13 = .ok (.if_icmp .eq 14, 3) := by decide +kernel
theorem dX5_oppositeCorner_16 : decode cX5_oppositeCorner 16 = .ok (.aload_n 0, 1) := by decide +kernel
theorem dX5_oppositeCorner_17 : decode cX5_oppositeCorner 17 = .ok (.getfield 13, 3) := by decide +kernel
theorem dX5_oppositeCorner_20 : decode cX5_oppositeCorner 20 = .ok (.iload 4, 2) := by decide +kernel
theorem dX5_oppositeCorner_22 : decode cX5_oppositeCorner 22 = .ok (.iaload, 1) := by decide +kernel
theorem dX5_oppositeCorner_23 : decode cX5_oppositeCorner 23 = .ok (.iload_n 3, 1) := by decide +kernel
theorem dX5_oppositeCorner_24 : decode cX5_oppositeCorner 24 = .ok (.if_icmp .ne 9, 3) := by decide +kernel
theorem dX5_oppositeCorner_27 : decode cX5_oppositeCorner 27 = .ok (.iinc 4 1, 3) := by decide +kernel
theorem dX5_oppositeCorner_30 : decode cX5_oppositeCorner 30 = .ok (.goto (-25), 3) := by decide +kernel
theorem dX5_oppositeCorner_33 : decode cX5_oppositeCorner 33 = .ok (.iload 4, 2) := by decide +kernel
theorem dX5_oppositeCorner_35 : decode cX5_oppositeCorner 35 = .ok (.ireturn, 1) := by decide +kernel
theorem dX5_turn_0 : decode cX5_turn 0 = .ok (.aload_n 0, 1) := by decide +kernel
theorem dX5_turn_1 : decode cX5_turn 1 = .ok (.iload_n 1, 1) := by decide +kernel
theorem dX5_turn_2 : decode cX5_turn 2 = .ok (.iload_n 2, 1) := by decide +kernel
theorem dX5_turn_3 : decode cX5_turn 3 = .ok (.invokevirtual 78, 3) := by decide +kernel
theorem dX5_turn_6 : decode cX5_turn 6 = .ok (.ifCond .eq 12, 3) := by decide +kernel
theorem dX5_turn_9 : decode cX5_turn 9 = .ok (.aload_n 0, 1) := by decide +kernel
theorem dX5_turn_10 : decode cX5_turn 10 = .ok (.iload_n 1, 1) := by decide +kernel
theorem dX5_turn_11 : decode cX5_turn 11 = .ok (.iload_n 2, 1) := by decide +kernel
theorem dX5_turn_12 : decode cX5_turn 12 = .ok (.invokevirtual 93, 3) := by decide +kernel
theorem dX5_turn_15 : decode cX5_turn 15 = .ok (.ifCond .ne 5, 3) := by decide +kernel
theorem dX5_turn_18 : decode cX5_turn 18 = .ok (.iconst (-1), 1) := by decide +kernel
theorem dX5_turn_19 : decode cX5_turn 19 = .ok (.ireturn, 1) := by decide +kernel
theorem dX5_turn_20 : decode cX5_turn 20 = .ok (.aload_n 0, 1) := by decide +kernel
theorem dX5_turn_21 : decode cX5_turn 21 = .ok (.iload_n 1, 1) := by decide +kernel
theorem dX5_turn_22 : decode cX5_turn 22 = .ok (.iload_n 2, 1) := by decide +kernel
theorem dX5_turn_23 : decode cX5_turn 23 = .ok (.invokevirtual 93, 3) := by decide +kernel
theorem dX5_turn_26 : decode cX5_turn 26 = .ok (.iconst 1, 1) := by decide +kernel
theorem dX5_turn_27 : decode cX5_turn 27 = .ok (.if_icmp .ne 6, 3) := by decide +kernel
theorem dX5_turn_30 : decode cX5_turn 30 = .ok (.bipush (-3), 2) := by decide +kernel
theorem dX5_turn_32 : decode cX5_turn 32 = .ok (.ireturn, 1) := by decide +kernel
theorem dX5_turn_33 : decode cX5_turn 33 = .ok (.aload_n 0, 1) := by decide +kernel
theorem dX5_turn_34 : decode cX5_turn 34 = .ok (.iload_n 1, 1) := by decide +kernel
theorem dX5_turn_35 : decode cX5_turn 35 = .ok (.iload_n 2, 1) := by decide +kernel
theorem dX5_turn_36 : decode cX5_turn 36 = .ok (.invokevirtual 74, 3) := by decide +kernel
theorem dX5_turn_39 : decode cX5_turn 39 = .ok (.istore_n 3, 1) := by decide +kernel
theorem dX5_turn_40 : decode cX5_turn 40 = .ok (.aload_n 0, 1) := by decide +kernel
theorem dX5_turn_41 : decode cX5_turn 41 = .ok (.iload_n 2, 1) := by decide +kernel
theorem dX5_turn_42 : decode cX5_turn 42 = .ok (.iload_n 1, 1) := by decide +kernel
theorem dX5_turn_43 : decode cX5_turn 43 = .ok (.invokevirtual 74, 3) := by decide +kernel
theorem dX5_turn_46 : decode cX5_turn 46 = .ok (.istore 4, 2) := by decide +kernel
theorem dX5_turn_48 : decode cX5_turn 48 = .ok (.aload_n 0, 1) := by decide +kernel
theorem dX5_turn_49 : decode cX5_turn 49 = .ok (.getfield 13, 3) := by decide +kernel
theorem dX5_turn_52 : decode cX5_turn 52 = .ok (.aload_n 0, 1) := by decide +kernel
theorem dX5_turn_53 : decode cX5_turn 53 = .ok (.iload_n 3, 1) := by decide +kernel
theorem dX5_turn_54 : decode cX5_turn 54 = .ok (.iload_n 1, 1) := by decide +kernel
theorem dX5_turn_55 : decode cX5_turn 55 = .ok (.iload_n 2, 1) := by decide +kernel
theorem dX5_turn_56 : decode cX5_turn 56 = .ok (.invokevirtual 96, 3) := by decide +kernel
theorem dX5_turn_59 : decode cX5_turn 59 = .ok (.iaload, 1) := by decide +kernel
theorem dX5_turn_60 : decode cX5_turn 60 = .ok (.istore 5, 2) := by decide +kernel
theorem dX5_turn_62 : decode cX5_turn 62 = .ok (.aload_n 0, 1) := by decide +kernel
theorem dX5_turn_63 : decode cX5_turn 63 = .ok (.getfield 13, 3) := by decide +kernel
theorem dX5_turn_66 : decode cX5_turn 66 = .ok (.aload_n 0, 1) := by decide +kernel
theorem dX5_turn_67 : decode cX5_turn 67 = .ok (.iload 4, 2) := by decide +kernel
theorem dX5_turn_69 : decode cX5_turn 69 = .ok (.iload_n 1, 1) := by decide +kernel
theorem dX5_turn_70 : decode cX5_turn 70 = .ok (.iload_n 2, 1) := by decide +kernel
theorem dX5_turn_71 : decode cX5_turn 71 = .ok (.invokevirtual 96, 3) := by decide +kernel
theorem dX5_turn_74 : decode cX5_turn 74 = .ok (.iaload, 1) := by decide +kernel
theorem dX5_turn_75 : decode cX5_turn 75 = .ok (.istore 6, 2) := by decide +kernel
theorem dX5_turn_77 : decode cX5_turn 77 = .ok (.iload 5, 2) := by decide +kernel
theorem dX5_turn_79 : decode cX5_turn 79 = .ok (.iload 6, 2) := by decide +kernel
theorem dX5_turn_81 : decode cX5_turn 81 = .ok (.if_icmp .eq 14, 3) := by decide +kernel
theorem dX5_turn_84 : decode cX5_turn 84 = .ok (.aload_n 0, 1) := by decide +kernel
theorem dX5_turn_85 : decode cX5_turn 85 = .ok (.iload 5, 2) := by decide +kernel
theorem dX5_turn_87 : decode cX5_turn 87 = .ok (.iload 6, 2) := by decide +kernel
theorem dX5_turn_89 : decode cX5_turn 89 = .ok (.invokevirtual 93, 3) := by decide +kernel
theorem dX5_turn_92 : decode cX5_turn 92 = .ok (.ifCond .le 6, 3) := by decide +kernel
theorem dX5_turn_95 : decode cX5_turn 95 = .ok (.bipush (-5), 2) := by decide +kernel
theorem dX5_turn_97 : decode cX5_turn 97 = .ok (.ireturn, 1) := by decide +kernel
theorem dX5_turn_98 : decode cX5_turn 98 = .ok (.aload_n 0, 1) := by decide +kernel
theorem dX5_turn_99 : decode cX5_turn 99 = .ok (.iconst 1, 1) := by decide +kernel
theorem dX5_turn_100 : decode cX5_turn 100 = .ok (.iload_n 3, 1) := by decide +kernel
theorem dX5_turn_101 : decode cX5_turn 101 = .ok (.iload 4, 2) := by decide +kernel
theorem dX5_turn_103 : decode cX5_turn 103 = .ok (.invokevirtual 86, 3) := by decide +kernel
theorem dX5_turn_106 : decode cX5_turn 106 = .ok (.aload_n 0, 1) := by decide +kernel
theorem dX5_turn_107 : decode cX5_turn 107 = .ok (.bipush 15, 2) := by decide +kernel
theorem dX5_turn_109 : decode cX5_turn 109 = .ok (.aload_n 0, 1) := by decide +kernel
theorem dX5_turn_110 : decode cX5_turn 110 = .ok (.getfield 59, 3) := by decide +kernel
theorem dX5_turn_113 : decode cX5_turn 113 = .ok (.iconst 1, 1) := by decide +kernel
theorem dX5_turn_114 : decode cX5_turn 114 = .ok (.isub, 1) := by decide +kernel
theorem dX5_turn_115 : decode cX5_turn 115 = .ok (.imul, 1) := by decide +kernel
theorem dX5_turn_116 : decode cX5_turn 116 = .ok (.iconst 3, 1) := by decide +kernel
theorem dX5_turn_117 : decode cX5_turn 117 = .ok (.iadd, 1) := by decide +kernel
theorem dX5_turn_118 : decode cX5_turn 118 = .ok (.iload_n 3, 1) := by decide +kernel
theorem dX5_turn_119 : decode cX5_turn 119 = .ok (.iload 4, 2) := by decide +kernel
theorem dX5_turn_121 : decode cX5_turn 121 = .ok (.invokevirtual 90, 3) := by decide +kernel
theorem dX5_turn_124 : decode cX5_turn 124 = .ok (.aload_n 0, 1) := by decide +kernel
theorem dX5_turn_125 : decode cX5_turn 125 = .ok (.iload_n 3, 1) := by decide +kernel
theorem dX5_turn_126 : decode cX5_turn 126 = .ok (.iload_n 1, 1) := by decide +kernel
theorem dX5_turn_127 : decode cX5_turn 127 = .ok (.iload 6, 2) := by decide +kernel
theorem dX5_turn_129 : decode cX5_turn 129 = .ok (.iload 5, 2) := by decide +kernel
theorem dX5_turn_131 : decode cX5_turn 131 = .ok (.invokevirtual 82, 3) := by decide +kernel
theorem dX5_turn_134 : decode cX5_turn 134 = .ok (.aload_n 0, 1) := by decide +kernel
theorem dX5_turn_135 : decode cX5_turn 135 = .ok (.iload 4, 2) := by decide +kernel
theorem dX5_turn_137 : decode cX5_turn 137 = .ok (.iload 6, 2) := by decide +kernel
theorem dX5_turn_139 : decode cX5_turn 139 = .ok (.iload_n 2, 1) := by decide +kernel
theorem dX5_turn_140 : decode cX5_turn 140 = .ok (.iload 5, 2) := by decide +kernel
theorem dX5_turn_142 : decode cX5_turn 142 = .ok (.invokevirtual 82, 3) := by decide +kernel
theorem dX5_turn_145 : decode cX5_turn 145 = .ok (.aload_n 0, 1) := by decide +kernel
theorem dX5_turn_146 : decode cX5_turn 146 = .ok (.bipush 15, 2) := by decide +kernel
theorem dX5_turn_148 : decode cX5_turn 148 = .ok (.aload_n 0, 1) := by decide +kernel
theorem dX5_turn_149 : decode cX5_turn 149 = .ok (.getfield 59, 3) := by decide +kernel
theorem dX5_turn_152 : decode cX5_turn 152 = .ok (.iconst 1, 1) := by decide +kernel
theorem dX5_turn_153 : decode cX5_turn 153 = .ok (.isub, 1) := by decide +kernel
theorem dX5_turn_154 : decode cX5_turn 154 = .ok (.imul, 1) := by decide +kernel
theorem dX5_turn_155 : decode cX5_turn 155 = .ok (.bipush 9, 2) := by decide +kernel
theorem dX5_turn_157 : decode cX5_turn 157 = .ok (.iadd, 1) := by decide +kernel
theorem dX5_turn_158 : decode cX5_turn 158 = .ok (.iload_n 3, 1) := by decide +kernel
theorem dX5_turn_159 : decode cX5_turn 159 = .ok (.iload 4, 2) := by decide +kernel
theorem dX5_turn_161 : decode cX5_turn 161 = .ok (.invokevirtual 90, 3) := by decide +kernel
theorem dX5_turn_164 : decode cX5_turn 164 = .ok (.iconst 1, 1) := by decide +kernel
theorem dX5_turn_165 : decode cX5_turn 165 = .ok (.ireturn, 1) := by decide +kernel
theorem dX5_tell_0 : decode cX5_tell 0 = .ok (.aload_n 0, 1) := by decide +kernel
theorem dX5_tell_1 : decode cX5_tell 1 = .ok (.iload_n 1, 1) := by decide +kernel
theorem dX5_tell_2 : decode cX5_tell 2 = .ok (.invokevirtual 70, 3) := by decide +kernel
theorem dX5_tell_5 : decode cX5_tell 5 = .ok (.ifCond .ne 5, 3) := by decide +kernel
theorem dX5_tell_8 : decode cX5_tell 8 = .ok (.iconst (-1), 1) := by decide +kernel
theorem dX5_tell_9 : decode cX5_tell 9 = .ok (.ireturn, 1) := by decide +kernel
theorem dX5_tell_10 : decode cX5_tell 10 = .ok (.iload_n 2, 1) := by decide +kernel
theorem dX5_tell_11 : decode cX5_tell 11 = .ok (.iconst (-1), 1) := by decide +kernel
theorem dX5_tell_12 : decode cX5_tell 12 = .ok (.sipush 4000, 3) := by decide +kernel
theorem dX5_tell_15 : decode cX5_tell 15 = .ok (.invokestatic 66, 3) := by decide +kernel
theorem dX5_tell_18 : decode cX5_tell 18 = .ok (.ifCond .ne 6, 3) := by decide +kernel
theorem dX5_tell_21 : decode cX5_tell 21 = .ok (.bipush (-2), 2) := by decide +kernel
theorem dX5_tell_23 : decode cX5_tell 23 = .ok (.ireturn, 1) := by decide +kernel
theorem dX5_tell_24 : decode cX5_tell 24 = .ok (.aload_n 0, 1) := by decide +kernel
theorem dX5_tell_25 : decode cX5_tell 25 = .ok (.getfield 23, 3) := by decide +kernel
theorem dX5_tell_28 : decode cX5_tell 28 = .ok (.iload_n 1, 1) := by decide +kernel
theorem dX5_tell_29 : decode cX5_tell 29 = .ok (.iaload, 1) := by decide +kernel
theorem dX5_tell_30 : decode cX5_tell 30 = .ok (.istore_n 3, 1) := by decide +kernel
theorem dX5_tell_31 : decode cX5_tell 31 = .ok (.aload_n 0, 1) := by decide +kernel
theorem dX5_tell_32 : decode cX5_tell 32 = .ok (.iconst 2, 1) := by decide +kernel
theorem dX5_tell_33 : decode cX5_tell 33 = .ok (.iload_n 1, 1) := by decide +kernel
theorem dX5_tell_34 : decode cX5_tell 34 = .ok (.iload_n 1, 1) := by decide +kernel
theorem dX5_tell_35 : decode cX5_tell 35 = .ok (.invokevirtual 86, 3) := by decide +kernel
theorem dX5_tell_38 : decode cX5_tell 38 = .ok (.aload_n 0, 1) := by decide +kernel
theorem dX5_tell_39 : decode cX5_tell 39 = .ok (.getfield 29, 3) := by decide +kernel
theorem dX5_tell_42 : decode cX5_tell 42 = .ok (.bipush 15, 2) := by decide +kernel
theorem dX5_tell_44 : decode cX5_tell 44 = .ok (.aload_n 0, 1) := by decide +kernel
theorem dX5_tell_45 : decode cX5_tell 45 = .ok (.getfield 59, 3) := by decide +kernel
theorem dX5_tell_48 : decode cX5_tell 48 = .ok (.iconst 1, 1) := by decide +kernel
theorem dX5_tell_49 : decode cX5_tell 49 = .ok (.isub, 1) := by decide +kernel
theorem dX5_tell_50 : decode cX5_tell 50 = .ok (.imul, 1) := by decide +kernel
theorem dX5_tell_51 : decode cX5_tell 51 = .ok (.iconst 3, 1) := by decide +kernel
theorem dX5_tell_52 : decode cX5_tell 52 = .ok (.iadd, 1) := by decide +kernel
theorem dX5_tell_53 : decode cX5_tell 53 = .ok (.iload_n 3, 1) := by decide +kernel
theorem dX5_tell_54 : decode cX5_tell 54 = .ok (.iastore, 1) := by decide +kernel
theorem dX5_tell_55 : decode cX5_tell 55 = .ok (.aload_n 0, 1) := by decide +kernel
theorem dX5_tell_56 : decode cX5_tell 56 = .ok (.getfield 23, 3) := by decide +kernel
theorem dX5_tell_59 : decode cX5_tell 59 = .ok (.iload_n 1, 1) := by decide +kernel
theorem dX5_tell_60 : decode cX5_tell 60 = .ok (.iload_n 2, 1) := by decide +kernel
theorem dX5_tell_61 : decode cX5_tell 61 = .ok (.iconst (-1), 1) := by decide +kernel
theorem dX5_tell_62 : decode cX5_tell 62 = .ok (.if_icmp .ne 8, 3) := by decide +kernel
theorem dX5_tell_65 : decode cX5_tell 65 = .ok (.bipush (-6), 2) := by decide +kernel
theorem dX5_tell_67 : decode cX5_tell 67 = .ok (.goto 4, 3) := by decide +kernel
theorem dX5_tell_70 : decode cX5_tell 70 = .ok (.iload_n 2, 1) := by decide +kernel
theorem dX5_tell_71 : decode cX5_tell 71 = .ok (.iastore, 1) := by decide +kernel
theorem dX5_tell_72 : decode cX5_tell 72 = .ok (.aload_n 0, 1) := by decide +kernel
theorem dX5_tell_73 : decode cX5_tell 73 = .ok (.getfield 29, 3) := by decide +kernel
theorem dX5_tell_76 : decode cX5_tell 76 = .ok (.bipush 15, 2) := by decide +kernel
theorem dX5_tell_78 : decode cX5_tell 78 = .ok (.aload_n 0, 1) := by decide +kernel
theorem dX5_tell_79 : decode cX5_tell 79 = .ok (.getfield 59, 3) := by decide +kernel
theorem dX5_tell_82 : decode cX5_tell 82 = .ok (.iconst 1, 1) := by decide +kernel
theorem dX5_tell_83 : decode cX5_tell 83 = .ok (.isub, 1) := by decide +kernel
theorem dX5_tell_84 : decode cX5_tell 84 = .ok (.imul, 1) := by decide +kernel
theorem dX5_tell_85 : decode cX5_tell 85 = .ok (.bipush 9, 2) := by decide +kernel
theorem dX5_tell_87 : decode cX5_tell 87 = .ok (.iadd, 1) := by decide +kernel
theorem dX5_tell_88 : decode cX5_tell 88 = .ok (.aload_n 0, 1) := by decide +kernel
theorem dX5_tell_89 : decode cX5_tell 89 = .ok (.getfield 23, 3) := by decide +kernel
theorem dX5_tell_92 : decode cX5_tell 92 = .ok (.iload_n 1, 1) := by decide +kernel
theorem dX5_tell_93 : decode cX5_tell 93 = .ok (.iaload, 1) := by decide +kernel
theorem dX5_tell_94 : decode cX5_tell 94 = .ok (.iastore, 1) := by decide +kernel
theorem dX5_tell_95 : decode cX5_tell 95 = .ok (.iload_n 3, 1) := by decide +kernel
theorem dX5_tell_96 : decode cX5_tell 96 = .ok (.ireturn, 1) := by decide +kernel
theorem dX5_undo_0 : decode cX5_undo 0 = .ok (.aload_n 0, 1) := by decide +kernel
theorem dX5_undo_1 : decode cX5_undo 1 = .ok (.getfield 59, 3) := by decide +kernel
theorem dX5_undo_4 : decode cX5_undo 4 = .ok (.ifCond .ne 6, 3) := by decide +kernel
theorem dX5_undo_7 : decode cX5_undo 7 = .ok (.bipush (-3), 2) := by decide +kernel
theorem dX5_undo_9 : decode cX5_undo 9 = .ok (.ireturn, 1) := by decide +kernel
theorem dX5_undo_10 : decode cX5_undo 10 = .ok (.aload_n 0, 1) := by decide +kernel
theorem dX5_undo_11 : decode cX5_undo 11 = .ok (.dup, 1) := by decide +kernel
theorem dX5_undo_12 : decode cX5_undo 12 = .ok (.getfield 59, 3) := by decide +kernel
theorem dX5_undo_15 : decode cX5_undo 15 = .ok (.iconst 1, 1) := by decide +kernel
theorem dX5_undo_16 : decode cX5_undo 16 = .ok (.isub, 1) := by decide +kernel
theorem dX5_undo_17 : decode cX5_undo 17 = .ok (.putfield 59, 3) := by decide +kernel
theorem dX5_undo_20 : decode cX5_undo 20 = .ok (.bipush 15, 2) := by decide +kernel
theorem dX5_undo_22 : decode cX5_undo 22 = .ok (.aload_n 0, 1) := by decide +kernel
theorem dX5_undo_23 : decode cX5_undo 23 = .ok (.getfield 59, 3) := by decide +kernel
theorem dX5_undo_26 : decode cX5_undo 26 = .ok (.imul, 1) := by decide +kernel
theorem dX5_undo_27 : decode cX5_undo 27 = .ok (.istore_n 1, 1) := by decide +kernel
theorem dX5_undo_28 : decode cX5_undo 28 = .ok (.aload_n 0, 1) := by decide +kernel
theorem dX5_undo_29 : decode cX5_undo 29 = .ok (.getfield 29, 3) := by decide +kernel
theorem dX5_undo_32 : decode cX5_undo 32 = .ok (.iload_n 1, 1) := by decide +kernel
theorem dX5_undo_33 : decode cX5_undo 33 = .ok (.iaload, 1) := by decide +kernel
theorem dX5_undo_34 : decode cX5_undo 34 = .ok (.ifCond .ne 16, 3) := by decide +kernel
theorem dX5_undo_37 : decode cX5_undo 37 = .ok (.aload_n 0, 1) := by decide +kernel
theorem dX5_undo_38 : decode cX5_undo 38 = .ok (.dup, 1) := by decide +kernel
theorem dX5_undo_39 : decode cX5_undo 39 = .ok (.getfield 53, 3) := by decide +kernel
theorem dX5_undo_42 : decode cX5_undo 42 = .ok (.iconst 1, 1) := by decide +kernel
theorem dX5_undo_43 : decode cX5_undo 43 = .ok (.isub, 1) := by decide +kernel
theorem dX5_undo_44 : decode cX5_undo 44 = .ok (.putfield 53, 3) := by decide +kernel
theorem dX5_undo_47 : decode cX5_undo 47 = .ok (.goto 60, 3) := by decide +kernel
theorem dX5_undo_50 : decode cX5_undo 50 = .ok (.aload_n 0, 1) := by decide +kernel
theorem dX5_undo_51 : decode cX5_undo 51 = .ok (.getfield 29, 3) := by decide +kernel
theorem dX5_undo_54 : decode cX5_undo 54 = .ok (.iload_n 1, 1) := by decide +kernel
theorem dX5_undo_55 : decode cX5_undo 55 = .ok (.iaload, 1) := by decide +kernel
theorem dX5_undo_56 : decode cX5_undo 56 = .ok (.iconst 1, 1) := by decide +kernel
theorem dX5_undo_57 : decode cX5_undo 57 = .ok (.if_icmp .ne 29, 3) := by decide +kernel
theorem dX5_undo_60 : decode cX5_undo 60 = .ok (.aload_n 0, 1) := by decide +kernel
theorem dX5_undo_61 : decode cX5_undo 61 = .ok (.iload_n 1, 1) := by decide +kernel
theorem dX5_undo_62 : decode cX5_undo 62 = .ok (.iconst 3, 1) := by decide +kernel
theorem dX5_undo_63 : decode cX5_undo 63 = .ok (.iadd, 1) := by decide +kernel
theorem dX5_undo_64 : decode cX5_undo 64 = .ok (.aload_n 0, 1) := by decide +kernel
theorem dX5_undo_65 : decode cX5_undo 65 = .ok (.getfield 29, 3) := by decide +kernel
theorem dX5_undo_68 : decode cX5_undo 68 = .ok (.iload_n 1, 1) := by decide +kernel
theorem dX5_undo_69 : decode cX5_undo 69 = .ok (.iconst 1, 1) := by decide +kernel
theorem dX5_undo_70 : decode cX5_undo 70 = .ok (.iadd, 1) := by decide +kernel
theorem dX5_undo_71 : decode cX5_undo 71 = .ok (.iaload, 1) := by decide +kernel
theorem dX5_undo_72 : decode cX5_undo 72 = .ok (.aload_n 0, 1) := by decide +kernel
theorem dX5_undo_73 : decode cX5_undo 73 = .ok (.getfield 29, 3) := by decide +kernel
theorem dX5_undo_76 : decode cX5_undo 76 = .ok (.iload_n 1, 1) := by decide +kernel
theorem dX5_undo_77 : decode cX5_undo 77 = .ok (.iconst 2, 1) := by decide +kernel
theorem dX5_undo_78 : decode cX5_undo 78 = .ok (.iadd, 1) := by decide +kernel
theorem dX5_undo_79 : decode cX5_undo 79 = .ok (.iaload, 1) := by decide +kernel
theorem dX5_undo_80 : decode cX5_undo 80 = .ok (.invokevirtual 100, 3) := by decide +kernel
theorem dX5_undo_83 : decode cX5_undo 83 = .ok (.goto 24, 3) := by decide +kernel
theorem dX5_undo_86 : decode cX5_undo 86 = .ok (.aload_n 0, 1) := by decide +kernel
theorem dX5_undo_87 : decode cX5_undo 87 = .ok (.getfield 23, 3) := by decide +kernel
theorem dX5_undo_90 : decode cX5_undo 90 = .ok (.aload_n 0, 1) := by decide +kernel
theorem dX5_undo_91 : decode cX5_undo 91 = .ok (.getfield 29, 3) := by decide +kernel
theorem dX5_undo_94 : decode cX5_undo 94 = .ok (.iload_n 1, 1) := by decide +kernel
theorem dX5_undo_95 : decode cX5_undo 95 = .ok (.iconst 1, 1) := by decide +kernel
theorem dX5_undo_96 : decode cX5_undo 96 = .ok (.iadd, 1) := by decide +kernel
theorem dX5_undo_97 : decode cX5_undo 97 = .ok (.iaload, 1) := by decide +kernel
theorem dX5_undo_98 : decode cX5_undo 98 = .ok (.aload_n 0, 1) := by decide +kernel
theorem dX5_undo_99 : decode cX5_undo 99 = .ok (.getfield 29, 3) := by decide +kernel
theorem dX5_undo_102 : decode cX5_undo 102 = .ok (.iload_n 1, 1) := by decide +kernel
theorem dX5_undo_103 : decode cX5_undo 103 = .ok (.iconst 3, 1) := by decide +kernel
theorem dX5_undo_104 : decode cX5_undo 104 = .ok (.iadd, 1) := by decide +kernel
theorem dX5_undo_105 : decode cX5_undo 105 = .ok (.iaload, 1) := by decide +kernel
theorem dX5_undo_106 : decode cX5_undo 106 = .ok (.iastore, 1) := by decide +kernel
theorem dX5_undo_107 : decode cX5_undo 107 = .ok (.aload_n 0, 1) := by decide +kernel
theorem dX5_undo_108 : decode cX5_undo 108 = .ok (.iconst 0, 1) := by decide +kernel
theorem dX5_undo_109 : decode cX5_undo 109 = .ok (.putfield 62, 3) := by decide +kernel
theorem dX5_undo_112 : decode cX5_undo 112 = .ok (.aload_n 0, 1) := by decide +kernel
theorem dX5_undo_113 : decode cX5_undo 113 = .ok (.getfield 59, 3) := by decide +kernel
theorem dX5_undo_116 : decode cX5_undo 116 = .ok (.ireturn, 1) := by decide +kernel
theorem dX5_redo_0 : decode cX5_redo 0 = .ok (.aload_n 0, 1) := by decide +kernel
theorem dX5_redo_1 : decode cX5_redo 1 = .ok (.getfield 59, 3) := by decide +kernel
theorem dX5_redo_4 : decode cX5_redo 4 = .ok (.aload_n 0, 1) := by decide +kernel
theorem dX5_redo_5 : decode cX5_redo 5 = .ok (.getfield 56, 3) := by decide +kernel
theorem dX5_redo_8 : decode cX5_redo 8 = .ok (.if_icmp .ne 6, 3) := by decide +kernel
theorem dX5_redo_11 : decode cX5_redo 11 = .ok (.bipush (-3), 2) := by decide +kernel
theorem dX5_redo_13 : decode cX5_redo 13 = .ok (.ireturn, 1) := by decide +kernel
theorem dX5_redo_14 : decode cX5_redo 14 = .ok (.bipush 15, 2) := by decide +kernel
theorem dX5_redo_16 : decode cX5_redo 16 = .ok (.aload_n 0, 1) := by decide +kernel
theorem dX5_redo_17 : decode cX5_redo 17 = .ok (.getfield 59, 3) := by decide +kernel
theorem dX5_redo_20 : decode cX5_redo 20 = .ok (.imul, 1) := by decide +kernel
theorem dX5_redo_21 : decode cX5_redo 21 = .ok (.istore_n 1, 1) := by decide +kernel
theorem dX5_redo_22 : decode cX5_redo 22 = .ok (.aload_n 0, 1) := by decide +kernel
theorem dX5_redo_23 : decode cX5_redo 23 = .ok (.getfield 29, 3) := by decide +kernel
theorem dX5_redo_26 : decode cX5_redo 26 = .ok (.iload_n 1, 1) := by decide +kernel
theorem dX5_redo_27 : decode cX5_redo 27 = .ok (.iaload, 1) := by decide +kernel
theorem dX5_redo_28 : decode cX5_redo 28 = .ok (.iconst 2, 1) := by decide +kernel
theorem dX5_redo_29 : decode cX5_redo 29 = .ok (.if_icmp .ne 28, 3) := by decide +kernel
theorem dX5_redo_32 : decode cX5_redo 32 = .ok (.aload_n 0, 1) := by decide +kernel
theorem dX5_redo_33 : decode cX5_redo 33 = .ok (.getfield 23, 3) := by decide +kernel
theorem dX5_redo_36 : decode cX5_redo 36 = .ok (.aload_n 0, 1) := by decide +kernel
theorem dX5_redo_37 : decode cX5_redo 37 = .ok (.getfield 29, 3) := by decide +kernel
theorem dX5_redo_40 : decode cX5_redo 40 = .ok (.iload_n 1, 1) := by decide +kernel
theorem dX5_redo_41 : decode cX5_redo 41 = .ok (.iconst 1, 1) := by decide +kernel
theorem dX5_redo_42 : decode cX5_redo 42 = .ok (.iadd, 1) := by decide +kernel
theorem dX5_redo_43 : decode cX5_redo 43 = .ok (.iaload, 1) := by decide +kernel
theorem dX5_redo_44 : decode cX5_redo 44 = .ok (.aload_n 0, 1) := by decide +kernel
theorem dX5_redo_45 : decode cX5_redo 45 = .ok (.getfield 29, 3) := by decide +kernel
theorem dX5_redo_48 : decode cX5_redo 48 = .ok (.iload_n 1, 1) := by decide +kernel
theorem dX5_redo_49 : decode cX5_redo 49 = .ok (.bipush 9, 2) := by decide +kernel
theorem dX5_redo_51 : decode cX5_redo 51 = .ok (.iadd, 1) := by decide +kernel
theorem dX5_redo_52 : decode cX5_redo 52 = .ok (.iaload, 1) := by decide +kernel
theorem dX5_redo_53 : decode cX5_redo 53 = .ok (.iastore, 1) := by decide +kernel
theorem dX5_redo_54 : decode cX5_redo 54 = .ok (.goto 50, 3) := by decide +kernel
theorem dX5_redo_57 : decode cX5_redo 57 = .ok (.aload_n 0, 1) := by decide +kernel
theorem dX5_redo_58 : decode cX5_redo 58 = .ok (.iload_n 1, 1) := by decide +kernel
theorem dX5_redo_59 : decode cX5_redo 59 = .ok (.bipush 9, 2) := by decide +kernel
theorem dX5_redo_61 : decode cX5_redo 61 = .ok (.iadd, 1) := by decide +kernel
theorem dX5_redo_62 : decode cX5_redo 62 = .ok (.aload_n 0, 1) := by decide +kernel
theorem dX5_redo_63 : decode cX5_redo 63 = .ok (.getfield 29, 3) := by decide +kernel
theorem dX5_redo_66 : decode cX5_redo 66 = .ok (.iload_n 1, 1) := by decide +kernel
theorem dX5_redo_67 : decode cX5_redo 67 = .ok (.iconst 1, 1) := by decide +kernel
theorem dX5_redo_68 : decode cX5_redo 68 = .ok (.iadd, 1) := by decide +kernel
theorem dX5_redo_69 : decode cX5_redo 69 = .ok (.iaload, 1) := by decide +kernel
theorem dX5_redo_70 : decode cX5_redo 70 = .ok (.aload_n 0, 1) := by decide +kernel
theorem dX5_redo_71 : decode cX5_redo 71 = .ok (.getfield 29, 3) := by decide +kernel
theorem dX5_redo_74 : decode cX5_redo 74 = .ok (.iload_n 1, 1) := by decide +kernel
theorem dX5_redo_75 : decode cX5_redo 75 = .ok (.iconst 2, 1) := by decide +kernel
theorem dX5_redo_76 : decode cX5_redo 76 = .ok (.iadd, 1) := by decide +kernel
theorem dX5_redo_77 : decode cX5_redo 77 = .ok (.iaload, 1) := by decide +kernel
theorem dX5_redo_78 : decode cX5_redo 78 = .ok (.invokevirtual 100, 3) := by decide +kernel
theorem dX5_redo_81 : decode cX5_redo 81 = .ok (.aload_n 0, 1) := by decide +kernel
theorem dX5_redo_82 : decode cX5_redo 82 = .ok (.dup, 1) := by decide +kernel
theorem dX5_redo_83 : decode cX5_redo 83 = .ok (.getfield 53, 3) := by decide +kernel
theorem dX5_redo_86 : decode cX5_redo 86 = .ok (.aload_n 0, 1) := by decide +kernel
theorem dX5_redo_87 : decode cX5_redo 87 = .ok (.getfield 29, 3) := by decide +kernel
theorem dX5_redo_90 : decode cX5_redo 90 = .ok (.iload_n 1, 1) := by decide +kernel
theorem dX5_redo_91 : decode cX5_redo 91 = .ok (.iaload, 1) := by decide +kernel
theorem dX5_redo_92 : decode cX5_redo 92 = .ok (.ifCond .ne 7, 3) := by decide +kernel
theorem dX5_redo_95 : decode cX5_redo 95 = .ok (.iconst 1, 1) := by decide +kernel
theorem dX5_redo_96 : decode cX5_redo 96 = .ok (.goto 4, 3) := by decide +kernel
theorem dX5_redo_99 : decode cX5_redo 99 = .ok (.iconst 0, 1) := by decide +kernel
theorem dX5_redo_100 : decode cX5_redo 100 = .ok (.iadd, 1) := by decide +kernel
theorem dX5_redo_101 : decode cX5_redo 101 = .ok (.putfield 53, 3) := by decide +kernel
theorem dX5_redo_104 : decode cX5_redo 104 = .ok (.aload_n 0, 1) := by decide +kernel
theorem dX5_redo_105 : decode cX5_redo 105 = .ok (.dup, 1) := by decide +kernel
theorem dX5_redo_106 : decode cX5_redo 106 = .ok (.getfield 59, 3) := by decide +kernel
theorem dX5_redo_109 : decode cX5_redo 109 = .ok (.iconst 1, 1) := by decide +kernel
theorem dX5_redo_110 : decode cX5_redo 110 = .ok (.iadd, 1) := by decide +kernel
theorem dX5_redo_111 : decode cX5_redo 111 = .ok (.putfield 59, 3) := by decide +kernel
theorem dX5_redo_114 : decode cX5_redo 114 = .ok (.aload_n 0, 1) := by decide +kernel
theorem dX5_redo_115 : decode cX5_redo 115 = .ok (.iconst 0, 1) := by decide +kernel
theorem dX5_redo_116 : decode cX5_redo 116 = .ok (.putfield 62, 3) := by decide +kernel
theorem dX5_redo_119 : decode cX5_redo 119 = .ok (.aload_n 0, 1) := by decide +kernel
theorem dX5_redo_120 : decode cX5_redo 120 = .ok (.getfield 56, 3) := by decide +kernel
theorem dX5_redo_123 : decode cX5_redo 123 = .ok (.aload_n 0, 1) := by decide +kernel
theorem dX5_redo_124 : decode cX5_redo 124 = .ok (.getfield 59, 3) := by decide +kernel
theorem dX5_redo_127 : decode cX5_redo 127 = .ok (.isub, 1) := by decide +kernel
theorem dX5_redo_128 : decode cX5_redo 128 = .ok (.ireturn, 1) := by decide +kernel
theorem dX5_cornersAt_0 : decode cX5_cornersAt 0 = .ok (.iconst 0, 1) := by decide +kernel
theorem dX5_cornersAt_1 : decode cX5_cornersAt 1 = .ok (.istore_n 2, 1) := by decide +kernel
theorem dX5_cornersAt_2 : decode cX5_cornersAt 2 = .ok (.iconst 0, 1) := by decide +kernel
theorem dX5_cornersAt_3 : decode cX5_cornersAt 3 = .ok (.istore_n 3, 1) := by decide +kernel
theorem dX5_cornersAt_4 : decode cX5_cornersAt 4 = .ok (.iload_n 3, 1) := by decide +kernel
theorem dX5_cornersAt_5 : decode cX5_cornersAt 5 = .ok (.iconst 3, 1) := by decide +kernel
theorem dX5_cornersAt_6 : decode cX5_cornersAt 6 = .ok (.aload_n 0, 1) := by decide +kernel
theorem dX5_cornersAt_7 : decode cX5_cornersAt 7 = .ok (.getfield 53, 3) := by decide +kernel
theorem dX5_cornersAt_10 : decode cX5_cornersAt 10 = .ok (.imul, 1) := by decide +kernel
theorem dX5_cornersAt_11 : decode cX5_cornersAt 11 = .ok (.if_icmp .ge 27, 3) := by decide +kernel
theorem dX5_cornersAt_14 : decode cX5_cornersAt 14 = .ok (.iload_n 2, 1) := by decide +kernel
theorem dX5_cornersAt_15 : decode cX5_cornersAt 15 = .ok (.aload_n 0, 1) := by decide +kernel
theorem dX5_cornersAt_16 : decode cX5_cornersAt 16 = .ok (.getfield 13, 3) := by decide +kernel
theorem dX5_cornersAt_19 : decode cX5_cornersAt 19 = .ok (.iload_n 3, 1) := by decide +kernel
theorem dX5_cornersAt_20 : decode cX5_cornersAt 20 = .ok (.iaload, 1) := by decide +kernel
theorem dX5_cornersAt_21 : decode cX5_cornersAt 21 = .ok (.iload_n 1, 1) := by decide +kernel
theorem dX5_cornersAt_22 : decode cX5_cornersAt 22 = .ok (.if_icmp .ne 7, 3) := by decide +kernel
theorem dX5_cornersAt_25 : decode cX5_cornersAt 25 = .ok (.iconst 1, 1) := by decide +kernel
theorem dX5_cornersAt_26 : decode cX5_cornersAt 26 = .ok (.goto 4, 3) := by decide +kernel
theorem dX5_cornersAt_29 : decode cX5_cornersAt 29 = .ok (.iconst 0, 1) := by decide +kernel
theorem dX5_cornersAt_30 : decode cX5_cornersAt 30 = .ok (.iadd, 1) := by decide +kernel
theorem dX5_cornersAt_31 : decode cX5_cornersAt 31 = .ok (.istore_n 2, 1) := by decide +kernel
theorem dX5_cornersAt_32 : decode cX5_cornersAt 32 = .ok (.iinc 3 1, 3) := by decide +kernel
theorem dX5_cornersAt_35 : decode cX5_cornersAt 35 = .ok (.goto (-31), 3) := by decide +kernel
theorem dX5_cornersAt_38 : decode cX5_cornersAt 38 = .ok (.iload_n 2, 1) := by decide +kernel
theorem dX5_cornersAt_39 : decode cX5_cornersAt 39 = .ok (.ireturn, 1) := by decide +kernel
theorem dX5_sidesAt_0 : decode cX5_sidesAt 0 = .ok (.iconst 0, 1) := by decide +kernel
theorem dX5_sidesAt_1 : decode cX5_sidesAt 1 = .ok (.istore 4, 2) := by decide +kernel
theorem dX5_sidesAt_3 : decode cX5_sidesAt 3 = .ok (.iconst 0, 1) := by decide +kernel
theorem dX5_sidesAt_4 : decode cX5_sidesAt 4 = .ok (.istore 5, 2) := by decide +kernel
theorem dX5_sidesAt_6 : decode cX5_sidesAt 6 = .ok (.iload 5, 2) := by decide +kernel
theorem dX5_sidesAt_8 : decode cX5_sidesAt 8 = .ok (.aload_n 0, 1) := by decide +kernel
theorem dX5_sidesAt_9 : decode cX5_sidesAt 9 = .ok (.getfield 7, 3) := by decide +kernel
theorem dX5_sidesAt_12 : decode cX5_sidesAt 12 = .ok (.if_icmp .ge 40, 3) := by decide +kernel
theorem dX5_sidesAt_15 : decode cX5_sidesAt 15 = .ok (.iload 4, 2) := by decide +kernel
theorem dX5_sidesAt_17 : decode cX5_sidesAt 17 = .ok (.iload 5, 2) := by decide +kernel
theorem dX5_sidesAt_19 : decode cX5_sidesAt 19 = .ok (.iload_n 1, 1) := by decide +kernel
theorem dX5_sidesAt_20 : decode cX5_sidesAt 20 = .ok (.if_icmp .eq 22, 3) := by decide +kernel
theorem dX5_sidesAt_23 : decode cX5_sidesAt 23 = .ok (.aload_n 0, 1) := by decide +kernel
theorem dX5_sidesAt_24 : decode cX5_sidesAt 24 = .ok (.iload_n 1, 1) := by decide +kernel
theorem dX5_sidesAt_25 : decode cX5_sidesAt 25 = .ok (.iload 5, 2) := by decide +kernel
theorem dX5_sidesAt_27 : decode cX5_sidesAt 27 = .ok (.invokevirtual 93, 3) := by decide +kernel
theorem dX5_sidesAt_30 : decode cX5_sidesAt 30 = .ok (.iload_n 2, 1) := by decide +kernel
theorem dX5_sidesAt_31 : decode cX5_sidesAt 31 = .ok (.iload_n 3, 1) := by decide +kernel
theorem dX5_sidesAt_32 : decode cX5_sidesAt 32 = .ok (.invokestatic 66, 3) := by decide +kernel
theorem dX5_sidesAt_35 : decode cX5_sidesAt 35 = .ok (.ifCond .eq 7, 3) := by decide +kernel
theorem dX5_sidesAt_38 : decode cX5_sidesAt 38 = .ok (.iconst 1, 1) := by decide +kernel
theorem dX5_sidesAt_39 : decode cX5_sidesAt 39 = .ok (.goto 4, 3) := by decide +kernel
theorem dX5_sidesAt_42 : decode cX5_sidesAt 42 = .ok (.iconst 0, 1) := by decide +kernel
theorem dX5_sidesAt_43 : decode cX5_sidesAt 43 = .ok (.iadd, 1) := by decide +kernel
theorem dX5_sidesAt_44 : decode cX5_sidesAt 44 = .ok (.istore 4, 2) := by decide +kernel
theorem dX5_sidesAt_46 : decode cX5_sidesAt 46 = .ok (.iinc 5 1, 3) := by decide +kernel
theorem dX5_sidesAt_49 : decode cX5_sidesAt 49 = .ok (.goto (-43), 3) := by decide +kernel
theorem dX5_sidesAt_52 : decode cX5_sidesAt 52 = .ok (.iload 4, 2) := by decide +kernel
theorem dX5_sidesAt_54 : decode cX5_sidesAt 54 = .ok (.ireturn, 1) := by decide +kernel
theorem dX5_hasPost_0 : decode cX5_hasPost 0 = .ok (.aload_n 0, 1) := by decide +kernel
theorem dX5_hasPost_1 : decode cX5_hasPost 1 = .ok (.getfield 13, 3) := by decide +kernel
theorem dX5_hasPost_4 : decode cX5_hasPost 4 = .ok (.iconst 3, 1) := by decide +kernel
theorem dX5_hasPost_5 : decode cX5_hasPost 5 = .ok (.iload_n 1, 1) := by decide +kernel
theorem dX5_hasPost_6 : decode cX5_hasPost 6 = .ok (.imul, 1) := by decide +kernel
theorem dX5_hasPost_7 : decode cX5_hasPost 7 = .ok (.iaload, 1) := by decide +kernel
theorem dX5_hasPost_8 : decode cX5_hasPost 8 = .ok (.iload_n 2, 1) := by decide +kernel
theorem dX5_hasPost_9 : decode cX5_hasPost 9 = .ok (.if_icmp .eq 31, 3) := by decide +kernel
theorem dX5_hasPost_12 : decode cX5_hasPost 12 = .ok (.aload_n 0, 1) := by decide +kernel
theorem dX5_hasPost_13 : decode cX5_hasPost 13 = .ok (.getfield 13, 3) := by decide +kernel
theorem dX5_hasPost_16 : decode cX5_hasPost 16 = .ok (.iconst 3, 1) := by decide +kernel
theorem dX5_hasPost_17 : decode cX5_hasPost 17 = .ok (.iload_n 1, 1) := by decide +kernel
theorem dX5_hasPost_18 : decode cX5_hasPost 18 = .ok (.imul, 1) := by decide +kernel
theorem dX5_hasPost_19 : decode cX5_hasPost 19 = .ok (.iconst 1, 1) := by decide +kernel
theorem dX5_hasPost_20 : decode cX5_hasPost 20 = .ok (.iadd, 1) := by decide +kernel
theorem dX5_hasPost_21 : decode cX5_hasPost 21 = .ok (.iaload, 1) := by decide +kernel
theorem dX5_hasPost_22 : decode cX5_hasPost 22 = .ok (.iload_n 2, 1) := by decide +kernel
theorem dX5_hasPost_23 : decode cX5_hasPost 23 = .ok (.if_icmp .eq 17, 3) := by decide +kernel
theorem dX5_hasPost_26 : decode cX5_hasPost 26 = .ok (.aload_n 0, 1) := by decide +kernel
theorem dX5_hasPost_27 : decode cX5_hasPost 27 = .ok (.getfield 13, 3) := by decide +kernel
theorem dX5_hasPost_30 : decode cX5_hasPost 30 = .ok (.iconst 3, 1) := by decide +kernel
theorem dX5_hasPost_31 : decode cX5_hasPost 31 = .ok (.iload_n 1, 1) := by decide +kernel
theorem dX5_hasPost_32 : decode cX5_hasPost 32 = .ok (.imul, 1) := by decide +kernel
theorem dX5_hasPost_33 : decode cX5_hasPost 33 = .ok (.iconst 2, 1) := by decide +kernel
theorem dX5_hasPost_34 : decode cX5_hasPost 34 = .ok (.iadd, 1) := by decide +kernel
theorem dX5_hasPost_35 : decode cX5_hasPost 35 = .ok (.iaload, 1) := by decide +kernel
theorem dX5_hasPost_36 : decode cX5_hasPost 36 = .ok (.iload_n 2, 1) := by decide +kernel
theorem dX5_hasPost_37 : decode cX5_hasPost 37 = .ok (.if_icmp .ne 7, 3) := by decide +kernel
theorem dX5_hasPost_40 : decode cX5_hasPost 40 = .ok (.iconst 1, 1) := by decide +kernel
theorem dX5_hasPost_41 : decode cX5_hasPost 41 = .ok (.goto 4, 3) := by decide +kernel
theorem dX5_hasPost_44 : decode cX5_hasPost 44 = .ok (.iconst 0, 1) := by decide +kernel
theorem dX5_hasPost_45 : decode cX5_hasPost 45 = .ok (.ireturn, 1) := by decide +kernel
theorem dX5_hang_0 : decode cX5_hang 0 = .ok (.iconst 0, 1) := by decide +kernel
theorem dX5_hang_1 : decode cX5_hang 1 = .ok (.istore 4, 2) := by decide +kernel
theorem dX5_hang_3 : decode cX5_hang 3 = .ok (.iconst 0, 1) := by decide +kernel
theorem dX5_hang_4 : decode cX5_hang 4 = .ok (.istore 5, 2) := by decide +kernel
theorem dX5_hang_6 : decode cX5_hang 6 = .ok (.iload 5, 2) := by decide +kernel
theorem dX5_hang_8 : decode cX5_hang 8 = .ok (.iconst 3, 1) := by decide +kernel
theorem dX5_hang_9 : decode cX5_hang 9 = .ok (.if_icmp .ge 79, 3) := by decide +kernel
theorem dX5_hang_12 : decode cX5_hang 12 = .ok (.aload_n 0, 1) := by decide +kernel
theorem dX5_hang_13 : decode cX5_hang 13 = .ok (.getfield 13, 3) := by decide +kernel
theorem dX5_hang_16 : decode cX5_hang 16 = .ok (.iconst 3, 1) := by decide +kernel
theorem dX5_hang_17 : decode cX5_hang 17 = .ok (.iload_n 1, 1) := by decide +kernel
theorem dX5_hang_18 : decode cX5_hang 18 = .ok (.imul, 1) := by decide +kernel
theorem dX5_hang_19 : decode cX5_hang 19 = .ok (.iload 5, 2) := by decide +kernel
theorem dX5_hang_21 : decode cX5_hang 21 = .ok (.iadd, 1) := by decide +kernel
theorem dX5_hang_22 : decode cX5_hang 22 = .ok (.iaload, 1) := by decide +kernel
theorem dX5_hang_23 : decode cX5_hang 23 = .ok (.istore 6, 2) := by decide +kernel
theorem dX5_hang_25 : decode cX5_hang 25 = .ok (.aload_n 0, 1) := by decide +kernel
theorem dX5_hang_26 : decode cX5_hang 26 = .ok (.getfield 13, 3) := by decide +kernel
theorem dX5_hang_29 : decode cX5_hang 29 = .ok (.iconst 3, 1) := by decide +kernel
theorem dX5_hang_30 : decode cX5_hang 30 = .ok (.iload_n 1, 1) := by decide +kernel
theorem dX5_hang_31 : decode cX5_hang 31 = .ok (.imul, 1) := by decide +kernel
theorem dX5_hang_32 : decode cX5_hang 32 = .ok (.iload 5, 2) := by decide +kernel
theorem dX5_hang_34 : decode cX5_hang 34 = .ok (.iconst 1, 1) := by decide +kernel
theorem dX5_hang_35 : decode cX5_hang 35 = .ok (.iadd, 1) := by decide +kernel
theorem dX5_hang_36 : decode cX5_hang 36 = .ok (.iconst 3, 1) := by decide +kernel
theorem dX5_hang_37 : decode cX5_hang 37 = .ok (.irem, 1) := by decide +kernel
theorem dX5_hang_38 : decode cX5_hang 38 = .ok (.iadd, 1) := by decide +kernel
theorem dX5_hang_39 : decode cX5_hang 39 = .ok (.iaload, 1) := by decide +kernel
theorem dX5_hang_40 : decode cX5_hang 40 = .ok (.istore 7, 2) := by decide +kernel
theorem dX5_hang_42 : decode cX5_hang 42 = .ok (.iload 4, 2) := by decide +kernel
theorem dX5_hang_44 : decode cX5_hang 44 = .ok (.ifCond .ne 31, 3) := by decide +kernel
theorem dX5_hang_47 : decode cX5_hang 47 = .ok (.iload_n 3, 1) := by decide +kernel
theorem dX5_hang_48 : decode cX5_hang 48 = .ok (.ifCond .lt 15, 3) := by decide +kernel
theorem dX5_hang_51 : decode cX5_hang 51 = .ok (.iload 6, 2) := by decide +kernel
theorem dX5_hang_53 : decode cX5_hang 53 = .ok (.iload_n 3, 1) := by decide +kernel
theorem dX5_hang_54 : decode cX5_hang 54 = .ok (.if_icmp .eq 9, 3) := by decide +kernel
theorem dX5_hang_57 : decode cX5_hang 57 = .ok (.iload 7, 2) := by decide +kernel
theorem dX5_hang_59 : decode cX5_hang 59 = .ok (.iload_n 3, 1) := by decide +kernel
theorem dX5_hang_60 : decode cX5_hang 60 = .ok (.if_icmp .ne 19, 3) := by decide +kernel
theorem dX5_hang_63 : decode cX5_hang 63 = .ok (.aload_n 0, 1) := by decide +kernel
theorem dX5_hang_64 : decode cX5_hang 64 = .ok (.iload 7, 2) := by decide +kernel
theorem dX5_hang_66 : decode cX5_hang 66 = .ok (.iload 6, 2) := by decide +kernel
theorem dX5_hang_68 : decode cX5_hang 68 = .ok (.invokevirtual 74, 3) := by decide +kernel
theorem dX5_hang_71 : decode cX5_hang 71 = .ok (.iload_n 2, 1) := by decide +kernel
theorem dX5_hang_72 : decode cX5_hang 72 = .ok (.if_icmp .ne 7, 3) := by decide +kernel
theorem dX5_hang_75 : decode cX5_hang 75 = .ok (.iconst 1, 1) := by decide +kernel
theorem dX5_hang_76 : decode cX5_hang 76 = .ok (.goto 4, 3) := by decide +kernel
theorem dX5_hang_79 : decode cX5_hang 79 = .ok (.iconst 0, 1) := by decide +kernel
theorem dX5_hang_80 : decode cX5_hang 80 = .ok (.istore 4, 2) := by decide +kernel
theorem dX5_hang_82 : decode cX5_hang 82 = .ok (.iinc 5 1, 3) := by decide +kernel
theorem dX5_hang_85 : decode cX5_hang 85 = .ok (.goto (-79), 3) := by decide +kernel
theorem dX5_hang_88 : decode cX5_hang 88 = .ok (.iload 4, 2) := by decide +kernel
theorem dX5_hang_90 : decode cX5_hang 90 = .ok (.ireturn, 1) := by decide +kernel
theorem dX5_pieces_0 : decode cX5_pieces 0 = .ok (.iconst 0, 1) := by decide +kernel
theorem dX5_pieces_1 : decode cX5_pieces 1 = .ok (.istore_n 2, 1) := by decide +kernel
theorem dX5_pieces_2 : decode cX5_pieces 2 = .ok (.iconst 0, 1) := by decide +kernel
theorem dX5_pieces_3 : decode cX5_pieces 3 = .ok (.istore_n 3, 1) := by decide +kernel
theorem dX5_pieces_4 : decode cX5_pieces 4 = .ok (.iload_n 3, 1) := by decide +kernel
theorem dX5_pieces_5 : decode cX5_pieces 5 = .ok (.aload_n 0, 1) := by decide +kernel
theorem dX5_pieces_6 : decode cX5_pieces 6 = .ok (.getfield 53, 3) := by decide +kernel
theorem dX5_pieces_9 : decode cX5_pieces 9 = .ok (.if_icmp .ge 33, 3) := by decide +kernel
theorem dX5_pieces_12 : decode cX5_pieces 12 = .ok (.aload_n 0, 1) := by decide +kernel
theorem dX5_pieces_13 : decode cX5_pieces 13 = .ok (.getfield 32, 3) := by decide +kernel
theorem dX5_pieces_16 : decode cX5_pieces 16 = .ok (.iload_n 3, 1) := by decide +kernel
theorem dX5_pieces_17 : decode cX5_pieces 17 = .ok (.iload_n 1, 1) := by decide +kernel
theorem dX5_pieces_18 : decode cX5_pieces 18 = .ok (.ifCond .lt 12, 3) := by decide +kernel
theorem dX5_pieces_21 : decode cX5_pieces 21 = .ok (.aload_n 0, 1) := by decide +kernel
theorem dX5_pieces_22 : decode cX5_pieces 22 = .ok (.iload_n 3, 1) := by decide +kernel
theorem dX5_pieces_23 : decode cX5_pieces 23 = .ok (.iload_n 1, 1) := by decide +kernel
theorem dX5_pieces_24 : decode cX5_pieces 24 = .ok (.invokevirtual 103, 3) := by decide +kernel
theorem dX5_pieces_27 : decode cX5_pieces 27 = .ok (.ifCond .eq 7, 3) := by decide +kernel
theorem dX5_pieces_30 : decode cX5_pieces 30 = .ok (.iconst 0, 1) := by decide +kernel
theorem dX5_pieces_31 : decode cX5_pieces 31 = .ok (.goto 4, 3) := by decide +kernel
theorem dX5_pieces_34 : decode cX5_pieces 34 = .ok (.iconst (-1), 1) := by decide +kernel
theorem dX5_pieces_35 : decode cX5_pieces 35 = .ok (.iastore, 1) := by decide +kernel
theorem dX5_pieces_36 : decode cX5_pieces 36 = .ok (.iinc 3 1, 3) := by decide +kernel
theorem dX5_pieces_39 : decode cX5_pieces 39 = .ok (.goto (-35), 3) := by decide +kernel
theorem dX5_pieces_42 : decode cX5_pieces 42 = .ok (.iconst 0, 1) := by decide +kernel
theorem dX5_pieces_43 : decode cX5_pieces 43 = .ok (.istore_n 3, 1) := by decide +kernel
theorem dX5_pieces_44 : decode cX5_pieces 44 = .ok (.iload_n 3, 1) := by decide +kernel
theorem dX5_pieces_45 : decode cX5_pieces 45 = .ok (.aload_n 0, 1) := by decide +kernel
theorem dX5_pieces_46 : decode cX5_pieces 46 = .ok (.getfield 53, 3) := by decide +kernel
theorem dX5_pieces_49 : decode cX5_pieces 49 = .ok (.if_icmp .ge 122, 3) := by decide +kernel
theorem dX5_pieces_52 : decode cX5_pieces 52 = .ok (.aload_n 0, 1) := by decide +kernel
theorem dX5_pieces_53 : decode cX5_pieces 53 = .ok (.getfield 32, 3) := by decide +kernel
theorem dX5_pieces_56 : decode cX5_pieces 56 = .ok (.iload_n 3, 1) := by decide +kernel
theorem dX5_pieces_57 : decode cX5_pieces 57 = .ok (.iaload, 1) := by decide +kernel
theorem dX5_pieces_58 : decode cX5_pieces 58 = .ok (.ifCond .ne 107, 3) := by decide +kernel
theorem dX5_pieces_61 : decode cX5_pieces 61 = .ok (.iinc 2 1, 3) := by decide +kernel
theorem dX5_pieces_64 : decode cX5_pieces 64 = .ok (.aload_n 0, 1) := by decide +kernel
theorem dX5_pieces_65 : decode cX5_pieces 65 = .ok (.getfield 32, 3) := by decide +kernel
theorem dX5_pieces_68 : decode cX5_pieces 68 = .ok (.iload_n 3, 1) := by decide +kernel
theorem dX5_pieces_69 : decode cX5_pieces 69 = .ok (.iload_n 2, 1) := by decide +kernel
theorem dX5_pieces_70 : decode cX5_pieces 70 = .ok (.iastore, 1) := by decide +kernel
theorem dX5_pieces_71 : decode cX5_pieces 71 = .ok (.iconst 1, 1) := by decide +kernel
theorem dX5_pieces_72 : decode cX5_pieces 72 = .ok (.istore 4, 2) := by decide +kernel
theorem dX5_pieces_74 : decode cX5_pieces 74 = .ok (.iload 4, 2) := by decide +kernel
theorem dX5_pieces_76 : decode cX5_pieces 76 = .ok (.ifCond .eq 89, 3) := by decide +kernel
theorem dX5_pieces_79 : decode cX5_pieces 79 = .ok (.iconst 0, 1) := by decide +kernel
theorem dX5_pieces_80 : decode cX5_pieces 80 = .ok (.istore 4, 2) := by decide +kernel
theorem dX5_pieces_82 : decode cX5_pieces 82 = .ok (.iconst 0, 1) := by decide +kernel
theorem dX5_pieces_83 : decode cX5_pieces 83 = .ok (.istore 5, 2) := by decide +kernel
theorem dX5_pieces_85 : decode cX5_pieces 85 = .ok (.iload 5, 2) := by decide +kernel
theorem dX5_pieces_87 : decode cX5_pieces 87 = .ok (.aload_n 0, 1) := by decide +kernel
theorem dX5_pieces_88 : decode cX5_pieces 88 = .ok (.getfield 53, 3) := by decide +kernel
theorem dX5_pieces_91 : decode cX5_pieces 91 = .ok (.if_icmp .ge 71, 3) := by decide +kernel
theorem dX5_pieces_94 : decode cX5_pieces 94 = .ok (.iconst 0, 1) := by decide +kernel
theorem dX5_pieces_95 : decode cX5_pieces 95 = .ok (.istore 6, 2) := by decide +kernel
theorem dX5_pieces_97 : decode cX5_pieces 97 = .ok (.iload 6, 2) := by decide +kernel
theorem dX5_pieces_99 : decode cX5_pieces 99 = .ok (.aload_n 0, 1) := by decide +kernel
theorem dX5_pieces_100 : decode cX5_pieces 100 = .ok (.getfield 53, 3) := by decide +kernel
theorem dX5_pieces_103 : decode cX5_pieces 103 = .ok (.if_icmp .ge 53, 3) := by decide +kernel
theorem dX5_pieces_106 : decode cX5_pieces 106 = .ok (.aload_n 0, 1) := by decide +kernel
theorem dX5_pieces_107 : decode cX5_pieces 107 = .ok (.getfield 32, 3) := by decide +kernel
theorem dX5_pieces_110 : decode cX5_pieces 110 = .ok (.iload 5, 2) := by decide +kernel
theorem dX5_pieces_112 : decode cX5_pieces 112 = .ok (.iaload, 1) := by decide +kernel
theorem dX5_pieces_113 : decode cX5_pieces 113 = .ok (.iload_n 2, 1) := by decide +kernel
theorem dX5_pieces_114 : decode cX5_pieces 114 = .ok (.if_icmp .ne 36, 3) := by decide +kernel
theorem dX5_pieces_117 : decode cX5_pieces 117 = .ok (.aload_n 0, 1) := by decide +kernel
theorem dX5_pieces_118 : decode cX5_pieces 118 = .ok (.getfield 32, 3) := by decide +kernel
theorem dX5_pieces_121 : decode cX5_pieces 121 = .ok (.iload 6, 2) := by decide +kernel
theorem dX5_pieces_123 : decode cX5_pieces 123 = .ok (.iaload, 1) := by decide +kernel
theorem dX5_pieces_124 : decode cX5_pieces 124 = .ok (.ifCond .ne 26, 3) := by decide +kernel
theorem dX5_pieces_127 : decode cX5_pieces 127 = .ok (.aload_n 0, 1) := by decide +kernel
theorem dX5_pieces_128 : decode cX5_pieces 128 = .ok (.iload 5, 2) := by decide +kernel
theorem dX5_pieces_130 : decode cX5_pieces 130 = .ok (.iload 6, 2) := by decide +kernel
theorem dX5_pieces_132 : decode cX5_pieces 132 = .ok (.iload_n 1, 1) := by decide +kernel
theorem dX5_pieces_133 : decode cX5_pieces 133 = .ok (.invokevirtual 106, 3) := by decide +kernel
theorem dX5_pieces_136 : decode cX5_pieces 136 = .ok (.ifCond .eq 14, 3) := by decide +kernel
theorem dX5_pieces_139 : decode cX5_pieces 139 = .ok (.aload_n 0, 1) := by decide +kernel
theorem dX5_pieces_140 : decode cX5_pieces 140 = .ok (.getfield 32, 3) := by decide +kernel
theorem dX5_pieces_143 : decode cX5_pieces 143 = .ok (.iload 6, 2) := by decide +kernel
theorem dX5_pieces_145 : decode cX5_pieces 145 = .ok (.iload_n 2, 1) := by decide +kernel
theorem dX5_pieces_146 : decode cX5_pieces 146 = .ok (.iastore, 1) := by decide +kernel
theorem dX5_pieces_147 : decode cX5_pieces 147 = .ok (.iconst 1, 1) := by decide +kernel
theorem dX5_pieces_148 : decode cX5_pieces 148 = .ok (.istore 4, 2) := by decide +kernel
theorem dX5_pieces_150 : decode cX5_pieces 150 = .ok (.iinc 6 1, 3) := by decide +kernel
theorem dX5_pieces_153 : decode cX5_pieces 153 = .ok (.goto (-56), 3) := by decide +kernel
theorem dX5_pieces_156 : decode cX5_pieces 156 = .ok (.iinc 5 1, 3) := by decide +kernel
theorem dX5_pieces_159 : decode cX5_pieces 159 = .ok (.goto (-74), 3) := by decide +kernel
theorem dX5_pieces_162 : decode cX5_pieces 162 = .ok (.goto (-88), 3) := by decide +kernel
theorem dX5_pieces_165 : decode cX5_pieces 165 = .ok (.iinc 3 1, 3) := by decide +kernel
theorem dX5_pieces_168 : decode cX5_pieces 168 = .ok (.goto (-124), 3) := by decide +kernel
theorem dX5_pieces_171 : decode cX5_pieces 171 = .ok (.iload_n 2, 1) := by decide +kernel
theorem dX5_pieces_172 : decode cX5_pieces 172 = .ok (.ireturn, 1) := by decide +kernel
theorem dX5_sumOfRow_0 : decode cX5_sumOfRow 0 = .ok (.aload_n 0, 1) := by decide +kernel
theorem dX5_sumOfRow_1 : decode cX5_sumOfRow 1 = .ok (.invokevirtual 109, 3) := by decide +kernel
theorem dX5_sumOfRow_4 : decode cX5_sumOfRow 4 = .ok (.ifCond .ne 6, 3) := by decide +kernel
theorem dX5_sumOfRow_7 : decode cX5_sumOfRow 7 = .ok (.bipush (-6), 2) := by decide +kernel
theorem dX5_sumOfRow_9 : decode cX5_sumOfRow 9 = .ok (.ireturn, 1) := by decide +kernel
theorem dX5_sumOfRow_10 : decode cX5_sumOfRow 10 = .ok (.iconst 0, 1) := by decide +kernel
theorem dX5_sumOfRow_11 : decode cX5_sumOfRow 11 = .ok (.istore_n 2, 1) := by decide +kernel
theorem dX5_sumOfRow_12 : decode cX5_sumOfRow 12 = .ok (.iconst 0, 1) := by decide +kernel
theorem dX5_sumOfRow_13 : decode cX5_sumOfRow 13 = .ok (.istore_n 3, 1) := by decide +kernel
theorem dX5_sumOfRow_14 : decode cX5_sumOfRow 14 = .ok (.iload_n 3, 1) := by decide +kernel
theorem dX5_sumOfRow_15 : decode cX5_sumOfRow 15 = .ok (.iconst 3, 1) := by decide +kernel
theorem dX5_sumOfRow_16 : decode cX5_sumOfRow 16 = .ok (.aload_n 0, 1) := by decide +kernel
theorem dX5_sumOfRow_17 : decode cX5_sumOfRow 17 = .ok (.getfield 53, 3) := by decide +kernel
theorem dX5_sumOfRow_20 : decode cX5_sumOfRow 20 = .ok (.imul, 1) := by decide +kernel
theorem dX5_sumOfRow_21 : decode cX5_sumOfRow 21 = .ok (.if_icmp .ge 37, 3) := by decide +kernel
theorem dX5_sumOfRow_24 : decode cX5_sumOfRow 24 = .ok (.iload_n 2, 1) := by decide +kernel
theorem dX5_sumOfRow_25 : decode cX5_sumOfRow 25 = .ok (.aload_n 0, 1) := by decide +kernel
theorem dX5_sumOfRow_26 : decode cX5_sumOfRow 26 = .ok (.getfield 13, 3) := by decide +kernel
theorem dX5_sumOfRow_29 : decode cX5_sumOfRow 29 = .ok (.iload_n 3, 1) := by decide +kernel
theorem dX5_sumOfRow_30 : decode cX5_sumOfRow 30 = .ok (.iaload, 1) := by decide +kernel
theorem dX5_sumOfRow_31 : decode cX5_sumOfRow 31 = .ok (.iload_n 1, 1) := by decide +kernel
theorem dX5_sumOfRow_32 : decode cX5_sumOfRow 32 = .ok (.if_icmp .ne 17, 3) := by decide +kernel
theorem dX5_sumOfRow_35 : decode cX5_sumOfRow 35 = .ok (.aload_n 0, 1) := by decide +kernel
theorem dX5_sumOfRow_36 : decode cX5_sumOfRow 36 = .ok (.getfield 20, 3) := by decide +kernel
theorem dX5_sumOfRow_39 : decode cX5_sumOfRow 39 = .ok (.aload_n 0, 1) := by decide +kernel
theorem dX5_sumOfRow_40 : decode cX5_sumOfRow 40 = .ok (.getfield 26, 3) := by decide +kernel
theorem dX5_sumOfRow_43 : decode cX5_sumOfRow 43 = .ok (.iload_n 3, 1) := by decide +kernel
theorem dX5_sumOfRow_44 : decode cX5_sumOfRow 44 = .ok (.iaload, 1) := by decide +kernel
theorem dX5_sumOfRow_45 : decode cX5_sumOfRow 45 = .ok (.iadd, 1) := by decide +kernel
theorem dX5_sumOfRow_46 : decode cX5_sumOfRow 46 = .ok (.goto 4, 3) := by decide +kernel
theorem dX5_sumOfRow_49 : decode cX5_sumOfRow 49 = .ok (.iconst 0, 1) := by decide +kernel
theorem dX5_sumOfRow_50 : decode cX5_sumOfRow 50 = .ok (.iadd, 1) := by decide +kernel
theorem dX5_sumOfRow_51 : decode cX5_sumOfRow 51 = .ok (.istore_n 2, 1) := by decide +kernel
theorem dX5_sumOfRow_52 : decode cX5_sumOfRow 52 = .ok (.iinc 3 1, 3) := by decide +kernel
theorem dX5_sumOfRow_55 : decode cX5_sumOfRow 55 = .ok (.goto (-41), 3) := by decide +kernel
