theorem dX0_init_0 : decode cX0_init 0 = .ok (.aload_n 0, 1) := by decide +kernel
theorem dX0_init_1 : decode cX0_init 1 = .ok (.invokespecial 3, 3) := by decide +kernel
theorem dX0_init_4 : decode cX0_init 4 = .ok (.aload_n 0, 1) := by decide +kernel
theorem dX0_init_5 : decode cX0_init 5 = .ok (.bipush 120, 2) := by decide +kernel
theorem dX0_init_7 : decode cX0_init 7 = .ok (.newarray .int, 2) := by decide +kernel
theorem dX0_init_9 : decode cX0_init 9 = .ok (.putfield 11, 3) := by decide +kernel
theorem dX0_init_12 : decode cX0_init 12 = .ok (.aload_n 0, 1) := by decide +kernel
theorem dX0_init_13 : decode cX0_init 13 = .ok (.bipush 120, 2) := by decide +kernel
theorem dX0_init_15 : decode cX0_init 15 = .ok (.newarray .int, 2) := by decide +kernel
theorem dX0_init_17 : decode cX0_init 17 = .ok (.putfield 15, 3) := by decide +kernel
theorem dX0_init_20 : decode cX0_init 20 = .ok (.aload_n 0, 1) := by decide +kernel
theorem dX0_init_21 : decode cX0_init 21 = .ok (.bipush 120, 2) := by decide +kernel
theorem dX0_init_23 : decode cX0_init 23 = .ok (.newarray .int, 2) := by decide +kernel
theorem dX0_init_25 : decode cX0_init 25 = .ok (.putfield 18, 3) := by decide +kernel
theorem dX0_init_28 : decode cX0_init 28 = .ok (.return_, 1) := by decide +kernel
theorem dX0_forgetAll_0 : decode cX0_forgetAll 0 = .ok (.aload_n 0, 1) := by decide +kernel
theorem dX0_forgetAll_1 : decode cX0_forgetAll 1 = .ok (.iconst 0, 1) := by decide +kernel
theorem dX0_forgetAll_2 : decode cX0_forgetAll 2 = .ok (.putfield 21, 3) := by decide +kernel
theorem dX0_forgetAll_5 : decode cX0_forgetAll 5 = .ok (.aload_n 0, 1) := by decide +kernel
theorem dX0_forgetAll_6 : decode cX0_forgetAll 6 = .ok (.iconst 0, 1) := by decide +kernel
theorem dX0_forgetAll_7 : decode cX0_forgetAll 7 = .ok (.putfield 25, 3) := by decide +kernel
theorem dX0_forgetAll_10 : decode cX0_forgetAll 10 = .ok (.return_, 1) := by decide +kernel
theorem dX0_behind_0 : decode cX0_behind 0 = .ok (.aload_n 0, 1) := by decide +kernel
theorem dX0_behind_1 : decode cX0_behind 1 = .ok (.getfield 21, 3) := by decide +kernel
theorem dX0_behind_4 : decode cX0_behind 4 = .ok (.ireturn, 1) := by decide +kernel
theorem dX0_ahead_0 : decode cX0_ahead 0 = .ok (.aload_n 0, 1) := by decide +kernel
theorem dX0_ahead_1 : decode cX0_ahead 1 = .ok (.getfield 25, 3) := by decide +kernel
theorem dX0_ahead_4 : decode cX0_ahead 4 = .ok (.ireturn, 1) := by decide +kernel
theorem dX0_begin_0 : decode cX0_begin 0 = .ok (.aload_n 0, 1) := by decide +kernel
theorem dX0_begin_1 : decode cX0_begin 1 = .ok (.getfield 21, 3) := by decide +kernel
theorem dX0_begin_4 : decode cX0_begin 4 = .ok (.bipush 60, 2) := by decide +kernel
theorem dX0_begin_6 : decode cX0_begin 6 = .ok (.if_icmp .lt 30, 3) := by decide +kernel
theorem dX0_begin_9 : decode cX0_begin 9 = .ok (.aload_n 0, 1) := by decide +kernel
theorem dX0_begin_10 : decode cX0_begin 10 = .ok (.getfield 11, 3) := by decide +kernel
theorem dX0_begin_13 : decode cX0_begin 13 = .ok (.invokestatic 28, 3) := by decide +kernel
theorem dX0_begin_16 : decode cX0_begin 16 = .ok (.aload_n 0, 1) := by decide +kernel
theorem dX0_begin_17 : decode cX0_begin 17 = .ok (.getfield 15, 3) := by decide +kernel
theorem dX0_begin_20 : decode cX0_begin 20 = .ok (.invokestatic 28, 3) := by decide +kernel
theorem dX0_begin_23 : decode cX0_begin 23 = .ok (.aload_n 0, 1) := by decide +kernel
theorem dX0_begin_24 : decode cX0_begin 24 = .ok (.getfield 18, 3) := by decide +kernel
theorem dX0_begin_27 : decode cX0_begin 27 = .ok (.invokestatic 28, 3) := by decide +kernel
theorem dX0_begin_30 : decode cX0_begin 30 = .ok (.aload_n 0, 1) := by decide +kernel
theorem dX0_begin_31 : decode cX0_begin 31 = .ok (.bipush 59, 2) := by decide +kernel
theorem dX0_begin_33 : decode cX0_begin 33 = .ok (.putfield 21, 3) := by decide +kernel
theorem dX0_begin_36 : decode cX0_begin 36 = .ok (.iconst 0, 1) := by decide +kernel
theorem dX0_begin_37 : decode cX0_begin 37 = .ok (.istore_n 1, 1) := by decide +kernel
theorem dX0_begin_38 : decode cX0_begin 38 = .ok (.iload_n 1, 1) := by decide +kernel
theorem dX0_begin_39 : decode cX0_begin 39 = .ok (.iconst 2, 1) := by decide +kernel
theorem dX0_begin_40 : decode cX0_begin 40 = .ok (.if_icmp .ge 17, 3) := by decide +kernel
theorem dX0_begin_43 : decode cX0_begin 43 = .ok (.aload_n 0, 1) := by decide +kernel
theorem dX0_begin_44 : decode cX0_begin 44 = .ok (.iload_n 1, 1) := by decide +kernel
theorem dX0_begin_45 : decode cX0_begin 45 = .ok (.iconst (-1), 1) := by decide +kernel
theorem dX0_begin_46 : decode cX0_begin 46 = .ok (.iconst 0, 1) := by decide +kernel
theorem dX0_begin_47 : decode cX0_begin 47 = .ok (.iconst 0, 1) := by decide +kernel
theorem dX0_begin_48 : decode cX0_begin 48 = .ok (.invokevirtual 32, 3) := by decide +kernel
theorem dX0_begin_51 : decode cX0_begin 51 = .ok (.iinc 1 1, 3) := by decide +kernel
theorem dX0_begin_54 : decode cX0_begin 54 = .ok (.goto (-16), 3) := by decide +kernel
theorem dX0_begin_57 : decode cX0_begin 57 = .ok (.aload_n 0, 1) := by decide +kernel
theorem dX0_begin_58 : decode cX0_begin 58 = .ok (.iconst 1, 1) := by decide +kernel
theorem dX0_begin_59 : decode cX0_begin 59 = .ok (.putfield 25, 3) := by decide +kernel
theorem dX0_begin_62 : decode cX0_begin 62 = .ok (.return_, 1) := by decide +kernel
theorem dX0_note_0 : decode cX0_note 0 = .ok (.iconst 2, 1) := by decide +kernel
theorem dX0_note_1 : decode cX0_note 1 = .ok (.aload_n 0, 1) := by decide +kernel
theorem dX0_note_2 : decode cX0_note 2 = .ok (.getfield 21, 3) := by decide +kernel
theorem dX0_note_5 : decode cX0_note 5 = .ok (.imul, 1) := by decide +kernel
theorem dX0_note_6 : decode cX0_note 6 = .ok (.iload_n 1, 1) := by decide +kernel
theorem dX0_note_7 : decode cX0_note 7 = .ok (.iadd, 1) := by decide +kernel
theorem dX0_note_8 : decode cX0_note 8 = .ok (.istore 5, 2) := by decide +kernel
theorem dX0_note_10 : decode cX0_note 10 = .ok (.aload_n 0, 1) := by decide +kernel
theorem dX0_note_11 : decode cX0_note 11 = .ok (.getfield 11, 3) := by decide +kernel
theorem dX0_note_14 : decode cX0_note 14 = .ok (.iload 5, 2) := by decide +kernel
theorem dX0_note_16 : decode cX0_note 16 = .ok (.iload_n 2, 1) := by decide +kernel
theorem dX0_note_17 : decode cX0_note 17 = .ok (.iastore, 1) := by decide +kernel
theorem dX0_note_18 : decode cX0_note 18 = .ok (.aload_n 0, 1) := by decide +kernel
theorem dX0_note_19 : decode cX0_note 19 = .ok (.getfield 15, 3) := by decide +kernel
theorem dX0_note_22 : decode cX0_note 22 = .ok (.iload 5, 2) := by decide +kernel
theorem dX0_note_24 : decode cX0_note 24 = .ok (.iload_n 3, 1) := by decide +kernel
theorem dX0_note_25 : decode cX0_note 25 = .ok (.iastore, 1) := by decide +kernel
theorem dX0_note_26 : decode cX0_note 26 = .ok (.aload_n 0, 1) := by decide +kernel
theorem dX0_note_27 : decode cX0_note 27 = .ok (.getfield 18, 3) := by decide +kernel
theorem dX0_note_30 : decode cX0_note 30 = .ok (.iload 5, 2) := by decide +kernel
theorem dX0_note_32 : decode cX0_note 32 = .ok (.iload 4, 2) := by decide +kernel
theorem dX0_note_34 : decode cX0_note 34 = .ok (.iastore, 1) := by decide +kernel
theorem dX0_note_35 : decode cX0_note 35 = .ok (.return_, 1) := by decide +kernel
theorem dX0_forward_0 : decode cX0_forward 0 = .ok (.aload_n 0, 1) := by decide +kernel
theorem dX0_forward_1 : decode cX0_forward 1 = .ok (.getfield 25, 3) := by decide +kernel
theorem dX0_forward_4 : decode cX0_forward 4 = .ok (.ifCond .le 32, 3) := by decide +kernel
theorem dX0_forward_7 : decode cX0_forward 7 = .ok (.aload_n 0, 1) := by decide +kernel
theorem dX0_forward_8 : decode cX0_forward 8 = .ok (.aload_n 1, 1) := by decide +kernel
theorem dX0_forward_9 : decode cX0_forward 9 = .ok (.aload_n 0, 1) := by decide +kernel
theorem dX0_forward_10 : decode cX0_forward 10 = .ok (.getfield 18, 3) := by decide +kernel
theorem dX0_forward_13 : decode cX0_forward 13 = .ok (.invokevirtual 36, 3) := by decide +kernel
theorem dX0_forward_16 : decode cX0_forward 16 = .ok (.aload_n 0, 1) := by decide +kernel
theorem dX0_forward_17 : decode cX0_forward 17 = .ok (.dup, 1) := by decide +kernel
theorem dX0_forward_18 : decode cX0_forward 18 = .ok (.getfield 21, 3) := by decide +kernel
theorem dX0_forward_21 : decode cX0_forward 21 = .ok (.iconst 1, 1) := by decide +kernel
theorem dX0_forward_22 : decode cX0_forward 22 = .ok (.iadd, 1) := by decide +kernel
theorem dX0_forward_23 : decode cX0_forward 23 = .ok (.putfield 21, 3) := by decide +kernel
theorem dX0_forward_26 : decode cX0_forward 26 = .ok (.aload_n 0, 1) := by decide +kernel
theorem dX0_forward_27 : decode cX0_forward 27 = .ok (.dup, 1) := by decide +kernel
theorem dX0_forward_28 : decode cX0_forward 28 = .ok (.getfield 25, 3) := by decide +kernel
theorem dX0_forward_31 : decode cX0_forward 31 = .ok (.iconst 1, 1) := by decide +kernel
theorem dX0_forward_32 : decode cX0_forward 32 = .ok (.isub, 1) := by decide +kernel
theorem dX0_forward_33 : decode cX0_forward 33 = .ok (.putfield 25, 3) := by decide +kernel
theorem dX0_forward_36 : decode cX0_forward 36 = .ok (.return_, 1) := by decide +kernel
theorem dX0_backward_0 : decode cX0_backward 0 = .ok (.aload_n 0, 1) := by decide +kernel
theorem dX0_backward_1 : decode cX0_backward 1 = .ok (.getfield 21, 3) := by decide +kernel
theorem dX0_backward_4 : decode cX0_backward 4 = .ok (.ifCond .le 32, 3) := by decide +kernel
theorem dX0_backward_7 : decode cX0_backward 7 = .ok (.aload_n 0, 1) := by decide +kernel
theorem dX0_backward_8 : decode cX0_backward 8 = .ok (.dup, 1) := by decide +kernel
theorem dX0_backward_9 : decode cX0_backward 9 = .ok (.getfield 21, 3) := by decide +kernel
theorem dX0_backward_12 : decode cX0_backward 12 = .ok (.iconst 1, 1) := by decide +kernel
theorem dX0_backward_13 : decode cX0_backward 13 = .ok (.isub, 1) := by decide +kernel
theorem dX0_backward_14 : decode cX0_backward 14 = .ok (.putfield 21, 3) := by decide +kernel
theorem dX0_backward_17 : decode cX0_backward 17 = .ok (.aload_n 0, 1) := by decide +kernel
theorem dX0_backward_18 : decode cX0_backward 18 = .ok (.dup, 1) := by decide +kernel
theorem dX0_backward_19 : decode cX0_backward 19 = .ok (.getfield 25, 3) := by decide +kernel
theorem dX0_backward_22 : decode cX0_backward 22 = .ok (.iconst 1, 1) := by decide +kernel
theorem dX0_backward_23 : decode cX0_backward 23 = .ok (.iadd, 1) := by decide +kernel
theorem dX0_backward_24 : decode cX0_backward 24 = .ok (.putfield 25, 3) := by decide +kernel
theorem dX0_backward_27 : decode cX0_backward 27 = .ok (.aload_n 0, 1) := by decide +kernel
theorem dX0_backward_28 : decode cX0_backward 28 = .ok (.aload_n 1, 1) := by decide +kernel
theorem dX0_backward_29 : decode cX0_backward 29 = .ok (.aload_n 0, 1) := by decide +kernel
theorem dX0_backward_30 : decode cX0_backward 30 = .ok (.getfield 15, 3) := by decide +kernel
theorem dX0_backward_33 : decode cX0_backward 33 = .ok (.invokevirtual 36, 3) := by decide +kernel
theorem dX0_backward_36 : decode cX0_backward 36 = .ok (.return_, 1) := by decide +kernel
theorem dX0_putAll_0 : decode cX0_putAll 0 = .ok (.iconst 0, 1) := by decide +kernel
theorem dX0_putAll_1 : decode cX0_putAll 1 = .ok (.istore_n 3, 1) := by decide +kernel
theorem dX0_putAll_2 : decode cX0_putAll 2 = .ok (.iload_n 3, 1) := by decide +kernel
theorem dX0_putAll_3 : decode cX0_putAll 3 = .ok (.iconst 2, 1) := by decide +kernel
theorem dX0_putAll_4 : decode cX0_putAll 4 = .ok (.if_icmp .ge 34, 3) := by decide +kernel
theorem dX0_putAll_7 : decode cX0_putAll 7 = .ok (.iconst 2, 1) := by decide +kernel
theorem dX0_putAll_8 : decode cX0_putAll 8 = .ok (.aload_n 0, 1) := by decide +kernel
theorem dX0_putAll_9 : decode cX0_putAll 9 = .ok (.getfield 21, 3) := by decide +kernel
theorem dX0_putAll_12 : decode cX0_putAll 12 = .ok (.imul, 1) := by decide +kernel
theorem dX0_putAll_13 : decode cX0_putAll 13 = .ok (.iload_n 3, 1) := by decide +kernel
theorem dX0_putAll_14 : decode cX0_putAll 14 = .ok (.iadd, 1) := by decide +kernel
theorem dX0_putAll_15 : decode cX0_putAll 15 = .ok (.istore 4, 2) := by decide +kernel
theorem dX0_putAll_17 : decode cX0_putAll 17 = .ok (.aload_n 1, 1) := by decide +kernel
theorem dX0_putAll_18 : decode cX0_putAll 18 = .ok (.aload_n 0, 1) := by decide +kernel
theorem dX0_putAll_19 : decode cX0_putAll 19 = .ok (.getfield 11, 3) := by decide +kernel
theorem dX0_putAll_22 : decode cX0_putAll 22 = .ok (.iload 4, 2) := by decide +kernel
theorem dX0_putAll_24 : decode cX0_putAll 24 = .ok (.iaload, 1) := by decide +kernel
theorem dX0_putAll_25 : decode cX0_putAll 25 = .ok (.aload_n 2, 1) := by decide +kernel
theorem dX0_putAll_26 : decode cX0_putAll 26 = .ok (.iload 4, 2) := by decide +kernel
theorem dX0_putAll_28 : decode cX0_putAll 28 = .ok (.iaload, 1) := by decide +kernel
theorem dX0_putAll_29 : decode cX0_putAll 29 = .ok (.invokevirtual 40, 3) := by decide +kernel
theorem dX0_putAll_32 : decode cX0_putAll 32 = .ok (.iinc 3 1, 3) := by decide +kernel
theorem dX0_putAll_35 : decode cX0_putAll 35 = .ok (.goto (-33), 3) := by decide +kernel
theorem dX0_putAll_38 : decode cX0_putAll 38 = .ok (.aload_n 1, 1) := by decide +kernel
theorem dX0_putAll_39 : decode cX0_putAll 39 = .ok (.invokevirtual 46, 3) := by decide +kernel
theorem dX0_putAll_42 : decode cX0_putAll 42 = .ok (.return_, 1) := by decide +kernel
theorem dX0_dropOldest_0 : decode cX0_dropOldest 0 = .ok (.aload_n 0, 1) := by decide +kernel
theorem dX0_dropOldest_1 : decode cX0_dropOldest 1 = .ok (.iconst 2, 1) := by decide +kernel
theorem dX0_dropOldest_2 : decode cX0_dropOldest 2 = .ok (.aload_n 0, 1) := by decide +kernel
theorem dX0_dropOldest_3 : decode cX0_dropOldest 3 = .ok (.iconst 0, 1) := by decide +kernel
theorem dX0_dropOldest_4 : decode cX0_dropOldest 4 = .ok (.aload_n 0, 1) := by decide +kernel
theorem dX0_dropOldest_5 : decode cX0_dropOldest 5 = .ok (.arraylength, 1) := by decide +kernel
theorem dX0_dropOldest_6 : decode cX0_dropOldest 6 = .ok (.iconst 2, 1) := by decide +kernel
theorem dX0_dropOldest_7 : decode cX0_dropOldest 7 = .ok (.isub, 1) := by decide +kernel
theorem dX0_dropOldest_8 : decode cX0_dropOldest 8 = .ok (.invokestatic 49, 3) := by decide +kernel
theorem dX0_dropOldest_11 : decode cX0_dropOldest 11 = .ok (.return_, 1) := by decide +kernel
theorem dX1_init_0 : decode cX1_init 0 = .ok (.aload_n 0, 1) := by decide +kernel
theorem dX1_init_1 : decode cX1_init 1 = .ok (.invokespecial 5, 3) := by decide +kernel
theorem dX1_init_4 : decode cX1_init 4 = .ok (.aload_n 0, 1) := by decide +kernel
theorem dX1_init_5 : decode cX1_init 5 = .ok (.aload_n 1, 1) := by decide +kernel
theorem dX1_init_6 : decode cX1_init 6 = .ok (.putfield 11, 3) := by decide +kernel
theorem dX1_init_9 : decode cX1_init 9 = .ok (.aload_n 0, 1) := by decide +kernel
theorem dX1_init_10 : decode cX1_init 10 = .ok (.bipush 12, 2) := by decide +kernel
theorem dX1_init_12 : decode cX1_init 12 = .ok (.newarray .int, 2) := by decide +kernel
theorem dX1_init_14 : decode cX1_init 14 = .ok (.putfield 15, 3) := by decide +kernel
theorem dX1_init_17 : decode cX1_init 17 = .ok (.aload_n 0, 1) := by decide +kernel
theorem dX1_init_18 : decode cX1_init 18 = .ok (.sipush 128, 3) := by decide +kernel
theorem dX1_init_21 : decode cX1_init 21 = .ok (.newarray .int, 2) := by decide +kernel
theorem dX1_init_23 : decode cX1_init 23 = .ok (.putfield 19, 3) := by decide +kernel
theorem dX1_init_26 : decode cX1_init 26 = .ok (.aload_n 0, 1) := by decide +kernel
theorem dX1_init_27 : decode cX1_init 27 = .ok (.sipush 512, 3) := by decide +kernel
theorem dX1_init_30 : decode cX1_init 30 = .ok (.newarray .int, 2) := by decide +kernel
theorem dX1_init_32 : decode cX1_init 32 = .ok (.putfield 22, 3) := by decide +kernel
theorem dX1_init_35 : decode cX1_init 35 = .ok (.return_, 1) := by decide +kernel
theorem dX1_fewest_0 : decode cX1_fewest 0 = .ok (.aload_n 0, 1) := by decide +kernel
theorem dX1_fewest_1 : decode cX1_fewest 1 = .ok (.iload_n 2, 1) := by decide +kernel
theorem dX1_fewest_2 : decode cX1_fewest 2 = .ok (.putfield 25, 3) := by decide +kernel
theorem dX1_fewest_5 : decode cX1_fewest 5 = .ok (.aload_n 0, 1) := by decide +kernel
theorem dX1_fewest_6 : decode cX1_fewest 6 = .ok (.iload_n 3, 1) := by decide +kernel
theorem dX1_fewest_7 : decode cX1_fewest 7 = .ok (.putfield 29, 3) := by decide +kernel
theorem dX1_fewest_10 : decode cX1_fewest 10 = .ok (.aload_n 0, 1) := by decide +kernel
theorem dX1_fewest_11 : decode cX1_fewest 11 = .ok (.iload_n 1, 1) := by decide +kernel
theorem dX1_fewest_12 : decode cX1_fewest 12 = .ok (.invokevirtual 32, 3) := by decide +kernel
theorem dX1_fewest_15 : decode cX1_fewest 15 = .ok (.aload_n 0, 1) := by decide +kernel
theorem dX1_fewest_16 : decode cX1_fewest 16 = .ok (.invokevirtual 36, 3) := by decide +kernel
theorem dX1_fewest_19 : decode cX1_fewest 19 = .ok (.iload_n 1, 1) := by decide +kernel
theorem dX1_fewest_20 : decode cX1_fewest 20 = .ok (.ifCond .ne 10, 3) := by decide +kernel
theorem dX1_fewest_23 : decode cX1_fewest 23 = .ok (.aload_n 0, 1) := by decide +kernel
theorem dX1_fewest_24 : decode cX1_fewest 24 = .ok (.invokevirtual 39, 3) := by decide +kernel
theorem dX1_fewest_27 : decode cX1_fewest 27 = .ok (.goto 7, 3) := by decide +kernel
theorem dX1_fewest_30 : decode cX1_fewest 30 = .ok (.aload_n 0, 1) := by decide +kernel
theorem dX1_fewest_31 : decode cX1_fewest 31 = .ok (.getfield 43, 3) := by decide +kernel
theorem dX1_fewest_34 : decode cX1_fewest 34 = .ok (.istore 4, 2) := by decide +kernel
theorem dX1_fewest_36 : decode cX1_fewest 36 = .ok (.iconst 0, 1) := by decide +kernel
theorem dX1_fewest_37 : decode cX1_fewest 37 = .ok (.istore 5, 2) := by decide +kernel
theorem dX1_fewest_39 : decode cX1_fewest 39 = .ok (.iconst 1, 1) := by decide +kernel
theorem dX1_fewest_40 : decode cX1_fewest 40 = .ok (.istore 6, 2) := by decide +kernel
theorem dX1_fewest_42 : decode cX1_fewest 42 = .ok (.iload 6, 2) := by decide +kernel
theorem dX1_fewest_44 : decode cX1_fewest 44 = .ok (.iload 4, 2) := by decide +kernel
theorem dX1_fewest_46 : decode cX1_fewest 46 = .ok (.if_icmp .gt 63, 3) := by decide +kernel
theorem dX1_fewest_49 : decode cX1_fewest 49 = .ok (.iload 5, 2) := by decide +kernel
theorem dX1_fewest_51 : decode cX1_fewest 51 = .ok (.ifCond .eq 16, 3) := by decide +kernel
theorem dX1_fewest_54 : decode cX1_fewest 54 = .ok (.iload 6, 2) := by decide +kernel
theorem dX1_fewest_56 : decode cX1_fewest 56 = .ok (.invokestatic 46, 3) := by decide +kernel
theorem dX1_fewest_59 : decode cX1_fewest 59 = .ok (.iload 5, 2) := by decide +kernel
theorem dX1_fewest_61 : decode cX1_fewest 61 = .ok (.invokestatic 46, 3) := by decide +kernel
theorem dX1_fewest_64 : decode cX1_fewest 64 = .ok (.if_icmp .ge 7, 3) := by decide +kernel
theorem dX1_fewest_67 : decode cX1_fewest 67 = .ok (.iconst 1, 1) := by decide +kernel
theorem dX1_fewest_68 : decode cX1_fewest 68 = .ok (.goto 4, 3) := by decide +kernel
theorem dX1_fewest_71 : decode cX1_fewest 71 = .ok (.iconst 0, 1) := by decide +kernel
theorem dX1_fewest_72 : decode cX1_fewest 72 = .ok (.istore 7, 2) := by decide +kernel
theorem dX1_fewest_74 : decode cX1_fewest 74 = .ok (.iload 7, 2) := by decide +kernel
theorem dX1_fewest_76 : decode cX1_fewest 76 = .ok (.ifCond .eq 27, 3) := by decide +kernel
theorem dX1_fewest_79 : decode cX1_fewest 79 = .ok (.iload 6, 2) := by decide +kernel
theorem dX1_fewest_81 : decode cX1_fewest 81 = .ok (.iload 4, 2) := by decide +kernel
theorem dX1_fewest_83 : decode cX1_fewest 83 = .ok (.iconst (-1), 1) := by decide +kernel
theorem dX1_fewest_84 : decode cX1_fewest 84 = .ok (.ixor, 1) := by decide +kernel
theorem dX1_fewest_85 : decode cX1_fewest 85 = .ok (.iand, 1) := by decide +kernel
theorem dX1_fewest_86 : decode cX1_fewest 86 = .ok (.ifCond .ne 17, 3) := by decide +kernel
theorem dX1_fewest_89 : decode cX1_fewest 89 = .ok (.aload_n 0, 1) := by decide +kernel
theorem dX1_fewest_90 : decode cX1_fewest 90 = .ok (.iload_n 1, 1) := by decide +kernel
theorem dX1_fewest_91 : decode cX1_fewest 91 = .ok (.iload 6, 2) := by decide +kernel
theorem dX1_fewest_93 : decode cX1_fewest 93 = .ok (.invokevirtual 52, 3) := by decide +kernel
theorem dX1_fewest_96 : decode cX1_fewest 96 = .ok (.ifCond .eq 7, 3) := by decide +kernel
theorem dX1_fewest_99 : decode cX1_fewest 99 = .ok (.iload 6, 2) := by decide +kernel
theorem dX1_fewest_101 : decode cX1_fewest 101 = .ok (.istore 5, 2) := by decide +kernel
theorem dX1_fewest_103 : decode cX1_fewest 103 = .ok (.iinc 6 1, 3) := by decide +kernel
theorem dX1_fewest_106 : decode cX1_fewest 106 = .ok (.goto (-64), 3) := by decide +kernel
theorem dX1_fewest_109 : decode cX1_fewest 109 = .ok (.iload 5, 2) := by decide +kernel
theorem dX1_fewest_111 : decode cX1_fewest 111 = .ok (.ireturn, 1) := by decide +kernel
theorem dX1_lookAtPosts_0 : decode cX1_lookAtPosts 0 = .ok (.aload_n 0, 1) := by decide +kernel
theorem dX1_lookAtPosts_1 : decode cX1_lookAtPosts 1 = .ok (.iconst 0, 1) := by decide +kernel
theorem dX1_lookAtPosts_2 : decode cX1_lookAtPosts 2 = .ok (.putfield 43, 3) := by decide +kernel
theorem dX1_lookAtPosts_5 : decode cX1_lookAtPosts 5 = .ok (.iconst 0, 1) := by decide +kernel
theorem dX1_lookAtPosts_6 : decode cX1_lookAtPosts 6 = .ok (.istore_n 2, 1) := by decide +kernel
theorem dX1_lookAtPosts_7 : decode cX1_lookAtPosts 7 = .ok (.iload_n 2, 1) := by decide +kernel
theorem dX1_lookAtPosts_8 : decode cX1_lookAtPosts 8 = .ok (.aload_n 0, 1) := by decide +kernel
theorem dX1_lookAtPosts_9 : decode cX1_lookAtPosts 9 = .ok (.getfield 11, 3) := by decide +kernel
theorem dX1_lookAtPosts_12 : decode cX1_lookAtPosts 12 = .ok (.invokevirtual 56, 3) := by decide +kernel
theorem dX1_lookAtPosts_15 : decode cX1_lookAtPosts 15 = .ok (.if_icmp .ge 104, 3) := by decide +kernel
theorem dX1_lookAtPosts_18 : decode cX1_lookAtPosts 18 = .ok (.iconst 1, 1) := by decide +kernel
theorem dX1_lookAtPosts_19 : decode cX1_lookAtPosts 19 = .ok (.iload_n 2, 1) := by decide +kernel
theorem dX1_lookAtPosts_20 : decode cX1_lookAtPosts 20 = .ok (.ishl, 1) := by decide +kernel
theorem dX1_lookAtPosts_21 : decode cX1_lookAtPosts 21 = .ok (.istore_n 3, 1) := by decide +kernel
theorem dX1_lookAtPosts_22 : decode cX1_lookAtPosts 22 = .ok (.aload_n 0, 1) := by decide +kernel
theorem dX1_lookAtPosts_23 : decode cX1_lookAtPosts 23 = .ok (.getfield 11, 3) := by decide +kernel
theorem dX1_lookAtPosts_26 : decode cX1_lookAtPosts 26 = .ok (.iload_n 2, 1) := by decide +kernel
theorem dX1_lookAtPosts_27 : decode cX1_lookAtPosts 27 = .ok (.invokevirtual 61, 3) := by decide +kernel
theorem dX1_lookAtPosts_30 : decode cX1_lookAtPosts 30 = .ok (.iload_n 1, 1) := by decide +kernel
theorem dX1_lookAtPosts_31 : decode cX1_lookAtPosts 31 = .ok (.ifCond .ne 19, 3) := by decide +kernel
theorem dX1_lookAtPosts_34 : decode cX1_lookAtPosts 34 = .ok (.aload_n 0, 1) := by decide +kernel
theorem dX1_lookAtPosts_35 : decode cX1_lookAtPosts 35 = .ok (.getfield 29, 3) := by decide +kernel
theorem dX1_lookAtPosts_38 : decode cX1_lookAtPosts 38 = .ok (.aload_n 0, 1) := by decide +kernel
theorem dX1_lookAtPosts_39 : decode cX1_lookAtPosts 39 = .ok (.getfield 11, 3) := by decide +kernel
theorem dX1_lookAtPosts_42 : decode cX1_lookAtPosts 42 = .ok (.iload_n 2, 1) := by decide +kernel
theorem dX1_lookAtPosts_43 : decode cX1_lookAtPosts 43 = .ok (.invokevirtual 64, 3) := by decide +kernel
theorem dX1_lookAtPosts_46 : decode cX1_lookAtPosts 46 = .ok (.imul, 1) := by decide +kernel
theorem dX1_lookAtPosts_47 : decode cX1_lookAtPosts 47 = .ok (.goto 4, 3) := by decide +kernel
theorem dX1_lookAtPosts_50 : decode cX1_lookAtPosts 50 = .ok (.iconst 0, 1) := by decide +kernel
theorem dX1_lookAtPosts_51 : decode cX1_lookAtPosts 51 = .ok (.isub, 1) := by decide +kernel
theorem dX1_lookAtPosts_52 : decode cX1_lookAtPosts 52 = .ok (.istore 4, 2) := by decide +kernel
theorem dX1_lookAtPosts_54 : decode cX1_lookAtPosts 54 = .ok (.aload_n 0, 1) := by decide +kernel
theorem dX1_lookAtPosts_55 : decode cX1_lookAtPosts 55 = .ok (.dup, 1) := by decide +kernel
theorem dX1_lookAtPosts_56 : decode cX1_lookAtPosts 56 = .ok (.getfield 43, 3) := by decide +kernel
theorem dX1_lookAtPosts_59 : decode cX1_lookAtPosts 59 = .ok (.aload_n 0, 1) := by decide +kernel
theorem dX1_lookAtPosts_60 : decode cX1_lookAtPosts 60 = .ok (.getfield 11, 3) := by decide +kernel
theorem dX1_lookAtPosts_63 : decode cX1_lookAtPosts 63 = .ok (.iload_n 2, 1) := by decide +kernel
theorem dX1_lookAtPosts_64 : decode cX1_lookAtPosts 64 = .ok (.invokevirtual 67, 3) := by decide +kernel
theorem dX1_lookAtPosts_67 : decode cX1_lookAtPosts 67 = .ok (.ifCond .eq 7, 3) := by decide +kernel
theorem dX1_lookAtPosts_70 : decode cX1_lookAtPosts 70 = .ok (.iload_n 3, 1) := by decide +kernel
theorem dX1_lookAtPosts_71 : decode cX1_lookAtPosts 71 = .ok (.goto 4, 3) := by decide +kernel
theorem dX1_lookAtPosts_74 : decode cX1_lookAtPosts 74 = .ok (.iconst 0, 1) := by decide +kernel
theorem dX1_lookAtPosts_75 : decode cX1_lookAtPosts 75 = .ok (.ior, 1) := by decide +kernel
theorem dX1_lookAtPosts_76 : decode cX1_lookAtPosts 76 = .ok (.putfield 43, 3) := by decide +kernel
theorem dX1_lookAtPosts_79 : decode cX1_lookAtPosts 79 = .ok (.iconst 0, 1) := by decide +kernel
theorem dX1_lookAtPosts_80 : decode cX1_lookAtPosts 80 = .ok (.istore 5, 2) := by decide +kernel
theorem dX1_lookAtPosts_82 : decode cX1_lookAtPosts 82 = .ok (.iload 5, 2) := by decide +kernel
theorem dX1_lookAtPosts_84 : decode cX1_lookAtPosts 84 = .ok (.iload_n 3, 1) := by decide +kernel
theorem dX1_lookAtPosts_85 : decode cX1_lookAtPosts 85 = .ok (.if_icmp .ge 28, 3) := by decide +kernel
theorem dX1_lookAtPosts_88 : decode cX1_lookAtPosts 88 = .ok (.aload_n 0, 1) := by decide +kernel
theorem dX1_lookAtPosts_89 : decode cX1_lookAtPosts 89 = .ok (.getfield 22, 3) := by decide +kernel
theorem dX1_lookAtPosts_92 : decode cX1_lookAtPosts 92 = .ok (.iload_n 3, 1) := by decide +kernel
theorem dX1_lookAtPosts_93 : decode cX1_lookAtPosts 93 = .ok (.iload 5, 2) := by decide +kernel
theorem dX1_lookAtPosts_95 : decode cX1_lookAtPosts 95 = .ok (.iadd, 1) := by decide +kernel
theorem dX1_lookAtPosts_96 : decode cX1_lookAtPosts 96 = .ok (.aload_n 0, 1) := by decide +kernel
theorem dX1_lookAtPosts_97 : decode cX1_lookAtPosts 97 = .ok (.getfield 22, 3) := by decide +kernel
theorem dX1_lookAtPosts_100 : decode cX1_lookAtPosts 100 = .ok (.iload 5, 2) := by decide +kernel
theorem dX1_lookAtPosts_102 : decode cX1_lookAtPosts 102 = .ok (.iaload, 1) := by decide +kernel
theorem dX1_lookAtPosts_103 : decode cX1_lookAtPosts 103 = .ok (.iload 4, 2) := by decide +kernel
theorem dX1_lookAtPosts_105 : decode cX1_lookAtPosts 105 = .ok (.iadd, 1) := by decide +kernel
theorem dX1_lookAtPosts_106 : decode cX1_lookAtPosts 106 = .ok (.iastore, 1) := by decide +kernel
theorem dX1_lookAtPosts_107 : decode cX1_lookAtPosts 107 = .ok (.iinc 5 1, 3) := by decide +kernel
theorem dX1_lookAtPosts_110 : decode cX1_lookAtPosts 110 = .ok (.goto (-28), 3) := by decide +kernel
theorem dX1_lookAtPosts_113 : decode cX1_lookAtPosts 113 = .ok (.iinc 2 1, 3) := by decide +kernel
theorem dX1_lookAtPosts_116 : decode cX1_lookAtPosts 116 = .ok (.goto (-109), 3) := by decide +kernel
theorem dX1_lookAtPosts_119 : decode cX1_lookAtPosts 119 = .ok (.return_, 1) := by decide +kernel
theorem dX1_lookAtThirds_0 : decode cX1_lookAtThirds 0 = .ok (.iconst 0, 1) := by decide +kernel
theorem dX1_lookAtThirds_1 : decode cX1_lookAtThirds 1 = .ok (.istore_n 1, 1) := by decide +kernel
theorem dX1_lookAtThirds_2 : decode cX1_lookAtThirds 2 = .ok (.iload_n 1, 1) := by decide +kernel
theorem dX1_lookAtThirds_3 : decode cX1_lookAtThirds 3 = .ok (.aload_n 0, 1) := by decide +kernel
theorem dX1_lookAtThirds_4 : decode cX1_lookAtThirds 4 = .ok (.getfield 11, 3) := by decide +kernel
theorem dX1_lookAtThirds_7 : decode cX1_lookAtThirds 7 = .ok (.invokevirtual 71, 3) := by decide +kernel
theorem dX1_lookAtThirds_10 : decode cX1_lookAtThirds 10 = .ok (.if_icmp .ge 119, 3) := by decide +kernel
theorem dX1_lookAtThirds_13 : decode cX1_lookAtThirds 13 = .ok (.aload_n 0, 1) := by decide +kernel
theorem dX1_lookAtThirds_14 : decode cX1_lookAtThirds 14 = .ok (.getfield 15, 3) := by decide +kernel
theorem dX1_lookAtThirds_17 : decode cX1_lookAtThirds 17 = .ok (.iload_n 1, 1) := by decide +kernel
theorem dX1_lookAtThirds_18 : decode cX1_lookAtThirds 18 = .ok (.iconst 1, 1) := by decide +kernel
theorem dX1_lookAtThirds_19 : decode cX1_lookAtThirds 19 = .ok (.aload_n 0, 1) := by decide +kernel
theorem dX1_lookAtThirds_20 : decode cX1_lookAtThirds 20 = .ok (.getfield 11, 3) := by decide +kernel
theorem dX1_lookAtThirds_23 : decode cX1_lookAtThirds 23 = .ok (.iconst 3, 1) := by decide +kernel
theorem dX1_lookAtThirds_24 : decode cX1_lookAtThirds 24 = .ok (.iload_n 1, 1) := by decide +kernel
theorem dX1_lookAtThirds_25 : decode cX1_lookAtThirds 25 = .ok (.imul, 1) := by decide +kernel
theorem dX1_lookAtThirds_26 : decode cX1_lookAtThirds 26 = .ok (.invokevirtual 74, 3) := by decide +kernel
theorem dX1_lookAtThirds_29 : decode cX1_lookAtThirds 29 = .ok (.ishl, 1) := by decide +kernel
theorem dX1_lookAtThirds_30 : decode cX1_lookAtThirds 30 = .ok (.iconst 1, 1) := by decide +kernel
theorem dX1_lookAtThirds_31 : decode cX1_lookAtThirds 31 = .ok (.aload_n 0, 1) := by decide +kernel
theorem dX1_lookAtThirds_32 : decode cX1_lookAtThirds 32 = .ok (.getfield 11, 3) := by decide +kernel
theorem dX1_lookAtThirds_35 : decode cX1_lookAtThirds 35 = .ok (.iconst 3, 1) := by decide +kernel
theorem dX1_lookAtThirds_36 : decode cX1_lookAtThirds 36 = .ok (.iload_n 1, 1) := by decide +kernel
theorem dX1_lookAtThirds_37 : decode cX1_lookAtThirds 37 = .ok (.imul, 1) := by decide +kernel
theorem dX1_lookAtThirds_38 : decode cX1_lookAtThirds 38 = .ok (.iconst 1, 1) := by decide +kernel
theorem dX1_lookAtThirds_39 : decode cX1_lookAtThirds 39 = .ok (.iadd, 1) := by decide +kernel
theorem dX1_lookAtThirds_40 : decode cX1_lookAtThirds 40 = .ok (.invokevirtual 74, 3) := by decide +kernel
theorem dX1_lookAtThirds_43 : decode cX1_lookAtThirds 43 = .ok (.ishl, 1) := by decide +kernel
theorem dX1_lookAtThirds_44 : decode cX1_lookAtThirds 44 = .ok (.ior, 1) := by decide +kernel
theorem dX1_lookAtThirds_45 : decode cX1_lookAtThirds 45 = .ok (.iconst 1, 1) := by decide +kernel
theorem dX1_lookAtThirds_46 : decode cX1_lookAtThirds 46 = .ok (.aload_n 0, 1) := by decide +kernel
theorem dX1_lookAtThirds_47 : decode cX1_lookAtThirds 47 = .ok (.getfield 11, 3) := by decide +kernel
theorem dX1_lookAtThirds_50 : decode cX1_lookAtThirds 50 = .ok (.iconst 3, 1) := by decide +kernel
theorem dX1_lookAtThirds_51 : decode cX1_lookAtThirds 51 = .ok (.iload_n 1, 1) := by decide +kernel
theorem dX1_lookAtThirds_52 : decode cX1_lookAtThirds 52 = .ok (.imul, 1) := by decide +kernel
theorem dX1_lookAtThirds_53 : decode cX1_lookAtThirds 53 = .ok (.iconst 2, 1) := by decide +kernel
theorem dX1_lookAtThirds_54 : decode cX1_lookAtThirds 54 = .ok (.iadd, 1) := by decide +kernel
theorem dX1_lookAtThirds_55 : decode cX1_lookAtThirds 55 = .ok (.invokevirtual 74, 3) := by decide +kernel
theorem dX1_lookAtThirds_58 : decode cX1_lookAtThirds 58 = .ok (.ishl, 1) := by decide +kernel
theorem dX1_lookAtThirds_59 : decode cX1_lookAtThirds 59 = .ok (.ior, 1) := by decide +kernel
theorem dX1_lookAtThirds_60 : decode cX1_lookAtThirds 60 = .ok (.iastore, 1) := by decide +kernel
theorem dX1_lookAtThirds_61 : decode cX1_lookAtThirds 61 = .ok (.iload_n 1, 1) := by decide +kernel
theorem dX1_lookAtThirds_62 : decode cX1_lookAtThirds 62 = .ok (.bipush 6, 2) := by decide +kernel
theorem dX1_lookAtThirds_64 : decode cX1_lookAtThirds 64 = .ok (.if_icmp .ge 7, 3) := by decide +kernel
theorem dX1_lookAtThirds_67 : decode cX1_lookAtThirds 67 = .ok (.iconst 0, 1) := by decide +kernel
theorem dX1_lookAtThirds_68 : decode cX1_lookAtThirds 68 = .ok (.goto 5, 3) := by decide +kernel
theorem dX1_lookAtThirds_71 : decode cX1_lookAtThirds 71 = .ok (.bipush 64, 2) := by decide +kernel
theorem dX1_lookAtThirds_73 : decode cX1_lookAtThirds 73 = .ok (.istore_n 2, 1) := by decide +kernel
theorem dX1_lookAtThirds_74 : decode cX1_lookAtThirds 74 = .ok (.iconst 1, 1) := by decide +kernel
theorem dX1_lookAtThirds_75 : decode cX1_lookAtThirds 75 = .ok (.iload_n 1, 1) := by decide +kernel
theorem dX1_lookAtThirds_76 : decode cX1_lookAtThirds 76 = .ok (.bipush 6, 2) := by decide +kernel
theorem dX1_lookAtThirds_78 : decode cX1_lookAtThirds 78 = .ok (.irem, 1) := by decide +kernel
theorem dX1_lookAtThirds_79 : decode cX1_lookAtThirds 79 = .ok (.ishl, 1) := by decide +kernel
theorem dX1_lookAtThirds_80 : decode cX1_lookAtThirds 80 = .ok (.istore_n 3, 1) := by decide +kernel
theorem dX1_lookAtThirds_81 : decode cX1_lookAtThirds 81 = .ok (.iconst 0, 1) := by decide +kernel
theorem dX1_lookAtThirds_82 : decode cX1_lookAtThirds 82 = .ok (.istore 4, 2) := by decide +kernel
theorem dX1_lookAtThirds_84 : decode cX1_lookAtThirds 84 = .ok (.iload 4, 2) := by decide +kernel
theorem dX1_lookAtThirds_86 : decode cX1_lookAtThirds 86 = .ok (.iload_n 3, 1) := by decide +kernel
theorem dX1_lookAtThirds_87 : decode cX1_lookAtThirds 87 = .ok (.if_icmp .ge 36, 3) := by decide +kernel
theorem dX1_lookAtThirds_90 : decode cX1_lookAtThirds 90 = .ok (.aload_n 0, 1) := by decide +kernel
theorem dX1_lookAtThirds_91 : decode cX1_lookAtThirds 91 = .ok (.getfield 19, 3) := by decide +kernel
theorem dX1_lookAtThirds_94 : decode cX1_lookAtThirds 94 = .ok (.iload_n 2, 1) := by decide +kernel
theorem dX1_lookAtThirds_95 : decode cX1_lookAtThirds 95 = .ok (.iload_n 3, 1) := by decide +kernel
theorem dX1_lookAtThirds_96 : decode cX1_lookAtThirds 96 = .ok (.iadd, 1) := by decide +kernel
theorem dX1_lookAtThirds_97 : decode cX1_lookAtThirds 97 = .ok (.iload 4, 2) := by decide +kernel
theorem dX1_lookAtThirds_99 : decode cX1_lookAtThirds 99 = .ok (.iadd, 1) := by decide +kernel
theorem dX1_lookAtThirds_100 : decode cX1_lookAtThirds 100 = .ok (.aload_n 0, 1) := by decide +kernel
theorem dX1_lookAtThirds_101 : decode cX1_lookAtThirds 101 = .ok (.getfield 19, 3) := by decide +kernel
theorem dX1_lookAtThirds_104 : decode cX1_lookAtThirds 104 = .ok (.iload_n 2, 1) := by decide +kernel
theorem dX1_lookAtThirds_105 : decode cX1_lookAtThirds 105 = .ok (.iload 4, 2) := by decide +kernel
theorem dX1_lookAtThirds_107 : decode cX1_lookAtThirds 107 = .ok (.iadd, 1) := by decide +kernel
theorem dX1_lookAtThirds_108 : decode cX1_lookAtThirds 108 = .ok (.iaload, 1) := by decide +kernel
theorem dX1_lookAtThirds_109 : decode cX1_lookAtThirds 109 = .ok (.aload_n 0, 1) := by decide +kernel
theorem dX1_lookAtThirds_110 : decode cX1_lookAtThirds 110 = .ok (.getfield 15, 3) := by decide +kernel
theorem dX1_lookAtThirds_113 : decode cX1_lookAtThirds 113 = .ok (.iload_n 1, 1) := by decide +kernel
theorem dX1_lookAtThirds_114 : decode cX1_lookAtThirds 114 = .ok (.iaload, 1) := by decide +kernel
theorem dX1_lookAtThirds_115 : decode cX1_lookAtThirds 115 = .ok (.ior, 1) := by decide +kernel
theorem dX1_lookAtThirds_116 : decode cX1_lookAtThirds 116 = .ok (.iastore, 1) := by decide +kernel
theorem dX1_lookAtThirds_117 : decode cX1_lookAtThirds 117 = .ok (.iinc 4 1, 3) := by decide +kernel
theorem dX1_lookAtThirds_120 : decode cX1_lookAtThirds 120 = .ok (.goto (-36), 3) := by decide +kernel
theorem dX1_lookAtThirds_123 : decode cX1_lookAtThirds 123 = .ok (.iinc 1 1, 3) := by decide +kernel
theorem dX1_lookAtThirds_126 : decode cX1_lookAtThirds 126 = .ok (.goto (-124), 3) := by decide +kernel
theorem dX1_lookAtThirds_129 : decode cX1_lookAtThirds 129 = .ok (.return_, 1) := by decide +kernel
theorem dX1_thirdsAtToldPosts_0 : decode cX1_thirdsAtToldPosts 0 = .ok (.iconst 0, 1) := by decide +kernel
theorem dX1_thirdsAtToldPosts_1 : decode cX1_thirdsAtToldPosts 1 = .ok (.istore_n 1, 1) := by decide +kernel
theorem dX1_thirdsAtToldPosts_2 : decode cX1_thirdsAtToldPosts 2 = .ok (.iconst 0, 1) := by decide +kernel
theorem dX1_thirdsAtToldPosts_3 : decode cX1_thirdsAtToldPosts 3 = .ok (.istore_n 2, 1) := by decide +kernel
theorem dX1_thirdsAtToldPosts_4 : decode cX1_thirdsAtToldPosts 4 = .ok (.iload_n 2, 1) := by decide +kernel
theorem dX1_thirdsAtToldPosts_5 : decode cX1_thirdsAtToldPosts 5 = .ok (.aload_n 0, 1) := by decide +kernel
theorem dX1_thirdsAtToldPosts_6 : decode cX1_thirdsAtToldPosts 6 = .ok (.getfield 11, 3) := by decide +kernel
theorem dX1_thirdsAtToldPosts_9 : decode cX1_thirdsAtToldPosts 9 = .ok (.invokevirtual 71, 3) := by decide +kernel
theorem dX1_thirdsAtToldPosts_12 : decode cX1_thirdsAtToldPosts 12 = .ok (.if_icmp .ge 35, 3) := by decide +kernel
theorem dX1_thirdsAtToldPosts_15 : decode cX1_thirdsAtToldPosts 15 = .ok (.iload_n 1, 1) := by decide +kernel
theorem dX1_thirdsAtToldPosts_16 : decode cX1_thirdsAtToldPosts 16 = .ok (.aload_n 0, 1) := by decide +kernel
theorem dX1_thirdsAtToldPosts_17 : decode cX1_thirdsAtToldPosts 17 = .ok (.getfield 15, 3) := by decide +kernel
theorem dX1_thirdsAtToldPosts_20 : decode cX1_thirdsAtToldPosts 20 = .ok (.iload_n 2, 1) := by decide +kernel
theorem dX1_thirdsAtToldPosts_21 : decode cX1_thirdsAtToldPosts 21 = .ok (.iaload, 1) := by decide +kernel
theorem dX1_thirdsAtToldPosts_22 : decode cX1_thirdsAtToldPosts 22 = .ok (.aload_n 0, 1) := by decide +kernel
theorem dX1_thirdsAtToldPosts_23 : decode cX1_thirdsAtToldPosts 23 = .ok (.getfield 43, 3) := by decide +kernel
theorem dX1_thirdsAtToldPosts_26 : decode cX1_thirdsAtToldPosts 26 = .ok (.iconst (-1), 1) := by decide +kernel
theorem dX1_thirdsAtToldPosts_27 : decode cX1_thirdsAtToldPosts 27 = .ok (.ixor, 1) := by decide +kernel
theorem dX1_thirdsAtToldPosts_28 : decode cX1_thirdsAtToldPosts 28 = .ok (.iand, 1) := by decide +kernel
theorem dX1_thirdsAtToldPosts_29 : decode cX1_thirdsAtToldPosts 29 = .ok (.ifCond .ne 9, 3) := by decide +kernel
theorem dX1_thirdsAtToldPosts_32 : decode cX1_thirdsAtToldPosts 32 = .ok (.iconst 1, 1) := by decide +kernel
theorem dX1_thirdsAtToldPosts_33 : decode cX1_thirdsAtToldPosts 33 = .ok (.iload_n 2, 1) := by decide +kernel
theorem dX1_thirdsAtToldPosts_34 : decode cX1_thirdsAtToldPosts 34 = .ok (.ishl, 1) := by decide +kernel
theorem dX1_thirdsAtToldPosts_35 : decode cX1_thirdsAtToldPosts 35 = .ok (.goto 4, 3) := by decide +kernel
theorem dX1_thirdsAtToldPosts_38 : decode cX1_thirdsAtToldPosts 38 = .ok (.iconst 0, 1) := by decide +kernel
theorem dX1_thirdsAtToldPosts_39 : decode cX1_thirdsAtToldPosts 39 = .ok (.ior, 1) := by decide +kernel
theorem dX1_thirdsAtToldPosts_40 : decode cX1_thirdsAtToldPosts 40 = .ok (.istore_n 1, 1) := by decide +kernel
theorem dX1_thirdsAtToldPosts_41 : decode cX1_thirdsAtToldPosts 41 = .ok (.iinc 2 1, 3) := by decide +kernel
theorem dX1_thirdsAtToldPosts_44 : decode cX1_thirdsAtToldPosts 44 = .ok (.goto (-40), 3) := by decide +kernel
theorem dX1_thirdsAtToldPosts_47 : decode cX1_thirdsAtToldPosts 47 = .ok (.iload_n 1, 1) := by decide +kernel
theorem dX1_thirdsAtToldPosts_48 : decode cX1_thirdsAtToldPosts 48 = .ok (.ireturn, 1) := by decide +kernel
theorem dX1_isBar_0 : decode cX1_isBar 0 = .ok (.iload_n 1, 1) := by decide +kernel
theorem dX1_isBar_1 : decode cX1_isBar 1 = .ok (.lookupswitch 70 #[(0, 27), (1, 50)], 27) := by decide +kernel
theorem dX1_isBar_28 : decode cX1_isBar 28 = .ok (.aload_n 0, 1) := by decide +kernel
theorem dX1_isBar_29 : decode cX1_isBar 29 = .ok (.getfield 25, 3) := by decide +kernel
theorem dX1_isBar_32 : decode cX1_isBar 32 = .ok (.iload_n 2, 1) := by decide +kernel
theorem dX1_isBar_33 : decode cX1_isBar 33 = .ok (.invokestatic 46, 3) := by decide +kernel
theorem dX1_isBar_36 : decode cX1_isBar 36 = .ok (.imul, 1) := by decide +kernel
theorem dX1_isBar_37 : decode cX1_isBar 37 = .ok (.aload_n 0, 1) := by decide +kernel
theorem dX1_isBar_38 : decode cX1_isBar 38 = .ok (.iload_n 2, 1) := by decide +kernel
theorem dX1_isBar_39 : decode cX1_isBar 39 = .ok (.invokevirtual 77, 3) := by decide +kernel
theorem dX1_isBar_42 : decode cX1_isBar 42 = .ok (.if_icmp .le 7, 3) := by decide +kernel
theorem dX1_isBar_45 : decode cX1_isBar 45 = .ok (.iconst 1, 1) := by decide +kernel
theorem dX1_isBar_46 : decode cX1_isBar 46 = .ok (.goto 4, 3) := by decide +kernel
theorem dX1_isBar_49 : decode cX1_isBar 49 = .ok (.iconst 0, 1) := by decide +kernel
theorem dX1_isBar_50 : decode cX1_isBar 50 = .ok (.ireturn, 1) := by decide +kernel
theorem dX1_isBar_51 : decode cX1_isBar 51 = .ok (.aload_n 0, 1) := by decide +kernel
theorem dX1_isBar_52 : decode cX1_isBar 52 = .ok (.getfield 22, 3) := by decide +kernel
theorem dX1_isBar_55 : decode cX1_isBar 55 = .ok (.iload_n 2, 1) := by decide +kernel
theorem dX1_isBar_56 : decode cX1_isBar 56 = .ok (.iaload, 1) := by decide +kernel
theorem dX1_isBar_57 : decode cX1_isBar 57 = .ok (.aload_n 0, 1) := by decide +kernel
theorem dX1_isBar_58 : decode cX1_isBar 58 = .ok (.iload_n 2, 1) := by decide +kernel
theorem dX1_isBar_59 : decode cX1_isBar 59 = .ok (.invokevirtual 80, 3) := by decide +kernel
theorem dX1_isBar_62 : decode cX1_isBar 62 = .ok (.if_icmp .le 7, 3) := by decide +kernel
theorem dX1_isBar_65 : decode cX1_isBar 65 = .ok (.iconst 1, 1) := by decide +kernel
theorem dX1_isBar_66 : decode cX1_isBar 66 = .ok (.goto 4, 3) := by decide +kernel
theorem dX1_isBar_69 : decode cX1_isBar 69 = .ok (.iconst 0, 1) := by decide +kernel
theorem dX1_isBar_70 : decode cX1_isBar 70 = .ok (.ireturn, 1) := by decide +kernel
theorem dX1_isBar_71 : decode cX1_isBar 71 = .ok (.aload_n 0, 1) := by decide +kernel
theorem dX1_isBar_72 : decode cX1_isBar 72 = .ok (.getfield 22, 3) := by decide +kernel
theorem dX1_isBar_75 : decode cX1_isBar 75 = .ok (.iload_n 2, 1) := by decide +kernel
theorem dX1_isBar_76 : decode cX1_isBar 76 = .ok (.iaload, 1) := by decide +kernel
theorem dX1_isBar_77 : decode cX1_isBar 77 = .ok (.aload_n 0, 1) := by decide +kernel
theorem dX1_isBar_78 : decode cX1_isBar 78 = .ok (.iload_n 2, 1) := by decide +kernel
theorem dX1_isBar_79 : decode cX1_isBar 79 = .ok (.invokevirtual 83, 3) := by decide +kernel
theorem dX1_isBar_82 : decode cX1_isBar 82 = .ok (.if_icmp .ge 7, 3) := by decide +kernel
theorem dX1_isBar_85 : decode cX1_isBar 85 = .ok (.iconst 1, 1) := by decide +kernel
theorem dX1_isBar_86 : decode cX1_isBar 86 = .ok (.goto 4, 3) := by decide +kernel
theorem dX1_isBar_89 : decode cX1_isBar 89 = .ok (.iconst 0, 1) := by decide +kernel
theorem dX1_isBar_90 : decode cX1_isBar 90 = .ok (.ireturn, 1) := by decide +kernel
theorem dX1_roomFor_0 : decode cX1_roomFor 0 = .ok (.aload_n 0, 1) := by decide +kernel
theorem dX1_roomFor_1 : decode cX1_roomFor 1 = .ok (.getfield 19, 3) := by decide +kernel
theorem dX1_roomFor_4 : decode cX1_roomFor 4 = .ok (.iload_n 1, 1) := by decide +kernel
theorem dX1_roomFor_5 : decode cX1_roomFor 5 = .ok (.bipush 64, 2) := by decide +kernel
theorem dX1_roomFor_7 : decode cX1_roomFor 7 = .ok (.irem, 1) := by decide +kernel
theorem dX1_roomFor_8 : decode cX1_roomFor 8 = .ok (.iaload, 1) := by decide +kernel
theorem dX1_roomFor_9 : decode cX1_roomFor 9 = .ok (.aload_n 0, 1) := by decide +kernel
theorem dX1_roomFor_10 : decode cX1_roomFor 10 = .ok (.getfield 19, 3) := by decide +kernel
theorem dX1_roomFor_13 : decode cX1_roomFor 13 = .ok (.bipush 64, 2) := by decide +kernel
theorem dX1_roomFor_15 : decode cX1_roomFor 15 = .ok (.iload_n 1, 1) := by decide +kernel
theorem dX1_roomFor_16 : decode cX1_roomFor 16 = .ok (.bipush 64, 2) := by decide +kernel
theorem dX1_roomFor_18 : decode cX1_roomFor 18 = .ok (.idiv, 1) := by decide +kernel
theorem dX1_roomFor_19 : decode cX1_roomFor 19 = .ok (.iadd, 1) := by decide +kernel
theorem dX1_roomFor_20 : decode cX1_roomFor 20 = .ok (.iaload, 1) := by decide +kernel
theorem dX1_roomFor_21 : decode cX1_roomFor 21 = .ok (.ior, 1) := by decide +kernel
theorem dX1_roomFor_22 : decode cX1_roomFor 22 = .ok (.istore_n 2, 1) := by decide +kernel
theorem dX1_roomFor_23 : decode cX1_roomFor 23 = .ok (.aload_n 0, 1) := by decide +kernel
theorem dX1_roomFor_24 : decode cX1_roomFor 24 = .ok (.getfield 22, 3) := by decide +kernel
theorem dX1_roomFor_27 : decode cX1_roomFor 27 = .ok (.iload_n 2, 1) := by decide +kernel
theorem dX1_roomFor_28 : decode cX1_roomFor 28 = .ok (.iaload, 1) := by decide +kernel
theorem dX1_roomFor_29 : decode cX1_roomFor 29 = .ok (.iconst 3, 1) := by decide +kernel
theorem dX1_roomFor_30 : decode cX1_roomFor 30 = .ok (.aload_n 0, 1) := by decide +kernel
theorem dX1_roomFor_31 : decode cX1_roomFor 31 = .ok (.getfield 29, 3) := by decide +kernel
theorem dX1_roomFor_34 : decode cX1_roomFor 34 = .ok (.imul, 1) := by decide +kernel
theorem dX1_roomFor_35 : decode cX1_roomFor 35 = .ok (.iload_n 1, 1) := by decide +kernel
theorem dX1_roomFor_36 : decode cX1_roomFor 36 = .ok (.invokestatic 46, 3) := by decide +kernel
theorem dX1_roomFor_39 : decode cX1_roomFor 39 = .ok (.imul, 1) := by decide +kernel
theorem dX1_roomFor_40 : decode cX1_roomFor 40 = .ok (.iadd, 1) := by decide +kernel
theorem dX1_roomFor_41 : decode cX1_roomFor 41 = .ok (.ireturn, 1) := by decide +kernel
theorem dX1_mostOf_0 : decode cX1_mostOf 0 = .ok (.iconst 0, 1) := by decide +kernel
theorem dX1_mostOf_1 : decode cX1_mostOf 1 = .ok (.istore_n 2, 1) := by decide +kernel
theorem dX1_mostOf_2 : decode cX1_mostOf 2 = .ok (.iconst 0, 1) := by decide +kernel
theorem dX1_mostOf_3 : decode cX1_mostOf 3 = .ok (.istore_n 3, 1) := by decide +kernel
theorem dX1_mostOf_4 : decode cX1_mostOf 4 = .ok (.iload_n 3, 1) := by decide +kernel
theorem dX1_mostOf_5 : decode cX1_mostOf 5 = .ok (.aload_n 0, 1) := by decide +kernel
theorem dX1_mostOf_6 : decode cX1_mostOf 6 = .ok (.getfield 11, 3) := by decide +kernel
theorem dX1_mostOf_9 : decode cX1_mostOf 9 = .ok (.invokevirtual 71, 3) := by decide +kernel
theorem dX1_mostOf_12 : decode cX1_mostOf 12 = .ok (.if_icmp .ge 48, 3) := by decide +kernel
theorem dX1_mostOf_15 : decode cX1_mostOf 15 = .ok (.aload_n 0, 1) := by decide +kernel
theorem dX1_mostOf_16 : decode cX1_mostOf 16 = .ok (.getfield 15, 3) := by decide +kernel
theorem dX1_mostOf_19 : decode cX1_mostOf 19 = .ok (.iload_n 3, 1) := by decide +kernel
theorem dX1_mostOf_20 : decode cX1_mostOf 20 = .ok (.iaload, 1) := by decide +kernel
theorem dX1_mostOf_21 : decode cX1_mostOf 21 = .ok (.iload_n 1, 1) := by decide +kernel
theorem dX1_mostOf_22 : decode cX1_mostOf 22 = .ok (.iand, 1) := by decide +kernel
theorem dX1_mostOf_23 : decode cX1_mostOf 23 = .ok (.invokestatic 46, 3) := by decide +kernel
theorem dX1_mostOf_26 : decode cX1_mostOf 26 = .ok (.istore 4, 2) := by decide +kernel
theorem dX1_mostOf_28 : decode cX1_mostOf 28 = .ok (.iload_n 2, 1) := by decide +kernel
theorem dX1_mostOf_29 : decode cX1_mostOf 29 = .ok (.iload 4, 2) := by decide +kernel
theorem dX1_mostOf_31 : decode cX1_mostOf 31 = .ok (.ifCond .ne 7, 3) := by decide +kernel
theorem dX1_mostOf_34 : decode cX1_mostOf 34 = .ok (.iconst 0, 1) := by decide +kernel
theorem dX1_mostOf_35 : decode cX1_mostOf 35 = .ok (.goto 17, 3) := by decide +kernel
theorem dX1_mostOf_38 : decode cX1_mostOf 38 = .ok (.aload_n 0, 1) := by decide +kernel
theorem dX1_mostOf_39 : decode cX1_mostOf 39 = .ok (.getfield 25, 3) := by decide +kernel
theorem dX1_mostOf_42 : decode cX1_mostOf 42 = .ok (.aload_n 0, 1) := by decide +kernel
theorem dX1_mostOf_43 : decode cX1_mostOf 43 = .ok (.getfield 29, 3) := by decide +kernel
theorem dX1_mostOf_46 : decode cX1_mostOf 46 = .ok (.iconst 3, 1) := by decide +kernel
theorem dX1_mostOf_47 : decode cX1_mostOf 47 = .ok (.iload 4, 2) := by decide +kernel
theorem dX1_mostOf_49 : decode cX1_mostOf 49 = .ok (.isub, 1) := by decide +kernel
theorem dX1_mostOf_50 : decode cX1_mostOf 50 = .ok (.imul, 1) := by decide +kernel
theorem dX1_mostOf_51 : decode cX1_mostOf 51 = .ok (.isub, 1) := by decide +kernel
theorem dX1_mostOf_52 : decode cX1_mostOf 52 = .ok (.iadd, 1) := by decide +kernel
theorem dX1_mostOf_53 : decode cX1_mostOf 53 = .ok (.istore_n 2, 1) := by decide +kernel
theorem dX1_mostOf_54 : decode cX1_mostOf 54 = .ok (.iinc 3 1, 3) := by decide +kernel
theorem dX1_mostOf_57 : decode cX1_mostOf 57 = .ok (.goto (-53), 3) := by decide +kernel
theorem dX1_mostOf_60 : decode cX1_mostOf 60 = .ok (.iload_n 2, 1) := by decide +kernel
theorem dX1_mostOf_61 : decode cX1_mostOf 61 = .ok (.ireturn, 1) := by decide +kernel
theorem dX1_leastOf_0 : decode cX1_leastOf 0 = .ok (.iconst 0, 1) := by decide +kernel
theorem dX1_leastOf_1 : decode cX1_leastOf 1 = .ok (.istore_n 2, 1) := by decide +kernel
theorem dX1_leastOf_2 : decode cX1_leastOf 2 = .ok (.iconst 0, 1) := by decide +kernel
theorem dX1_leastOf_3 : decode cX1_leastOf 3 = .ok (.istore_n 3, 1) := by decide +kernel
theorem dX1_leastOf_4 : decode cX1_leastOf 4 = .ok (.iload_n 3, 1) := by decide +kernel
theorem dX1_leastOf_5 : decode cX1_leastOf 5 = .ok (.aload_n 0, 1) := by decide +kernel
theorem dX1_leastOf_6 : decode cX1_leastOf 6 = .ok (.getfield 11, 3) := by decide +kernel
theorem dX1_leastOf_9 : decode cX1_leastOf 9 = .ok (.invokevirtual 71, 3) := by decide +kernel
theorem dX1_leastOf_12 : decode cX1_leastOf 12 = .ok (.if_icmp .ge 45, 3) := by decide +kernel
theorem dX1_leastOf_15 : decode cX1_leastOf 15 = .ok (.aload_n 0, 1) := by decide +kernel
theorem dX1_leastOf_16 : decode cX1_leastOf 16 = .ok (.getfield 15, 3) := by decide +kernel
theorem dX1_leastOf_19 : decode cX1_leastOf 19 = .ok (.iload_n 3, 1) := by decide +kernel
theorem dX1_leastOf_20 : decode cX1_leastOf 20 = .ok (.iaload, 1) := by decide +kernel
theorem dX1_leastOf_21 : decode cX1_leastOf 21 = .ok (.iload_n 1, 1) := by decide +kernel
theorem dX1_leastOf_22 : decode cX1_leastOf 22 = .ok (.iand, 1) := by decide +kernel
theorem dX1_leastOf_23 : decode cX1_leastOf 23 = .ok (.invokestatic 46, 3) := by decide +kernel
theorem dX1_leastOf_26 : decode cX1_leastOf 26 = .ok (.istore 4, 2) := by decide +kernel
theorem dX1_leastOf_28 : decode cX1_leastOf 28 = .ok (.iload_n 2, 1) := by decide +kernel
theorem dX1_leastOf_29 : decode cX1_leastOf 29 = .ok (.iload 4, 2) := by decide +kernel
theorem dX1_leastOf_31 : decode cX1_leastOf 31 = .ok (.iconst 3, 1) := by decide +kernel
theorem dX1_leastOf_32 : decode cX1_leastOf 32 = .ok (.if_icmp .ne 10, 3) := by decide +kernel
theorem dX1_leastOf_35 : decode cX1_leastOf 35 = .ok (.aload_n 0, 1) := by decide +kernel
theorem dX1_leastOf_36 : decode cX1_leastOf 36 = .ok (.getfield 25, 3) := by decide +kernel
theorem dX1_leastOf_39 : decode cX1_leastOf 39 = .ok (.goto 10, 3) := by decide +kernel
theorem dX1_leastOf_42 : decode cX1_leastOf 42 = .ok (.aload_n 0, 1) := by decide +kernel
theorem dX1_leastOf_43 : decode cX1_leastOf 43 = .ok (.getfield 29, 3) := by decide +kernel
theorem dX1_leastOf_46 : decode cX1_leastOf 46 = .ok (.iload 4, 2) := by decide +kernel
theorem dX1_leastOf_48 : decode cX1_leastOf 48 = .ok (.imul, 1) := by decide +kernel
theorem dX1_leastOf_49 : decode cX1_leastOf 49 = .ok (.iadd, 1) := by decide +kernel
theorem dX1_leastOf_50 : decode cX1_leastOf 50 = .ok (.istore_n 2, 1) := by decide +kernel
theorem dX1_leastOf_51 : decode cX1_leastOf 51 = .ok (.iinc 3 1, 3) := by decide +kernel
theorem dX1_leastOf_54 : decode cX1_leastOf 54 = .ok (.goto (-50), 3) := by decide +kernel
theorem dX1_leastOf_57 : decode cX1_leastOf 57 = .ok (.iload_n 2, 1) := by decide +kernel
theorem dX1_leastOf_58 : decode cX1_leastOf 58 = .ok (.ireturn, 1) := by decide +kernel
theorem dX2_init_0 : decode cX2_init 0 = .ok (.aload_n 0, 1) := by decide +kernel
theorem dX2_init_1 : decode cX2_init 1 = .ok (.invokespecial 5, 3) := by decide +kernel
theorem dX2_init_4 : decode cX2_init 4 = .ok (.aload_n 0, 1) := by decide +kernel
theorem dX2_init_5 : decode cX2_init 5 = .ok (.aload_n 1, 1) := by decide +kernel
theorem dX2_init_6 : decode cX2_init 6 = .ok (.putfield 11, 3) := by decide +kernel
theorem dX2_init_9 : decode cX2_init 9 = .ok (.aload_n 0, 1) := by decide +kernel
theorem dX2_init_10 : decode cX2_init 10 = .ok (.bipush 36, 2) := by decide +kernel
theorem dX2_init_12 : decode cX2_init 12 = .ok (.newarray .int, 2) := by decide +kernel
theorem dX2_init_14 : decode cX2_init 14 = .ok (.putfield 15, 3) := by decide +kernel
theorem dX2_init_17 : decode cX2_init 17 = .ok (.aload_n 0, 1) := by decide +kernel
theorem dX2_init_18 : decode cX2_init 18 = .ok (.bipush 36, 2) := by decide +kernel
theorem dX2_init_20 : decode cX2_init 20 = .ok (.newarray .int, 2) := by decide +kernel
theorem dX2_init_22 : decode cX2_init 22 = .ok (.putfield 19, 3) := by decide +kernel
theorem dX2_init_25 : decode cX2_init 25 = .ok (.aload_n 0, 1) := by decide +kernel
theorem dX2_init_26 : decode cX2_init 26 = .ok (.bipush 10, 2) := by decide +kernel
theorem dX2_init_28 : decode cX2_init 28 = .ok (.newarray .int, 2) := by decide +kernel
theorem dX2_init_30 : decode cX2_init 30 = .ok (.putfield 22, 3) := by decide +kernel
theorem dX2_init_33 : decode cX2_init 33 = .ok (.aload_n 0, 1) := by decide +kernel
theorem dX2_init_34 : decode cX2_init 34 = .ok (.bipush 22, 2) := by decide +kernel
theorem dX2_init_36 : decode cX2_init 36 = .ok (.newarray .int, 2) := by decide +kernel
theorem dX2_init_38 : decode cX2_init 38 = .ok (.putfield 25, 3) := by decide +kernel
theorem dX2_init_41 : decode cX2_init 41 = .ok (.aload_n 0, 1) := by decide +kernel
theorem dX2_init_42 : decode cX2_init 42 = .ok (.bipush 22, 2) := by decide +kernel
theorem dX2_init_44 : decode cX2_init 44 = .ok (.newarray .int, 2) := by decide +kernel
theorem dX2_init_46 : decode cX2_init 46 = .ok (.putfield 28, 3) := by decide +kernel
theorem dX2_init_49 : decode cX2_init 49 = .ok (.return_, 1) := by decide +kernel
theorem dX2_forgetRow_0 : decode cX2_forgetRow 0 = .ok (.aload_n 0, 1) := by decide +kernel
theorem dX2_forgetRow_1 : decode cX2_forgetRow 1 = .ok (.iconst 0, 1) := by decide +kernel
theorem dX2_forgetRow_2 : decode cX2_forgetRow 2 = .ok (.putfield 31, 3) := by decide +kernel
theorem dX2_forgetRow_5 : decode cX2_forgetRow 5 = .ok (.return_, 1) := by decide +kernel
theorem dX2_given_0 : decode cX2_given 0 = .ok (.aload_n 0, 1) := by decide +kernel
theorem dX2_given_1 : decode cX2_given 1 = .ok (.getfield 15, 3) := by decide +kernel
theorem dX2_given_4 : decode cX2_given 4 = .ok (.iload_n 1, 1) := by decide +kernel
theorem dX2_given_5 : decode cX2_given 5 = .ok (.iaload, 1) := by decide +kernel
theorem dX2_given_6 : decode cX2_given 6 = .ok (.ireturn, 1) := by decide +kernel
theorem dX2_givenAt_0 : decode cX2_givenAt 0 = .ok (.iconst 0, 1) := by decide +kernel
theorem dX2_givenAt_1 : decode cX2_givenAt 1 = .ok (.istore_n 2, 1) := by decide +kernel
theorem dX2_givenAt_2 : decode cX2_givenAt 2 = .ok (.iconst 0, 1) := by decide +kernel
theorem dX2_givenAt_3 : decode cX2_givenAt 3 = .ok (.istore_n 3, 1) := by decide +kernel
theorem dX2_givenAt_4 : decode cX2_givenAt 4 = .ok (.iload_n 3, 1) := by decide +kernel
theorem dX2_givenAt_5 : decode cX2_givenAt 5 = .ok (.aload_n 0, 1) := by decide +kernel
theorem dX2_givenAt_6 : decode cX2_givenAt 6 = .ok (.getfield 35, 3) := by decide +kernel
theorem dX2_givenAt_9 : decode cX2_givenAt 9 = .ok (.if_icmp .ge 30, 3) := by decide +kernel
theorem dX2_givenAt_12 : decode cX2_givenAt 12 = .ok (.aload_n 0, 1) := by decide +kernel
theorem dX2_givenAt_13 : decode cX2_givenAt 13 = .ok (.getfield 11, 3) := by decide +kernel
theorem dX2_givenAt_16 : decode cX2_givenAt 16 = .ok (.iload_n 3, 1) := by decide +kernel
theorem dX2_givenAt_17 : decode cX2_givenAt 17 = .ok (.invokevirtual 39, 3) := by decide +kernel
theorem dX2_givenAt_20 : decode cX2_givenAt 20 = .ok (.iload_n 1, 1) := by decide +kernel
theorem dX2_givenAt_21 : decode cX2_givenAt 21 = .ok (.if_icmp .ne 12, 3) := by decide +kernel
theorem dX2_givenAt_24 : decode cX2_givenAt 24 = .ok (.iload_n 2, 1) := by decide +kernel
theorem dX2_givenAt_25 : decode cX2_givenAt 25 = .ok (.aload_n 0, 1) := by decide +kernel
theorem dX2_givenAt_26 : decode cX2_givenAt 26 = .ok (.getfield 15, 3) := by decide +kernel
theorem dX2_givenAt_29 : decode cX2_givenAt 29 = .ok (.iload_n 3, 1) := by decide +kernel
theorem dX2_givenAt_30 : decode cX2_givenAt 30 = .ok (.iaload, 1) := by decide +kernel
theorem dX2_givenAt_31 : decode cX2_givenAt 31 = .ok (.iadd, 1) := by decide +kernel
theorem dX2_givenAt_32 : decode cX2_givenAt 32 = .ok (.istore_n 2, 1) := by decide +kernel
theorem dX2_givenAt_33 : decode cX2_givenAt 33 = .ok (.iinc 3 1, 3) := by decide +kernel
theorem dX2_givenAt_36 : decode cX2_givenAt 36 = .ok (.goto (-32), 3) := by decide +kernel
theorem dX2_givenAt_39 : decode cX2_givenAt 39 = .ok (.iload_n 2, 1) := by decide +kernel
theorem dX2_givenAt_40 : decode cX2_givenAt 40 = .ok (.ireturn, 1) := by decide +kernel
theorem dX2_findRow_0 : decode cX2_findRow 0 = .ok (.aload_n 0, 1) := by decide +kernel
theorem dX2_findRow_1 : decode cX2_findRow 1 = .ok (.getfield 31, 3) := by decide +kernel
theorem dX2_findRow_4 : decode cX2_findRow 4 = .ok (.ifCond .ne 46, 3) := by decide +kernel
theorem dX2_findRow_7 : decode cX2_findRow 7 = .ok (.aload_n 0, 1) := by decide +kernel
theorem dX2_findRow_8 : decode cX2_findRow 8 = .ok (.aload_n 0, 1) := by decide +kernel
theorem dX2_findRow_9 : decode cX2_findRow 9 = .ok (.iload_n 1, 1) := by decide +kernel
theorem dX2_findRow_10 : decode cX2_findRow 10 = .ok (.iload_n 2, 1) := by decide +kernel
theorem dX2_findRow_11 : decode cX2_findRow 11 = .ok (.invokevirtual 45, 3) := by decide +kernel
theorem dX2_findRow_14 : decode cX2_findRow 14 = .ok (.putfield 49, 3) := by decide +kernel
theorem dX2_findRow_17 : decode cX2_findRow 17 = .ok (.iconst 0, 1) := by decide +kernel
theorem dX2_findRow_18 : decode cX2_findRow 18 = .ok (.istore_n 3, 1) := by decide +kernel
theorem dX2_findRow_19 : decode cX2_findRow 19 = .ok (.iload_n 3, 1) := by decide +kernel
theorem dX2_findRow_20 : decode cX2_findRow 20 = .ok (.aload_n 0, 1) := by decide +kernel
theorem dX2_findRow_21 : decode cX2_findRow 21 = .ok (.getfield 35, 3) := by decide +kernel
theorem dX2_findRow_24 : decode cX2_findRow 24 = .ok (.if_icmp .ge 21, 3) := by decide +kernel
theorem dX2_findRow_27 : decode cX2_findRow 27 = .ok (.aload_n 0, 1) := by decide +kernel
theorem dX2_findRow_28 : decode cX2_findRow 28 = .ok (.getfield 49, 3) := by decide +kernel
theorem dX2_findRow_31 : decode cX2_findRow 31 = .ok (.ifCond .eq 14, 3) := by decide +kernel
theorem dX2_findRow_34 : decode cX2_findRow 34 = .ok (.aload_n 0, 1) := by decide +kernel
theorem dX2_findRow_35 : decode cX2_findRow 35 = .ok (.iload_n 3, 1) := by decide +kernel
theorem dX2_findRow_36 : decode cX2_findRow 36 = .ok (.invokevirtual 52, 3) := by decide +kernel
theorem dX2_findRow_39 : decode cX2_findRow 39 = .ok (.iinc 3 1, 3) := by decide +kernel
theorem dX2_findRow_42 : decode cX2_findRow 42 = .ok (.goto (-23), 3) := by decide +kernel
theorem dX2_findRow_45 : decode cX2_findRow 45 = .ok (.aload_n 0, 1) := by decide +kernel
theorem dX2_findRow_46 : decode cX2_findRow 46 = .ok (.iconst 1, 1) := by decide +kernel
theorem dX2_findRow_47 : decode cX2_findRow 47 = .ok (.putfield 31, 3) := by decide +kernel
theorem dX2_findRow_50 : decode cX2_findRow 50 = .ok (.aload_n 0, 1) := by decide +kernel
theorem dX2_findRow_51 : decode cX2_findRow 51 = .ok (.getfield 49, 3) := by decide +kernel
theorem dX2_findRow_54 : decode cX2_findRow 54 = .ok (.ireturn, 1) := by decide +kernel
theorem dX2_findAny_0 : decode cX2_findAny 0 = .ok (.aload_n 0, 1) := by decide +kernel
theorem dX2_findAny_1 : decode cX2_findAny 1 = .ok (.iconst 0, 1) := by decide +kernel
theorem dX2_findAny_2 : decode cX2_findAny 2 = .ok (.putfield 31, 3) := by decide +kernel
theorem dX2_findAny_5 : decode cX2_findAny 5 = .ok (.aload_n 0, 1) := by decide +kernel
theorem dX2_findAny_6 : decode cX2_findAny 6 = .ok (.iload_n 1, 1) := by decide +kernel
theorem dX2_findAny_7 : decode cX2_findAny 7 = .ok (.iload_n 2, 1) := by decide +kernel
theorem dX2_findAny_8 : decode cX2_findAny 8 = .ok (.invokevirtual 56, 3) := by decide +kernel
theorem dX2_findAny_11 : decode cX2_findAny 11 = .ok (.aload_n 0, 1) := by decide +kernel
theorem dX2_findAny_12 : decode cX2_findAny 12 = .ok (.iload_n 1, 1) := by decide +kernel
theorem dX2_findAny_13 : decode cX2_findAny 13 = .ok (.invokevirtual 60, 3) := by decide +kernel
theorem dX2_findAny_16 : decode cX2_findAny 16 = .ok (.iconst 0, 1) := by decide +kernel
theorem dX2_findAny_17 : decode cX2_findAny 17 = .ok (.istore_n 3, 1) := by decide +kernel
theorem dX2_findAny_18 : decode cX2_findAny 18 = .ok (.iload_n 3, 1) := by decide +kernel
theorem dX2_findAny_19 : decode cX2_findAny 19 = .ok (.bipush 10, 2) := by decide +kernel
theorem dX2_findAny_21 : decode cX2_findAny 21 = .ok (.if_icmp .ge 52, 3) := by decide +kernel
theorem dX2_findAny_24 : decode cX2_findAny 24 = .ok (.iconst 0, 1) := by decide +kernel
theorem dX2_findAny_25 : decode cX2_findAny 25 = .ok (.istore 4, 2) := by decide +kernel
theorem dX2_findAny_27 : decode cX2_findAny 27 = .ok (.iload 4, 2) := by decide +kernel
theorem dX2_findAny_29 : decode cX2_findAny 29 = .ok (.bipush 10, 2) := by decide +kernel
theorem dX2_findAny_31 : decode cX2_findAny 31 = .ok (.if_icmp .ge 25, 3) := by decide +kernel
theorem dX2_findAny_34 : decode cX2_findAny 34 = .ok (.aload_n 0, 1) := by decide +kernel
theorem dX2_findAny_35 : decode cX2_findAny 35 = .ok (.getfield 22, 3) := by decide +kernel
theorem dX2_findAny_38 : decode cX2_findAny 38 = .ok (.iload_n 3, 1) := by decide +kernel
theorem dX2_findAny_39 : decode cX2_findAny 39 = .ok (.iaload, 1) := by decide +kernel
theorem dX2_findAny_40 : decode cX2_findAny 40 = .ok (.ifCond .le 16, 3) := by decide +kernel
theorem dX2_findAny_43 : decode cX2_findAny 43 = .ok (.aload_n 0, 1) := by decide +kernel
theorem dX2_findAny_44 : decode cX2_findAny 44 = .ok (.iload_n 3, 1) := by decide +kernel
theorem dX2_findAny_45 : decode cX2_findAny 45 = .ok (.iload 4, 2) := by decide +kernel
theorem dX2_findAny_47 : decode cX2_findAny 47 = .ok (.invokevirtual 63, 3) := by decide +kernel
theorem dX2_findAny_50 : decode cX2_findAny 50 = .ok (.iinc 4 1, 3) := by decide +kernel
theorem dX2_findAny_53 : decode cX2_findAny 53 = .ok (.goto (-26), 3) := by decide +kernel
theorem dX2_findAny_56 : decode cX2_findAny 56 = .ok (.aload_n 0, 1) := by decide +kernel
theorem dX2_findAny_57 : decode cX2_findAny 57 = .ok (.getfield 22, 3) := by decide +kernel
theorem dX2_findAny_60 : decode cX2_findAny 60 = .ok (.iload_n 3, 1) := by decide +kernel
theorem dX2_findAny_61 : decode cX2_findAny 61 = .ok (.iaload, 1) := by decide +kernel
theorem dX2_findAny_62 : decode cX2_findAny 62 = .ok (.ifCond .le 5, 3) := by decide +kernel
theorem dX2_findAny_65 : decode cX2_findAny 65 = .ok (.iconst 0, 1) := by decide +kernel
theorem dX2_findAny_66 : decode cX2_findAny 66 = .ok (.ireturn, 1) := by decide +kernel
theorem dX2_findAny_67 : decode cX2_findAny 67 = .ok (.iinc 3 1, 3) := by decide +kernel
theorem dX2_findAny_70 : decode cX2_findAny 70 = .ok (.goto (-52), 3) := by decide +kernel
theorem dX2_findAny_73 : decode cX2_findAny 73 = .ok (.iconst 1, 1) := by decide +kernel
theorem dX2_findAny_74 : decode cX2_findAny 74 = .ok (.ireturn, 1) := by decide +kernel
theorem dX2_begin_0 : decode cX2_begin 0 = .ok (.aload_n 0, 1) := by decide +kernel
theorem dX2_begin_1 : decode cX2_begin 1 = .ok (.aload_n 0, 1) := by decide +kernel
theorem dX2_begin_2 : decode cX2_begin 2 = .ok (.getfield 11, 3) := by decide +kernel
theorem dX2_begin_5 : decode cX2_begin 5 = .ok (.invokevirtual 66, 3) := by decide +kernel
theorem dX2_begin_8 : decode cX2_begin 8 = .ok (.putfield 35, 3) := by decide +kernel
theorem dX2_begin_11 : decode cX2_begin 11 = .ok (.aload_n 0, 1) := by decide +kernel
theorem dX2_begin_12 : decode cX2_begin 12 = .ok (.iload_n 2, 1) := by decide +kernel
theorem dX2_begin_13 : decode cX2_begin 13 = .ok (.putfield 70, 3) := by decide +kernel
theorem dX2_begin_16 : decode cX2_begin 16 = .ok (.aload_n 0, 1) := by decide +kernel
theorem dX2_begin_17 : decode cX2_begin 17 = .ok (.iconst 0, 1) := by decide +kernel
theorem dX2_begin_18 : decode cX2_begin 18 = .ok (.putfield 73, 3) := by decide +kernel
theorem dX2_begin_21 : decode cX2_begin 21 = .ok (.iconst 0, 1) := by decide +kernel
theorem dX2_begin_22 : decode cX2_begin 22 = .ok (.istore_n 3, 1) := by decide +kernel
theorem dX2_begin_23 : decode cX2_begin 23 = .ok (.iload_n 3, 1) := by decide +kernel
theorem dX2_begin_24 : decode cX2_begin 24 = .ok (.aload_n 0, 1) := by decide +kernel
theorem dX2_begin_25 : decode cX2_begin 25 = .ok (.getfield 35, 3) := by decide +kernel
theorem dX2_begin_28 : decode cX2_begin 28 = .ok (.if_icmp .ge 66, 3) := by decide +kernel
theorem dX2_begin_31 : decode cX2_begin 31 = .ok (.aload_n 0, 1) := by decide +kernel
theorem dX2_begin_32 : decode cX2_begin 32 = .ok (.getfield 11, 3) := by decide +kernel
theorem dX2_begin_35 : decode cX2_begin 35 = .ok (.iload_n 3, 1) := by decide +kernel
theorem dX2_begin_36 : decode cX2_begin 36 = .ok (.invokevirtual 39, 3) := by decide +kernel
theorem dX2_begin_39 : decode cX2_begin 39 = .ok (.istore 4, 2) := by decide +kernel
theorem dX2_begin_41 : decode cX2_begin 41 = .ok (.aload_n 0, 1) := by decide +kernel
theorem dX2_begin_42 : decode cX2_begin 42 = .ok (.getfield 19, 3) := by decide +kernel
theorem dX2_begin_45 : decode cX2_begin 45 = .ok (.iload_n 3, 1) := by decide +kernel
theorem dX2_begin_46 : decode cX2_begin 46 = .ok (.aload_n 0, 1) := by decide +kernel
theorem dX2_begin_47 : decode cX2_begin 47 = .ok (.getfield 11, 3) := by decide +kernel
theorem dX2_begin_50 : decode cX2_begin 50 = .ok (.iload 4, 2) := by decide +kernel
theorem dX2_begin_52 : decode cX2_begin 52 = .ok (.invokevirtual 76, 3) := by decide +kernel
theorem dX2_begin_55 : decode cX2_begin 55 = .ok (.ifCond .eq 8, 3) := by decide +kernel
theorem dX2_begin_58 : decode cX2_begin 58 = .ok (.iload 4, 2) := by decide +kernel
theorem dX2_begin_60 : decode cX2_begin 60 = .ok (.goto 5, 3) := by decide +kernel
theorem dX2_begin_63 : decode cX2_begin 63 = .ok (.bipush 9, 2) := by decide +kernel
theorem dX2_begin_65 : decode cX2_begin 65 = .ok (.iastore, 1) := by decide +kernel
theorem dX2_begin_66 : decode cX2_begin 66 = .ok (.aload_n 0, 1) := by decide +kernel
theorem dX2_begin_67 : decode cX2_begin 67 = .ok (.getfield 15, 3) := by decide +kernel
theorem dX2_begin_70 : decode cX2_begin 70 = .ok (.iload_n 3, 1) := by decide +kernel
theorem dX2_begin_71 : decode cX2_begin 71 = .ok (.iload_n 3, 1) := by decide +kernel
theorem dX2_begin_72 : decode cX2_begin 72 = .ok (.iconst 3, 1) := by decide +kernel
theorem dX2_begin_73 : decode cX2_begin 73 = .ok (.irem, 1) := by decide +kernel
theorem dX2_begin_74 : decode cX2_begin 74 = .ok (.iconst 2, 1) := by decide +kernel
theorem dX2_begin_75 : decode cX2_begin 75 = .ok (.if_icmp .ne 11, 3) := by decide +kernel
theorem dX2_begin_78 : decode cX2_begin 78 = .ok (.iload_n 1, 1) := by decide +kernel
theorem dX2_begin_79 : decode cX2_begin 79 = .ok (.iconst 2, 1) := by decide +kernel
theorem dX2_begin_80 : decode cX2_begin 80 = .ok (.iload_n 2, 1) := by decide +kernel
theorem dX2_begin_81 : decode cX2_begin 81 = .ok (.imul, 1) := by decide +kernel
theorem dX2_begin_82 : decode cX2_begin 82 = .ok (.isub, 1) := by decide +kernel
theorem dX2_begin_83 : decode cX2_begin 83 = .ok (.goto 4, 3) := by decide +kernel
theorem dX2_begin_86 : decode cX2_begin 86 = .ok (.iload_n 2, 1) := by decide +kernel
theorem dX2_begin_87 : decode cX2_begin 87 = .ok (.iastore, 1) := by decide +kernel
theorem dX2_begin_88 : decode cX2_begin 88 = .ok (.iinc 3 1, 3) := by decide +kernel
theorem dX2_begin_91 : decode cX2_begin 91 = .ok (.goto (-68), 3) := by decide +kernel
theorem dX2_begin_94 : decode cX2_begin 94 = .ok (.return_, 1) := by decide +kernel
theorem dX2_weigh_0 : decode cX2_weigh 0 = .ok (.aload_n 0, 1) := by decide +kernel
theorem dX2_weigh_1 : decode cX2_weigh 1 = .ok (.getfield 22, 3) := by decide +kernel
theorem dX2_weigh_4 : decode cX2_weigh 4 = .ok (.iconst 0, 1) := by decide +kernel
theorem dX2_weigh_5 : decode cX2_weigh 5 = .ok (.invokestatic 80, 3) := by decide +kernel
theorem dX2_weigh_8 : decode cX2_weigh 8 = .ok (.iconst 0, 1) := by decide +kernel
theorem dX2_weigh_9 : decode cX2_weigh 9 = .ok (.istore_n 2, 1) := by decide +kernel
theorem dX2_weigh_10 : decode cX2_weigh 10 = .ok (.iload_n 2, 1) := by decide +kernel
theorem dX2_weigh_11 : decode cX2_weigh 11 = .ok (.aload_n 0, 1) := by decide +kernel
theorem dX2_weigh_12 : decode cX2_weigh 12 = .ok (.getfield 11, 3) := by decide +kernel
theorem dX2_weigh_15 : decode cX2_weigh 15 = .ok (.invokevirtual 86, 3) := by decide +kernel
theorem dX2_weigh_18 : decode cX2_weigh 18 = .ok (.if_icmp .ge 39, 3) := by decide +kernel
theorem dX2_weigh_21 : decode cX2_weigh 21 = .ok (.aload_n 0, 1) := by decide +kernel
theorem dX2_weigh_22 : decode cX2_weigh 22 = .ok (.getfield 22, 3) := by decide +kernel
theorem dX2_weigh_25 : decode cX2_weigh 25 = .ok (.iload_n 2, 1) := by decide +kernel
theorem dX2_weigh_26 : decode cX2_weigh 26 = .ok (.aload_n 0, 1) := by decide +kernel
theorem dX2_weigh_27 : decode cX2_weigh 27 = .ok (.getfield 11, 3) := by decide +kernel
theorem dX2_weigh_30 : decode cX2_weigh 30 = .ok (.iload_n 2, 1) := by decide +kernel
theorem dX2_weigh_31 : decode cX2_weigh 31 = .ok (.invokevirtual 76, 3) := by decide +kernel
theorem dX2_weigh_34 : decode cX2_weigh 34 = .ok (.ifCond .eq 15, 3) := by decide +kernel
theorem dX2_weigh_37 : decode cX2_weigh 37 = .ok (.aload_n 0, 1) := by decide +kernel
theorem dX2_weigh_38 : decode cX2_weigh 38 = .ok (.getfield 11, 3) := by decide +kernel
theorem dX2_weigh_41 : decode cX2_weigh 41 = .ok (.iload_n 2, 1) := by decide +kernel
theorem dX2_weigh_42 : decode cX2_weigh 42 = .ok (.invokevirtual 89, 3) := by decide +kernel
theorem dX2_weigh_45 : decode cX2_weigh 45 = .ok (.ineg, 1) := by decide +kernel
theorem dX2_weigh_46 : decode cX2_weigh 46 = .ok (.goto 4, 3) := by decide +kernel
theorem dX2_weigh_49 : decode cX2_weigh 49 = .ok (.iconst 0, 1) := by decide +kernel
theorem dX2_weigh_50 : decode cX2_weigh 50 = .ok (.iastore, 1) := by decide +kernel
theorem dX2_weigh_51 : decode cX2_weigh 51 = .ok (.iinc 2 1, 3) := by decide +kernel
theorem dX2_weigh_54 : decode cX2_weigh 54 = .ok (.goto (-44), 3) := by decide +kernel
theorem dX2_weigh_57 : decode cX2_weigh 57 = .ok (.aload_n 0, 1) := by decide +kernel
theorem dX2_weigh_58 : decode cX2_weigh 58 = .ok (.getfield 22, 3) := by decide +kernel
theorem dX2_weigh_61 : decode cX2_weigh 61 = .ok (.bipush 9, 2) := by decide +kernel
theorem dX2_weigh_63 : decode cX2_weigh 63 = .ok (.aload_n 0, 1) := by decide +kernel
theorem dX2_weigh_64 : decode cX2_weigh 64 = .ok (.getfield 11, 3) := by decide +kernel
theorem dX2_weigh_67 : decode cX2_weigh 67 = .ok (.invokevirtual 92, 3) := by decide +kernel
theorem dX2_weigh_70 : decode cX2_weigh 70 = .ok (.iload_n 1, 1) := by decide +kernel
theorem dX2_weigh_71 : decode cX2_weigh 71 = .ok (.aload_n 0, 1) := by decide +kernel
theorem dX2_weigh_72 : decode cX2_weigh 72 = .ok (.getfield 11, 3) := by decide +kernel
theorem dX2_weigh_75 : decode cX2_weigh 75 = .ok (.invokevirtual 95, 3) := by decide +kernel
theorem dX2_weigh_78 : decode cX2_weigh 78 = .ok (.imul, 1) := by decide +kernel
theorem dX2_weigh_79 : decode cX2_weigh 79 = .ok (.isub, 1) := by decide +kernel
theorem dX2_weigh_80 : decode cX2_weigh 80 = .ok (.iastore, 1) := by decide +kernel
theorem dX2_weigh_81 : decode cX2_weigh 81 = .ok (.iconst 0, 1) := by decide +kernel
theorem dX2_weigh_82 : decode cX2_weigh 82 = .ok (.istore_n 2, 1) := by decide +kernel
theorem dX2_weigh_83 : decode cX2_weigh 83 = .ok (.iload_n 2, 1) := by decide +kernel
theorem dX2_weigh_84 : decode cX2_weigh 84 = .ok (.aload_n 0, 1) := by decide +kernel
theorem dX2_weigh_85 : decode cX2_weigh 85 = .ok (.getfield 35, 3) := by decide +kernel
theorem dX2_weigh_88 : decode cX2_weigh 88 = .ok (.if_icmp .ge 29, 3) := by decide +kernel
theorem dX2_weigh_91 : decode cX2_weigh 91 = .ok (.aload_n 0, 1) := by decide +kernel
theorem dX2_weigh_92 : decode cX2_weigh 92 = .ok (.getfield 22, 3) := by decide +kernel
theorem dX2_weigh_95 : decode cX2_weigh 95 = .ok (.aload_n 0, 1) := by decide +kernel
theorem dX2_weigh_96 : decode cX2_weigh 96 = .ok (.getfield 19, 3) := by decide +kernel
theorem dX2_weigh_99 : decode cX2_weigh 99 = .ok (.iload_n 2, 1) := by decide +kernel
theorem dX2_weigh_100 : decode cX2_weigh 100 = .ok (.iaload, 1) := by decide +kernel
theorem dX2_weigh_101 : decode cX2_weigh 101 = .ok (.dup2, 1) := by decide +kernel
theorem dX2_weigh_102 : decode cX2_weigh 102 = .ok (.iaload, 1) := by decide +kernel
theorem dX2_weigh_103 : decode cX2_weigh 103 = .ok (.aload_n 0, 1) := by decide +kernel
theorem dX2_weigh_104 : decode cX2_weigh 104 = .ok (.getfield 15, 3) := by decide +kernel
theorem dX2_weigh_107 : decode cX2_weigh 107 = .ok (.iload_n 2, 1) := by decide +kernel
theorem dX2_weigh_108 : decode cX2_weigh 108 = .ok (.iaload, 1) := by decide +kernel
theorem dX2_weigh_109 : decode cX2_weigh 109 = .ok (.iadd, 1) := by decide +kernel
theorem dX2_weigh_110 : decode cX2_weigh 110 = .ok (.iastore, 1) := by decide +kernel
theorem dX2_weigh_111 : decode cX2_weigh 111 = .ok (.iinc 2 1, 3) := by decide +kernel
theorem dX2_weigh_114 : decode cX2_weigh 114 = .ok (.goto (-31), 3) := by decide +kernel
theorem dX2_weigh_117 : decode cX2_weigh 117 = .ok (.return_, 1) := by decide +kernel
theorem dX2_level_0 : decode cX2_level 0 = .ok (.iconst 0, 1) := by decide +kernel
theorem dX2_level_1 : decode cX2_level 1 = .ok (.istore_n 3, 1) := by decide +kernel
theorem dX2_level_2 : decode cX2_level 2 = .ok (.iload_n 3, 1) := by decide +kernel
theorem dX2_level_3 : decode cX2_level 3 = .ok (.ldc 98, 2) := by decide +kernel
theorem dX2_level_5 : decode cX2_level 5 = .ok (.if_icmp .ge 79, 3) := by decide +kernel
theorem dX2_level_8 : decode cX2_level 8 = .ok (.aload_n 0, 1) := by decide +kernel
theorem dX2_level_9 : decode cX2_level 9 = .ok (.getfield 22, 3) := by decide +kernel
theorem dX2_level_12 : decode cX2_level 12 = .ok (.iload_n 1, 1) := by decide +kernel
theorem dX2_level_13 : decode cX2_level 13 = .ok (.iaload, 1) := by decide +kernel
theorem dX2_level_14 : decode cX2_level 14 = .ok (.ifCond .le 70, 3) := by decide +kernel
theorem dX2_level_17 : decode cX2_level 17 = .ok (.aload_n 0, 1) := by decide +kernel
theorem dX2_level_18 : decode cX2_level 18 = .ok (.getfield 22, 3) := by decide +kernel
theorem dX2_level_21 : decode cX2_level 21 = .ok (.iload_n 2, 1) := by decide +kernel
theorem dX2_level_22 : decode cX2_level 22 = .ok (.iaload, 1) := by decide +kernel
theorem dX2_level_23 : decode cX2_level 23 = .ok (.ifCond .ge 61, 3) := by decide +kernel
theorem dX2_level_26 : decode cX2_level 26 = .ok (.aload_n 0, 1) := by decide +kernel
theorem dX2_level_27 : decode cX2_level 27 = .ok (.iload_n 1, 1) := by decide +kernel
theorem dX2_level_28 : decode cX2_level 28 = .ok (.iload_n 2, 1) := by decide +kernel
theorem dX2_level_29 : decode cX2_level 29 = .ok (.aload_n 0, 1) := by decide +kernel
theorem dX2_level_30 : decode cX2_level 30 = .ok (.getfield 22, 3) := by decide +kernel
theorem dX2_level_33 : decode cX2_level 33 = .ok (.iload_n 1, 1) := by decide +kernel
theorem dX2_level_34 : decode cX2_level 34 = .ok (.iaload, 1) := by decide +kernel
theorem dX2_level_35 : decode cX2_level 35 = .ok (.aload_n 0, 1) := by decide +kernel
theorem dX2_level_36 : decode cX2_level 36 = .ok (.getfield 22, 3) := by decide +kernel
theorem dX2_level_39 : decode cX2_level 39 = .ok (.iload_n 2, 1) := by decide +kernel
theorem dX2_level_40 : decode cX2_level 40 = .ok (.iaload, 1) := by decide +kernel
theorem dX2_level_41 : decode cX2_level 41 = .ok (.ineg, 1) := by decide +kernel
theorem dX2_level_42 : decode cX2_level 42 = .ok (.invokestatic 99, 3) := by decide +kernel
theorem dX2_level_45 : decode cX2_level 45 = .ok (.invokevirtual 105, 3) := by decide +kernel
theorem dX2_level_48 : decode cX2_level 48 = .ok (.istore 4, 2) := by decide +kernel
theorem dX2_level_50 : decode cX2_level 50 = .ok (.iload 4, 2) := by decide +kernel
theorem dX2_level_52 : decode cX2_level 52 = .ok (.ifCond .ne 4, 3) := by decide +kernel
theorem dX2_level_55 : decode cX2_level 55 = .ok (.return_, 1) := by decide +kernel
theorem dX2_level_56 : decode cX2_level 56 = .ok (.aload_n 0, 1) := by decide +kernel
theorem dX2_level_57 : decode cX2_level 57 = .ok (.getfield 22, 3) := by decide +kernel
theorem dX2_level_60 : decode cX2_level 60 = .ok (.iload_n 1, 1) := by decide +kernel
theorem dX2_level_61 : decode cX2_level 61 = .ok (.dup2, 1) := by decide +kernel
theorem dX2_level_62 : decode cX2_level 62 = .ok (.iaload, 1) := by decide +kernel
theorem dX2_level_63 : decode cX2_level 63 = .ok (.iload 4, 2) := by decide +kernel
theorem dX2_level_65 : decode cX2_level 65 = .ok (.isub, 1) := by decide +kernel
theorem dX2_level_66 : decode cX2_level 66 = .ok (.iastore, 1) := by decide +kernel
theorem dX2_level_67 : decode cX2_level 67 = .ok (.aload_n 0, 1) := by decide +kernel
theorem dX2_level_68 : decode cX2_level 68 = .ok (.getfield 22, 3) := by decide +kernel
theorem dX2_level_71 : decode cX2_level 71 = .ok (.iload_n 2, 1) := by decide +kernel
theorem dX2_level_72 : decode cX2_level 72 = .ok (.dup2, 1) := by decide +kernel
theorem dX2_level_73 : decode cX2_level 73 = .ok (.iaload, 1) := by decide +kernel
theorem dX2_level_74 : decode cX2_level 74 = .ok (.iload 4, 2) := by decide +kernel
theorem dX2_level_76 : decode cX2_level 76 = .ok (.iadd, 1) := by decide +kernel
theorem dX2_level_77 : decode cX2_level 77 = .ok (.iastore, 1) := by decide +kernel
theorem dX2_level_78 : decode cX2_level 78 = .ok (.iinc 3 1, 3) := by decide +kernel
theorem dX2_level_81 : decode cX2_level 81 = .ok (.goto (-79), 3) := by decide +kernel
theorem dX2_level_84 : decode cX2_level 84 = .ok (.return_, 1) := by decide +kernel
theorem dX2_sink_0 : decode cX2_sink 0 = .ok (.aload_n 0, 1) := by decide +kernel
theorem dX2_sink_1 : decode cX2_sink 1 = .ok (.iload_n 1, 1) := by decide +kernel
theorem dX2_sink_2 : decode cX2_sink 2 = .ok (.iconst 1, 1) := by decide +kernel
theorem dX2_sink_3 : decode cX2_sink 3 = .ok (.iadd, 1) := by decide +kernel
theorem dX2_sink_4 : decode cX2_sink 4 = .ok (.putfield 73, 3) := by decide +kernel
theorem dX2_sink_7 : decode cX2_sink 7 = .ok (.iconst 0, 1) := by decide +kernel
theorem dX2_sink_8 : decode cX2_sink 8 = .ok (.istore_n 2, 1) := by decide +kernel
theorem dX2_sink_9 : decode cX2_sink 9 = .ok (.iload_n 2, 1) := by decide +kernel
theorem dX2_sink_10 : decode cX2_sink 10 = .ok (.ldc 98, 2) := by decide +kernel
theorem dX2_sink_12 : decode cX2_sink 12 = .ok (.if_icmp .ge 65, 3) := by decide +kernel
theorem dX2_sink_15 : decode cX2_sink 15 = .ok (.aload_n 0, 1) := by decide +kernel
theorem dX2_sink_16 : decode cX2_sink 16 = .ok (.getfield 15, 3) := by decide +kernel
theorem dX2_sink_19 : decode cX2_sink 19 = .ok (.iload_n 1, 1) := by decide +kernel
theorem dX2_sink_20 : decode cX2_sink 20 = .ok (.iaload, 1) := by decide +kernel
theorem dX2_sink_21 : decode cX2_sink 21 = .ok (.aload_n 0, 1) := by decide +kernel
theorem dX2_sink_22 : decode cX2_sink 22 = .ok (.getfield 70, 3) := by decide +kernel
theorem dX2_sink_25 : decode cX2_sink 25 = .ok (.if_icmp .le 52, 3) := by decide +kernel
theorem dX2_sink_28 : decode cX2_sink 28 = .ok (.aload_n 0, 1) := by decide +kernel
theorem dX2_sink_29 : decode cX2_sink 29 = .ok (.bipush 10, 2) := by decide +kernel
theorem dX2_sink_31 : decode cX2_sink 31 = .ok (.iload_n 1, 1) := by decide +kernel
theorem dX2_sink_32 : decode cX2_sink 32 = .ok (.iconst 3, 1) := by decide +kernel
theorem dX2_sink_33 : decode cX2_sink 33 = .ok (.idiv, 1) := by decide +kernel
theorem dX2_sink_34 : decode cX2_sink 34 = .ok (.iadd, 1) := by decide +kernel
theorem dX2_sink_35 : decode cX2_sink 35 = .ok (.aload_n 0, 1) := by decide +kernel
theorem dX2_sink_36 : decode cX2_sink 36 = .ok (.getfield 19, 3) := by decide +kernel
theorem dX2_sink_39 : decode cX2_sink 39 = .ok (.iload_n 1, 1) := by decide +kernel
theorem dX2_sink_40 : decode cX2_sink 40 = .ok (.iaload, 1) := by decide +kernel
theorem dX2_sink_41 : decode cX2_sink 41 = .ok (.aload_n 0, 1) := by decide +kernel
theorem dX2_sink_42 : decode cX2_sink 42 = .ok (.getfield 15, 3) := by decide +kernel
theorem dX2_sink_45 : decode cX2_sink 45 = .ok (.iload_n 1, 1) := by decide +kernel
theorem dX2_sink_46 : decode cX2_sink 46 = .ok (.iaload, 1) := by decide +kernel
theorem dX2_sink_47 : decode cX2_sink 47 = .ok (.aload_n 0, 1) := by decide +kernel
theorem dX2_sink_48 : decode cX2_sink 48 = .ok (.getfield 70, 3) := by decide +kernel
theorem dX2_sink_51 : decode cX2_sink 51 = .ok (.isub, 1) := by decide +kernel
theorem dX2_sink_52 : decode cX2_sink 52 = .ok (.invokevirtual 105, 3) := by decide +kernel
theorem dX2_sink_55 : decode cX2_sink 55 = .ok (.istore_n 3, 1) := by decide +kernel
theorem dX2_sink_56 : decode cX2_sink 56 = .ok (.iload_n 3, 1) := by decide +kernel
theorem dX2_sink_57 : decode cX2_sink 57 = .ok (.ifCond .ne 4, 3) := by decide +kernel
theorem dX2_sink_60 : decode cX2_sink 60 = .ok (.return_, 1) := by decide +kernel
theorem dX2_sink_61 : decode cX2_sink 61 = .ok (.aload_n 0, 1) := by decide +kernel
theorem dX2_sink_62 : decode cX2_sink 62 = .ok (.getfield 15, 3) := by decide +kernel
theorem dX2_sink_65 : decode cX2_sink 65 = .ok (.iload_n 1, 1) := by decide +kernel
theorem dX2_sink_66 : decode cX2_sink 66 = .ok (.dup2, 1) := by decide +kernel
theorem dX2_sink_67 : decode cX2_sink 67 = .ok (.iaload, 1) := by decide +kernel
