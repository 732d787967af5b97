theorem dX0_init_0 : decode cX0_init 0 = .ok (.aload_n 0, 1) := by decide +kernel
theorem dX0_init_1 : decode cX0_init 1 = .ok (.invokespecial 3, 3) := by decide +kernel
theorem dX0_init_4 : decode cX0_init 4 = .ok (.aload_n 0, 1) := by decide +kernel
theorem dX0_init_5 : decode cX0_init 5 = .ok (.bipush 20, 2) := by decide +kernel
theorem dX0_init_7 : decode cX0_init 7 = .ok (.newarray .int, 2) := by decide +kernel
theorem dX0_init_9 : decode cX0_init 9 = .ok (.putfield 11, 3) := by decide +kernel
theorem dX0_init_12 : decode cX0_init 12 = .ok (.aload_n 0, 1) := by decide +kernel
theorem dX0_init_13 : decode cX0_init 13 = .ok (.iconst 0, 1) := by decide +kernel
theorem dX0_init_14 : decode cX0_init 14 = .ok (.putfield 15, 3) := by decide +kernel
theorem dX0_init_17 : decode cX0_init 17 = .ok (.aload_n 0, 1) := by decide +kernel
theorem dX0_init_18 : decode cX0_init 18 = .ok (.iconst 0, 1) := by decide +kernel
theorem dX0_init_19 : decode cX0_init 19 = .ok (.putfield 19, 3) := by decide +kernel
theorem dX0_init_22 : decode cX0_init 22 = .ok (.return_, 1) := by decide +kernel
theorem dX0_clear_0 : decode cX0_clear 0 = .ok (.aload_n 0, 1) := by decide +kernel
theorem dX0_clear_1 : decode cX0_clear 1 = .ok (.iconst 0, 1) := by decide +kernel
theorem dX0_clear_2 : decode cX0_clear 2 = .ok (.putfield 15, 3) := by decide +kernel
theorem dX0_clear_5 : decode cX0_clear 5 = .ok (.return_, 1) := by decide +kernel
theorem dX0_append_0 : decode cX0_append 0 = .ok (.aload_n 0, 1) := by decide +kernel
theorem dX0_append_1 : decode cX0_append 1 = .ok (.getfield 15, 3) := by decide +kernel
theorem dX0_append_4 : decode cX0_append 4 = .ok (.ifCond .lt 12, 3) := by decide +kernel
theorem dX0_append_7 : decode cX0_append 7 = .ok (.aload_n 0, 1) := by decide +kernel
theorem dX0_append_8 : decode cX0_append 8 = .ok (.getfield 15, 3) := by decide +kernel
theorem dX0_append_11 : decode cX0_append 11 = .ok (.bipush 20, 2) := by decide +kernel
theorem dX0_append_13 : decode cX0_append 13 = .ok (.if_icmp .lt 5, 3) := by decide +kernel
theorem dX0_append_16 : decode cX0_append 16 = .ok (.iconst 0, 1) := by decide +kernel
theorem dX0_append_17 : decode cX0_append 17 = .ok (.ireturn, 1) := by decide +kernel
theorem dX0_append_18 : decode cX0_append 18 = .ok (.aload_n 0, 1) := by decide +kernel
theorem dX0_append_19 : decode cX0_append 19 = .ok (.getfield 11, 3) := by decide +kernel
theorem dX0_append_22 : decode cX0_append 22 = .ok (.aload_n 0, 1) := by decide +kernel
theorem dX0_append_23 : decode cX0_append 23 = .ok (.getfield 15, 3) := by decide +kernel
theorem dX0_append_26 : decode cX0_append 26 = .ok (.iload_n 1, 1) := by decide +kernel
theorem dX0_append_27 : decode cX0_append 27 = .ok (.iastore, 1) := by decide +kernel
theorem dX0_append_28 : decode cX0_append 28 = .ok (.aload_n 0, 1) := by decide +kernel
theorem dX0_append_29 : decode cX0_append 29 = .ok (.dup, 1) := by decide +kernel
theorem dX0_append_30 : decode cX0_append 30 = .ok (.getfield 15, 3) := by decide +kernel
theorem dX0_append_33 : decode cX0_append 33 = .ok (.iconst 1, 1) := by decide +kernel
theorem dX0_append_34 : decode cX0_append 34 = .ok (.iadd, 1) := by decide +kernel
theorem dX0_append_35 : decode cX0_append 35 = .ok (.putfield 15, 3) := by decide +kernel
theorem dX0_append_38 : decode cX0_append 38 = .ok (.iconst 1, 1) := by decide +kernel
theorem dX0_append_39 : decode cX0_append 39 = .ok (.ireturn, 1) := by decide +kernel
theorem dX0_firstWrong_0 : decode cX0_firstWrong 0 = .ok (.iconst 0, 1) := by decide +kernel
theorem dX0_firstWrong_1 : decode cX0_firstWrong 1 = .ok (.istore_n 1, 1) := by decide +kernel
theorem dX0_firstWrong_2 : decode cX0_firstWrong 2 = .ok (.iload_n 1, 1) := by decide +kernel
theorem dX0_firstWrong_3 : decode cX0_firstWrong 3 = .ok (.aload_n 0, 1) := by decide +kernel
theorem dX0_firstWrong_4 : decode cX0_firstWrong 4 = .ok (.getfield 15, 3) := by decide +kernel
theorem dX0_firstWrong_7 : decode cX0_firstWrong 7 = .ok (.if_icmp .ge 19, 3) := by decide +kernel
theorem dX0_firstWrong_10 : decode cX0_firstWrong 10 = .ok (.aload_n 0, 1) := by decide +kernel
theorem dX0_firstWrong_11 : decode cX0_firstWrong 11 = .ok (.iload_n 1, 1) := by decide +kernel
theorem dX0_firstWrong_12 : decode cX0_firstWrong 12 = .ok (.invokevirtual 22, 3) := by decide +kernel
theorem dX0_firstWrong_15 : decode cX0_firstWrong 15 = .ok (.ifCond .eq 5, 3) := by decide +kernel
theorem dX0_firstWrong_18 : decode cX0_firstWrong 18 = .ok (.iload_n 1, 1) := by decide +kernel
theorem dX0_firstWrong_19 : decode cX0_firstWrong 19 = .ok (.ireturn, 1) := by decide +kernel
theorem dX0_firstWrong_20 : decode cX0_firstWrong 20 = .ok (.iinc 1 1, 3) := by decide +kernel
theorem dX0_firstWrong_23 : decode cX0_firstWrong 23 = .ok (.goto (-21), 3) := by decide +kernel
theorem dX0_firstWrong_26 : decode cX0_firstWrong 26 = .ok (.iconst (-1), 1) := by decide +kernel
theorem dX0_firstWrong_27 : decode cX0_firstWrong 27 = .ok (.ireturn, 1) := by decide +kernel
theorem dX0_allWrong_0 : decode cX0_allWrong 0 = .ok (.iconst 0, 1) := by decide +kernel
theorem dX0_allWrong_1 : decode cX0_allWrong 1 = .ok (.istore_n 1, 1) := by decide +kernel
theorem dX0_allWrong_2 : decode cX0_allWrong 2 = .ok (.iconst 0, 1) := by decide +kernel
theorem dX0_allWrong_3 : decode cX0_allWrong 3 = .ok (.istore_n 2, 1) := by decide +kernel
theorem dX0_allWrong_4 : decode cX0_allWrong 4 = .ok (.iload_n 2, 1) := by decide +kernel
theorem dX0_allWrong_5 : decode cX0_allWrong 5 = .ok (.aload_n 0, 1) := by decide +kernel
theorem dX0_allWrong_6 : decode cX0_allWrong 6 = .ok (.getfield 15, 3) := by decide +kernel
theorem dX0_allWrong_9 : decode cX0_allWrong 9 = .ok (.if_icmp .ge 20, 3) := by decide +kernel
theorem dX0_allWrong_12 : decode cX0_allWrong 12 = .ok (.aload_n 0, 1) := by decide +kernel
theorem dX0_allWrong_13 : decode cX0_allWrong 13 = .ok (.iload_n 2, 1) := by decide +kernel
theorem dX0_allWrong_14 : decode cX0_allWrong 14 = .ok (.invokevirtual 22, 3) := by decide +kernel
theorem dX0_allWrong_17 : decode cX0_allWrong 17 = .ok (.ifCond .eq 6, 3) := by decide +kernel
theorem dX0_allWrong_20 : decode cX0_allWrong 20 = .ok (.iinc 1 1, 3) := by decide +kernel
theorem dX0_allWrong_23 : decode cX0_allWrong 23 = .ok (.iinc 2 1, 3) := by decide +kernel
theorem dX0_allWrong_26 : decode cX0_allWrong 26 = .ok (.goto (-22), 3) := by decide +kernel
theorem dX0_allWrong_29 : decode cX0_allWrong 29 = .ok (.iload_n 1, 1) := by decide +kernel
theorem dX0_allWrong_30 : decode cX0_allWrong 30 = .ok (.ireturn, 1) := by decide +kernel
theorem dX0_isWrong_0 : decode cX0_isWrong 0 = .ok (.iload_n 1, 1) := by decide +kernel
theorem dX0_isWrong_1 : decode cX0_isWrong 1 = .ok (.ifCond .ne 10, 3) := by decide +kernel
theorem dX0_isWrong_4 : decode cX0_isWrong 4 = .ok (.aload_n 0, 1) := by decide +kernel
theorem dX0_isWrong_5 : decode cX0_isWrong 5 = .ok (.getfield 19, 3) := by decide +kernel
theorem dX0_isWrong_8 : decode cX0_isWrong 8 = .ok (.goto 13, 3) := by decide +kernel
theorem dX0_isWrong_11 : decode cX0_isWrong 11 = .ok (.aload_n 0, 1) := by decide +kernel
theorem dX0_isWrong_12 : decode cX0_isWrong 12 = .ok (.getfield 11, 3) := by decide +kernel
theorem dX0_isWrong_15 : decode cX0_isWrong 15 = .ok (.iload_n 1, 1) := by decide +kernel
theorem dX0_isWrong_16 : decode cX0_isWrong 16 = .ok (.iconst 1, 1) := by decide +kernel
theorem dX0_isWrong_17 : decode cX0_isWrong 17 = .ok (.isub, 1) := by decide +kernel
theorem dX0_isWrong_18 : decode cX0_isWrong 18 = .ok (.invokestatic 26, 3) := by decide +kernel
theorem dX0_isWrong_21 : decode cX0_isWrong 21 = .ok (.istore_n 2, 1) := by decide +kernel
theorem dX0_isWrong_22 : decode cX0_isWrong 22 = .ok (.aload_n 0, 1) := by decide +kernel
theorem dX0_isWrong_23 : decode cX0_isWrong 23 = .ok (.getfield 11, 3) := by decide +kernel
theorem dX0_isWrong_26 : decode cX0_isWrong 26 = .ok (.iload_n 1, 1) := by decide +kernel
theorem dX0_isWrong_27 : decode cX0_isWrong 27 = .ok (.invokestatic 26, 3) := by decide +kernel
theorem dX0_isWrong_30 : decode cX0_isWrong 30 = .ok (.iload_n 2, 1) := by decide +kernel
theorem dX0_isWrong_31 : decode cX0_isWrong 31 = .ok (.iconst 1, 1) := by decide +kernel
theorem dX0_isWrong_32 : decode cX0_isWrong 32 = .ok (.iadd, 1) := by decide +kernel
theorem dX0_isWrong_33 : decode cX0_isWrong 33 = .ok (.if_icmp .eq 7, 3) := by decide +kernel
theorem dX0_isWrong_36 : decode cX0_isWrong 36 = .ok (.iconst 1, 1) := by decide +kernel
theorem dX0_isWrong_37 : decode cX0_isWrong 37 = .ok (.goto 4, 3) := by decide +kernel
theorem dX0_isWrong_40 : decode cX0_isWrong 40 = .ok (.iconst 0, 1) := by decide +kernel
theorem dX0_isWrong_41 : decode cX0_isWrong 41 = .ok (.ireturn, 1) := by decide +kernel
theorem dX1_init_0 : decode cX1_init 0 = .ok (.aload_n 0, 1) := by decide +kernel
theorem dX1_init_1 : decode cX1_init 1 = .ok (.invokespecial 3, 3) := by decide +kernel
theorem dX1_init_4 : decode cX1_init 4 = .ok (.aload_n 0, 1) := by decide +kernel
theorem dX1_init_5 : decode cX1_init 5 = .ok (.iconst 0, 1) := by decide +kernel
theorem dX1_init_6 : decode cX1_init 6 = .ok (.putfield 9, 3) := by decide +kernel
theorem dX1_init_9 : decode cX1_init 9 = .ok (.return_, 1) := by decide +kernel
theorem dX1_draw_0 : decode cX1_draw 0 = .ok (.aload_n 0, 1) := by decide +kernel
theorem dX1_draw_1 : decode cX1_draw 1 = .ok (.ldc 15, 2) := by decide +kernel
theorem dX1_draw_3 : decode cX1_draw 3 = .ok (.aload_n 0, 1) := by decide +kernel
theorem dX1_draw_4 : decode cX1_draw 4 = .ok (.getfield 9, 3) := by decide +kernel
theorem dX1_draw_7 : decode cX1_draw 7 = .ok (.imul, 1) := by decide +kernel
theorem dX1_draw_8 : decode cX1_draw 8 = .ok (.sipush 12345, 3) := by decide +kernel
theorem dX1_draw_11 : decode cX1_draw 11 = .ok (.iadd, 1) := by decide +kernel
theorem dX1_draw_12 : decode cX1_draw 12 = .ok (.putfield 9, 3) := by decide +kernel
theorem dX1_draw_15 : decode cX1_draw 15 = .ok (.aload_n 0, 1) := by decide +kernel
theorem dX1_draw_16 : decode cX1_draw 16 = .ok (.getfield 9, 3) := by decide +kernel
theorem dX1_draw_19 : decode cX1_draw 19 = .ok (.bipush 16, 2) := by decide +kernel
theorem dX1_draw_21 : decode cX1_draw 21 = .ok (.iushr, 1) := by decide +kernel
theorem dX1_draw_22 : decode cX1_draw 22 = .ok (.bipush 16, 2) := by decide +kernel
theorem dX1_draw_24 : decode cX1_draw 24 = .ok (.irem, 1) := by decide +kernel
theorem dX1_draw_25 : decode cX1_draw 25 = .ok (.ireturn, 1) := by decide +kernel
theorem dX2_init_0 : decode cX2_init 0 = .ok (.aload_n 0, 1) := by decide +kernel
theorem dX2_init_1 : decode cX2_init 1 = .ok (.invokespecial 3, 3) := by decide +kernel
theorem dX2_init_4 : decode cX2_init 4 = .ok (.aload_n 0, 1) := by decide +kernel
theorem dX2_init_5 : decode cX2_init 5 = .ok (.iconst 4, 1) := by decide +kernel
theorem dX2_init_6 : decode cX2_init 6 = .ok (.newarray .int, 2) := by decide +kernel
theorem dX2_init_8 : decode cX2_init 8 = .ok (.putfield 11, 3) := by decide +kernel
theorem dX2_init_11 : decode cX2_init 11 = .ok (.aload_n 0, 1) := by decide +kernel
theorem dX2_init_12 : decode cX2_init 12 = .ok (.iconst 4, 1) := by decide +kernel
theorem dX2_init_13 : decode cX2_init 13 = .ok (.newarray .int, 2) := by decide +kernel
theorem dX2_init_15 : decode cX2_init 15 = .ok (.putfield 15, 3) := by decide +kernel
theorem dX2_init_18 : decode cX2_init 18 = .ok (.aload_n 0, 1) := by decide +kernel
theorem dX2_init_19 : decode cX2_init 19 = .ok (.iconst 4, 1) := by decide +kernel
theorem dX2_init_20 : decode cX2_init 20 = .ok (.newarray .int, 2) := by decide +kernel
theorem dX2_init_22 : decode cX2_init 22 = .ok (.putfield 18, 3) := by decide +kernel
theorem dX2_init_25 : decode cX2_init 25 = .ok (.aload_n 0, 1) := by decide +kernel
theorem dX2_init_26 : decode cX2_init 26 = .ok (.iconst 0, 1) := by decide +kernel
theorem dX2_init_27 : decode cX2_init 27 = .ok (.putfield 21, 3) := by decide +kernel
theorem dX2_init_30 : decode cX2_init 30 = .ok (.return_, 1) := by decide +kernel
theorem dX2_append_0 : decode cX2_append 0 = .ok (.aload_n 0, 1) := by decide +kernel
theorem dX2_append_1 : decode cX2_append 1 = .ok (.getfield 21, 3) := by decide +kernel
theorem dX2_append_4 : decode cX2_append 4 = .ok (.ifCond .lt 11, 3) := by decide +kernel
theorem dX2_append_7 : decode cX2_append 7 = .ok (.aload_n 0, 1) := by decide +kernel
theorem dX2_append_8 : decode cX2_append 8 = .ok (.getfield 21, 3) := by decide +kernel
theorem dX2_append_11 : decode cX2_append 11 = .ok (.iconst 4, 1) := by decide +kernel
theorem dX2_append_12 : decode cX2_append 12 = .ok (.if_icmp .lt 5, 3) := by decide +kernel
theorem dX2_append_15 : decode cX2_append 15 = .ok (.iconst 0, 1) := by decide +kernel
theorem dX2_append_16 : decode cX2_append 16 = .ok (.ireturn, 1) := by decide +kernel
theorem dX2_append_17 : decode cX2_append 17 = .ok (.aload_n 0, 1) := by decide +kernel
theorem dX2_append_18 : decode cX2_append 18 = .ok (.getfield 11, 3) := by decide +kernel
theorem dX2_append_21 : decode cX2_append 21 = .ok (.aload_n 0, 1) := by decide +kernel
theorem dX2_append_22 : decode cX2_append 22 = .ok (.getfield 21, 3) := by decide +kernel
theorem dX2_append_25 : decode cX2_append 25 = .ok (.iload_n 1, 1) := by decide +kernel
theorem dX2_append_26 : decode cX2_append 26 = .ok (.iastore, 1) := by decide +kernel
theorem dX2_append_27 : decode cX2_append 27 = .ok (.aload_n 0, 1) := by decide +kernel
theorem dX2_append_28 : decode cX2_append 28 = .ok (.getfield 15, 3) := by decide +kernel
theorem dX2_append_31 : decode cX2_append 31 = .ok (.aload_n 0, 1) := by decide +kernel
theorem dX2_append_32 : decode cX2_append 32 = .ok (.getfield 21, 3) := by decide +kernel
theorem dX2_append_35 : decode cX2_append 35 = .ok (.iload_n 2, 1) := by decide +kernel
theorem dX2_append_36 : decode cX2_append 36 = .ok (.iastore, 1) := by decide +kernel
theorem dX2_append_37 : decode cX2_append 37 = .ok (.aload_n 0, 1) := by decide +kernel
theorem dX2_append_38 : decode cX2_append 38 = .ok (.getfield 18, 3) := by decide +kernel
theorem dX2_append_41 : decode cX2_append 41 = .ok (.aload_n 0, 1) := by decide +kernel
theorem dX2_append_42 : decode cX2_append 42 = .ok (.getfield 21, 3) := by decide +kernel
theorem dX2_append_45 : decode cX2_append 45 = .ok (.iload_n 3, 1) := by decide +kernel
theorem dX2_append_46 : decode cX2_append 46 = .ok (.iastore, 1) := by decide +kernel
theorem dX2_append_47 : decode cX2_append 47 = .ok (.aload_n 0, 1) := by decide +kernel
theorem dX2_append_48 : decode cX2_append 48 = .ok (.dup, 1) := by decide +kernel
theorem dX2_append_49 : decode cX2_append 49 = .ok (.getfield 21, 3) := by decide +kernel
theorem dX2_append_52 : decode cX2_append 52 = .ok (.iconst 1, 1) := by decide +kernel
theorem dX2_append_53 : decode cX2_append 53 = .ok (.iadd, 1) := by decide +kernel
theorem dX2_append_54 : decode cX2_append 54 = .ok (.putfield 21, 3) := by decide +kernel
theorem dX2_append_57 : decode cX2_append 57 = .ok (.iconst 1, 1) := by decide +kernel
theorem dX2_append_58 : decode cX2_append 58 = .ok (.ireturn, 1) := by decide +kernel
theorem dX2_weigh_0 : decode cX2_weigh 0 = .ok (.lconst 1, 1) := by decide +kernel
theorem dX2_weigh_1 : decode cX2_weigh 1 = .ok (.lstore 5, 2) := by decide +kernel
theorem dX2_weigh_3 : decode cX2_weigh 3 = .ok (.iconst 0, 1) := by decide +kernel
theorem dX2_weigh_4 : decode cX2_weigh 4 = .ok (.istore 7, 2) := by decide +kernel
theorem dX2_weigh_6 : decode cX2_weigh 6 = .ok (.iload 7, 2) := by decide +kernel
theorem dX2_weigh_8 : decode cX2_weigh 8 = .ok (.aload_n 0, 1) := by decide +kernel
theorem dX2_weigh_9 : decode cX2_weigh 9 = .ok (.getfield 21, 3) := by decide +kernel
theorem dX2_weigh_12 : decode cX2_weigh 12 = .ok (.if_icmp .ge 126, 3) := by decide +kernel
theorem dX2_weigh_15 : decode cX2_weigh 15 = .ok (.iload 7, 2) := by decide +kernel
theorem dX2_weigh_17 : decode cX2_weigh 17 = .ok (.iconst 4, 1) := by decide +kernel
theorem dX2_weigh_18 : decode cX2_weigh 18 = .ok (.if_icmp .ge 120, 3) := by decide +kernel
theorem dX2_weigh_21 : decode cX2_weigh 21 = .ok (.aload_n 0, 1) := by decide +kernel
theorem dX2_weigh_22 : decode cX2_weigh 22 = .ok (.getfield 11, 3) := by decide +kernel
theorem dX2_weigh_25 : decode cX2_weigh 25 = .ok (.iload 7, 2) := by decide +kernel
theorem dX2_weigh_27 : decode cX2_weigh 27 = .ok (.iaload, 1) := by decide +kernel
theorem dX2_weigh_28 : decode cX2_weigh 28 = .ok (.iload_n 1, 1) := by decide +kernel
theorem dX2_weigh_29 : decode cX2_weigh 29 = .ok (.if_icmp .eq 6, 3) := by decide +kernel
theorem dX2_weigh_32 : decode cX2_weigh 32 = .ok (.goto 100, 3) := by decide +kernel
theorem dX2_weigh_35 : decode cX2_weigh 35 = .ok (.aload_n 0, 1) := by decide +kernel
theorem dX2_weigh_36 : decode cX2_weigh 36 = .ok (.getfield 15, 3) := by decide +kernel
theorem dX2_weigh_39 : decode cX2_weigh 39 = .ok (.iload 7, 2) := by decide +kernel
theorem dX2_weigh_41 : decode cX2_weigh 41 = .ok (.iaload, 1) := by decide +kernel
theorem dX2_weigh_42 : decode cX2_weigh 42 = .ok (.iconst (-1), 1) := by decide +kernel
theorem dX2_weigh_43 : decode cX2_weigh 43 = .ok (.if_icmp .ne 42, 3) := by decide +kernel
theorem dX2_weigh_46 : decode cX2_weigh 46 = .ok (.aload 4, 2) := by decide +kernel
theorem dX2_weigh_48 : decode cX2_weigh 48 = .ok (.iconst 3, 1) := by decide +kernel
theorem dX2_weigh_49 : decode cX2_weigh 49 = .ok (.invokevirtual 25, 3) := by decide +kernel
theorem dX2_weigh_52 : decode cX2_weigh 52 = .ok (.istore 8, 2) := by decide +kernel
theorem dX2_weigh_54 : decode cX2_weigh 54 = .ok (.lload 5, 2) := by decide +kernel
theorem dX2_weigh_56 : decode cX2_weigh 56 = .ok (.aload_n 0, 1) := by decide +kernel
theorem dX2_weigh_57 : decode cX2_weigh 57 = .ok (.getfield 18, 3) := by decide +kernel
theorem dX2_weigh_60 : decode cX2_weigh 60 = .ok (.iload 7, 2) := by decide +kernel
theorem dX2_weigh_62 : decode cX2_weigh 62 = .ok (.iaload, 1) := by decide +kernel
theorem dX2_weigh_63 : decode cX2_weigh 63 = .ok (.iload_n 2, 1) := by decide +kernel
theorem dX2_weigh_64 : decode cX2_weigh 64 = .ok (.if_icmp .ne 9, 3) := by decide +kernel
theorem dX2_weigh_67 : decode cX2_weigh 67 = .ok (.iload 8, 2) := by decide +kernel
theorem dX2_weigh_69 : decode cX2_weigh 69 = .ok (.i2l, 1) := by decide +kernel
theorem dX2_weigh_70 : decode cX2_weigh 70 = .ok (.goto 9, 3) := by decide +kernel
theorem dX2_weigh_73 : decode cX2_weigh 73 = .ok (.bipush 16, 2) := by decide +kernel
theorem dX2_weigh_75 : decode cX2_weigh 75 = .ok (.iload 8, 2) := by decide +kernel
theorem dX2_weigh_77 : decode cX2_weigh 77 = .ok (.isub, 1) := by decide +kernel
theorem dX2_weigh_78 : decode cX2_weigh 78 = .ok (.i2l, 1) := by decide +kernel
theorem dX2_weigh_79 : decode cX2_weigh 79 = .ok (.lmul, 1) := by decide +kernel
theorem dX2_weigh_80 : decode cX2_weigh 80 = .ok (.lstore 5, 2) := by decide +kernel
theorem dX2_weigh_82 : decode cX2_weigh 82 = .ok (.goto 50, 3) := by decide +kernel
theorem dX2_weigh_85 : decode cX2_weigh 85 = .ok (.iload_n 3, 1) := by decide +kernel
theorem dX2_weigh_86 : decode cX2_weigh 86 = .ok (.iconst (-1), 1) := by decide +kernel
theorem dX2_weigh_87 : decode cX2_weigh 87 = .ok (.if_icmp .ne 18, 3) := by decide +kernel
theorem dX2_weigh_90 : decode cX2_weigh 90 = .ok (.lload 5, 2) := by decide +kernel
theorem dX2_weigh_92 : decode cX2_weigh 92 = .ok (.aload 4, 2) := by decide +kernel
theorem dX2_weigh_94 : decode cX2_weigh 94 = .ok (.iconst 2, 1) := by decide +kernel
theorem dX2_weigh_95 : decode cX2_weigh 95 = .ok (.invokevirtual 25, 3) := by decide +kernel
theorem dX2_weigh_98 : decode cX2_weigh 98 = .ok (.i2l, 1) := by decide +kernel
theorem dX2_weigh_99 : decode cX2_weigh 99 = .ok (.lmul, 1) := by decide +kernel
theorem dX2_weigh_100 : decode cX2_weigh 100 = .ok (.lstore 5, 2) := by decide +kernel
theorem dX2_weigh_102 : decode cX2_weigh 102 = .ok (.goto 30, 3) := by decide +kernel
theorem dX2_weigh_105 : decode cX2_weigh 105 = .ok (.lload 5, 2) := by decide +kernel
theorem dX2_weigh_107 : decode cX2_weigh 107 = .ok (.aload 4, 2) := by decide +kernel
theorem dX2_weigh_109 : decode cX2_weigh 109 = .ok (.iload_n 3, 1) := by decide +kernel
theorem dX2_weigh_110 : decode cX2_weigh 110 = .ok (.aload_n 0, 1) := by decide +kernel
theorem dX2_weigh_111 : decode cX2_weigh 111 = .ok (.getfield 15, 3) := by decide +kernel
theorem dX2_weigh_114 : decode cX2_weigh 114 = .ok (.iload 7, 2) := by decide +kernel
theorem dX2_weigh_116 : decode cX2_weigh 116 = .ok (.iaload, 1) := by decide +kernel
theorem dX2_weigh_117 : decode cX2_weigh 117 = .ok (.if_icmp .ne 7, 3) := by decide +kernel
theorem dX2_weigh_120 : decode cX2_weigh 120 = .ok (.iconst 0, 1) := by decide +kernel
theorem dX2_weigh_121 : decode cX2_weigh 121 = .ok (.goto 4, 3) := by decide +kernel
theorem dX2_weigh_124 : decode cX2_weigh 124 = .ok (.iconst 1, 1) := by decide +kernel
theorem dX2_weigh_125 : decode cX2_weigh 125 = .ok (.invokevirtual 25, 3) := by decide +kernel
theorem dX2_weigh_128 : decode cX2_weigh 128 = .ok (.i2l, 1) := by decide +kernel
theorem dX2_weigh_129 : decode cX2_weigh 129 = .ok (.lmul, 1) := by decide +kernel
theorem dX2_weigh_130 : decode cX2_weigh 130 = .ok (.lstore 5, 2) := by decide +kernel
theorem dX2_weigh_132 : decode cX2_weigh 132 = .ok (.iinc 7 1, 3) := by decide +kernel
theorem dX2_weigh_135 : decode cX2_weigh 135 = .ok (.goto (-129), 3) := by decide +kernel
theorem dX2_weigh_138 : decode cX2_weigh 138 = .ok (.lload 5, 2) := by decide +kernel
theorem dX2_weigh_140 : decode cX2_weigh 140 = .ok (.lreturn, 1) := by decide +kernel
theorem dX3_init_0 : decode cX3_init 0 = .ok (.aload_n 0, 1) := by decide +kernel
theorem dX3_init_1 : decode cX3_init 1 = .ok (.invokespecial 1, 3) := by decide +kernel
theorem dX3_init_4 : decode cX3_init 4 = .ok (.aload_n 0, 1) := by decide +kernel
theorem dX3_init_5 : decode cX3_init 5 = .ok (.iconst 3, 1) := by decide +kernel
theorem dX3_init_6 : decode cX3_init 6 = .ok (.newarray .int, 2) := by decide +kernel
theorem dX3_init_8 : decode cX3_init 8 = .ok (.dup, 1) := by decide +kernel
theorem dX3_init_9 : decode cX3_init 9 = .ok (.iconst 0, 1) := by decide +kernel
theorem dX3_init_10 : decode cX3_init 10 = .ok (.iconst 2, 1) := by decide +kernel
theorem dX3_init_11 : decode cX3_init 11 = .ok (.iastore, 1) := by decide +kernel
theorem dX3_init_12 : decode cX3_init 12 = .ok (.dup, 1) := by decide +kernel
theorem dX3_init_13 : decode cX3_init 13 = .ok (.iconst 1, 1) := by decide +kernel
theorem dX3_init_14 : decode cX3_init 14 = .ok (.iconst 1, 1) := by decide +kernel
theorem dX3_init_15 : decode cX3_init 15 = .ok (.iastore, 1) := by decide +kernel
theorem dX3_init_16 : decode cX3_init 16 = .ok (.dup, 1) := by decide +kernel
theorem dX3_init_17 : decode cX3_init 17 = .ok (.iconst 2, 1) := by decide +kernel
theorem dX3_init_18 : decode cX3_init 18 = .ok (.iconst 3, 1) := by decide +kernel
theorem dX3_init_19 : decode cX3_init 19 = .ok (.iastore, 1) := by decide +kernel
theorem dX3_init_20 : decode cX3_init 20 = .ok (.putfield 7, 3) := by decide +kernel
theorem dX3_init_23 : decode cX3_init 23 = .ok (.aload_n 0, 1) := by decide +kernel
theorem dX3_init_24 : decode cX3_init 24 = .ok (.iconst 3, 1) := by decide +kernel
theorem dX3_init_25 : decode cX3_init 25 = .ok (.newarray .int, 2) := by decide +kernel
theorem dX3_init_27 : decode cX3_init 27 = .ok (.dup, 1) := by decide +kernel
theorem dX3_init_28 : decode cX3_init 28 = .ok (.iconst 0, 1) := by decide +kernel
theorem dX3_init_29 : decode cX3_init 29 = .ok (.iconst 1, 1) := by decide +kernel
theorem dX3_init_30 : decode cX3_init 30 = .ok (.iastore, 1) := by decide +kernel
theorem dX3_init_31 : decode cX3_init 31 = .ok (.dup, 1) := by decide +kernel
theorem dX3_init_32 : decode cX3_init 32 = .ok (.iconst 1, 1) := by decide +kernel
theorem dX3_init_33 : decode cX3_init 33 = .ok (.iconst 3, 1) := by decide +kernel
theorem dX3_init_34 : decode cX3_init 34 = .ok (.iastore, 1) := by decide +kernel
theorem dX3_init_35 : decode cX3_init 35 = .ok (.dup, 1) := by decide +kernel
theorem dX3_init_36 : decode cX3_init 36 = .ok (.iconst 2, 1) := by decide +kernel
theorem dX3_init_37 : decode cX3_init 37 = .ok (.iconst 2, 1) := by decide +kernel
theorem dX3_init_38 : decode cX3_init 38 = .ok (.iastore, 1) := by decide +kernel
theorem dX3_init_39 : decode cX3_init 39 = .ok (.putfield 13, 3) := by decide +kernel
theorem dX3_init_42 : decode cX3_init 42 = .ok (.return_, 1) := by decide +kernel
theorem dX3_missedOf_0 : decode cX3_missedOf 0 = .ok (.aload_n 0, 1) := by decide +kernel
theorem dX3_missedOf_1 : decode cX3_missedOf 1 = .ok (.getfield 7, 3) := by decide +kernel
theorem dX3_missedOf_4 : decode cX3_missedOf 4 = .ok (.iload_n 1, 1) := by decide +kernel
theorem dX3_missedOf_5 : decode cX3_missedOf 5 = .ok (.invokestatic 16, 3) := by decide +kernel
theorem dX3_missedOf_8 : decode cX3_missedOf 8 = .ok (.ireturn, 1) := by decide +kernel
theorem dX3_doubledOf_0 : decode cX3_doubledOf 0 = .ok (.aload_n 0, 1) := by decide +kernel
theorem dX3_doubledOf_1 : decode cX3_doubledOf 1 = .ok (.getfield 13, 3) := by decide +kernel
theorem dX3_doubledOf_4 : decode cX3_doubledOf 4 = .ok (.iload_n 1, 1) := by decide +kernel
theorem dX3_doubledOf_5 : decode cX3_doubledOf 5 = .ok (.invokestatic 16, 3) := by decide +kernel
theorem dX3_doubledOf_8 : decode cX3_doubledOf 8 = .ok (.ireturn, 1) := by decide +kernel
theorem dX3_become_0 : decode cX3_become 0 = .ok (.iload_n 1, 1) := by decide +kernel
theorem dX3_become_1 : decode cX3_become 1 = .ok (.ifCond .lt 35, 3) := by decide +kernel
theorem dX3_become_4 : decode cX3_become 4 = .ok (.iload_n 1, 1) := by decide +kernel
theorem dX3_become_5 : decode cX3_become 5 = .ok (.aload_n 0, 1) := by decide +kernel
theorem dX3_become_6 : decode cX3_become 6 = .ok (.getfield 7, 3) := by decide +kernel
theorem dX3_become_9 : decode cX3_become 9 = .ok (.arraylength, 1) := by decide +kernel
theorem dX3_become_10 : decode cX3_become 10 = .ok (.if_icmp .ge 26, 3) := by decide +kernel
theorem dX3_become_13 : decode cX3_become 13 = .ok (.iload_n 1, 1) := by decide +kernel
theorem dX3_become_14 : decode cX3_become 14 = .ok (.aload_n 0, 1) := by decide +kernel
theorem dX3_become_15 : decode cX3_become 15 = .ok (.getfield 13, 3) := by decide +kernel
theorem dX3_become_18 : decode cX3_become 18 = .ok (.arraylength, 1) := by decide +kernel
theorem dX3_become_19 : decode cX3_become 19 = .ok (.if_icmp .ge 17, 3) := by decide +kernel
theorem dX3_become_22 : decode cX3_become 22 = .ok (.aload_n 0, 1) := by decide +kernel
theorem dX3_become_23 : decode cX3_become 23 = .ok (.getfield 7, 3) := by decide +kernel
theorem dX3_become_26 : decode cX3_become 26 = .ok (.iload_n 1, 1) := by decide +kernel
theorem dX3_become_27 : decode cX3_become 27 = .ok (.iload_n 2, 1) := by decide +kernel
theorem dX3_become_28 : decode cX3_become 28 = .ok (.iastore, 1) := by decide +kernel
theorem dX3_become_29 : decode cX3_become 29 = .ok (.aload_n 0, 1) := by decide +kernel
theorem dX3_become_30 : decode cX3_become 30 = .ok (.getfield 13, 3) := by decide +kernel
theorem dX3_become_33 : decode cX3_become 33 = .ok (.iload_n 1, 1) := by decide +kernel
theorem dX3_become_34 : decode cX3_become 34 = .ok (.iload_n 3, 1) := by decide +kernel
theorem dX3_become_35 : decode cX3_become 35 = .ok (.iastore, 1) := by decide +kernel
theorem dX3_become_36 : decode cX3_become 36 = .ok (.return_, 1) := by decide +kernel
theorem dX4_init_0 : decode cX4_init 0 = .ok (.aload_n 0, 1) := by decide +kernel
theorem dX4_init_1 : decode cX4_init 1 = .ok (.invokespecial 3, 3) := by decide +kernel
theorem dX4_init_4 : decode cX4_init 4 = .ok (.aload_n 0, 1) := by decide +kernel
theorem dX4_init_5 : decode cX4_init 5 = .ok (.bipush 60, 2) := by decide +kernel
theorem dX4_init_7 : decode cX4_init 7 = .ok (.newarray .int, 2) := by decide +kernel
theorem dX4_init_9 : decode cX4_init 9 = .ok (.putfield 11, 3) := by decide +kernel
theorem dX4_init_12 : decode cX4_init 12 = .ok (.aload_n 0, 1) := by decide +kernel
theorem dX4_init_13 : decode cX4_init 13 = .ok (.bipush 99, 2) := by decide +kernel
theorem dX4_init_15 : decode cX4_init 15 = .ok (.newarray .int, 2) := by decide +kernel
theorem dX4_init_17 : decode cX4_init 17 = .ok (.putfield 15, 3) := by decide +kernel
theorem dX4_init_20 : decode cX4_init 20 = .ok (.aload_n 0, 1) := by decide +kernel
theorem dX4_init_21 : decode cX4_init 21 = .ok (.bipush 99, 2) := by decide +kernel
theorem dX4_init_23 : decode cX4_init 23 = .ok (.newarray .int, 2) := by decide +kernel
theorem dX4_init_25 : decode cX4_init 25 = .ok (.putfield 18, 3) := by decide +kernel
theorem dX4_init_28 : decode cX4_init 28 = .ok (.aload_n 0, 1) := by decide +kernel
theorem dX4_init_29 : decode cX4_init 29 = .ok (.bipush 99, 2) := by decide +kernel
theorem dX4_init_31 : decode cX4_init 31 = .ok (.newarray .int, 2) := by decide +kernel
theorem dX4_init_33 : decode cX4_init 33 = .ok (.putfield 21, 3) := by decide +kernel
theorem dX4_init_36 : decode cX4_init 36 = .ok (.aload_n 0, 1) := by decide +kernel
theorem dX4_init_37 : decode cX4_init 37 = .ok (.bipush 6, 2) := by decide +kernel
theorem dX4_init_39 : decode cX4_init 39 = .ok (.newarray .int, 2) := by decide +kernel
theorem dX4_init_41 : decode cX4_init 41 = .ok (.putfield 24, 3) := by decide +kernel
theorem dX4_init_44 : decode cX4_init 44 = .ok (.aload_n 0, 1) := by decide +kernel
theorem dX4_init_45 : decode cX4_init 45 = .ok (.iconst 0, 1) := by decide +kernel
theorem dX4_init_46 : decode cX4_init 46 = .ok (.putfield 27, 3) := by decide +kernel
theorem dX4_init_49 : decode cX4_init 49 = .ok (.aload_n 0, 1) := by decide +kernel
theorem dX4_init_50 : decode cX4_init 50 = .ok (.iconst 0, 1) := by decide +kernel
theorem dX4_init_51 : decode cX4_init 51 = .ok (.putfield 31, 3) := by decide +kernel
theorem dX4_init_54 : decode cX4_init 54 = .ok (.aload_n 0, 1) := by decide +kernel
theorem dX4_init_55 : decode cX4_init 55 = .ok (.iconst 0, 1) := by decide +kernel
theorem dX4_init_56 : decode cX4_init 56 = .ok (.putfield 34, 3) := by decide +kernel
theorem dX4_init_59 : decode cX4_init 59 = .ok (.aload_n 0, 1) := by decide +kernel
theorem dX4_init_60 : decode cX4_init 60 = .ok (.iconst 0, 1) := by decide +kernel
theorem dX4_init_61 : decode cX4_init 61 = .ok (.putfield 37, 3) := by decide +kernel
theorem dX4_init_64 : decode cX4_init 64 = .ok (.aload_n 0, 1) := by decide +kernel
theorem dX4_init_65 : decode cX4_init 65 = .ok (.iconst (-1), 1) := by decide +kernel
theorem dX4_init_66 : decode cX4_init 66 = .ok (.putfield 40, 3) := by decide +kernel
theorem dX4_init_69 : decode cX4_init 69 = .ok (.return_, 1) := by decide +kernel
theorem dX4_append_0 : decode cX4_append 0 = .ok (.aload_n 0, 1) := by decide +kernel
theorem dX4_append_1 : decode cX4_append 1 = .ok (.getfield 27, 3) := by decide +kernel
theorem dX4_append_4 : decode cX4_append 4 = .ok (.ifCond .lt 12, 3) := by decide +kernel
theorem dX4_append_7 : decode cX4_append 7 = .ok (.aload_n 0, 1) := by decide +kernel
theorem dX4_append_8 : decode cX4_append 8 = .ok (.getfield 27, 3) := by decide +kernel
theorem dX4_append_11 : decode cX4_append 11 = .ok (.bipush 60, 2) := by decide +kernel
theorem dX4_append_13 : decode cX4_append 13 = .ok (.if_icmp .lt 5, 3) := by decide +kernel
theorem dX4_append_16 : decode cX4_append 16 = .ok (.iconst 0, 1) := by decide +kernel
theorem dX4_append_17 : decode cX4_append 17 = .ok (.ireturn, 1) := by decide +kernel
theorem dX4_append_18 : decode cX4_append 18 = .ok (.aload_n 0, 1) := by decide +kernel
theorem dX4_append_19 : decode cX4_append 19 = .ok (.getfield 11, 3) := by decide +kernel
theorem dX4_append_22 : decode cX4_append 22 = .ok (.aload_n 0, 1) := by decide +kernel
theorem dX4_append_23 : decode cX4_append 23 = .ok (.getfield 27, 3) := by decide +kernel
theorem dX4_append_26 : decode cX4_append 26 = .ok (.iload_n 1, 1) := by decide +kernel
theorem dX4_append_27 : decode cX4_append 27 = .ok (.iastore, 1) := by decide +kernel
theorem dX4_append_28 : decode cX4_append 28 = .ok (.aload_n 0, 1) := by decide +kernel
theorem dX4_append_29 : decode cX4_append 29 = .ok (.dup, 1) := by decide +kernel
theorem dX4_append_30 : decode cX4_append 30 = .ok (.getfield 27, 3) := by decide +kernel
theorem dX4_append_33 : decode cX4_append 33 = .ok (.iconst 1, 1) := by decide +kernel
theorem dX4_append_34 : decode cX4_append 34 = .ok (.iadd, 1) := by decide +kernel
theorem dX4_append_35 : decode cX4_append 35 = .ok (.putfield 27, 3) := by decide +kernel
theorem dX4_append_38 : decode cX4_append 38 = .ok (.aload_n 0, 1) := by decide +kernel
theorem dX4_append_39 : decode cX4_append 39 = .ok (.invokevirtual 43, 3) := by decide +kernel
theorem dX4_append_42 : decode cX4_append 42 = .ok (.iconst 1, 1) := by decide +kernel
theorem dX4_append_43 : decode cX4_append 43 = .ok (.ireturn, 1) := by decide +kernel
theorem dX4_shorten_0 : decode cX4_shorten 0 = .ok (.aload_n 0, 1) := by decide +kernel
theorem dX4_shorten_1 : decode cX4_shorten 1 = .ok (.iconst 0, 1) := by decide +kernel
theorem dX4_shorten_2 : decode cX4_shorten 2 = .ok (.aload_n 0, 1) := by decide +kernel
theorem dX4_shorten_3 : decode cX4_shorten 3 = .ok (.getfield 27, 3) := by decide +kernel
theorem dX4_shorten_6 : decode cX4_shorten 6 = .ok (.iload_n 1, 1) := by decide +kernel
theorem dX4_shorten_7 : decode cX4_shorten 7 = .ok (.isub, 1) := by decide +kernel
theorem dX4_shorten_8 : decode cX4_shorten 8 = .ok (.invokestatic 46, 3) := by decide +kernel
theorem dX4_shorten_11 : decode cX4_shorten 11 = .ok (.putfield 27, 3) := by decide +kernel
theorem dX4_shorten_14 : decode cX4_shorten 14 = .ok (.aload_n 0, 1) := by decide +kernel
theorem dX4_shorten_15 : decode cX4_shorten 15 = .ok (.invokevirtual 43, 3) := by decide +kernel
theorem dX4_shorten_18 : decode cX4_shorten 18 = .ok (.return_, 1) := by decide +kernel
theorem dX4_hasBar_0 : decode cX4_hasBar 0 = .ok (.iload_n 1, 1) := by decide +kernel
theorem dX4_hasBar_1 : decode cX4_hasBar 1 = .ok (.ifCond .lt 15, 3) := by decide +kernel
theorem dX4_hasBar_4 : decode cX4_hasBar 4 = .ok (.iload_n 1, 1) := by decide +kernel
theorem dX4_hasBar_5 : decode cX4_hasBar 5 = .ok (.aload_n 0, 1) := by decide +kernel
theorem dX4_hasBar_6 : decode cX4_hasBar 6 = .ok (.getfield 31, 3) := by decide +kernel
theorem dX4_hasBar_9 : decode cX4_hasBar 9 = .ok (.if_icmp .ge 7, 3) := by decide +kernel
theorem dX4_hasBar_12 : decode cX4_hasBar 12 = .ok (.iconst 1, 1) := by decide +kernel
theorem dX4_hasBar_13 : decode cX4_hasBar 13 = .ok (.goto 4, 3) := by decide +kernel
theorem dX4_hasBar_16 : decode cX4_hasBar 16 = .ok (.iconst 0, 1) := by decide +kernel
theorem dX4_hasBar_17 : decode cX4_hasBar 17 = .ok (.ireturn, 1) := by decide +kernel
theorem dX4_isLoose_0 : decode cX4_isLoose 0 = .ok (.aload_n 0, 1) := by decide +kernel
theorem dX4_isLoose_1 : decode cX4_isLoose 1 = .ok (.iload_n 1, 1) := by decide +kernel
theorem dX4_isLoose_2 : decode cX4_isLoose 2 = .ok (.invokevirtual 52, 3) := by decide +kernel
theorem dX4_isLoose_5 : decode cX4_isLoose 5 = .ok (.ifCond .eq 19, 3) := by decide +kernel
theorem dX4_isLoose_8 : decode cX4_isLoose 8 = .ok (.aload_n 0, 1) := by decide +kernel
theorem dX4_isLoose_9 : decode cX4_isLoose 9 = .ok (.getfield 15, 3) := by decide +kernel
theorem dX4_isLoose_12 : decode cX4_isLoose 12 = .ok (.iload_n 1, 1) := by decide +kernel
theorem dX4_isLoose_13 : decode cX4_isLoose 13 = .ok (.invokestatic 56, 3) := by decide +kernel
theorem dX4_isLoose_16 : decode cX4_isLoose 16 = .ok (.iconst 2, 1) := by decide +kernel
theorem dX4_isLoose_17 : decode cX4_isLoose 17 = .ok (.if_icmp .gt 7, 3) := by decide +kernel
theorem dX4_isLoose_20 : decode cX4_isLoose 20 = .ok (.iconst 1, 1) := by decide +kernel
theorem dX4_isLoose_21 : decode cX4_isLoose 21 = .ok (.goto 4, 3) := by decide +kernel
theorem dX4_isLoose_24 : decode cX4_isLoose 24 = .ok (.iconst 0, 1) := by decide +kernel
theorem dX4_isLoose_25 : decode cX4_isLoose 25 = .ok (.ireturn, 1) := by decide +kernel
theorem dX4_kindOf_0 : decode cX4_kindOf 0 = .ok (.aload_n 0, 1) := by decide +kernel
theorem dX4_kindOf_1 : decode cX4_kindOf 1 = .ok (.getfield 15, 3) := by decide +kernel
theorem dX4_kindOf_4 : decode cX4_kindOf 4 = .ok (.iload_n 1, 1) := by decide +kernel
theorem dX4_kindOf_5 : decode cX4_kindOf 5 = .ok (.invokestatic 56, 3) := by decide +kernel
theorem dX4_kindOf_8 : decode cX4_kindOf 8 = .ok (.ireturn, 1) := by decide +kernel
theorem dX4_cueIn_0 : decode cX4_cueIn 0 = .ok (.aload_n 0, 1) := by decide +kernel
theorem dX4_cueIn_1 : decode cX4_cueIn 1 = .ok (.iload_n 1, 1) := by decide +kernel
theorem dX4_cueIn_2 : decode cX4_cueIn 2 = .ok (.invokevirtual 52, 3) := by decide +kernel
theorem dX4_cueIn_5 : decode cX4_cueIn 5 = .ok (.ifCond .eq 14, 3) := by decide +kernel
theorem dX4_cueIn_8 : decode cX4_cueIn 8 = .ok (.aload_n 0, 1) := by decide +kernel
theorem dX4_cueIn_9 : decode cX4_cueIn 9 = .ok (.getfield 18, 3) := by decide +kernel
theorem dX4_cueIn_12 : decode cX4_cueIn 12 = .ok (.iload_n 1, 1) := by decide +kernel
theorem dX4_cueIn_13 : decode cX4_cueIn 13 = .ok (.invokestatic 56, 3) := by decide +kernel
theorem dX4_cueIn_16 : decode cX4_cueIn 16 = .ok (.goto 4, 3) := by decide +kernel
theorem dX4_cueIn_19 : decode cX4_cueIn 19 = .ok (.iconst (-1), 1) := by decide +kernel
theorem dX4_cueIn_20 : decode cX4_cueIn 20 = .ok (.ireturn, 1) := by decide +kernel
theorem dX4_tuneOf_0 : decode cX4_tuneOf 0 = .ok (.aload_n 0, 1) := by decide +kernel
theorem dX4_tuneOf_1 : decode cX4_tuneOf 1 = .ok (.iload_n 1, 1) := by decide +kernel
theorem dX4_tuneOf_2 : decode cX4_tuneOf 2 = .ok (.invokevirtual 52, 3) := by decide +kernel
theorem dX4_tuneOf_5 : decode cX4_tuneOf 5 = .ok (.ifCond .eq 14, 3) := by decide +kernel
theorem dX4_tuneOf_8 : decode cX4_tuneOf 8 = .ok (.aload_n 0, 1) := by decide +kernel
theorem dX4_tuneOf_9 : decode cX4_tuneOf 9 = .ok (.getfield 21, 3) := by decide +kernel
theorem dX4_tuneOf_12 : decode cX4_tuneOf 12 = .ok (.iload_n 1, 1) := by decide +kernel
theorem dX4_tuneOf_13 : decode cX4_tuneOf 13 = .ok (.invokestatic 56, 3) := by decide +kernel
theorem dX4_tuneOf_16 : decode cX4_tuneOf 16 = .ok (.goto 4, 3) := by decide +kernel
theorem dX4_tuneOf_19 : decode cX4_tuneOf 19 = .ok (.iconst (-1), 1) := by decide +kernel
theorem dX4_tuneOf_20 : decode cX4_tuneOf 20 = .ok (.ireturn, 1) := by decide +kernel
theorem dX4_barOf_0 : decode cX4_barOf 0 = .ok (.aload_n 0, 1) := by decide +kernel
theorem dX4_barOf_1 : decode cX4_barOf 1 = .ok (.getfield 24, 3) := by decide +kernel
theorem dX4_barOf_4 : decode cX4_barOf 4 = .ok (.iload_n 1, 1) := by decide +kernel
theorem dX4_barOf_5 : decode cX4_barOf 5 = .ok (.invokestatic 56, 3) := by decide +kernel
theorem dX4_barOf_8 : decode cX4_barOf 8 = .ok (.ireturn, 1) := by decide +kernel
theorem dX4_understand_0 : decode cX4_understand 0 = .ok (.aload_n 0, 1) := by decide +kernel
theorem dX4_understand_1 : decode cX4_understand 1 = .ok (.iconst 0, 1) := by decide +kernel
theorem dX4_understand_2 : decode cX4_understand 2 = .ok (.putfield 31, 3) := by decide +kernel
theorem dX4_understand_5 : decode cX4_understand 5 = .ok (.aload_n 0, 1) := by decide +kernel
theorem dX4_understand_6 : decode cX4_understand 6 = .ok (.iconst 0, 1) := by decide +kernel
theorem dX4_understand_7 : decode cX4_understand 7 = .ok (.putfield 34, 3) := by decide +kernel
theorem dX4_understand_10 : decode cX4_understand 10 = .ok (.aload_n 0, 1) := by decide +kernel
theorem dX4_understand_11 : decode cX4_understand 11 = .ok (.iconst 0, 1) := by decide +kernel
theorem dX4_understand_12 : decode cX4_understand 12 = .ok (.putfield 37, 3) := by decide +kernel
theorem dX4_understand_15 : decode cX4_understand 15 = .ok (.aload_n 0, 1) := by decide +kernel
theorem dX4_understand_16 : decode cX4_understand 16 = .ok (.iconst (-1), 1) := by decide +kernel
theorem dX4_understand_17 : decode cX4_understand 17 = .ok (.putfield 40, 3) := by decide +kernel
theorem dX4_understand_20 : decode cX4_understand 20 = .ok (.iconst 0, 1) := by decide +kernel
theorem dX4_understand_21 : decode cX4_understand 21 = .ok (.istore_n 1, 1) := by decide +kernel
theorem dX4_understand_22 : decode cX4_understand 22 = .ok (.aload_n 0, 1) := by decide +kernel
theorem dX4_understand_23 : decode cX4_understand 23 = .ok (.getfield 27, 3) := by decide +kernel
theorem dX4_understand_26 : decode cX4_understand 26 = .ok (.ifCond .le 7, 3) := by decide +kernel
theorem dX4_understand_29 : decode cX4_understand 29 = .ok (.iconst 1, 1) := by decide +kernel
theorem dX4_understand_30 : decode cX4_understand 30 = .ok (.goto 4, 3) := by decide +kernel
theorem dX4_understand_33 : decode cX4_understand 33 = .ok (.iconst 0, 1) := by decide +kernel
theorem dX4_understand_34 : decode cX4_understand 34 = .ok (.istore_n 2, 1) := by decide +kernel
theorem dX4_understand_35 : decode cX4_understand 35 = .ok (.iconst 0, 1) := by decide +kernel
theorem dX4_understand_36 : decode cX4_understand 36 = .ok (.istore_n 3, 1) := by decide +kernel
theorem dX4_understand_37 : decode cX4_understand 37 = .ok (.iload_n 3, 1) := by decide +kernel
theorem dX4_understand_38 : decode cX4_understand 38 = .ok (.bipush 60, 2) := by decide +kernel
theorem dX4_understand_40 : decode cX4_understand 40 = .ok (.if_icmp .gt 43, 3) := by decide +kernel
theorem dX4_understand_43 : decode cX4_understand 43 = .ok (.iload_n 2, 1) := by decide +kernel
theorem dX4_understand_44 : decode cX4_understand 44 = .ok (.ifCond .eq 39, 3) := by decide +kernel
theorem dX4_understand_47 : decode cX4_understand 47 = .ok (.aload_n 0, 1) := by decide +kernel
theorem dX4_understand_48 : decode cX4_understand 48 = .ok (.getfield 40, 3) := by decide +kernel
theorem dX4_understand_51 : decode cX4_understand 51 = .ok (.iconst (-1), 1) := by decide +kernel
theorem dX4_understand_52 : decode cX4_understand 52 = .ok (.if_icmp .ne 31, 3) := by decide +kernel
theorem dX4_understand_55 : decode cX4_understand 55 = .ok (.aload_n 0, 1) := by decide +kernel
theorem dX4_understand_56 : decode cX4_understand 56 = .ok (.iload_n 1, 1) := by decide +kernel
theorem dX4_understand_57 : decode cX4_understand 57 = .ok (.invokevirtual 60, 3) := by decide +kernel
theorem dX4_understand_60 : decode cX4_understand 60 = .ok (.bipush 120, 2) := by decide +kernel
theorem dX4_understand_62 : decode cX4_understand 62 = .ok (.if_icmp .eq 7, 3) := by decide +kernel
theorem dX4_understand_65 : decode cX4_understand 65 = .ok (.iconst 1, 1) := by decide +kernel
theorem dX4_understand_66 : decode cX4_understand 66 = .ok (.goto 4, 3) := by decide +kernel
theorem dX4_understand_69 : decode cX4_understand 69 = .ok (.iconst 0, 1) := by decide +kernel
theorem dX4_understand_70 : decode cX4_understand 70 = .ok (.istore_n 2, 1) := by decide +kernel
theorem dX4_understand_71 : decode cX4_understand 71 = .ok (.aload_n 0, 1) := by decide +kernel
theorem dX4_understand_72 : decode cX4_understand 72 = .ok (.iload_n 1, 1) := by decide +kernel
theorem dX4_understand_73 : decode cX4_understand 73 = .ok (.invokevirtual 64, 3) := by decide +kernel
theorem dX4_understand_76 : decode cX4_understand 76 = .ok (.istore_n 1, 1) := by decide +kernel
theorem dX4_understand_77 : decode cX4_understand 77 = .ok (.iinc 3 1, 3) := by decide +kernel
theorem dX4_understand_80 : decode cX4_understand 80 = .ok (.goto (-43), 3) := by decide +kernel
theorem dX4_understand_83 : decode cX4_understand 83 = .ok (.aload_n 0, 1) := by decide +kernel
theorem dX4_understand_84 : decode cX4_understand 84 = .ok (.getfield 40, 3) := by decide +kernel
theorem dX4_understand_87 : decode cX4_understand 87 = .ok (.iconst (-1), 1) := by decide +kernel
theorem dX4_understand_88 : decode cX4_understand 88 = .ok (.if_icmp .ne 16, 3) := by decide +kernel
theorem dX4_understand_91 : decode cX4_understand 91 = .ok (.iload_n 1, 1) := by decide +kernel
theorem dX4_understand_92 : decode cX4_understand 92 = .ok (.aload_n 0, 1) := by decide +kernel
theorem dX4_understand_93 : decode cX4_understand 93 = .ok (.getfield 27, 3) := by decide +kernel
theorem dX4_understand_96 : decode cX4_understand 96 = .ok (.if_icmp .ge 8, 3) := by decide +kernel
theorem dX4_understand_99 : decode cX4_understand 99 = .ok (.aload_n 0, 1) := by decide +kernel
theorem dX4_understand_100 : decode cX4_understand 100 = .ok (.iload_n 1, 1) := by decide +kernel
theorem dX4_understand_101 : decode cX4_understand 101 = .ok (.putfield 40, 3) := by decide +kernel
theorem dX4_understand_104 : decode cX4_understand 104 = .ok (.aload_n 0, 1) := by decide +kernel
theorem dX4_understand_105 : decode cX4_understand 105 = .ok (.getfield 40, 3) := by decide +kernel
theorem dX4_understand_108 : decode cX4_understand 108 = .ok (.iconst (-1), 1) := by decide +kernel
theorem dX4_understand_109 : decode cX4_understand 109 = .ok (.if_icmp .eq 18, 3) := by decide +kernel
theorem dX4_understand_112 : decode cX4_understand 112 = .ok (.aload_n 0, 1) := by decide +kernel
theorem dX4_understand_113 : decode cX4_understand 113 = .ok (.iconst 0, 1) := by decide +kernel
theorem dX4_understand_114 : decode cX4_understand 114 = .ok (.putfield 31, 3) := by decide +kernel
theorem dX4_understand_117 : decode cX4_understand 117 = .ok (.aload_n 0, 1) := by decide +kernel
theorem dX4_understand_118 : decode cX4_understand 118 = .ok (.iconst 0, 1) := by decide +kernel
theorem dX4_understand_119 : decode cX4_understand 119 = .ok (.putfield 34, 3) := by decide +kernel
theorem dX4_understand_122 : decode cX4_understand 122 = .ok (.aload_n 0, 1) := by decide +kernel
theorem dX4_understand_123 : decode cX4_understand 123 = .ok (.iconst 0, 1) := by decide +kernel
theorem dX4_understand_124 : decode cX4_understand 124 = .ok (.putfield 37, 3) := by decide +kernel
theorem dX4_understand_127 : decode cX4_understand 127 = .ok (.return_, 1) := by decide +kernel
theorem dX4_byteAt_0 : decode cX4_byteAt 0 = .ok (.iload_n 1, 1) := by decide +kernel
theorem dX4_byteAt_1 : decode cX4_byteAt 1 = .ok (.aload_n 0, 1) := by decide +kernel
theorem dX4_byteAt_2 : decode cX4_byteAt 2 = .ok (.getfield 27, 3) := by decide +kernel
theorem dX4_byteAt_5 : decode cX4_byteAt 5 = .ok (.if_icmp .ge 14, 3) := by decide +kernel
theorem dX4_byteAt_8 : decode cX4_byteAt 8 = .ok (.aload_n 0, 1) := by decide +kernel
theorem dX4_byteAt_9 : decode cX4_byteAt 9 = .ok (.getfield 11, 3) := by decide +kernel
theorem dX4_byteAt_12 : decode cX4_byteAt 12 = .ok (.iload_n 1, 1) := by decide +kernel
theorem dX4_byteAt_13 : decode cX4_byteAt 13 = .ok (.invokestatic 56, 3) := by decide +kernel
theorem dX4_byteAt_16 : decode cX4_byteAt 16 = .ok (.goto 4, 3) := by decide +kernel
theorem dX4_byteAt_19 : decode cX4_byteAt 19 = .ok (.iconst (-1), 1) := by decide +kernel
theorem dX4_byteAt_20 : decode cX4_byteAt 20 = .ok (.ireturn, 1) := by decide +kernel
theorem dX4_passed_0 : decode cX4_passed 0 = .ok (.aload_n 0, 1) := by decide +kernel
theorem dX4_passed_1 : decode cX4_passed 1 = .ok (.iload_n 1, 1) := by decide +kernel
theorem dX4_passed_2 : decode cX4_passed 2 = .ok (.invokevirtual 60, 3) := by decide +kernel
theorem dX4_passed_5 : decode cX4_passed 5 = .ok (.lookupswitch 113 #[(99, 86), (100, 65), (109, 79), (112, 59), (119, 72), (120, 92)], 59) := by decide +kernel
theorem dX4_passed_64 : decode cX4_passed 64 = .ok (.aload_n 0, 1) := by decide +kernel
theorem dX4_passed_65 : decode cX4_passed 65 = .ok (.iload_n 1, 1) := by decide +kernel
theorem dX4_passed_66 : decode cX4_passed 66 = .ok (.invokevirtual 67, 3) := by decide +kernel
theorem dX4_passed_69 : decode cX4_passed 69 = .ok (.ireturn, 1) := by decide +kernel
theorem dX4_passed_70 : decode cX4_passed 70 = .ok (.aload_n 0, 1) := by decide +kernel
theorem dX4_passed_71 : decode cX4_passed 71 = .ok (.iload_n 1, 1) := by decide +kernel
theorem dX4_passed_72 : decode cX4_passed 72 = .ok (.iconst 0, 1) := by decide +kernel
theorem dX4_passed_73 : decode cX4_passed 73 = .ok (.invokevirtual 70, 3) := by decide +kernel
theorem dX4_passed_76 : decode cX4_passed 76 = .ok (.ireturn, 1) := by decide +kernel
theorem dX4_passed_77 : decode cX4_passed 77 = .ok (.aload_n 0, 1) := by decide +kernel
theorem dX4_passed_78 : decode cX4_passed 78 = .ok (.iload_n 1, 1) := by decide +kernel
theorem dX4_passed_79 : decode cX4_passed 79 = .ok (.iconst 1, 1) := by decide +kernel
theorem dX4_passed_80 : decode cX4_passed 80 = .ok (.invokevirtual 70, 3) := by decide +kernel
theorem dX4_passed_83 : decode cX4_passed 83 = .ok (.ireturn, 1) := by decide +kernel
theorem dX4_passed_84 : decode cX4_passed 84 = .ok (.aload_n 0, 1) := by decide +kernel
theorem dX4_passed_85 : decode cX4_passed 85 = .ok (.iload_n 1, 1) := by decide +kernel
theorem dX4_passed_86 : decode cX4_passed 86 = .ok (.iconst 2, 1) := by decide +kernel
theorem dX4_passed_87 : decode cX4_passed 87 = .ok (.invokevirtual 70, 3) := by decide +kernel
theorem dX4_passed_90 : decode cX4_passed 90 = .ok (.ireturn, 1) := by decide +kernel
theorem dX4_passed_91 : decode cX4_passed 91 = .ok (.aload_n 0, 1) := by decide +kernel
theorem dX4_passed_92 : decode cX4_passed 92 = .ok (.iload_n 1, 1) := by decide +kernel
theorem dX4_passed_93 : decode cX4_passed 93 = .ok (.invokevirtual 73, 3) := by decide +kernel
theorem dX4_passed_96 : decode cX4_passed 96 = .ok (.ireturn, 1) := by decide +kernel
theorem dX4_passed_97 : decode cX4_passed 97 = .ok (.aload_n 0, 1) := by decide +kernel
theorem dX4_passed_98 : decode cX4_passed 98 = .ok (.iconst 1, 1) := by decide +kernel
theorem dX4_passed_99 : decode cX4_passed 99 = .ok (.iconst 5, 1) := by decide +kernel
theorem dX4_passed_100 : decode cX4_passed 100 = .ok (.invokevirtual 76, 3) := by decide +kernel
theorem dX4_passed_103 : decode cX4_passed 103 = .ok (.ifCond .eq 9, 3) := by decide +kernel
theorem dX4_passed_106 : decode cX4_passed 106 = .ok (.iload_n 1, 1) := by decide +kernel
theorem dX4_passed_107 : decode cX4_passed 107 = .ok (.iconst 1, 1) := by decide +kernel
theorem dX4_passed_108 : decode cX4_passed 108 = .ok (.iadd, 1) := by decide +kernel
theorem dX4_passed_109 : decode cX4_passed 109 = .ok (.goto 8, 3) := by decide +kernel
theorem dX4_passed_112 : decode cX4_passed 112 = .ok (.aload_n 0, 1) := by decide +kernel
theorem dX4_passed_113 : decode cX4_passed 113 = .ok (.iload_n 1, 1) := by decide +kernel
theorem dX4_passed_114 : decode cX4_passed 114 = .ok (.invokevirtual 80, 3) := by decide +kernel
theorem dX4_passed_117 : decode cX4_passed 117 = .ok (.ireturn, 1) := by decide +kernel
theorem dX4_passed_118 : decode cX4_passed 118 = .ok (.aload_n 0, 1) := by decide +kernel
theorem dX4_passed_119 : decode cX4_passed 119 = .ok (.iload_n 1, 1) := by decide +kernel
theorem dX4_passed_120 : decode cX4_passed 120 = .ok (.invokevirtual 80, 3) := by decide +kernel
theorem dX4_passed_123 : decode cX4_passed 123 = .ok (.ireturn, 1) := by decide +kernel
theorem dX4_passedPlain_0 : decode cX4_passedPlain 0 = .ok (.aload_n 0, 1) := by decide +kernel
theorem dX4_passedPlain_1 : decode cX4_passedPlain 1 = .ok (.iload_n 1, 1) := by decide +kernel
theorem dX4_passedPlain_2 : decode cX4_passedPlain 2 = .ok (.iconst 1, 1) := by decide +kernel
theorem dX4_passedPlain_3 : decode cX4_passedPlain 3 = .ok (.iadd, 1) := by decide +kernel
theorem dX4_passedPlain_4 : decode cX4_passedPlain 4 = .ok (.invokevirtual 60, 3) := by decide +kernel
theorem dX4_passedPlain_7 : decode cX4_passedPlain 7 = .ok (.bipush 48, 2) := by decide +kernel
theorem dX4_passedPlain_9 : decode cX4_passedPlain 9 = .ok (.isub, 1) := by decide +kernel
theorem dX4_passedPlain_10 : decode cX4_passedPlain 10 = .ok (.istore_n 2, 1) := by decide +kernel
theorem dX4_passedPlain_11 : decode cX4_passedPlain 11 = .ok (.iload_n 2, 1) := by decide +kernel
theorem dX4_passedPlain_12 : decode cX4_passedPlain 12 = .ok (.iconst 0, 1) := by decide +kernel
theorem dX4_passedPlain_13 : decode cX4_passedPlain 13 = .ok (.bipush 9, 2) := by decide +kernel
theorem dX4_passedPlain_15 : decode cX4_passedPlain 15 = .ok (.invokestatic 83, 3) := by decide +kernel
theorem dX4_passedPlain_18 : decode cX4_passedPlain 18 = .ok (.ifCond .ne 11, 3) := by decide +kernel
theorem dX4_passedPlain_21 : decode cX4_passedPlain 21 = .ok (.aload_n 0, 1) := by decide +kernel
theorem dX4_passedPlain_22 : decode cX4_passedPlain 22 = .ok (.iload_n 1, 1) := by decide +kernel
theorem dX4_passedPlain_23 : decode cX4_passedPlain 23 = .ok (.iconst 1, 1) := by decide +kernel
theorem dX4_passedPlain_24 : decode cX4_passedPlain 24 = .ok (.iadd, 1) := by decide +kernel
theorem dX4_passedPlain_25 : decode cX4_passedPlain 25 = .ok (.invokevirtual 80, 3) := by decide +kernel
theorem dX4_passedPlain_28 : decode cX4_passedPlain 28 = .ok (.ireturn, 1) := by decide +kernel
theorem dX4_passedPlain_29 : decode cX4_passedPlain 29 = .ok (.aload_n 0, 1) := by decide +kernel
theorem dX4_passedPlain_30 : decode cX4_passedPlain 30 = .ok (.iload_n 1, 1) := by decide +kernel
theorem dX4_passedPlain_31 : decode cX4_passedPlain 31 = .ok (.iconst 2, 1) := by decide +kernel
theorem dX4_passedPlain_32 : decode cX4_passedPlain 32 = .ok (.iadd, 1) := by decide +kernel
theorem dX4_passedPlain_33 : decode cX4_passedPlain 33 = .ok (.invokevirtual 60, 3) := by decide +kernel
theorem dX4_passedPlain_36 : decode cX4_passedPlain 36 = .ok (.bipush 48, 2) := by decide +kernel
theorem dX4_passedPlain_38 : decode cX4_passedPlain 38 = .ok (.isub, 1) := by decide +kernel
theorem dX4_passedPlain_39 : decode cX4_passedPlain 39 = .ok (.istore_n 3, 1) := by decide +kernel
theorem dX4_passedPlain_40 : decode cX4_passedPlain 40 = .ok (.iload_n 3, 1) := by decide +kernel
theorem dX4_passedPlain_41 : decode cX4_passedPlain 41 = .ok (.iconst 0, 1) := by decide +kernel
theorem dX4_passedPlain_42 : decode cX4_passedPlain 42 = .ok (.bipush 9, 2) := by decide +kernel
theorem dX4_passedPlain_44 : decode cX4_passedPlain 44 = .ok (.invokestatic 83, 3) := by decide +kernel
theorem dX4_passedPlain_47 : decode cX4_passedPlain 47 = .ok (.ifCond .eq 23, 3) := by decide +kernel
theorem dX4_passedPlain_50 : decode cX4_passedPlain 50 = .ok (.iload_n 2, 1) := by decide +kernel
theorem dX4_passedPlain_51 : decode cX4_passedPlain 51 = .ok (.iload_n 3, 1) := by decide +kernel
theorem dX4_passedPlain_52 : decode cX4_passedPlain 52 = .ok (.iadd, 1) := by decide +kernel
theorem dX4_passedPlain_53 : decode cX4_passedPlain 53 = .ok (.ifCond .eq 17, 3) := by decide +kernel
theorem dX4_passedPlain_56 : decode cX4_passedPlain 56 = .ok (.aload_n 0, 1) := by decide +kernel
theorem dX4_passedPlain_57 : decode cX4_passedPlain 57 = .ok (.bipush 10, 2) := by decide +kernel
theorem dX4_passedPlain_59 : decode cX4_passedPlain 59 = .ok (.iload_n 2, 1) := by decide +kernel
theorem dX4_passedPlain_60 : decode cX4_passedPlain 60 = .ok (.imul, 1) := by decide +kernel
theorem dX4_passedPlain_61 : decode cX4_passedPlain 61 = .ok (.iload_n 3, 1) := by decide +kernel
theorem dX4_passedPlain_62 : decode cX4_passedPlain 62 = .ok (.iadd, 1) := by decide +kernel
theorem dX4_passedPlain_63 : decode cX4_passedPlain 63 = .ok (.iconst 3, 1) := by decide +kernel
theorem dX4_passedPlain_64 : decode cX4_passedPlain 64 = .ok (.invokevirtual 76, 3) := by decide +kernel
theorem dX4_passedPlain_67 : decode cX4_passedPlain 67 = .ok (.ifCond .ne 11, 3) := by decide +kernel
theorem dX4_passedPlain_70 : decode cX4_passedPlain 70 = .ok (.aload_n 0, 1) := by decide +kernel
theorem dX4_passedPlain_71 : decode cX4_passedPlain 71 = .ok (.iload_n 1, 1) := by decide +kernel
theorem dX4_passedPlain_72 : decode cX4_passedPlain 72 = .ok (.iconst 2, 1) := by decide +kernel
theorem dX4_passedPlain_73 : decode cX4_passedPlain 73 = .ok (.iadd, 1) := by decide +kernel
theorem dX4_passedPlain_74 : decode cX4_passedPlain 74 = .ok (.invokevirtual 80, 3) := by decide +kernel
theorem dX4_passedPlain_77 : decode cX4_passedPlain 77 = .ok (.ireturn, 1) := by decide +kernel
theorem dX4_passedPlain_78 : decode cX4_passedPlain 78 = .ok (.iload_n 1, 1) := by decide +kernel
theorem dX4_passedPlain_79 : decode cX4_passedPlain 79 = .ok (.iconst 3, 1) := by decide +kernel
theorem dX4_passedPlain_80 : decode cX4_passedPlain 80 = .ok (.iadd, 1) := by decide +kernel
theorem dX4_passedPlain_81 : decode cX4_passedPlain 81 = .ok (.ireturn, 1) := by decide +kernel
theorem dX4_passedLoose_0 : decode cX4_passedLoose 0 = .ok (.aload_n 0, 1) := by decide +kernel
theorem dX4_passedLoose_1 : decode cX4_passedLoose 1 = .ok (.getfield 34, 3) := by decide +kernel
theorem dX4_passedLoose_4 : decode cX4_passedLoose 4 = .ok (.bipush 10, 2) := by decide +kernel
theorem dX4_passedLoose_6 : decode cX4_passedLoose 6 = .ok (.if_icmp .ge 12, 3) := by decide +kernel
theorem dX4_passedLoose_9 : decode cX4_passedLoose 9 = .ok (.aload_n 0, 1) := by decide +kernel
theorem dX4_passedLoose_10 : decode cX4_passedLoose 10 = .ok (.iconst 1, 1) := by decide +kernel
theorem dX4_passedLoose_11 : decode cX4_passedLoose 11 = .ok (.iload_n 2, 1) := by decide +kernel
theorem dX4_passedLoose_12 : decode cX4_passedLoose 12 = .ok (.invokevirtual 76, 3) := by decide +kernel
theorem dX4_passedLoose_15 : decode cX4_passedLoose 15 = .ok (.ifCond .ne 9, 3) := by decide +kernel
theorem dX4_passedLoose_18 : decode cX4_passedLoose 18 = .ok (.aload_n 0, 1) := by decide +kernel
theorem dX4_passedLoose_19 : decode cX4_passedLoose 19 = .ok (.iload_n 1, 1) := by decide +kernel
theorem dX4_passedLoose_20 : decode cX4_passedLoose 20 = .ok (.invokevirtual 80, 3) := by decide +kernel
theorem dX4_passedLoose_23 : decode cX4_passedLoose 23 = .ok (.ireturn, 1) := by decide +kernel
theorem dX4_passedLoose_24 : decode cX4_passedLoose 24 = .ok (.aload_n 0, 1) := by decide +kernel
theorem dX4_passedLoose_25 : decode cX4_passedLoose 25 = .ok (.dup, 1) := by decide +kernel
theorem dX4_passedLoose_26 : decode cX4_passedLoose 26 = .ok (.getfield 34, 3) := by decide +kernel
theorem dX4_passedLoose_29 : decode cX4_passedLoose 29 = .ok (.iconst 1, 1) := by decide +kernel
theorem dX4_passedLoose_30 : decode cX4_passedLoose 30 = .ok (.iadd, 1) := by decide +kernel
theorem dX4_passedLoose_31 : decode cX4_passedLoose 31 = .ok (.putfield 34, 3) := by decide +kernel
theorem dX4_passedLoose_34 : decode cX4_passedLoose 34 = .ok (.iload_n 1, 1) := by decide +kernel
theorem dX4_passedLoose_35 : decode cX4_passedLoose 35 = .ok (.iconst 1, 1) := by decide +kernel
theorem dX4_passedLoose_36 : decode cX4_passedLoose 36 = .ok (.iadd, 1) := by decide +kernel
theorem dX4_passedLoose_37 : decode cX4_passedLoose 37 = .ok (.ireturn, 1) := by decide +kernel
theorem dX4_passedCue_0 : decode cX4_passedCue 0 = .ok (.aload_n 0, 1) := by decide +kernel
theorem dX4_passedCue_1 : decode cX4_passedCue 1 = .ok (.getfield 31, 3) := by decide +kernel
theorem dX4_passedCue_4 : decode cX4_passedCue 4 = .ok (.istore_n 2, 1) := by decide +kernel
theorem dX4_passedCue_5 : decode cX4_passedCue 5 = .ok (.aload_n 0, 1) := by decide +kernel
theorem dX4_passedCue_6 : decode cX4_passedCue 6 = .ok (.getfield 37, 3) := by decide +kernel
theorem dX4_passedCue_9 : decode cX4_passedCue 9 = .ok (.ifCond .lt 21, 3) := by decide +kernel
theorem dX4_passedCue_12 : decode cX4_passedCue 12 = .ok (.aload_n 0, 1) := by decide +kernel
theorem dX4_passedCue_13 : decode cX4_passedCue 13 = .ok (.getfield 37, 3) := by decide +kernel
theorem dX4_passedCue_16 : decode cX4_passedCue 16 = .ok (.bipush 6, 2) := by decide +kernel
theorem dX4_passedCue_18 : decode cX4_passedCue 18 = .ok (.if_icmp .ge 12, 3) := by decide +kernel
theorem dX4_passedCue_21 : decode cX4_passedCue 21 = .ok (.aload_n 0, 1) := by decide +kernel
theorem dX4_passedCue_22 : decode cX4_passedCue 22 = .ok (.iconst 1, 1) := by decide +kernel
theorem dX4_passedCue_23 : decode cX4_passedCue 23 = .ok (.iconst 4, 1) := by decide +kernel
theorem dX4_passedCue_24 : decode cX4_passedCue 24 = .ok (.invokevirtual 76, 3) := by decide +kernel
theorem dX4_passedCue_27 : decode cX4_passedCue 27 = .ok (.ifCond .ne 9, 3) := by decide +kernel
theorem dX4_passedCue_30 : decode cX4_passedCue 30 = .ok (.aload_n 0, 1) := by decide +kernel
theorem dX4_passedCue_31 : decode cX4_passedCue 31 = .ok (.iload_n 1, 1) := by decide +kernel
theorem dX4_passedCue_32 : decode cX4_passedCue 32 = .ok (.invokevirtual 80, 3) := by decide +kernel
theorem dX4_passedCue_35 : decode cX4_passedCue 35 = .ok (.ireturn, 1) := by decide +kernel
theorem dX4_passedCue_36 : decode cX4_passedCue 36 = .ok (.aload_n 0, 1) := by decide +kernel
theorem dX4_passedCue_37 : decode cX4_passedCue 37 = .ok (.iload_n 1, 1) := by decide +kernel
theorem dX4_passedCue_38 : decode cX4_passedCue 38 = .ok (.iconst 1, 1) := by decide +kernel
theorem dX4_passedCue_39 : decode cX4_passedCue 39 = .ok (.iadd, 1) := by decide +kernel
theorem dX4_passedCue_40 : decode cX4_passedCue 40 = .ok (.invokevirtual 60, 3) := by decide +kernel
theorem dX4_passedCue_43 : decode cX4_passedCue 43 = .ok (.bipush 97, 2) := by decide +kernel
theorem dX4_passedCue_45 : decode cX4_passedCue 45 = .ok (.isub, 1) := by decide +kernel
theorem dX4_passedCue_46 : decode cX4_passedCue 46 = .ok (.istore_n 3, 1) := by decide +kernel
theorem dX4_passedCue_47 : decode cX4_passedCue 47 = .ok (.iload_n 3, 1) := by decide +kernel
theorem dX4_passedCue_48 : decode cX4_passedCue 48 = .ok (.iconst 0, 1) := by decide +kernel
theorem dX4_passedCue_49 : decode cX4_passedCue 49 = .ok (.iconst 3, 1) := by decide +kernel
theorem dX4_passedCue_50 : decode cX4_passedCue 50 = .ok (.invokestatic 83, 3) := by decide +kernel
theorem dX4_passedCue_53 : decode cX4_passedCue 53 = .ok (.ifCond .eq 13, 3) := by decide +kernel
theorem dX4_passedCue_56 : decode cX4_passedCue 56 = .ok (.iload_n 2, 1) := by decide +kernel
theorem dX4_passedCue_57 : decode cX4_passedCue 57 = .ok (.iconst 0, 1) := by decide +kernel
theorem dX4_passedCue_58 : decode cX4_passedCue 58 = .ok (.bipush 98, 2) := by decide +kernel
theorem dX4_passedCue_60 : decode cX4_passedCue 60 = .ok (.invokestatic 83, 3) := by decide +kernel
theorem dX4_passedCue_63 : decode cX4_passedCue 63 = .ok (.ifCond .ne 11, 3) := by decide +kernel
theorem dX4_passedCue_66 : decode cX4_passedCue 66 = .ok (.aload_n 0, 1) := by decide +kernel
theorem dX4_passedCue_67 : decode cX4_passedCue 67 = .ok (.iload_n 1, 1) := by decide +kernel
theorem dX4_passedCue_68 : decode cX4_passedCue 68 = .ok (.iconst 1, 1) := by decide +kernel
theorem dX4_passedCue_69 : decode cX4_passedCue 69 = .ok (.iadd, 1) := by decide +kernel
theorem dX4_passedCue_70 : decode cX4_passedCue 70 = .ok (.invokevirtual 80, 3) := by decide +kernel
theorem dX4_passedCue_73 : decode cX4_passedCue 73 = .ok (.ireturn, 1) := by decide +kernel
theorem dX4_passedCue_74 : decode cX4_passedCue 74 = .ok (.aload_n 0, 1) := by decide +kernel
theorem dX4_passedCue_75 : decode cX4_passedCue 75 = .ok (.getfield 18, 3) := by decide +kernel
theorem dX4_passedCue_78 : decode cX4_passedCue 78 = .ok (.iload_n 2, 1) := by decide +kernel
theorem dX4_passedCue_79 : decode cX4_passedCue 79 = .ok (.aload_n 0, 1) := by decide +kernel
theorem dX4_passedCue_80 : decode cX4_passedCue 80 = .ok (.getfield 37, 3) := by decide +kernel
theorem dX4_passedCue_83 : decode cX4_passedCue 83 = .ok (.iastore, 1) := by decide +kernel
theorem dX4_passedCue_84 : decode cX4_passedCue 84 = .ok (.aload_n 0, 1) := by decide +kernel
theorem dX4_passedCue_85 : decode cX4_passedCue 85 = .ok (.getfield 21, 3) := by decide +kernel
theorem dX4_passedCue_88 : decode cX4_passedCue 88 = .ok (.iload_n 2, 1) := by decide +kernel
theorem dX4_passedCue_89 : decode cX4_passedCue 89 = .ok (.iload_n 3, 1) := by decide +kernel
theorem dX4_passedCue_90 : decode cX4_passedCue 90 = .ok (.iastore, 1) := by decide +kernel
theorem dX4_passedCue_91 : decode cX4_passedCue 91 = .ok (.aload_n 0, 1) := by decide +kernel
theorem dX4_passedCue_92 : decode cX4_passedCue 92 = .ok (.getfield 24, 3) := by decide +kernel
theorem dX4_passedCue_95 : decode cX4_passedCue 95 = .ok (.aload_n 0, 1) := by decide +kernel
theorem dX4_passedCue_96 : decode cX4_passedCue 96 = .ok (.getfield 37, 3) := by decide +kernel
theorem dX4_passedCue_99 : decode cX4_passedCue 99 = .ok (.iload_n 2, 1) := by decide +kernel
theorem dX4_passedCue_100 : decode cX4_passedCue 100 = .ok (.iastore, 1) := by decide +kernel
theorem dX4_passedCue_101 : decode cX4_passedCue 101 = .ok (.aload_n 0, 1) := by decide +kernel
theorem dX4_passedCue_102 : decode cX4_passedCue 102 = .ok (.dup, 1) := by decide +kernel
theorem dX4_passedCue_103 : decode cX4_passedCue 103 = .ok (.getfield 37, 3) := by decide +kernel
theorem dX4_passedCue_106 : decode cX4_passedCue 106 = .ok (.iconst 1, 1) := by decide +kernel
theorem dX4_passedCue_107 : decode cX4_passedCue 107 = .ok (.iadd, 1) := by decide +kernel
theorem dX4_passedCue_108 : decode cX4_passedCue 108 = .ok (.putfield 37, 3) := by decide +kernel
theorem dX4_passedCue_111 : decode cX4_passedCue 111 = .ok (.iload_n 1, 1) := by decide +kernel
theorem dX4_passedCue_112 : decode cX4_passedCue 112 = .ok (.iconst 2, 1) := by decide +kernel
theorem dX4_passedCue_113 : decode cX4_passedCue 113 = .ok (.iadd, 1) := by decide +kernel
theorem dX4_passedCue_114 : decode cX4_passedCue 114 = .ok (.ireturn, 1) := by decide +kernel
theorem dX4_addBars_0 : decode cX4_addBars 0 = .ok (.aload_n 0, 1) := by decide +kernel
theorem dX4_addBars_1 : decode cX4_addBars 1 = .ok (.getfield 31, 3) := by decide +kernel
theorem dX4_addBars_4 : decode cX4_addBars 4 = .ok (.iload_n 1, 1) := by decide +kernel
theorem dX4_addBars_5 : decode cX4_addBars 5 = .ok (.iadd, 1) := by decide +kernel
theorem dX4_addBars_6 : decode cX4_addBars 6 = .ok (.bipush 99, 2) := by decide +kernel
theorem dX4_addBars_8 : decode cX4_addBars 8 = .ok (.if_icmp .le 5, 3) := by decide +kernel
theorem dX4_addBars_11 : decode cX4_addBars 11 = .ok (.iconst 0, 1) := by decide +kernel
theorem dX4_addBars_12 : decode cX4_addBars 12 = .ok (.ireturn, 1) := by decide +kernel
theorem dX4_addBars_13 : decode cX4_addBars 13 = .ok (.iconst 0, 1) := by decide +kernel
theorem dX4_addBars_14 : decode cX4_addBars 14 = .ok (.aload_n 0, 1) := by decide +kernel
theorem dX4_addBars_15 : decode cX4_addBars 15 = .ok (.getfield 31, 3) := by decide +kernel
theorem dX4_addBars_18 : decode cX4_addBars 18 = .ok (.invokestatic 46, 3) := by decide +kernel
theorem dX4_addBars_21 : decode cX4_addBars 21 = .ok (.istore_n 3, 1) := by decide +kernel
theorem dX4_addBars_22 : decode cX4_addBars 22 = .ok (.iload_n 3, 1) := by decide +kernel
theorem dX4_addBars_23 : decode cX4_addBars 23 = .ok (.aload_n 0, 1) := by decide +kernel
theorem dX4_addBars_24 : decode cX4_addBars 24 = .ok (.getfield 31, 3) := by decide +kernel
theorem dX4_addBars_27 : decode cX4_addBars 27 = .ok (.iload_n 1, 1) := by decide +kernel
theorem dX4_addBars_28 : decode cX4_addBars 28 = .ok (.iadd, 1) := by decide +kernel
theorem dX4_addBars_29 : decode cX4_addBars 29 = .ok (.if_icmp .ge 36, 3) := by decide +kernel
theorem dX4_addBars_32 : decode cX4_addBars 32 = .ok (.iload_n 3, 1) := by decide +kernel
theorem dX4_addBars_33 : decode cX4_addBars 33 = .ok (.bipush 99, 2) := by decide +kernel
theorem dX4_addBars_35 : decode cX4_addBars 35 = .ok (.if_icmp .ge 30, 3) := by decide +kernel
theorem dX4_addBars_38 : decode cX4_addBars 38 = .ok (.aload_n 0, 1) := by decide +kernel
theorem dX4_addBars_39 : decode cX4_addBars 39 = .ok (.getfield 15, 3) := by decide +kernel
theorem dX4_addBars_42 : decode cX4_addBars 42 = .ok (.iload_n 3, 1) := by decide +kernel
theorem dX4_addBars_43 : decode cX4_addBars 43 = .ok (.iload_n 2, 1) := by decide +kernel
theorem dX4_addBars_44 : decode cX4_addBars 44 = .ok (.iastore, 1) := by decide +kernel
theorem dX4_addBars_45 : decode cX4_addBars 45 = .ok (.aload_n 0, 1) := by decide +kernel
theorem dX4_addBars_46 : decode cX4_addBars 46 = .ok (.getfield 18, 3) := by decide +kernel
theorem dX4_addBars_49 : decode cX4_addBars 49 = .ok (.iload_n 3, 1) := by decide +kernel
theorem dX4_addBars_50 : decode cX4_addBars 50 = .ok (.iconst (-1), 1) := by decide +kernel
theorem dX4_addBars_51 : decode cX4_addBars 51 = .ok (.iastore, 1) := by decide +kernel
theorem dX4_addBars_52 : decode cX4_addBars 52 = .ok (.aload_n 0, 1) := by decide +kernel
theorem dX4_addBars_53 : decode cX4_addBars 53 = .ok (.getfield 21, 3) := by decide +kernel
theorem dX4_addBars_56 : decode cX4_addBars 56 = .ok (.iload_n 3, 1) := by decide +kernel
theorem dX4_addBars_57 : decode cX4_addBars 57 = .ok (.iconst (-1), 1) := by decide +kernel
theorem dX4_addBars_58 : decode cX4_addBars 58 = .ok (.iastore, 1) := by decide +kernel
theorem dX4_addBars_59 : decode cX4_addBars 59 = .ok (.iinc 3 1, 3) := by decide +kernel
theorem dX4_addBars_62 : decode cX4_addBars 62 = .ok (.goto (-40), 3) := by decide +kernel
theorem dX4_addBars_65 : decode cX4_addBars 65 = .ok (.aload_n 0, 1) := by decide +kernel
theorem dX4_addBars_66 : decode cX4_addBars 66 = .ok (.dup, 1) := by decide +kernel
theorem dX4_addBars_67 : decode cX4_addBars 67 = .ok (.getfield 31, 3) := by decide +kernel
theorem dX4_addBars_70 : decode cX4_addBars 70 = .ok (.iload_n 1, 1) := by decide +kernel
theorem dX4_addBars_71 : decode cX4_addBars 71 = .ok (.iadd, 1) := by decide +kernel
theorem dX4_addBars_72 : decode cX4_addBars 72 = .ok (.putfield 31, 3) := by decide +kernel
theorem dX4_addBars_75 : decode cX4_addBars 75 = .ok (.iconst 1, 1) := by decide +kernel
theorem dX4_addBars_76 : decode cX4_addBars 76 = .ok (.ireturn, 1) := by decide +kernel
theorem dX4_faultAt_0 : decode cX4_faultAt 0 = .ok (.aload_n 0, 1) := by decide +kernel
theorem dX4_faultAt_1 : decode cX4_faultAt 1 = .ok (.iload_n 1, 1) := by decide +kernel
theorem dX4_faultAt_2 : decode cX4_faultAt 2 = .ok (.putfield 40, 3) := by decide +kernel
theorem dX4_faultAt_5 : decode cX4_faultAt 5 = .ok (.iload_n 1, 1) := by decide +kernel
theorem dX4_faultAt_6 : decode cX4_faultAt 6 = .ok (.ireturn, 1) := by decide +kernel
theorem dX5_init_0 : decode cX5_init 0 = .ok (.aload_n 0, 1) := by decide +kernel
theorem dX5_init_1 : decode cX5_init 1 = .ok (.invokespecial 3, 3) := by decide +kernel
theorem dX5_init_4 : decode cX5_init 4 = .ok (.aload_n 0, 1) := by decide +kernel
theorem dX5_init_5 : decode cX5_init 5 = .ok (.bipush 8, 2) := by decide +kernel
theorem dX5_init_7 : decode cX5_init 7 = .ok (.newarray .int, 2) := by decide +kernel
theorem dX5_init_9 : decode cX5_init 9 = .ok (.putfield 11, 3) := by decide +kernel
theorem dX5_init_12 : decode cX5_init 12 = .ok (.aload_n 0, 1) := by decide +kernel
theorem dX5_init_13 : decode cX5_init 13 = .ok (.bipush 8, 2) := by decide +kernel
theorem dX5_init_15 : decode cX5_init 15 = .ok (.newarray .int, 2) := by decide +kernel
theorem dX5_init_17 : decode cX5_init 17 = .ok (.putfield 15, 3) := by decide +kernel
theorem dX5_init_20 : decode cX5_init 20 = .ok (.aload_n 0, 1) := by decide +kernel
theorem dX5_init_21 : decode cX5_init 21 = .ok (.bipush 8, 2) := by decide +kernel
theorem dX5_init_23 : decode cX5_init 23 = .ok (.newarray .int, 2) := by decide +kernel
theorem dX5_init_25 : decode cX5_init 25 = .ok (.putfield 18, 3) := by decide +kernel
theorem dX5_init_28 : decode cX5_init 28 = .ok (.aload_n 0, 1) := by decide +kernel
theorem dX5_init_29 : decode cX5_init 29 = .ok (.bipush 8, 2) := by decide +kernel
theorem dX5_init_31 : decode cX5_init 31 = .ok (.newarray .int, 2) := by decide +kernel
theorem dX5_init_33 : decode cX5_init 33 = .ok (.putfield 21, 3) := by decide +kernel
theorem dX5_init_36 : decode cX5_init 36 = .ok (.aload_n 0, 1) := by decide +kernel
theorem dX5_init_37 : decode cX5_init 37 = .ok (.iconst 0, 1) := by decide +kernel
theorem dX5_init_38 : decode cX5_init 38 = .ok (.putfield 24, 3) := by decide +kernel
theorem dX5_init_41 : decode cX5_init 41 = .ok (.return_, 1) := by decide +kernel
theorem dX5_append_0 : decode cX5_append 0 = .ok (.aload_n 0, 1) := by decide +kernel
theorem dX5_append_1 : decode cX5_append 1 = .ok (.getfield 24, 3) := by decide +kernel
theorem dX5_append_4 : decode cX5_append 4 = .ok (.ifCond .lt 12, 3) := by decide +kernel
theorem dX5_append_7 : decode cX5_append 7 = .ok (.aload_n 0, 1) := by decide +kernel
theorem dX5_append_8 : decode cX5_append 8 = .ok (.getfield 24, 3) := by decide +kernel
theorem dX5_append_11 : decode cX5_append 11 = .ok (.bipush 8, 2) := by decide +kernel
theorem dX5_append_13 : decode cX5_append 13 = .ok (.if_icmp .lt 5, 3) := by decide +kernel
theorem dX5_append_16 : decode cX5_append 16 = .ok (.iconst 0, 1) := by decide +kernel
theorem dX5_append_17 : decode cX5_append 17 = .ok (.ireturn, 1) := by decide +kernel
theorem dX5_append_18 : decode cX5_append 18 = .ok (.aload_n 0, 1) := by decide +kernel
theorem dX5_append_19 : decode cX5_append 19 = .ok (.getfield 11, 3) := by decide +kernel
theorem dX5_append_22 : decode cX5_append 22 = .ok (.aload_n 0, 1) := by decide +kernel
theorem dX5_append_23 : decode cX5_append 23 = .ok (.getfield 24, 3) := by decide +kernel
theorem dX5_append_26 : decode cX5_append 26 = .ok (.iload_n 1, 1) := by decide +kernel
theorem dX5_append_27 : decode cX5_append 27 = .ok (.iastore, 1) := by decide +kernel
theorem dX5_append_28 : decode cX5_append 28 = .ok (.aload_n 0, 1) := by decide +kernel
theorem dX5_append_29 : decode cX5_append 29 = .ok (.getfield 15, 3) := by decide +kernel
theorem dX5_append_32 : decode cX5_append 32 = .ok (.aload_n 0, 1) := by decide +kernel
theorem dX5_append_33 : decode cX5_append 33 = .ok (.getfield 24, 3) := by decide +kernel
theorem dX5_append_36 : decode cX5_append 36 = .ok (.iload_n 2, 1) := by decide +kernel
theorem dX5_append_37 : decode cX5_append 37 = .ok (.iastore, 1) := by decide +kernel
theorem dX5_append_38 : decode cX5_append 38 = .ok (.aload_n 0, 1) := by decide +kernel
theorem dX5_append_39 : decode cX5_append 39 = .ok (.getfield 24, 3) := by decide +kernel
theorem dX5_append_42 : decode cX5_append 42 = .ok (.istore_n 3, 1) := by decide +kernel
theorem dX5_append_43 : decode cX5_append 43 = .ok (.aload_n 0, 1) := by decide +kernel
theorem dX5_append_44 : decode cX5_append 44 = .ok (.getfield 24, 3) := by decide +kernel
theorem dX5_append_47 : decode cX5_append 47 = .ok (.istore 4, 2) := by decide +kernel
theorem dX5_append_49 : decode cX5_append 49 = .ok (.iload 4, 2) := by decide +kernel
theorem dX5_append_51 : decode cX5_append 51 = .ok (.ifCond .le 50, 3) := by decide +kernel
theorem dX5_append_54 : decode cX5_append 54 = .ok (.aload_n 0, 1) := by decide +kernel
theorem dX5_append_55 : decode cX5_append 55 = .ok (.getfield 11, 3) := by decide +kernel
theorem dX5_append_58 : decode cX5_append 58 = .ok (.aload_n 0, 1) := by decide +kernel
theorem dX5_append_59 : decode cX5_append 59 = .ok (.getfield 18, 3) := by decide +kernel
theorem dX5_append_62 : decode cX5_append 62 = .ok (.iload 4, 2) := by decide +kernel
theorem dX5_append_64 : decode cX5_append 64 = .ok (.iconst 1, 1) := by decide +kernel
theorem dX5_append_65 : decode cX5_append 65 = .ok (.isub, 1) := by decide +kernel
theorem dX5_append_66 : decode cX5_append 66 = .ok (.iaload, 1) := by decide +kernel
theorem dX5_append_67 : decode cX5_append 67 = .ok (.invokestatic 28, 3) := by decide +kernel
theorem dX5_append_70 : decode cX5_append 70 = .ok (.iload_n 1, 1) := by decide +kernel
theorem dX5_append_71 : decode cX5_append 71 = .ok (.if_icmp .le 30, 3) := by decide +kernel
theorem dX5_append_74 : decode cX5_append 74 = .ok (.aload_n 0, 1) := by decide +kernel
theorem dX5_append_75 : decode cX5_append 75 = .ok (.getfield 18, 3) := by decide +kernel
theorem dX5_append_78 : decode cX5_append 78 = .ok (.iload 4, 2) := by decide +kernel
theorem dX5_append_80 : decode cX5_append 80 = .ok (.aload_n 0, 1) := by decide +kernel
theorem dX5_append_81 : decode cX5_append 81 = .ok (.getfield 18, 3) := by decide +kernel
theorem dX5_append_84 : decode cX5_append 84 = .ok (.iload 4, 2) := by decide +kernel
theorem dX5_append_86 : decode cX5_append 86 = .ok (.iconst 1, 1) := by decide +kernel
theorem dX5_append_87 : decode cX5_append 87 = .ok (.isub, 1) := by decide +kernel
theorem dX5_append_88 : decode cX5_append 88 = .ok (.iaload, 1) := by decide +kernel
theorem dX5_append_89 : decode cX5_append 89 = .ok (.iastore, 1) := by decide +kernel
theorem dX5_append_90 : decode cX5_append 90 = .ok (.iload 4, 2) := by decide +kernel
theorem dX5_append_92 : decode cX5_append 92 = .ok (.iconst 1, 1) := by decide +kernel
theorem dX5_append_93 : decode cX5_append 93 = .ok (.isub, 1) := by decide +kernel
theorem dX5_append_94 : decode cX5_append 94 = .ok (.istore_n 3, 1) := by decide +kernel
theorem dX5_append_95 : decode cX5_append 95 = .ok (.iinc 4 (-1), 3) := by decide +kernel
theorem dX5_append_98 : decode cX5_append 98 = .ok (.goto (-49), 3) := by decide +kernel
theorem dX5_append_101 : decode cX5_append 101 = .ok (.aload_n 0, 1) := by decide +kernel
theorem dX5_append_102 : decode cX5_append 102 = .ok (.getfield 18, 3) := by decide +kernel
theorem dX5_append_105 : decode cX5_append 105 = .ok (.iload_n 3, 1) := by decide +kernel
theorem dX5_append_106 : decode cX5_append 106 = .ok (.aload_n 0, 1) := by decide +kernel
theorem dX5_append_107 : decode cX5_append 107 = .ok (.getfield 24, 3) := by decide +kernel
theorem dX5_append_110 : decode cX5_append 110 = .ok (.iastore, 1) := by decide +kernel
theorem dX5_append_111 : decode cX5_append 111 = .ok (.aload_n 0, 1) := by decide +kernel
theorem dX5_append_112 : decode cX5_append 112 = .ok (.dup, 1) := by decide +kernel
theorem dX5_append_113 : decode cX5_append 113 = .ok (.getfield 24, 3) := by decide +kernel
theorem dX5_append_116 : decode cX5_append 116 = .ok (.iconst 1, 1) := by decide +kernel
theorem dX5_append_117 : decode cX5_append 117 = .ok (.iadd, 1) := by decide +kernel
theorem dX5_append_118 : decode cX5_append 118 = .ok (.putfield 24, 3) := by decide +kernel
theorem dX5_append_121 : decode cX5_append 121 = .ok (.iconst 1, 1) := by decide +kernel
theorem dX5_append_122 : decode cX5_append 122 = .ok (.ireturn, 1) := by decide +kernel
theorem dX5_bestBits_0 : decode cX5_bestBits 0 = .ok (.iconst 0, 1) := by decide +kernel
theorem dX5_bestBits_1 : decode cX5_bestBits 1 = .ok (.istore_n 1, 1) := by decide +kernel
theorem dX5_bestBits_2 : decode cX5_bestBits 2 = .ok (.iconst 0, 1) := by decide +kernel
theorem dX5_bestBits_3 : decode cX5_bestBits 3 = .ok (.istore_n 2, 1) := by decide +kernel
theorem dX5_bestBits_4 : decode cX5_bestBits 4 = .ok (.iconst 1, 1) := by decide +kernel
theorem dX5_bestBits_5 : decode cX5_bestBits 5 = .ok (.istore_n 3, 1) := by decide +kernel
theorem dX5_bestBits_6 : decode cX5_bestBits 6 = .ok (.iload_n 3, 1) := by decide +kernel
theorem dX5_bestBits_7 : decode cX5_bestBits 7 = .ok (.iconst 1, 1) := by decide +kernel
theorem dX5_bestBits_8 : decode cX5_bestBits 8 = .ok (.aload_n 0, 1) := by decide +kernel
theorem dX5_bestBits_9 : decode cX5_bestBits 9 = .ok (.getfield 24, 3) := by decide +kernel
theorem dX5_bestBits_12 : decode cX5_bestBits 12 = .ok (.ishl, 1) := by decide +kernel
theorem dX5_bestBits_13 : decode cX5_bestBits 13 = .ok (.if_icmp .ge 27, 3) := by decide +kernel
theorem dX5_bestBits_16 : decode cX5_bestBits 16 = .ok (.aload_n 0, 1) := by decide +kernel
theorem dX5_bestBits_17 : decode cX5_bestBits 17 = .ok (.iload_n 3, 1) := by decide +kernel
theorem dX5_bestBits_18 : decode cX5_bestBits 18 = .ok (.invokevirtual 32, 3) := by decide +kernel
theorem dX5_bestBits_21 : decode cX5_bestBits 21 = .ok (.istore 4, 2) := by decide +kernel
theorem dX5_bestBits_23 : decode cX5_bestBits 23 = .ok (.iload 4, 2) := by decide +kernel
theorem dX5_bestBits_25 : decode cX5_bestBits 25 = .ok (.iload_n 2, 1) := by decide +kernel
theorem dX5_bestBits_26 : decode cX5_bestBits 26 = .ok (.if_icmp .le 8, 3) := by decide +kernel
theorem dX5_bestBits_29 : decode cX5_bestBits 29 = .ok (.iload 4, 2) := by decide +kernel
theorem dX5_bestBits_31 : decode cX5_bestBits 31 = .ok (.istore_n 2, 1) := by decide +kernel
theorem dX5_bestBits_32 : decode cX5_bestBits 32 = .ok (.iload_n 3, 1) := by decide +kernel
theorem dX5_bestBits_33 : decode cX5_bestBits 33 = .ok (.istore_n 1, 1) := by decide +kernel
theorem dX5_bestBits_34 : decode cX5_bestBits 34 = .ok (.iinc 3 1, 3) := by decide +kernel
theorem dX5_bestBits_37 : decode cX5_bestBits 37 = .ok (.goto (-31), 3) := by decide +kernel
theorem dX5_bestBits_40 : decode cX5_bestBits 40 = .ok (.iload_n 1, 1) := by decide +kernel
theorem dX5_bestBits_41 : decode cX5_bestBits 41 = .ok (.ireturn, 1) := by decide +kernel
theorem dX5_plan_0 : decode cX5_plan 0 = .ok (.aload_n 0, 1) := by decide +kernel
theorem dX5_plan_1 : decode cX5_plan 1 = .ok (.getfield 21, 3) := by decide +kernel
theorem dX5_plan_4 : decode cX5_plan 4 = .ok (.iconst (-1), 1) := by decide +kernel
theorem dX5_plan_5 : decode cX5_plan 5 = .ok (.invokestatic 36, 3) := by decide +kernel
theorem dX5_plan_8 : decode cX5_plan 8 = .ok (.iconst 0, 1) := by decide +kernel
theorem dX5_plan_9 : decode cX5_plan 9 = .ok (.istore_n 2, 1) := by decide +kernel
theorem dX5_plan_10 : decode cX5_plan 10 = .ok (.iconst 0, 1) := by decide +kernel
theorem dX5_plan_11 : decode cX5_plan 11 = .ok (.istore_n 3, 1) := by decide +kernel
theorem dX5_plan_12 : decode cX5_plan 12 = .ok (.iconst 0, 1) := by decide +kernel
theorem dX5_plan_13 : decode cX5_plan 13 = .ok (.istore 4, 2) := by decide +kernel
theorem dX5_plan_15 : decode cX5_plan 15 = .ok (.iload 4, 2) := by decide +kernel
theorem dX5_plan_17 : decode cX5_plan 17 = .ok (.aload_n 0, 1) := by decide +kernel
theorem dX5_plan_18 : decode cX5_plan 18 = .ok (.getfield 24, 3) := by decide +kernel
theorem dX5_plan_21 : decode cX5_plan 21 = .ok (.if_icmp .ge 101, 3) := by decide +kernel
theorem dX5_plan_24 : decode cX5_plan 24 = .ok (.iload 4, 2) := by decide +kernel
theorem dX5_plan_26 : decode cX5_plan 26 = .ok (.bipush 8, 2) := by decide +kernel
theorem dX5_plan_28 : decode cX5_plan 28 = .ok (.if_icmp .ge 94, 3) := by decide +kernel
theorem dX5_plan_31 : decode cX5_plan 31 = .ok (.aload_n 0, 1) := by decide +kernel
theorem dX5_plan_32 : decode cX5_plan 32 = .ok (.getfield 18, 3) := by decide +kernel
theorem dX5_plan_35 : decode cX5_plan 35 = .ok (.iload 4, 2) := by decide +kernel
theorem dX5_plan_37 : decode cX5_plan 37 = .ok (.iaload, 1) := by decide +kernel
theorem dX5_plan_38 : decode cX5_plan 38 = .ok (.istore 5, 2) := by decide +kernel
theorem dX5_plan_40 : decode cX5_plan 40 = .ok (.iload 5, 2) := by decide +kernel
theorem dX5_plan_42 : decode cX5_plan 42 = .ok (.iconst 0, 1) := by decide +kernel
theorem dX5_plan_43 : decode cX5_plan 43 = .ok (.bipush 7, 2) := by decide +kernel
theorem dX5_plan_45 : decode cX5_plan 45 = .ok (.invokestatic 42, 3) := by decide +kernel
theorem dX5_plan_48 : decode cX5_plan 48 = .ok (.ifCond .eq 68, 3) := by decide +kernel
theorem dX5_plan_51 : decode cX5_plan 51 = .ok (.iload_n 1, 1) := by decide +kernel
theorem dX5_plan_52 : decode cX5_plan 52 = .ok (.iload 5, 2) := by decide +kernel
theorem dX5_plan_54 : decode cX5_plan 54 = .ok (.ishr, 1) := by decide +kernel
theorem dX5_plan_55 : decode cX5_plan 55 = .ok (.iconst 1, 1) := by decide +kernel
theorem dX5_plan_56 : decode cX5_plan 56 = .ok (.iand, 1) := by decide +kernel
theorem dX5_plan_57 : decode cX5_plan 57 = .ok (.ifCond .ne 6, 3) := by decide +kernel
theorem dX5_plan_60 : decode cX5_plan 60 = .ok (.goto 56, 3) := by decide +kernel
theorem dX5_plan_63 : decode cX5_plan 63 = .ok (.iload_n 2, 1) := by decide +kernel
theorem dX5_plan_64 : decode cX5_plan 64 = .ok (.aload_n 0, 1) := by decide +kernel
theorem dX5_plan_65 : decode cX5_plan 65 = .ok (.getfield 11, 3) := by decide +kernel
theorem dX5_plan_68 : decode cX5_plan 68 = .ok (.iload 5, 2) := by decide +kernel
theorem dX5_plan_70 : decode cX5_plan 70 = .ok (.iaload, 1) := by decide +kernel
theorem dX5_plan_71 : decode cX5_plan 71 = .ok (.iconst 3, 1) := by decide +kernel
theorem dX5_plan_72 : decode cX5_plan 72 = .ok (.isub, 1) := by decide +kernel
theorem dX5_plan_73 : decode cX5_plan 73 = .ok (.invokestatic 46, 3) := by decide +kernel
theorem dX5_plan_76 : decode cX5_plan 76 = .ok (.istore 6, 2) := by decide +kernel
theorem dX5_plan_78 : decode cX5_plan 78 = .ok (.iload 6, 2) := by decide +kernel
theorem dX5_plan_80 : decode cX5_plan 80 = .ok (.aload_n 0, 1) := by decide +kernel
theorem dX5_plan_81 : decode cX5_plan 81 = .ok (.getfield 11, 3) := by decide +kernel
theorem dX5_plan_84 : decode cX5_plan 84 = .ok (.iload 5, 2) := by decide +kernel
theorem dX5_plan_86 : decode cX5_plan 86 = .ok (.iaload, 1) := by decide +kernel
theorem dX5_plan_87 : decode cX5_plan 87 = .ok (.if_icmp .lt 5, 3) := by decide +kernel
theorem dX5_plan_90 : decode cX5_plan 90 = .ok (.iconst (-1), 1) := by decide +kernel
theorem dX5_plan_91 : decode cX5_plan 91 = .ok (.ireturn, 1) := by decide +kernel
theorem dX5_plan_92 : decode cX5_plan 92 = .ok (.aload_n 0, 1) := by decide +kernel
theorem dX5_plan_93 : decode cX5_plan 93 = .ok (.getfield 21, 3) := by decide +kernel
theorem dX5_plan_96 : decode cX5_plan 96 = .ok (.iload 5, 2) := by decide +kernel
theorem dX5_plan_98 : decode cX5_plan 98 = .ok (.iload 6, 2) := by decide +kernel
theorem dX5_plan_100 : decode cX5_plan 100 = .ok (.iastore, 1) := by decide +kernel
theorem dX5_plan_101 : decode cX5_plan 101 = .ok (.iload 6, 2) := by decide +kernel
theorem dX5_plan_103 : decode cX5_plan 103 = .ok (.iconst 1, 1) := by decide +kernel
theorem dX5_plan_104 : decode cX5_plan 104 = .ok (.iadd, 1) := by decide +kernel
theorem dX5_plan_105 : decode cX5_plan 105 = .ok (.istore_n 2, 1) := by decide +kernel
theorem dX5_plan_106 : decode cX5_plan 106 = .ok (.iload_n 3, 1) := by decide +kernel
theorem dX5_plan_107 : decode cX5_plan 107 = .ok (.aload_n 0, 1) := by decide +kernel
theorem dX5_plan_108 : decode cX5_plan 108 = .ok (.getfield 15, 3) := by decide +kernel
theorem dX5_plan_111 : decode cX5_plan 111 = .ok (.iload 5, 2) := by decide +kernel
theorem dX5_plan_113 : decode cX5_plan 113 = .ok (.iaload, 1) := by decide +kernel
theorem dX5_plan_114 : decode cX5_plan 114 = .ok (.iadd, 1) := by decide +kernel
theorem dX5_plan_115 : decode cX5_plan 115 = .ok (.istore_n 3, 1) := by decide +kernel
theorem dX5_plan_116 : decode cX5_plan 116 = .ok (.iinc 4 1, 3) := by decide +kernel
theorem dX5_plan_119 : decode cX5_plan 119 = .ok (.goto (-104), 3) := by decide +kernel
theorem dX5_plan_122 : decode cX5_plan 122 = .ok (.iload_n 3, 1) := by decide +kernel
theorem dX5_plan_123 : decode cX5_plan 123 = .ok (.ireturn, 1) := by decide +kernel
theorem dX5_lookedAtIn_0 : decode cX5_lookedAtIn 0 = .ok (.iconst 0, 1) := by decide +kernel
theorem dX5_lookedAtIn_1 : decode cX5_lookedAtIn 1 = .ok (.istore_n 2, 1) := by decide +kernel
theorem dX5_lookedAtIn_2 : decode cX5_lookedAtIn 2 = .ok (.iload_n 2, 1) := by decide +kernel
theorem dX5_lookedAtIn_3 : decode cX5_lookedAtIn 3 = .ok (.aload_n 0, 1) := by decide +kernel
theorem dX5_lookedAtIn_4 : decode cX5_lookedAtIn 4 = .ok (.getfield 24, 3) := by decide +kernel
theorem dX5_lookedAtIn_7 : decode cX5_lookedAtIn 7 = .ok (.if_icmp .ge 27, 3) := by decide +kernel
theorem dX5_lookedAtIn_10 : decode cX5_lookedAtIn 10 = .ok (.iload_n 2, 1) := by decide +kernel
theorem dX5_lookedAtIn_11 : decode cX5_lookedAtIn 11 = .ok (.bipush 8, 2) := by decide +kernel
theorem dX5_lookedAtIn_13 : decode cX5_lookedAtIn 13 = .ok (.if_icmp .ge 21, 3) := by decide +kernel
theorem dX5_lookedAtIn_16 : decode cX5_lookedAtIn 16 = .ok (.aload_n 0, 1) := by decide +kernel
theorem dX5_lookedAtIn_17 : decode cX5_lookedAtIn 17 = .ok (.getfield 21, 3) := by decide +kernel
theorem dX5_lookedAtIn_20 : decode cX5_lookedAtIn 20 = .ok (.iload_n 2, 1) := by decide +kernel
theorem dX5_lookedAtIn_21 : decode cX5_lookedAtIn 21 = .ok (.iaload, 1) := by decide +kernel
theorem dX5_lookedAtIn_22 : decode cX5_lookedAtIn 22 = .ok (.iload_n 1, 1) := by decide +kernel
theorem dX5_lookedAtIn_23 : decode cX5_lookedAtIn 23 = .ok (.if_icmp .ne 5, 3) := by decide +kernel
theorem dX5_lookedAtIn_26 : decode cX5_lookedAtIn 26 = .ok (.iload_n 2, 1) := by decide +kernel
theorem dX5_lookedAtIn_27 : decode cX5_lookedAtIn 27 = .ok (.ireturn, 1) := by decide +kernel
theorem dX5_lookedAtIn_28 : decode cX5_lookedAtIn 28 = .ok (.iinc 2 1, 3) := by decide +kernel
theorem dX5_lookedAtIn_31 : decode cX5_lookedAtIn 31 = .ok (.goto (-29), 3) := by decide +kernel
theorem dX5_lookedAtIn_34 : decode cX5_lookedAtIn 34 = .ok (.iconst (-1), 1) := by decide +kernel
theorem dX5_lookedAtIn_35 : decode cX5_lookedAtIn 35 = .ok (.ireturn, 1) := by decide +kernel
theorem dX6_init_0 : decode cX6_init 0 = .ok (.aload_n 0, 1) := by decide +kernel
theorem dX6_init_1 : decode cX6_init 1 = .ok (.invokespecial 1, 3) := by decide +kernel
theorem dX6_init_4 : decode cX6_init 4 = .ok (.aload_n 0, 1) := by decide +kernel
theorem dX6_init_5 : decode cX6_init 5 = .ok (.bipush 9, 2) := by decide +kernel
theorem dX6_init_7 : decode cX6_init 7 = .ok (.newarray .int, 2) := by decide +kernel
theorem dX6_init_9 : decode cX6_init 9 = .ok (.dup, 1) := by decide +kernel
theorem dX6_init_10 : decode cX6_init 10 = .ok (.iconst 0, 1) := by decide +kernel
theorem dX6_init_11 : decode cX6_init 11 = .ok (.bipush 14, 2) := by decide +kernel
theorem dX6_init_13 : decode cX6_init 13 = .ok (.iastore, 1) := by decide +kernel
theorem dX6_init_14 : decode cX6_init 14 = .ok (.dup, 1) := by decide +kernel
theorem dX6_init_15 : decode cX6_init 15 = .ok (.iconst 1, 1) := by decide +kernel
theorem dX6_init_16 : decode cX6_init 16 = .ok (.iconst 2, 1) := by decide +kernel
theorem dX6_init_17 : decode cX6_init 17 = .ok (.iastore, 1) := by decide +kernel
theorem dX6_init_18 : decode cX6_init 18 = .ok (.dup, 1) := by decide +kernel
theorem dX6_init_19 : decode cX6_init 19 = .ok (.iconst 2, 1) := by decide +kernel
theorem dX6_init_20 : decode cX6_init 20 = .ok (.iconst 1, 1) := by decide +kernel
theorem dX6_init_21 : decode cX6_init 21 = .ok (.iastore, 1) := by decide +kernel
theorem dX6_init_22 : decode cX6_init 22 = .ok (.dup, 1) := by decide +kernel
theorem dX6_init_23 : decode cX6_init 23 = .ok (.iconst 3, 1) := by decide +kernel
theorem dX6_init_24 : decode cX6_init 24 = .ok (.bipush 13, 2) := by decide +kernel
theorem dX6_init_26 : decode cX6_init 26 = .ok (.iastore, 1) := by decide +kernel
theorem dX6_init_27 : decode cX6_init 27 = .ok (.dup, 1) := by decide +kernel
theorem dX6_init_28 : decode cX6_init 28 = .ok (.iconst 4, 1) := by decide +kernel
theorem dX6_init_29 : decode cX6_init 29 = .ok (.bipush 20, 2) := by decide +kernel
theorem dX6_init_31 : decode cX6_init 31 = .ok (.iastore, 1) := by decide +kernel
theorem dX6_init_32 : decode cX6_init 32 = .ok (.dup, 1) := by decide +kernel
theorem dX6_init_33 : decode cX6_init 33 = .ok (.iconst 5, 1) := by decide +kernel
theorem dX6_init_34 : decode cX6_init 34 = .ok (.bipush 30, 2) := by decide +kernel
theorem dX6_init_36 : decode cX6_init 36 = .ok (.iastore, 1) := by decide +kernel
theorem dX6_init_37 : decode cX6_init 37 = .ok (.dup, 1) := by decide +kernel
theorem dX6_init_38 : decode cX6_init 38 = .ok (.bipush 6, 2) := by decide +kernel
theorem dX6_init_40 : decode cX6_init 40 = .ok (.bipush 12, 2) := by decide +kernel
theorem dX6_init_42 : decode cX6_init 42 = .ok (.iastore, 1) := by decide +kernel
theorem dX6_init_43 : decode cX6_init 43 = .ok (.dup, 1) := by decide +kernel
theorem dX6_init_44 : decode cX6_init 44 = .ok (.bipush 7, 2) := by decide +kernel
theorem dX6_init_46 : decode cX6_init 46 = .ok (.iconst 1, 1) := by decide +kernel
theorem dX6_init_47 : decode cX6_init 47 = .ok (.iastore, 1) := by decide +kernel
theorem dX6_init_48 : decode cX6_init 48 = .ok (.dup, 1) := by decide +kernel
theorem dX6_init_49 : decode cX6_init 49 = .ok (.bipush 8, 2) := by decide +kernel
theorem dX6_init_51 : decode cX6_init 51 = .ok (.iconst 1, 1) := by decide +kernel
theorem dX6_init_52 : decode cX6_init 52 = .ok (.iastore, 1) := by decide +kernel
theorem dX6_init_53 : decode cX6_init 53 = .ok (.putfield 7, 3) := by decide +kernel
theorem dX6_init_56 : decode cX6_init 56 = .ok (.return_, 1) := by decide +kernel
theorem dX6_most_0 : decode cX6_most 0 = .ok (.getstatic 13, 3) := by decide +kernel
theorem dX6_most_3 : decode cX6_most 3 = .ok (.iload_n 0, 1) := by decide +kernel
theorem dX6_most_4 : decode cX6_most 4 = .ok (.invokestatic 16, 3) := by decide +kernel
theorem dX6_most_7 : decode cX6_most 7 = .ok (.ireturn, 1) := by decide +kernel
theorem dX6_valueOf_0 : decode cX6_valueOf 0 = .ok (.iload_n 1, 1) := by decide +kernel
theorem dX6_valueOf_1 : decode cX6_valueOf 1 = .ok (.ifCond .lt 21, 3) := by decide +kernel
theorem dX6_valueOf_4 : decode cX6_valueOf 4 = .ok (.iload_n 1, 1) := by decide +kernel
theorem dX6_valueOf_5 : decode cX6_valueOf 5 = .ok (.aload_n 0, 1) := by decide +kernel
theorem dX6_valueOf_6 : decode cX6_valueOf 6 = .ok (.getfield 7, 3) := by decide +kernel
theorem dX6_valueOf_9 : decode cX6_valueOf 9 = .ok (.arraylength, 1) := by decide +kernel
theorem dX6_valueOf_10 : decode cX6_valueOf 10 = .ok (.if_icmp .ge 12, 3) := by decide +kernel
theorem dX6_valueOf_13 : decode cX6_valueOf 13 = .ok (.aload_n 0, 1) := by decide +kernel
theorem dX6_valueOf_14 : decode cX6_valueOf 14 = .ok (.getfield 7, 3) := by decide +kernel
theorem dX6_valueOf_17 : decode cX6_valueOf 17 = .ok (.iload_n 1, 1) := by decide +kernel
theorem dX6_valueOf_18 : decode cX6_valueOf 18 = .ok (.iaload, 1) := by decide +kernel
theorem dX6_valueOf_19 : decode cX6_valueOf 19 = .ok (.goto 4, 3) := by decide +kernel
theorem dX6_valueOf_22 : decode cX6_valueOf 22 = .ok (.iconst 0, 1) := by decide +kernel
theorem dX6_valueOf_23 : decode cX6_valueOf 23 = .ok (.ireturn, 1) := by decide +kernel
theorem dX6_become_0 : decode cX6_become 0 = .ok (.iload_n 1, 1) := by decide +kernel
theorem dX6_become_1 : decode cX6_become 1 = .ok (.ifCond .lt 19, 3) := by decide +kernel
theorem dX6_become_4 : decode cX6_become 4 = .ok (.iload_n 1, 1) := by decide +kernel
theorem dX6_become_5 : decode cX6_become 5 = .ok (.aload_n 0, 1) := by decide +kernel
theorem dX6_become_6 : decode cX6_become 6 = .ok (.getfield 7, 3) := by decide +kernel
theorem dX6_become_9 : decode cX6_become 9 = .ok (.arraylength, 1) := by decide +kernel
theorem dX6_become_10 : decode cX6_become 10 = .ok (.if_icmp .ge 10, 3) := by decide +kernel
theorem dX6_become_13 : decode cX6_become 13 = .ok (.aload_n 0, 1) := by decide +kernel
theorem dX6_become_14 : decode cX6_become 14 = .ok (.getfield 7, 3) := by decide +kernel
theorem dX6_become_17 : decode cX6_become 17 = .ok (.iload_n 1, 1) := by decide +kernel
theorem dX6_become_18 : decode cX6_become 18 = .ok (.iload_n 2, 1) := by decide +kernel
theorem dX6_become_19 : decode cX6_become 19 = .ok (.iastore, 1) := by decide +kernel
theorem dX6_become_20 : decode cX6_become 20 = .ok (.return_, 1) := by decide +kernel
theorem dX7_init_0 : decode cX7_init 0 = .ok (.aload_n 0, 1) := by decide +kernel
theorem dX7_init_1 : decode cX7_init 1 = .ok (.invokespecial 3, 3) := by decide +kernel
theorem dX7_init_4 : decode cX7_init 4 = .ok (.aload_n 0, 1) := by decide +kernel
theorem dX7_init_5 : decode cX7_init 5 = .ok (.bipush 48, 2) := by decide +kernel
theorem dX7_init_7 : decode cX7_init 7 = .ok (.newarray .int, 2) := by decide +kernel
theorem dX7_init_9 : decode cX7_init 9 = .ok (.putfield 11, 3) := by decide +kernel
theorem dX7_init_12 : decode cX7_init 12 = .ok (.aload_n 0, 1) := by decide +kernel
theorem dX7_init_13 : decode cX7_init 13 = .ok (.iconst 1, 1) := by decide +kernel
theorem dX7_init_14 : decode cX7_init 14 = .ok (.putfield 15, 3) := by decide +kernel
theorem dX7_init_17 : decode cX7_init 17 = .ok (.aload_n 0, 1) := by decide +kernel
theorem dX7_init_18 : decode cX7_init 18 = .ok (.iconst 0, 1) := by decide +kernel
theorem dX7_init_19 : decode cX7_init 19 = .ok (.putfield 19, 3) := by decide +kernel
theorem dX7_init_22 : decode cX7_init 22 = .ok (.aload_n 0, 1) := by decide +kernel
theorem dX7_init_23 : decode cX7_init 23 = .ok (.iconst 0, 1) := by decide +kernel
theorem dX7_init_24 : decode cX7_init 24 = .ok (.putfield 23, 3) := by decide +kernel
theorem dX7_init_27 : decode cX7_init 27 = .ok (.return_, 1) := by decide +kernel
theorem dX7_renew_0 : decode cX7_renew 0 = .ok (.aload_n 0, 1) := by decide +kernel
theorem dX7_renew_1 : decode cX7_renew 1 = .ok (.getfield 11, 3) := by decide +kernel
theorem dX7_renew_4 : decode cX7_renew 4 = .ok (.iconst 0, 1) := by decide +kernel
theorem dX7_renew_5 : decode cX7_renew 5 = .ok (.invokestatic 26, 3) := by decide +kernel
theorem dX7_renew_8 : decode cX7_renew 8 = .ok (.aload_n 0, 1) := by decide +kernel
theorem dX7_renew_9 : decode cX7_renew 9 = .ok (.iconst 0, 1) := by decide +kernel
theorem dX7_renew_10 : decode cX7_renew 10 = .ok (.putfield 15, 3) := by decide +kernel
theorem dX7_renew_13 : decode cX7_renew 13 = .ok (.aload_n 0, 1) := by decide +kernel
theorem dX7_renew_14 : decode cX7_renew 14 = .ok (.iload_n 1, 1) := by decide +kernel
theorem dX7_renew_15 : decode cX7_renew 15 = .ok (.putfield 19, 3) := by decide +kernel
theorem dX7_renew_18 : decode cX7_renew 18 = .ok (.aload_n 0, 1) := by decide +kernel
theorem dX7_renew_19 : decode cX7_renew 19 = .ok (.iload_n 2, 1) := by decide +kernel
theorem dX7_renew_20 : decode cX7_renew 20 = .ok (.putfield 23, 3) := by decide +kernel
theorem dX7_renew_23 : decode cX7_renew 23 = .ok (.return_, 1) := by decide +kernel
theorem dX7_findingAt_0 : decode cX7_findingAt 0 = .ok (.aload_n 0, 1) := by decide +kernel
theorem dX7_findingAt_1 : decode cX7_findingAt 1 = .ok (.getfield 15, 3) := by decide +kernel
theorem dX7_findingAt_4 : decode cX7_findingAt 4 = .ok (.ifCond .eq 5, 3) := by decide +kernel
theorem dX7_findingAt_7 : decode cX7_findingAt 7 = .ok (.iconst 1, 1) := by decide +kernel
theorem dX7_findingAt_8 : decode cX7_findingAt 8 = .ok (.ireturn, 1) := by decide +kernel
theorem dX7_findingAt_9 : decode cX7_findingAt 9 = .ok (.iload_n 1, 1) := by decide +kernel
theorem dX7_findingAt_10 : decode cX7_findingAt 10 = .ok (.aload_n 0, 1) := by decide +kernel
theorem dX7_findingAt_11 : decode cX7_findingAt 11 = .ok (.getfield 19, 3) := by decide +kernel
theorem dX7_findingAt_14 : decode cX7_findingAt 14 = .ok (.if_icmp .eq 5, 3) := by decide +kernel
theorem dX7_findingAt_17 : decode cX7_findingAt 17 = .ok (.iconst 3, 1) := by decide +kernel
theorem dX7_findingAt_18 : decode cX7_findingAt 18 = .ok (.ireturn, 1) := by decide +kernel
theorem dX7_findingAt_19 : decode cX7_findingAt 19 = .ok (.aload_n 0, 1) := by decide +kernel
theorem dX7_findingAt_20 : decode cX7_findingAt 20 = .ok (.iload_n 2, 1) := by decide +kernel
theorem dX7_findingAt_21 : decode cX7_findingAt 21 = .ok (.iconst 1, 1) := by decide +kernel
theorem dX7_findingAt_22 : decode cX7_findingAt 22 = .ok (.invokevirtual 32, 3) := by decide +kernel
theorem dX7_findingAt_25 : decode cX7_findingAt 25 = .ok (.ifCond .eq 7, 3) := by decide +kernel
theorem dX7_findingAt_28 : decode cX7_findingAt 28 = .ok (.iconst 0, 1) := by decide +kernel
theorem dX7_findingAt_29 : decode cX7_findingAt 29 = .ok (.goto 4, 3) := by decide +kernel
theorem dX7_findingAt_32 : decode cX7_findingAt 32 = .ok (.iconst 2, 1) := by decide +kernel
theorem dX7_findingAt_33 : decode cX7_findingAt 33 = .ok (.ireturn, 1) := by decide +kernel
theorem dX7_hasItems_0 : decode cX7_hasItems 0 = .ok (.iload_n 1, 1) := by decide +kernel
theorem dX7_hasItems_1 : decode cX7_hasItems 1 = .ok (.ifCond .lt 29, 3) := by decide +kernel
theorem dX7_hasItems_4 : decode cX7_hasItems 4 = .ok (.iload_n 2, 1) := by decide +kernel
theorem dX7_hasItems_5 : decode cX7_hasItems 5 = .ok (.ifCond .lt 25, 3) := by decide +kernel
theorem dX7_hasItems_8 : decode cX7_hasItems 8 = .ok (.iload_n 1, 1) := by decide +kernel
theorem dX7_hasItems_9 : decode cX7_hasItems 9 = .ok (.aload_n 0, 1) := by decide +kernel
theorem dX7_hasItems_10 : decode cX7_hasItems 10 = .ok (.getfield 23, 3) := by decide +kernel
theorem dX7_hasItems_13 : decode cX7_hasItems 13 = .ok (.if_icmp .gt 17, 3) := by decide +kernel
theorem dX7_hasItems_16 : decode cX7_hasItems 16 = .ok (.iload_n 2, 1) := by decide +kernel
theorem dX7_hasItems_17 : decode cX7_hasItems 17 = .ok (.aload_n 0, 1) := by decide +kernel
theorem dX7_hasItems_18 : decode cX7_hasItems 18 = .ok (.getfield 23, 3) := by decide +kernel
theorem dX7_hasItems_21 : decode cX7_hasItems 21 = .ok (.iload_n 1, 1) := by decide +kernel
theorem dX7_hasItems_22 : decode cX7_hasItems 22 = .ok (.isub, 1) := by decide +kernel
theorem dX7_hasItems_23 : decode cX7_hasItems 23 = .ok (.if_icmp .gt 7, 3) := by decide +kernel
theorem dX7_hasItems_26 : decode cX7_hasItems 26 = .ok (.iconst 1, 1) := by decide +kernel
theorem dX7_hasItems_27 : decode cX7_hasItems 27 = .ok (.goto 4, 3) := by decide +kernel
theorem dX7_hasItems_30 : decode cX7_hasItems 30 = .ok (.iconst 0, 1) := by decide +kernel
theorem dX7_hasItems_31 : decode cX7_hasItems 31 = .ok (.ireturn, 1) := by decide +kernel
theorem dX7_itemOf_0 : decode cX7_itemOf 0 = .ok (.aload_n 0, 1) := by decide +kernel
theorem dX7_itemOf_1 : decode cX7_itemOf 1 = .ok (.getfield 11, 3) := by decide +kernel
theorem dX7_itemOf_4 : decode cX7_itemOf 4 = .ok (.iload_n 1, 1) := by decide +kernel
theorem dX7_itemOf_5 : decode cX7_itemOf 5 = .ok (.invokestatic 36, 3) := by decide +kernel
theorem dX7_itemOf_8 : decode cX7_itemOf 8 = .ok (.ireturn, 1) := by decide +kernel
theorem dX7_become_0 : decode cX7_become 0 = .ok (.iload_n 1, 1) := by decide +kernel
theorem dX7_become_1 : decode cX7_become 1 = .ok (.ifCond .lt 44, 3) := by decide +kernel
theorem dX7_become_4 : decode cX7_become 4 = .ok (.iload_n 1, 1) := by decide +kernel
theorem dX7_become_5 : decode cX7_become 5 = .ok (.aload_n 0, 1) := by decide +kernel
theorem dX7_become_6 : decode cX7_become 6 = .ok (.getfield 11, 3) := by decide +kernel
theorem dX7_become_9 : decode cX7_become 9 = .ok (.arraylength, 1) := by decide +kernel
theorem dX7_become_10 : decode cX7_become 10 = .ok (.if_icmp .ge 35, 3) := by decide +kernel
theorem dX7_become_13 : decode cX7_become 13 = .ok (.aload_n 0, 1) := by decide +kernel
theorem dX7_become_14 : decode cX7_become 14 = .ok (.getfield 11, 3) := by decide +kernel
theorem dX7_become_17 : decode cX7_become 17 = .ok (.iload_n 1, 1) := by decide +kernel
theorem dX7_become_18 : decode cX7_become 18 = .ok (.aload_n 0, 1) := by decide +kernel
theorem dX7_become_19 : decode cX7_become 19 = .ok (.getfield 19, 3) := by decide +kernel
theorem dX7_become_22 : decode cX7_become 22 = .ok (.ifCond .ne 8, 3) := by decide +kernel
theorem dX7_become_25 : decode cX7_become 25 = .ok (.iload_n 2, 1) := by decide +kernel
theorem dX7_become_26 : decode cX7_become 26 = .ok (.i2b, 1) := by decide +kernel
theorem dX7_become_27 : decode cX7_become 27 = .ok (.goto 17, 3) := by decide +kernel
theorem dX7_become_30 : decode cX7_become 30 = .ok (.aload_n 0, 1) := by decide +kernel
theorem dX7_become_31 : decode cX7_become 31 = .ok (.getfield 19, 3) := by decide +kernel
theorem dX7_become_34 : decode cX7_become 34 = .ok (.iconst 1, 1) := by decide +kernel
theorem dX7_become_35 : decode cX7_become 35 = .ok (.if_icmp .ne 8, 3) := by decide +kernel
theorem dX7_become_38 : decode cX7_become 38 = .ok (.iload_n 2, 1) := by decide +kernel
theorem dX7_become_39 : decode cX7_become 39 = .ok (.i2s, 1) := by decide +kernel
theorem dX7_become_40 : decode cX7_become 40 = .ok (.goto 4, 3) := by decide +kernel
theorem dX7_become_43 : decode cX7_become 43 = .ok (.iload_n 2, 1) := by decide +kernel
theorem dX7_become_44 : decode cX7_become 44 = .ok (.iastore, 1) := by decide +kernel
theorem dX7_become_45 : decode cX7_become 45 = .ok (.return_, 1) := by decide +kernel
theorem dX8_init_0 : decode cX8_init 0 = .ok (.aload_n 0, 1) := by decide +kernel
theorem dX8_init_1 : decode cX8_init 1 = .ok (.invokespecial 3, 3) := by decide +kernel
theorem dX8_init_4 : decode cX8_init 4 = .ok (.aload_n 0, 1) := by decide +kernel
theorem dX8_init_5 : decode cX8_init 5 = .ok (.bipush 21, 2) := by decide +kernel
theorem dX8_init_7 : decode cX8_init 7 = .ok (.newarray .long, 2) := by decide +kernel
theorem dX8_init_9 : decode cX8_init 9 = .ok (.putfield 9, 3) := by decide +kernel
theorem dX8_init_12 : decode cX8_init 12 = .ok (.aload_n 0, 1) := by decide +kernel
theorem dX8_init_13 : decode cX8_init 13 = .ok (.bipush 21, 2) := by decide +kernel
theorem dX8_init_15 : decode cX8_init 15 = .ok (.newarray .long, 2) := by decide +kernel
theorem dX8_init_17 : decode cX8_init 17 = .ok (.putfield 15, 3) := by decide +kernel
theorem dX8_init_20 : decode cX8_init 20 = .ok (.aload_n 0, 1) := by decide +kernel
theorem dX8_init_21 : decode cX8_init 21 = .ok (.aload_n 1, 1) := by decide +kernel
theorem dX8_init_22 : decode cX8_init 22 = .ok (.putfield 18, 3) := by decide +kernel
theorem dX8_init_25 : decode cX8_init 25 = .ok (.return_, 1) := by decide +kernel
theorem dX8_chanceOf_0 : decode cX8_chanceOf 0 = .ok (.aload_n 0, 1) := by decide +kernel
theorem dX8_chanceOf_1 : decode cX8_chanceOf 1 = .ok (.getfield 9, 3) := by decide +kernel
theorem dX8_chanceOf_4 : decode cX8_chanceOf 4 = .ok (.iload_n 1, 1) := by decide +kernel
theorem dX8_chanceOf_5 : decode cX8_chanceOf 5 = .ok (.bipush 10, 2) := by decide +kernel
theorem dX8_chanceOf_7 : decode cX8_chanceOf 7 = .ok (.iadd, 1) := by decide +kernel
theorem dX8_chanceOf_8 : decode cX8_chanceOf 8 = .ok (.invokestatic 22, 3) := by decide +kernel
theorem dX8_chanceOf_11 : decode cX8_chanceOf 11 = .ok (.lreturn, 1) := by decide +kernel
theorem dX8_walk_0 : decode cX8_walk 0 = .ok (.aload_n 0, 1) := by decide +kernel
theorem dX8_walk_1 : decode cX8_walk 1 = .ok (.getfield 9, 3) := by decide +kernel
theorem dX8_walk_4 : decode cX8_walk 4 = .ok (.lconst 0, 1) := by decide +kernel
theorem dX8_walk_5 : decode cX8_walk 5 = .ok (.invokestatic 26, 3) := by decide +kernel
theorem dX8_walk_8 : decode cX8_walk 8 = .ok (.aload_n 0, 1) := by decide +kernel
theorem dX8_walk_9 : decode cX8_walk 9 = .ok (.getfield 15, 3) := by decide +kernel
theorem dX8_walk_12 : decode cX8_walk 12 = .ok (.lconst 0, 1) := by decide +kernel
theorem dX8_walk_13 : decode cX8_walk 13 = .ok (.invokestatic 26, 3) := by decide +kernel
theorem dX8_walk_16 : decode cX8_walk 16 = .ok (.aload_n 0, 1) := by decide +kernel
theorem dX8_walk_17 : decode cX8_walk 17 = .ok (.getfield 9, 3) := by decide +kernel
theorem dX8_walk_20 : decode cX8_walk 20 = .ok (.bipush 10, 2) := by decide +kernel
theorem dX8_walk_22 : decode cX8_walk 22 = .ok (.ldc2_w 32, 3) := by decide +kernel
theorem dX8_walk_25 : decode cX8_walk 25 = .ok (.invokestatic 34, 3) := by decide +kernel
theorem dX8_walk_28 : decode cX8_walk 28 = .ok (.iconst 0, 1) := by decide +kernel
theorem dX8_walk_29 : decode cX8_walk 29 = .ok (.istore 5, 2) := by decide +kernel
theorem dX8_walk_31 : decode cX8_walk 31 = .ok (.iconst 0, 1) := by decide +kernel
theorem dX8_walk_32 : decode cX8_walk 32 = .ok (.istore 6, 2) := by decide +kernel
theorem dX8_walk_34 : decode cX8_walk 34 = .ok (.iload 6, 2) := by decide +kernel
theorem dX8_walk_36 : decode cX8_walk 36 = .ok (.iload_n 2, 1) := by decide +kernel
theorem dX8_walk_37 : decode cX8_walk 37 = .ok (.if_icmp .ge 100, 3) := by decide +kernel
theorem dX8_walk_40 : decode cX8_walk 40 = .ok (.aload_n 0, 1) := by decide +kernel
theorem dX8_walk_41 : decode cX8_walk 41 = .ok (.getfield 18, 3) := by decide +kernel
theorem dX8_walk_44 : decode cX8_walk 44 = .ok (.iload 6, 2) := by decide +kernel
theorem dX8_walk_46 : decode cX8_walk 46 = .ok (.invokevirtual 38, 3) := by decide +kernel
theorem dX8_walk_49 : decode cX8_walk 49 = .ok (.ifCond .eq 46, 3) := by decide +kernel
theorem dX8_walk_52 : decode cX8_walk 52 = .ok (.aload_n 0, 1) := by decide +kernel
theorem dX8_walk_53 : decode cX8_walk 53 = .ok (.getfield 18, 3) := by decide +kernel
theorem dX8_walk_56 : decode cX8_walk 56 = .ok (.iload 6, 2) := by decide +kernel
theorem dX8_walk_58 : decode cX8_walk 58 = .ok (.invokevirtual 44, 3) := by decide +kernel
theorem dX8_walk_61 : decode cX8_walk 61 = .ok (.istore 7, 2) := by decide +kernel
theorem dX8_walk_63 : decode cX8_walk 63 = .ok (.bipush 10, 2) := by decide +kernel
theorem dX8_walk_65 : decode cX8_walk 65 = .ok (.iload 5, 2) := by decide +kernel
theorem dX8_walk_67 : decode cX8_walk 67 = .ok (.iconst 1, 1) := by decide +kernel
theorem dX8_walk_68 : decode cX8_walk 68 = .ok (.iadd, 1) := by decide +kernel
theorem dX8_walk_69 : decode cX8_walk 69 = .ok (.invokestatic 48, 3) := by decide +kernel
theorem dX8_walk_72 : decode cX8_walk 72 = .ok (.istore 5, 2) := by decide +kernel
theorem dX8_walk_74 : decode cX8_walk 74 = .ok (.aload_n 0, 1) := by decide +kernel
theorem dX8_walk_75 : decode cX8_walk 75 = .ok (.aload_n 1, 1) := by decide +kernel
theorem dX8_walk_76 : decode cX8_walk 76 = .ok (.iload 7, 2) := by decide +kernel
theorem dX8_walk_78 : decode cX8_walk 78 = .ok (.invokevirtual 54, 3) := by decide +kernel
theorem dX8_walk_81 : decode cX8_walk 81 = .ok (.aload_n 1, 1) := by decide +kernel
theorem dX8_walk_82 : decode cX8_walk 82 = .ok (.iload 7, 2) := by decide +kernel
theorem dX8_walk_84 : decode cX8_walk 84 = .ok (.invokevirtual 59, 3) := by decide +kernel
theorem dX8_walk_87 : decode cX8_walk 87 = .ok (.iload 5, 2) := by decide +kernel
theorem dX8_walk_89 : decode cX8_walk 89 = .ok (.invokevirtual 62, 3) := by decide +kernel
theorem dX8_walk_92 : decode cX8_walk 92 = .ok (.goto 39, 3) := by decide +kernel
theorem dX8_walk_95 : decode cX8_walk 95 = .ok (.aload_n 0, 1) := by decide +kernel
theorem dX8_walk_96 : decode cX8_walk 96 = .ok (.getfield 18, 3) := by decide +kernel
theorem dX8_walk_99 : decode cX8_walk 99 = .ok (.iload 6, 2) := by decide +kernel
theorem dX8_walk_101 : decode cX8_walk 101 = .ok (.invokevirtual 66, 3) := by decide +kernel
theorem dX8_walk_104 : decode cX8_walk 104 = .ok (.iconst (-1), 1) := by decide +kernel
theorem dX8_walk_105 : decode cX8_walk 105 = .ok (.if_icmp .eq 26, 3) := by decide +kernel
theorem dX8_walk_108 : decode cX8_walk 108 = .ok (.iload_n 3, 1) := by decide +kernel
theorem dX8_walk_109 : decode cX8_walk 109 = .ok (.aload_n 0, 1) := by decide +kernel
theorem dX8_walk_110 : decode cX8_walk 110 = .ok (.getfield 18, 3) := by decide +kernel
theorem dX8_walk_113 : decode cX8_walk 113 = .ok (.iload 6, 2) := by decide +kernel
theorem dX8_walk_115 : decode cX8_walk 115 = .ok (.invokevirtual 66, 3) := by decide +kernel
theorem dX8_walk_118 : decode cX8_walk 118 = .ok (.ishr, 1) := by decide +kernel
theorem dX8_walk_119 : decode cX8_walk 119 = .ok (.iconst 1, 1) := by decide +kernel
theorem dX8_walk_120 : decode cX8_walk 120 = .ok (.iand, 1) := by decide +kernel
theorem dX8_walk_121 : decode cX8_walk 121 = .ok (.iconst 1, 1) := by decide +kernel
theorem dX8_walk_122 : decode cX8_walk 122 = .ok (.if_icmp .ne 9, 3) := by decide +kernel
theorem dX8_walk_125 : decode cX8_walk 125 = .ok (.aload_n 0, 1) := by decide +kernel
theorem dX8_walk_126 : decode cX8_walk 126 = .ok (.iload 4, 2) := by decide +kernel
theorem dX8_walk_128 : decode cX8_walk 128 = .ok (.invokevirtual 69, 3) := by decide +kernel
theorem dX8_walk_131 : decode cX8_walk 131 = .ok (.iinc 6 1, 3) := by decide +kernel
theorem dX8_walk_134 : decode cX8_walk 134 = .ok (.goto (-100), 3) := by decide +kernel
theorem dX8_walk_137 : decode cX8_walk 137 = .ok (.return_, 1) := by decide +kernel
theorem dX8_drift_0 : decode cX8_drift 0 = .ok (.bipush 16, 2) := by decide +kernel
theorem dX8_drift_2 : decode cX8_drift 2 = .ok (.iload_n 1, 1) := by decide +kernel
theorem dX8_drift_3 : decode cX8_drift 3 = .ok (.isub, 1) := by decide +kernel
theorem dX8_drift_4 : decode cX8_drift 4 = .ok (.iload_n 2, 1) := by decide +kernel
theorem dX8_drift_5 : decode cX8_drift 5 = .ok (.isub, 1) := by decide +kernel
theorem dX8_drift_6 : decode cX8_drift 6 = .ok (.istore 4, 2) := by decide +kernel
theorem dX8_drift_8 : decode cX8_drift 8 = .ok (.iconst 0, 1) := by decide +kernel
theorem dX8_drift_9 : decode cX8_drift 9 = .ok (.bipush 10, 2) := by decide +kernel
theorem dX8_drift_11 : decode cX8_drift 11 = .ok (.iload_n 3, 1) := by decide +kernel
theorem dX8_drift_12 : decode cX8_drift 12 = .ok (.isub, 1) := by decide +kernel
theorem dX8_drift_13 : decode cX8_drift 13 = .ok (.invokestatic 73, 3) := by decide +kernel
theorem dX8_drift_16 : decode cX8_drift 16 = .ok (.istore 5, 2) := by decide +kernel
theorem dX8_drift_18 : decode cX8_drift 18 = .ok (.iload 5, 2) := by decide +kernel
theorem dX8_drift_20 : decode cX8_drift 20 = .ok (.bipush 10, 2) := by decide +kernel
theorem dX8_drift_22 : decode cX8_drift 22 = .ok (.iload_n 3, 1) := by decide +kernel
theorem dX8_drift_23 : decode cX8_drift 23 = .ok (.iadd, 1) := by decide +kernel
theorem dX8_drift_24 : decode cX8_drift 24 = .ok (.if_icmp .gt 78, 3) := by decide +kernel
theorem dX8_drift_27 : decode cX8_drift 27 = .ok (.iload 5, 2) := by decide +kernel
theorem dX8_drift_29 : decode cX8_drift 29 = .ok (.bipush 21, 2) := by decide +kernel
theorem dX8_drift_31 : decode cX8_drift 31 = .ok (.if_icmp .ge 71, 3) := by decide +kernel
theorem dX8_drift_34 : decode cX8_drift 34 = .ok (.aload_n 0, 1) := by decide +kernel
theorem dX8_drift_35 : decode cX8_drift 35 = .ok (.getfield 15, 3) := by decide +kernel
theorem dX8_drift_38 : decode cX8_drift 38 = .ok (.iload 5, 2) := by decide +kernel
theorem dX8_drift_40 : decode cX8_drift 40 = .ok (.aload_n 0, 1) := by decide +kernel
theorem dX8_drift_41 : decode cX8_drift 41 = .ok (.getfield 9, 3) := by decide +kernel
theorem dX8_drift_44 : decode cX8_drift 44 = .ok (.iload 5, 2) := by decide +kernel
theorem dX8_drift_46 : decode cX8_drift 46 = .ok (.iconst 1, 1) := by decide +kernel
theorem dX8_drift_47 : decode cX8_drift 47 = .ok (.iadd, 1) := by decide +kernel
theorem dX8_drift_48 : decode cX8_drift 48 = .ok (.invokestatic 22, 3) := by decide +kernel
theorem dX8_drift_51 : decode cX8_drift 51 = .ok (.ldc2_w 76, 3) := by decide +kernel
theorem dX8_drift_54 : decode cX8_drift 54 = .ok (.ldiv, 1) := by decide +kernel
theorem dX8_drift_55 : decode cX8_drift 55 = .ok (.iload_n 1, 1) := by decide +kernel
theorem dX8_drift_56 : decode cX8_drift 56 = .ok (.i2l, 1) := by decide +kernel
theorem dX8_drift_57 : decode cX8_drift 57 = .ok (.lmul, 1) := by decide +kernel
theorem dX8_drift_58 : decode cX8_drift 58 = .ok (.aload_n 0, 1) := by decide +kernel
theorem dX8_drift_59 : decode cX8_drift 59 = .ok (.getfield 9, 3) := by decide +kernel
theorem dX8_drift_62 : decode cX8_drift 62 = .ok (.iload 5, 2) := by decide +kernel
theorem dX8_drift_64 : decode cX8_drift 64 = .ok (.invokestatic 22, 3) := by decide +kernel
theorem dX8_drift_67 : decode cX8_drift 67 = .ok (.ldc2_w 76, 3) := by decide +kernel
theorem dX8_drift_70 : decode cX8_drift 70 = .ok (.ldiv, 1) := by decide +kernel
theorem dX8_drift_71 : decode cX8_drift 71 = .ok (.iload 4, 2) := by decide +kernel
theorem dX8_drift_73 : decode cX8_drift 73 = .ok (.i2l, 1) := by decide +kernel
theorem dX8_drift_74 : decode cX8_drift 74 = .ok (.lmul, 1) := by decide +kernel
theorem dX8_drift_75 : decode cX8_drift 75 = .ok (.ladd, 1) := by decide +kernel
theorem dX8_drift_76 : decode cX8_drift 76 = .ok (.aload_n 0, 1) := by decide +kernel
theorem dX8_drift_77 : decode cX8_drift 77 = .ok (.getfield 9, 3) := by decide +kernel
theorem dX8_drift_80 : decode cX8_drift 80 = .ok (.iload 5, 2) := by decide +kernel
theorem dX8_drift_82 : decode cX8_drift 82 = .ok (.iconst 1, 1) := by decide +kernel
theorem dX8_drift_83 : decode cX8_drift 83 = .ok (.isub, 1) := by decide +kernel
theorem dX8_drift_84 : decode cX8_drift 84 = .ok (.invokestatic 22, 3) := by decide +kernel
theorem dX8_drift_87 : decode cX8_drift 87 = .ok (.ldc2_w 76, 3) := by decide +kernel
theorem dX8_drift_90 : decode cX8_drift 90 = .ok (.ldiv, 1) := by decide +kernel
theorem dX8_drift_91 : decode cX8_drift 91 = .ok (.iload_n 2, 1) := by decide +kernel
theorem dX8_drift_92 : decode cX8_drift 92 = .ok (.i2l, 1) := by decide +kernel
theorem dX8_drift_93 : decode cX8_drift 93 = .ok (.lmul, 1) := by decide +kernel
theorem dX8_drift_94 : decode cX8_drift 94 = .ok (.ladd, 1) := by decide +kernel
theorem dX8_drift_95 : decode cX8_drift 95 = .ok (.lastore, 1) := by decide +kernel
theorem dX8_drift_96 : decode cX8_drift 96 = .ok (.iinc 5 1, 3) := by decide +kernel
theorem dX8_drift_99 : decode cX8_drift 99 = .ok (.goto (-81), 3) := by decide +kernel
theorem dX8_drift_102 : decode cX8_drift 102 = .ok (.aload_n 0, 1) := by decide +kernel
theorem dX8_drift_103 : decode cX8_drift 103 = .ok (.getfield 15, 3) := by decide +kernel
theorem dX8_drift_106 : decode cX8_drift 106 = .ok (.iconst 0, 1) := by decide +kernel
theorem dX8_drift_107 : decode cX8_drift 107 = .ok (.aload_n 0, 1) := by decide +kernel
theorem dX8_drift_108 : decode cX8_drift 108 = .ok (.getfield 9, 3) := by decide +kernel
theorem dX8_drift_111 : decode cX8_drift 111 = .ok (.iconst 0, 1) := by decide +kernel
theorem dX8_drift_112 : decode cX8_drift 112 = .ok (.bipush 21, 2) := by decide +kernel
theorem dX8_drift_114 : decode cX8_drift 114 = .ok (.invokestatic 78, 3) := by decide +kernel
theorem dX8_drift_117 : decode cX8_drift 117 = .ok (.return_, 1) := by decide +kernel
theorem dX8_gather_0 : decode cX8_gather 0 = .ok (.iconst 0, 1) := by decide +kernel
theorem dX8_gather_1 : decode cX8_gather 1 = .ok (.istore_n 2, 1) := by decide +kernel
theorem dX8_gather_2 : decode cX8_gather 2 = .ok (.iload_n 2, 1) := by decide +kernel
theorem dX8_gather_3 : decode cX8_gather 3 = .ok (.bipush 21, 2) := by decide +kernel
theorem dX8_gather_5 : decode cX8_gather 5 = .ok (.if_icmp .ge 31, 3) := by decide +kernel
theorem dX8_gather_8 : decode cX8_gather 8 = .ok (.aload_n 0, 1) := by decide +kernel
theorem dX8_gather_9 : decode cX8_gather 9 = .ok (.getfield 9, 3) := by decide +kernel
theorem dX8_gather_12 : decode cX8_gather 12 = .ok (.iload_n 2, 1) := by decide +kernel
theorem dX8_gather_13 : decode cX8_gather 13 = .ok (.aload_n 0, 1) := by decide +kernel
theorem dX8_gather_14 : decode cX8_gather 14 = .ok (.getfield 9, 3) := by decide +kernel
theorem dX8_gather_17 : decode cX8_gather 17 = .ok (.iload_n 2, 1) := by decide +kernel
theorem dX8_gather_18 : decode cX8_gather 18 = .ok (.laload, 1) := by decide +kernel
theorem dX8_gather_19 : decode cX8_gather 19 = .ok (.ldc2_w 76, 3) := by decide +kernel
theorem dX8_gather_22 : decode cX8_gather 22 = .ok (.ldiv, 1) := by decide +kernel
theorem dX8_gather_23 : decode cX8_gather 23 = .ok (.bipush 16, 2) := by decide +kernel
theorem dX8_gather_25 : decode cX8_gather 25 = .ok (.iload_n 1, 1) := by decide +kernel
theorem dX8_gather_26 : decode cX8_gather 26 = .ok (.isub, 1) := by decide +kernel
theorem dX8_gather_27 : decode cX8_gather 27 = .ok (.i2l, 1) := by decide +kernel
theorem dX8_gather_28 : decode cX8_gather 28 = .ok (.lmul, 1) := by decide +kernel
theorem dX8_gather_29 : decode cX8_gather 29 = .ok (.lastore, 1) := by decide +kernel
theorem dX8_gather_30 : decode cX8_gather 30 = .ok (.iinc 2 1, 3) := by decide +kernel
theorem dX8_gather_33 : decode cX8_gather 33 = .ok (.goto (-31), 3) := by decide +kernel
theorem dX8_gather_36 : decode cX8_gather 36 = .ok (.aload_n 0, 1) := by decide +kernel
theorem dX8_gather_37 : decode cX8_gather 37 = .ok (.getfield 9, 3) := by decide +kernel
theorem dX8_gather_40 : decode cX8_gather 40 = .ok (.bipush 10, 2) := by decide +kernel
theorem dX8_gather_42 : decode cX8_gather 42 = .ok (.ldc2_w 84, 3) := by decide +kernel
theorem dX8_gather_45 : decode cX8_gather 45 = .ok (.iload_n 1, 1) := by decide +kernel
theorem dX8_gather_46 : decode cX8_gather 46 = .ok (.i2l, 1) := by decide +kernel
theorem dX8_gather_47 : decode cX8_gather 47 = .ok (.lmul, 1) := by decide +kernel
theorem dX8_gather_48 : decode cX8_gather 48 = .ok (.invokestatic 34, 3) := by decide +kernel
theorem dX8_gather_51 : decode cX8_gather 51 = .ok (.return_, 1) := by decide +kernel
theorem dX9_init_0 : decode cX9_init 0 = .ok (.aload_n 0, 1) := by decide +kernel
theorem dX9_init_1 : decode cX9_init 1 = .ok (.invokespecial 3, 3) := by decide +kernel
theorem dX9_init_4 : decode cX9_init 4 = .ok (.aload_n 0, 1) := by decide +kernel
theorem dX9_init_5 : decode cX9_init 5 = .ok (.sipush 2079, 3) := by decide +kernel
theorem dX9_init_8 : decode cX9_init 8 = .ok (.newarray .long, 2) := by decide +kernel
theorem dX9_init_10 : decode cX9_init 10 = .ok (.putfield 9, 3) := by decide +kernel
theorem dX9_init_13 : decode cX9_init 13 = .ok (.aload_n 0, 1) := by decide +kernel
theorem dX9_init_14 : decode cX9_init 14 = .ok (.bipush 111, 2) := by decide +kernel
theorem dX9_init_16 : decode cX9_init 16 = .ok (.newarray .long, 2) := by decide +kernel
theorem dX9_init_18 : decode cX9_init 18 = .ok (.putfield 15, 3) := by decide +kernel
theorem dX9_init_21 : decode cX9_init 21 = .ok (.aload_n 0, 1) := by decide +kernel
theorem dX9_init_22 : decode cX9_init 22 = .ok (.bipush 21, 2) := by decide +kernel
theorem dX9_init_24 : decode cX9_init 24 = .ok (.newarray .long, 2) := by decide +kernel
theorem dX9_init_26 : decode cX9_init 26 = .ok (.putfield 18, 3) := by decide +kernel
theorem dX9_init_29 : decode cX9_init 29 = .ok (.aload_n 0, 1) := by decide +kernel
theorem dX9_init_30 : decode cX9_init 30 = .ok (.bipush 21, 2) := by decide +kernel
theorem dX9_init_32 : decode cX9_init 32 = .ok (.newarray .long, 2) := by decide +kernel
theorem dX9_init_34 : decode cX9_init 34 = .ok (.putfield 21, 3) := by decide +kernel
theorem dX9_init_37 : decode cX9_init 37 = .ok (.aload_n 0, 1) := by decide +kernel
theorem dX9_init_38 : decode cX9_init 38 = .ok (.aload_n 1, 1) := by decide +kernel
theorem dX9_init_39 : decode cX9_init 39 = .ok (.putfield 24, 3) := by decide +kernel
theorem dX9_init_42 : decode cX9_init 42 = .ok (.aload_n 0, 1) := by decide +kernel
theorem dX9_init_43 : decode cX9_init 43 = .ok (.aload_n 2, 1) := by decide +kernel
theorem dX9_init_44 : decode cX9_init 44 = .ok (.putfield 28, 3) := by decide +kernel
theorem dX9_init_47 : decode cX9_init 47 = .ok (.aload_n 0, 1) := by decide +kernel
theorem dX9_init_48 : decode cX9_init 48 = .ok (.aload_n 3, 1) := by decide +kernel
theorem dX9_init_49 : decode cX9_init 49 = .ok (.putfield 32, 3) := by decide +kernel
theorem dX9_init_52 : decode cX9_init 52 = .ok (.aload_n 0, 1) := by decide +kernel
theorem dX9_init_53 : decode cX9_init 53 = .ok (.aload 4, 2) := by decide +kernel
theorem dX9_init_55 : decode cX9_init 55 = .ok (.putfield 36, 3) := by decide +kernel
theorem dX9_init_58 : decode cX9_init 58 = .ok (.return_, 1) := by decide +kernel
theorem dX9_ofAll_0 : decode cX9_ofAll 0 = .ok (.aload_n 0, 1) := by decide +kernel
theorem dX9_ofAll_1 : decode cX9_ofAll 1 = .ok (.getfield 15, 3) := by decide +kernel
theorem dX9_ofAll_4 : decode cX9_ofAll 4 = .ok (.iload_n 1, 1) := by decide +kernel
theorem dX9_ofAll_5 : decode cX9_ofAll 5 = .ok (.invokestatic 40, 3) := by decide +kernel
theorem dX9_ofAll_8 : decode cX9_ofAll 8 = .ok (.lreturn, 1) := by decide +kernel
theorem dX9_saidIn_0 : decode cX9_saidIn 0 = .ok (.iload_n 1, 1) := by decide +kernel
theorem dX9_saidIn_1 : decode cX9_saidIn 1 = .ok (.iconst 1, 1) := by decide +kernel
theorem dX9_saidIn_2 : decode cX9_saidIn 2 = .ok (.isub, 1) := by decide +kernel
theorem dX9_saidIn_3 : decode cX9_saidIn 3 = .ok (.iload_n 2, 1) := by decide +kernel
theorem dX9_saidIn_4 : decode cX9_saidIn 4 = .ok (.isub, 1) := by decide +kernel
theorem dX9_saidIn_5 : decode cX9_saidIn 5 = .ok (.bipush 10, 2) := by decide +kernel
theorem dX9_saidIn_7 : decode cX9_saidIn 7 = .ok (.iadd, 1) := by decide +kernel
theorem dX9_saidIn_8 : decode cX9_saidIn 8 = .ok (.istore_n 3, 1) := by decide +kernel
theorem dX9_saidIn_9 : decode cX9_saidIn 9 = .ok (.aload_n 0, 1) := by decide +kernel
theorem dX9_saidIn_10 : decode cX9_saidIn 10 = .ok (.getfield 24, 3) := by decide +kernel
theorem dX9_saidIn_13 : decode cX9_saidIn 13 = .ok (.iload_n 2, 1) := by decide +kernel
theorem dX9_saidIn_14 : decode cX9_saidIn 14 = .ok (.invokevirtual 44, 3) := by decide +kernel
theorem dX9_saidIn_17 : decode cX9_saidIn 17 = .ok (.ifCond .eq 29, 3) := by decide +kernel
theorem dX9_saidIn_20 : decode cX9_saidIn 20 = .ok (.iload_n 3, 1) := by decide +kernel
theorem dX9_saidIn_21 : decode cX9_saidIn 21 = .ok (.iconst 0, 1) := by decide +kernel
theorem dX9_saidIn_22 : decode cX9_saidIn 22 = .ok (.bipush 20, 2) := by decide +kernel
theorem dX9_saidIn_24 : decode cX9_saidIn 24 = .ok (.invokestatic 50, 3) := by decide +kernel
theorem dX9_saidIn_27 : decode cX9_saidIn 27 = .ok (.ifCond .eq 19, 3) := by decide +kernel
theorem dX9_saidIn_30 : decode cX9_saidIn 30 = .ok (.aload_n 0, 1) := by decide +kernel
theorem dX9_saidIn_31 : decode cX9_saidIn 31 = .ok (.getfield 9, 3) := by decide +kernel
theorem dX9_saidIn_34 : decode cX9_saidIn 34 = .ok (.iload_n 2, 1) := by decide +kernel
theorem dX9_saidIn_35 : decode cX9_saidIn 35 = .ok (.bipush 21, 2) := by decide +kernel
theorem dX9_saidIn_37 : decode cX9_saidIn 37 = .ok (.imul, 1) := by decide +kernel
theorem dX9_saidIn_38 : decode cX9_saidIn 38 = .ok (.iload_n 3, 1) := by decide +kernel
theorem dX9_saidIn_39 : decode cX9_saidIn 39 = .ok (.iadd, 1) := by decide +kernel
theorem dX9_saidIn_40 : decode cX9_saidIn 40 = .ok (.invokestatic 40, 3) := by decide +kernel
theorem dX9_saidIn_43 : decode cX9_saidIn 43 = .ok (.goto 4, 3) := by decide +kernel
theorem dX9_saidIn_46 : decode cX9_saidIn 46 = .ok (.lconst 0, 1) := by decide +kernel
theorem dX9_saidIn_47 : decode cX9_saidIn 47 = .ok (.lreturn, 1) := by decide +kernel
theorem dX9_find_0 : decode cX9_find 0 = .ok (.aload_n 0, 1) := by decide +kernel
theorem dX9_find_1 : decode cX9_find 1 = .ok (.getfield 9, 3) := by decide +kernel
theorem dX9_find_4 : decode cX9_find 4 = .ok (.lconst 0, 1) := by decide +kernel
theorem dX9_find_5 : decode cX9_find 5 = .ok (.invokestatic 54, 3) := by decide +kernel
theorem dX9_find_8 : decode cX9_find 8 = .ok (.aload_n 0, 1) := by decide +kernel
theorem dX9_find_9 : decode cX9_find 9 = .ok (.getfield 15, 3) := by decide +kernel
theorem dX9_find_12 : decode cX9_find 12 = .ok (.lconst 0, 1) := by decide +kernel
theorem dX9_find_13 : decode cX9_find 13 = .ok (.invokestatic 54, 3) := by decide +kernel
theorem dX9_find_16 : decode cX9_find 16 = .ok (.aload_n 0, 1) := by decide +kernel
theorem dX9_find_17 : decode cX9_find 17 = .ok (.getfield 18, 3) := by decide +kernel
theorem dX9_find_20 : decode cX9_find 20 = .ok (.lconst 0, 1) := by decide +kernel
theorem dX9_find_21 : decode cX9_find 21 = .ok (.invokestatic 54, 3) := by decide +kernel
theorem dX9_find_24 : decode cX9_find 24 = .ok (.aload_n 0, 1) := by decide +kernel
theorem dX9_find_25 : decode cX9_find 25 = .ok (.getfield 18, 3) := by decide +kernel
theorem dX9_find_28 : decode cX9_find 28 = .ok (.bipush 10, 2) := by decide +kernel
theorem dX9_find_30 : decode cX9_find 30 = .ok (.ldc2_w 60, 3) := by decide +kernel
theorem dX9_find_33 : decode cX9_find 33 = .ok (.invokestatic 62, 3) := by decide +kernel
theorem dX9_find_36 : decode cX9_find 36 = .ok (.iconst 0, 1) := by decide +kernel
theorem dX9_find_37 : decode cX9_find 37 = .ok (.istore_n 1, 1) := by decide +kernel
theorem dX9_find_38 : decode cX9_find 38 = .ok (.iconst 0, 1) := by decide +kernel
theorem dX9_find_39 : decode cX9_find 39 = .ok (.istore_n 2, 1) := by decide +kernel
theorem dX9_find_40 : decode cX9_find 40 = .ok (.iload_n 2, 1) := by decide +kernel
theorem dX9_find_41 : decode cX9_find 41 = .ok (.aload_n 0, 1) := by decide +kernel
theorem dX9_find_42 : decode cX9_find 42 = .ok (.getfield 24, 3) := by decide +kernel
theorem dX9_find_45 : decode cX9_find 45 = .ok (.getfield 66, 3) := by decide +kernel
theorem dX9_find_48 : decode cX9_find 48 = .ok (.if_icmp .ge 94, 3) := by decide +kernel
theorem dX9_find_51 : decode cX9_find 51 = .ok (.aload_n 0, 1) := by decide +kernel
theorem dX9_find_52 : decode cX9_find 52 = .ok (.getfield 21, 3) := by decide +kernel
theorem dX9_find_55 : decode cX9_find 55 = .ok (.lconst 0, 1) := by decide +kernel
theorem dX9_find_56 : decode cX9_find 56 = .ok (.invokestatic 54, 3) := by decide +kernel
theorem dX9_find_59 : decode cX9_find 59 = .ok (.bipush 10, 2) := by decide +kernel
theorem dX9_find_61 : decode cX9_find 61 = .ok (.iload_n 1, 1) := by decide +kernel
theorem dX9_find_62 : decode cX9_find 62 = .ok (.isub, 1) := by decide +kernel
theorem dX9_find_63 : decode cX9_find 63 = .ok (.istore_n 3, 1) := by decide +kernel
theorem dX9_find_64 : decode cX9_find 64 = .ok (.iload_n 3, 1) := by decide +kernel
theorem dX9_find_65 : decode cX9_find 65 = .ok (.bipush 10, 2) := by decide +kernel
theorem dX9_find_67 : decode cX9_find 67 = .ok (.iload_n 1, 1) := by decide +kernel
theorem dX9_find_68 : decode cX9_find 68 = .ok (.iadd, 1) := by decide +kernel
theorem dX9_find_69 : decode cX9_find 69 = .ok (.if_icmp .gt 28, 3) := by decide +kernel
theorem dX9_find_72 : decode cX9_find 72 = .ok (.aload_n 0, 1) := by decide +kernel
theorem dX9_find_73 : decode cX9_find 73 = .ok (.getfield 18, 3) := by decide +kernel
theorem dX9_find_76 : decode cX9_find 76 = .ok (.iload_n 3, 1) := by decide +kernel
theorem dX9_find_77 : decode cX9_find 77 = .ok (.invokestatic 40, 3) := by decide +kernel
theorem dX9_find_80 : decode cX9_find 80 = .ok (.lconst 0, 1) := by decide +kernel
theorem dX9_find_81 : decode cX9_find 81 = .ok (.lcmp, 1) := by decide +kernel
theorem dX9_find_82 : decode cX9_find 82 = .ok (.ifCond .eq 9, 3) := by decide +kernel
theorem dX9_find_85 : decode cX9_find 85 = .ok (.aload_n 0, 1) := by decide +kernel
theorem dX9_find_86 : decode cX9_find 86 = .ok (.iload_n 2, 1) := by decide +kernel
theorem dX9_find_87 : decode cX9_find 87 = .ok (.iload_n 3, 1) := by decide +kernel
theorem dX9_find_88 : decode cX9_find 88 = .ok (.invokevirtual 70, 3) := by decide +kernel
theorem dX9_find_91 : decode cX9_find 91 = .ok (.iinc 3 1, 3) := by decide +kernel
theorem dX9_find_94 : decode cX9_find 94 = .ok (.goto (-30), 3) := by decide +kernel
theorem dX9_find_97 : decode cX9_find 97 = .ok (.aload_n 0, 1) := by decide +kernel
theorem dX9_find_98 : decode cX9_find 98 = .ok (.getfield 21, 3) := by decide +kernel
theorem dX9_find_101 : decode cX9_find 101 = .ok (.iconst 0, 1) := by decide +kernel
theorem dX9_find_102 : decode cX9_find 102 = .ok (.aload_n 0, 1) := by decide +kernel
theorem dX9_find_103 : decode cX9_find 103 = .ok (.getfield 18, 3) := by decide +kernel
theorem dX9_find_106 : decode cX9_find 106 = .ok (.iconst 0, 1) := by decide +kernel
theorem dX9_find_107 : decode cX9_find 107 = .ok (.bipush 21, 2) := by decide +kernel
theorem dX9_find_109 : decode cX9_find 109 = .ok (.invokestatic 74, 3) := by decide +kernel
theorem dX9_find_112 : decode cX9_find 112 = .ok (.aload_n 0, 1) := by decide +kernel
theorem dX9_find_113 : decode cX9_find 113 = .ok (.getfield 24, 3) := by decide +kernel
theorem dX9_find_116 : decode cX9_find 116 = .ok (.iload_n 2, 1) := by decide +kernel
theorem dX9_find_117 : decode cX9_find 117 = .ok (.invokevirtual 80, 3) := by decide +kernel
theorem dX9_find_120 : decode cX9_find 120 = .ok (.ifCond .eq 14, 3) := by decide +kernel
theorem dX9_find_123 : decode cX9_find 123 = .ok (.bipush 10, 2) := by decide +kernel
theorem dX9_find_125 : decode cX9_find 125 = .ok (.iload_n 1, 1) := by decide +kernel
theorem dX9_find_126 : decode cX9_find 126 = .ok (.iconst 1, 1) := by decide +kernel
theorem dX9_find_127 : decode cX9_find 127 = .ok (.iadd, 1) := by decide +kernel
theorem dX9_find_128 : decode cX9_find 128 = .ok (.invokestatic 83, 3) := by decide +kernel
theorem dX9_find_131 : decode cX9_find 131 = .ok (.goto 4, 3) := by decide +kernel
theorem dX9_find_134 : decode cX9_find 134 = .ok (.iload_n 1, 1) := by decide +kernel
theorem dX9_find_135 : decode cX9_find 135 = .ok (.istore_n 1, 1) := by decide +kernel
theorem dX9_find_136 : decode cX9_find 136 = .ok (.iinc 2 1, 3) := by decide +kernel
theorem dX9_find_139 : decode cX9_find 139 = .ok (.goto (-99), 3) := by decide +kernel
theorem dX9_find_142 : decode cX9_find 142 = .ok (.return_, 1) := by decide +kernel
theorem dX9_pass_0 : decode cX9_pass 0 = .ok (.aload_n 0, 1) := by decide +kernel
theorem dX9_pass_1 : decode cX9_pass 1 = .ok (.getfield 24, 3) := by decide +kernel
theorem dX9_pass_4 : decode cX9_pass 4 = .ok (.iload_n 1, 1) := by decide +kernel
theorem dX9_pass_5 : decode cX9_pass 5 = .ok (.invokevirtual 89, 3) := by decide +kernel
theorem dX9_pass_8 : decode cX9_pass 8 = .ok (.istore_n 3, 1) := by decide +kernel
theorem dX9_pass_9 : decode cX9_pass 9 = .ok (.iload_n 1, 1) := by decide +kernel
theorem dX9_pass_10 : decode cX9_pass 10 = .ok (.iload_n 2, 1) := by decide +kernel
theorem dX9_pass_11 : decode cX9_pass 11 = .ok (.iadd, 1) := by decide +kernel
theorem dX9_pass_12 : decode cX9_pass 12 = .ok (.bipush 10, 2) := by decide +kernel
theorem dX9_pass_14 : decode cX9_pass 14 = .ok (.isub, 1) := by decide +kernel
theorem dX9_pass_15 : decode cX9_pass 15 = .ok (.iconst 1, 1) := by decide +kernel
theorem dX9_pass_16 : decode cX9_pass 16 = .ok (.iadd, 1) := by decide +kernel
theorem dX9_pass_17 : decode cX9_pass 17 = .ok (.istore 4, 2) := by decide +kernel
theorem dX9_pass_19 : decode cX9_pass 19 = .ok (.aload_n 0, 1) := by decide +kernel
theorem dX9_pass_20 : decode cX9_pass 20 = .ok (.getfield 18, 3) := by decide +kernel
theorem dX9_pass_23 : decode cX9_pass 23 = .ok (.iload_n 2, 1) := by decide +kernel
theorem dX9_pass_24 : decode cX9_pass 24 = .ok (.invokestatic 40, 3) := by decide +kernel
theorem dX9_pass_27 : decode cX9_pass 27 = .ok (.lstore 5, 2) := by decide +kernel
theorem dX9_pass_29 : decode cX9_pass 29 = .ok (.aload_n 0, 1) := by decide +kernel
theorem dX9_pass_30 : decode cX9_pass 30 = .ok (.getfield 32, 3) := by decide +kernel
theorem dX9_pass_33 : decode cX9_pass 33 = .ok (.iload 4, 2) := by decide +kernel
theorem dX9_pass_35 : decode cX9_pass 35 = .ok (.iload_n 1, 1) := by decide +kernel
theorem dX9_pass_36 : decode cX9_pass 36 = .ok (.iload_n 3, 1) := by decide +kernel
theorem dX9_pass_37 : decode cX9_pass 37 = .ok (.aload_n 0, 1) := by decide +kernel
theorem dX9_pass_38 : decode cX9_pass 38 = .ok (.getfield 36, 3) := by decide +kernel
theorem dX9_pass_41 : decode cX9_pass 41 = .ok (.invokevirtual 93, 3) := by decide +kernel
theorem dX9_pass_44 : decode cX9_pass 44 = .ok (.lstore 7, 2) := by decide +kernel
theorem dX9_pass_46 : decode cX9_pass 46 = .ok (.aload_n 0, 1) := by decide +kernel
theorem dX9_pass_47 : decode cX9_pass 47 = .ok (.getfield 24, 3) := by decide +kernel
theorem dX9_pass_50 : decode cX9_pass 50 = .ok (.iload_n 1, 1) := by decide +kernel
theorem dX9_pass_51 : decode cX9_pass 51 = .ok (.invokevirtual 80, 3) := by decide +kernel
theorem dX9_pass_54 : decode cX9_pass 54 = .ok (.ifCond .ne 28, 3) := by decide +kernel
theorem dX9_pass_57 : decode cX9_pass 57 = .ok (.aload_n 0, 1) := by decide +kernel
theorem dX9_pass_58 : decode cX9_pass 58 = .ok (.getfield 21, 3) := by decide +kernel
theorem dX9_pass_61 : decode cX9_pass 61 = .ok (.iload_n 2, 1) := by decide +kernel
theorem dX9_pass_62 : decode cX9_pass 62 = .ok (.lload 5, 2) := by decide +kernel
theorem dX9_pass_64 : decode cX9_pass 64 = .ok (.lload 7, 2) := by decide +kernel
theorem dX9_pass_66 : decode cX9_pass 66 = .ok (.lmul, 1) := by decide +kernel
theorem dX9_pass_67 : decode cX9_pass 67 = .ok (.invokestatic 62, 3) := by decide +kernel
theorem dX9_pass_70 : decode cX9_pass 70 = .ok (.aload_n 0, 1) := by decide +kernel
theorem dX9_pass_71 : decode cX9_pass 71 = .ok (.iload_n 1, 1) := by decide +kernel
theorem dX9_pass_72 : decode cX9_pass 72 = .ok (.iload_n 2, 1) := by decide +kernel
theorem dX9_pass_73 : decode cX9_pass 73 = .ok (.lload 5, 2) := by decide +kernel
theorem dX9_pass_75 : decode cX9_pass 75 = .ok (.lload 7, 2) := by decide +kernel
theorem dX9_pass_77 : decode cX9_pass 77 = .ok (.lmul, 1) := by decide +kernel
theorem dX9_pass_78 : decode cX9_pass 78 = .ok (.invokevirtual 99, 3) := by decide +kernel
theorem dX9_pass_81 : decode cX9_pass 81 = .ok (.return_, 1) := by decide +kernel
theorem dX9_pass_82 : decode cX9_pass 82 = .ok (.aload_n 0, 1) := by decide +kernel
theorem dX9_pass_83 : decode cX9_pass 83 = .ok (.getfield 24, 3) := by decide +kernel
theorem dX9_pass_86 : decode cX9_pass 86 = .ok (.iload_n 1, 1) := by decide +kernel
theorem dX9_pass_87 : decode cX9_pass 87 = .ok (.invokevirtual 103, 3) := by decide +kernel
theorem dX9_pass_90 : decode cX9_pass 90 = .ok (.istore 9, 2) := by decide +kernel
theorem dX9_pass_92 : decode cX9_pass 92 = .ok (.aload_n 0, 1) := by decide +kernel
theorem dX9_pass_93 : decode cX9_pass 93 = .ok (.getfield 28, 3) := by decide +kernel
theorem dX9_pass_96 : decode cX9_pass 96 = .ok (.iload 9, 2) := by decide +kernel
theorem dX9_pass_98 : decode cX9_pass 98 = .ok (.invokevirtual 106, 3) := by decide +kernel
theorem dX9_pass_101 : decode cX9_pass 101 = .ok (.istore 10, 2) := by decide +kernel
theorem dX9_pass_103 : decode cX9_pass 103 = .ok (.aload_n 0, 1) := by decide +kernel
theorem dX9_pass_104 : decode cX9_pass 104 = .ok (.getfield 28, 3) := by decide +kernel
theorem dX9_pass_107 : decode cX9_pass 107 = .ok (.iload 9, 2) := by decide +kernel
theorem dX9_pass_109 : decode cX9_pass 109 = .ok (.invokevirtual 111, 3) := by decide +kernel
theorem dX9_pass_112 : decode cX9_pass 112 = .ok (.istore 11, 2) := by decide +kernel
theorem dX9_pass_114 : decode cX9_pass 114 = .ok (.lload 5, 2) := by decide +kernel
theorem dX9_pass_116 : decode cX9_pass 116 = .ok (.ldc2_w 114, 3) := by decide +kernel
theorem dX9_pass_119 : decode cX9_pass 119 = .ok (.ldiv, 1) := by decide +kernel
theorem dX9_pass_120 : decode cX9_pass 120 = .ok (.lstore 12, 2) := by decide +kernel
theorem dX9_pass_122 : decode cX9_pass 122 = .ok (.lload 12, 2) := by decide +kernel
theorem dX9_pass_124 : decode cX9_pass 124 = .ok (.bipush 16, 2) := by decide +kernel
theorem dX9_pass_126 : decode cX9_pass 126 = .ok (.iload 10, 2) := by decide +kernel
theorem dX9_pass_128 : decode cX9_pass 128 = .ok (.isub, 1) := by decide +kernel
theorem dX9_pass_129 : decode cX9_pass 129 = .ok (.iload 11, 2) := by decide +kernel
theorem dX9_pass_131 : decode cX9_pass 131 = .ok (.isub, 1) := by decide +kernel
theorem dX9_pass_132 : decode cX9_pass 132 = .ok (.i2l, 1) := by decide +kernel
theorem dX9_pass_133 : decode cX9_pass 133 = .ok (.lmul, 1) := by decide +kernel
theorem dX9_pass_134 : decode cX9_pass 134 = .ok (.lload 7, 2) := by decide +kernel
theorem dX9_pass_136 : decode cX9_pass 136 = .ok (.lmul, 1) := by decide +kernel
theorem dX9_pass_137 : decode cX9_pass 137 = .ok (.lstore 14, 2) := by decide +kernel
theorem dX9_pass_139 : decode cX9_pass 139 = .ok (.lload 12, 2) := by decide +kernel
theorem dX9_pass_141 : decode cX9_pass 141 = .ok (.iload 11, 2) := by decide +kernel
theorem dX9_pass_143 : decode cX9_pass 143 = .ok (.i2l, 1) := by decide +kernel
theorem dX9_pass_144 : decode cX9_pass 144 = .ok (.lmul, 1) := by decide +kernel
theorem dX9_pass_145 : decode cX9_pass 145 = .ok (.lload 7, 2) := by decide +kernel
theorem dX9_pass_147 : decode cX9_pass 147 = .ok (.lmul, 1) := by decide +kernel
theorem dX9_pass_148 : decode cX9_pass 148 = .ok (.lstore 16, 2) := by decide +kernel
theorem dX9_pass_150 : decode cX9_pass 150 = .ok (.lload 16, 2) := by decide +kernel
theorem dX9_pass_152 : decode cX9_pass 152 = .ok (.aload_n 0, 1) := by decide +kernel
theorem dX9_pass_153 : decode cX9_pass 153 = .ok (.getfield 32, 3) := by decide +kernel
theorem dX9_pass_156 : decode cX9_pass 156 = .ok (.iload 4, 2) := by decide +kernel
theorem dX9_pass_158 : decode cX9_pass 158 = .ok (.iconst 1, 1) := by decide +kernel
theorem dX9_pass_159 : decode cX9_pass 159 = .ok (.iadd, 1) := by decide +kernel
theorem dX9_pass_160 : decode cX9_pass 160 = .ok (.iload_n 1, 1) := by decide +kernel
theorem dX9_pass_161 : decode cX9_pass 161 = .ok (.iload_n 3, 1) := by decide +kernel
theorem dX9_pass_162 : decode cX9_pass 162 = .ok (.aload_n 0, 1) := by decide +kernel
theorem dX9_pass_163 : decode cX9_pass 163 = .ok (.getfield 36, 3) := by decide +kernel
theorem dX9_pass_166 : decode cX9_pass 166 = .ok (.invokevirtual 93, 3) := by decide +kernel
theorem dX9_pass_169 : decode cX9_pass 169 = .ok (.lmul, 1) := by decide +kernel
theorem dX9_pass_170 : decode cX9_pass 170 = .ok (.lstore 18, 2) := by decide +kernel
theorem dX9_pass_172 : decode cX9_pass 172 = .ok (.aload_n 0, 1) := by decide +kernel
theorem dX9_pass_173 : decode cX9_pass 173 = .ok (.getfield 21, 3) := by decide +kernel
theorem dX9_pass_176 : decode cX9_pass 176 = .ok (.iload_n 2, 1) := by decide +kernel
theorem dX9_pass_177 : decode cX9_pass 177 = .ok (.iconst 1, 1) := by decide +kernel
theorem dX9_pass_178 : decode cX9_pass 178 = .ok (.isub, 1) := by decide +kernel
theorem dX9_pass_179 : decode cX9_pass 179 = .ok (.lload 12, 2) := by decide +kernel
theorem dX9_pass_181 : decode cX9_pass 181 = .ok (.iload 10, 2) := by decide +kernel
theorem dX9_pass_183 : decode cX9_pass 183 = .ok (.i2l, 1) := by decide +kernel
theorem dX9_pass_184 : decode cX9_pass 184 = .ok (.lmul, 1) := by decide +kernel
theorem dX9_pass_185 : decode cX9_pass 185 = .ok (.invokestatic 62, 3) := by decide +kernel
theorem dX9_pass_188 : decode cX9_pass 188 = .ok (.aload_n 0, 1) := by decide +kernel
theorem dX9_pass_189 : decode cX9_pass 189 = .ok (.getfield 21, 3) := by decide +kernel
theorem dX9_pass_192 : decode cX9_pass 192 = .ok (.iload_n 2, 1) := by decide +kernel
theorem dX9_pass_193 : decode cX9_pass 193 = .ok (.lload 14, 2) := by decide +kernel
theorem dX9_pass_195 : decode cX9_pass 195 = .ok (.invokestatic 62, 3) := by decide +kernel
theorem dX9_pass_198 : decode cX9_pass 198 = .ok (.aload_n 0, 1) := by decide +kernel
theorem dX9_pass_199 : decode cX9_pass 199 = .ok (.getfield 21, 3) := by decide +kernel
theorem dX9_pass_202 : decode cX9_pass 202 = .ok (.iload_n 2, 1) := by decide +kernel
theorem dX9_pass_203 : decode cX9_pass 203 = .ok (.iconst 1, 1) := by decide +kernel
theorem dX9_pass_204 : decode cX9_pass 204 = .ok (.iadd, 1) := by decide +kernel
theorem dX9_pass_205 : decode cX9_pass 205 = .ok (.lload 18, 2) := by decide +kernel
theorem dX9_pass_207 : decode cX9_pass 207 = .ok (.invokestatic 62, 3) := by decide +kernel
theorem dX9_pass_210 : decode cX9_pass 210 = .ok (.aload_n 0, 1) := by decide +kernel
theorem dX9_pass_211 : decode cX9_pass 211 = .ok (.iload_n 1, 1) := by decide +kernel
theorem dX9_pass_212 : decode cX9_pass 212 = .ok (.iload_n 2, 1) := by decide +kernel
theorem dX9_pass_213 : decode cX9_pass 213 = .ok (.lload 14, 2) := by decide +kernel
theorem dX9_pass_215 : decode cX9_pass 215 = .ok (.lload 16, 2) := by decide +kernel
theorem dX9_pass_217 : decode cX9_pass 217 = .ok (.ladd, 1) := by decide +kernel
theorem dX9_pass_218 : decode cX9_pass 218 = .ok (.invokevirtual 99, 3) := by decide +kernel
theorem dX9_pass_221 : decode cX9_pass 221 = .ok (.aload_n 0, 1) := by decide +kernel
theorem dX9_pass_222 : decode cX9_pass 222 = .ok (.iload_n 1, 1) := by decide +kernel
theorem dX9_pass_223 : decode cX9_pass 223 = .ok (.iload_n 2, 1) := by decide +kernel
theorem dX9_pass_224 : decode cX9_pass 224 = .ok (.iconst 1, 1) := by decide +kernel
theorem dX9_pass_225 : decode cX9_pass 225 = .ok (.iadd, 1) := by decide +kernel
theorem dX9_pass_226 : decode cX9_pass 226 = .ok (.lload 18, 2) := by decide +kernel
theorem dX9_pass_228 : decode cX9_pass 228 = .ok (.invokevirtual 99, 3) := by decide +kernel
theorem dX9_pass_231 : decode cX9_pass 231 = .ok (.return_, 1) := by decide +kernel
theorem dX9_addSaid_0 : decode cX9_addSaid 0 = .ok (.iload_n 2, 1) := by decide +kernel
theorem dX9_addSaid_1 : decode cX9_addSaid 1 = .ok (.iconst 0, 1) := by decide +kernel
theorem dX9_addSaid_2 : decode cX9_addSaid 2 = .ok (.bipush 20, 2) := by decide +kernel
theorem dX9_addSaid_4 : decode cX9_addSaid 4 = .ok (.invokestatic 50, 3) := by decide +kernel
theorem dX9_addSaid_7 : decode cX9_addSaid 7 = .ok (.ifCond .eq 33, 3) := by decide +kernel
theorem dX9_addSaid_10 : decode cX9_addSaid 10 = .ok (.aload_n 0, 1) := by decide +kernel
theorem dX9_addSaid_11 : decode cX9_addSaid 11 = .ok (.getfield 9, 3) := by decide +kernel
theorem dX9_addSaid_14 : decode cX9_addSaid 14 = .ok (.iload_n 1, 1) := by decide +kernel
theorem dX9_addSaid_15 : decode cX9_addSaid 15 = .ok (.bipush 21, 2) := by decide +kernel
theorem dX9_addSaid_17 : decode cX9_addSaid 17 = .ok (.imul, 1) := by decide +kernel
theorem dX9_addSaid_18 : decode cX9_addSaid 18 = .ok (.iload_n 2, 1) := by decide +kernel
theorem dX9_addSaid_19 : decode cX9_addSaid 19 = .ok (.iadd, 1) := by decide +kernel
theorem dX9_addSaid_20 : decode cX9_addSaid 20 = .ok (.lload_n 3, 1) := by decide +kernel
theorem dX9_addSaid_21 : decode cX9_addSaid 21 = .ok (.invokestatic 62, 3) := by decide +kernel
theorem dX9_addSaid_24 : decode cX9_addSaid 24 = .ok (.aload_n 0, 1) := by decide +kernel
theorem dX9_addSaid_25 : decode cX9_addSaid 25 = .ok (.getfield 15, 3) := by decide +kernel
theorem dX9_addSaid_28 : decode cX9_addSaid 28 = .ok (.iload_n 1, 1) := by decide +kernel
theorem dX9_addSaid_29 : decode cX9_addSaid 29 = .ok (.iload_n 2, 1) := by decide +kernel
theorem dX9_addSaid_30 : decode cX9_addSaid 30 = .ok (.iadd, 1) := by decide +kernel
theorem dX9_addSaid_31 : decode cX9_addSaid 31 = .ok (.bipush 10, 2) := by decide +kernel
theorem dX9_addSaid_33 : decode cX9_addSaid 33 = .ok (.isub, 1) := by decide +kernel
theorem dX9_addSaid_34 : decode cX9_addSaid 34 = .ok (.iconst 1, 1) := by decide +kernel
theorem dX9_addSaid_35 : decode cX9_addSaid 35 = .ok (.iadd, 1) := by decide +kernel
theorem dX9_addSaid_36 : decode cX9_addSaid 36 = .ok (.lload_n 3, 1) := by decide +kernel
theorem dX9_addSaid_37 : decode cX9_addSaid 37 = .ok (.invokestatic 62, 3) := by decide +kernel
theorem dX9_addSaid_40 : decode cX9_addSaid 40 = .ok (.return_, 1) := by decide +kernel
theorem dX10_init_0 : decode cX10_init 0 = .ok (.aload_n 0, 1) := by decide +kernel
theorem dX10_init_1 : decode cX10_init 1 = .ok (.invokespecial 3, 3) := by decide +kernel
theorem dX10_init_4 : decode cX10_init 4 = .ok (.aload_n 0, 1) := by decide +kernel
theorem dX10_init_5 : decode cX10_init 5 = .ok (.new 9, 3) := by decide +kernel
theorem dX10_init_8 : decode cX10_init 8 = .ok (.dup, 1) := by decide +kernel
theorem dX10_init_9 : decode cX10_init 9 = .ok (.invokespecial 11, 3) := by decide +kernel
theorem dX10_init_12 : decode cX10_init 12 = .ok (.putfield 12, 3) := by decide +kernel
theorem dX10_init_15 : decode cX10_init 15 = .ok (.aload_n 0, 1) := by decide +kernel
theorem dX10_init_16 : decode cX10_init 16 = .ok (.new 16, 3) := by decide +kernel
theorem dX10_init_19 : decode cX10_init 19 = .ok (.dup, 1) := by decide +kernel
theorem dX10_init_20 : decode cX10_init 20 = .ok (.invokespecial 18, 3) := by decide +kernel
theorem dX10_init_23 : decode cX10_init 23 = .ok (.putfield 19, 3) := by decide +kernel
theorem dX10_init_26 : decode cX10_init 26 = .ok (.aload_n 0, 1) := by decide +kernel
theorem dX10_init_27 : decode cX10_init 27 = .ok (.new 23, 3) := by decide +kernel
theorem dX10_init_30 : decode cX10_init 30 = .ok (.dup, 1) := by decide +kernel
theorem dX10_init_31 : decode cX10_init 31 = .ok (.invokespecial 25, 3) := by decide +kernel
theorem dX10_init_34 : decode cX10_init 34 = .ok (.putfield 26, 3) := by decide +kernel
theorem dX10_init_37 : decode cX10_init 37 = .ok (.aload_n 0, 1) := by decide +kernel
theorem dX10_init_38 : decode cX10_init 38 = .ok (.new 23, 3) := by decide +kernel
theorem dX10_init_41 : decode cX10_init 41 = .ok (.dup, 1) := by decide +kernel
theorem dX10_init_42 : decode cX10_init 42 = .ok (.invokespecial 25, 3) := by decide +kernel
theorem dX10_init_45 : decode cX10_init 45 = .ok (.putfield 30, 3) := by decide +kernel
theorem dX10_init_48 : decode cX10_init 48 = .ok (.aload_n 0, 1) := by decide +kernel
theorem dX10_init_49 : decode cX10_init 49 = .ok (.new 33, 3) := by decide +kernel
theorem dX10_init_52 : decode cX10_init 52 = .ok (.dup, 1) := by decide +kernel
theorem dX10_init_53 : decode cX10_init 53 = .ok (.invokespecial 35, 3) := by decide +kernel
theorem dX10_init_56 : decode cX10_init 56 = .ok (.putfield 36, 3) := by decide +kernel
theorem dX10_init_59 : decode cX10_init 59 = .ok (.aload_n 0, 1) := by decide +kernel
theorem dX10_init_60 : decode cX10_init 60 = .ok (.new 40, 3) := by decide +kernel
theorem dX10_init_63 : decode cX10_init 63 = .ok (.dup, 1) := by decide +kernel
theorem dX10_init_64 : decode cX10_init 64 = .ok (.aload_n 0, 1) := by decide +kernel
theorem dX10_init_65 : decode cX10_init 65 = .ok (.getfield 12, 3) := by decide +kernel
theorem dX10_init_68 : decode cX10_init 68 = .ok (.aload_n 0, 1) := by decide +kernel
theorem dX10_init_69 : decode cX10_init 69 = .ok (.getfield 26, 3) := by decide +kernel
theorem dX10_init_72 : decode cX10_init 72 = .ok (.aload_n 0, 1) := by decide +kernel
theorem dX10_init_73 : decode cX10_init 73 = .ok (.getfield 36, 3) := by decide +kernel
theorem dX10_init_76 : decode cX10_init 76 = .ok (.aload_n 0, 1) := by decide +kernel
theorem dX10_init_77 : decode cX10_init 77 = .ok (.getfield 19, 3) := by decide +kernel
theorem dX10_init_80 : decode cX10_init 80 = .ok (.invokespecial 42, 3) := by decide +kernel
theorem dX10_init_83 : decode cX10_init 83 = .ok (.putfield 45, 3) := by decide +kernel
theorem dX10_init_86 : decode cX10_init 86 = .ok (.aload_n 0, 1) := by decide +kernel
theorem dX10_init_87 : decode cX10_init 87 = .ok (.new 49, 3) := by decide +kernel
theorem dX10_init_90 : decode cX10_init 90 = .ok (.dup, 1) := by decide +kernel
theorem dX10_init_91 : decode cX10_init 91 = .ok (.aload_n 0, 1) := by decide +kernel
theorem dX10_init_92 : decode cX10_init 92 = .ok (.getfield 12, 3) := by decide +kernel
theorem dX10_init_95 : decode cX10_init 95 = .ok (.invokespecial 51, 3) := by decide +kernel
theorem dX10_init_98 : decode cX10_init 98 = .ok (.putfield 54, 3) := by decide +kernel
theorem dX10_init_101 : decode cX10_init 101 = .ok (.aload_n 0, 1) := by decide +kernel
theorem dX10_init_102 : decode cX10_init 102 = .ok (.new 58, 3) := by decide +kernel
theorem dX10_init_105 : decode cX10_init 105 = .ok (.dup, 1) := by decide +kernel
theorem dX10_init_106 : decode cX10_init 106 = .ok (.invokespecial 60, 3) := by decide +kernel
theorem dX10_init_109 : decode cX10_init 109 = .ok (.putfield 61, 3) := by decide +kernel
theorem dX10_init_112 : decode cX10_init 112 = .ok (.aload_n 0, 1) := by decide +kernel
theorem dX10_init_113 : decode cX10_init 113 = .ok (.new 65, 3) := by decide +kernel
theorem dX10_init_116 : decode cX10_init 116 = .ok (.dup, 1) := by decide +kernel
theorem dX10_init_117 : decode cX10_init 117 = .ok (.invokespecial 67, 3) := by decide +kernel
theorem dX10_init_120 : decode cX10_init 120 = .ok (.putfield 68, 3) := by decide +kernel
theorem dX10_init_123 : decode cX10_init 123 = .ok (.aload_n 0, 1) := by decide +kernel
theorem dX10_init_124 : decode cX10_init 124 = .ok (.new 72, 3) := by decide +kernel
theorem dX10_init_127 : decode cX10_init 127 = .ok (.dup, 1) := by decide +kernel
theorem dX10_init_128 : decode cX10_init 128 = .ok (.invokespecial 74, 3) := by decide +kernel
theorem dX10_init_131 : decode cX10_init 131 = .ok (.putfield 75, 3) := by decide +kernel
theorem dX10_init_134 : decode cX10_init 134 = .ok (.aload_n 0, 1) := by decide +kernel
theorem dX10_init_135 : decode cX10_init 135 = .ok (.iconst 4, 1) := by decide +kernel
theorem dX10_init_136 : decode cX10_init 136 = .ok (.anewarray 79, 3) := by decide +kernel
theorem dX10_init_139 : decode cX10_init 139 = .ok (.putfield 81, 3) := by decide +kernel
theorem dX10_init_142 : decode cX10_init 142 = .ok (.iconst 0, 1) := by decide +kernel
theorem dX10_init_143 : decode cX10_init 143 = .ok (.istore_n 1, 1) := by decide +kernel
theorem dX10_init_144 : decode cX10_init 144 = .ok (.iload_n 1, 1) := by decide +kernel
theorem dX10_init_145 : decode cX10_init 145 = .ok (.aload_n 0, 1) := by decide +kernel
theorem dX10_init_146 : decode cX10_init 146 = .ok (.getfield 81, 3) := by decide +kernel
theorem dX10_init_149 : decode cX10_init 149 = .ok (.arraylength, 1) := by decide +kernel
theorem dX10_init_150 : decode cX10_init 150 = .ok (.if_icmp .ge 22, 3) := by decide +kernel
theorem dX10_init_153 : decode cX10_init 153 = .ok (.aload_n 0, 1) := by decide +kernel
theorem dX10_init_154 : decode cX10_init 154 = .ok (.getfield 81, 3) := by decide +kernel
theorem dX10_init_157 : decode cX10_init 157 = .ok (.iload_n 1, 1) := by decide +kernel
theorem dX10_init_158 : decode cX10_init 158 = .ok (.new 79, 3) := by decide +kernel
theorem dX10_init_161 : decode cX10_init 161 = .ok (.dup, 1) := by decide +kernel
theorem dX10_init_162 : decode cX10_init 162 = .ok (.invokespecial 85, 3) := by decide +kernel
theorem dX10_init_165 : decode cX10_init 165 = .ok (.aastore, 1) := by decide +kernel
theorem dX10_init_166 : decode cX10_init 166 = .ok (.iinc 1 1, 3) := by decide +kernel
theorem dX10_init_169 : decode cX10_init 169 = .ok (.goto (-25), 3) := by decide +kernel
theorem dX10_init_172 : decode cX10_init 172 = .ok (.aload_n 0, 1) := by decide +kernel
theorem dX10_init_173 : decode cX10_init 173 = .ok (.iconst 1, 1) := by decide +kernel
theorem dX10_init_174 : decode cX10_init 174 = .ok (.putfield 86, 3) := by decide +kernel
theorem dX10_init_177 : decode cX10_init 177 = .ok (.aload_n 0, 1) := by decide +kernel
theorem dX10_init_178 : decode cX10_init 178 = .ok (.iconst 0, 1) := by decide +kernel
theorem dX10_init_179 : decode cX10_init 179 = .ok (.putfield 90, 3) := by decide +kernel
theorem dX10_init_182 : decode cX10_init 182 = .ok (.return_, 1) := by decide +kernel
theorem dX10_type_0 : decode cX10_type 0 = .ok (.iload_n 1, 1) := by decide +kernel
theorem dX10_type_1 : decode cX10_type 1 = .ok (.iconst 0, 1) := by decide +kernel
theorem dX10_type_2 : decode cX10_type 2 = .ok (.sipush 255, 3) := by decide +kernel
theorem dX10_type_5 : decode cX10_type 5 = .ok (.invokestatic 94, 3) := by decide +kernel
theorem dX10_type_8 : decode cX10_type 8 = .ok (.ifCond .ne 6, 3) := by decide +kernel
theorem dX10_type_11 : decode cX10_type 11 = .ok (.bipush (-2), 2) := by decide +kernel
theorem dX10_type_13 : decode cX10_type 13 = .ok (.ireturn, 1) := by decide +kernel
theorem dX10_type_14 : decode cX10_type 14 = .ok (.aload_n 0, 1) := by decide +kernel
theorem dX10_type_15 : decode cX10_type 15 = .ok (.getfield 12, 3) := by decide +kernel
theorem dX10_type_18 : decode cX10_type 18 = .ok (.iload_n 1, 1) := by decide +kernel
theorem dX10_type_19 : decode cX10_type 19 = .ok (.invokevirtual 98, 3) := by decide +kernel
theorem dX10_type_22 : decode cX10_type 22 = .ok (.ifCond .ne 6, 3) := by decide +kernel
theorem dX10_type_25 : decode cX10_type 25 = .ok (.bipush (-4), 2) := by decide +kernel
theorem dX10_type_27 : decode cX10_type 27 = .ok (.ireturn, 1) := by decide +kernel
theorem dX10_type_28 : decode cX10_type 28 = .ok (.aload_n 0, 1) := by decide +kernel
theorem dX10_type_29 : decode cX10_type 29 = .ok (.iconst 1, 1) := by decide +kernel
theorem dX10_type_30 : decode cX10_type 30 = .ok (.putfield 86, 3) := by decide +kernel
theorem dX10_type_33 : decode cX10_type 33 = .ok (.aload_n 0, 1) := by decide +kernel
theorem dX10_type_34 : decode cX10_type 34 = .ok (.getfield 12, 3) := by decide +kernel
theorem dX10_type_37 : decode cX10_type 37 = .ok (.getfield 102, 3) := by decide +kernel
theorem dX10_type_40 : decode cX10_type 40 = .ok (.ireturn, 1) := by decide +kernel
theorem dX10_wipe_0 : decode cX10_wipe 0 = .ok (.aload_n 0, 1) := by decide +kernel
theorem dX10_wipe_1 : decode cX10_wipe 1 = .ok (.getfield 12, 3) := by decide +kernel
theorem dX10_wipe_4 : decode cX10_wipe 4 = .ok (.getfield 102, 3) := by decide +kernel
theorem dX10_wipe_7 : decode cX10_wipe 7 = .ok (.istore_n 1, 1) := by decide +kernel
theorem dX10_wipe_8 : decode cX10_wipe 8 = .ok (.aload_n 0, 1) := by decide +kernel
theorem dX10_wipe_9 : decode cX10_wipe 9 = .ok (.getfield 12, 3) := by decide +kernel
theorem dX10_wipe_12 : decode cX10_wipe 12 = .ok (.iload_n 1, 1) := by decide +kernel
theorem dX10_wipe_13 : decode cX10_wipe 13 = .ok (.invokevirtual 105, 3) := by decide +kernel
theorem dX10_wipe_16 : decode cX10_wipe 16 = .ok (.aload_n 0, 1) := by decide +kernel
theorem dX10_wipe_17 : decode cX10_wipe 17 = .ok (.iconst 1, 1) := by decide +kernel
theorem dX10_wipe_18 : decode cX10_wipe 18 = .ok (.putfield 86, 3) := by decide +kernel
theorem dX10_wipe_21 : decode cX10_wipe 21 = .ok (.iload_n 1, 1) := by decide +kernel
theorem dX10_wipe_22 : decode cX10_wipe 22 = .ok (.ireturn, 1) := by decide +kernel
theorem dX10_undo_0 : decode cX10_undo 0 = .ok (.aload_n 0, 1) := by decide +kernel
theorem dX10_undo_1 : decode cX10_undo 1 = .ok (.getfield 12, 3) := by decide +kernel
theorem dX10_undo_4 : decode cX10_undo 4 = .ok (.getfield 102, 3) := by decide +kernel
theorem dX10_undo_7 : decode cX10_undo 7 = .ok (.ifCond .ne 6, 3) := by decide +kernel
theorem dX10_undo_10 : decode cX10_undo 10 = .ok (.bipush (-3), 2) := by decide +kernel
theorem dX10_undo_12 : decode cX10_undo 12 = .ok (.ireturn, 1) := by decide +kernel
theorem dX10_undo_13 : decode cX10_undo 13 = .ok (.aload_n 0, 1) := by decide +kernel
theorem dX10_undo_14 : decode cX10_undo 14 = .ok (.getfield 12, 3) := by decide +kernel
theorem dX10_undo_17 : decode cX10_undo 17 = .ok (.iconst 1, 1) := by decide +kernel
theorem dX10_undo_18 : decode cX10_undo 18 = .ok (.invokevirtual 105, 3) := by decide +kernel
theorem dX10_undo_21 : decode cX10_undo 21 = .ok (.aload_n 0, 1) := by decide +kernel
theorem dX10_undo_22 : decode cX10_undo 22 = .ok (.iconst 1, 1) := by decide +kernel
theorem dX10_undo_23 : decode cX10_undo 23 = .ok (.putfield 86, 3) := by decide +kernel
theorem dX10_undo_26 : decode cX10_undo 26 = .ok (.aload_n 0, 1) := by decide +kernel
theorem dX10_undo_27 : decode cX10_undo 27 = .ok (.getfield 12, 3) := by decide +kernel
theorem dX10_undo_30 : decode cX10_undo 30 = .ok (.getfield 102, 3) := by decide +kernel
theorem dX10_undo_33 : decode cX10_undo 33 = .ok (.ireturn, 1) := by decide +kernel
theorem dX10_fault_0 : decode cX10_fault 0 = .ok (.aload_n 0, 1) := by decide +kernel
theorem dX10_fault_1 : decode cX10_fault 1 = .ok (.getfield 12, 3) := by decide +kernel
theorem dX10_fault_4 : decode cX10_fault 4 = .ok (.getfield 109, 3) := by decide +kernel
theorem dX10_fault_7 : decode cX10_fault 7 = .ok (.ireturn, 1) := by decide +kernel
theorem dX10_bar_0 : decode cX10_bar 0 = .ok (.aload_n 0, 1) := by decide +kernel
theorem dX10_bar_1 : decode cX10_bar 1 = .ok (.getfield 12, 3) := by decide +kernel
theorem dX10_bar_4 : decode cX10_bar 4 = .ok (.iload_n 1, 1) := by decide +kernel
theorem dX10_bar_5 : decode cX10_bar 5 = .ok (.invokevirtual 112, 3) := by decide +kernel
theorem dX10_bar_8 : decode cX10_bar 8 = .ok (.ifCond .eq 12, 3) := by decide +kernel
theorem dX10_bar_11 : decode cX10_bar 11 = .ok (.iload_n 2, 1) := by decide +kernel
theorem dX10_bar_12 : decode cX10_bar 12 = .ok (.iconst 0, 1) := by decide +kernel
theorem dX10_bar_13 : decode cX10_bar 13 = .ok (.iconst 2, 1) := by decide +kernel
theorem dX10_bar_14 : decode cX10_bar 14 = .ok (.invokestatic 94, 3) := by decide +kernel
theorem dX10_bar_17 : decode cX10_bar 17 = .ok (.ifCond .ne 6, 3) := by decide +kernel
theorem dX10_bar_20 : decode cX10_bar 20 = .ok (.bipush (-2), 2) := by decide +kernel
theorem dX10_bar_22 : decode cX10_bar 22 = .ok (.ireturn, 1) := by decide +kernel
theorem dX10_bar_23 : decode cX10_bar 23 = .ok (.iload_n 2, 1) := by decide +kernel
theorem dX10_bar_24 : decode cX10_bar 24 = .ok (.ifCond .ne 12, 3) := by decide +kernel
theorem dX10_bar_27 : decode cX10_bar 27 = .ok (.aload_n 0, 1) := by decide +kernel
theorem dX10_bar_28 : decode cX10_bar 28 = .ok (.getfield 12, 3) := by decide +kernel
theorem dX10_bar_31 : decode cX10_bar 31 = .ok (.iload_n 1, 1) := by decide +kernel
theorem dX10_bar_32 : decode cX10_bar 32 = .ok (.invokevirtual 115, 3) := by decide +kernel
theorem dX10_bar_35 : decode cX10_bar 35 = .ok (.ireturn, 1) := by decide +kernel
theorem dX10_bar_36 : decode cX10_bar 36 = .ok (.iload_n 2, 1) := by decide +kernel
theorem dX10_bar_37 : decode cX10_bar 37 = .ok (.iconst 1, 1) := by decide +kernel
theorem dX10_bar_38 : decode cX10_bar 38 = .ok (.if_icmp .ne 14, 3) := by decide +kernel
theorem dX10_bar_41 : decode cX10_bar 41 = .ok (.aload_n 0, 1) := by decide +kernel
theorem dX10_bar_42 : decode cX10_bar 42 = .ok (.getfield 12, 3) := by decide +kernel
theorem dX10_bar_45 : decode cX10_bar 45 = .ok (.iload_n 1, 1) := by decide +kernel
theorem dX10_bar_46 : decode cX10_bar 46 = .ok (.invokevirtual 119, 3) := by decide +kernel
theorem dX10_bar_49 : decode cX10_bar 49 = .ok (.goto 11, 3) := by decide +kernel
theorem dX10_bar_52 : decode cX10_bar 52 = .ok (.aload_n 0, 1) := by decide +kernel
theorem dX10_bar_53 : decode cX10_bar 53 = .ok (.getfield 12, 3) := by decide +kernel
theorem dX10_bar_56 : decode cX10_bar 56 = .ok (.iload_n 1, 1) := by decide +kernel
theorem dX10_bar_57 : decode cX10_bar 57 = .ok (.invokevirtual 122, 3) := by decide +kernel
theorem dX10_bar_60 : decode cX10_bar 60 = .ok (.ireturn, 1) := by decide +kernel
theorem dX10_odds_0 : decode cX10_odds 0 = .ok (.iload_n 1, 1) := by decide +kernel
theorem dX10_odds_1 : decode cX10_odds 1 = .ok (.iconst 0, 1) := by decide +kernel
theorem dX10_odds_2 : decode cX10_odds 2 = .ok (.iconst 2, 1) := by decide +kernel
theorem dX10_odds_3 : decode cX10_odds 3 = .ok (.invokestatic 94, 3) := by decide +kernel
theorem dX10_odds_6 : decode cX10_odds 6 = .ok (.ifCond .eq 25, 3) := by decide +kernel
theorem dX10_odds_9 : decode cX10_odds 9 = .ok (.iload_n 2, 1) := by decide +kernel
theorem dX10_odds_10 : decode cX10_odds 10 = .ok (.iconst 0, 1) := by decide +kernel
theorem dX10_odds_11 : decode cX10_odds 11 = .ok (.bipush 16, 2) := by decide +kernel
theorem dX10_odds_13 : decode cX10_odds 13 = .ok (.invokestatic 94, 3) := by decide +kernel
theorem dX10_odds_16 : decode cX10_odds 16 = .ok (.ifCond .eq 15, 3) := by decide +kernel
theorem dX10_odds_19 : decode cX10_odds 19 = .ok (.iload_n 3, 1) := by decide +kernel
theorem dX10_odds_20 : decode cX10_odds 20 = .ok (.iconst 0, 1) := by decide +kernel
theorem dX10_odds_21 : decode cX10_odds 21 = .ok (.bipush 16, 2) := by decide +kernel
theorem dX10_odds_23 : decode cX10_odds 23 = .ok (.iload_n 2, 1) := by decide +kernel
theorem dX10_odds_24 : decode cX10_odds 24 = .ok (.isub, 1) := by decide +kernel
theorem dX10_odds_25 : decode cX10_odds 25 = .ok (.invokestatic 94, 3) := by decide +kernel
theorem dX10_odds_28 : decode cX10_odds 28 = .ok (.ifCond .ne 6, 3) := by decide +kernel
theorem dX10_odds_31 : decode cX10_odds 31 = .ok (.bipush (-2), 2) := by decide +kernel
theorem dX10_odds_33 : decode cX10_odds 33 = .ok (.ireturn, 1) := by decide +kernel
theorem dX10_odds_34 : decode cX10_odds 34 = .ok (.bipush 16, 2) := by decide +kernel
theorem dX10_odds_36 : decode cX10_odds 36 = .ok (.aload_n 0, 1) := by decide +kernel
theorem dX10_odds_37 : decode cX10_odds 37 = .ok (.getfield 26, 3) := by decide +kernel
theorem dX10_odds_40 : decode cX10_odds 40 = .ok (.iload_n 1, 1) := by decide +kernel
theorem dX10_odds_41 : decode cX10_odds 41 = .ok (.invokevirtual 125, 3) := by decide +kernel
theorem dX10_odds_44 : decode cX10_odds 44 = .ok (.imul, 1) := by decide +kernel
theorem dX10_odds_45 : decode cX10_odds 45 = .ok (.aload_n 0, 1) := by decide +kernel
theorem dX10_odds_46 : decode cX10_odds 46 = .ok (.getfield 26, 3) := by decide +kernel
theorem dX10_odds_49 : decode cX10_odds 49 = .ok (.iload_n 1, 1) := by decide +kernel
theorem dX10_odds_50 : decode cX10_odds 50 = .ok (.invokevirtual 128, 3) := by decide +kernel
theorem dX10_odds_53 : decode cX10_odds 53 = .ok (.iadd, 1) := by decide +kernel
theorem dX10_odds_54 : decode cX10_odds 54 = .ok (.istore 4, 2) := by decide +kernel
theorem dX10_odds_56 : decode cX10_odds 56 = .ok (.aload_n 0, 1) := by decide +kernel
theorem dX10_odds_57 : decode cX10_odds 57 = .ok (.getfield 26, 3) := by decide +kernel
theorem dX10_odds_60 : decode cX10_odds 60 = .ok (.iload_n 1, 1) := by decide +kernel
theorem dX10_odds_61 : decode cX10_odds 61 = .ok (.iload_n 2, 1) := by decide +kernel
theorem dX10_odds_62 : decode cX10_odds 62 = .ok (.iload_n 3, 1) := by decide +kernel
theorem dX10_odds_63 : decode cX10_odds 63 = .ok (.invokevirtual 131, 3) := by decide +kernel
theorem dX10_odds_66 : decode cX10_odds 66 = .ok (.aload_n 0, 1) := by decide +kernel
theorem dX10_odds_67 : decode cX10_odds 67 = .ok (.iconst 1, 1) := by decide +kernel
theorem dX10_odds_68 : decode cX10_odds 68 = .ok (.putfield 86, 3) := by decide +kernel
theorem dX10_odds_71 : decode cX10_odds 71 = .ok (.iload 4, 2) := by decide +kernel
theorem dX10_odds_73 : decode cX10_odds 73 = .ok (.ireturn, 1) := by decide +kernel
theorem dX10_set_0 : decode cX10_set 0 = .ok (.iload_n 1, 1) := by decide +kernel
theorem dX10_set_1 : decode cX10_set 1 = .ok (.iconst 0, 1) := by decide +kernel
theorem dX10_set_2 : decode cX10_set 2 = .ok (.bipush 8, 2) := by decide +kernel
theorem dX10_set_4 : decode cX10_set 4 = .ok (.invokestatic 94, 3) := by decide +kernel
theorem dX10_set_7 : decode cX10_set 7 = .ok (.ifCond .eq 15, 3) := by decide +kernel
theorem dX10_set_10 : decode cX10_set 10 = .ok (.iload_n 2, 1) := by decide +kernel
theorem dX10_set_11 : decode cX10_set 11 = .ok (.iconst 0, 1) := by decide +kernel
theorem dX10_set_12 : decode cX10_set 12 = .ok (.iload_n 1, 1) := by decide +kernel
theorem dX10_set_13 : decode cX10_set 13 = .ok (.invokestatic 135, 3) := by decide +kernel
theorem dX10_set_16 : decode cX10_set 16 = .ok (.invokestatic 94, 3) := by decide +kernel
theorem dX10_set_19 : decode cX10_set 19 = .ok (.ifCond .ne 6, 3) := by decide +kernel
theorem dX10_set_22 : decode cX10_set 22 = .ok (.bipush (-2), 2) := by decide +kernel
theorem dX10_set_24 : decode cX10_set 24 = .ok (.ireturn, 1) := by decide +kernel
theorem dX10_set_25 : decode cX10_set 25 = .ok (.aload_n 0, 1) := by decide +kernel
theorem dX10_set_26 : decode cX10_set 26 = .ok (.getfield 19, 3) := by decide +kernel
theorem dX10_set_29 : decode cX10_set 29 = .ok (.iload_n 1, 1) := by decide +kernel
theorem dX10_set_30 : decode cX10_set 30 = .ok (.invokevirtual 138, 3) := by decide +kernel
theorem dX10_set_33 : decode cX10_set 33 = .ok (.istore_n 3, 1) := by decide +kernel
theorem dX10_set_34 : decode cX10_set 34 = .ok (.aload_n 0, 1) := by decide +kernel
theorem dX10_set_35 : decode cX10_set 35 = .ok (.getfield 19, 3) := by decide +kernel
theorem dX10_set_38 : decode cX10_set 38 = .ok (.iload_n 1, 1) := by decide +kernel
theorem dX10_set_39 : decode cX10_set 39 = .ok (.iload_n 2, 1) := by decide +kernel
theorem dX10_set_40 : decode cX10_set 40 = .ok (.invokevirtual 141, 3) := by decide +kernel
theorem dX10_set_43 : decode cX10_set 43 = .ok (.aload_n 0, 1) := by decide +kernel
theorem dX10_set_44 : decode cX10_set 44 = .ok (.iconst 1, 1) := by decide +kernel
theorem dX10_set_45 : decode cX10_set 45 = .ok (.putfield 86, 3) := by decide +kernel
theorem dX10_set_48 : decode cX10_set 48 = .ok (.iload_n 3, 1) := by decide +kernel
theorem dX10_set_49 : decode cX10_set 49 = .ok (.ireturn, 1) := by decide +kernel
theorem dX10_read_0 : decode cX10_read 0 = .ok (.aload_n 0, 1) := by decide +kernel
theorem dX10_read_1 : decode cX10_read 1 = .ok (.iload_n 1, 1) := by decide +kernel
theorem dX10_read_2 : decode cX10_read 2 = .ok (.invokevirtual 144, 3) := by decide +kernel
theorem dX10_read_5 : decode cX10_read 5 = .ok (.astore_n 2, 1) := by decide +kernel
theorem dX10_read_6 : decode cX10_read 6 = .ok (.aload_n 2, 1) := by decide +kernel
theorem dX10_read_7 : decode cX10_read 7 = .ok (.ifnonnull 6, 3) := by decide +kernel
theorem dX10_read_10 : decode cX10_read 10 = .ok (.bipush (-2), 2) := by decide +kernel
theorem dX10_read_12 : decode cX10_read 12 = .ok (.ireturn, 1) := by decide +kernel
theorem dX10_read_13 : decode cX10_read 13 = .ok (.aload_n 2, 1) := by decide +kernel
theorem dX10_read_14 : decode cX10_read 14 = .ok (.getfield 148, 3) := by decide +kernel
theorem dX10_read_17 : decode cX10_read 17 = .ok (.ifCond .eq 9, 3) := by decide +kernel
theorem dX10_read_20 : decode cX10_read 20 = .ok (.aload_n 0, 1) := by decide +kernel
theorem dX10_read_21 : decode cX10_read 21 = .ok (.iconst 1, 1) := by decide +kernel
theorem dX10_read_22 : decode cX10_read 22 = .ok (.invokevirtual 151, 3) := by decide +kernel
theorem dX10_read_25 : decode cX10_read 25 = .ok (.ireturn, 1) := by decide +kernel
theorem dX10_read_26 : decode cX10_read 26 = .ok (.aload_n 0, 1) := by decide +kernel
theorem dX10_read_27 : decode cX10_read 27 = .ok (.getfield 68, 3) := by decide +kernel
theorem dX10_read_30 : decode cX10_read 30 = .ok (.invokevirtual 154, 3) := by decide +kernel
theorem dX10_read_33 : decode cX10_read 33 = .ok (.iconst 1, 1) := by decide +kernel
theorem dX10_read_34 : decode cX10_read 34 = .ok (.istore_n 3, 1) := by decide +kernel
theorem dX10_read_35 : decode cX10_read 35 = .ok (.iconst 0, 1) := by decide +kernel
theorem dX10_read_36 : decode cX10_read 36 = .ok (.istore 4, 2) := by decide +kernel
theorem dX10_read_38 : decode cX10_read 38 = .ok (.iload 4, 2) := by decide +kernel
theorem dX10_read_40 : decode cX10_read 40 = .ok (.aload_n 2, 1) := by decide +kernel
theorem dX10_read_41 : decode cX10_read 41 = .ok (.getfield 157, 3) := by decide +kernel
theorem dX10_read_44 : decode cX10_read 44 = .ok (.if_icmp .ge 47, 3) := by decide +kernel
theorem dX10_read_47 : decode cX10_read 47 = .ok (.iload_n 3, 1) := by decide +kernel
theorem dX10_read_48 : decode cX10_read 48 = .ok (.ifCond .eq 43, 3) := by decide +kernel
theorem dX10_read_51 : decode cX10_read 51 = .ok (.aload_n 2, 1) := by decide +kernel
theorem dX10_read_52 : decode cX10_read 52 = .ok (.iload 4, 2) := by decide +kernel
theorem dX10_read_54 : decode cX10_read 54 = .ok (.invokevirtual 158, 3) := by decide +kernel
theorem dX10_read_57 : decode cX10_read 57 = .ok (.istore 5, 2) := by decide +kernel
theorem dX10_read_59 : decode cX10_read 59 = .ok (.iload 5, 2) := by decide +kernel
theorem dX10_read_61 : decode cX10_read 61 = .ok (.invokestatic 161, 3) := by decide +kernel
theorem dX10_read_64 : decode cX10_read 64 = .ok (.ifCond .eq 19, 3) := by decide +kernel
theorem dX10_read_67 : decode cX10_read 67 = .ok (.aload_n 0, 1) := by decide +kernel
theorem dX10_read_68 : decode cX10_read 68 = .ok (.getfield 68, 3) := by decide +kernel
theorem dX10_read_71 : decode cX10_read 71 = .ok (.iload 5, 2) := by decide +kernel
theorem dX10_read_73 : decode cX10_read 73 = .ok (.invokevirtual 164, 3) := by decide +kernel
theorem dX10_read_76 : decode cX10_read 76 = .ok (.ifCond .eq 7, 3) := by decide +kernel
theorem dX10_read_79 : decode cX10_read 79 = .ok (.iconst 1, 1) := by decide +kernel
theorem dX10_read_80 : decode cX10_read 80 = .ok (.goto 4, 3) := by decide +kernel
theorem dX10_read_83 : decode cX10_read 83 = .ok (.iconst 0, 1) := by decide +kernel
theorem dX10_read_84 : decode cX10_read 84 = .ok (.istore_n 3, 1) := by decide +kernel
theorem dX10_read_85 : decode cX10_read 85 = .ok (.iinc 4 1, 3) := by decide +kernel
theorem dX10_read_88 : decode cX10_read 88 = .ok (.goto (-50), 3) := by decide +kernel
theorem dX10_read_91 : decode cX10_read 91 = .ok (.aload_n 0, 1) := by decide +kernel
theorem dX10_read_92 : decode cX10_read 92 = .ok (.getfield 68, 3) := by decide +kernel
theorem dX10_read_95 : decode cX10_read 95 = .ok (.getfield 165, 3) := by decide +kernel
theorem dX10_read_98 : decode cX10_read 98 = .ok (.ireturn, 1) := by decide +kernel
theorem dX10_hear_0 : decode cX10_hear 0 = .ok (.iload_n 1, 1) := by decide +kernel
theorem dX10_hear_1 : decode cX10_hear 1 = .ok (.invokestatic 161, 3) := by decide +kernel
theorem dX10_hear_4 : decode cX10_hear 4 = .ok (.ifCond .eq 12, 3) := by decide +kernel
theorem dX10_hear_7 : decode cX10_hear 7 = .ok (.iload_n 2, 1) := by decide +kernel
theorem dX10_hear_8 : decode cX10_hear 8 = .ok (.iconst 0, 1) := by decide +kernel
theorem dX10_hear_9 : decode cX10_hear 9 = .ok (.iconst 3, 1) := by decide +kernel
theorem dX10_hear_10 : decode cX10_hear 10 = .ok (.invokestatic 94, 3) := by decide +kernel
theorem dX10_hear_13 : decode cX10_hear 13 = .ok (.ifCond .ne 6, 3) := by decide +kernel
theorem dX10_hear_16 : decode cX10_hear 16 = .ok (.bipush (-2), 2) := by decide +kernel
theorem dX10_hear_18 : decode cX10_hear 18 = .ok (.ireturn, 1) := by decide +kernel
theorem dX10_hear_19 : decode cX10_hear 19 = .ok (.aload_n 0, 1) := by decide +kernel
theorem dX10_hear_20 : decode cX10_hear 20 = .ok (.iload_n 1, 1) := by decide +kernel
theorem dX10_hear_21 : decode cX10_hear 21 = .ok (.iload_n 2, 1) := by decide +kernel
theorem dX10_hear_22 : decode cX10_hear 22 = .ok (.iconst (-1), 1) := by decide +kernel
theorem dX10_hear_23 : decode cX10_hear 23 = .ok (.invokevirtual 166, 3) := by decide +kernel
theorem dX10_hear_26 : decode cX10_hear 26 = .ok (.ireturn, 1) := by decide +kernel
theorem dX10_shown_0 : decode cX10_shown 0 = .ok (.iload_n 1, 1) := by decide +kernel
theorem dX10_shown_1 : decode cX10_shown 1 = .ok (.invokestatic 161, 3) := by decide +kernel
theorem dX10_shown_4 : decode cX10_shown 4 = .ok (.ifCond .eq 13, 3) := by decide +kernel
theorem dX10_shown_7 : decode cX10_shown 7 = .ok (.iload_n 2, 1) := by decide +kernel
theorem dX10_shown_8 : decode cX10_shown 8 = .ok (.iconst 0, 1) := by decide +kernel
theorem dX10_shown_9 : decode cX10_shown 9 = .ok (.bipush 98, 2) := by decide +kernel
theorem dX10_shown_11 : decode cX10_shown 11 = .ok (.invokestatic 94, 3) := by decide +kernel
theorem dX10_shown_14 : decode cX10_shown 14 = .ok (.ifCond .ne 6, 3) := by decide +kernel
theorem dX10_shown_17 : decode cX10_shown 17 = .ok (.bipush (-2), 2) := by decide +kernel
theorem dX10_shown_19 : decode cX10_shown 19 = .ok (.ireturn, 1) := by decide +kernel
theorem dX10_shown_20 : decode cX10_shown 20 = .ok (.aload_n 0, 1) := by decide +kernel
theorem dX10_shown_21 : decode cX10_shown 21 = .ok (.iload_n 1, 1) := by decide +kernel
theorem dX10_shown_22 : decode cX10_shown 22 = .ok (.iconst (-1), 1) := by decide +kernel
theorem dX10_shown_23 : decode cX10_shown 23 = .ok (.iload_n 2, 1) := by decide +kernel
theorem dX10_shown_24 : decode cX10_shown 24 = .ok (.invokevirtual 166, 3) := by decide +kernel
theorem dX10_shown_27 : decode cX10_shown 27 = .ok (.ireturn, 1) := by decide +kernel
theorem dX10_forget_0 : decode cX10_forget 0 = .ok (.aload_n 0, 1) := by decide +kernel
theorem dX10_forget_1 : decode cX10_forget 1 = .ok (.getfield 36, 3) := by decide +kernel
theorem dX10_forget_4 : decode cX10_forget 4 = .ok (.getfield 170, 3) := by decide +kernel
theorem dX10_forget_7 : decode cX10_forget 7 = .ok (.istore_n 1, 1) := by decide +kernel
theorem dX10_forget_8 : decode cX10_forget 8 = .ok (.aload_n 0, 1) := by decide +kernel
theorem dX10_forget_9 : decode cX10_forget 9 = .ok (.getfield 36, 3) := by decide +kernel
theorem dX10_forget_12 : decode cX10_forget 12 = .ok (.iconst 0, 1) := by decide +kernel
theorem dX10_forget_13 : decode cX10_forget 13 = .ok (.putfield 170, 3) := by decide +kernel
theorem dX10_forget_16 : decode cX10_forget 16 = .ok (.aload_n 0, 1) := by decide +kernel
theorem dX10_forget_17 : decode cX10_forget 17 = .ok (.iconst 1, 1) := by decide +kernel
theorem dX10_forget_18 : decode cX10_forget 18 = .ok (.putfield 86, 3) := by decide +kernel
theorem dX10_forget_21 : decode cX10_forget 21 = .ok (.iload_n 1, 1) := by decide +kernel
theorem dX10_forget_22 : decode cX10_forget 22 = .ok (.ireturn, 1) := by decide +kernel
theorem dX10_where_0 : decode cX10_where 0 = .ok (.iload_n 1, 1) := by decide +kernel
theorem dX10_where_1 : decode cX10_where 1 = .ok (.invokestatic 161, 3) := by decide +kernel
theorem dX10_where_4 : decode cX10_where 4 = .ok (.ifCond .eq 21, 3) := by decide +kernel
theorem dX10_where_7 : decode cX10_where 7 = .ok (.aload_n 0, 1) := by decide +kernel
theorem dX10_where_8 : decode cX10_where 8 = .ok (.getfield 12, 3) := by decide +kernel
theorem dX10_where_11 : decode cX10_where 11 = .ok (.iload_n 2, 1) := by decide +kernel
theorem dX10_where_12 : decode cX10_where 12 = .ok (.invokevirtual 112, 3) := by decide +kernel
theorem dX10_where_15 : decode cX10_where 15 = .ok (.ifCond .eq 10, 3) := by decide +kernel
theorem dX10_where_18 : decode cX10_where 18 = .ok (.iload_n 3, 1) := by decide +kernel
theorem dX10_where_19 : decode cX10_where 19 = .ok (.invokestatic 171, 3) := by decide +kernel
theorem dX10_where_22 : decode cX10_where 22 = .ok (.ifCond .ne 9, 3) := by decide +kernel
theorem dX10_where_25 : decode cX10_where 25 = .ok (.bipush (-2), 2) := by decide +kernel
theorem dX10_where_27 : decode cX10_where 27 = .ok (.invokestatic 174, 3) := by decide +kernel
theorem dX10_where_30 : decode cX10_where 30 = .ok (.lreturn, 1) := by decide +kernel
theorem dX10_where_31 : decode cX10_where 31 = .ok (.aload_n 0, 1) := by decide +kernel
theorem dX10_where_32 : decode cX10_where 32 = .ok (.invokevirtual 178, 3) := by decide +kernel
theorem dX10_where_35 : decode cX10_where 35 = .ok (.aload_n 0, 1) := by decide +kernel
theorem dX10_where_36 : decode cX10_where 36 = .ok (.getfield 45, 3) := by decide +kernel
theorem dX10_where_39 : decode cX10_where 39 = .ok (.iload_n 1, 1) := by decide +kernel
theorem dX10_where_40 : decode cX10_where 40 = .ok (.invokevirtual 181, 3) := by decide +kernel
theorem dX10_where_43 : decode cX10_where 43 = .ok (.lstore 4, 2) := by decide +kernel
theorem dX10_where_45 : decode cX10_where 45 = .ok (.lload 4, 2) := by decide +kernel
theorem dX10_where_47 : decode cX10_where 47 = .ok (.lconst 0, 1) := by decide +kernel
theorem dX10_where_48 : decode cX10_where 48 = .ok (.lcmp, 1) := by decide +kernel
theorem dX10_where_49 : decode cX10_where 49 = .ok (.ifCond .ne 11, 3) := by decide +kernel
theorem dX10_where_52 : decode cX10_where 52 = .ok (.bipush (-3), 2) := by decide +kernel
theorem dX10_where_54 : decode cX10_where 54 = .ok (.invokestatic 174, 3) := by decide +kernel
theorem dX10_where_57 : decode cX10_where 57 = .ok (.goto 18, 3) := by decide +kernel
theorem dX10_where_60 : decode cX10_where 60 = .ok (.aload_n 0, 1) := by decide +kernel
theorem dX10_where_61 : decode cX10_where 61 = .ok (.getfield 45, 3) := by decide +kernel
theorem dX10_where_64 : decode cX10_where 64 = .ok (.iload_n 1, 1) := by decide +kernel
theorem dX10_where_65 : decode cX10_where 65 = .ok (.iload_n 2, 1) := by decide +kernel
theorem dX10_where_66 : decode cX10_where 66 = .ok (.invokevirtual 184, 3) := by decide +kernel
theorem dX10_where_69 : decode cX10_where 69 = .ok (.lload 4, 2) := by decide +kernel
theorem dX10_where_71 : decode cX10_where 71 = .ok (.iload_n 3, 1) := by decide +kernel
theorem dX10_where_72 : decode cX10_where 72 = .ok (.invokestatic 188, 3) := by decide +kernel
theorem dX10_where_75 : decode cX10_where 75 = .ok (.lreturn, 1) := by decide +kernel
theorem dX10_likeliest_0 : decode cX10_likeliest 0 = .ok (.iload_n 1, 1) := by decide +kernel
theorem dX10_likeliest_1 : decode cX10_likeliest 1 = .ok (.invokestatic 161, 3) := by decide +kernel
theorem dX10_likeliest_4 : decode cX10_likeliest 4 = .ok (.ifCond .ne 6, 3) := by decide +kernel
theorem dX10_likeliest_7 : decode cX10_likeliest 7 = .ok (.bipush (-2), 2) := by decide +kernel
theorem dX10_likeliest_9 : decode cX10_likeliest 9 = .ok (.ireturn, 1) := by decide +kernel
theorem dX10_likeliest_10 : decode cX10_likeliest 10 = .ok (.aload_n 0, 1) := by decide +kernel
theorem dX10_likeliest_11 : decode cX10_likeliest 11 = .ok (.invokevirtual 178, 3) := by decide +kernel
theorem dX10_likeliest_14 : decode cX10_likeliest 14 = .ok (.bipush (-3), 2) := by decide +kernel
theorem dX10_likeliest_16 : decode cX10_likeliest 16 = .ok (.istore_n 2, 1) := by decide +kernel
theorem dX10_likeliest_17 : decode cX10_likeliest 17 = .ok (.lconst 0, 1) := by decide +kernel
theorem dX10_likeliest_18 : decode cX10_likeliest 18 = .ok (.lstore_n 3, 1) := by decide +kernel
theorem dX10_likeliest_19 : decode cX10_likeliest 19 = .ok (.iconst 0, 1) := by decide +kernel
theorem dX10_likeliest_20 : decode cX10_likeliest 20 = .ok (.istore 5, 2) := by decide +kernel
theorem dX10_likeliest_22 : decode cX10_likeliest 22 = .ok (.iload 5, 2) := by decide +kernel
theorem dX10_likeliest_24 : decode cX10_likeliest 24 = .ok (.aload_n 0, 1) := by decide +kernel
theorem dX10_likeliest_25 : decode cX10_likeliest 25 = .ok (.getfield 12, 3) := by decide +kernel
theorem dX10_likeliest_28 : decode cX10_likeliest 28 = .ok (.getfield 192, 3) := by decide +kernel
theorem dX10_likeliest_31 : decode cX10_likeliest 31 = .ok (.if_icmp .ge 34, 3) := by decide +kernel
theorem dX10_likeliest_34 : decode cX10_likeliest 34 = .ok (.aload_n 0, 1) := by decide +kernel
theorem dX10_likeliest_35 : decode cX10_likeliest 35 = .ok (.getfield 45, 3) := by decide +kernel
theorem dX10_likeliest_38 : decode cX10_likeliest 38 = .ok (.iload_n 1, 1) := by decide +kernel
theorem dX10_likeliest_39 : decode cX10_likeliest 39 = .ok (.iload 5, 2) := by decide +kernel
theorem dX10_likeliest_41 : decode cX10_likeliest 41 = .ok (.invokevirtual 184, 3) := by decide +kernel
theorem dX10_likeliest_44 : decode cX10_likeliest 44 = .ok (.lstore 6, 2) := by decide +kernel
theorem dX10_likeliest_46 : decode cX10_likeliest 46 = .ok (.lload 6, 2) := by decide +kernel
theorem dX10_likeliest_48 : decode cX10_likeliest 48 = .ok (.lload_n 3, 1) := by decide +kernel
theorem dX10_likeliest_49 : decode cX10_likeliest 49 = .ok (.lcmp, 1) := by decide +kernel
theorem dX10_likeliest_50 : decode cX10_likeliest 50 = .ok (.ifCond .le 9, 3) := by decide +kernel
theorem dX10_likeliest_53 : decode cX10_likeliest 53 = .ok (.lload 6, 2) := by decide +kernel
theorem dX10_likeliest_55 : decode cX10_likeliest 55 = .ok (.lstore_n 3, 1) := by decide +kernel
theorem dX10_likeliest_56 : decode cX10_likeliest 56 = .ok (.iload 5, 2) := by decide +kernel
theorem dX10_likeliest_58 : decode cX10_likeliest 58 = .ok (.istore_n 2, 1) := by decide +kernel
theorem dX10_likeliest_59 : decode cX10_likeliest 59 = .ok (.iinc 5 1, 3) := by decide +kernel
theorem dX10_likeliest_62 : decode cX10_likeliest 62 = .ok (.goto (-40), 3) := by decide +kernel
theorem dX10_likeliest_65 : decode cX10_likeliest 65 = .ok (.iload_n 2, 1) := by decide +kernel
theorem dX10_likeliest_66 : decode cX10_likeliest 66 = .ok (.ireturn, 1) := by decide +kernel
theorem dX10_strike_0 : decode cX10_strike 0 = .ok (.iload_n 1, 1) := by decide +kernel
theorem dX10_strike_1 : decode cX10_strike 1 = .ok (.invokestatic 161, 3) := by decide +kernel
theorem dX10_strike_4 : decode cX10_strike 4 = .ok (.ifCond .eq 10, 3) := by decide +kernel
theorem dX10_strike_7 : decode cX10_strike 7 = .ok (.iload_n 2, 1) := by decide +kernel
theorem dX10_strike_8 : decode cX10_strike 8 = .ok (.invokestatic 171, 3) := by decide +kernel
theorem dX10_strike_11 : decode cX10_strike 11 = .ok (.ifCond .ne 9, 3) := by decide +kernel
theorem dX10_strike_14 : decode cX10_strike 14 = .ok (.bipush (-2), 2) := by decide +kernel
theorem dX10_strike_16 : decode cX10_strike 16 = .ok (.invokestatic 174, 3) := by decide +kernel
theorem dX10_strike_19 : decode cX10_strike 19 = .ok (.lreturn, 1) := by decide +kernel
theorem dX10_strike_20 : decode cX10_strike 20 = .ok (.aload_n 0, 1) := by decide +kernel
theorem dX10_strike_21 : decode cX10_strike 21 = .ok (.invokevirtual 178, 3) := by decide +kernel
theorem dX10_strike_24 : decode cX10_strike 24 = .ok (.aload_n 0, 1) := by decide +kernel
theorem dX10_strike_25 : decode cX10_strike 25 = .ok (.getfield 45, 3) := by decide +kernel
theorem dX10_strike_28 : decode cX10_strike 28 = .ok (.iload_n 1, 1) := by decide +kernel
theorem dX10_strike_29 : decode cX10_strike 29 = .ok (.invokevirtual 181, 3) := by decide +kernel
theorem dX10_strike_32 : decode cX10_strike 32 = .ok (.lstore_n 3, 1) := by decide +kernel
theorem dX10_strike_33 : decode cX10_strike 33 = .ok (.lload_n 3, 1) := by decide +kernel
theorem dX10_strike_34 : decode cX10_strike 34 = .ok (.lconst 0, 1) := by decide +kernel
theorem dX10_strike_35 : decode cX10_strike 35 = .ok (.lcmp, 1) := by decide +kernel
theorem dX10_strike_36 : decode cX10_strike 36 = .ok (.ifCond .ne 11, 3) := by decide +kernel
theorem dX10_strike_39 : decode cX10_strike 39 = .ok (.bipush (-3), 2) := by decide +kernel
theorem dX10_strike_41 : decode cX10_strike 41 = .ok (.invokestatic 174, 3) := by decide +kernel
theorem dX10_strike_44 : decode cX10_strike 44 = .ok (.goto 13, 3) := by decide +kernel
theorem dX10_strike_47 : decode cX10_strike 47 = .ok (.aload_n 0, 1) := by decide +kernel
theorem dX10_strike_48 : decode cX10_strike 48 = .ok (.iload_n 1, 1) := by decide +kernel
theorem dX10_strike_49 : decode cX10_strike 49 = .ok (.invokevirtual 195, 3) := by decide +kernel
theorem dX10_strike_52 : decode cX10_strike 52 = .ok (.lload_n 3, 1) := by decide +kernel
theorem dX10_strike_53 : decode cX10_strike 53 = .ok (.iload_n 2, 1) := by decide +kernel
theorem dX10_strike_54 : decode cX10_strike 54 = .ok (.invokestatic 188, 3) := by decide +kernel
theorem dX10_strike_57 : decode cX10_strike 57 = .ok (.lreturn, 1) := by decide +kernel
theorem dX10_line_0 : decode cX10_line 0 = .ok (.aload_n 0, 1) := by decide +kernel
theorem dX10_line_1 : decode cX10_line 1 = .ok (.invokevirtual 178, 3) := by decide +kernel
theorem dX10_line_4 : decode cX10_line 4 = .ok (.iconst (-1), 1) := by decide +kernel
theorem dX10_line_5 : decode cX10_line 5 = .ok (.istore_n 1, 1) := by decide +kernel
theorem dX10_line_6 : decode cX10_line 6 = .ok (.aload_n 0, 1) := by decide +kernel
theorem dX10_line_7 : decode cX10_line 7 = .ok (.getfield 19, 3) := by decide +kernel
theorem dX10_line_10 : decode cX10_line 10 = .ok (.iconst 5, 1) := by decide +kernel
theorem dX10_line_11 : decode cX10_line 11 = .ok (.invokevirtual 138, 3) := by decide +kernel
theorem dX10_line_14 : decode cX10_line 14 = .ok (.i2l, 1) := by decide +kernel
theorem dX10_line_15 : decode cX10_line 15 = .ok (.lstore_n 2, 1) := by decide +kernel
theorem dX10_line_16 : decode cX10_line 16 = .ok (.lconst 1, 1) := by decide +kernel
theorem dX10_line_17 : decode cX10_line 17 = .ok (.lstore 4, 2) := by decide +kernel
theorem dX10_line_19 : decode cX10_line 19 = .ok (.iconst 1, 1) := by decide +kernel
theorem dX10_line_20 : decode cX10_line 20 = .ok (.istore 6, 2) := by decide +kernel
theorem dX10_line_22 : decode cX10_line 22 = .ok (.iload 6, 2) := by decide +kernel
theorem dX10_line_24 : decode cX10_line 24 = .ok (.bipush 110, 2) := by decide +kernel
theorem dX10_line_26 : decode cX10_line 26 = .ok (.if_icmp .gt 58, 3) := by decide +kernel
theorem dX10_line_29 : decode cX10_line 29 = .ok (.aload_n 0, 1) := by decide +kernel
theorem dX10_line_30 : decode cX10_line 30 = .ok (.getfield 45, 3) := by decide +kernel
theorem dX10_line_33 : decode cX10_line 33 = .ok (.iload 6, 2) := by decide +kernel
theorem dX10_line_35 : decode cX10_line 35 = .ok (.invokevirtual 181, 3) := by decide +kernel
theorem dX10_line_38 : decode cX10_line 38 = .ok (.lstore 7, 2) := by decide +kernel
theorem dX10_line_40 : decode cX10_line 40 = .ok (.lload 7, 2) := by decide +kernel
theorem dX10_line_42 : decode cX10_line 42 = .ok (.lconst 0, 1) := by decide +kernel
theorem dX10_line_43 : decode cX10_line 43 = .ok (.lcmp, 1) := by decide +kernel
theorem dX10_line_44 : decode cX10_line 44 = .ok (.ifCond .eq 34, 3) := by decide +kernel
theorem dX10_line_47 : decode cX10_line 47 = .ok (.aload_n 0, 1) := by decide +kernel
theorem dX10_line_48 : decode cX10_line 48 = .ok (.iload 6, 2) := by decide +kernel
theorem dX10_line_50 : decode cX10_line 50 = .ok (.invokevirtual 195, 3) := by decide +kernel
theorem dX10_line_53 : decode cX10_line 53 = .ok (.lload 7, 2) := by decide +kernel
theorem dX10_line_55 : decode cX10_line 55 = .ok (.lload_n 2, 1) := by decide +kernel
theorem dX10_line_56 : decode cX10_line 56 = .ok (.lload 4, 2) := by decide +kernel
theorem dX10_line_58 : decode cX10_line 58 = .ok (.invokestatic 198, 3) := by decide +kernel
theorem dX10_line_61 : decode cX10_line 61 = .ok (.ifCond .eq 17, 3) := by decide +kernel
theorem dX10_line_64 : decode cX10_line 64 = .ok (.iload 6, 2) := by decide +kernel
theorem dX10_line_66 : decode cX10_line 66 = .ok (.istore_n 1, 1) := by decide +kernel
theorem dX10_line_67 : decode cX10_line 67 = .ok (.aload_n 0, 1) := by decide +kernel
theorem dX10_line_68 : decode cX10_line 68 = .ok (.iload 6, 2) := by decide +kernel
theorem dX10_line_70 : decode cX10_line 70 = .ok (.invokevirtual 195, 3) := by decide +kernel
theorem dX10_line_73 : decode cX10_line 73 = .ok (.lstore_n 2, 1) := by decide +kernel
theorem dX10_line_74 : decode cX10_line 74 = .ok (.lload 7, 2) := by decide +kernel
theorem dX10_line_76 : decode cX10_line 76 = .ok (.lstore 4, 2) := by decide +kernel
theorem dX10_line_78 : decode cX10_line 78 = .ok (.iinc 6 1, 3) := by decide +kernel
theorem dX10_line_81 : decode cX10_line 81 = .ok (.goto (-59), 3) := by decide +kernel
theorem dX10_line_84 : decode cX10_line 84 = .ok (.iload_n 1, 1) := by decide +kernel
theorem dX10_line_85 : decode cX10_line 85 = .ok (.ireturn, 1) := by decide +kernel
theorem dX10_slips_0 : decode cX10_slips 0 = .ok (.aload_n 0, 1) := by decide +kernel
theorem dX10_slips_1 : decode cX10_slips 1 = .ok (.getfield 12, 3) := by decide +kernel
theorem dX10_slips_4 : decode cX10_slips 4 = .ok (.iload_n 1, 1) := by decide +kernel
theorem dX10_slips_5 : decode cX10_slips 5 = .ok (.invokevirtual 112, 3) := by decide +kernel
theorem dX10_slips_8 : decode cX10_slips 8 = .ok (.ifCond .eq 21, 3) := by decide +kernel
theorem dX10_slips_11 : decode cX10_slips 11 = .ok (.iload_n 2, 1) := by decide +kernel
theorem dX10_slips_12 : decode cX10_slips 12 = .ok (.bipush (-10), 2) := by decide +kernel
theorem dX10_slips_14 : decode cX10_slips 14 = .ok (.bipush 10, 2) := by decide +kernel
theorem dX10_slips_16 : decode cX10_slips 16 = .ok (.invokestatic 94, 3) := by decide +kernel
theorem dX10_slips_19 : decode cX10_slips 19 = .ok (.ifCond .eq 10, 3) := by decide +kernel
theorem dX10_slips_22 : decode cX10_slips 22 = .ok (.iload_n 3, 1) := by decide +kernel
theorem dX10_slips_23 : decode cX10_slips 23 = .ok (.invokestatic 171, 3) := by decide +kernel
theorem dX10_slips_26 : decode cX10_slips 26 = .ok (.ifCond .ne 9, 3) := by decide +kernel
theorem dX10_slips_29 : decode cX10_slips 29 = .ok (.bipush (-2), 2) := by decide +kernel
theorem dX10_slips_31 : decode cX10_slips 31 = .ok (.invokestatic 174, 3) := by decide +kernel
theorem dX10_slips_34 : decode cX10_slips 34 = .ok (.lreturn, 1) := by decide +kernel
theorem dX10_slips_35 : decode cX10_slips 35 = .ok (.aload_n 0, 1) := by decide +kernel
theorem dX10_slips_36 : decode cX10_slips 36 = .ok (.getfield 54, 3) := by decide +kernel
theorem dX10_slips_39 : decode cX10_slips 39 = .ok (.aload_n 0, 1) := by decide +kernel
theorem dX10_slips_40 : decode cX10_slips 40 = .ok (.getfield 26, 3) := by decide +kernel
theorem dX10_slips_43 : decode cX10_slips 43 = .ok (.iload_n 1, 1) := by decide +kernel
theorem dX10_slips_44 : decode cX10_slips 44 = .ok (.iconst 0, 1) := by decide +kernel
theorem dX10_slips_45 : decode cX10_slips 45 = .ok (.iconst 0, 1) := by decide +kernel
theorem dX10_slips_46 : decode cX10_slips 46 = .ok (.invokevirtual 202, 3) := by decide +kernel
theorem dX10_slips_49 : decode cX10_slips 49 = .ok (.aload_n 0, 1) := by decide +kernel
theorem dX10_slips_50 : decode cX10_slips 50 = .ok (.getfield 54, 3) := by decide +kernel
theorem dX10_slips_53 : decode cX10_slips 53 = .ok (.iload_n 2, 1) := by decide +kernel
theorem dX10_slips_54 : decode cX10_slips 54 = .ok (.invokevirtual 206, 3) := by decide +kernel
theorem dX10_slips_57 : decode cX10_slips 57 = .ok (.ldc2_w 209, 3) := by decide +kernel
theorem dX10_slips_60 : decode cX10_slips 60 = .ok (.iload_n 3, 1) := by decide +kernel
theorem dX10_slips_61 : decode cX10_slips 61 = .ok (.invokestatic 188, 3) := by decide +kernel
theorem dX10_slips_64 : decode cX10_slips 64 = .ok (.lreturn, 1) := by decide +kernel
theorem dX10_safe_0 : decode cX10_safe 0 = .ok (.iload_n 1, 1) := by decide +kernel
theorem dX10_safe_1 : decode cX10_safe 1 = .ok (.iconst 0, 1) := by decide +kernel
theorem dX10_safe_2 : decode cX10_safe 2 = .ok (.bipush 63, 2) := by decide +kernel
theorem dX10_safe_4 : decode cX10_safe 4 = .ok (.invokestatic 94, 3) := by decide +kernel
theorem dX10_safe_7 : decode cX10_safe 7 = .ok (.ifCond .eq 10, 3) := by decide +kernel
theorem dX10_safe_10 : decode cX10_safe 10 = .ok (.iload_n 2, 1) := by decide +kernel
theorem dX10_safe_11 : decode cX10_safe 11 = .ok (.invokestatic 171, 3) := by decide +kernel
theorem dX10_safe_14 : decode cX10_safe 14 = .ok (.ifCond .ne 9, 3) := by decide +kernel
theorem dX10_safe_17 : decode cX10_safe 17 = .ok (.bipush (-2), 2) := by decide +kernel
theorem dX10_safe_19 : decode cX10_safe 19 = .ok (.invokestatic 174, 3) := by decide +kernel
theorem dX10_safe_22 : decode cX10_safe 22 = .ok (.lreturn, 1) := by decide +kernel
theorem dX10_safe_23 : decode cX10_safe 23 = .ok (.iload_n 1, 1) := by decide +kernel
theorem dX10_safe_24 : decode cX10_safe 24 = .ok (.iconst 1, 1) := by decide +kernel
theorem dX10_safe_25 : decode cX10_safe 25 = .ok (.aload_n 0, 1) := by decide +kernel
theorem dX10_safe_26 : decode cX10_safe 26 = .ok (.getfield 12, 3) := by decide +kernel
theorem dX10_safe_29 : decode cX10_safe 29 = .ok (.getfield 211, 3) := by decide +kernel
theorem dX10_safe_32 : decode cX10_safe 32 = .ok (.ishl, 1) := by decide +kernel
theorem dX10_safe_33 : decode cX10_safe 33 = .ok (.iconst 1, 1) := by decide +kernel
theorem dX10_safe_34 : decode cX10_safe 34 = .ok (.isub, 1) := by decide +kernel
theorem dX10_safe_35 : decode cX10_safe 35 = .ok (.iand, 1) := by decide +kernel
theorem dX10_safe_36 : decode cX10_safe 36 = .ok (.istore_n 3, 1) := by decide +kernel
theorem dX10_safe_37 : decode cX10_safe 37 = .ok (.iload_n 3, 1) := by decide +kernel
theorem dX10_safe_38 : decode cX10_safe 38 = .ok (.invokestatic 214, 3) := by decide +kernel
theorem dX10_safe_41 : decode cX10_safe 41 = .ok (.iconst 3, 1) := by decide +kernel
theorem dX10_safe_42 : decode cX10_safe 42 = .ok (.if_icmp .le 9, 3) := by decide +kernel
theorem dX10_safe_45 : decode cX10_safe 45 = .ok (.bipush (-2), 2) := by decide +kernel
theorem dX10_safe_47 : decode cX10_safe 47 = .ok (.invokestatic 174, 3) := by decide +kernel
theorem dX10_safe_50 : decode cX10_safe 50 = .ok (.lreturn, 1) := by decide +kernel
theorem dX10_safe_51 : decode cX10_safe 51 = .ok (.aload_n 0, 1) := by decide +kernel
theorem dX10_safe_52 : decode cX10_safe 52 = .ok (.getfield 12, 3) := by decide +kernel
theorem dX10_safe_55 : decode cX10_safe 55 = .ok (.getfield 192, 3) := by decide +kernel
theorem dX10_safe_58 : decode cX10_safe 58 = .ok (.ifCond .ne 9, 3) := by decide +kernel
theorem dX10_safe_61 : decode cX10_safe 61 = .ok (.bipush (-3), 2) := by decide +kernel
theorem dX10_safe_63 : decode cX10_safe 63 = .ok (.invokestatic 174, 3) := by decide +kernel
theorem dX10_safe_66 : decode cX10_safe 66 = .ok (.lreturn, 1) := by decide +kernel
theorem dX10_safe_67 : decode cX10_safe 67 = .ok (.aload_n 0, 1) := by decide +kernel
theorem dX10_safe_68 : decode cX10_safe 68 = .ok (.iload_n 3, 1) := by decide +kernel
theorem dX10_safe_69 : decode cX10_safe 69 = .ok (.invokevirtual 219, 3) := by decide +kernel
theorem dX10_safe_72 : decode cX10_safe 72 = .ok (.ldc2_w 209, 3) := by decide +kernel
theorem dX10_safe_75 : decode cX10_safe 75 = .ok (.iload_n 2, 1) := by decide +kernel
theorem dX10_safe_76 : decode cX10_safe 76 = .ok (.invokestatic 188, 3) := by decide +kernel
theorem dX10_safe_79 : decode cX10_safe 79 = .ok (.lreturn, 1) := by decide +kernel
theorem dX10_write_0 : decode cX10_write 0 = .ok (.iload_n 1, 1) := by decide +kernel
theorem dX10_write_1 : decode cX10_write 1 = .ok (.iconst 0, 1) := by decide +kernel
theorem dX10_write_2 : decode cX10_write 2 = .ok (.iconst 3, 1) := by decide +kernel
theorem dX10_write_3 : decode cX10_write 3 = .ok (.aload_n 0, 1) := by decide +kernel
theorem dX10_write_4 : decode cX10_write 4 = .ok (.getfield 12, 3) := by decide +kernel
theorem dX10_write_7 : decode cX10_write 7 = .ok (.getfield 211, 3) := by decide +kernel
theorem dX10_write_10 : decode cX10_write 10 = .ok (.invokestatic 222, 3) := by decide +kernel
theorem dX10_write_13 : decode cX10_write 13 = .ok (.invokestatic 94, 3) := by decide +kernel
theorem dX10_write_16 : decode cX10_write 16 = .ok (.ifCond .ne 6, 3) := by decide +kernel
theorem dX10_write_19 : decode cX10_write 19 = .ok (.bipush (-2), 2) := by decide +kernel
theorem dX10_write_21 : decode cX10_write 21 = .ok (.ireturn, 1) := by decide +kernel
theorem dX10_write_22 : decode cX10_write 22 = .ok (.aload_n 0, 1) := by decide +kernel
theorem dX10_write_23 : decode cX10_write 23 = .ok (.getfield 12, 3) := by decide +kernel
theorem dX10_write_26 : decode cX10_write 26 = .ok (.getfield 192, 3) := by decide +kernel
theorem dX10_write_29 : decode cX10_write 29 = .ok (.ifCond .ne 6, 3) := by decide +kernel
theorem dX10_write_32 : decode cX10_write 32 = .ok (.bipush (-3), 2) := by decide +kernel
theorem dX10_write_34 : decode cX10_write 34 = .ok (.ireturn, 1) := by decide +kernel
theorem dX10_write_35 : decode cX10_write 35 = .ok (.iconst 0, 1) := by decide +kernel
theorem dX10_write_36 : decode cX10_write 36 = .ok (.istore_n 2, 1) := by decide +kernel
theorem dX10_write_37 : decode cX10_write 37 = .ok (.ldc2_w 228, 3) := by decide +kernel
theorem dX10_write_40 : decode cX10_write 40 = .ok (.lstore_n 3, 1) := by decide +kernel
theorem dX10_write_41 : decode cX10_write 41 = .ok (.iconst 0, 1) := by decide +kernel
theorem dX10_write_42 : decode cX10_write 42 = .ok (.istore 5, 2) := by decide +kernel
theorem dX10_write_44 : decode cX10_write 44 = .ok (.iload 5, 2) := by decide +kernel
theorem dX10_write_46 : decode cX10_write 46 = .ok (.iconst 1, 1) := by decide +kernel
theorem dX10_write_47 : decode cX10_write 47 = .ok (.aload_n 0, 1) := by decide +kernel
theorem dX10_write_48 : decode cX10_write 48 = .ok (.getfield 12, 3) := by decide +kernel
theorem dX10_write_51 : decode cX10_write 51 = .ok (.getfield 211, 3) := by decide +kernel
theorem dX10_write_54 : decode cX10_write 54 = .ok (.ishl, 1) := by decide +kernel
theorem dX10_write_55 : decode cX10_write 55 = .ok (.if_icmp .ge 39, 3) := by decide +kernel
theorem dX10_write_58 : decode cX10_write 58 = .ok (.iload 5, 2) := by decide +kernel
theorem dX10_write_60 : decode cX10_write 60 = .ok (.invokestatic 214, 3) := by decide +kernel
theorem dX10_write_63 : decode cX10_write 63 = .ok (.iload_n 1, 1) := by decide +kernel
theorem dX10_write_64 : decode cX10_write 64 = .ok (.if_icmp .ne 24, 3) := by decide +kernel
theorem dX10_write_67 : decode cX10_write 67 = .ok (.aload_n 0, 1) := by decide +kernel
theorem dX10_write_68 : decode cX10_write 68 = .ok (.iload 5, 2) := by decide +kernel
theorem dX10_write_70 : decode cX10_write 70 = .ok (.invokevirtual 219, 3) := by decide +kernel
theorem dX10_write_73 : decode cX10_write 73 = .ok (.lstore 6, 2) := by decide +kernel
theorem dX10_write_75 : decode cX10_write 75 = .ok (.lload 6, 2) := by decide +kernel
theorem dX10_write_77 : decode cX10_write 77 = .ok (.lload_n 3, 1) := by decide +kernel
theorem dX10_write_78 : decode cX10_write 78 = .ok (.lcmp, 1) := by decide +kernel
theorem dX10_write_79 : decode cX10_write 79 = .ok (.ifCond .le 9, 3) := by decide +kernel
theorem dX10_write_82 : decode cX10_write 82 = .ok (.lload 6, 2) := by decide +kernel
theorem dX10_write_84 : decode cX10_write 84 = .ok (.lstore_n 3, 1) := by decide +kernel
theorem dX10_write_85 : decode cX10_write 85 = .ok (.iload 5, 2) := by decide +kernel
theorem dX10_write_87 : decode cX10_write 87 = .ok (.istore_n 2, 1) := by decide +kernel
theorem dX10_write_88 : decode cX10_write 88 = .ok (.iinc 5 1, 3) := by decide +kernel
theorem dX10_write_91 : decode cX10_write 91 = .ok (.goto (-47), 3) := by decide +kernel
theorem dX10_write_94 : decode cX10_write 94 = .ok (.iload_n 2, 1) := by decide +kernel
theorem dX10_write_95 : decode cX10_write 95 = .ok (.ireturn, 1) := by decide +kernel
theorem dX10_few_0 : decode cX10_few 0 = .ok (.iload_n 1, 1) := by decide +kernel
theorem dX10_few_1 : decode cX10_few 1 = .ok (.iconst 0, 1) := by decide +kernel
theorem dX10_few_2 : decode cX10_few 2 = .ok (.bipush 16, 2) := by decide +kernel
theorem dX10_few_4 : decode cX10_few 4 = .ok (.invokestatic 94, 3) := by decide +kernel
theorem dX10_few_7 : decode cX10_few 7 = .ok (.ifCond .ne 6, 3) := by decide +kernel
theorem dX10_few_10 : decode cX10_few 10 = .ok (.bipush (-2), 2) := by decide +kernel
theorem dX10_few_12 : decode cX10_few 12 = .ok (.ireturn, 1) := by decide +kernel
theorem dX10_few_13 : decode cX10_few 13 = .ok (.aload_n 0, 1) := by decide +kernel
theorem dX10_few_14 : decode cX10_few 14 = .ok (.getfield 12, 3) := by decide +kernel
theorem dX10_few_17 : decode cX10_few 17 = .ok (.getfield 192, 3) := by decide +kernel
theorem dX10_few_20 : decode cX10_few 20 = .ok (.ifCond .ne 6, 3) := by decide +kernel
theorem dX10_few_23 : decode cX10_few 23 = .ok (.bipush (-3), 2) := by decide +kernel
theorem dX10_few_25 : decode cX10_few 25 = .ok (.ireturn, 1) := by decide +kernel
theorem dX10_few_26 : decode cX10_few 26 = .ok (.ldc2_w 230, 3) := by decide +kernel
theorem dX10_few_29 : decode cX10_few 29 = .ok (.iload_n 1, 1) := by decide +kernel
theorem dX10_few_30 : decode cX10_few 30 = .ok (.i2l, 1) := by decide +kernel
theorem dX10_few_31 : decode cX10_few 31 = .ok (.lmul, 1) := by decide +kernel
theorem dX10_few_32 : decode cX10_few 32 = .ok (.lstore_n 2, 1) := by decide +kernel
theorem dX10_few_33 : decode cX10_few 33 = .ok (.iconst 0, 1) := by decide +kernel
theorem dX10_few_34 : decode cX10_few 34 = .ok (.istore 4, 2) := by decide +kernel
theorem dX10_few_36 : decode cX10_few 36 = .ok (.iload 4, 2) := by decide +kernel
theorem dX10_few_38 : decode cX10_few 38 = .ok (.iconst 3, 1) := by decide +kernel
theorem dX10_few_39 : decode cX10_few 39 = .ok (.if_icmp .gt 56, 3) := by decide +kernel
theorem dX10_few_42 : decode cX10_few 42 = .ok (.iconst 0, 1) := by decide +kernel
theorem dX10_few_43 : decode cX10_few 43 = .ok (.istore 5, 2) := by decide +kernel
theorem dX10_few_45 : decode cX10_few 45 = .ok (.iload 5, 2) := by decide +kernel
theorem dX10_few_47 : decode cX10_few 47 = .ok (.iconst 1, 1) := by decide +kernel
theorem dX10_few_48 : decode cX10_few 48 = .ok (.aload_n 0, 1) := by decide +kernel
theorem dX10_few_49 : decode cX10_few 49 = .ok (.getfield 12, 3) := by decide +kernel
theorem dX10_few_52 : decode cX10_few 52 = .ok (.getfield 211, 3) := by decide +kernel
theorem dX10_few_55 : decode cX10_few 55 = .ok (.ishl, 1) := by decide +kernel
theorem dX10_few_56 : decode cX10_few 56 = .ok (.if_icmp .ge 33, 3) := by decide +kernel
theorem dX10_few_59 : decode cX10_few 59 = .ok (.iload 5, 2) := by decide +kernel
theorem dX10_few_61 : decode cX10_few 61 = .ok (.invokestatic 214, 3) := by decide +kernel
theorem dX10_few_64 : decode cX10_few 64 = .ok (.iload 4, 2) := by decide +kernel
theorem dX10_few_66 : decode cX10_few 66 = .ok (.if_icmp .ne 17, 3) := by decide +kernel
theorem dX10_few_69 : decode cX10_few 69 = .ok (.aload_n 0, 1) := by decide +kernel
theorem dX10_few_70 : decode cX10_few 70 = .ok (.iload 5, 2) := by decide +kernel
theorem dX10_few_72 : decode cX10_few 72 = .ok (.invokevirtual 219, 3) := by decide +kernel
theorem dX10_few_75 : decode cX10_few 75 = .ok (.lload_n 2, 1) := by decide +kernel
theorem dX10_few_76 : decode cX10_few 76 = .ok (.lcmp, 1) := by decide +kernel
theorem dX10_few_77 : decode cX10_few 77 = .ok (.ifCond .lt 6, 3) := by decide +kernel
theorem dX10_few_80 : decode cX10_few 80 = .ok (.iload 5, 2) := by decide +kernel
theorem dX10_few_82 : decode cX10_few 82 = .ok (.ireturn, 1) := by decide +kernel
theorem dX10_few_83 : decode cX10_few 83 = .ok (.iinc 5 1, 3) := by decide +kernel
theorem dX10_few_86 : decode cX10_few 86 = .ok (.goto (-41), 3) := by decide +kernel
theorem dX10_few_89 : decode cX10_few 89 = .ok (.iinc 4 1, 3) := by decide +kernel
theorem dX10_few_92 : decode cX10_few 92 = .ok (.goto (-56), 3) := by decide +kernel
theorem dX10_few_95 : decode cX10_few 95 = .ok (.iconst (-1), 1) := by decide +kernel
theorem dX10_few_96 : decode cX10_few 96 = .ok (.ireturn, 1) := by decide +kernel
theorem dX10_anew_0 : decode cX10_anew 0 = .ok (.iload_n 1, 1) := by decide +kernel
theorem dX10_anew_1 : decode cX10_anew 1 = .ok (.iconst 0, 1) := by decide +kernel
theorem dX10_anew_2 : decode cX10_anew 2 = .ok (.aload_n 0, 1) := by decide +kernel
theorem dX10_anew_3 : decode cX10_anew 3 = .ok (.getfield 12, 3) := by decide +kernel
theorem dX10_anew_6 : decode cX10_anew 6 = .ok (.getfield 211, 3) := by decide +kernel
theorem dX10_anew_9 : decode cX10_anew 9 = .ok (.iconst 1, 1) := by decide +kernel
theorem dX10_anew_10 : decode cX10_anew 10 = .ok (.isub, 1) := by decide +kernel
theorem dX10_anew_11 : decode cX10_anew 11 = .ok (.invokestatic 94, 3) := by decide +kernel
theorem dX10_anew_14 : decode cX10_anew 14 = .ok (.ifCond .ne 6, 3) := by decide +kernel
theorem dX10_anew_17 : decode cX10_anew 17 = .ok (.bipush (-2), 2) := by decide +kernel
theorem dX10_anew_19 : decode cX10_anew 19 = .ok (.ireturn, 1) := by decide +kernel
theorem dX10_anew_20 : decode cX10_anew 20 = .ok (.aload_n 0, 1) := by decide +kernel
theorem dX10_anew_21 : decode cX10_anew 21 = .ok (.getfield 12, 3) := by decide +kernel
theorem dX10_anew_24 : decode cX10_anew 24 = .ok (.iload_n 1, 1) := by decide +kernel
theorem dX10_anew_25 : decode cX10_anew 25 = .ok (.invokevirtual 232, 3) := by decide +kernel
theorem dX10_anew_28 : decode cX10_anew 28 = .ok (.istore_n 2, 1) := by decide +kernel
theorem dX10_anew_29 : decode cX10_anew 29 = .ok (.aload_n 0, 1) := by decide +kernel
theorem dX10_anew_30 : decode cX10_anew 30 = .ok (.getfield 19, 3) := by decide +kernel
theorem dX10_anew_33 : decode cX10_anew 33 = .ok (.iconst 0, 1) := by decide +kernel
theorem dX10_anew_34 : decode cX10_anew 34 = .ok (.invokevirtual 138, 3) := by decide +kernel
theorem dX10_anew_37 : decode cX10_anew 37 = .ok (.i2l, 1) := by decide +kernel
theorem dX10_anew_38 : decode cX10_anew 38 = .ok (.lstore_n 3, 1) := by decide +kernel
theorem dX10_anew_39 : decode cX10_anew 39 = .ok (.lconst 0, 1) := by decide +kernel
theorem dX10_anew_40 : decode cX10_anew 40 = .ok (.lstore 5, 2) := by decide +kernel
theorem dX10_anew_42 : decode cX10_anew 42 = .ok (.iconst 0, 1) := by decide +kernel
theorem dX10_anew_43 : decode cX10_anew 43 = .ok (.istore 7, 2) := by decide +kernel
theorem dX10_anew_45 : decode cX10_anew 45 = .ok (.iload 7, 2) := by decide +kernel
theorem dX10_anew_47 : decode cX10_anew 47 = .ok (.aload_n 0, 1) := by decide +kernel
theorem dX10_anew_48 : decode cX10_anew 48 = .ok (.getfield 12, 3) := by decide +kernel
theorem dX10_anew_51 : decode cX10_anew 51 = .ok (.getfield 211, 3) := by decide +kernel
theorem dX10_anew_54 : decode cX10_anew 54 = .ok (.if_icmp .ge 66, 3) := by decide +kernel
theorem dX10_anew_57 : decode cX10_anew 57 = .ok (.aload_n 0, 1) := by decide +kernel
theorem dX10_anew_58 : decode cX10_anew 58 = .ok (.getfield 12, 3) := by decide +kernel
theorem dX10_anew_61 : decode cX10_anew 61 = .ok (.aload_n 0, 1) := by decide +kernel
theorem dX10_anew_62 : decode cX10_anew 62 = .ok (.getfield 12, 3) := by decide +kernel
theorem dX10_anew_65 : decode cX10_anew 65 = .ok (.iload 7, 2) := by decide +kernel
theorem dX10_anew_67 : decode cX10_anew 67 = .ok (.invokevirtual 232, 3) := by decide +kernel
theorem dX10_anew_70 : decode cX10_anew 70 = .ok (.invokevirtual 119, 3) := by decide +kernel
theorem dX10_anew_73 : decode cX10_anew 73 = .ok (.aload_n 0, 1) := by decide +kernel
theorem dX10_anew_74 : decode cX10_anew 74 = .ok (.getfield 12, 3) := by decide +kernel
theorem dX10_anew_77 : decode cX10_anew 77 = .ok (.iload_n 2, 1) := by decide +kernel
theorem dX10_anew_78 : decode cX10_anew 78 = .ok (.invokevirtual 119, 3) := by decide +kernel
theorem dX10_anew_81 : decode cX10_anew 81 = .ok (.if_icmp .ne 7, 3) := by decide +kernel
theorem dX10_anew_84 : decode cX10_anew 84 = .ok (.iconst 1, 1) := by decide +kernel
theorem dX10_anew_85 : decode cX10_anew 85 = .ok (.goto 4, 3) := by decide +kernel
theorem dX10_anew_88 : decode cX10_anew 88 = .ok (.iconst 0, 1) := by decide +kernel
theorem dX10_anew_89 : decode cX10_anew 89 = .ok (.istore 8, 2) := by decide +kernel
theorem dX10_anew_91 : decode cX10_anew 91 = .ok (.lload 5, 2) := by decide +kernel
theorem dX10_anew_93 : decode cX10_anew 93 = .ok (.iload 8, 2) := by decide +kernel
theorem dX10_anew_95 : decode cX10_anew 95 = .ok (.ifCond .eq 7, 3) := by decide +kernel
theorem dX10_anew_98 : decode cX10_anew 98 = .ok (.lload_n 3, 1) := by decide +kernel
theorem dX10_anew_99 : decode cX10_anew 99 = .ok (.goto 12, 3) := by decide +kernel
theorem dX10_anew_102 : decode cX10_anew 102 = .ok (.aload_n 0, 1) := by decide +kernel
theorem dX10_anew_103 : decode cX10_anew 103 = .ok (.getfield 19, 3) := by decide +kernel
theorem dX10_anew_106 : decode cX10_anew 106 = .ok (.iconst 1, 1) := by decide +kernel
theorem dX10_anew_107 : decode cX10_anew 107 = .ok (.invokevirtual 138, 3) := by decide +kernel
theorem dX10_anew_110 : decode cX10_anew 110 = .ok (.i2l, 1) := by decide +kernel
theorem dX10_anew_111 : decode cX10_anew 111 = .ok (.ladd, 1) := by decide +kernel
theorem dX10_anew_112 : decode cX10_anew 112 = .ok (.lstore 5, 2) := by decide +kernel
theorem dX10_anew_114 : decode cX10_anew 114 = .ok (.iinc 7 1, 3) := by decide +kernel
theorem dX10_anew_117 : decode cX10_anew 117 = .ok (.goto (-72), 3) := by decide +kernel
theorem dX10_anew_120 : decode cX10_anew 120 = .ok (.aload_n 0, 1) := by decide +kernel
theorem dX10_anew_121 : decode cX10_anew 121 = .ok (.getfield 54, 3) := by decide +kernel
theorem dX10_anew_124 : decode cX10_anew 124 = .ok (.aload_n 0, 1) := by decide +kernel
theorem dX10_anew_125 : decode cX10_anew 125 = .ok (.getfield 26, 3) := by decide +kernel
theorem dX10_anew_128 : decode cX10_anew 128 = .ok (.iload_n 2, 1) := by decide +kernel
theorem dX10_anew_129 : decode cX10_anew 129 = .ok (.iconst 0, 1) := by decide +kernel
theorem dX10_anew_130 : decode cX10_anew 130 = .ok (.iconst 0, 1) := by decide +kernel
theorem dX10_anew_131 : decode cX10_anew 131 = .ok (.invokevirtual 202, 3) := by decide +kernel
theorem dX10_anew_134 : decode cX10_anew 134 = .ok (.lload_n 3, 1) := by decide +kernel
theorem dX10_anew_135 : decode cX10_anew 135 = .ok (.ldc2_w 209, 3) := by decide +kernel
theorem dX10_anew_138 : decode cX10_anew 138 = .ok (.lmul, 1) := by decide +kernel
theorem dX10_anew_139 : decode cX10_anew 139 = .ok (.aload_n 0, 1) := by decide +kernel
theorem dX10_anew_140 : decode cX10_anew 140 = .ok (.getfield 54, 3) := by decide +kernel
theorem dX10_anew_143 : decode cX10_anew 143 = .ok (.iconst 0, 1) := by decide +kernel
theorem dX10_anew_144 : decode cX10_anew 144 = .ok (.invokevirtual 206, 3) := by decide +kernel
theorem dX10_anew_147 : decode cX10_anew 147 = .ok (.lload 5, 2) := by decide +kernel
theorem dX10_anew_149 : decode cX10_anew 149 = .ok (.lmul, 1) := by decide +kernel
theorem dX10_anew_150 : decode cX10_anew 150 = .ok (.lcmp, 1) := by decide +kernel
theorem dX10_anew_151 : decode cX10_anew 151 = .ok (.ifCond .le 7, 3) := by decide +kernel
theorem dX10_anew_154 : decode cX10_anew 154 = .ok (.iconst 1, 1) := by decide +kernel
theorem dX10_anew_155 : decode cX10_anew 155 = .ok (.goto 4, 3) := by decide +kernel
theorem dX10_anew_158 : decode cX10_anew 158 = .ok (.iconst 0, 1) := by decide +kernel
theorem dX10_anew_159 : decode cX10_anew 159 = .ok (.ireturn, 1) := by decide +kernel
theorem dX10_joint_0 : decode cX10_joint 0 = .ok (.iload_n 1, 1) := by decide +kernel
theorem dX10_joint_1 : decode cX10_joint 1 = .ok (.iconst 0, 1) := by decide +kernel
theorem dX10_joint_2 : decode cX10_joint 2 = .ok (.bipush 16, 2) := by decide +kernel
theorem dX10_joint_4 : decode cX10_joint 4 = .ok (.invokestatic 94, 3) := by decide +kernel
theorem dX10_joint_7 : decode cX10_joint 7 = .ok (.ifCond .eq 20, 3) := by decide +kernel
theorem dX10_joint_10 : decode cX10_joint 10 = .ok (.iload_n 2, 1) := by decide +kernel
theorem dX10_joint_11 : decode cX10_joint 11 = .ok (.iconst 0, 1) := by decide +kernel
theorem dX10_joint_12 : decode cX10_joint 12 = .ok (.bipush 16, 2) := by decide +kernel
theorem dX10_joint_14 : decode cX10_joint 14 = .ok (.invokestatic 94, 3) := by decide +kernel
theorem dX10_joint_17 : decode cX10_joint 17 = .ok (.ifCond .eq 10, 3) := by decide +kernel
theorem dX10_joint_20 : decode cX10_joint 20 = .ok (.iload_n 3, 1) := by decide +kernel
theorem dX10_joint_21 : decode cX10_joint 21 = .ok (.invokestatic 171, 3) := by decide +kernel
theorem dX10_joint_24 : decode cX10_joint 24 = .ok (.ifCond .ne 9, 3) := by decide +kernel
theorem dX10_joint_27 : decode cX10_joint 27 = .ok (.bipush (-2), 2) := by decide +kernel
theorem dX10_joint_29 : decode cX10_joint 29 = .ok (.invokestatic 174, 3) := by decide +kernel
theorem dX10_joint_32 : decode cX10_joint 32 = .ok (.lreturn, 1) := by decide +kernel
theorem dX10_joint_33 : decode cX10_joint 33 = .ok (.iload_n 1, 1) := by decide +kernel
theorem dX10_joint_34 : decode cX10_joint 34 = .ok (.iload_n 2, 1) := by decide +kernel
theorem dX10_joint_35 : decode cX10_joint 35 = .ok (.imul, 1) := by decide +kernel
theorem dX10_joint_36 : decode cX10_joint 36 = .ok (.istore 4, 2) := by decide +kernel
theorem dX10_joint_38 : decode cX10_joint 38 = .ok (.iload 4, 2) := by decide +kernel
theorem dX10_joint_40 : decode cX10_joint 40 = .ok (.bipush 16, 2) := by decide +kernel
theorem dX10_joint_42 : decode cX10_joint 42 = .ok (.iload_n 1, 1) := by decide +kernel
theorem dX10_joint_43 : decode cX10_joint 43 = .ok (.isub, 1) := by decide +kernel
theorem dX10_joint_44 : decode cX10_joint 44 = .ok (.bipush 16, 2) := by decide +kernel
theorem dX10_joint_46 : decode cX10_joint 46 = .ok (.iload_n 2, 1) := by decide +kernel
theorem dX10_joint_47 : decode cX10_joint 47 = .ok (.isub, 1) := by decide +kernel
theorem dX10_joint_48 : decode cX10_joint 48 = .ok (.imul, 1) := by decide +kernel
theorem dX10_joint_49 : decode cX10_joint 49 = .ok (.iadd, 1) := by decide +kernel
theorem dX10_joint_50 : decode cX10_joint 50 = .ok (.istore 5, 2) := by decide +kernel
theorem dX10_joint_52 : decode cX10_joint 52 = .ok (.iload 5, 2) := by decide +kernel
theorem dX10_joint_54 : decode cX10_joint 54 = .ok (.ifCond .ne 11, 3) := by decide +kernel
theorem dX10_joint_57 : decode cX10_joint 57 = .ok (.bipush (-3), 2) := by decide +kernel
theorem dX10_joint_59 : decode cX10_joint 59 = .ok (.invokestatic 174, 3) := by decide +kernel
theorem dX10_joint_62 : decode cX10_joint 62 = .ok (.goto 13, 3) := by decide +kernel
theorem dX10_joint_65 : decode cX10_joint 65 = .ok (.iload 4, 2) := by decide +kernel
theorem dX10_joint_67 : decode cX10_joint 67 = .ok (.i2l, 1) := by decide +kernel
theorem dX10_joint_68 : decode cX10_joint 68 = .ok (.iload 5, 2) := by decide +kernel
theorem dX10_joint_70 : decode cX10_joint 70 = .ok (.i2l, 1) := by decide +kernel
theorem dX10_joint_71 : decode cX10_joint 71 = .ok (.iload_n 3, 1) := by decide +kernel
theorem dX10_joint_72 : decode cX10_joint 72 = .ok (.invokestatic 188, 3) := by decide +kernel
theorem dX10_joint_75 : decode cX10_joint 75 = .ok (.lreturn, 1) := by decide +kernel
theorem dX10_evening_0 : decode cX10_evening 0 = .ok (.iload_n 1, 1) := by decide +kernel
theorem dX10_evening_1 : decode cX10_evening 1 = .ok (.iconst 0, 1) := by decide +kernel
theorem dX10_evening_2 : decode cX10_evening 2 = .ok (.bipush 59, 2) := by decide +kernel
theorem dX10_evening_4 : decode cX10_evening 4 = .ok (.invokestatic 94, 3) := by decide +kernel
theorem dX10_evening_7 : decode cX10_evening 7 = .ok (.ifCond .eq 10, 3) := by decide +kernel
theorem dX10_evening_10 : decode cX10_evening 10 = .ok (.iload_n 2, 1) := by decide +kernel
theorem dX10_evening_11 : decode cX10_evening 11 = .ok (.invokestatic 171, 3) := by decide +kernel
theorem dX10_evening_14 : decode cX10_evening 14 = .ok (.ifCond .ne 9, 3) := by decide +kernel
theorem dX10_evening_17 : decode cX10_evening 17 = .ok (.bipush (-2), 2) := by decide +kernel
theorem dX10_evening_19 : decode cX10_evening 19 = .ok (.invokestatic 174, 3) := by decide +kernel
theorem dX10_evening_22 : decode cX10_evening 22 = .ok (.lreturn, 1) := by decide +kernel
theorem dX10_evening_23 : decode cX10_evening 23 = .ok (.aload_n 0, 1) := by decide +kernel
theorem dX10_evening_24 : decode cX10_evening 24 = .ok (.getfield 12, 3) := by decide +kernel
theorem dX10_evening_27 : decode cX10_evening 27 = .ok (.getfield 192, 3) := by decide +kernel
theorem dX10_evening_30 : decode cX10_evening 30 = .ok (.ifCond .ne 9, 3) := by decide +kernel
theorem dX10_evening_33 : decode cX10_evening 33 = .ok (.bipush (-3), 2) := by decide +kernel
theorem dX10_evening_35 : decode cX10_evening 35 = .ok (.invokestatic 174, 3) := by decide +kernel
theorem dX10_evening_38 : decode cX10_evening 38 = .ok (.lreturn, 1) := by decide +kernel
theorem dX10_evening_39 : decode cX10_evening 39 = .ok (.aload_n 0, 1) := by decide +kernel
theorem dX10_evening_40 : decode cX10_evening 40 = .ok (.iload_n 1, 1) := by decide +kernel
theorem dX10_evening_41 : decode cX10_evening 41 = .ok (.invokevirtual 235, 3) := by decide +kernel
theorem dX10_evening_44 : decode cX10_evening 44 = .ok (.pop, 1) := by decide +kernel
theorem dX10_evening_45 : decode cX10_evening 45 = .ok (.aload_n 0, 1) := by decide +kernel
theorem dX10_evening_46 : decode cX10_evening 46 = .ok (.invokevirtual 238, 3) := by decide +kernel
theorem dX10_evening_49 : decode cX10_evening 49 = .ok (.ldc2_w 209, 3) := by decide +kernel
theorem dX10_evening_52 : decode cX10_evening 52 = .ok (.iload_n 2, 1) := by decide +kernel
theorem dX10_evening_53 : decode cX10_evening 53 = .ok (.invokestatic 188, 3) := by decide +kernel
theorem dX10_evening_56 : decode cX10_evening 56 = .ok (.lreturn, 1) := by decide +kernel
theorem dX10_prime_0 : decode cX10_prime 0 = .ok (.iload_n 1, 1) := by decide +kernel
theorem dX10_prime_1 : decode cX10_prime 1 = .ok (.iconst 0, 1) := by decide +kernel
theorem dX10_prime_2 : decode cX10_prime 2 = .ok (.iconst 1, 1) := by decide +kernel
theorem dX10_prime_3 : decode cX10_prime 3 = .ok (.invokestatic 94, 3) := by decide +kernel
theorem dX10_prime_6 : decode cX10_prime 6 = .ok (.ifCond .ne 6, 3) := by decide +kernel
theorem dX10_prime_9 : decode cX10_prime 9 = .ok (.bipush (-2), 2) := by decide +kernel
theorem dX10_prime_11 : decode cX10_prime 11 = .ok (.ireturn, 1) := by decide +kernel
theorem dX10_prime_12 : decode cX10_prime 12 = .ok (.aload_n 0, 1) := by decide +kernel
theorem dX10_prime_13 : decode cX10_prime 13 = .ok (.getfield 12, 3) := by decide +kernel
theorem dX10_prime_16 : decode cX10_prime 16 = .ok (.getfield 192, 3) := by decide +kernel
theorem dX10_prime_19 : decode cX10_prime 19 = .ok (.ifCond .ne 6, 3) := by decide +kernel
theorem dX10_prime_22 : decode cX10_prime 22 = .ok (.bipush (-3), 2) := by decide +kernel
theorem dX10_prime_24 : decode cX10_prime 24 = .ok (.ireturn, 1) := by decide +kernel
theorem dX10_prime_25 : decode cX10_prime 25 = .ok (.iconst 0, 1) := by decide +kernel
theorem dX10_prime_26 : decode cX10_prime 26 = .ok (.istore_n 2, 1) := by decide +kernel
theorem dX10_prime_27 : decode cX10_prime 27 = .ok (.iconst 0, 1) := by decide +kernel
theorem dX10_prime_28 : decode cX10_prime 28 = .ok (.istore_n 3, 1) := by decide +kernel
theorem dX10_prime_29 : decode cX10_prime 29 = .ok (.ldc2_w 228, 3) := by decide +kernel
theorem dX10_prime_32 : decode cX10_prime 32 = .ok (.lstore 4, 2) := by decide +kernel
theorem dX10_prime_34 : decode cX10_prime 34 = .ok (.lconst 0, 1) := by decide +kernel
theorem dX10_prime_35 : decode cX10_prime 35 = .ok (.lstore 6, 2) := by decide +kernel
theorem dX10_prime_37 : decode cX10_prime 37 = .ok (.iconst 0, 1) := by decide +kernel
theorem dX10_prime_38 : decode cX10_prime 38 = .ok (.istore 8, 2) := by decide +kernel
theorem dX10_prime_40 : decode cX10_prime 40 = .ok (.iload 8, 2) := by decide +kernel
theorem dX10_prime_42 : decode cX10_prime 42 = .ok (.bipush 60, 2) := by decide +kernel
theorem dX10_prime_44 : decode cX10_prime 44 = .ok (.if_icmp .ge 68, 3) := by decide +kernel
theorem dX10_prime_47 : decode cX10_prime 47 = .ok (.aload_n 0, 1) := by decide +kernel
theorem dX10_prime_48 : decode cX10_prime 48 = .ok (.iload 8, 2) := by decide +kernel
theorem dX10_prime_50 : decode cX10_prime 50 = .ok (.invokevirtual 235, 3) := by decide +kernel
theorem dX10_prime_53 : decode cX10_prime 53 = .ok (.ifCond .ne 8, 3) := by decide +kernel
theorem dX10_prime_56 : decode cX10_prime 56 = .ok (.iload 8, 2) := by decide +kernel
theorem dX10_prime_58 : decode cX10_prime 58 = .ok (.ifCond .ne 9, 3) := by decide +kernel
theorem dX10_prime_61 : decode cX10_prime 61 = .ok (.aload_n 0, 1) := by decide +kernel
theorem dX10_prime_62 : decode cX10_prime 62 = .ok (.invokevirtual 238, 3) := by decide +kernel
theorem dX10_prime_65 : decode cX10_prime 65 = .ok (.lstore 6, 2) := by decide +kernel
theorem dX10_prime_67 : decode cX10_prime 67 = .ok (.lload 6, 2) := by decide +kernel
theorem dX10_prime_69 : decode cX10_prime 69 = .ok (.lload 4, 2) := by decide +kernel
theorem dX10_prime_71 : decode cX10_prime 71 = .ok (.lcmp, 1) := by decide +kernel
theorem dX10_prime_72 : decode cX10_prime 72 = .ok (.ifCond .le 15, 3) := by decide +kernel
theorem dX10_prime_75 : decode cX10_prime 75 = .ok (.lload 6, 2) := by decide +kernel
theorem dX10_prime_77 : decode cX10_prime 77 = .ok (.lstore 4, 2) := by decide +kernel
theorem dX10_prime_79 : decode cX10_prime 79 = .ok (.iload 8, 2) := by decide +kernel
theorem dX10_prime_81 : decode cX10_prime 81 = .ok (.istore_n 2, 1) := by decide +kernel
theorem dX10_prime_82 : decode cX10_prime 82 = .ok (.iconst 1, 1) := by decide +kernel
theorem dX10_prime_83 : decode cX10_prime 83 = .ok (.istore_n 3, 1) := by decide +kernel
theorem dX10_prime_84 : decode cX10_prime 84 = .ok (.goto 22, 3) := by decide +kernel
theorem dX10_prime_87 : decode cX10_prime 87 = .ok (.lload 6, 2) := by decide +kernel
theorem dX10_prime_89 : decode cX10_prime 89 = .ok (.lload 4, 2) := by decide +kernel
theorem dX10_prime_91 : decode cX10_prime 91 = .ok (.lcmp, 1) := by decide +kernel
theorem dX10_prime_92 : decode cX10_prime 92 = .ok (.ifCond .ne 14, 3) := by decide +kernel
theorem dX10_prime_95 : decode cX10_prime 95 = .ok (.iload_n 2, 1) := by decide +kernel
theorem dX10_prime_96 : decode cX10_prime 96 = .ok (.iload_n 3, 1) := by decide +kernel
theorem dX10_prime_97 : decode cX10_prime 97 = .ok (.iadd, 1) := by decide +kernel
theorem dX10_prime_98 : decode cX10_prime 98 = .ok (.iload 8, 2) := by decide +kernel
theorem dX10_prime_100 : decode cX10_prime 100 = .ok (.if_icmp .ne 6, 3) := by decide +kernel
theorem dX10_prime_103 : decode cX10_prime 103 = .ok (.iinc 3 1, 3) := by decide +kernel
theorem dX10_prime_106 : decode cX10_prime 106 = .ok (.iinc 8 1, 3) := by decide +kernel
theorem dX10_prime_109 : decode cX10_prime 109 = .ok (.goto (-69), 3) := by decide +kernel
theorem dX10_prime_112 : decode cX10_prime 112 = .ok (.iload_n 1, 1) := by decide +kernel
theorem dX10_prime_113 : decode cX10_prime 113 = .ok (.ifCond .ne 7, 3) := by decide +kernel
theorem dX10_prime_116 : decode cX10_prime 116 = .ok (.iload_n 2, 1) := by decide +kernel
theorem dX10_prime_117 : decode cX10_prime 117 = .ok (.goto 4, 3) := by decide +kernel
theorem dX10_prime_120 : decode cX10_prime 120 = .ok (.iload_n 3, 1) := by decide +kernel
theorem dX10_prime_121 : decode cX10_prime 121 = .ok (.ireturn, 1) := by decide +kernel
theorem dX10_player_0 : decode cX10_player 0 = .ok (.iload_n 1, 1) := by decide +kernel
theorem dX10_player_1 : decode cX10_player 1 = .ok (.iconst 1, 1) := by decide +kernel
theorem dX10_player_2 : decode cX10_player 2 = .ok (.bipush 98, 2) := by decide +kernel
theorem dX10_player_4 : decode cX10_player 4 = .ok (.invokestatic 94, 3) := by decide +kernel
theorem dX10_player_7 : decode cX10_player 7 = .ok (.ifCond .eq 13, 3) := by decide +kernel
theorem dX10_player_10 : decode cX10_player 10 = .ok (.iload_n 2, 1) := by decide +kernel
theorem dX10_player_11 : decode cX10_player 11 = .ok (.iconst 1, 1) := by decide +kernel
theorem dX10_player_12 : decode cX10_player 12 = .ok (.bipush 99, 2) := by decide +kernel
theorem dX10_player_14 : decode cX10_player 14 = .ok (.invokestatic 94, 3) := by decide +kernel
theorem dX10_player_17 : decode cX10_player 17 = .ok (.ifCond .ne 6, 3) := by decide +kernel
theorem dX10_player_20 : decode cX10_player 20 = .ok (.bipush (-2), 2) := by decide +kernel
theorem dX10_player_22 : decode cX10_player 22 = .ok (.ireturn, 1) := by decide +kernel
theorem dX10_player_23 : decode cX10_player 23 = .ok (.aload_n 0, 1) := by decide +kernel
theorem dX10_player_24 : decode cX10_player 24 = .ok (.getfield 61, 3) := by decide +kernel
theorem dX10_player_27 : decode cX10_player 27 = .ok (.iload_n 1, 1) := by decide +kernel
theorem dX10_player_28 : decode cX10_player 28 = .ok (.iload_n 2, 1) := by decide +kernel
theorem dX10_player_29 : decode cX10_player 29 = .ok (.invokevirtual 242, 3) := by decide +kernel
theorem dX10_player_32 : decode cX10_player 32 = .ok (.ifCond .eq 13, 3) := by decide +kernel
theorem dX10_player_35 : decode cX10_player 35 = .ok (.aload_n 0, 1) := by decide +kernel
theorem dX10_player_36 : decode cX10_player 36 = .ok (.getfield 61, 3) := by decide +kernel
theorem dX10_player_39 : decode cX10_player 39 = .ok (.getfield 245, 3) := by decide +kernel
theorem dX10_player_42 : decode cX10_player 42 = .ok (.goto 5, 3) := by decide +kernel
theorem dX10_player_45 : decode cX10_player 45 = .ok (.bipush (-4), 2) := by decide +kernel
theorem dX10_player_47 : decode cX10_player 47 = .ok (.ireturn, 1) := by decide +kernel
theorem dX10_leave_0 : decode cX10_leave 0 = .ok (.aload_n 0, 1) := by decide +kernel
theorem dX10_leave_1 : decode cX10_leave 1 = .ok (.getfield 61, 3) := by decide +kernel
theorem dX10_leave_4 : decode cX10_leave 4 = .ok (.getfield 245, 3) := by decide +kernel
theorem dX10_leave_7 : decode cX10_leave 7 = .ok (.istore_n 1, 1) := by decide +kernel
theorem dX10_leave_8 : decode cX10_leave 8 = .ok (.aload_n 0, 1) := by decide +kernel
theorem dX10_leave_9 : decode cX10_leave 9 = .ok (.getfield 61, 3) := by decide +kernel
theorem dX10_leave_12 : decode cX10_leave 12 = .ok (.iconst 0, 1) := by decide +kernel
theorem dX10_leave_13 : decode cX10_leave 13 = .ok (.putfield 245, 3) := by decide +kernel
theorem dX10_leave_16 : decode cX10_leave 16 = .ok (.iload_n 1, 1) := by decide +kernel
theorem dX10_leave_17 : decode cX10_leave 17 = .ok (.ireturn, 1) := by decide +kernel
theorem dX10_worth_0 : decode cX10_worth 0 = .ok (.iload_n 1, 1) := by decide +kernel
theorem dX10_worth_1 : decode cX10_worth 1 = .ok (.iconst 0, 1) := by decide +kernel
theorem dX10_worth_2 : decode cX10_worth 2 = .ok (.iconst 1, 1) := by decide +kernel
theorem dX10_worth_3 : decode cX10_worth 3 = .ok (.invokestatic 94, 3) := by decide +kernel
theorem dX10_worth_6 : decode cX10_worth 6 = .ok (.ifCond .ne 6, 3) := by decide +kernel
theorem dX10_worth_9 : decode cX10_worth 9 = .ok (.bipush (-2), 2) := by decide +kernel
theorem dX10_worth_11 : decode cX10_worth 11 = .ok (.ireturn, 1) := by decide +kernel
theorem dX10_worth_12 : decode cX10_worth 12 = .ok (.aload_n 0, 1) := by decide +kernel
theorem dX10_worth_13 : decode cX10_worth 13 = .ok (.getfield 61, 3) := by decide +kernel
theorem dX10_worth_16 : decode cX10_worth 16 = .ok (.invokevirtual 246, 3) := by decide +kernel
theorem dX10_worth_19 : decode cX10_worth 19 = .ok (.istore_n 2, 1) := by decide +kernel
theorem dX10_worth_20 : decode cX10_worth 20 = .ok (.iload_n 1, 1) := by decide +kernel
theorem dX10_worth_21 : decode cX10_worth 21 = .ok (.ifCond .ne 14, 3) := by decide +kernel
theorem dX10_worth_24 : decode cX10_worth 24 = .ok (.aload_n 0, 1) := by decide +kernel
theorem dX10_worth_25 : decode cX10_worth 25 = .ok (.getfield 61, 3) := by decide +kernel
theorem dX10_worth_28 : decode cX10_worth 28 = .ok (.iload_n 2, 1) := by decide +kernel
theorem dX10_worth_29 : decode cX10_worth 29 = .ok (.invokevirtual 250, 3) := by decide +kernel
theorem dX10_worth_32 : decode cX10_worth 32 = .ok (.goto 4, 3) := by decide +kernel
theorem dX10_worth_35 : decode cX10_worth 35 = .ok (.iload_n 2, 1) := by decide +kernel
theorem dX10_worth_36 : decode cX10_worth 36 = .ok (.ireturn, 1) := by decide +kernel
theorem dX10_look_0 : decode cX10_look 0 = .ok (.iload_n 1, 1) := by decide +kernel
theorem dX10_look_1 : decode cX10_look 1 = .ok (.iconst 0, 1) := by decide +kernel
theorem dX10_look_2 : decode cX10_look 2 = .ok (.bipush 98, 2) := by decide +kernel
theorem dX10_look_4 : decode cX10_look 4 = .ok (.invokestatic 94, 3) := by decide +kernel
theorem dX10_look_7 : decode cX10_look 7 = .ok (.ifCond .ne 6, 3) := by decide +kernel
theorem dX10_look_10 : decode cX10_look 10 = .ok (.bipush (-2), 2) := by decide +kernel
theorem dX10_look_12 : decode cX10_look 12 = .ok (.ireturn, 1) := by decide +kernel
theorem dX10_look_13 : decode cX10_look 13 = .ok (.aload_n 0, 1) := by decide +kernel
theorem dX10_look_14 : decode cX10_look 14 = .ok (.getfield 61, 3) := by decide +kernel
theorem dX10_look_17 : decode cX10_look 17 = .ok (.aload_n 0, 1) := by decide +kernel
theorem dX10_look_18 : decode cX10_look 18 = .ok (.getfield 61, 3) := by decide +kernel
theorem dX10_look_21 : decode cX10_look 21 = .ok (.invokevirtual 246, 3) := by decide +kernel
theorem dX10_look_24 : decode cX10_look 24 = .ok (.invokevirtual 250, 3) := by decide +kernel
theorem dX10_look_27 : decode cX10_look 27 = .ok (.pop, 1) := by decide +kernel
theorem dX10_look_28 : decode cX10_look 28 = .ok (.aload_n 0, 1) := by decide +kernel
theorem dX10_look_29 : decode cX10_look 29 = .ok (.getfield 61, 3) := by decide +kernel
theorem dX10_look_32 : decode cX10_look 32 = .ok (.iload_n 1, 1) := by decide +kernel
theorem dX10_look_33 : decode cX10_look 33 = .ok (.invokevirtual 253, 3) := by decide +kernel
theorem dX10_look_36 : decode cX10_look 36 = .ok (.ireturn, 1) := by decide +kernel
theorem dX10_from_0 : decode cX10_from 0 = .ok (.iload_n 1, 1) := by decide +kernel
theorem dX10_from_1 : decode cX10_from 1 = .ok (.iconst 0, 1) := by decide +kernel
theorem dX10_from_2 : decode cX10_from 2 = .ok (.bipush 98, 2) := by decide +kernel
theorem dX10_from_4 : decode cX10_from 4 = .ok (.invokestatic 94, 3) := by decide +kernel
theorem dX10_from_7 : decode cX10_from 7 = .ok (.ifCond .ne 6, 3) := by decide +kernel
theorem dX10_from_10 : decode cX10_from 10 = .ok (.bipush (-2), 2) := by decide +kernel
theorem dX10_from_12 : decode cX10_from 12 = .ok (.ireturn, 1) := by decide +kernel
theorem dX10_from_13 : decode cX10_from 13 = .ok (.aload_n 0, 1) := by decide +kernel
theorem dX10_from_14 : decode cX10_from 14 = .ok (.getfield 68, 3) := by decide +kernel
theorem dX10_from_17 : decode cX10_from 17 = .ok (.getfield 256, 3) := by decide +kernel
theorem dX10_from_20 : decode cX10_from 20 = .ok (.istore_n 2, 1) := by decide +kernel
theorem dX10_from_21 : decode cX10_from 21 = .ok (.aload_n 0, 1) := by decide +kernel
theorem dX10_from_22 : decode cX10_from 22 = .ok (.getfield 68, 3) := by decide +kernel
theorem dX10_from_25 : decode cX10_from 25 = .ok (.iload_n 1, 1) := by decide +kernel
theorem dX10_from_26 : decode cX10_from 26 = .ok (.putfield 256, 3) := by decide +kernel
theorem dX10_from_29 : decode cX10_from 29 = .ok (.iload_n 2, 1) := by decide +kernel
theorem dX10_from_30 : decode cX10_from 30 = .ok (.ireturn, 1) := by decide +kernel
theorem dX10_said_0 : decode cX10_said 0 = .ok (.iload_n 1, 1) := by decide +kernel
theorem dX10_said_1 : decode cX10_said 1 = .ok (.invokestatic 161, 3) := by decide +kernel
theorem dX10_said_4 : decode cX10_said 4 = .ok (.ifCond .ne 6, 3) := by decide +kernel
theorem dX10_said_7 : decode cX10_said 7 = .ok (.bipush (-2), 2) := by decide +kernel
theorem dX10_said_9 : decode cX10_said 9 = .ok (.ireturn, 1) := by decide +kernel
theorem dX10_said_10 : decode cX10_said 10 = .ok (.aload_n 0, 1) := by decide +kernel
theorem dX10_said_11 : decode cX10_said 11 = .ok (.getfield 68, 3) := by decide +kernel
theorem dX10_said_14 : decode cX10_said 14 = .ok (.iload_n 1, 1) := by decide +kernel
theorem dX10_said_15 : decode cX10_said 15 = .ok (.invokevirtual 164, 3) := by decide +kernel
theorem dX10_said_18 : decode cX10_said 18 = .ok (.ifCond .eq 13, 3) := by decide +kernel
theorem dX10_said_21 : decode cX10_said 21 = .ok (.aload_n 0, 1) := by decide +kernel
theorem dX10_said_22 : decode cX10_said 22 = .ok (.getfield 68, 3) := by decide +kernel
theorem dX10_said_25 : decode cX10_said 25 = .ok (.getfield 165, 3) := by decide +kernel
theorem dX10_said_28 : decode cX10_said 28 = .ok (.goto 5, 3) := by decide +kernel
theorem dX10_said_31 : decode cX10_said 31 = .ok (.bipush (-4), 2) := by decide +kernel
theorem dX10_said_33 : decode cX10_said 33 = .ok (.ireturn, 1) := by decide +kernel
theorem dX10_wrong_0 : decode cX10_wrong 0 = .ok (.iload_n 1, 1) := by decide +kernel
theorem dX10_wrong_1 : decode cX10_wrong 1 = .ok (.iconst 0, 1) := by decide +kernel
theorem dX10_wrong_2 : decode cX10_wrong 2 = .ok (.iconst 1, 1) := by decide +kernel
theorem dX10_wrong_3 : decode cX10_wrong 3 = .ok (.invokestatic 94, 3) := by decide +kernel
theorem dX10_wrong_6 : decode cX10_wrong 6 = .ok (.ifCond .ne 6, 3) := by decide +kernel
theorem dX10_wrong_9 : decode cX10_wrong 9 = .ok (.bipush (-2), 2) := by decide +kernel
theorem dX10_wrong_11 : decode cX10_wrong 11 = .ok (.ireturn, 1) := by decide +kernel
theorem dX10_wrong_12 : decode cX10_wrong 12 = .ok (.iload_n 1, 1) := by decide +kernel
theorem dX10_wrong_13 : decode cX10_wrong 13 = .ok (.ifCond .ne 13, 3) := by decide +kernel
theorem dX10_wrong_16 : decode cX10_wrong 16 = .ok (.aload_n 0, 1) := by decide +kernel
theorem dX10_wrong_17 : decode cX10_wrong 17 = .ok (.getfield 68, 3) := by decide +kernel
theorem dX10_wrong_20 : decode cX10_wrong 20 = .ok (.invokevirtual 259, 3) := by decide +kernel
theorem dX10_wrong_23 : decode cX10_wrong 23 = .ok (.goto 10, 3) := by decide +kernel
theorem dX10_wrong_26 : decode cX10_wrong 26 = .ok (.aload_n 0, 1) := by decide +kernel
theorem dX10_wrong_27 : decode cX10_wrong 27 = .ok (.getfield 68, 3) := by decide +kernel
theorem dX10_wrong_30 : decode cX10_wrong 30 = .ok (.invokevirtual 262, 3) := by decide +kernel
theorem dX10_wrong_33 : decode cX10_wrong 33 = .ok (.ireturn, 1) := by decide +kernel
theorem dX10_blame_0 : decode cX10_blame 0 = .ok (.aload_n 0, 1) := by decide +kernel
theorem dX10_blame_1 : decode cX10_blame 1 = .ok (.getfield 68, 3) := by decide +kernel
theorem dX10_blame_4 : decode cX10_blame 4 = .ok (.invokevirtual 259, 3) := by decide +kernel
theorem dX10_blame_7 : decode cX10_blame 7 = .ok (.istore_n 1, 1) := by decide +kernel
theorem dX10_blame_8 : decode cX10_blame 8 = .ok (.aload_n 0, 1) := by decide +kernel
theorem dX10_blame_9 : decode cX10_blame 9 = .ok (.getfield 68, 3) := by decide +kernel
theorem dX10_blame_12 : decode cX10_blame 12 = .ok (.getfield 256, 3) := by decide +kernel
theorem dX10_blame_15 : decode cX10_blame 15 = .ok (.iload_n 1, 1) := by decide +kernel
theorem dX10_blame_16 : decode cX10_blame 16 = .ok (.iadd, 1) := by decide +kernel
theorem dX10_blame_17 : decode cX10_blame 17 = .ok (.iconst 1, 1) := by decide +kernel
theorem dX10_blame_18 : decode cX10_blame 18 = .ok (.isub, 1) := by decide +kernel
theorem dX10_blame_19 : decode cX10_blame 19 = .ok (.istore_n 2, 1) := by decide +kernel
theorem dX10_blame_20 : decode cX10_blame 20 = .ok (.iload_n 1, 1) := by decide +kernel
theorem dX10_blame_21 : decode cX10_blame 21 = .ok (.iconst (-1), 1) := by decide +kernel
theorem dX10_blame_22 : decode cX10_blame 22 = .ok (.if_icmp .eq 25, 3) := by decide +kernel
theorem dX10_blame_25 : decode cX10_blame 25 = .ok (.aload_n 0, 1) := by decide +kernel
theorem dX10_blame_26 : decode cX10_blame 26 = .ok (.getfield 12, 3) := by decide +kernel
theorem dX10_blame_29 : decode cX10_blame 29 = .ok (.iload_n 2, 1) := by decide +kernel
theorem dX10_blame_30 : decode cX10_blame 30 = .ok (.invokevirtual 265, 3) := by decide +kernel
theorem dX10_blame_33 : decode cX10_blame 33 = .ok (.ifCond .eq 14, 3) := by decide +kernel
theorem dX10_blame_36 : decode cX10_blame 36 = .ok (.aload_n 0, 1) := by decide +kernel
theorem dX10_blame_37 : decode cX10_blame 37 = .ok (.getfield 12, 3) := by decide +kernel
theorem dX10_blame_40 : decode cX10_blame 40 = .ok (.iload_n 2, 1) := by decide +kernel
theorem dX10_blame_41 : decode cX10_blame 41 = .ok (.invokevirtual 115, 3) := by decide +kernel
theorem dX10_blame_44 : decode cX10_blame 44 = .ok (.goto 4, 3) := by decide +kernel
theorem dX10_blame_47 : decode cX10_blame 47 = .ok (.iconst (-1), 1) := by decide +kernel
theorem dX10_blame_48 : decode cX10_blame 48 = .ok (.ireturn, 1) := by decide +kernel
theorem dX10_night_0 : decode cX10_night 0 = .ok (.iload_n 2, 1) := by decide +kernel
theorem dX10_night_1 : decode cX10_night 1 = .ok (.iconst 0, 1) := by decide +kernel
theorem dX10_night_2 : decode cX10_night 2 = .ok (.bipush 99, 2) := by decide +kernel
theorem dX10_night_4 : decode cX10_night 4 = .ok (.invokestatic 94, 3) := by decide +kernel
theorem dX10_night_7 : decode cX10_night 7 = .ok (.ifCond .ne 6, 3) := by decide +kernel
theorem dX10_night_10 : decode cX10_night 10 = .ok (.bipush (-102), 2) := by decide +kernel
theorem dX10_night_12 : decode cX10_night 12 = .ok (.ireturn, 1) := by decide +kernel
theorem dX10_night_13 : decode cX10_night 13 = .ok (.aload_n 0, 1) := by decide +kernel
theorem dX10_night_14 : decode cX10_night 14 = .ok (.getfield 75, 3) := by decide +kernel
theorem dX10_night_17 : decode cX10_night 17 = .ok (.iload_n 1, 1) := by decide +kernel
theorem dX10_night_18 : decode cX10_night 18 = .ok (.putfield 268, 3) := by decide +kernel
theorem dX10_night_21 : decode cX10_night 21 = .ok (.iload_n 2, 1) := by decide +kernel
theorem dX10_night_22 : decode cX10_night 22 = .ok (.ifCond .ne 8, 3) := by decide +kernel
theorem dX10_night_25 : decode cX10_night 25 = .ok (.aload_n 0, 1) := by decide +kernel
theorem dX10_night_26 : decode cX10_night 26 = .ok (.invokevirtual 271, 3) := by decide +kernel
theorem dX10_night_29 : decode cX10_night 29 = .ok (.ireturn, 1) := by decide +kernel
theorem dX10_night_30 : decode cX10_night 30 = .ok (.iconst 0, 1) := by decide +kernel
theorem dX10_night_31 : decode cX10_night 31 = .ok (.istore_n 3, 1) := by decide +kernel
theorem dX10_night_32 : decode cX10_night 32 = .ok (.iconst 0, 1) := by decide +kernel
theorem dX10_night_33 : decode cX10_night 33 = .ok (.istore 4, 2) := by decide +kernel
theorem dX10_night_35 : decode cX10_night 35 = .ok (.iload 4, 2) := by decide +kernel
theorem dX10_night_37 : decode cX10_night 37 = .ok (.iload_n 2, 1) := by decide +kernel
theorem dX10_night_38 : decode cX10_night 38 = .ok (.if_icmp .ge 19, 3) := by decide +kernel
theorem dX10_night_41 : decode cX10_night 41 = .ok (.aload_n 0, 1) := by decide +kernel
theorem dX10_night_42 : decode cX10_night 42 = .ok (.invokevirtual 271, 3) := by decide +kernel
theorem dX10_night_45 : decode cX10_night 45 = .ok (.ifCond .ne 6, 3) := by decide +kernel
theorem dX10_night_48 : decode cX10_night 48 = .ok (.iinc 3 1, 3) := by decide +kernel
theorem dX10_night_51 : decode cX10_night 51 = .ok (.iinc 4 1, 3) := by decide +kernel
theorem dX10_night_54 : decode cX10_night 54 = .ok (.goto (-19), 3) := by decide +kernel
theorem dX10_night_57 : decode cX10_night 57 = .ok (.iload_n 3, 1) := by decide +kernel
theorem dX10_night_58 : decode cX10_night 58 = .ok (.ireturn, 1) := by decide +kernel
theorem dX10_sheet_0 : decode cX10_sheet 0 = .ok (.aload_n 0, 1) := by decide +kernel
theorem dX10_sheet_1 : decode cX10_sheet 1 = .ok (.iload_n 1, 1) := by decide +kernel
theorem dX10_sheet_2 : decode cX10_sheet 2 = .ok (.invokevirtual 144, 3) := by decide +kernel
theorem dX10_sheet_5 : decode cX10_sheet 5 = .ok (.astore 4, 2) := by decide +kernel
theorem dX10_sheet_7 : decode cX10_sheet 7 = .ok (.aload 4, 2) := by decide +kernel
theorem dX10_sheet_9 : decode cX10_sheet 9 = .ok (.ifnull 18, 3) := by decide +kernel
theorem dX10_sheet_12 : decode cX10_sheet 12 = .ok (.iload_n 2, 1) := by decide +kernel
theorem dX10_sheet_13 : decode cX10_sheet 13 = .ok (.iconst 0, 1) := by decide +kernel
theorem dX10_sheet_14 : decode cX10_sheet 14 = .ok (.iconst 2, 1) := by decide +kernel
theorem dX10_sheet_15 : decode cX10_sheet 15 = .ok (.invokestatic 94, 3) := by decide +kernel
theorem dX10_sheet_18 : decode cX10_sheet 18 = .ok (.ifCond .eq 9, 3) := by decide +kernel
theorem dX10_sheet_21 : decode cX10_sheet 21 = .ok (.iload_n 3, 1) := by decide +kernel
theorem dX10_sheet_22 : decode cX10_sheet 22 = .ok (.bipush 48, 2) := by decide +kernel
theorem dX10_sheet_24 : decode cX10_sheet 24 = .ok (.if_icmp .le 6, 3) := by decide +kernel
theorem dX10_sheet_27 : decode cX10_sheet 27 = .ok (.bipush (-2), 2) := by decide +kernel
theorem dX10_sheet_29 : decode cX10_sheet 29 = .ok (.ireturn, 1) := by decide +kernel
theorem dX10_sheet_30 : decode cX10_sheet 30 = .ok (.iload_n 3, 1) := by decide +kernel
theorem dX10_sheet_31 : decode cX10_sheet 31 = .ok (.ifCond .ge 9, 3) := by decide +kernel
theorem dX10_sheet_34 : decode cX10_sheet 34 = .ok (.aload_n 0, 1) := by decide +kernel
theorem dX10_sheet_35 : decode cX10_sheet 35 = .ok (.iconst 5, 1) := by decide +kernel
theorem dX10_sheet_36 : decode cX10_sheet 36 = .ok (.invokevirtual 151, 3) := by decide +kernel
theorem dX10_sheet_39 : decode cX10_sheet 39 = .ok (.ireturn, 1) := by decide +kernel
theorem dX10_sheet_40 : decode cX10_sheet 40 = .ok (.aload 4, 2) := by decide +kernel
theorem dX10_sheet_42 : decode cX10_sheet 42 = .ok (.iload_n 2, 1) := by decide +kernel
theorem dX10_sheet_43 : decode cX10_sheet 43 = .ok (.iload_n 3, 1) := by decide +kernel
theorem dX10_sheet_44 : decode cX10_sheet 44 = .ok (.invokevirtual 274, 3) := by decide +kernel
theorem dX10_sheet_47 : decode cX10_sheet 47 = .ok (.iload_n 3, 1) := by decide +kernel
theorem dX10_sheet_48 : decode cX10_sheet 48 = .ok (.ireturn, 1) := by decide +kernel
theorem dX10_lose_0 : decode cX10_lose 0 = .ok (.aload_n 0, 1) := by decide +kernel
theorem dX10_lose_1 : decode cX10_lose 1 = .ok (.iload_n 1, 1) := by decide +kernel
theorem dX10_lose_2 : decode cX10_lose 2 = .ok (.invokevirtual 144, 3) := by decide +kernel
theorem dX10_lose_5 : decode cX10_lose 5 = .ok (.astore_n 2, 1) := by decide +kernel
theorem dX10_lose_6 : decode cX10_lose 6 = .ok (.aload_n 2, 1) := by decide +kernel
theorem dX10_lose_7 : decode cX10_lose 7 = .ok (.ifnonnull 6, 3) := by decide +kernel
theorem dX10_lose_10 : decode cX10_lose 10 = .ok (.bipush (-2), 2) := by decide +kernel
theorem dX10_lose_12 : decode cX10_lose 12 = .ok (.ireturn, 1) := by decide +kernel
theorem dX10_lose_13 : decode cX10_lose 13 = .ok (.aload_n 2, 1) := by decide +kernel
theorem dX10_lose_14 : decode cX10_lose 14 = .ok (.getfield 148, 3) := by decide +kernel
theorem dX10_lose_17 : decode cX10_lose 17 = .ok (.ifCond .eq 9, 3) := by decide +kernel
theorem dX10_lose_20 : decode cX10_lose 20 = .ok (.aload_n 0, 1) := by decide +kernel
theorem dX10_lose_21 : decode cX10_lose 21 = .ok (.iconst 1, 1) := by decide +kernel
theorem dX10_lose_22 : decode cX10_lose 22 = .ok (.invokevirtual 151, 3) := by decide +kernel
theorem dX10_lose_25 : decode cX10_lose 25 = .ok (.ireturn, 1) := by decide +kernel
theorem dX10_lose_26 : decode cX10_lose 26 = .ok (.aload_n 2, 1) := by decide +kernel
theorem dX10_lose_27 : decode cX10_lose 27 = .ok (.iconst 1, 1) := by decide +kernel
theorem dX10_lose_28 : decode cX10_lose 28 = .ok (.putfield 148, 3) := by decide +kernel
theorem dX10_lose_31 : decode cX10_lose 31 = .ok (.aload_n 2, 1) := by decide +kernel
theorem dX10_lose_32 : decode cX10_lose 32 = .ok (.getfield 157, 3) := by decide +kernel
theorem dX10_lose_35 : decode cX10_lose 35 = .ok (.ireturn, 1) := by decide +kernel
theorem dX10_put_0 : decode cX10_put 0 = .ok (.aload_n 0, 1) := by decide +kernel
theorem dX10_put_1 : decode cX10_put 1 = .ok (.iload_n 1, 1) := by decide +kernel
theorem dX10_put_2 : decode cX10_put 2 = .ok (.invokevirtual 144, 3) := by decide +kernel
theorem dX10_put_5 : decode cX10_put 5 = .ok (.astore 5, 2) := by decide +kernel
theorem dX10_put_7 : decode cX10_put 7 = .ok (.aload 5, 2) := by decide +kernel
theorem dX10_put_9 : decode cX10_put 9 = .ok (.ifnull 12, 3) := by decide +kernel
theorem dX10_put_12 : decode cX10_put 12 = .ok (.iload_n 2, 1) := by decide +kernel
theorem dX10_put_13 : decode cX10_put 13 = .ok (.iconst 0, 1) := by decide +kernel
theorem dX10_put_14 : decode cX10_put 14 = .ok (.iconst 2, 1) := by decide +kernel
theorem dX10_put_15 : decode cX10_put 15 = .ok (.invokestatic 94, 3) := by decide +kernel
theorem dX10_put_18 : decode cX10_put 18 = .ok (.ifCond .ne 6, 3) := by decide +kernel
theorem dX10_put_21 : decode cX10_put 21 = .ok (.bipush (-2), 2) := by decide +kernel
theorem dX10_put_23 : decode cX10_put 23 = .ok (.ireturn, 1) := by decide +kernel
theorem dX10_put_24 : decode cX10_put 24 = .ok (.aload 5, 2) := by decide +kernel
theorem dX10_put_26 : decode cX10_put 26 = .ok (.iload_n 2, 1) := by decide +kernel
theorem dX10_put_27 : decode cX10_put 27 = .ok (.iload_n 3, 1) := by decide +kernel
theorem dX10_put_28 : decode cX10_put 28 = .ok (.invokevirtual 277, 3) := by decide +kernel
theorem dX10_put_31 : decode cX10_put 31 = .ok (.istore 6, 2) := by decide +kernel
theorem dX10_put_33 : decode cX10_put 33 = .ok (.iload 6, 2) := by decide +kernel
theorem dX10_put_35 : decode cX10_put 35 = .ok (.ifCond .eq 10, 3) := by decide +kernel
theorem dX10_put_38 : decode cX10_put 38 = .ok (.aload_n 0, 1) := by decide +kernel
theorem dX10_put_39 : decode cX10_put 39 = .ok (.iload 6, 2) := by decide +kernel
theorem dX10_put_41 : decode cX10_put 41 = .ok (.invokevirtual 151, 3) := by decide +kernel
theorem dX10_put_44 : decode cX10_put 44 = .ok (.ireturn, 1) := by decide +kernel
theorem dX10_put_45 : decode cX10_put 45 = .ok (.aload 5, 2) := by decide +kernel
theorem dX10_put_47 : decode cX10_put 47 = .ok (.iload_n 3, 1) := by decide +kernel
theorem dX10_put_48 : decode cX10_put 48 = .ok (.iload 4, 2) := by decide +kernel
theorem dX10_put_50 : decode cX10_put 50 = .ok (.invokevirtual 280, 3) := by decide +kernel
theorem dX10_put_53 : decode cX10_put 53 = .ok (.iconst 1, 1) := by decide +kernel
theorem dX10_put_54 : decode cX10_put 54 = .ok (.ireturn, 1) := by decide +kernel
theorem dX10_get_0 : decode cX10_get 0 = .ok (.aload_n 0, 1) := by decide +kernel
theorem dX10_get_1 : decode cX10_get 1 = .ok (.iload_n 1, 1) := by decide +kernel
theorem dX10_get_2 : decode cX10_get 2 = .ok (.invokevirtual 144, 3) := by decide +kernel
theorem dX10_get_5 : decode cX10_get 5 = .ok (.astore 4, 2) := by decide +kernel
theorem dX10_get_7 : decode cX10_get 7 = .ok (.aload 4, 2) := by decide +kernel
theorem dX10_get_9 : decode cX10_get 9 = .ok (.ifnull 12, 3) := by decide +kernel
theorem dX10_get_12 : decode cX10_get 12 = .ok (.iload_n 2, 1) := by decide +kernel
theorem dX10_get_13 : decode cX10_get 13 = .ok (.iconst 0, 1) := by decide +kernel
theorem dX10_get_14 : decode cX10_get 14 = .ok (.iconst 2, 1) := by decide +kernel
theorem dX10_get_15 : decode cX10_get 15 = .ok (.invokestatic 94, 3) := by decide +kernel
theorem dX10_get_18 : decode cX10_get 18 = .ok (.ifCond .ne 7, 3) := by decide +kernel
theorem dX10_get_21 : decode cX10_get 21 = .ok (.ldc_w 281, 3) := by decide +kernel
theorem dX10_get_24 : decode cX10_get 24 = .ok (.ireturn, 1) := by decide +kernel
theorem dX10_get_25 : decode cX10_get 25 = .ok (.aload 4, 2) := by decide +kernel
theorem dX10_get_27 : decode cX10_get 27 = .ok (.iload_n 2, 1) := by decide +kernel
theorem dX10_get_28 : decode cX10_get 28 = .ok (.iload_n 3, 1) := by decide +kernel
theorem dX10_get_29 : decode cX10_get 29 = .ok (.invokevirtual 277, 3) := by decide +kernel
theorem dX10_get_32 : decode cX10_get 32 = .ok (.istore 5, 2) := by decide +kernel
theorem dX10_get_34 : decode cX10_get 34 = .ok (.iload 5, 2) := by decide +kernel
theorem dX10_get_36 : decode cX10_get 36 = .ok (.ifCond .eq 13, 3) := by decide +kernel
theorem dX10_get_39 : decode cX10_get 39 = .ok (.aload_n 0, 1) := by decide +kernel
theorem dX10_get_40 : decode cX10_get 40 = .ok (.iload 5, 2) := by decide +kernel
theorem dX10_get_42 : decode cX10_get 42 = .ok (.putfield 90, 3) := by decide +kernel
theorem dX10_get_45 : decode cX10_get 45 = .ok (.ldc_w 281, 3) := by decide +kernel
theorem dX10_get_48 : decode cX10_get 48 = .ok (.ireturn, 1) := by decide +kernel
theorem dX10_get_49 : decode cX10_get 49 = .ok (.aload 4, 2) := by decide +kernel
theorem dX10_get_51 : decode cX10_get 51 = .ok (.iload_n 3, 1) := by decide +kernel
theorem dX10_get_52 : decode cX10_get 52 = .ok (.invokevirtual 158, 3) := by decide +kernel
theorem dX10_get_55 : decode cX10_get 55 = .ok (.ireturn, 1) := by decide +kernel
theorem dX10_copy_0 : decode cX10_copy 0 = .ok (.aload_n 0, 1) := by decide +kernel
theorem dX10_copy_1 : decode cX10_copy 1 = .ok (.iload_n 1, 1) := by decide +kernel
theorem dX10_copy_2 : decode cX10_copy 2 = .ok (.invokevirtual 144, 3) := by decide +kernel
theorem dX10_copy_5 : decode cX10_copy 5 = .ok (.astore 6, 2) := by decide +kernel
theorem dX10_copy_7 : decode cX10_copy 7 = .ok (.aload_n 0, 1) := by decide +kernel
theorem dX10_copy_8 : decode cX10_copy 8 = .ok (.iload_n 3, 1) := by decide +kernel
theorem dX10_copy_9 : decode cX10_copy 9 = .ok (.invokevirtual 144, 3) := by decide +kernel
theorem dX10_copy_12 : decode cX10_copy 12 = .ok (.astore 7, 2) := by decide +kernel
theorem dX10_copy_14 : decode cX10_copy 14 = .ok (.aload 6, 2) := by decide +kernel
theorem dX10_copy_16 : decode cX10_copy 16 = .ok (.ifnull 8, 3) := by decide +kernel
theorem dX10_copy_19 : decode cX10_copy 19 = .ok (.aload 7, 2) := by decide +kernel
theorem dX10_copy_21 : decode cX10_copy 21 = .ok (.ifnonnull 6, 3) := by decide +kernel
theorem dX10_copy_24 : decode cX10_copy 24 = .ok (.bipush (-2), 2) := by decide +kernel
theorem dX10_copy_26 : decode cX10_copy 26 = .ok (.ireturn, 1) := by decide +kernel
theorem dX10_copy_27 : decode cX10_copy 27 = .ok (.aload 6, 2) := by decide +kernel
theorem dX10_copy_29 : decode cX10_copy 29 = .ok (.getfield 148, 3) := by decide +kernel
theorem dX10_copy_32 : decode cX10_copy 32 = .ok (.ifCond .ne 11, 3) := by decide +kernel
theorem dX10_copy_35 : decode cX10_copy 35 = .ok (.aload 7, 2) := by decide +kernel
theorem dX10_copy_37 : decode cX10_copy 37 = .ok (.getfield 148, 3) := by decide +kernel
theorem dX10_copy_40 : decode cX10_copy 40 = .ok (.ifCond .eq 9, 3) := by decide +kernel
theorem dX10_copy_43 : decode cX10_copy 43 = .ok (.aload_n 0, 1) := by decide +kernel
theorem dX10_copy_44 : decode cX10_copy 44 = .ok (.iconst 1, 1) := by decide +kernel
theorem dX10_copy_45 : decode cX10_copy 45 = .ok (.invokevirtual 151, 3) := by decide +kernel
theorem dX10_copy_48 : decode cX10_copy 48 = .ok (.ireturn, 1) := by decide +kernel
theorem dX10_copy_49 : decode cX10_copy 49 = .ok (.aload 6, 2) := by decide +kernel
theorem dX10_copy_51 : decode cX10_copy 51 = .ok (.getfield 282, 3) := by decide +kernel
theorem dX10_copy_54 : decode cX10_copy 54 = .ok (.aload 7, 2) := by decide +kernel
theorem dX10_copy_56 : decode cX10_copy 56 = .ok (.getfield 282, 3) := by decide +kernel
theorem dX10_copy_59 : decode cX10_copy 59 = .ok (.if_icmp .eq 9, 3) := by decide +kernel
theorem dX10_copy_62 : decode cX10_copy 62 = .ok (.aload_n 0, 1) := by decide +kernel
theorem dX10_copy_63 : decode cX10_copy 63 = .ok (.iconst 4, 1) := by decide +kernel
theorem dX10_copy_64 : decode cX10_copy 64 = .ok (.invokevirtual 151, 3) := by decide +kernel
theorem dX10_copy_67 : decode cX10_copy 67 = .ok (.ireturn, 1) := by decide +kernel
theorem dX10_copy_68 : decode cX10_copy 68 = .ok (.aload 6, 2) := by decide +kernel
theorem dX10_copy_70 : decode cX10_copy 70 = .ok (.iload_n 2, 1) := by decide +kernel
theorem dX10_copy_71 : decode cX10_copy 71 = .ok (.iload 5, 2) := by decide +kernel
theorem dX10_copy_73 : decode cX10_copy 73 = .ok (.invokevirtual 285, 3) := by decide +kernel
theorem dX10_copy_76 : decode cX10_copy 76 = .ok (.ifCond .eq 15, 3) := by decide +kernel
theorem dX10_copy_79 : decode cX10_copy 79 = .ok (.aload 7, 2) := by decide +kernel
theorem dX10_copy_81 : decode cX10_copy 81 = .ok (.iload 4, 2) := by decide +kernel
theorem dX10_copy_83 : decode cX10_copy 83 = .ok (.iload 5, 2) := by decide +kernel
theorem dX10_copy_85 : decode cX10_copy 85 = .ok (.invokevirtual 285, 3) := by decide +kernel
theorem dX10_copy_88 : decode cX10_copy 88 = .ok (.ifCond .ne 9, 3) := by decide +kernel
theorem dX10_copy_91 : decode cX10_copy 91 = .ok (.aload_n 0, 1) := by decide +kernel
theorem dX10_copy_92 : decode cX10_copy 92 = .ok (.iconst 2, 1) := by decide +kernel
theorem dX10_copy_93 : decode cX10_copy 93 = .ok (.invokevirtual 151, 3) := by decide +kernel
theorem dX10_copy_96 : decode cX10_copy 96 = .ok (.ireturn, 1) := by decide +kernel
theorem dX10_copy_97 : decode cX10_copy 97 = .ok (.aload 6, 2) := by decide +kernel
theorem dX10_copy_99 : decode cX10_copy 99 = .ok (.getfield 288, 3) := by decide +kernel
theorem dX10_copy_102 : decode cX10_copy 102 = .ok (.iload_n 2, 1) := by decide +kernel
theorem dX10_copy_103 : decode cX10_copy 103 = .ok (.aload 7, 2) := by decide +kernel
theorem dX10_copy_105 : decode cX10_copy 105 = .ok (.getfield 288, 3) := by decide +kernel
theorem dX10_copy_108 : decode cX10_copy 108 = .ok (.iload 4, 2) := by decide +kernel
theorem dX10_copy_110 : decode cX10_copy 110 = .ok (.iload 5, 2) := by decide +kernel
theorem dX10_copy_112 : decode cX10_copy 112 = .ok (.invokestatic 292, 3) := by decide +kernel
theorem dX10_copy_115 : decode cX10_copy 115 = .ok (.iconst 1, 1) := by decide +kernel
theorem dX10_copy_116 : decode cX10_copy 116 = .ok (.ireturn, 1) := by decide +kernel
theorem dX10_tell_0 : decode cX10_tell 0 = .ok (.aload_n 0, 1) := by decide +kernel
theorem dX10_tell_1 : decode cX10_tell 1 = .ok (.iload_n 1, 1) := by decide +kernel
theorem dX10_tell_2 : decode cX10_tell 2 = .ok (.invokevirtual 144, 3) := by decide +kernel
theorem dX10_tell_5 : decode cX10_tell 5 = .ok (.astore_n 2, 1) := by decide +kernel
theorem dX10_tell_6 : decode cX10_tell 6 = .ok (.aload_n 2, 1) := by decide +kernel
theorem dX10_tell_7 : decode cX10_tell 7 = .ok (.ifnonnull 6, 3) := by decide +kernel
theorem dX10_tell_10 : decode cX10_tell 10 = .ok (.bipush (-2), 2) := by decide +kernel
theorem dX10_tell_12 : decode cX10_tell 12 = .ok (.ireturn, 1) := by decide +kernel
theorem dX10_tell_13 : decode cX10_tell 13 = .ok (.aload_n 2, 1) := by decide +kernel
theorem dX10_tell_14 : decode cX10_tell 14 = .ok (.getfield 148, 3) := by decide +kernel
theorem dX10_tell_17 : decode cX10_tell 17 = .ok (.ifCond .eq 9, 3) := by decide +kernel
theorem dX10_tell_20 : decode cX10_tell 20 = .ok (.aload_n 0, 1) := by decide +kernel
theorem dX10_tell_21 : decode cX10_tell 21 = .ok (.iconst 1, 1) := by decide +kernel
theorem dX10_tell_22 : decode cX10_tell 22 = .ok (.invokevirtual 151, 3) := by decide +kernel
theorem dX10_tell_25 : decode cX10_tell 25 = .ok (.ireturn, 1) := by decide +kernel
theorem dX10_tell_26 : decode cX10_tell 26 = .ok (.aload_n 2, 1) := by decide +kernel
theorem dX10_tell_27 : decode cX10_tell 27 = .ok (.getfield 157, 3) := by decide +kernel
theorem dX10_tell_30 : decode cX10_tell 30 = .ok (.aload_n 0, 1) := by decide +kernel
theorem dX10_tell_31 : decode cX10_tell 31 = .ok (.getfield 12, 3) := by decide +kernel
theorem dX10_tell_34 : decode cX10_tell 34 = .ok (.getfield 192, 3) := by decide +kernel
theorem dX10_tell_37 : decode cX10_tell 37 = .ok (.invokestatic 222, 3) := by decide +kernel
theorem dX10_tell_40 : decode cX10_tell 40 = .ok (.istore_n 3, 1) := by decide +kernel
theorem dX10_tell_41 : decode cX10_tell 41 = .ok (.iconst 0, 1) := by decide +kernel
theorem dX10_tell_42 : decode cX10_tell 42 = .ok (.istore 4, 2) := by decide +kernel
theorem dX10_tell_44 : decode cX10_tell 44 = .ok (.iload 4, 2) := by decide +kernel
theorem dX10_tell_46 : decode cX10_tell 46 = .ok (.iload_n 3, 1) := by decide +kernel
theorem dX10_tell_47 : decode cX10_tell 47 = .ok (.if_icmp .ge 24, 3) := by decide +kernel
theorem dX10_tell_50 : decode cX10_tell 50 = .ok (.aload_n 2, 1) := by decide +kernel
theorem dX10_tell_51 : decode cX10_tell 51 = .ok (.iload 4, 2) := by decide +kernel
theorem dX10_tell_53 : decode cX10_tell 53 = .ok (.aload_n 0, 1) := by decide +kernel
theorem dX10_tell_54 : decode cX10_tell 54 = .ok (.getfield 12, 3) := by decide +kernel
theorem dX10_tell_57 : decode cX10_tell 57 = .ok (.iload 4, 2) := by decide +kernel
theorem dX10_tell_59 : decode cX10_tell 59 = .ok (.invokevirtual 115, 3) := by decide +kernel
theorem dX10_tell_62 : decode cX10_tell 62 = .ok (.invokevirtual 280, 3) := by decide +kernel
theorem dX10_tell_65 : decode cX10_tell 65 = .ok (.iinc 4 1, 3) := by decide +kernel
theorem dX10_tell_68 : decode cX10_tell 68 = .ok (.goto (-24), 3) := by decide +kernel
theorem dX10_tell_71 : decode cX10_tell 71 = .ok (.iload_n 3, 1) := by decide +kernel
theorem dX10_tell_72 : decode cX10_tell 72 = .ok (.ireturn, 1) := by decide +kernel
theorem dX10_count_0 : decode cX10_count 0 = .ok (.iload_n 1, 1) := by decide +kernel
theorem dX10_count_1 : decode cX10_count 1 = .ok (.tableswitch 121 0 8 #[51, 59, 67, 75, 83, 91, 99, 107, 116], 51) := by decide +kernel
theorem dX10_count_52 : decode cX10_count 52 = .ok (.aload_n 0, 1) := by decide +kernel
theorem dX10_count_53 : decode cX10_count 53 = .ok (.getfield 12, 3) := by decide +kernel
theorem dX10_count_56 : decode cX10_count 56 = .ok (.getfield 192, 3) := by decide +kernel
theorem dX10_count_59 : decode cX10_count 59 = .ok (.ireturn, 1) := by decide +kernel
theorem dX10_count_60 : decode cX10_count 60 = .ok (.aload_n 0, 1) := by decide +kernel
theorem dX10_count_61 : decode cX10_count 61 = .ok (.getfield 12, 3) := by decide +kernel
theorem dX10_count_64 : decode cX10_count 64 = .ok (.getfield 102, 3) := by decide +kernel
theorem dX10_count_67 : decode cX10_count 67 = .ok (.ireturn, 1) := by decide +kernel
theorem dX10_count_68 : decode cX10_count 68 = .ok (.aload_n 0, 1) := by decide +kernel
theorem dX10_count_69 : decode cX10_count 69 = .ok (.getfield 12, 3) := by decide +kernel
theorem dX10_count_72 : decode cX10_count 72 = .ok (.getfield 298, 3) := by decide +kernel
theorem dX10_count_75 : decode cX10_count 75 = .ok (.ireturn, 1) := by decide +kernel
theorem dX10_count_76 : decode cX10_count 76 = .ok (.aload_n 0, 1) := by decide +kernel
theorem dX10_count_77 : decode cX10_count 77 = .ok (.getfield 12, 3) := by decide +kernel
theorem dX10_count_80 : decode cX10_count 80 = .ok (.getfield 211, 3) := by decide +kernel
theorem dX10_count_83 : decode cX10_count 83 = .ok (.ireturn, 1) := by decide +kernel
theorem dX10_count_84 : decode cX10_count 84 = .ok (.aload_n 0, 1) := by decide +kernel
theorem dX10_count_85 : decode cX10_count 85 = .ok (.getfield 36, 3) := by decide +kernel
theorem dX10_count_88 : decode cX10_count 88 = .ok (.getfield 170, 3) := by decide +kernel
theorem dX10_count_91 : decode cX10_count 91 = .ok (.ireturn, 1) := by decide +kernel
theorem dX10_count_92 : decode cX10_count 92 = .ok (.aload_n 0, 1) := by decide +kernel
theorem dX10_count_93 : decode cX10_count 93 = .ok (.getfield 61, 3) := by decide +kernel
theorem dX10_count_96 : decode cX10_count 96 = .ok (.getfield 245, 3) := by decide +kernel
theorem dX10_count_99 : decode cX10_count 99 = .ok (.ireturn, 1) := by decide +kernel
theorem dX10_count_100 : decode cX10_count 100 = .ok (.aload_n 0, 1) := by decide +kernel
theorem dX10_count_101 : decode cX10_count 101 = .ok (.getfield 68, 3) := by decide +kernel
theorem dX10_count_104 : decode cX10_count 104 = .ok (.getfield 165, 3) := by decide +kernel
theorem dX10_count_107 : decode cX10_count 107 = .ok (.ireturn, 1) := by decide +kernel
theorem dX10_count_108 : decode cX10_count 108 = .ok (.aload_n 0, 1) := by decide +kernel
theorem dX10_count_109 : decode cX10_count 109 = .ok (.getfield 19, 3) := by decide +kernel
theorem dX10_count_112 : decode cX10_count 112 = .ok (.iconst 0, 1) := by decide +kernel
theorem dX10_count_113 : decode cX10_count 113 = .ok (.invokevirtual 138, 3) := by decide +kernel
theorem dX10_count_116 : decode cX10_count 116 = .ok (.ireturn, 1) := by decide +kernel
theorem dX10_count_117 : decode cX10_count 117 = .ok (.aload_n 0, 1) := by decide +kernel
theorem dX10_count_118 : decode cX10_count 118 = .ok (.getfield 90, 3) := by decide +kernel
theorem dX10_count_121 : decode cX10_count 121 = .ok (.ireturn, 1) := by decide +kernel
theorem dX10_count_122 : decode cX10_count 122 = .ok (.bipush (-2), 2) := by decide +kernel
theorem dX10_count_124 : decode cX10_count 124 = .ok (.ireturn, 1) := by decide +kernel
theorem dX10_digest_0 : decode cX10_digest 0 = .ok (.ldc2_w 301, 3) := by decide +kernel
theorem dX10_digest_3 : decode cX10_digest 3 = .ok (.lstore_n 1, 1) := by decide +kernel
theorem dX10_digest_4 : decode cX10_digest 4 = .ok (.iconst 0, 1) := by decide +kernel
theorem dX10_digest_5 : decode cX10_digest 5 = .ok (.istore_n 3, 1) := by decide +kernel
theorem dX10_digest_6 : decode cX10_digest 6 = .ok (.iload_n 3, 1) := by decide +kernel
theorem dX10_digest_7 : decode cX10_digest 7 = .ok (.bipush 7, 2) := by decide +kernel
theorem dX10_digest_9 : decode cX10_digest 9 = .ok (.if_icmp .gt 20, 3) := by decide +kernel
theorem dX10_digest_12 : decode cX10_digest 12 = .ok (.lload_n 1, 1) := by decide +kernel
theorem dX10_digest_13 : decode cX10_digest 13 = .ok (.aload_n 0, 1) := by decide +kernel
theorem dX10_digest_14 : decode cX10_digest 14 = .ok (.iload_n 3, 1) := by decide +kernel
theorem dX10_digest_15 : decode cX10_digest 15 = .ok (.invokevirtual 303, 3) := by decide +kernel
theorem dX10_digest_18 : decode cX10_digest 18 = .ok (.i2l, 1) := by decide +kernel
theorem dX10_digest_19 : decode cX10_digest 19 = .ok (.invokestatic 306, 3) := by decide +kernel
theorem dX10_digest_22 : decode cX10_digest 22 = .ok (.lstore_n 1, 1) := by decide +kernel
theorem dX10_digest_23 : decode cX10_digest 23 = .ok (.iinc 3 1, 3) := by decide +kernel
theorem dX10_digest_26 : decode cX10_digest 26 = .ok (.goto (-20), 3) := by decide +kernel
theorem dX10_digest_29 : decode cX10_digest 29 = .ok (.lload_n 1, 1) := by decide +kernel
theorem dX10_digest_30 : decode cX10_digest 30 = .ok (.aload_n 0, 1) := by decide +kernel
theorem dX10_digest_31 : decode cX10_digest 31 = .ok (.invokevirtual 310, 3) := by decide +kernel
theorem dX10_digest_34 : decode cX10_digest 34 = .ok (.i2l, 1) := by decide +kernel
theorem dX10_digest_35 : decode cX10_digest 35 = .ok (.invokestatic 306, 3) := by decide +kernel
theorem dX10_digest_38 : decode cX10_digest 38 = .ok (.lstore_n 1, 1) := by decide +kernel
theorem dX10_digest_39 : decode cX10_digest 39 = .ok (.iconst 0, 1) := by decide +kernel
theorem dX10_digest_40 : decode cX10_digest 40 = .ok (.istore_n 3, 1) := by decide +kernel
theorem dX10_digest_41 : decode cX10_digest 41 = .ok (.iload_n 3, 1) := by decide +kernel
theorem dX10_digest_42 : decode cX10_digest 42 = .ok (.getstatic 313, 3) := by decide +kernel
theorem dX10_digest_45 : decode cX10_digest 45 = .ok (.arraylength, 1) := by decide +kernel
theorem dX10_digest_46 : decode cX10_digest 46 = .ok (.if_icmp .ge 76, 3) := by decide +kernel
theorem dX10_digest_49 : decode cX10_digest 49 = .ok (.getstatic 313, 3) := by decide +kernel
theorem dX10_digest_52 : decode cX10_digest 52 = .ok (.iload_n 3, 1) := by decide +kernel
theorem dX10_digest_53 : decode cX10_digest 53 = .ok (.iaload, 1) := by decide +kernel
theorem dX10_digest_54 : decode cX10_digest 54 = .ok (.istore 4, 2) := by decide +kernel
theorem dX10_digest_56 : decode cX10_digest 56 = .ok (.lload_n 1, 1) := by decide +kernel
theorem dX10_digest_57 : decode cX10_digest 57 = .ok (.aload_n 0, 1) := by decide +kernel
theorem dX10_digest_58 : decode cX10_digest 58 = .ok (.iload 4, 2) := by decide +kernel
theorem dX10_digest_60 : decode cX10_digest 60 = .ok (.bipush 9, 2) := by decide +kernel
theorem dX10_digest_62 : decode cX10_digest 62 = .ok (.iconst 0, 1) := by decide +kernel
theorem dX10_digest_63 : decode cX10_digest 63 = .ok (.invokevirtual 316, 3) := by decide +kernel
theorem dX10_digest_66 : decode cX10_digest 66 = .ok (.invokestatic 306, 3) := by decide +kernel
theorem dX10_digest_69 : decode cX10_digest 69 = .ok (.aload_n 0, 1) := by decide +kernel
theorem dX10_digest_70 : decode cX10_digest 70 = .ok (.iload 4, 2) := by decide +kernel
theorem dX10_digest_72 : decode cX10_digest 72 = .ok (.bipush 9, 2) := by decide +kernel
theorem dX10_digest_74 : decode cX10_digest 74 = .ok (.iconst 1, 1) := by decide +kernel
theorem dX10_digest_75 : decode cX10_digest 75 = .ok (.invokevirtual 316, 3) := by decide +kernel
theorem dX10_digest_78 : decode cX10_digest 78 = .ok (.invokestatic 306, 3) := by decide +kernel
theorem dX10_digest_81 : decode cX10_digest 81 = .ok (.lstore_n 1, 1) := by decide +kernel
theorem dX10_digest_82 : decode cX10_digest 82 = .ok (.lload_n 1, 1) := by decide +kernel
theorem dX10_digest_83 : decode cX10_digest 83 = .ok (.aload_n 0, 1) := by decide +kernel
theorem dX10_digest_84 : decode cX10_digest 84 = .ok (.iload 4, 2) := by decide +kernel
theorem dX10_digest_86 : decode cX10_digest 86 = .ok (.invokevirtual 320, 3) := by decide +kernel
theorem dX10_digest_89 : decode cX10_digest 89 = .ok (.i2l, 1) := by decide +kernel
theorem dX10_digest_90 : decode cX10_digest 90 = .ok (.invokestatic 306, 3) := by decide +kernel
theorem dX10_digest_93 : decode cX10_digest 93 = .ok (.lstore_n 1, 1) := by decide +kernel
theorem dX10_digest_94 : decode cX10_digest 94 = .ok (.lload_n 1, 1) := by decide +kernel
theorem dX10_digest_95 : decode cX10_digest 95 = .ok (.aload_n 0, 1) := by decide +kernel
theorem dX10_digest_96 : decode cX10_digest 96 = .ok (.iload 4, 2) := by decide +kernel
theorem dX10_digest_98 : decode cX10_digest 98 = .ok (.iconst 0, 1) := by decide +kernel
theorem dX10_digest_99 : decode cX10_digest 99 = .ok (.invokevirtual 323, 3) := by decide +kernel
theorem dX10_digest_102 : decode cX10_digest 102 = .ok (.invokestatic 306, 3) := by decide +kernel
theorem dX10_digest_105 : decode cX10_digest 105 = .ok (.aload_n 0, 1) := by decide +kernel
theorem dX10_digest_106 : decode cX10_digest 106 = .ok (.iload 4, 2) := by decide +kernel
theorem dX10_digest_108 : decode cX10_digest 108 = .ok (.iconst 1, 1) := by decide +kernel
theorem dX10_digest_109 : decode cX10_digest 109 = .ok (.invokevirtual 323, 3) := by decide +kernel
theorem dX10_digest_112 : decode cX10_digest 112 = .ok (.invokestatic 306, 3) := by decide +kernel
theorem dX10_digest_115 : decode cX10_digest 115 = .ok (.lstore_n 1, 1) := by decide +kernel
theorem dX10_digest_116 : decode cX10_digest 116 = .ok (.iinc 3 1, 3) := by decide +kernel
theorem dX10_digest_119 : decode cX10_digest 119 = .ok (.goto (-78), 3) := by decide +kernel
theorem dX10_digest_122 : decode cX10_digest 122 = .ok (.lload_n 1, 1) := by decide +kernel
theorem dX10_digest_123 : decode cX10_digest 123 = .ok (.aload_n 0, 1) := by decide +kernel
theorem dX10_digest_124 : decode cX10_digest 124 = .ok (.invokevirtual 326, 3) := by decide +kernel
theorem dX10_digest_127 : decode cX10_digest 127 = .ok (.i2l, 1) := by decide +kernel
theorem dX10_digest_128 : decode cX10_digest 128 = .ok (.invokestatic 306, 3) := by decide +kernel
theorem dX10_digest_131 : decode cX10_digest 131 = .ok (.lstore_n 1, 1) := by decide +kernel
theorem dX10_digest_132 : decode cX10_digest 132 = .ok (.bipush (-2), 2) := by decide +kernel
theorem dX10_digest_134 : decode cX10_digest 134 = .ok (.istore_n 3, 1) := by decide +kernel
theorem dX10_digest_135 : decode cX10_digest 135 = .ok (.iload_n 3, 1) := by decide +kernel
theorem dX10_digest_136 : decode cX10_digest 136 = .ok (.iconst 2, 1) := by decide +kernel
theorem dX10_digest_137 : decode cX10_digest 137 = .ok (.if_icmp .gt 33, 3) := by decide +kernel
theorem dX10_digest_140 : decode cX10_digest 140 = .ok (.lload_n 1, 1) := by decide +kernel
theorem dX10_digest_141 : decode cX10_digest 141 = .ok (.aload_n 0, 1) := by decide +kernel
theorem dX10_digest_142 : decode cX10_digest 142 = .ok (.bipush 20, 2) := by decide +kernel
theorem dX10_digest_144 : decode cX10_digest 144 = .ok (.iload_n 3, 1) := by decide +kernel
theorem dX10_digest_145 : decode cX10_digest 145 = .ok (.iconst 0, 1) := by decide +kernel
theorem dX10_digest_146 : decode cX10_digest 146 = .ok (.invokevirtual 329, 3) := by decide +kernel
theorem dX10_digest_149 : decode cX10_digest 149 = .ok (.invokestatic 306, 3) := by decide +kernel
theorem dX10_digest_152 : decode cX10_digest 152 = .ok (.aload_n 0, 1) := by decide +kernel
theorem dX10_digest_153 : decode cX10_digest 153 = .ok (.bipush 20, 2) := by decide +kernel
theorem dX10_digest_155 : decode cX10_digest 155 = .ok (.iload_n 3, 1) := by decide +kernel
theorem dX10_digest_156 : decode cX10_digest 156 = .ok (.iconst 1, 1) := by decide +kernel
theorem dX10_digest_157 : decode cX10_digest 157 = .ok (.invokevirtual 329, 3) := by decide +kernel
theorem dX10_digest_160 : decode cX10_digest 160 = .ok (.invokestatic 306, 3) := by decide +kernel
theorem dX10_digest_163 : decode cX10_digest 163 = .ok (.lstore_n 1, 1) := by decide +kernel
theorem dX10_digest_164 : decode cX10_digest 164 = .ok (.iinc 3 1, 3) := by decide +kernel
theorem dX10_digest_167 : decode cX10_digest 167 = .ok (.goto (-32), 3) := by decide +kernel
theorem dX10_digest_170 : decode cX10_digest 170 = .ok (.iconst 0, 1) := by decide +kernel
theorem dX10_digest_171 : decode cX10_digest 171 = .ok (.istore_n 3, 1) := by decide +kernel
theorem dX10_digest_172 : decode cX10_digest 172 = .ok (.iload_n 3, 1) := by decide +kernel
theorem dX10_digest_173 : decode cX10_digest 173 = .ok (.iconst 1, 1) := by decide +kernel
theorem dX10_digest_174 : decode cX10_digest 174 = .ok (.if_icmp .gt 29, 3) := by decide +kernel
theorem dX10_digest_177 : decode cX10_digest 177 = .ok (.lload_n 1, 1) := by decide +kernel
theorem dX10_digest_178 : decode cX10_digest 178 = .ok (.aload_n 0, 1) := by decide +kernel
theorem dX10_digest_179 : decode cX10_digest 179 = .ok (.iload_n 3, 1) := by decide +kernel
theorem dX10_digest_180 : decode cX10_digest 180 = .ok (.iconst 0, 1) := by decide +kernel
theorem dX10_digest_181 : decode cX10_digest 181 = .ok (.invokevirtual 332, 3) := by decide +kernel
theorem dX10_digest_184 : decode cX10_digest 184 = .ok (.invokestatic 306, 3) := by decide +kernel
theorem dX10_digest_187 : decode cX10_digest 187 = .ok (.aload_n 0, 1) := by decide +kernel
theorem dX10_digest_188 : decode cX10_digest 188 = .ok (.iload_n 3, 1) := by decide +kernel
theorem dX10_digest_189 : decode cX10_digest 189 = .ok (.iconst 1, 1) := by decide +kernel
theorem dX10_digest_190 : decode cX10_digest 190 = .ok (.invokevirtual 332, 3) := by decide +kernel
theorem dX10_digest_193 : decode cX10_digest 193 = .ok (.invokestatic 306, 3) := by decide +kernel
theorem dX10_digest_196 : decode cX10_digest 196 = .ok (.lstore_n 1, 1) := by decide +kernel
theorem dX10_digest_197 : decode cX10_digest 197 = .ok (.iinc 3 1, 3) := by decide +kernel
theorem dX10_digest_200 : decode cX10_digest 200 = .ok (.goto (-28), 3) := by decide +kernel
theorem dX10_digest_203 : decode cX10_digest 203 = .ok (.lload_n 1, 1) := by decide +kernel
theorem dX10_digest_204 : decode cX10_digest 204 = .ok (.aload_n 0, 1) := by decide +kernel
theorem dX10_digest_205 : decode cX10_digest 205 = .ok (.iconst 1, 1) := by decide +kernel
theorem dX10_digest_206 : decode cX10_digest 206 = .ok (.invokevirtual 335, 3) := by decide +kernel
theorem dX10_digest_209 : decode cX10_digest 209 = .ok (.i2l, 1) := by decide +kernel
theorem dX10_digest_210 : decode cX10_digest 210 = .ok (.invokestatic 306, 3) := by decide +kernel
theorem dX10_digest_213 : decode cX10_digest 213 = .ok (.aload_n 0, 1) := by decide +kernel
theorem dX10_digest_214 : decode cX10_digest 214 = .ok (.iconst 2, 1) := by decide +kernel
theorem dX10_digest_215 : decode cX10_digest 215 = .ok (.invokevirtual 335, 3) := by decide +kernel
theorem dX10_digest_218 : decode cX10_digest 218 = .ok (.i2l, 1) := by decide +kernel
theorem dX10_digest_219 : decode cX10_digest 219 = .ok (.invokestatic 306, 3) := by decide +kernel
theorem dX10_digest_222 : decode cX10_digest 222 = .ok (.aload_n 0, 1) := by decide +kernel
theorem dX10_digest_223 : decode cX10_digest 223 = .ok (.bipush 8, 2) := by decide +kernel
theorem dX10_digest_225 : decode cX10_digest 225 = .ok (.invokevirtual 338, 3) := by decide +kernel
theorem dX10_digest_228 : decode cX10_digest 228 = .ok (.i2l, 1) := by decide +kernel
theorem dX10_digest_229 : decode cX10_digest 229 = .ok (.invokestatic 306, 3) := by decide +kernel
theorem dX10_digest_232 : decode cX10_digest 232 = .ok (.lstore_n 1, 1) := by decide +kernel
theorem dX10_digest_233 : decode cX10_digest 233 = .ok (.iconst 0, 1) := by decide +kernel
theorem dX10_digest_234 : decode cX10_digest 234 = .ok (.istore_n 3, 1) := by decide +kernel
theorem dX10_digest_235 : decode cX10_digest 235 = .ok (.iload_n 3, 1) := by decide +kernel
theorem dX10_digest_236 : decode cX10_digest 236 = .ok (.aload_n 0, 1) := by decide +kernel
theorem dX10_digest_237 : decode cX10_digest 237 = .ok (.getfield 12, 3) := by decide +kernel
theorem dX10_digest_240 : decode cX10_digest 240 = .ok (.getfield 211, 3) := by decide +kernel
theorem dX10_digest_243 : decode cX10_digest 243 = .ok (.if_icmp .ge 20, 3) := by decide +kernel
theorem dX10_digest_246 : decode cX10_digest 246 = .ok (.lload_n 1, 1) := by decide +kernel
theorem dX10_digest_247 : decode cX10_digest 247 = .ok (.aload_n 0, 1) := by decide +kernel
theorem dX10_digest_248 : decode cX10_digest 248 = .ok (.iload_n 3, 1) := by decide +kernel
theorem dX10_digest_249 : decode cX10_digest 249 = .ok (.invokevirtual 341, 3) := by decide +kernel
theorem dX10_digest_252 : decode cX10_digest 252 = .ok (.i2l, 1) := by decide +kernel
theorem dX10_digest_253 : decode cX10_digest 253 = .ok (.invokestatic 306, 3) := by decide +kernel
theorem dX10_digest_256 : decode cX10_digest 256 = .ok (.lstore_n 1, 1) := by decide +kernel
theorem dX10_digest_257 : decode cX10_digest 257 = .ok (.iinc 3 1, 3) := by decide +kernel
theorem dX10_digest_260 : decode cX10_digest 260 = .ok (.goto (-25), 3) := by decide +kernel
theorem dX10_digest_263 : decode cX10_digest 263 = .ok (.lload_n 1, 1) := by decide +kernel
theorem dX10_digest_264 : decode cX10_digest 264 = .ok (.aload_n 0, 1) := by decide +kernel
theorem dX10_digest_265 : decode cX10_digest 265 = .ok (.bipush 9, 2) := by decide +kernel
theorem dX10_digest_267 : decode cX10_digest 267 = .ok (.bipush 12, 2) := by decide +kernel
theorem dX10_digest_269 : decode cX10_digest 269 = .ok (.iconst 0, 1) := by decide +kernel
theorem dX10_digest_270 : decode cX10_digest 270 = .ok (.invokevirtual 344, 3) := by decide +kernel
theorem dX10_digest_273 : decode cX10_digest 273 = .ok (.invokestatic 306, 3) := by decide +kernel
theorem dX10_digest_276 : decode cX10_digest 276 = .ok (.aload_n 0, 1) := by decide +kernel
theorem dX10_digest_277 : decode cX10_digest 277 = .ok (.bipush 9, 2) := by decide +kernel
theorem dX10_digest_279 : decode cX10_digest 279 = .ok (.bipush 12, 2) := by decide +kernel
theorem dX10_digest_281 : decode cX10_digest 281 = .ok (.iconst 1, 1) := by decide +kernel
theorem dX10_digest_282 : decode cX10_digest 282 = .ok (.invokevirtual 344, 3) := by decide +kernel
theorem dX10_digest_285 : decode cX10_digest 285 = .ok (.invokestatic 306, 3) := by decide +kernel
theorem dX10_digest_288 : decode cX10_digest 288 = .ok (.lstore_n 1, 1) := by decide +kernel
theorem dX10_digest_289 : decode cX10_digest 289 = .ok (.iconst 0, 1) := by decide +kernel
theorem dX10_digest_290 : decode cX10_digest 290 = .ok (.istore_n 3, 1) := by decide +kernel
theorem dX10_digest_291 : decode cX10_digest 291 = .ok (.iload_n 3, 1) := by decide +kernel
theorem dX10_digest_292 : decode cX10_digest 292 = .ok (.bipush 9, 2) := by decide +kernel
theorem dX10_digest_294 : decode cX10_digest 294 = .ok (.if_icmp .gt 29, 3) := by decide +kernel
theorem dX10_digest_297 : decode cX10_digest 297 = .ok (.lload_n 1, 1) := by decide +kernel
theorem dX10_digest_298 : decode cX10_digest 298 = .ok (.aload_n 0, 1) := by decide +kernel
theorem dX10_digest_299 : decode cX10_digest 299 = .ok (.iload_n 3, 1) := by decide +kernel
theorem dX10_digest_300 : decode cX10_digest 300 = .ok (.iconst 0, 1) := by decide +kernel
theorem dX10_digest_301 : decode cX10_digest 301 = .ok (.invokevirtual 347, 3) := by decide +kernel
theorem dX10_digest_304 : decode cX10_digest 304 = .ok (.invokestatic 306, 3) := by decide +kernel
theorem dX10_digest_307 : decode cX10_digest 307 = .ok (.aload_n 0, 1) := by decide +kernel
theorem dX10_digest_308 : decode cX10_digest 308 = .ok (.iload_n 3, 1) := by decide +kernel
theorem dX10_digest_309 : decode cX10_digest 309 = .ok (.iconst 1, 1) := by decide +kernel
theorem dX10_digest_310 : decode cX10_digest 310 = .ok (.invokevirtual 347, 3) := by decide +kernel
theorem dX10_digest_313 : decode cX10_digest 313 = .ok (.invokestatic 306, 3) := by decide +kernel
theorem dX10_digest_316 : decode cX10_digest 316 = .ok (.lstore_n 1, 1) := by decide +kernel
theorem dX10_digest_317 : decode cX10_digest 317 = .ok (.iinc 3 9, 3) := by decide +kernel
theorem dX10_digest_320 : decode cX10_digest 320 = .ok (.goto (-29), 3) := by decide +kernel
theorem dX10_digest_323 : decode cX10_digest 323 = .ok (.lload_n 1, 1) := by decide +kernel
theorem dX10_digest_324 : decode cX10_digest 324 = .ok (.aload_n 0, 1) := by decide +kernel
theorem dX10_digest_325 : decode cX10_digest 325 = .ok (.iconst 0, 1) := by decide +kernel
theorem dX10_digest_326 : decode cX10_digest 326 = .ok (.invokevirtual 350, 3) := by decide +kernel
theorem dX10_digest_329 : decode cX10_digest 329 = .ok (.i2l, 1) := by decide +kernel
theorem dX10_digest_330 : decode cX10_digest 330 = .ok (.invokestatic 306, 3) := by decide +kernel
theorem dX10_digest_333 : decode cX10_digest 333 = .ok (.aload_n 0, 1) := by decide +kernel
theorem dX10_digest_334 : decode cX10_digest 334 = .ok (.iconst 1, 1) := by decide +kernel
theorem dX10_digest_335 : decode cX10_digest 335 = .ok (.invokevirtual 350, 3) := by decide +kernel
theorem dX10_digest_338 : decode cX10_digest 338 = .ok (.i2l, 1) := by decide +kernel
theorem dX10_digest_339 : decode cX10_digest 339 = .ok (.invokestatic 306, 3) := by decide +kernel
theorem dX10_digest_342 : decode cX10_digest 342 = .ok (.lstore_n 1, 1) := by decide +kernel
theorem dX10_digest_343 : decode cX10_digest 343 = .ok (.lload_n 1, 1) := by decide +kernel
theorem dX10_digest_344 : decode cX10_digest 344 = .ok (.aload_n 0, 1) := by decide +kernel
theorem dX10_digest_345 : decode cX10_digest 345 = .ok (.iconst 0, 1) := by decide +kernel
theorem dX10_digest_346 : decode cX10_digest 346 = .ok (.invokevirtual 353, 3) := by decide +kernel
theorem dX10_digest_349 : decode cX10_digest 349 = .ok (.i2l, 1) := by decide +kernel
theorem dX10_digest_350 : decode cX10_digest 350 = .ok (.invokestatic 306, 3) := by decide +kernel
theorem dX10_digest_353 : decode cX10_digest 353 = .ok (.aload_n 0, 1) := by decide +kernel
theorem dX10_digest_354 : decode cX10_digest 354 = .ok (.iconst 1, 1) := by decide +kernel
theorem dX10_digest_355 : decode cX10_digest 355 = .ok (.invokevirtual 353, 3) := by decide +kernel
theorem dX10_digest_358 : decode cX10_digest 358 = .ok (.i2l, 1) := by decide +kernel
theorem dX10_digest_359 : decode cX10_digest 359 = .ok (.invokestatic 306, 3) := by decide +kernel
theorem dX10_digest_362 : decode cX10_digest 362 = .ok (.aload_n 0, 1) := by decide +kernel
theorem dX10_digest_363 : decode cX10_digest 363 = .ok (.bipush 9, 2) := by decide +kernel
theorem dX10_digest_365 : decode cX10_digest 365 = .ok (.invokevirtual 356, 3) := by decide +kernel
theorem dX10_digest_368 : decode cX10_digest 368 = .ok (.i2l, 1) := by decide +kernel
theorem dX10_digest_369 : decode cX10_digest 369 = .ok (.invokestatic 306, 3) := by decide +kernel
theorem dX10_digest_372 : decode cX10_digest 372 = .ok (.lstore_n 1, 1) := by decide +kernel
theorem dX10_digest_373 : decode cX10_digest 373 = .ok (.lload_n 1, 1) := by decide +kernel
theorem dX10_digest_374 : decode cX10_digest 374 = .ok (.aload_n 0, 1) := by decide +kernel
theorem dX10_digest_375 : decode cX10_digest 375 = .ok (.iconst 0, 1) := by decide +kernel
theorem dX10_digest_376 : decode cX10_digest 376 = .ok (.invokevirtual 359, 3) := by decide +kernel
theorem dX10_digest_379 : decode cX10_digest 379 = .ok (.i2l, 1) := by decide +kernel
theorem dX10_digest_380 : decode cX10_digest 380 = .ok (.invokestatic 306, 3) := by decide +kernel
theorem dX10_digest_383 : decode cX10_digest 383 = .ok (.aload_n 0, 1) := by decide +kernel
theorem dX10_digest_384 : decode cX10_digest 384 = .ok (.iconst 1, 1) := by decide +kernel
theorem dX10_digest_385 : decode cX10_digest 385 = .ok (.invokevirtual 359, 3) := by decide +kernel
theorem dX10_digest_388 : decode cX10_digest 388 = .ok (.i2l, 1) := by decide +kernel
theorem dX10_digest_389 : decode cX10_digest 389 = .ok (.invokestatic 306, 3) := by decide +kernel
theorem dX10_digest_392 : decode cX10_digest 392 = .ok (.aload_n 0, 1) := by decide +kernel
theorem dX10_digest_393 : decode cX10_digest 393 = .ok (.invokevirtual 362, 3) := by decide +kernel
theorem dX10_digest_396 : decode cX10_digest 396 = .ok (.i2l, 1) := by decide +kernel
theorem dX10_digest_397 : decode cX10_digest 397 = .ok (.invokestatic 306, 3) := by decide +kernel
theorem dX10_digest_400 : decode cX10_digest 400 = .ok (.lstore_n 1, 1) := by decide +kernel
theorem dX10_digest_401 : decode cX10_digest 401 = .ok (.lload_n 1, 1) := by decide +kernel
theorem dX10_digest_402 : decode cX10_digest 402 = .ok (.aload_n 0, 1) := by decide +kernel
theorem dX10_digest_403 : decode cX10_digest 403 = .ok (.bipush 7, 2) := by decide +kernel
theorem dX10_digest_405 : decode cX10_digest 405 = .ok (.iconst 0, 1) := by decide +kernel
theorem dX10_digest_406 : decode cX10_digest 406 = .ok (.invokevirtual 365, 3) := by decide +kernel
theorem dX10_digest_409 : decode cX10_digest 409 = .ok (.i2l, 1) := by decide +kernel
theorem dX10_digest_410 : decode cX10_digest 410 = .ok (.invokestatic 306, 3) := by decide +kernel
theorem dX10_digest_413 : decode cX10_digest 413 = .ok (.aload_n 0, 1) := by decide +kernel
theorem dX10_digest_414 : decode cX10_digest 414 = .ok (.bipush 7, 2) := by decide +kernel
theorem dX10_digest_416 : decode cX10_digest 416 = .ok (.bipush 20, 2) := by decide +kernel
theorem dX10_digest_418 : decode cX10_digest 418 = .ok (.invokevirtual 365, 3) := by decide +kernel
theorem dX10_digest_421 : decode cX10_digest 421 = .ok (.i2l, 1) := by decide +kernel
theorem dX10_digest_422 : decode cX10_digest 422 = .ok (.invokestatic 306, 3) := by decide +kernel
theorem dX10_digest_425 : decode cX10_digest 425 = .ok (.lreturn, 1) := by decide +kernel
theorem dX10_within_0 : decode cX10_within 0 = .ok (.iload_n 0, 1) := by decide +kernel
theorem dX10_within_1 : decode cX10_within 1 = .ok (.iload_n 1, 1) := by decide +kernel
theorem dX10_within_2 : decode cX10_within 2 = .ok (.if_icmp .lt 12, 3) := by decide +kernel
theorem dX10_within_5 : decode cX10_within 5 = .ok (.iload_n 0, 1) := by decide +kernel
theorem dX10_within_6 : decode cX10_within 6 = .ok (.iload_n 2, 1) := by decide +kernel
theorem dX10_within_7 : decode cX10_within 7 = .ok (.if_icmp .gt 7, 3) := by decide +kernel
theorem dX10_within_10 : decode cX10_within 10 = .ok (.iconst 1, 1) := by decide +kernel
theorem dX10_within_11 : decode cX10_within 11 = .ok (.goto 4, 3) := by decide +kernel
theorem dX10_within_14 : decode cX10_within 14 = .ok (.iconst 0, 1) := by decide +kernel
theorem dX10_within_15 : decode cX10_within 15 = .ok (.ireturn, 1) := by decide +kernel
theorem dX10_isNumber_0 : decode cX10_isNumber 0 = .ok (.iload_n 0, 1) := by decide +kernel
theorem dX10_isNumber_1 : decode cX10_isNumber 1 = .ok (.iconst 1, 1) := by decide +kernel
theorem dX10_isNumber_2 : decode cX10_isNumber 2 = .ok (.bipush 110, 2) := by decide +kernel
theorem dX10_isNumber_4 : decode cX10_isNumber 4 = .ok (.invokestatic 94, 3) := by decide +kernel
theorem dX10_isNumber_7 : decode cX10_isNumber 7 = .ok (.ireturn, 1) := by decide +kernel
theorem dX10_isPart_0 : decode cX10_isPart 0 = .ok (.iload_n 0, 1) := by decide +kernel
theorem dX10_isPart_1 : decode cX10_isPart 1 = .ok (.iconst 0, 1) := by decide +kernel
theorem dX10_isPart_2 : decode cX10_isPart 2 = .ok (.iconst 1, 1) := by decide +kernel
theorem dX10_isPart_3 : decode cX10_isPart 3 = .ok (.invokestatic 94, 3) := by decide +kernel
theorem dX10_isPart_6 : decode cX10_isPart 6 = .ok (.ireturn, 1) := by decide +kernel
theorem dX10_refusal_0 : decode cX10_refusal 0 = .ok (.ldc2_w 370, 3) := by decide +kernel
theorem dX10_refusal_3 : decode cX10_refusal 3 = .ok (.iload_n 0, 1) := by decide +kernel
theorem dX10_refusal_4 : decode cX10_refusal 4 = .ok (.i2l, 1) := by decide +kernel
theorem dX10_refusal_5 : decode cX10_refusal 5 = .ok (.lsub, 1) := by decide +kernel
theorem dX10_refusal_6 : decode cX10_refusal 6 = .ok (.lreturn, 1) := by decide +kernel
theorem dX10_found_0 : decode cX10_found 0 = .ok (.aload_n 0, 1) := by decide +kernel
theorem dX10_found_1 : decode cX10_found 1 = .ok (.iload_n 1, 1) := by decide +kernel
theorem dX10_found_2 : decode cX10_found 2 = .ok (.putfield 90, 3) := by decide +kernel
theorem dX10_found_5 : decode cX10_found 5 = .ok (.bipush (-10), 2) := by decide +kernel
theorem dX10_found_7 : decode cX10_found 7 = .ok (.iload_n 1, 1) := by decide +kernel
theorem dX10_found_8 : decode cX10_found 8 = .ok (.isub, 1) := by decide +kernel
theorem dX10_found_9 : decode cX10_found 9 = .ok (.ireturn, 1) := by decide +kernel
theorem dX10_sheetAt_0 : decode cX10_sheetAt 0 = .ok (.iload_n 1, 1) := by decide +kernel
theorem dX10_sheetAt_1 : decode cX10_sheetAt 1 = .ok (.ifCond .lt 21, 3) := by decide +kernel
theorem dX10_sheetAt_4 : decode cX10_sheetAt 4 = .ok (.iload_n 1, 1) := by decide +kernel
theorem dX10_sheetAt_5 : decode cX10_sheetAt 5 = .ok (.aload_n 0, 1) := by decide +kernel
theorem dX10_sheetAt_6 : decode cX10_sheetAt 6 = .ok (.getfield 81, 3) := by decide +kernel
theorem dX10_sheetAt_9 : decode cX10_sheetAt 9 = .ok (.arraylength, 1) := by decide +kernel
theorem dX10_sheetAt_10 : decode cX10_sheetAt 10 = .ok (.if_icmp .ge 12, 3) := by decide +kernel
theorem dX10_sheetAt_13 : decode cX10_sheetAt 13 = .ok (.aload_n 0, 1) := by decide +kernel
theorem dX10_sheetAt_14 : decode cX10_sheetAt 14 = .ok (.getfield 81, 3) := by decide +kernel
theorem dX10_sheetAt_17 : decode cX10_sheetAt 17 = .ok (.iload_n 1, 1) := by decide +kernel
theorem dX10_sheetAt_18 : decode cX10_sheetAt 18 = .ok (.aaload, 1) := by decide +kernel
theorem dX10_sheetAt_19 : decode cX10_sheetAt 19 = .ok (.goto 4, 3) := by decide +kernel
theorem dX10_sheetAt_22 : decode cX10_sheetAt 22 = .ok (.aconst_null, 1) := by decide +kernel
theorem dX10_sheetAt_23 : decode cX10_sheetAt 23 = .ok (.areturn, 1) := by decide +kernel
theorem dX10_addNote_0 : decode cX10_addNote 0 = .ok (.aload_n 0, 1) := by decide +kernel
theorem dX10_addNote_1 : decode cX10_addNote 1 = .ok (.getfield 36, 3) := by decide +kernel
theorem dX10_addNote_4 : decode cX10_addNote 4 = .ok (.iload_n 1, 1) := by decide +kernel
theorem dX10_addNote_5 : decode cX10_addNote 5 = .ok (.iload_n 2, 1) := by decide +kernel
theorem dX10_addNote_6 : decode cX10_addNote 6 = .ok (.iload_n 3, 1) := by decide +kernel
theorem dX10_addNote_7 : decode cX10_addNote 7 = .ok (.invokevirtual 372, 3) := by decide +kernel
theorem dX10_addNote_10 : decode cX10_addNote 10 = .ok (.ifCond .ne 6, 3) := by decide +kernel
theorem dX10_addNote_13 : decode cX10_addNote 13 = .ok (.bipush (-4), 2) := by decide +kernel
theorem dX10_addNote_15 : decode cX10_addNote 15 = .ok (.ireturn, 1) := by decide +kernel
theorem dX10_addNote_16 : decode cX10_addNote 16 = .ok (.aload_n 0, 1) := by decide +kernel
theorem dX10_addNote_17 : decode cX10_addNote 17 = .ok (.iconst 1, 1) := by decide +kernel
theorem dX10_addNote_18 : decode cX10_addNote 18 = .ok (.putfield 86, 3) := by decide +kernel
theorem dX10_addNote_21 : decode cX10_addNote 21 = .ok (.aload_n 0, 1) := by decide +kernel
theorem dX10_addNote_22 : decode cX10_addNote 22 = .ok (.getfield 36, 3) := by decide +kernel
theorem dX10_addNote_25 : decode cX10_addNote 25 = .ok (.getfield 170, 3) := by decide +kernel
theorem dX10_addNote_28 : decode cX10_addNote 28 = .ok (.ireturn, 1) := by decide +kernel
theorem dX10_refreshWays_0 : decode cX10_refreshWays 0 = .ok (.aload_n 0, 1) := by decide +kernel
theorem dX10_refreshWays_1 : decode cX10_refreshWays 1 = .ok (.getfield 86, 3) := by decide +kernel
theorem dX10_refreshWays_4 : decode cX10_refreshWays 4 = .ok (.ifCond .eq 15, 3) := by decide +kernel
theorem dX10_refreshWays_7 : decode cX10_refreshWays 7 = .ok (.aload_n 0, 1) := by decide +kernel
theorem dX10_refreshWays_8 : decode cX10_refreshWays 8 = .ok (.getfield 45, 3) := by decide +kernel
theorem dX10_refreshWays_11 : decode cX10_refreshWays 11 = .ok (.invokevirtual 374, 3) := by decide +kernel
theorem dX10_refreshWays_14 : decode cX10_refreshWays 14 = .ok (.aload_n 0, 1) := by decide +kernel
theorem dX10_refreshWays_15 : decode cX10_refreshWays 15 = .ok (.iconst 0, 1) := by decide +kernel
theorem dX10_refreshWays_16 : decode cX10_refreshWays 16 = .ok (.putfield 86, 3) := by decide +kernel
theorem dX10_refreshWays_19 : decode cX10_refreshWays 19 = .ok (.return_, 1) := by decide +kernel
theorem dX10_costAbove_0 : decode cX10_costAbove 0 = .ok (.aload_n 0, 1) := by decide +kernel
theorem dX10_costAbove_1 : decode cX10_costAbove 1 = .ok (.getfield 45, 3) := by decide +kernel
theorem dX10_costAbove_4 : decode cX10_costAbove 4 = .ok (.iload_n 1, 1) := by decide +kernel
theorem dX10_costAbove_5 : decode cX10_costAbove 5 = .ok (.aload_n 0, 1) := by decide +kernel
theorem dX10_costAbove_6 : decode cX10_costAbove 6 = .ok (.getfield 12, 3) := by decide +kernel
theorem dX10_costAbove_9 : decode cX10_costAbove 9 = .ok (.getfield 192, 3) := by decide +kernel
theorem dX10_costAbove_12 : decode cX10_costAbove 12 = .ok (.iconst 1, 1) := by decide +kernel
theorem dX10_costAbove_13 : decode cX10_costAbove 13 = .ok (.isub, 1) := by decide +kernel
theorem dX10_costAbove_14 : decode cX10_costAbove 14 = .ok (.invokevirtual 184, 3) := by decide +kernel
theorem dX10_costAbove_17 : decode cX10_costAbove 17 = .ok (.lstore_n 2, 1) := by decide +kernel
theorem dX10_costAbove_18 : decode cX10_costAbove 18 = .ok (.aload_n 0, 1) := by decide +kernel
theorem dX10_costAbove_19 : decode cX10_costAbove 19 = .ok (.getfield 19, 3) := by decide +kernel
theorem dX10_costAbove_22 : decode cX10_costAbove 22 = .ok (.iconst 4, 1) := by decide +kernel
theorem dX10_costAbove_23 : decode cX10_costAbove 23 = .ok (.invokevirtual 138, 3) := by decide +kernel
theorem dX10_costAbove_26 : decode cX10_costAbove 26 = .ok (.i2l, 1) := by decide +kernel
theorem dX10_costAbove_27 : decode cX10_costAbove 27 = .ok (.aload_n 0, 1) := by decide +kernel
theorem dX10_costAbove_28 : decode cX10_costAbove 28 = .ok (.getfield 45, 3) := by decide +kernel
theorem dX10_costAbove_31 : decode cX10_costAbove 31 = .ok (.iload_n 1, 1) := by decide +kernel
theorem dX10_costAbove_32 : decode cX10_costAbove 32 = .ok (.invokevirtual 181, 3) := by decide +kernel
theorem dX10_costAbove_35 : decode cX10_costAbove 35 = .ok (.lload_n 2, 1) := by decide +kernel
theorem dX10_costAbove_36 : decode cX10_costAbove 36 = .ok (.lsub, 1) := by decide +kernel
theorem dX10_costAbove_37 : decode cX10_costAbove 37 = .ok (.lmul, 1) := by decide +kernel
theorem dX10_costAbove_38 : decode cX10_costAbove 38 = .ok (.lreturn, 1) := by decide +kernel
theorem dX10_safety_0 : decode cX10_safety 0 = .ok (.aload_n 0, 1) := by decide +kernel
theorem dX10_safety_1 : decode cX10_safety 1 = .ok (.getfield 54, 3) := by decide +kernel
theorem dX10_safety_4 : decode cX10_safety 4 = .ok (.aload_n 0, 1) := by decide +kernel
theorem dX10_safety_5 : decode cX10_safety 5 = .ok (.getfield 26, 3) := by decide +kernel
theorem dX10_safety_8 : decode cX10_safety 8 = .ok (.aload_n 0, 1) := by decide +kernel
theorem dX10_safety_9 : decode cX10_safety 9 = .ok (.getfield 12, 3) := by decide +kernel
theorem dX10_safety_12 : decode cX10_safety 12 = .ok (.getfield 192, 3) := by decide +kernel
theorem dX10_safety_15 : decode cX10_safety 15 = .ok (.iconst 1, 1) := by decide +kernel
theorem dX10_safety_16 : decode cX10_safety 16 = .ok (.isub, 1) := by decide +kernel
theorem dX10_safety_17 : decode cX10_safety 17 = .ok (.iload_n 1, 1) := by decide +kernel
theorem dX10_safety_18 : decode cX10_safety 18 = .ok (.aload_n 0, 1) := by decide +kernel
theorem dX10_safety_19 : decode cX10_safety 19 = .ok (.getfield 19, 3) := by decide +kernel
theorem dX10_safety_22 : decode cX10_safety 22 = .ok (.bipush 6, 2) := by decide +kernel
theorem dX10_safety_24 : decode cX10_safety 24 = .ok (.invokevirtual 138, 3) := by decide +kernel
theorem dX10_safety_27 : decode cX10_safety 27 = .ok (.invokevirtual 202, 3) := by decide +kernel
theorem dX10_safety_30 : decode cX10_safety 30 = .ok (.aload_n 0, 1) := by decide +kernel
theorem dX10_safety_31 : decode cX10_safety 31 = .ok (.getfield 54, 3) := by decide +kernel
theorem dX10_safety_34 : decode cX10_safety 34 = .ok (.iconst 0, 1) := by decide +kernel
theorem dX10_safety_35 : decode cX10_safety 35 = .ok (.invokevirtual 206, 3) := by decide +kernel
theorem dX10_safety_38 : decode cX10_safety 38 = .ok (.lreturn, 1) := by decide +kernel
theorem dX10_comeTo_0 : decode cX10_comeTo 0 = .ok (.iconst 0, 1) := by decide +kernel
theorem dX10_comeTo_1 : decode cX10_comeTo 1 = .ok (.istore_n 2, 1) := by decide +kernel
theorem dX10_comeTo_2 : decode cX10_comeTo 2 = .ok (.iload_n 1, 1) := by decide +kernel
theorem dX10_comeTo_3 : decode cX10_comeTo 3 = .ok (.aload_n 0, 1) := by decide +kernel
theorem dX10_comeTo_4 : decode cX10_comeTo 4 = .ok (.getfield 19, 3) := by decide +kernel
theorem dX10_comeTo_7 : decode cX10_comeTo 7 = .ok (.bipush 7, 2) := by decide +kernel
theorem dX10_comeTo_9 : decode cX10_comeTo 9 = .ok (.invokevirtual 138, 3) := by decide +kernel
theorem dX10_comeTo_12 : decode cX10_comeTo 12 = .ok (.imul, 1) := by decide +kernel
theorem dX10_comeTo_13 : decode cX10_comeTo 13 = .ok (.iconst 4, 1) := by decide +kernel
theorem dX10_comeTo_14 : decode cX10_comeTo 14 = .ok (.idiv, 1) := by decide +kernel
theorem dX10_comeTo_15 : decode cX10_comeTo 15 = .ok (.istore_n 3, 1) := by decide +kernel
theorem dX10_comeTo_16 : decode cX10_comeTo 16 = .ok (.iload_n 1, 1) := by decide +kernel
theorem dX10_comeTo_17 : decode cX10_comeTo 17 = .ok (.aload_n 0, 1) := by decide +kernel
theorem dX10_comeTo_18 : decode cX10_comeTo 18 = .ok (.getfield 19, 3) := by decide +kernel
theorem dX10_comeTo_21 : decode cX10_comeTo 21 = .ok (.bipush 8, 2) := by decide +kernel
theorem dX10_comeTo_23 : decode cX10_comeTo 23 = .ok (.invokevirtual 138, 3) := by decide +kernel
theorem dX10_comeTo_26 : decode cX10_comeTo 26 = .ok (.imul, 1) := by decide +kernel
theorem dX10_comeTo_27 : decode cX10_comeTo 27 = .ok (.bipush 8, 2) := by decide +kernel
theorem dX10_comeTo_29 : decode cX10_comeTo 29 = .ok (.idiv, 1) := by decide +kernel
theorem dX10_comeTo_30 : decode cX10_comeTo 30 = .ok (.istore 4, 2) := by decide +kernel
theorem dX10_comeTo_32 : decode cX10_comeTo 32 = .ok (.iconst 0, 1) := by decide +kernel
theorem dX10_comeTo_33 : decode cX10_comeTo 33 = .ok (.istore 5, 2) := by decide +kernel
theorem dX10_comeTo_35 : decode cX10_comeTo 35 = .ok (.iload 5, 2) := by decide +kernel
theorem dX10_comeTo_37 : decode cX10_comeTo 37 = .ok (.iconst 2, 1) := by decide +kernel
theorem dX10_comeTo_38 : decode cX10_comeTo 38 = .ok (.if_icmp .gt 103, 3) := by decide +kernel
theorem dX10_comeTo_41 : decode cX10_comeTo 41 = .ok (.aload_n 0, 1) := by decide +kernel
theorem dX10_comeTo_42 : decode cX10_comeTo 42 = .ok (.getfield 26, 3) := by decide +kernel
theorem dX10_comeTo_45 : decode cX10_comeTo 45 = .ok (.iload 5, 2) := by decide +kernel
theorem dX10_comeTo_47 : decode cX10_comeTo 47 = .ok (.invokevirtual 128, 3) := by decide +kernel
theorem dX10_comeTo_50 : decode cX10_comeTo 50 = .ok (.istore 6, 2) := by decide +kernel
theorem dX10_comeTo_52 : decode cX10_comeTo 52 = .ok (.iconst 0, 1) := by decide +kernel
theorem dX10_comeTo_53 : decode cX10_comeTo 53 = .ok (.aload_n 0, 1) := by decide +kernel
theorem dX10_comeTo_54 : decode cX10_comeTo 54 = .ok (.getfield 26, 3) := by decide +kernel
theorem dX10_comeTo_57 : decode cX10_comeTo 57 = .ok (.iload 5, 2) := by decide +kernel
theorem dX10_comeTo_59 : decode cX10_comeTo 59 = .ok (.invokevirtual 125, 3) := by decide +kernel
theorem dX10_comeTo_62 : decode cX10_comeTo 62 = .ok (.iload_n 3, 1) := by decide +kernel
theorem dX10_comeTo_63 : decode cX10_comeTo 63 = .ok (.isub, 1) := by decide +kernel
theorem dX10_comeTo_64 : decode cX10_comeTo 64 = .ok (.invokestatic 377, 3) := by decide +kernel
theorem dX10_comeTo_67 : decode cX10_comeTo 67 = .ok (.iload 4, 2) := by decide +kernel
theorem dX10_comeTo_69 : decode cX10_comeTo 69 = .ok (.iadd, 1) := by decide +kernel
theorem dX10_comeTo_70 : decode cX10_comeTo 70 = .ok (.istore 7, 2) := by decide +kernel
theorem dX10_comeTo_72 : decode cX10_comeTo 72 = .ok (.iload 7, 2) := by decide +kernel
theorem dX10_comeTo_74 : decode cX10_comeTo 74 = .ok (.bipush 16, 2) := by decide +kernel
theorem dX10_comeTo_76 : decode cX10_comeTo 76 = .ok (.iload 6, 2) := by decide +kernel
theorem dX10_comeTo_78 : decode cX10_comeTo 78 = .ok (.isub, 1) := by decide +kernel
theorem dX10_comeTo_79 : decode cX10_comeTo 79 = .ok (.invokestatic 222, 3) := by decide +kernel
theorem dX10_comeTo_82 : decode cX10_comeTo 82 = .ok (.istore 7, 2) := by decide +kernel
theorem dX10_comeTo_84 : decode cX10_comeTo 84 = .ok (.iload_n 2, 1) := by decide +kernel
theorem dX10_comeTo_85 : decode cX10_comeTo 85 = .ok (.ifCond .ne 31, 3) := by decide +kernel
theorem dX10_comeTo_88 : decode cX10_comeTo 88 = .ok (.iload 7, 2) := by decide +kernel
theorem dX10_comeTo_90 : decode cX10_comeTo 90 = .ok (.aload_n 0, 1) := by decide +kernel
theorem dX10_comeTo_91 : decode cX10_comeTo 91 = .ok (.getfield 30, 3) := by decide +kernel
theorem dX10_comeTo_94 : decode cX10_comeTo 94 = .ok (.iload 5, 2) := by decide +kernel
theorem dX10_comeTo_96 : decode cX10_comeTo 96 = .ok (.invokevirtual 125, 3) := by decide +kernel
theorem dX10_comeTo_99 : decode cX10_comeTo 99 = .ok (.if_icmp .ne 17, 3) := by decide +kernel
theorem dX10_comeTo_102 : decode cX10_comeTo 102 = .ok (.iload 6, 2) := by decide +kernel
theorem dX10_comeTo_104 : decode cX10_comeTo 104 = .ok (.aload_n 0, 1) := by decide +kernel
theorem dX10_comeTo_105 : decode cX10_comeTo 105 = .ok (.getfield 30, 3) := by decide +kernel
theorem dX10_comeTo_108 : decode cX10_comeTo 108 = .ok (.iload 5, 2) := by decide +kernel
theorem dX10_comeTo_110 : decode cX10_comeTo 110 = .ok (.invokevirtual 128, 3) := by decide +kernel
theorem dX10_comeTo_113 : decode cX10_comeTo 113 = .ok (.if_icmp .eq 7, 3) := by decide +kernel
theorem dX10_comeTo_116 : decode cX10_comeTo 116 = .ok (.iconst 1, 1) := by decide +kernel
theorem dX10_comeTo_117 : decode cX10_comeTo 117 = .ok (.goto 4, 3) := by decide +kernel
theorem dX10_comeTo_120 : decode cX10_comeTo 120 = .ok (.iconst 0, 1) := by decide +kernel
theorem dX10_comeTo_121 : decode cX10_comeTo 121 = .ok (.istore_n 2, 1) := by decide +kernel
theorem dX10_comeTo_122 : decode cX10_comeTo 122 = .ok (.aload_n 0, 1) := by decide +kernel
theorem dX10_comeTo_123 : decode cX10_comeTo 123 = .ok (.getfield 30, 3) := by decide +kernel
theorem dX10_comeTo_126 : decode cX10_comeTo 126 = .ok (.iload 5, 2) := by decide +kernel
theorem dX10_comeTo_128 : decode cX10_comeTo 128 = .ok (.iload 7, 2) := by decide +kernel
theorem dX10_comeTo_130 : decode cX10_comeTo 130 = .ok (.iload 6, 2) := by decide +kernel
theorem dX10_comeTo_132 : decode cX10_comeTo 132 = .ok (.invokevirtual 131, 3) := by decide +kernel
theorem dX10_comeTo_135 : decode cX10_comeTo 135 = .ok (.iinc 5 1, 3) := by decide +kernel
theorem dX10_comeTo_138 : decode cX10_comeTo 138 = .ok (.goto (-103), 3) := by decide +kernel
theorem dX10_comeTo_141 : decode cX10_comeTo 141 = .ok (.iload_n 2, 1) := by decide +kernel
theorem dX10_comeTo_142 : decode cX10_comeTo 142 = .ok (.ireturn, 1) := by decide +kernel
theorem dX10_trueLater_0 : decode cX10_trueLater 0 = .ok (.aload_n 0, 1) := by decide +kernel
theorem dX10_trueLater_1 : decode cX10_trueLater 1 = .ok (.getfield 54, 3) := by decide +kernel
theorem dX10_trueLater_4 : decode cX10_trueLater 4 = .ok (.aload_n 0, 1) := by decide +kernel
theorem dX10_trueLater_5 : decode cX10_trueLater 5 = .ok (.getfield 30, 3) := by decide +kernel
theorem dX10_trueLater_8 : decode cX10_trueLater 8 = .ok (.aload_n 0, 1) := by decide +kernel
theorem dX10_trueLater_9 : decode cX10_trueLater 9 = .ok (.getfield 12, 3) := by decide +kernel
theorem dX10_trueLater_12 : decode cX10_trueLater 12 = .ok (.getfield 192, 3) := by decide +kernel
theorem dX10_trueLater_15 : decode cX10_trueLater 15 = .ok (.iconst 1, 1) := by decide +kernel
theorem dX10_trueLater_16 : decode cX10_trueLater 16 = .ok (.isub, 1) := by decide +kernel
theorem dX10_trueLater_17 : decode cX10_trueLater 17 = .ok (.iconst 0, 1) := by decide +kernel
theorem dX10_trueLater_18 : decode cX10_trueLater 18 = .ok (.iconst 0, 1) := by decide +kernel
theorem dX10_trueLater_19 : decode cX10_trueLater 19 = .ok (.invokevirtual 202, 3) := by decide +kernel
theorem dX10_trueLater_22 : decode cX10_trueLater 22 = .ok (.aload_n 0, 1) := by decide +kernel
theorem dX10_trueLater_23 : decode cX10_trueLater 23 = .ok (.getfield 54, 3) := by decide +kernel
theorem dX10_trueLater_26 : decode cX10_trueLater 26 = .ok (.iconst 0, 1) := by decide +kernel
theorem dX10_trueLater_27 : decode cX10_trueLater 27 = .ok (.invokevirtual 206, 3) := by decide +kernel
theorem dX10_trueLater_30 : decode cX10_trueLater 30 = .ok (.lreturn, 1) := by decide +kernel
theorem dX10_slipOfNight_0 : decode cX10_slipOfNight 0 = .ok (.iconst 0, 1) := by decide +kernel
theorem dX10_slipOfNight_1 : decode cX10_slipOfNight 1 = .ok (.istore_n 1, 1) := by decide +kernel
theorem dX10_slipOfNight_2 : decode cX10_slipOfNight 2 = .ok (.iconst 0, 1) := by decide +kernel
theorem dX10_slipOfNight_3 : decode cX10_slipOfNight 3 = .ok (.istore_n 2, 1) := by decide +kernel
theorem dX10_slipOfNight_4 : decode cX10_slipOfNight 4 = .ok (.iload_n 2, 1) := by decide +kernel
theorem dX10_slipOfNight_5 : decode cX10_slipOfNight 5 = .ok (.aload_n 0, 1) := by decide +kernel
theorem dX10_slipOfNight_6 : decode cX10_slipOfNight 6 = .ok (.getfield 12, 3) := by decide +kernel
theorem dX10_slipOfNight_9 : decode cX10_slipOfNight 9 = .ok (.getfield 192, 3) := by decide +kernel
theorem dX10_slipOfNight_12 : decode cX10_slipOfNight 12 = .ok (.if_icmp .ge 80, 3) := by decide +kernel
theorem dX10_slipOfNight_15 : decode cX10_slipOfNight 15 = .ok (.aload_n 0, 1) := by decide +kernel
theorem dX10_slipOfNight_16 : decode cX10_slipOfNight 16 = .ok (.getfield 12, 3) := by decide +kernel
theorem dX10_slipOfNight_19 : decode cX10_slipOfNight 19 = .ok (.iload_n 2, 1) := by decide +kernel
theorem dX10_slipOfNight_20 : decode cX10_slipOfNight 20 = .ok (.invokevirtual 265, 3) := by decide +kernel
theorem dX10_slipOfNight_23 : decode cX10_slipOfNight 23 = .ok (.ifCond .eq 63, 3) := by decide +kernel
theorem dX10_slipOfNight_26 : decode cX10_slipOfNight 26 = .ok (.aload_n 0, 1) := by decide +kernel
theorem dX10_slipOfNight_27 : decode cX10_slipOfNight 27 = .ok (.getfield 12, 3) := by decide +kernel
theorem dX10_slipOfNight_30 : decode cX10_slipOfNight 30 = .ok (.iload_n 2, 1) := by decide +kernel
theorem dX10_slipOfNight_31 : decode cX10_slipOfNight 31 = .ok (.invokevirtual 115, 3) := by decide +kernel
theorem dX10_slipOfNight_34 : decode cX10_slipOfNight 34 = .ok (.istore_n 3, 1) := by decide +kernel
theorem dX10_slipOfNight_35 : decode cX10_slipOfNight 35 = .ok (.aload_n 0, 1) := by decide +kernel
theorem dX10_slipOfNight_36 : decode cX10_slipOfNight 36 = .ok (.getfield 26, 3) := by decide +kernel
theorem dX10_slipOfNight_39 : decode cX10_slipOfNight 39 = .ok (.iload_n 3, 1) := by decide +kernel
theorem dX10_slipOfNight_40 : decode cX10_slipOfNight 40 = .ok (.invokevirtual 125, 3) := by decide +kernel
theorem dX10_slipOfNight_43 : decode cX10_slipOfNight 43 = .ok (.istore 4, 2) := by decide +kernel
theorem dX10_slipOfNight_45 : decode cX10_slipOfNight 45 = .ok (.aload_n 0, 1) := by decide +kernel
theorem dX10_slipOfNight_46 : decode cX10_slipOfNight 46 = .ok (.getfield 75, 3) := by decide +kernel
theorem dX10_slipOfNight_49 : decode cX10_slipOfNight 49 = .ok (.invokevirtual 380, 3) := by decide +kernel
theorem dX10_slipOfNight_52 : decode cX10_slipOfNight 52 = .ok (.istore 5, 2) := by decide +kernel
theorem dX10_slipOfNight_54 : decode cX10_slipOfNight 54 = .ok (.iload 5, 2) := by decide +kernel
theorem dX10_slipOfNight_56 : decode cX10_slipOfNight 56 = .ok (.iload 4, 2) := by decide +kernel
theorem dX10_slipOfNight_58 : decode cX10_slipOfNight 58 = .ok (.if_icmp .ge 9, 3) := by decide +kernel
theorem dX10_slipOfNight_61 : decode cX10_slipOfNight 61 = .ok (.iinc 1 (-1), 3) := by decide +kernel
theorem dX10_slipOfNight_64 : decode cX10_slipOfNight 64 = .ok (.goto 22, 3) := by decide +kernel
theorem dX10_slipOfNight_67 : decode cX10_slipOfNight 67 = .ok (.iload 5, 2) := by decide +kernel
theorem dX10_slipOfNight_69 : decode cX10_slipOfNight 69 = .ok (.iload 4, 2) := by decide +kernel
theorem dX10_slipOfNight_71 : decode cX10_slipOfNight 71 = .ok (.aload_n 0, 1) := by decide +kernel
theorem dX10_slipOfNight_72 : decode cX10_slipOfNight 72 = .ok (.getfield 26, 3) := by decide +kernel
theorem dX10_slipOfNight_75 : decode cX10_slipOfNight 75 = .ok (.iload_n 3, 1) := by decide +kernel
theorem dX10_slipOfNight_76 : decode cX10_slipOfNight 76 = .ok (.invokevirtual 128, 3) := by decide +kernel
theorem dX10_slipOfNight_79 : decode cX10_slipOfNight 79 = .ok (.iadd, 1) := by decide +kernel
theorem dX10_slipOfNight_80 : decode cX10_slipOfNight 80 = .ok (.if_icmp .ge 6, 3) := by decide +kernel
theorem dX10_slipOfNight_83 : decode cX10_slipOfNight 83 = .ok (.iinc 1 1, 3) := by decide +kernel
theorem dX10_slipOfNight_86 : decode cX10_slipOfNight 86 = .ok (.iinc 2 1, 3) := by decide +kernel
theorem dX10_slipOfNight_89 : decode cX10_slipOfNight 89 = .ok (.goto (-85), 3) := by decide +kernel
theorem dX10_slipOfNight_92 : decode cX10_slipOfNight 92 = .ok (.iload_n 1, 1) := by decide +kernel
theorem dX10_slipOfNight_93 : decode cX10_slipOfNight 93 = .ok (.ireturn, 1) := by decide +kernel
theorem dX10_mixed_0 : decode cX10_mixed 0 = .ok (.ldc2_w 383, 3) := by decide +kernel
theorem dX10_mixed_3 : decode cX10_mixed 3 = .ok (.lload_n 0, 1) := by decide +kernel
theorem dX10_mixed_4 : decode cX10_mixed 4 = .ok (.lmul, 1) := by decide +kernel
theorem dX10_mixed_5 : decode cX10_mixed 5 = .ok (.lload_n 2, 1) := by decide +kernel
theorem dX10_mixed_6 : decode cX10_mixed 6 = .ok (.ladd, 1) := by decide +kernel
theorem dX10_mixed_7 : decode cX10_mixed 7 = .ok (.lreturn, 1) := by decide +kernel
theorem dX10_told_0 : decode cX10_told 0 = .ok (.lload_n 0, 1) := by decide +kernel
theorem dX10_told_1 : decode cX10_told 1 = .ok (.lload_n 2, 1) := by decide +kernel
theorem dX10_told_2 : decode cX10_told 2 = .ok (.invokestatic 385, 3) := by decide +kernel
theorem dX10_told_5 : decode cX10_told 5 = .ok (.lstore 5, 2) := by decide +kernel
theorem dX10_told_7 : decode cX10_told 7 = .ok (.iload 4, 2) := by decide +kernel
theorem dX10_told_9 : decode cX10_told 9 = .ok (.ifCond .ne 7, 3) := by decide +kernel
theorem dX10_told_12 : decode cX10_told 12 = .ok (.lload_n 0, 1) := by decide +kernel
theorem dX10_told_13 : decode cX10_told 13 = .ok (.goto 4, 3) := by decide +kernel
theorem dX10_told_16 : decode cX10_told 16 = .ok (.lload_n 2, 1) := by decide +kernel
theorem dX10_told_17 : decode cX10_told 17 = .ok (.lstore 7, 2) := by decide +kernel
theorem dX10_told_19 : decode cX10_told 19 = .ok (.lload 5, 2) := by decide +kernel
theorem dX10_told_21 : decode cX10_told 21 = .ok (.lconst 0, 1) := by decide +kernel
theorem dX10_told_22 : decode cX10_told 22 = .ok (.lcmp, 1) := by decide +kernel
theorem dX10_told_23 : decode cX10_told 23 = .ok (.ifCond .ne 8, 3) := by decide +kernel
theorem dX10_told_26 : decode cX10_told 26 = .ok (.lload 7, 2) := by decide +kernel
theorem dX10_told_28 : decode cX10_told 28 = .ok (.goto 8, 3) := by decide +kernel
theorem dX10_told_31 : decode cX10_told 31 = .ok (.lload 7, 2) := by decide +kernel
theorem dX10_told_33 : decode cX10_told 33 = .ok (.lload 5, 2) := by decide +kernel
theorem dX10_told_35 : decode cX10_told 35 = .ok (.ldiv, 1) := by decide +kernel
theorem dX10_told_36 : decode cX10_told 36 = .ok (.lreturn, 1) := by decide +kernel
theorem dX10_greatestCommon_0 : decode cX10_greatestCommon 0 = .ok (.lload_n 0, 1) := by decide +kernel
theorem dX10_greatestCommon_1 : decode cX10_greatestCommon 1 = .ok (.lstore 4, 2) := by decide +kernel
theorem dX10_greatestCommon_3 : decode cX10_greatestCommon 3 = .ok (.lload_n 2, 1) := by decide +kernel
theorem dX10_greatestCommon_4 : decode cX10_greatestCommon 4 = .ok (.lstore 6, 2) := by decide +kernel
theorem dX10_greatestCommon_6 : decode cX10_greatestCommon 6 = .ok (.iconst 0, 1) := by decide +kernel
theorem dX10_greatestCommon_7 : decode cX10_greatestCommon 7 = .ok (.istore 8, 2) := by decide +kernel
theorem dX10_greatestCommon_9 : decode cX10_greatestCommon 9 = .ok (.iload 8, 2) := by decide +kernel
theorem dX10_greatestCommon_11 : decode cX10_greatestCommon 11 = .ok (.sipush 400, 3) := by decide +kernel
theorem dX10_greatestCommon_14 : decode cX10_greatestCommon 14 = .ok (.if_icmp .ge 31, 3) := by decide +kernel
theorem dX10_greatestCommon_17 : decode cX10_greatestCommon 17 = .ok (.lload 6, 2) := by decide +kernel
theorem dX10_greatestCommon_19 : decode cX10_greatestCommon 19 = .ok (.lconst 0, 1) := by decide +kernel
theorem dX10_greatestCommon_20 : decode cX10_greatestCommon 20 = .ok (.lcmp, 1) := by decide +kernel
theorem dX10_greatestCommon_21 : decode cX10_greatestCommon 21 = .ok (.ifCond .eq 24, 3) := by decide +kernel
theorem dX10_greatestCommon_24 : decode cX10_greatestCommon 24 = .ok (.lload 4, 2) := by decide +kernel
theorem dX10_greatestCommon_26 : decode cX10_greatestCommon 26 = .ok (.lload 6, 2) := by decide +kernel
theorem dX10_greatestCommon_28 : decode cX10_greatestCommon 28 = .ok (.lrem, 1) := by decide +kernel
theorem dX10_greatestCommon_29 : decode cX10_greatestCommon 29 = .ok (.lstore 9, 2) := by decide +kernel
theorem dX10_greatestCommon_31 : decode cX10_greatestCommon 31 = .ok (.lload 6, 2) := by decide +kernel
theorem dX10_greatestCommon_33 : decode cX10_greatestCommon 33 = .ok (.lstore 4, 2) := by decide +kernel
theorem dX10_greatestCommon_35 : decode cX10_greatestCommon 35 = .ok (.lload 9, 2) := by decide +kernel
theorem dX10_greatestCommon_37 : decode cX10_greatestCommon 37 = .ok (.lstore 6, 2) := by decide +kernel
theorem dX10_greatestCommon_39 : decode cX10_greatestCommon 39 = .ok (.iinc 8 1, 3) := by decide +kernel
theorem dX10_greatestCommon_42 : decode cX10_greatestCommon 42 = .ok (.goto (-33), 3) := by decide +kernel
theorem dX10_greatestCommon_45 : decode cX10_greatestCommon 45 = .ok (.lload 4, 2) := by decide +kernel
theorem dX10_greatestCommon_47 : decode cX10_greatestCommon 47 = .ok (.lreturn, 1) := by decide +kernel
theorem dX10_isLess_0 : decode cX10_isLess 0 = .ok (.lload_n 0, 1) := by decide +kernel
theorem dX10_isLess_1 : decode cX10_isLess 1 = .ok (.lstore 8, 2) := by decide +kernel
theorem dX10_isLess_3 : decode cX10_isLess 3 = .ok (.lload_n 2, 1) := by decide +kernel
theorem dX10_isLess_4 : decode cX10_isLess 4 = .ok (.lstore 10, 2) := by decide +kernel
theorem dX10_isLess_6 : decode cX10_isLess 6 = .ok (.lload 4, 2) := by decide +kernel
theorem dX10_isLess_8 : decode cX10_isLess 8 = .ok (.lstore 12, 2) := by decide +kernel
theorem dX10_isLess_10 : decode cX10_isLess 10 = .ok (.lload 6, 2) := by decide +kernel
theorem dX10_isLess_12 : decode cX10_isLess 12 = .ok (.lstore 14, 2) := by decide +kernel
theorem dX10_isLess_14 : decode cX10_isLess 14 = .ok (.iconst 0, 1) := by decide +kernel
theorem dX10_isLess_15 : decode cX10_isLess 15 = .ok (.istore 16, 2) := by decide +kernel
theorem dX10_isLess_17 : decode cX10_isLess 17 = .ok (.iload 16, 2) := by decide +kernel
theorem dX10_isLess_19 : decode cX10_isLess 19 = .ok (.sipush 400, 3) := by decide +kernel
theorem dX10_isLess_22 : decode cX10_isLess 22 = .ok (.if_icmp .ge 116, 3) := by decide +kernel
theorem dX10_isLess_25 : decode cX10_isLess 25 = .ok (.lload 10, 2) := by decide +kernel
theorem dX10_isLess_27 : decode cX10_isLess 27 = .ok (.lconst 0, 1) := by decide +kernel
theorem dX10_isLess_28 : decode cX10_isLess 28 = .ok (.lcmp, 1) := by decide +kernel
theorem dX10_isLess_29 : decode cX10_isLess 29 = .ok (.ifCond .eq 109, 3) := by decide +kernel
theorem dX10_isLess_32 : decode cX10_isLess 32 = .ok (.lload 14, 2) := by decide +kernel
theorem dX10_isLess_34 : decode cX10_isLess 34 = .ok (.lconst 0, 1) := by decide +kernel
theorem dX10_isLess_35 : decode cX10_isLess 35 = .ok (.lcmp, 1) := by decide +kernel
theorem dX10_isLess_36 : decode cX10_isLess 36 = .ok (.ifCond .eq 102, 3) := by decide +kernel
theorem dX10_isLess_39 : decode cX10_isLess 39 = .ok (.lload 8, 2) := by decide +kernel
theorem dX10_isLess_41 : decode cX10_isLess 41 = .ok (.lload 10, 2) := by decide +kernel
theorem dX10_isLess_43 : decode cX10_isLess 43 = .ok (.ldiv, 1) := by decide +kernel
theorem dX10_isLess_44 : decode cX10_isLess 44 = .ok (.lstore 17, 2) := by decide +kernel
theorem dX10_isLess_46 : decode cX10_isLess 46 = .ok (.lload 12, 2) := by decide +kernel
theorem dX10_isLess_48 : decode cX10_isLess 48 = .ok (.lload 14, 2) := by decide +kernel
theorem dX10_isLess_50 : decode cX10_isLess 50 = .ok (.ldiv, 1) := by decide +kernel
theorem dX10_isLess_51 : decode cX10_isLess 51 = .ok (.lstore 19, 2) := by decide +kernel
theorem dX10_isLess_53 : decode cX10_isLess 53 = .ok (.lload 17, 2) := by decide +kernel
theorem dX10_isLess_55 : decode cX10_isLess 55 = .ok (.lload 19, 2) := by decide +kernel
theorem dX10_isLess_57 : decode cX10_isLess 57 = .ok (.lcmp, 1) := by decide +kernel
theorem dX10_isLess_58 : decode cX10_isLess 58 = .ok (.ifCond .eq 17, 3) := by decide +kernel
theorem dX10_isLess_61 : decode cX10_isLess 61 = .ok (.lload 17, 2) := by decide +kernel
theorem dX10_isLess_63 : decode cX10_isLess 63 = .ok (.lload 19, 2) := by decide +kernel
theorem dX10_isLess_65 : decode cX10_isLess 65 = .ok (.lcmp, 1) := by decide +kernel
theorem dX10_isLess_66 : decode cX10_isLess 66 = .ok (.ifCond .ge 7, 3) := by decide +kernel
theorem dX10_isLess_69 : decode cX10_isLess 69 = .ok (.iconst 1, 1) := by decide +kernel
theorem dX10_isLess_70 : decode cX10_isLess 70 = .ok (.goto 4, 3) := by decide +kernel
theorem dX10_isLess_73 : decode cX10_isLess 73 = .ok (.iconst 0, 1) := by decide +kernel
theorem dX10_isLess_74 : decode cX10_isLess 74 = .ok (.ireturn, 1) := by decide +kernel
theorem dX10_isLess_75 : decode cX10_isLess 75 = .ok (.lload 8, 2) := by decide +kernel
theorem dX10_isLess_77 : decode cX10_isLess 77 = .ok (.lload 10, 2) := by decide +kernel
theorem dX10_isLess_79 : decode cX10_isLess 79 = .ok (.lrem, 1) := by decide +kernel
theorem dX10_isLess_80 : decode cX10_isLess 80 = .ok (.lstore 21, 2) := by decide +kernel
theorem dX10_isLess_82 : decode cX10_isLess 82 = .ok (.lload 12, 2) := by decide +kernel
theorem dX10_isLess_84 : decode cX10_isLess 84 = .ok (.lload 14, 2) := by decide +kernel
theorem dX10_isLess_86 : decode cX10_isLess 86 = .ok (.lrem, 1) := by decide +kernel
theorem dX10_isLess_87 : decode cX10_isLess 87 = .ok (.lstore 23, 2) := by decide +kernel
theorem dX10_isLess_89 : decode cX10_isLess 89 = .ok (.lload 21, 2) := by decide +kernel
theorem dX10_isLess_91 : decode cX10_isLess 91 = .ok (.lconst 0, 1) := by decide +kernel
theorem dX10_isLess_92 : decode cX10_isLess 92 = .ok (.lcmp, 1) := by decide +kernel
theorem dX10_isLess_93 : decode cX10_isLess 93 = .ok (.ifCond .eq 10, 3) := by decide +kernel
theorem dX10_isLess_96 : decode cX10_isLess 96 = .ok (.lload 23, 2) := by decide +kernel
theorem dX10_isLess_98 : decode cX10_isLess 98 = .ok (.lconst 0, 1) := by decide +kernel
theorem dX10_isLess_99 : decode cX10_isLess 99 = .ok (.lcmp, 1) := by decide +kernel
theorem dX10_isLess_100 : decode cX10_isLess 100 = .ok (.ifCond .ne 16, 3) := by decide +kernel
theorem dX10_isLess_103 : decode cX10_isLess 103 = .ok (.lload 23, 2) := by decide +kernel
theorem dX10_isLess_105 : decode cX10_isLess 105 = .ok (.lconst 0, 1) := by decide +kernel
theorem dX10_isLess_106 : decode cX10_isLess 106 = .ok (.lcmp, 1) := by decide +kernel
theorem dX10_isLess_107 : decode cX10_isLess 107 = .ok (.ifCond .eq 7, 3) := by decide +kernel
theorem dX10_isLess_110 : decode cX10_isLess 110 = .ok (.iconst 1, 1) := by decide +kernel
theorem dX10_isLess_111 : decode cX10_isLess 111 = .ok (.goto 4, 3) := by decide +kernel
theorem dX10_isLess_114 : decode cX10_isLess 114 = .ok (.iconst 0, 1) := by decide +kernel
theorem dX10_isLess_115 : decode cX10_isLess 115 = .ok (.ireturn, 1) := by decide +kernel
theorem dX10_isLess_116 : decode cX10_isLess 116 = .ok (.lload 14, 2) := by decide +kernel
theorem dX10_isLess_118 : decode cX10_isLess 118 = .ok (.lstore 8, 2) := by decide +kernel
theorem dX10_isLess_120 : decode cX10_isLess 120 = .ok (.lload 10, 2) := by decide +kernel
theorem dX10_isLess_122 : decode cX10_isLess 122 = .ok (.lstore 12, 2) := by decide +kernel
theorem dX10_isLess_124 : decode cX10_isLess 124 = .ok (.lload 23, 2) := by decide +kernel
theorem dX10_isLess_126 : decode cX10_isLess 126 = .ok (.lstore 10, 2) := by decide +kernel
theorem dX10_isLess_128 : decode cX10_isLess 128 = .ok (.lload 21, 2) := by decide +kernel
theorem dX10_isLess_130 : decode cX10_isLess 130 = .ok (.lstore 14, 2) := by decide +kernel
theorem dX10_isLess_132 : decode cX10_isLess 132 = .ok (.iinc 16 1, 3) := by decide +kernel
theorem dX10_isLess_135 : decode cX10_isLess 135 = .ok (.goto (-118), 3) := by decide +kernel
theorem dX10_isLess_138 : decode cX10_isLess 138 = .ok (.iconst 0, 1) := by decide +kernel
theorem dX10_isLess_139 : decode cX10_isLess 139 = .ok (.ireturn, 1) := by decide +kernel
theorem dX10_itemAt_0 : decode cX10_itemAt 0 = .ok (.iload_n 1, 1) := by decide +kernel
theorem dX10_itemAt_1 : decode cX10_itemAt 1 = .ok (.ifCond .lt 15, 3) := by decide +kernel
theorem dX10_itemAt_4 : decode cX10_itemAt 4 = .ok (.iload_n 1, 1) := by decide +kernel
theorem dX10_itemAt_5 : decode cX10_itemAt 5 = .ok (.aload_n 0, 1) := by decide +kernel
theorem dX10_itemAt_6 : decode cX10_itemAt 6 = .ok (.arraylength, 1) := by decide +kernel
theorem dX10_itemAt_7 : decode cX10_itemAt 7 = .ok (.if_icmp .ge 9, 3) := by decide +kernel
theorem dX10_itemAt_10 : decode cX10_itemAt 10 = .ok (.aload_n 0, 1) := by decide +kernel
theorem dX10_itemAt_11 : decode cX10_itemAt 11 = .ok (.iload_n 1, 1) := by decide +kernel
theorem dX10_itemAt_12 : decode cX10_itemAt 12 = .ok (.iaload, 1) := by decide +kernel
theorem dX10_itemAt_13 : decode cX10_itemAt 13 = .ok (.goto 4, 3) := by decide +kernel
theorem dX10_itemAt_16 : decode cX10_itemAt 16 = .ok (.iconst 0, 1) := by decide +kernel
theorem dX10_itemAt_17 : decode cX10_itemAt 17 = .ok (.ireturn, 1) := by decide +kernel
theorem dX10_longAt_0 : decode cX10_longAt 0 = .ok (.iload_n 1, 1) := by decide +kernel
theorem dX10_longAt_1 : decode cX10_longAt 1 = .ok (.ifCond .lt 15, 3) := by decide +kernel
theorem dX10_longAt_4 : decode cX10_longAt 4 = .ok (.iload_n 1, 1) := by decide +kernel
theorem dX10_longAt_5 : decode cX10_longAt 5 = .ok (.aload_n 0, 1) := by decide +kernel
theorem dX10_longAt_6 : decode cX10_longAt 6 = .ok (.arraylength, 1) := by decide +kernel
theorem dX10_longAt_7 : decode cX10_longAt 7 = .ok (.if_icmp .ge 9, 3) := by decide +kernel
theorem dX10_longAt_10 : decode cX10_longAt 10 = .ok (.aload_n 0, 1) := by decide +kernel
theorem dX10_longAt_11 : decode cX10_longAt 11 = .ok (.iload_n 1, 1) := by decide +kernel
theorem dX10_longAt_12 : decode cX10_longAt 12 = .ok (.laload, 1) := by decide +kernel
theorem dX10_longAt_13 : decode cX10_longAt 13 = .ok (.goto 4, 3) := by decide +kernel
theorem dX10_longAt_16 : decode cX10_longAt 16 = .ok (.lconst 0, 1) := by decide +kernel
theorem dX10_longAt_17 : decode cX10_longAt 17 = .ok (.lreturn, 1) := by decide +kernel
theorem dX10_addTo_0 : decode cX10_addTo 0 = .ok (.iload_n 1, 1) := by decide +kernel
theorem dX10_addTo_1 : decode cX10_addTo 1 = .ok (.ifCond .lt 16, 3) := by decide +kernel
theorem dX10_addTo_4 : decode cX10_addTo 4 = .ok (.iload_n 1, 1) := by decide +kernel
theorem dX10_addTo_5 : decode cX10_addTo 5 = .ok (.aload_n 0, 1) := by decide +kernel
theorem dX10_addTo_6 : decode cX10_addTo 6 = .ok (.arraylength, 1) := by decide +kernel
theorem dX10_addTo_7 : decode cX10_addTo 7 = .ok (.if_icmp .ge 10, 3) := by decide +kernel
theorem dX10_addTo_10 : decode cX10_addTo 10 = .ok (.aload_n 0, 1) := by decide +kernel
theorem dX10_addTo_11 : decode cX10_addTo 11 = .ok (.iload_n 1, 1) := by decide +kernel
theorem dX10_addTo_12 : decode cX10_addTo 12 = .ok (.dup2, 1) := by decide +kernel
theorem dX10_addTo_13 : decode cX10_addTo 13 = .ok (.laload, 1) := by decide +kernel
theorem dX10_addTo_14 : decode cX10_addTo 14 = .ok (.lload_n 2, 1) := by decide +kernel
theorem dX10_addTo_15 : decode cX10_addTo 15 = .ok (.ladd, 1) := by decide +kernel
theorem dX10_addTo_16 : decode cX10_addTo 16 = .ok (.lastore, 1) := by decide +kernel
theorem dX10_addTo_17 : decode cX10_addTo 17 = .ok (.return_, 1) := by decide +kernel
theorem dJ6_bitCount_0f7a4_0 : decode cJ6_bitCount_0f7a4 0 = .ok (.iload_n 0, 1) := by decide +kernel
theorem dJ6_bitCount_0f7a4_1 : decode cJ6_bitCount_0f7a4 1 = .ok (.iload_n 0, 1) := by decide +kernel
theorem dJ6_bitCount_0f7a4_2 : decode cJ6_bitCount_0f7a4 2 = .ok (.iconst 1, 1) := by decide +kernel
theorem dJ6_bitCount_0f7a4_3 : decode cJ6_bitCount_0f7a4 3 = .ok (.iushr, 1) := by decide +kernel
theorem dJ6_bitCount_0f7a4_4 : decode cJ6_bitCount_0f7a4 4 = .ok (.ldc_w 265, 3) := by decide +kernel
theorem dJ6_bitCount_0f7a4_7 : decode cJ6_bitCount_0f7a4 7 = .ok (.iand, 1) := by decide +kernel
theorem dJ6_bitCount_0f7a4_8 : decode cJ6_bitCount_0f7a4 8 = .ok (.isub, 1) := by decide +kernel
theorem dJ6_bitCount_0f7a4_9 : decode cJ6_bitCount_0f7a4 9 = .ok (.istore_n 0, 1) := by decide +kernel
theorem dJ6_bitCount_0f7a4_10 : decode cJ6_bitCount_0f7a4 10 = .ok (.iload_n 0, 1) := by decide +kernel
theorem dJ6_bitCount_0f7a4_11 : decode cJ6_bitCount_0f7a4 11 = .ok (.ldc_w 266, 3) := by decide +kernel
theorem dJ6_bitCount_0f7a4_14 : decode cJ6_bitCount_0f7a4 14 = .ok (.iand, 1) := by decide +kernel
theorem dJ6_bitCount_0f7a4_15 : decode cJ6_bitCount_0f7a4 15 = .ok (.iload_n 0, 1) := by decide +kernel
theorem dJ6_bitCount_0f7a4_16 : decode cJ6_bitCount_0f7a4 16 = .ok (.iconst 2, 1) := by decide +kernel
theorem dJ6_bitCount_0f7a4_17 : decode cJ6_bitCount_0f7a4 17 = .ok (.iushr, 1) := by decide +kernel
theorem dJ6_bitCount_0f7a4_18 : decode cJ6_bitCount_0f7a4 18 = .ok (.ldc_w 266, 3) := by decide +kernel
theorem dJ6_bitCount_0f7a4_21 : decode cJ6_bitCount_0f7a4 21 = .ok (.iand, 1) := by decide +kernel
theorem dJ6_bitCount_0f7a4_22 : decode cJ6_bitCount_0f7a4 22 = .ok (.iadd, 1) := by decide +kernel
theorem dJ6_bitCount_0f7a4_23 : decode cJ6_bitCount_0f7a4 23 = .ok (.istore_n 0, 1) := by decide +kernel
theorem dJ6_bitCount_0f7a4_24 : decode cJ6_bitCount_0f7a4 24 = .ok (.iload_n 0, 1) := by decide +kernel
theorem dJ6_bitCount_0f7a4_25 : decode cJ6_bitCount_0f7a4 25 = .ok (.iload_n 0, 1) := by decide +kernel
theorem dJ6_bitCount_0f7a4_26 : decode cJ6_bitCount_0f7a4 26 = .ok (.iconst 4, 1) := by decide +kernel
theorem dJ6_bitCount_0f7a4_27 : decode cJ6_bitCount_0f7a4 27 = .ok (.iushr, 1) := by decide +kernel
theorem dJ6_bitCount_0f7a4_28 : decode cJ6_bitCount_0f7a4 28 = .ok (.iadd, 1) := by decide +kernel
theorem dJ6_bitCount_0f7a4_29 : decode cJ6_bitCount_0f7a4 29 = .ok (.ldc_w 267, 3) := by decide +kernel
theorem dJ6_bitCount_0f7a4_32 : decode cJ6_bitCount_0f7a4 32 = .ok (.iand, 1) := by decide +kernel
theorem dJ6_bitCount_0f7a4_33 : decode cJ6_bitCount_0f7a4 33 = .ok (.istore_n 0, 1) := by decide +kernel
theorem dJ6_bitCount_0f7a4_34 : decode cJ6_bitCount_0f7a4 34 = .ok (.iload_n 0, 1) := by decide +kernel
theorem dJ6_bitCount_0f7a4_35 : decode cJ6_bitCount_0f7a4 35 = .ok (.iload_n 0, 1) := by decide +kernel
theorem dJ6_bitCount_0f7a4_36 : decode cJ6_bitCount_0f7a4 36 = .ok (.bipush 8, 2) := by decide +kernel
theorem dJ6_bitCount_0f7a4_38 : decode cJ6_bitCount_0f7a4 38 = .ok (.iushr, 1) := by decide +kernel
theorem dJ6_bitCount_0f7a4_39 : decode cJ6_bitCount_0f7a4 39 = .ok (.iadd, 1) := by decide +kernel
theorem dJ6_bitCount_0f7a4_40 : decode cJ6_bitCount_0f7a4 40 = .ok (.istore_n 0, 1) := by decide +kernel
theorem dJ6_bitCount_0f7a4_41 : decode cJ6_bitCount_0f7a4 41 = .ok (.iload_n 0, 1) := by decide +kernel
theorem dJ6_bitCount_0f7a4_42 : decode cJ6_bitCount_0f7a4 42 = .ok (.iload_n 0, 1) := by decide +kernel
theorem dJ6_bitCount_0f7a4_43 : decode cJ6_bitCount_0f7a4 43 = .ok (.bipush 16, 2) := by decide +kernel
theorem dJ6_bitCount_0f7a4_45 : decode cJ6_bitCount_0f7a4 45 = .ok (.iushr, 1) := by decide +kernel
theorem dJ6_bitCount_0f7a4_46 : decode cJ6_bitCount_0f7a4 46 = .ok (.iadd, 1) := by decide +kernel
theorem dJ6_bitCount_0f7a4_47 : decode cJ6_bitCount_0f7a4 47 = .ok (.istore_n 0, 1) := by decide +kernel
theorem dJ6_bitCount_0f7a4_48 : decode cJ6_bitCount_0f7a4 48 = .ok (.iload_n 0, 1) := by decide +kernel
theorem dJ6_bitCount_0f7a4_49 : decode cJ6_bitCount_0f7a4 49 = .ok (.bipush 63, 2) := by decide +kernel
theorem dJ6_bitCount_0f7a4_51 : decode cJ6_bitCount_0f7a4 51 = .ok (.iand, 1) := by decide +kernel
theorem dJ6_bitCount_0f7a4_52 : decode cJ6_bitCount_0f7a4 52 = .ok (.ireturn, 1) := by decide +kernel
theorem dJ9_max_7cf53_0 : decode cJ9_max_7cf53 0 = .ok (.iload_n 0, 1) := by decide +kernel
theorem dJ9_max_7cf53_1 : decode cJ9_max_7cf53 1 = .ok (.iload_n 1, 1) := by decide +kernel
theorem dJ9_max_7cf53_2 : decode cJ9_max_7cf53 2 = .ok (.if_icmp .lt 7, 3) := by decide +kernel
theorem dJ9_max_7cf53_5 : decode cJ9_max_7cf53 5 = .ok (.iload_n 0, 1) := by decide +kernel
theorem dJ9_max_7cf53_6 : decode cJ9_max_7cf53 6 = .ok (.goto 4, 3) := by decide +kernel
theorem dJ9_max_7cf53_9 : decode cJ9_max_7cf53 9 = .ok (.iload_n 1, 1) := by decide +kernel
theorem dJ9_max_7cf53_10 : decode cJ9_max_7cf53 10 = .ok (.ireturn, 1) := by decide +kernel
theorem dJ9_min_7cf53_0 : decode cJ9_min_7cf53 0 = .ok (.iload_n 0, 1) := by decide +kernel
theorem dJ9_min_7cf53_1 : decode cJ9_min_7cf53 1 = .ok (.iload_n 1, 1) := by decide +kernel
theorem dJ9_min_7cf53_2 : decode cJ9_min_7cf53 2 = .ok (.if_icmp .gt 7, 3) := by decide +kernel
theorem dJ9_min_7cf53_5 : decode cJ9_min_7cf53 5 = .ok (.iload_n 0, 1) := by decide +kernel
theorem dJ9_min_7cf53_6 : decode cJ9_min_7cf53 6 = .ok (.goto 4, 3) := by decide +kernel
theorem dJ9_min_7cf53_9 : decode cJ9_min_7cf53 9 = .ok (.iload_n 1, 1) := by decide +kernel
theorem dJ9_min_7cf53_10 : decode cJ9_min_7cf53 10 = .ok (.ireturn, 1) := by decide +kernel
theorem dJ7_fill_d0a16_0 : decode cJ7_fill_d0a16 0 = .ok (.iconst 0, 1) := by decide +kernel
theorem dJ7_fill_d0a16_1 : decode cJ7_fill_d0a16 1 = .ok (.istore_n 3, 1) := by decide +kernel
theorem dJ7_fill_d0a16_2 : decode cJ7_fill_d0a16 2 = .ok (.aload_n 0, 1) := by decide +kernel
theorem dJ7_fill_d0a16_3 : decode cJ7_fill_d0a16 3 = .ok (.arraylength, 1) := by decide +kernel
theorem dJ7_fill_d0a16_4 : decode cJ7_fill_d0a16 4 = .ok (.istore 4, 2) := by decide +kernel
theorem dJ7_fill_d0a16_6 : decode cJ7_fill_d0a16 6 = .ok (.iload_n 3, 1) := by decide +kernel
theorem dJ7_fill_d0a16_7 : decode cJ7_fill_d0a16 7 = .ok (.iload 4, 2) := by decide +kernel
theorem dJ7_fill_d0a16_9 : decode cJ7_fill_d0a16 9 = .ok (.if_icmp .ge 13, 3) := by decide +kernel
theorem dJ7_fill_d0a16_12 : decode cJ7_fill_d0a16 12 = .ok (.aload_n 0, 1) := by decide +kernel
theorem dJ7_fill_d0a16_13 : decode cJ7_fill_d0a16 13 = .ok (.iload_n 3, 1) := by decide +kernel
theorem dJ7_fill_d0a16_14 : decode cJ7_fill_d0a16 14 = .ok (.lload_n 1, 1) := by decide +kernel
theorem dJ7_fill_d0a16_15 : decode cJ7_fill_d0a16 15 = .ok (.lastore, 1) := by decide +kernel
theorem dJ7_fill_d0a16_16 : decode cJ7_fill_d0a16 16 = .ok (.iinc 3 1, 3) := by decide +kernel
theorem dJ7_fill_d0a16_19 : decode cJ7_fill_d0a16 19 = .ok (.goto (-13), 3) := by decide +kernel
theorem dJ7_fill_d0a16_22 : decode cJ7_fill_d0a16 22 = .ok (.return_, 1) := by decide +kernel
theorem dJ7_fill_53178_0 : decode cJ7_fill_53178 0 = .ok (.iconst 0, 1) := by decide +kernel
theorem dJ7_fill_53178_1 : decode cJ7_fill_53178 1 = .ok (.istore_n 2, 1) := by decide +kernel
theorem dJ7_fill_53178_2 : decode cJ7_fill_53178 2 = .ok (.aload_n 0, 1) := by decide +kernel
theorem dJ7_fill_53178_3 : decode cJ7_fill_53178 3 = .ok (.arraylength, 1) := by decide +kernel
theorem dJ7_fill_53178_4 : decode cJ7_fill_53178 4 = .ok (.istore_n 3, 1) := by decide +kernel
theorem dJ7_fill_53178_5 : decode cJ7_fill_53178 5 = .ok (.iload_n 2, 1) := by decide +kernel
theorem dJ7_fill_53178_6 : decode cJ7_fill_53178 6 = .ok (.iload_n 3, 1) := by decide +kernel
theorem dJ7_fill_53178_7 : decode cJ7_fill_53178 7 = .ok (.if_icmp .ge 13, 3) := by decide +kernel
theorem dJ7_fill_53178_10 : decode cJ7_fill_53178 10 = .ok (.aload_n 0, 1) := by decide +kernel
theorem dJ7_fill_53178_11 : decode cJ7_fill_53178 11 = .ok (.iload_n 2, 1) := by decide +kernel
theorem dJ7_fill_53178_12 : decode cJ7_fill_53178 12 = .ok (.iload_n 1, 1) := by decide +kernel
theorem dJ7_fill_53178_13 : decode cJ7_fill_53178 13 = .ok (.iastore, 1) := by decide +kernel
theorem dJ7_fill_53178_14 : decode cJ7_fill_53178 14 = .ok (.iinc 2 1, 3) := by decide +kernel
theorem dJ7_fill_53178_17 : decode cJ7_fill_53178 17 = .ok (.goto (-12), 3) := by decide +kernel
theorem dJ7_fill_53178_20 : decode cJ7_fill_53178 20 = .ok (.return_, 1) := by decide +kernel
