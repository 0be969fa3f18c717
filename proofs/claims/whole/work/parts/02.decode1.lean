theorem dX0_init_0 : decode cX0_init 0 = .ok (.aload_n 0, 1) := by decide +kernel
theorem dX0_init_1 : decode cX0_init 1 = .ok (.invokespecial 1, 3) := by decide +kernel
theorem dX0_init_4 : decode cX0_init 4 = .ok (.return_, 1) := by decide +kernel
theorem dX0_draw_0 : decode cX0_draw 0 = .ok (.aload_n 0, 1) := by decide +kernel
theorem dX0_draw_1 : decode cX0_draw 1 = .ok (.aload_n 0, 1) := by decide +kernel
theorem dX0_draw_2 : decode cX0_draw 2 = .ok (.getfield 7, 3) := by decide +kernel
theorem dX0_draw_5 : decode cX0_draw 5 = .ok (.i2l, 1) := by decide +kernel
theorem dX0_draw_6 : decode cX0_draw 6 = .ok (.ldc2_w 13, 3) := by decide +kernel
theorem dX0_draw_9 : decode cX0_draw 9 = .ok (.lmul, 1) := by decide +kernel
theorem dX0_draw_10 : decode cX0_draw 10 = .ok (.ldc2_w 15, 3) := by decide +kernel
theorem dX0_draw_13 : decode cX0_draw 13 = .ok (.ladd, 1) := by decide +kernel
theorem dX0_draw_14 : decode cX0_draw 14 = .ok (.ldc2_w 17, 3) := by decide +kernel
theorem dX0_draw_17 : decode cX0_draw 17 = .ok (.land, 1) := by decide +kernel
theorem dX0_draw_18 : decode cX0_draw 18 = .ok (.l2i, 1) := by decide +kernel
theorem dX0_draw_19 : decode cX0_draw 19 = .ok (.putfield 7, 3) := by decide +kernel
theorem dX0_draw_22 : decode cX0_draw 22 = .ok (.iload_n 1, 1) := by decide +kernel
theorem dX0_draw_23 : decode cX0_draw 23 = .ok (.ifCond .gt 7, 3) := by decide +kernel
theorem dX0_draw_26 : decode cX0_draw 26 = .ok (.iconst 0, 1) := by decide +kernel
theorem dX0_draw_27 : decode cX0_draw 27 = .ok (.goto 12, 3) := by decide +kernel
theorem dX0_draw_30 : decode cX0_draw 30 = .ok (.aload_n 0, 1) := by decide +kernel
theorem dX0_draw_31 : decode cX0_draw 31 = .ok (.getfield 7, 3) := by decide +kernel
theorem dX0_draw_34 : decode cX0_draw 34 = .ok (.ldc 19, 2) := by decide +kernel
theorem dX0_draw_36 : decode cX0_draw 36 = .ok (.idiv, 1) := by decide +kernel
theorem dX0_draw_37 : decode cX0_draw 37 = .ok (.iload_n 1, 1) := by decide +kernel
theorem dX0_draw_38 : decode cX0_draw 38 = .ok (.irem, 1) := by decide +kernel
theorem dX0_draw_39 : decode cX0_draw 39 = .ok (.ireturn, 1) := by decide +kernel
theorem dX1_init_0 : decode cX1_init 0 = .ok (.aload_n 0, 1) := by decide +kernel
theorem dX1_init_1 : decode cX1_init 1 = .ok (.invokespecial 3, 3) := by decide +kernel
theorem dX1_init_4 : decode cX1_init 4 = .ok (.aload_n 0, 1) := by decide +kernel
theorem dX1_init_5 : decode cX1_init 5 = .ok (.iconst 5, 1) := by decide +kernel
theorem dX1_init_6 : decode cX1_init 6 = .ok (.newarray .int, 2) := by decide +kernel
theorem dX1_init_8 : decode cX1_init 8 = .ok (.putfield 9, 3) := by decide +kernel
theorem dX1_init_11 : decode cX1_init 11 = .ok (.aload_n 0, 1) := by decide +kernel
theorem dX1_init_12 : decode cX1_init 12 = .ok (.iconst 5, 1) := by decide +kernel
theorem dX1_init_13 : decode cX1_init 13 = .ok (.newarray .int, 2) := by decide +kernel
theorem dX1_init_15 : decode cX1_init 15 = .ok (.putfield 15, 3) := by decide +kernel
theorem dX1_init_18 : decode cX1_init 18 = .ok (.aload_n 0, 1) := by decide +kernel
theorem dX1_init_19 : decode cX1_init 19 = .ok (.bipush 25, 2) := by decide +kernel
theorem dX1_init_21 : decode cX1_init 21 = .ok (.newarray .int, 2) := by decide +kernel
theorem dX1_init_23 : decode cX1_init 23 = .ok (.putfield 18, 3) := by decide +kernel
theorem dX1_init_26 : decode cX1_init 26 = .ok (.return_, 1) := by decide +kernel
theorem dX1_clear_0 : decode cX1_clear 0 = .ok (.aload_n 0, 1) := by decide +kernel
theorem dX1_clear_1 : decode cX1_clear 1 = .ok (.iconst 0, 1) := by decide +kernel
theorem dX1_clear_2 : decode cX1_clear 2 = .ok (.putfield 21, 3) := by decide +kernel
theorem dX1_clear_5 : decode cX1_clear 5 = .ok (.iconst 0, 1) := by decide +kernel
theorem dX1_clear_6 : decode cX1_clear 6 = .ok (.istore_n 1, 1) := by decide +kernel
theorem dX1_clear_7 : decode cX1_clear 7 = .ok (.iload_n 1, 1) := by decide +kernel
theorem dX1_clear_8 : decode cX1_clear 8 = .ok (.iconst 5, 1) := by decide +kernel
theorem dX1_clear_9 : decode cX1_clear 9 = .ok (.if_icmp .ge 23, 3) := by decide +kernel
theorem dX1_clear_12 : decode cX1_clear 12 = .ok (.aload_n 0, 1) := by decide +kernel
theorem dX1_clear_13 : decode cX1_clear 13 = .ok (.getfield 9, 3) := by decide +kernel
theorem dX1_clear_16 : decode cX1_clear 16 = .ok (.iload_n 1, 1) := by decide +kernel
theorem dX1_clear_17 : decode cX1_clear 17 = .ok (.iconst 0, 1) := by decide +kernel
theorem dX1_clear_18 : decode cX1_clear 18 = .ok (.iastore, 1) := by decide +kernel
theorem dX1_clear_19 : decode cX1_clear 19 = .ok (.aload_n 0, 1) := by decide +kernel
theorem dX1_clear_20 : decode cX1_clear 20 = .ok (.getfield 15, 3) := by decide +kernel
theorem dX1_clear_23 : decode cX1_clear 23 = .ok (.iload_n 1, 1) := by decide +kernel
theorem dX1_clear_24 : decode cX1_clear 24 = .ok (.iconst (-1), 1) := by decide +kernel
theorem dX1_clear_25 : decode cX1_clear 25 = .ok (.iastore, 1) := by decide +kernel
theorem dX1_clear_26 : decode cX1_clear 26 = .ok (.iinc 1 1, 3) := by decide +kernel
theorem dX1_clear_29 : decode cX1_clear 29 = .ok (.goto (-22), 3) := by decide +kernel
theorem dX1_clear_32 : decode cX1_clear 32 = .ok (.iconst 0, 1) := by decide +kernel
theorem dX1_clear_33 : decode cX1_clear 33 = .ok (.istore_n 1, 1) := by decide +kernel
theorem dX1_clear_34 : decode cX1_clear 34 = .ok (.iload_n 1, 1) := by decide +kernel
theorem dX1_clear_35 : decode cX1_clear 35 = .ok (.aload_n 0, 1) := by decide +kernel
theorem dX1_clear_36 : decode cX1_clear 36 = .ok (.getfield 18, 3) := by decide +kernel
theorem dX1_clear_39 : decode cX1_clear 39 = .ok (.arraylength, 1) := by decide +kernel
theorem dX1_clear_40 : decode cX1_clear 40 = .ok (.if_icmp .ge 16, 3) := by decide +kernel
theorem dX1_clear_43 : decode cX1_clear 43 = .ok (.aload_n 0, 1) := by decide +kernel
theorem dX1_clear_44 : decode cX1_clear 44 = .ok (.getfield 18, 3) := by decide +kernel
theorem dX1_clear_47 : decode cX1_clear 47 = .ok (.iload_n 1, 1) := by decide +kernel
theorem dX1_clear_48 : decode cX1_clear 48 = .ok (.iconst 0, 1) := by decide +kernel
theorem dX1_clear_49 : decode cX1_clear 49 = .ok (.iastore, 1) := by decide +kernel
theorem dX1_clear_50 : decode cX1_clear 50 = .ok (.iinc 1 1, 3) := by decide +kernel
theorem dX1_clear_53 : decode cX1_clear 53 = .ok (.goto (-19), 3) := by decide +kernel
theorem dX1_clear_56 : decode cX1_clear 56 = .ok (.return_, 1) := by decide +kernel
theorem dX1_add_0 : decode cX1_add 0 = .ok (.iconst 0, 1) := by decide +kernel
theorem dX1_add_1 : decode cX1_add 1 = .ok (.istore_n 3, 1) := by decide +kernel
theorem dX1_add_2 : decode cX1_add 2 = .ok (.iload_n 3, 1) := by decide +kernel
theorem dX1_add_3 : decode cX1_add 3 = .ok (.iload_n 2, 1) := by decide +kernel
theorem dX1_add_4 : decode cX1_add 4 = .ok (.if_icmp .ge 44, 3) := by decide +kernel
theorem dX1_add_7 : decode cX1_add 7 = .ok (.iload_n 3, 1) := by decide +kernel
theorem dX1_add_8 : decode cX1_add 8 = .ok (.iconst 5, 1) := by decide +kernel
theorem dX1_add_9 : decode cX1_add 9 = .ok (.if_icmp .ge 39, 3) := by decide +kernel
theorem dX1_add_12 : decode cX1_add 12 = .ok (.aload_n 0, 1) := by decide +kernel
theorem dX1_add_13 : decode cX1_add 13 = .ok (.getfield 9, 3) := by decide +kernel
theorem dX1_add_16 : decode cX1_add 16 = .ok (.iload_n 3, 1) := by decide +kernel
theorem dX1_add_17 : decode cX1_add 17 = .ok (.dup2, 1) := by decide +kernel
theorem dX1_add_18 : decode cX1_add 18 = .ok (.iaload, 1) := by decide +kernel
theorem dX1_add_19 : decode cX1_add 19 = .ok (.iconst 1, 1) := by decide +kernel
theorem dX1_add_20 : decode cX1_add 20 = .ok (.aload_n 1, 1) := by decide +kernel
theorem dX1_add_21 : decode cX1_add 21 = .ok (.iload_n 3, 1) := by decide +kernel
theorem dX1_add_22 : decode cX1_add 22 = .ok (.iaload, 1) := by decide +kernel
theorem dX1_add_23 : decode cX1_add 23 = .ok (.ishl, 1) := by decide +kernel
theorem dX1_add_24 : decode cX1_add 24 = .ok (.ior, 1) := by decide +kernel
theorem dX1_add_25 : decode cX1_add 25 = .ok (.iastore, 1) := by decide +kernel
theorem dX1_add_26 : decode cX1_add 26 = .ok (.aload_n 0, 1) := by decide +kernel
theorem dX1_add_27 : decode cX1_add 27 = .ok (.getfield 21, 3) := by decide +kernel
theorem dX1_add_30 : decode cX1_add 30 = .ok (.ifCond .ne 12, 3) := by decide +kernel
theorem dX1_add_33 : decode cX1_add 33 = .ok (.aload_n 0, 1) := by decide +kernel
theorem dX1_add_34 : decode cX1_add 34 = .ok (.getfield 15, 3) := by decide +kernel
theorem dX1_add_37 : decode cX1_add 37 = .ok (.iload_n 3, 1) := by decide +kernel
theorem dX1_add_38 : decode cX1_add 38 = .ok (.aload_n 1, 1) := by decide +kernel
theorem dX1_add_39 : decode cX1_add 39 = .ok (.iload_n 3, 1) := by decide +kernel
theorem dX1_add_40 : decode cX1_add 40 = .ok (.iaload, 1) := by decide +kernel
theorem dX1_add_41 : decode cX1_add 41 = .ok (.iastore, 1) := by decide +kernel
theorem dX1_add_42 : decode cX1_add 42 = .ok (.iinc 3 1, 3) := by decide +kernel
theorem dX1_add_45 : decode cX1_add 45 = .ok (.goto (-43), 3) := by decide +kernel
theorem dX1_add_48 : decode cX1_add 48 = .ok (.aload_n 0, 1) := by decide +kernel
theorem dX1_add_49 : decode cX1_add 49 = .ok (.dup, 1) := by decide +kernel
theorem dX1_add_50 : decode cX1_add 50 = .ok (.getfield 21, 3) := by decide +kernel
theorem dX1_add_53 : decode cX1_add 53 = .ok (.iconst 1, 1) := by decide +kernel
theorem dX1_add_54 : decode cX1_add 54 = .ok (.iadd, 1) := by decide +kernel
theorem dX1_add_55 : decode cX1_add 55 = .ok (.putfield 21, 3) := by decide +kernel
theorem dX1_add_58 : decode cX1_add 58 = .ok (.return_, 1) := by decide +kernel
theorem dX1_hear_0 : decode cX1_hear 0 = .ok (.iconst 0, 1) := by decide +kernel
theorem dX1_hear_1 : decode cX1_hear 1 = .ok (.istore 4, 2) := by decide +kernel
theorem dX1_hear_3 : decode cX1_hear 3 = .ok (.iload 4, 2) := by decide +kernel
theorem dX1_hear_5 : decode cX1_hear 5 = .ok (.iload_n 3, 1) := by decide +kernel
theorem dX1_hear_6 : decode cX1_hear 6 = .ok (.if_icmp .ge 74, 3) := by decide +kernel
theorem dX1_hear_9 : decode cX1_hear 9 = .ok (.iload 4, 2) := by decide +kernel
theorem dX1_hear_11 : decode cX1_hear 11 = .ok (.iconst 5, 1) := by decide +kernel
theorem dX1_hear_12 : decode cX1_hear 12 = .ok (.if_icmp .ge 68, 3) := by decide +kernel
theorem dX1_hear_15 : decode cX1_hear 15 = .ok (.iload 4, 2) := by decide +kernel
theorem dX1_hear_17 : decode cX1_hear 17 = .ok (.iconst 1, 1) := by decide +kernel
theorem dX1_hear_18 : decode cX1_hear 18 = .ok (.iadd, 1) := by decide +kernel
theorem dX1_hear_19 : decode cX1_hear 19 = .ok (.istore 5, 2) := by decide +kernel
theorem dX1_hear_21 : decode cX1_hear 21 = .ok (.iload 5, 2) := by decide +kernel
theorem dX1_hear_23 : decode cX1_hear 23 = .ok (.iload_n 3, 1) := by decide +kernel
theorem dX1_hear_24 : decode cX1_hear 24 = .ok (.if_icmp .ge 50, 3) := by decide +kernel
theorem dX1_hear_27 : decode cX1_hear 27 = .ok (.iload 5, 2) := by decide +kernel
theorem dX1_hear_29 : decode cX1_hear 29 = .ok (.iconst 5, 1) := by decide +kernel
theorem dX1_hear_30 : decode cX1_hear 30 = .ok (.if_icmp .ge 44, 3) := by decide +kernel
theorem dX1_hear_33 : decode cX1_hear 33 = .ok (.aload_n 1, 1) := by decide +kernel
theorem dX1_hear_34 : decode cX1_hear 34 = .ok (.iload_n 2, 1) := by decide +kernel
theorem dX1_hear_35 : decode cX1_hear 35 = .ok (.iload 4, 2) := by decide +kernel
theorem dX1_hear_37 : decode cX1_hear 37 = .ok (.invokestatic 25, 3) := by decide +kernel
theorem dX1_hear_40 : decode cX1_hear 40 = .ok (.iload_n 2, 1) := by decide +kernel
theorem dX1_hear_41 : decode cX1_hear 41 = .ok (.iload 5, 2) := by decide +kernel
theorem dX1_hear_43 : decode cX1_hear 43 = .ok (.invokestatic 25, 3) := by decide +kernel
theorem dX1_hear_46 : decode cX1_hear 46 = .ok (.invokevirtual 29, 3) := by decide +kernel
theorem dX1_hear_49 : decode cX1_hear 49 = .ok (.ifCond .eq 19, 3) := by decide +kernel
theorem dX1_hear_52 : decode cX1_hear 52 = .ok (.aload_n 0, 1) := by decide +kernel
theorem dX1_hear_53 : decode cX1_hear 53 = .ok (.getfield 18, 3) := by decide +kernel
theorem dX1_hear_56 : decode cX1_hear 56 = .ok (.iconst 5, 1) := by decide +kernel
theorem dX1_hear_57 : decode cX1_hear 57 = .ok (.iload 4, 2) := by decide +kernel
theorem dX1_hear_59 : decode cX1_hear 59 = .ok (.imul, 1) := by decide +kernel
theorem dX1_hear_60 : decode cX1_hear 60 = .ok (.iload 5, 2) := by decide +kernel
theorem dX1_hear_62 : decode cX1_hear 62 = .ok (.iadd, 1) := by decide +kernel
theorem dX1_hear_63 : decode cX1_hear 63 = .ok (.dup2, 1) := by decide +kernel
theorem dX1_hear_64 : decode cX1_hear 64 = .ok (.iaload, 1) := by decide +kernel
theorem dX1_hear_65 : decode cX1_hear 65 = .ok (.iconst 1, 1) := by decide +kernel
theorem dX1_hear_66 : decode cX1_hear 66 = .ok (.iadd, 1) := by decide +kernel
theorem dX1_hear_67 : decode cX1_hear 67 = .ok (.iastore, 1) := by decide +kernel
theorem dX1_hear_68 : decode cX1_hear 68 = .ok (.iinc 5 1, 3) := by decide +kernel
theorem dX1_hear_71 : decode cX1_hear 71 = .ok (.goto (-50), 3) := by decide +kernel
theorem dX1_hear_74 : decode cX1_hear 74 = .ok (.iinc 4 1, 3) := by decide +kernel
theorem dX1_hear_77 : decode cX1_hear 77 = .ok (.goto (-74), 3) := by decide +kernel
theorem dX1_hear_80 : decode cX1_hear 80 = .ok (.return_, 1) := by decide +kernel
theorem dX1_bestPair_0 : decode cX1_bestPair 0 = .ok (.iconst (-1), 1) := by decide +kernel
theorem dX1_bestPair_1 : decode cX1_bestPair 1 = .ok (.istore_n 2, 1) := by decide +kernel
theorem dX1_bestPair_2 : decode cX1_bestPair 2 = .ok (.aload_n 0, 1) := by decide +kernel
theorem dX1_bestPair_3 : decode cX1_bestPair 3 = .ok (.getfield 21, 3) := by decide +kernel
theorem dX1_bestPair_6 : decode cX1_bestPair 6 = .ok (.istore_n 3, 1) := by decide +kernel
theorem dX1_bestPair_7 : decode cX1_bestPair 7 = .ok (.iconst 0, 1) := by decide +kernel
theorem dX1_bestPair_8 : decode cX1_bestPair 8 = .ok (.istore 4, 2) := by decide +kernel
theorem dX1_bestPair_10 : decode cX1_bestPair 10 = .ok (.iload 4, 2) := by decide +kernel
theorem dX1_bestPair_12 : decode cX1_bestPair 12 = .ok (.iload_n 1, 1) := by decide +kernel
theorem dX1_bestPair_13 : decode cX1_bestPair 13 = .ok (.if_icmp .ge 85, 3) := by decide +kernel
theorem dX1_bestPair_16 : decode cX1_bestPair 16 = .ok (.iload 4, 2) := by decide +kernel
theorem dX1_bestPair_18 : decode cX1_bestPair 18 = .ok (.iconst 5, 1) := by decide +kernel
theorem dX1_bestPair_19 : decode cX1_bestPair 19 = .ok (.if_icmp .ge 79, 3) := by decide +kernel
theorem dX1_bestPair_22 : decode cX1_bestPair 22 = .ok (.iload 4, 2) := by decide +kernel
theorem dX1_bestPair_24 : decode cX1_bestPair 24 = .ok (.iconst 1, 1) := by decide +kernel
theorem dX1_bestPair_25 : decode cX1_bestPair 25 = .ok (.iadd, 1) := by decide +kernel
theorem dX1_bestPair_26 : decode cX1_bestPair 26 = .ok (.istore 5, 2) := by decide +kernel
theorem dX1_bestPair_28 : decode cX1_bestPair 28 = .ok (.iload 5, 2) := by decide +kernel
theorem dX1_bestPair_30 : decode cX1_bestPair 30 = .ok (.iload_n 1, 1) := by decide +kernel
theorem dX1_bestPair_31 : decode cX1_bestPair 31 = .ok (.if_icmp .ge 61, 3) := by decide +kernel
theorem dX1_bestPair_34 : decode cX1_bestPair 34 = .ok (.iload 5, 2) := by decide +kernel
theorem dX1_bestPair_36 : decode cX1_bestPair 36 = .ok (.iconst 5, 1) := by decide +kernel
theorem dX1_bestPair_37 : decode cX1_bestPair 37 = .ok (.if_icmp .ge 55, 3) := by decide +kernel
theorem dX1_bestPair_40 : decode cX1_bestPair 40 = .ok (.aload_n 0, 1) := by decide +kernel
theorem dX1_bestPair_41 : decode cX1_bestPair 41 = .ok (.getfield 18, 3) := by decide +kernel
theorem dX1_bestPair_44 : decode cX1_bestPair 44 = .ok (.iconst 5, 1) := by decide +kernel
theorem dX1_bestPair_45 : decode cX1_bestPair 45 = .ok (.iload 4, 2) := by decide +kernel
theorem dX1_bestPair_47 : decode cX1_bestPair 47 = .ok (.imul, 1) := by decide +kernel
theorem dX1_bestPair_48 : decode cX1_bestPair 48 = .ok (.iload 5, 2) := by decide +kernel
theorem dX1_bestPair_50 : decode cX1_bestPair 50 = .ok (.iadd, 1) := by decide +kernel
theorem dX1_bestPair_51 : decode cX1_bestPair 51 = .ok (.iaload, 1) := by decide +kernel
theorem dX1_bestPair_52 : decode cX1_bestPair 52 = .ok (.istore 6, 2) := by decide +kernel
theorem dX1_bestPair_54 : decode cX1_bestPair 54 = .ok (.iload 6, 2) := by decide +kernel
theorem dX1_bestPair_56 : decode cX1_bestPair 56 = .ok (.aload_n 0, 1) := by decide +kernel
theorem dX1_bestPair_57 : decode cX1_bestPair 57 = .ok (.getfield 21, 3) := by decide +kernel
theorem dX1_bestPair_60 : decode cX1_bestPair 60 = .ok (.iload 6, 2) := by decide +kernel
theorem dX1_bestPair_62 : decode cX1_bestPair 62 = .ok (.isub, 1) := by decide +kernel
theorem dX1_bestPair_63 : decode cX1_bestPair 63 = .ok (.invokestatic 35, 3) := by decide +kernel
theorem dX1_bestPair_66 : decode cX1_bestPair 66 = .ok (.istore 7, 2) := by decide +kernel
theorem dX1_bestPair_68 : decode cX1_bestPair 68 = .ok (.iload 7, 2) := by decide +kernel
theorem dX1_bestPair_70 : decode cX1_bestPair 70 = .ok (.iload_n 3, 1) := by decide +kernel
theorem dX1_bestPair_71 : decode cX1_bestPair 71 = .ok (.if_icmp .ge 15, 3) := by decide +kernel
theorem dX1_bestPair_74 : decode cX1_bestPair 74 = .ok (.iload 7, 2) := by decide +kernel
theorem dX1_bestPair_76 : decode cX1_bestPair 76 = .ok (.istore_n 3, 1) := by decide +kernel
theorem dX1_bestPair_77 : decode cX1_bestPair 77 = .ok (.bipush 10, 2) := by decide +kernel
theorem dX1_bestPair_79 : decode cX1_bestPair 79 = .ok (.iload 4, 2) := by decide +kernel
theorem dX1_bestPair_81 : decode cX1_bestPair 81 = .ok (.imul, 1) := by decide +kernel
theorem dX1_bestPair_82 : decode cX1_bestPair 82 = .ok (.iload 5, 2) := by decide +kernel
theorem dX1_bestPair_84 : decode cX1_bestPair 84 = .ok (.iadd, 1) := by decide +kernel
theorem dX1_bestPair_85 : decode cX1_bestPair 85 = .ok (.istore_n 2, 1) := by decide +kernel
theorem dX1_bestPair_86 : decode cX1_bestPair 86 = .ok (.iinc 5 1, 3) := by decide +kernel
theorem dX1_bestPair_89 : decode cX1_bestPair 89 = .ok (.goto (-61), 3) := by decide +kernel
theorem dX1_bestPair_92 : decode cX1_bestPair 92 = .ok (.iinc 4 1, 3) := by decide +kernel
theorem dX1_bestPair_95 : decode cX1_bestPair 95 = .ok (.goto (-85), 3) := by decide +kernel
theorem dX1_bestPair_98 : decode cX1_bestPair 98 = .ok (.iload_n 2, 1) := by decide +kernel
theorem dX1_bestPair_99 : decode cX1_bestPair 99 = .ok (.ireturn, 1) := by decide +kernel
theorem dX2_init_0 : decode cX2_init 0 = .ok (.aload_n 0, 1) := by decide +kernel
theorem dX2_init_1 : decode cX2_init 1 = .ok (.invokespecial 1, 3) := by decide +kernel
theorem dX2_init_4 : decode cX2_init 4 = .ok (.aload_n 0, 1) := by decide +kernel
theorem dX2_init_5 : decode cX2_init 5 = .ok (.new 7, 3) := by decide +kernel
theorem dX2_init_8 : decode cX2_init 8 = .ok (.dup, 1) := by decide +kernel
theorem dX2_init_9 : decode cX2_init 9 = .ok (.invokespecial 9, 3) := by decide +kernel
theorem dX2_init_12 : decode cX2_init 12 = .ok (.putfield 10, 3) := by decide +kernel
theorem dX2_init_15 : decode cX2_init 15 = .ok (.return_, 1) := by decide +kernel
theorem dX3_init_0 : decode cX3_init 0 = .ok (.aload_n 0, 1) := by decide +kernel
theorem dX3_init_1 : decode cX3_init 1 = .ok (.invokespecial 3, 3) := by decide +kernel
theorem dX3_init_4 : decode cX3_init 4 = .ok (.aload_n 0, 1) := by decide +kernel
theorem dX3_init_5 : decode cX3_init 5 = .ok (.bipush 11, 2) := by decide +kernel
theorem dX3_init_7 : decode cX3_init 7 = .ok (.newarray .int, 2) := by decide +kernel
theorem dX3_init_9 : decode cX3_init 9 = .ok (.putfield 9, 3) := by decide +kernel
theorem dX3_init_12 : decode cX3_init 12 = .ok (.aload_n 0, 1) := by decide +kernel
theorem dX3_init_13 : decode cX3_init 13 = .ok (.bipush 11, 2) := by decide +kernel
theorem dX3_init_15 : decode cX3_init 15 = .ok (.newarray .int, 2) := by decide +kernel
theorem dX3_init_17 : decode cX3_init 17 = .ok (.putfield 15, 3) := by decide +kernel
theorem dX3_init_20 : decode cX3_init 20 = .ok (.return_, 1) := by decide +kernel
theorem dX3_lay_0 : decode cX3_lay 0 = .ok (.iconst 0, 1) := by decide +kernel
theorem dX3_lay_1 : decode cX3_lay 1 = .ok (.istore 5, 2) := by decide +kernel
theorem dX3_lay_3 : decode cX3_lay 3 = .ok (.iload 5, 2) := by decide +kernel
theorem dX3_lay_5 : decode cX3_lay 5 = .ok (.bipush 11, 2) := by decide +kernel
theorem dX3_lay_7 : decode cX3_lay 7 = .ok (.if_icmp .ge 20, 3) := by decide +kernel
theorem dX3_lay_10 : decode cX3_lay 10 = .ok (.aload_n 0, 1) := by decide +kernel
theorem dX3_lay_11 : decode cX3_lay 11 = .ok (.getfield 9, 3) := by decide +kernel
theorem dX3_lay_14 : decode cX3_lay 14 = .ok (.iload 5, 2) := by decide +kernel
theorem dX3_lay_16 : decode cX3_lay 16 = .ok (.iconst 1, 1) := by decide +kernel
theorem dX3_lay_17 : decode cX3_lay 17 = .ok (.iload 5, 2) := by decide +kernel
theorem dX3_lay_19 : decode cX3_lay 19 = .ok (.ishl, 1) := by decide +kernel
theorem dX3_lay_20 : decode cX3_lay 20 = .ok (.iastore, 1) := by decide +kernel
theorem dX3_lay_21 : decode cX3_lay 21 = .ok (.iinc 5 1, 3) := by decide +kernel
theorem dX3_lay_24 : decode cX3_lay 24 = .ok (.goto (-21), 3) := by decide +kernel
theorem dX3_lay_27 : decode cX3_lay 27 = .ok (.iconst 0, 1) := by decide +kernel
theorem dX3_lay_28 : decode cX3_lay 28 = .ok (.istore 5, 2) := by decide +kernel
theorem dX3_lay_30 : decode cX3_lay 30 = .ok (.iload 5, 2) := by decide +kernel
theorem dX3_lay_32 : decode cX3_lay 32 = .ok (.iconst 5, 1) := by decide +kernel
theorem dX3_lay_33 : decode cX3_lay 33 = .ok (.if_icmp .ge 109, 3) := by decide +kernel
theorem dX3_lay_36 : decode cX3_lay 36 = .ok (.iload_n 1, 1) := by decide +kernel
theorem dX3_lay_37 : decode cX3_lay 37 = .ok (.iload 5, 2) := by decide +kernel
theorem dX3_lay_39 : decode cX3_lay 39 = .ok (.invokestatic 18, 3) := by decide +kernel
theorem dX3_lay_42 : decode cX3_lay 42 = .ok (.iconst 2, 1) := by decide +kernel
theorem dX3_lay_43 : decode cX3_lay 43 = .ok (.if_icmp .ne 14, 3) := by decide +kernel
theorem dX3_lay_46 : decode cX3_lay 46 = .ok (.aload_n 0, 1) := by decide +kernel
theorem dX3_lay_47 : decode cX3_lay 47 = .ok (.getfield 9, 3) := by decide +kernel
theorem dX3_lay_50 : decode cX3_lay 50 = .ok (.iload 5, 2) := by decide +kernel
theorem dX3_lay_52 : decode cX3_lay 52 = .ok (.bipush 10, 2) := by decide +kernel
theorem dX3_lay_54 : decode cX3_lay 54 = .ok (.invokestatic 22, 3) := by decide +kernel
theorem dX3_lay_57 : decode cX3_lay 57 = .ok (.iload 5, 2) := by decide +kernel
theorem dX3_lay_59 : decode cX3_lay 59 = .ok (.iconst 1, 1) := by decide +kernel
theorem dX3_lay_60 : decode cX3_lay 60 = .ok (.iadd, 1) := by decide +kernel
theorem dX3_lay_61 : decode cX3_lay 61 = .ok (.istore 6, 2) := by decide +kernel
theorem dX3_lay_63 : decode cX3_lay 63 = .ok (.iload 6, 2) := by decide +kernel
theorem dX3_lay_65 : decode cX3_lay 65 = .ok (.iconst 5, 1) := by decide +kernel
theorem dX3_lay_66 : decode cX3_lay 66 = .ok (.if_icmp .ge 70, 3) := by decide +kernel
theorem dX3_lay_69 : decode cX3_lay 69 = .ok (.iload_n 2, 1) := by decide +kernel
theorem dX3_lay_70 : decode cX3_lay 70 = .ok (.iload 5, 2) := by decide +kernel
theorem dX3_lay_72 : decode cX3_lay 72 = .ok (.iload 6, 2) := by decide +kernel
theorem dX3_lay_74 : decode cX3_lay 74 = .ok (.invokestatic 26, 3) := by decide +kernel
theorem dX3_lay_77 : decode cX3_lay 77 = .ok (.iand, 1) := by decide +kernel
theorem dX3_lay_78 : decode cX3_lay 78 = .ok (.ifCond .ne 14, 3) := by decide +kernel
theorem dX3_lay_81 : decode cX3_lay 81 = .ok (.iload_n 3, 1) := by decide +kernel
theorem dX3_lay_82 : decode cX3_lay 82 = .ok (.iload 5, 2) := by decide +kernel
theorem dX3_lay_84 : decode cX3_lay 84 = .ok (.iload 6, 2) := by decide +kernel
theorem dX3_lay_86 : decode cX3_lay 86 = .ok (.invokestatic 29, 3) := by decide +kernel
theorem dX3_lay_89 : decode cX3_lay 89 = .ok (.ifCond .eq 14, 3) := by decide +kernel
theorem dX3_lay_92 : decode cX3_lay 92 = .ok (.aload_n 0, 1) := by decide +kernel
theorem dX3_lay_93 : decode cX3_lay 93 = .ok (.getfield 9, 3) := by decide +kernel
theorem dX3_lay_96 : decode cX3_lay 96 = .ok (.iload 5, 2) := by decide +kernel
theorem dX3_lay_98 : decode cX3_lay 98 = .ok (.iload 6, 2) := by decide +kernel
theorem dX3_lay_100 : decode cX3_lay 100 = .ok (.invokestatic 22, 3) := by decide +kernel
theorem dX3_lay_103 : decode cX3_lay 103 = .ok (.iload 4, 2) := by decide +kernel
theorem dX3_lay_105 : decode cX3_lay 105 = .ok (.iload 5, 2) := by decide +kernel
theorem dX3_lay_107 : decode cX3_lay 107 = .ok (.iload 6, 2) := by decide +kernel
theorem dX3_lay_109 : decode cX3_lay 109 = .ok (.invokestatic 29, 3) := by decide +kernel
theorem dX3_lay_112 : decode cX3_lay 112 = .ok (.ifCond .eq 18, 3) := by decide +kernel
theorem dX3_lay_115 : decode cX3_lay 115 = .ok (.aload_n 0, 1) := by decide +kernel
theorem dX3_lay_116 : decode cX3_lay 116 = .ok (.getfield 9, 3) := by decide +kernel
theorem dX3_lay_119 : decode cX3_lay 119 = .ok (.iconst 5, 1) := by decide +kernel
theorem dX3_lay_120 : decode cX3_lay 120 = .ok (.iload 5, 2) := by decide +kernel
theorem dX3_lay_122 : decode cX3_lay 122 = .ok (.iadd, 1) := by decide +kernel
theorem dX3_lay_123 : decode cX3_lay 123 = .ok (.iconst 5, 1) := by decide +kernel
theorem dX3_lay_124 : decode cX3_lay 124 = .ok (.iload 6, 2) := by decide +kernel
theorem dX3_lay_126 : decode cX3_lay 126 = .ok (.iadd, 1) := by decide +kernel
theorem dX3_lay_127 : decode cX3_lay 127 = .ok (.invokestatic 22, 3) := by decide +kernel
theorem dX3_lay_130 : decode cX3_lay 130 = .ok (.iinc 6 1, 3) := by decide +kernel
theorem dX3_lay_133 : decode cX3_lay 133 = .ok (.goto (-70), 3) := by decide +kernel
theorem dX3_lay_136 : decode cX3_lay 136 = .ok (.iinc 5 1, 3) := by decide +kernel
theorem dX3_lay_139 : decode cX3_lay 139 = .ok (.goto (-109), 3) := by decide +kernel
theorem dX3_lay_142 : decode cX3_lay 142 = .ok (.return_, 1) := by decide +kernel
theorem dX3_join_0 : decode cX3_join 0 = .ok (.aload_n 0, 1) := by decide +kernel
theorem dX3_join_1 : decode cX3_join 1 = .ok (.getfield 9, 3) := by decide +kernel
theorem dX3_join_4 : decode cX3_join 4 = .ok (.iconst 0, 1) := by decide +kernel
theorem dX3_join_5 : decode cX3_join 5 = .ok (.aload_n 0, 1) := by decide +kernel
theorem dX3_join_6 : decode cX3_join 6 = .ok (.getfield 15, 3) := by decide +kernel
theorem dX3_join_9 : decode cX3_join 9 = .ok (.iconst 0, 1) := by decide +kernel
theorem dX3_join_10 : decode cX3_join 10 = .ok (.bipush 11, 2) := by decide +kernel
theorem dX3_join_12 : decode cX3_join 12 = .ok (.invokestatic 33, 3) := by decide +kernel
theorem dX3_join_15 : decode cX3_join 15 = .ok (.iconst 0, 1) := by decide +kernel
theorem dX3_join_16 : decode cX3_join 16 = .ok (.istore 4, 2) := by decide +kernel
theorem dX3_join_18 : decode cX3_join 18 = .ok (.iload 4, 2) := by decide +kernel
theorem dX3_join_20 : decode cX3_join 20 = .ok (.iload_n 2, 1) := by decide +kernel
theorem dX3_join_21 : decode cX3_join 21 = .ok (.if_icmp .ge 44, 3) := by decide +kernel
theorem dX3_join_24 : decode cX3_join 24 = .ok (.iload 4, 2) := by decide +kernel
theorem dX3_join_26 : decode cX3_join 26 = .ok (.aload_n 1, 1) := by decide +kernel
theorem dX3_join_27 : decode cX3_join 27 = .ok (.arraylength, 1) := by decide +kernel
theorem dX3_join_28 : decode cX3_join 28 = .ok (.if_icmp .ge 37, 3) := by decide +kernel
theorem dX3_join_31 : decode cX3_join 31 = .ok (.aload_n 1, 1) := by decide +kernel
theorem dX3_join_32 : decode cX3_join 32 = .ok (.iload 4, 2) := by decide +kernel
theorem dX3_join_34 : decode cX3_join 34 = .ok (.iaload, 1) := by decide +kernel
theorem dX3_join_35 : decode cX3_join 35 = .ok (.istore 5, 2) := by decide +kernel
theorem dX3_join_37 : decode cX3_join 37 = .ok (.iload_n 3, 1) := by decide +kernel
theorem dX3_join_38 : decode cX3_join 38 = .ok (.iload 5, 2) := by decide +kernel
theorem dX3_join_40 : decode cX3_join 40 = .ok (.ishr, 1) := by decide +kernel
theorem dX3_join_41 : decode cX3_join 41 = .ok (.iconst 1, 1) := by decide +kernel
theorem dX3_join_42 : decode cX3_join 42 = .ok (.iand, 1) := by decide +kernel
theorem dX3_join_43 : decode cX3_join 43 = .ok (.ifCond .eq 16, 3) := by decide +kernel
theorem dX3_join_46 : decode cX3_join 46 = .ok (.aload_n 0, 1) := by decide +kernel
theorem dX3_join_47 : decode cX3_join 47 = .ok (.getfield 15, 3) := by decide +kernel
theorem dX3_join_50 : decode cX3_join 50 = .ok (.iload 5, 2) := by decide +kernel
theorem dX3_join_52 : decode cX3_join 52 = .ok (.iconst 5, 1) := by decide +kernel
theorem dX3_join_53 : decode cX3_join 53 = .ok (.iload 4, 2) := by decide +kernel
theorem dX3_join_55 : decode cX3_join 55 = .ok (.iadd, 1) := by decide +kernel
theorem dX3_join_56 : decode cX3_join 56 = .ok (.invokestatic 22, 3) := by decide +kernel
theorem dX3_join_59 : decode cX3_join 59 = .ok (.iinc 4 1, 3) := by decide +kernel
theorem dX3_join_62 : decode cX3_join 62 = .ok (.goto (-44), 3) := by decide +kernel
theorem dX3_join_65 : decode cX3_join 65 = .ok (.return_, 1) := by decide +kernel
theorem dX3_of_0 : decode cX3_of 0 = .ok (.iload_n 1, 1) := by decide +kernel
theorem dX3_of_1 : decode cX3_of 1 = .ok (.ifCond .lt 18, 3) := by decide +kernel
theorem dX3_of_4 : decode cX3_of 4 = .ok (.iload_n 1, 1) := by decide +kernel
theorem dX3_of_5 : decode cX3_of 5 = .ok (.bipush 11, 2) := by decide +kernel
theorem dX3_of_7 : decode cX3_of 7 = .ok (.if_icmp .ge 12, 3) := by decide +kernel
theorem dX3_of_10 : decode cX3_of 10 = .ok (.aload_n 0, 1) := by decide +kernel
theorem dX3_of_11 : decode cX3_of 11 = .ok (.getfield 15, 3) := by decide +kernel
theorem dX3_of_14 : decode cX3_of 14 = .ok (.iload_n 1, 1) := by decide +kernel
theorem dX3_of_15 : decode cX3_of 15 = .ok (.iaload, 1) := by decide +kernel
theorem dX3_of_16 : decode cX3_of 16 = .ok (.goto 4, 3) := by decide +kernel
theorem dX3_of_19 : decode cX3_of 19 = .ok (.iconst 0, 1) := by decide +kernel
theorem dX3_of_20 : decode cX3_of 20 = .ok (.ireturn, 1) := by decide +kernel
theorem dX3_bare_0 : decode cX3_bare 0 = .ok (.iload_n 1, 1) := by decide +kernel
theorem dX3_bare_1 : decode cX3_bare 1 = .ok (.ifCond .lt 18, 3) := by decide +kernel
theorem dX3_bare_4 : decode cX3_bare 4 = .ok (.iload_n 1, 1) := by decide +kernel
theorem dX3_bare_5 : decode cX3_bare 5 = .ok (.bipush 11, 2) := by decide +kernel
theorem dX3_bare_7 : decode cX3_bare 7 = .ok (.if_icmp .ge 12, 3) := by decide +kernel
theorem dX3_bare_10 : decode cX3_bare 10 = .ok (.aload_n 0, 1) := by decide +kernel
theorem dX3_bare_11 : decode cX3_bare 11 = .ok (.getfield 9, 3) := by decide +kernel
theorem dX3_bare_14 : decode cX3_bare 14 = .ok (.iload_n 1, 1) := by decide +kernel
theorem dX3_bare_15 : decode cX3_bare 15 = .ok (.iaload, 1) := by decide +kernel
theorem dX3_bare_16 : decode cX3_bare 16 = .ok (.goto 4, 3) := by decide +kernel
theorem dX3_bare_19 : decode cX3_bare 19 = .ok (.iconst 0, 1) := by decide +kernel
theorem dX3_bare_20 : decode cX3_bare 20 = .ok (.ireturn, 1) := by decide +kernel
theorem dX3_isEarthedBare_0 : decode cX3_isEarthedBare 0 = .ok (.aload_n 0, 1) := by decide +kernel
theorem dX3_isEarthedBare_1 : decode cX3_isEarthedBare 1 = .ok (.iload_n 1, 1) := by decide +kernel
theorem dX3_isEarthedBare_2 : decode cX3_isEarthedBare 2 = .ok (.invokevirtual 39, 3) := by decide +kernel
theorem dX3_isEarthedBare_5 : decode cX3_isEarthedBare 5 = .ok (.bipush 10, 2) := by decide +kernel
theorem dX3_isEarthedBare_7 : decode cX3_isEarthedBare 7 = .ok (.ishr, 1) := by decide +kernel
theorem dX3_isEarthedBare_8 : decode cX3_isEarthedBare 8 = .ok (.iconst 1, 1) := by decide +kernel
theorem dX3_isEarthedBare_9 : decode cX3_isEarthedBare 9 = .ok (.iand, 1) := by decide +kernel
theorem dX3_isEarthedBare_10 : decode cX3_isEarthedBare 10 = .ok (.ifCond .eq 7, 3) := by decide +kernel
theorem dX3_isEarthedBare_13 : decode cX3_isEarthedBare 13 = .ok (.iconst 1, 1) := by decide +kernel
theorem dX3_isEarthedBare_14 : decode cX3_isEarthedBare 14 = .ok (.goto 4, 3) := by decide +kernel
theorem dX3_isEarthedBare_17 : decode cX3_isEarthedBare 17 = .ok (.iconst 0, 1) := by decide +kernel
theorem dX3_isEarthedBare_18 : decode cX3_isEarthedBare 18 = .ok (.ireturn, 1) := by decide +kernel
theorem dX3_areJoined_0 : decode cX3_areJoined 0 = .ok (.aload_n 0, 1) := by decide +kernel
theorem dX3_areJoined_1 : decode cX3_areJoined 1 = .ok (.iload_n 1, 1) := by decide +kernel
theorem dX3_areJoined_2 : decode cX3_areJoined 2 = .ok (.invokevirtual 42, 3) := by decide +kernel
theorem dX3_areJoined_5 : decode cX3_areJoined 5 = .ok (.iload_n 2, 1) := by decide +kernel
theorem dX3_areJoined_6 : decode cX3_areJoined 6 = .ok (.ishr, 1) := by decide +kernel
theorem dX3_areJoined_7 : decode cX3_areJoined 7 = .ok (.iconst 1, 1) := by decide +kernel
theorem dX3_areJoined_8 : decode cX3_areJoined 8 = .ok (.iand, 1) := by decide +kernel
theorem dX3_areJoined_9 : decode cX3_areJoined 9 = .ok (.ifCond .eq 7, 3) := by decide +kernel
theorem dX3_areJoined_12 : decode cX3_areJoined 12 = .ok (.iconst 1, 1) := by decide +kernel
theorem dX3_areJoined_13 : decode cX3_areJoined 13 = .ok (.goto 4, 3) := by decide +kernel
theorem dX3_areJoined_16 : decode cX3_areJoined 16 = .ok (.iconst 0, 1) := by decide +kernel
theorem dX3_areJoined_17 : decode cX3_areJoined 17 = .ok (.ireturn, 1) := by decide +kernel
theorem dX3_pattern_0 : decode cX3_pattern 0 = .ok (.iload_n 1, 1) := by decide +kernel
theorem dX3_pattern_1 : decode cX3_pattern 1 = .ok (.iconst 0, 1) := by decide +kernel
theorem dX3_pattern_2 : decode cX3_pattern 2 = .ok (.invokestatic 45, 3) := by decide +kernel
theorem dX3_pattern_5 : decode cX3_pattern 5 = .ok (.istore_n 3, 1) := by decide +kernel
theorem dX3_pattern_6 : decode cX3_pattern 6 = .ok (.iconst 0, 1) := by decide +kernel
theorem dX3_pattern_7 : decode cX3_pattern 7 = .ok (.istore 4, 2) := by decide +kernel
theorem dX3_pattern_9 : decode cX3_pattern 9 = .ok (.iconst 0, 1) := by decide +kernel
theorem dX3_pattern_10 : decode cX3_pattern 10 = .ok (.istore 5, 2) := by decide +kernel
theorem dX3_pattern_12 : decode cX3_pattern 12 = .ok (.iload 5, 2) := by decide +kernel
theorem dX3_pattern_14 : decode cX3_pattern 14 = .ok (.iload_n 2, 1) := by decide +kernel
theorem dX3_pattern_15 : decode cX3_pattern 15 = .ok (.if_icmp .ge 51, 3) := by decide +kernel
theorem dX3_pattern_18 : decode cX3_pattern 18 = .ok (.aload_n 0, 1) := by decide +kernel
theorem dX3_pattern_19 : decode cX3_pattern 19 = .ok (.iload_n 3, 1) := by decide +kernel
theorem dX3_pattern_20 : decode cX3_pattern 20 = .ok (.iload 5, 2) := by decide +kernel
theorem dX3_pattern_22 : decode cX3_pattern 22 = .ok (.iadd, 1) := by decide +kernel
theorem dX3_pattern_23 : decode cX3_pattern 23 = .ok (.invokevirtual 42, 3) := by decide +kernel
theorem dX3_pattern_26 : decode cX3_pattern 26 = .ok (.istore 6, 2) := by decide +kernel
theorem dX3_pattern_28 : decode cX3_pattern 28 = .ok (.iload 6, 2) := by decide +kernel
theorem dX3_pattern_30 : decode cX3_pattern 30 = .ok (.iload_n 3, 1) := by decide +kernel
theorem dX3_pattern_31 : decode cX3_pattern 31 = .ok (.ishr, 1) := by decide +kernel
theorem dX3_pattern_32 : decode cX3_pattern 32 = .ok (.bipush 31, 2) := by decide +kernel
theorem dX3_pattern_34 : decode cX3_pattern 34 = .ok (.iand, 1) := by decide +kernel
theorem dX3_pattern_35 : decode cX3_pattern 35 = .ok (.iload 6, 2) := by decide +kernel
theorem dX3_pattern_37 : decode cX3_pattern 37 = .ok (.bipush 10, 2) := by decide +kernel
theorem dX3_pattern_39 : decode cX3_pattern 39 = .ok (.ishr, 1) := by decide +kernel
theorem dX3_pattern_40 : decode cX3_pattern 40 = .ok (.iconst 1, 1) := by decide +kernel
theorem dX3_pattern_41 : decode cX3_pattern 41 = .ok (.iand, 1) := by decide +kernel
theorem dX3_pattern_42 : decode cX3_pattern 42 = .ok (.iconst 5, 1) := by decide +kernel
theorem dX3_pattern_43 : decode cX3_pattern 43 = .ok (.ishl, 1) := by decide +kernel
theorem dX3_pattern_44 : decode cX3_pattern 44 = .ok (.ior, 1) := by decide +kernel
theorem dX3_pattern_45 : decode cX3_pattern 45 = .ok (.istore 7, 2) := by decide +kernel
theorem dX3_pattern_47 : decode cX3_pattern 47 = .ok (.iload 4, 2) := by decide +kernel
theorem dX3_pattern_49 : decode cX3_pattern 49 = .ok (.iload 7, 2) := by decide +kernel
theorem dX3_pattern_51 : decode cX3_pattern 51 = .ok (.bipush 6, 2) := by decide +kernel
theorem dX3_pattern_53 : decode cX3_pattern 53 = .ok (.iload 5, 2) := by decide +kernel
theorem dX3_pattern_55 : decode cX3_pattern 55 = .ok (.imul, 1) := by decide +kernel
theorem dX3_pattern_56 : decode cX3_pattern 56 = .ok (.ishl, 1) := by decide +kernel
theorem dX3_pattern_57 : decode cX3_pattern 57 = .ok (.ior, 1) := by decide +kernel
theorem dX3_pattern_58 : decode cX3_pattern 58 = .ok (.istore 4, 2) := by decide +kernel
theorem dX3_pattern_60 : decode cX3_pattern 60 = .ok (.iinc 5 1, 3) := by decide +kernel
theorem dX3_pattern_63 : decode cX3_pattern 63 = .ok (.goto (-51), 3) := by decide +kernel
theorem dX3_pattern_66 : decode cX3_pattern 66 = .ok (.iload 4, 2) := by decide +kernel
theorem dX3_pattern_68 : decode cX3_pattern 68 = .ok (.ireturn, 1) := by decide +kernel
theorem dX3_areTied_0 : decode cX3_areTied 0 = .ok (.iload_n 0, 1) := by decide +kernel
theorem dX3_areTied_1 : decode cX3_areTied 1 = .ok (.iload_n 1, 1) := by decide +kernel
theorem dX3_areTied_2 : decode cX3_areTied 2 = .ok (.invokestatic 18, 3) := by decide +kernel
theorem dX3_areTied_5 : decode cX3_areTied 5 = .ok (.istore_n 3, 1) := by decide +kernel
theorem dX3_areTied_6 : decode cX3_areTied 6 = .ok (.iload_n 3, 1) := by decide +kernel
theorem dX3_areTied_7 : decode cX3_areTied 7 = .ok (.ifCond .eq 16, 3) := by decide +kernel
theorem dX3_areTied_10 : decode cX3_areTied 10 = .ok (.iload_n 3, 1) := by decide +kernel
theorem dX3_areTied_11 : decode cX3_areTied 11 = .ok (.iload_n 0, 1) := by decide +kernel
theorem dX3_areTied_12 : decode cX3_areTied 12 = .ok (.iload_n 2, 1) := by decide +kernel
theorem dX3_areTied_13 : decode cX3_areTied 13 = .ok (.invokestatic 18, 3) := by decide +kernel
theorem dX3_areTied_16 : decode cX3_areTied 16 = .ok (.if_icmp .ne 7, 3) := by decide +kernel
theorem dX3_areTied_19 : decode cX3_areTied 19 = .ok (.iconst 1, 1) := by decide +kernel
theorem dX3_areTied_20 : decode cX3_areTied 20 = .ok (.goto 4, 3) := by decide +kernel
theorem dX3_areTied_23 : decode cX3_areTied 23 = .ok (.iconst 0, 1) := by decide +kernel
theorem dX3_areTied_24 : decode cX3_areTied 24 = .ok (.ireturn, 1) := by decide +kernel
theorem dX3_merge_0 : decode cX3_merge 0 = .ok (.iload_n 1, 1) := by decide +kernel
theorem dX3_merge_1 : decode cX3_merge 1 = .ok (.ifCond .lt 28, 3) := by decide +kernel
theorem dX3_merge_4 : decode cX3_merge 4 = .ok (.iload_n 1, 1) := by decide +kernel
theorem dX3_merge_5 : decode cX3_merge 5 = .ok (.aload_n 0, 1) := by decide +kernel
theorem dX3_merge_6 : decode cX3_merge 6 = .ok (.arraylength, 1) := by decide +kernel
theorem dX3_merge_7 : decode cX3_merge 7 = .ok (.if_icmp .ge 22, 3) := by decide +kernel
theorem dX3_merge_10 : decode cX3_merge 10 = .ok (.iload_n 2, 1) := by decide +kernel
theorem dX3_merge_11 : decode cX3_merge 11 = .ok (.ifCond .lt 18, 3) := by decide +kernel
theorem dX3_merge_14 : decode cX3_merge 14 = .ok (.iload_n 2, 1) := by decide +kernel
theorem dX3_merge_15 : decode cX3_merge 15 = .ok (.aload_n 0, 1) := by decide +kernel
theorem dX3_merge_16 : decode cX3_merge 16 = .ok (.arraylength, 1) := by decide +kernel
theorem dX3_merge_17 : decode cX3_merge 17 = .ok (.if_icmp .ge 12, 3) := by decide +kernel
theorem dX3_merge_20 : decode cX3_merge 20 = .ok (.aload_n 0, 1) := by decide +kernel
theorem dX3_merge_21 : decode cX3_merge 21 = .ok (.iload_n 1, 1) := by decide +kernel
theorem dX3_merge_22 : decode cX3_merge 22 = .ok (.iaload, 1) := by decide +kernel
theorem dX3_merge_23 : decode cX3_merge 23 = .ok (.aload_n 0, 1) := by decide +kernel
theorem dX3_merge_24 : decode cX3_merge 24 = .ok (.iload_n 2, 1) := by decide +kernel
theorem dX3_merge_25 : decode cX3_merge 25 = .ok (.iaload, 1) := by decide +kernel
theorem dX3_merge_26 : decode cX3_merge 26 = .ok (.if_icmp .ne 4, 3) := by decide +kernel
theorem dX3_merge_29 : decode cX3_merge 29 = .ok (.return_, 1) := by decide +kernel
theorem dX3_merge_30 : decode cX3_merge 30 = .ok (.aload_n 0, 1) := by decide +kernel
theorem dX3_merge_31 : decode cX3_merge 31 = .ok (.iload_n 1, 1) := by decide +kernel
theorem dX3_merge_32 : decode cX3_merge 32 = .ok (.iaload, 1) := by decide +kernel
theorem dX3_merge_33 : decode cX3_merge 33 = .ok (.aload_n 0, 1) := by decide +kernel
theorem dX3_merge_34 : decode cX3_merge 34 = .ok (.iload_n 2, 1) := by decide +kernel
theorem dX3_merge_35 : decode cX3_merge 35 = .ok (.iaload, 1) := by decide +kernel
theorem dX3_merge_36 : decode cX3_merge 36 = .ok (.ior, 1) := by decide +kernel
theorem dX3_merge_37 : decode cX3_merge 37 = .ok (.istore_n 3, 1) := by decide +kernel
theorem dX3_merge_38 : decode cX3_merge 38 = .ok (.iconst 0, 1) := by decide +kernel
theorem dX3_merge_39 : decode cX3_merge 39 = .ok (.istore 4, 2) := by decide +kernel
theorem dX3_merge_41 : decode cX3_merge 41 = .ok (.iload 4, 2) := by decide +kernel
theorem dX3_merge_43 : decode cX3_merge 43 = .ok (.aload_n 0, 1) := by decide +kernel
theorem dX3_merge_44 : decode cX3_merge 44 = .ok (.arraylength, 1) := by decide +kernel
theorem dX3_merge_45 : decode cX3_merge 45 = .ok (.if_icmp .ge 23, 3) := by decide +kernel
theorem dX3_merge_48 : decode cX3_merge 48 = .ok (.iload_n 3, 1) := by decide +kernel
theorem dX3_merge_49 : decode cX3_merge 49 = .ok (.iload 4, 2) := by decide +kernel
theorem dX3_merge_51 : decode cX3_merge 51 = .ok (.ishr, 1) := by decide +kernel
theorem dX3_merge_52 : decode cX3_merge 52 = .ok (.iconst 1, 1) := by decide +kernel
theorem dX3_merge_53 : decode cX3_merge 53 = .ok (.iand, 1) := by decide +kernel
theorem dX3_merge_54 : decode cX3_merge 54 = .ok (.ifCond .eq 8, 3) := by decide +kernel
theorem dX3_merge_57 : decode cX3_merge 57 = .ok (.aload_n 0, 1) := by decide +kernel
theorem dX3_merge_58 : decode cX3_merge 58 = .ok (.iload 4, 2) := by decide +kernel
theorem dX3_merge_60 : decode cX3_merge 60 = .ok (.iload_n 3, 1) := by decide +kernel
theorem dX3_merge_61 : decode cX3_merge 61 = .ok (.iastore, 1) := by decide +kernel
theorem dX3_merge_62 : decode cX3_merge 62 = .ok (.iinc 4 1, 3) := by decide +kernel
theorem dX3_merge_65 : decode cX3_merge 65 = .ok (.goto (-24), 3) := by decide +kernel
theorem dX3_merge_68 : decode cX3_merge 68 = .ok (.return_, 1) := by decide +kernel
theorem dX4_init_0 : decode cX4_init 0 = .ok (.aload_n 0, 1) := by decide +kernel
theorem dX4_init_1 : decode cX4_init 1 = .ok (.invokespecial 3, 3) := by decide +kernel
theorem dX4_init_4 : decode cX4_init 4 = .ok (.aload_n 0, 1) := by decide +kernel
theorem dX4_init_5 : decode cX4_init 5 = .ok (.iconst 5, 1) := by decide +kernel
theorem dX4_init_6 : decode cX4_init 6 = .ok (.newarray .int, 2) := by decide +kernel
theorem dX4_init_8 : decode cX4_init 8 = .ok (.putfield 9, 3) := by decide +kernel
theorem dX4_init_11 : decode cX4_init 11 = .ok (.return_, 1) := by decide +kernel
theorem dX4_start_0 : decode cX4_start 0 = .ok (.iconst 0, 1) := by decide +kernel
theorem dX4_start_1 : decode cX4_start 1 = .ok (.istore_n 1, 1) := by decide +kernel
theorem dX4_start_2 : decode cX4_start 2 = .ok (.iload_n 1, 1) := by decide +kernel
theorem dX4_start_3 : decode cX4_start 3 = .ok (.iconst 5, 1) := by decide +kernel
theorem dX4_start_4 : decode cX4_start 4 = .ok (.if_icmp .ge 16, 3) := by decide +kernel
theorem dX4_start_7 : decode cX4_start 7 = .ok (.aload_n 0, 1) := by decide +kernel
theorem dX4_start_8 : decode cX4_start 8 = .ok (.getfield 9, 3) := by decide +kernel
theorem dX4_start_11 : decode cX4_start 11 = .ok (.iload_n 1, 1) := by decide +kernel
theorem dX4_start_12 : decode cX4_start 12 = .ok (.iload_n 1, 1) := by decide +kernel
theorem dX4_start_13 : decode cX4_start 13 = .ok (.iastore, 1) := by decide +kernel
theorem dX4_start_14 : decode cX4_start 14 = .ok (.iinc 1 1, 3) := by decide +kernel
theorem dX4_start_17 : decode cX4_start 17 = .ok (.goto (-15), 3) := by decide +kernel
theorem dX4_start_20 : decode cX4_start 20 = .ok (.return_, 1) := by decide +kernel
theorem dX4_advance_0 : decode cX4_advance 0 = .ok (.iload_n 1, 1) := by decide +kernel
theorem dX4_advance_1 : decode cX4_advance 1 = .ok (.iconst 5, 1) := by decide +kernel
theorem dX4_advance_2 : decode cX4_advance 2 = .ok (.invokestatic 15, 3) := by decide +kernel
theorem dX4_advance_5 : decode cX4_advance 5 = .ok (.istore_n 2, 1) := by decide +kernel
theorem dX4_advance_6 : decode cX4_advance 6 = .ok (.iload_n 2, 1) := by decide +kernel
theorem dX4_advance_7 : decode cX4_advance 7 = .ok (.iconst 2, 1) := by decide +kernel
theorem dX4_advance_8 : decode cX4_advance 8 = .ok (.isub, 1) := by decide +kernel
theorem dX4_advance_9 : decode cX4_advance 9 = .ok (.istore_n 3, 1) := by decide +kernel
theorem dX4_advance_10 : decode cX4_advance 10 = .ok (.iload_n 3, 1) := by decide +kernel
theorem dX4_advance_11 : decode cX4_advance 11 = .ok (.ifCond .lt 26, 3) := by decide +kernel
theorem dX4_advance_14 : decode cX4_advance 14 = .ok (.aload_n 0, 1) := by decide +kernel
theorem dX4_advance_15 : decode cX4_advance 15 = .ok (.getfield 9, 3) := by decide +kernel
theorem dX4_advance_18 : decode cX4_advance 18 = .ok (.iload_n 3, 1) := by decide +kernel
theorem dX4_advance_19 : decode cX4_advance 19 = .ok (.iaload, 1) := by decide +kernel
theorem dX4_advance_20 : decode cX4_advance 20 = .ok (.aload_n 0, 1) := by decide +kernel
theorem dX4_advance_21 : decode cX4_advance 21 = .ok (.getfield 9, 3) := by decide +kernel
theorem dX4_advance_24 : decode cX4_advance 24 = .ok (.iload_n 3, 1) := by decide +kernel
theorem dX4_advance_25 : decode cX4_advance 25 = .ok (.iconst 1, 1) := by decide +kernel
theorem dX4_advance_26 : decode cX4_advance 26 = .ok (.iadd, 1) := by decide +kernel
theorem dX4_advance_27 : decode cX4_advance 27 = .ok (.iaload, 1) := by decide +kernel
theorem dX4_advance_28 : decode cX4_advance 28 = .ok (.if_icmp .le 9, 3) := by decide +kernel
theorem dX4_advance_31 : decode cX4_advance 31 = .ok (.iinc 3 (-1), 3) := by decide +kernel
theorem dX4_advance_34 : decode cX4_advance 34 = .ok (.goto (-24), 3) := by decide +kernel
theorem dX4_advance_37 : decode cX4_advance 37 = .ok (.iload_n 3, 1) := by decide +kernel
theorem dX4_advance_38 : decode cX4_advance 38 = .ok (.ifCond .ge 4, 3) := by decide +kernel
theorem dX4_advance_41 : decode cX4_advance 41 = .ok (.return_, 1) := by decide +kernel
theorem dX4_advance_42 : decode cX4_advance 42 = .ok (.iload_n 2, 1) := by decide +kernel
theorem dX4_advance_43 : decode cX4_advance 43 = .ok (.iconst 1, 1) := by decide +kernel
theorem dX4_advance_44 : decode cX4_advance 44 = .ok (.isub, 1) := by decide +kernel
theorem dX4_advance_45 : decode cX4_advance 45 = .ok (.istore 4, 2) := by decide +kernel
theorem dX4_advance_47 : decode cX4_advance 47 = .ok (.iload 4, 2) := by decide +kernel
theorem dX4_advance_49 : decode cX4_advance 49 = .ok (.iload_n 3, 1) := by decide +kernel
theorem dX4_advance_50 : decode cX4_advance 50 = .ok (.iconst 1, 1) := by decide +kernel
theorem dX4_advance_51 : decode cX4_advance 51 = .ok (.iadd, 1) := by decide +kernel
theorem dX4_advance_52 : decode cX4_advance 52 = .ok (.if_icmp .le 25, 3) := by decide +kernel
theorem dX4_advance_55 : decode cX4_advance 55 = .ok (.aload_n 0, 1) := by decide +kernel
theorem dX4_advance_56 : decode cX4_advance 56 = .ok (.getfield 9, 3) := by decide +kernel
theorem dX4_advance_59 : decode cX4_advance 59 = .ok (.iload 4, 2) := by decide +kernel
theorem dX4_advance_61 : decode cX4_advance 61 = .ok (.iaload, 1) := by decide +kernel
theorem dX4_advance_62 : decode cX4_advance 62 = .ok (.aload_n 0, 1) := by decide +kernel
theorem dX4_advance_63 : decode cX4_advance 63 = .ok (.getfield 9, 3) := by decide +kernel
theorem dX4_advance_66 : decode cX4_advance 66 = .ok (.iload_n 3, 1) := by decide +kernel
theorem dX4_advance_67 : decode cX4_advance 67 = .ok (.iaload, 1) := by decide +kernel
theorem dX4_advance_68 : decode cX4_advance 68 = .ok (.if_icmp .ge 9, 3) := by decide +kernel
theorem dX4_advance_71 : decode cX4_advance 71 = .ok (.iinc 4 (-1), 3) := by decide +kernel
theorem dX4_advance_74 : decode cX4_advance 74 = .ok (.goto (-27), 3) := by decide +kernel
theorem dX4_advance_77 : decode cX4_advance 77 = .ok (.aload_n 0, 1) := by decide +kernel
theorem dX4_advance_78 : decode cX4_advance 78 = .ok (.iload_n 3, 1) := by decide +kernel
theorem dX4_advance_79 : decode cX4_advance 79 = .ok (.iload 4, 2) := by decide +kernel
theorem dX4_advance_81 : decode cX4_advance 81 = .ok (.invokevirtual 21, 3) := by decide +kernel
theorem dX4_advance_84 : decode cX4_advance 84 = .ok (.iload_n 3, 1) := by decide +kernel
theorem dX4_advance_85 : decode cX4_advance 85 = .ok (.iconst 1, 1) := by decide +kernel
theorem dX4_advance_86 : decode cX4_advance 86 = .ok (.iadd, 1) := by decide +kernel
theorem dX4_advance_87 : decode cX4_advance 87 = .ok (.istore 5, 2) := by decide +kernel
theorem dX4_advance_89 : decode cX4_advance 89 = .ok (.iload_n 2, 1) := by decide +kernel
theorem dX4_advance_90 : decode cX4_advance 90 = .ok (.iconst 1, 1) := by decide +kernel
theorem dX4_advance_91 : decode cX4_advance 91 = .ok (.isub, 1) := by decide +kernel
theorem dX4_advance_92 : decode cX4_advance 92 = .ok (.istore 6, 2) := by decide +kernel
theorem dX4_advance_94 : decode cX4_advance 94 = .ok (.iload 6, 2) := by decide +kernel
theorem dX4_advance_96 : decode cX4_advance 96 = .ok (.iload 5, 2) := by decide +kernel
theorem dX4_advance_98 : decode cX4_advance 98 = .ok (.if_icmp .le 20, 3) := by decide +kernel
theorem dX4_advance_101 : decode cX4_advance 101 = .ok (.aload_n 0, 1) := by decide +kernel
theorem dX4_advance_102 : decode cX4_advance 102 = .ok (.iload 5, 2) := by decide +kernel
theorem dX4_advance_104 : decode cX4_advance 104 = .ok (.iload 6, 2) := by decide +kernel
theorem dX4_advance_106 : decode cX4_advance 106 = .ok (.invokevirtual 21, 3) := by decide +kernel
theorem dX4_advance_109 : decode cX4_advance 109 = .ok (.iinc 5 1, 3) := by decide +kernel
theorem dX4_advance_112 : decode cX4_advance 112 = .ok (.iinc 6 (-1), 3) := by decide +kernel
theorem dX4_advance_115 : decode cX4_advance 115 = .ok (.goto (-21), 3) := by decide +kernel
theorem dX4_advance_118 : decode cX4_advance 118 = .ok (.return_, 1) := by decide +kernel
theorem dX4_swap_0 : decode cX4_swap 0 = .ok (.aload_n 0, 1) := by decide +kernel
theorem dX4_swap_1 : decode cX4_swap 1 = .ok (.getfield 9, 3) := by decide +kernel
theorem dX4_swap_4 : decode cX4_swap 4 = .ok (.iload_n 1, 1) := by decide +kernel
theorem dX4_swap_5 : decode cX4_swap 5 = .ok (.iaload, 1) := by decide +kernel
theorem dX4_swap_6 : decode cX4_swap 6 = .ok (.istore_n 3, 1) := by decide +kernel
theorem dX4_swap_7 : decode cX4_swap 7 = .ok (.aload_n 0, 1) := by decide +kernel
theorem dX4_swap_8 : decode cX4_swap 8 = .ok (.getfield 9, 3) := by decide +kernel
theorem dX4_swap_11 : decode cX4_swap 11 = .ok (.iload_n 1, 1) := by decide +kernel
theorem dX4_swap_12 : decode cX4_swap 12 = .ok (.aload_n 0, 1) := by decide +kernel
theorem dX4_swap_13 : decode cX4_swap 13 = .ok (.getfield 9, 3) := by decide +kernel
theorem dX4_swap_16 : decode cX4_swap 16 = .ok (.iload_n 2, 1) := by decide +kernel
theorem dX4_swap_17 : decode cX4_swap 17 = .ok (.iaload, 1) := by decide +kernel
theorem dX4_swap_18 : decode cX4_swap 18 = .ok (.iastore, 1) := by decide +kernel
theorem dX4_swap_19 : decode cX4_swap 19 = .ok (.aload_n 0, 1) := by decide +kernel
theorem dX4_swap_20 : decode cX4_swap 20 = .ok (.getfield 9, 3) := by decide +kernel
theorem dX4_swap_23 : decode cX4_swap 23 = .ok (.iload_n 2, 1) := by decide +kernel
theorem dX4_swap_24 : decode cX4_swap 24 = .ok (.iload_n 3, 1) := by decide +kernel
theorem dX4_swap_25 : decode cX4_swap 25 = .ok (.iastore, 1) := by decide +kernel
theorem dX4_swap_26 : decode cX4_swap 26 = .ok (.return_, 1) := by decide +kernel
theorem dX5_init_0 : decode cX5_init 0 = .ok (.aload_n 0, 1) := by decide +kernel
theorem dX5_init_1 : decode cX5_init 1 = .ok (.invokespecial 3, 3) := by decide +kernel
theorem dX5_init_4 : decode cX5_init 4 = .ok (.aload_n 0, 1) := by decide +kernel
theorem dX5_init_5 : decode cX5_init 5 = .ok (.bipush 16, 2) := by decide +kernel
theorem dX5_init_7 : decode cX5_init 7 = .ok (.anewarray 9, 3) := by decide +kernel
theorem dX5_init_10 : decode cX5_init 10 = .ok (.putfield 11, 3) := by decide +kernel
theorem dX5_init_13 : decode cX5_init 13 = .ok (.iconst 0, 1) := by decide +kernel
theorem dX5_init_14 : decode cX5_init 14 = .ok (.istore_n 1, 1) := by decide +kernel
theorem dX5_init_15 : decode cX5_init 15 = .ok (.iload_n 1, 1) := by decide +kernel
theorem dX5_init_16 : decode cX5_init 16 = .ok (.bipush 16, 2) := by decide +kernel
theorem dX5_init_18 : decode cX5_init 18 = .ok (.if_icmp .ge 22, 3) := by decide +kernel
theorem dX5_init_21 : decode cX5_init 21 = .ok (.aload_n 0, 1) := by decide +kernel
theorem dX5_init_22 : decode cX5_init 22 = .ok (.getfield 11, 3) := by decide +kernel
theorem dX5_init_25 : decode cX5_init 25 = .ok (.iload_n 1, 1) := by decide +kernel
theorem dX5_init_26 : decode cX5_init 26 = .ok (.new 9, 3) := by decide +kernel
theorem dX5_init_29 : decode cX5_init 29 = .ok (.dup, 1) := by decide +kernel
theorem dX5_init_30 : decode cX5_init 30 = .ok (.invokespecial 17, 3) := by decide +kernel
theorem dX5_init_33 : decode cX5_init 33 = .ok (.aastore, 1) := by decide +kernel
theorem dX5_init_34 : decode cX5_init 34 = .ok (.iinc 1 1, 3) := by decide +kernel
theorem dX5_init_37 : decode cX5_init 37 = .ok (.goto (-22), 3) := by decide +kernel
theorem dX5_init_40 : decode cX5_init 40 = .ok (.return_, 1) := by decide +kernel
theorem dX5_clear_0 : decode cX5_clear 0 = .ok (.aload_n 0, 1) := by decide +kernel
theorem dX5_clear_1 : decode cX5_clear 1 = .ok (.iconst 0, 1) := by decide +kernel
theorem dX5_clear_2 : decode cX5_clear 2 = .ok (.putfield 18, 3) := by decide +kernel
theorem dX5_clear_5 : decode cX5_clear 5 = .ok (.aload_n 0, 1) := by decide +kernel
theorem dX5_clear_6 : decode cX5_clear 6 = .ok (.iconst 0, 1) := by decide +kernel
theorem dX5_clear_7 : decode cX5_clear 7 = .ok (.putfield 22, 3) := by decide +kernel
theorem dX5_clear_10 : decode cX5_clear 10 = .ok (.return_, 1) := by decide +kernel
theorem dX5_remember_0 : decode cX5_remember 0 = .ok (.aload_n 0, 1) := by decide +kernel
theorem dX5_remember_1 : decode cX5_remember 1 = .ok (.getfield 22, 3) := by decide +kernel
theorem dX5_remember_4 : decode cX5_remember 4 = .ok (.ifCond .lt 12, 3) := by decide +kernel
theorem dX5_remember_7 : decode cX5_remember 7 = .ok (.aload_n 0, 1) := by decide +kernel
theorem dX5_remember_8 : decode cX5_remember 8 = .ok (.getfield 22, 3) := by decide +kernel
theorem dX5_remember_11 : decode cX5_remember 11 = .ok (.bipush 16, 2) := by decide +kernel
theorem dX5_remember_13 : decode cX5_remember 13 = .ok (.if_icmp .lt 8, 3) := by decide +kernel
theorem dX5_remember_16 : decode cX5_remember 16 = .ok (.aload_n 0, 1) := by decide +kernel
theorem dX5_remember_17 : decode cX5_remember 17 = .ok (.iconst 0, 1) := by decide +kernel
theorem dX5_remember_18 : decode cX5_remember 18 = .ok (.putfield 22, 3) := by decide +kernel
theorem dX5_remember_21 : decode cX5_remember 21 = .ok (.aload_n 0, 1) := by decide +kernel
theorem dX5_remember_22 : decode cX5_remember 22 = .ok (.getfield 11, 3) := by decide +kernel
theorem dX5_remember_25 : decode cX5_remember 25 = .ok (.aload_n 0, 1) := by decide +kernel
theorem dX5_remember_26 : decode cX5_remember 26 = .ok (.getfield 22, 3) := by decide +kernel
theorem dX5_remember_29 : decode cX5_remember 29 = .ok (.aaload, 1) := by decide +kernel
theorem dX5_remember_30 : decode cX5_remember 30 = .ok (.aload_n 1, 1) := by decide +kernel
theorem dX5_remember_31 : decode cX5_remember 31 = .ok (.invokevirtual 25, 3) := by decide +kernel
theorem dX5_remember_34 : decode cX5_remember 34 = .ok (.aload_n 0, 1) := by decide +kernel
theorem dX5_remember_35 : decode cX5_remember 35 = .ok (.aload_n 0, 1) := by decide +kernel
theorem dX5_remember_36 : decode cX5_remember 36 = .ok (.getfield 22, 3) := by decide +kernel
theorem dX5_remember_39 : decode cX5_remember 39 = .ok (.iconst 1, 1) := by decide +kernel
theorem dX5_remember_40 : decode cX5_remember 40 = .ok (.iadd, 1) := by decide +kernel
theorem dX5_remember_41 : decode cX5_remember 41 = .ok (.bipush 16, 2) := by decide +kernel
theorem dX5_remember_43 : decode cX5_remember 43 = .ok (.irem, 1) := by decide +kernel
theorem dX5_remember_44 : decode cX5_remember 44 = .ok (.putfield 22, 3) := by decide +kernel
theorem dX5_remember_47 : decode cX5_remember 47 = .ok (.aload_n 0, 1) := by decide +kernel
theorem dX5_remember_48 : decode cX5_remember 48 = .ok (.aload_n 0, 1) := by decide +kernel
theorem dX5_remember_49 : decode cX5_remember 49 = .ok (.getfield 18, 3) := by decide +kernel
theorem dX5_remember_52 : decode cX5_remember 52 = .ok (.iconst 1, 1) := by decide +kernel
theorem dX5_remember_53 : decode cX5_remember 53 = .ok (.iadd, 1) := by decide +kernel
theorem dX5_remember_54 : decode cX5_remember 54 = .ok (.bipush 16, 2) := by decide +kernel
theorem dX5_remember_56 : decode cX5_remember 56 = .ok (.invokestatic 29, 3) := by decide +kernel
theorem dX5_remember_59 : decode cX5_remember 59 = .ok (.putfield 18, 3) := by decide +kernel
theorem dX5_remember_62 : decode cX5_remember 62 = .ok (.return_, 1) := by decide +kernel
theorem dX5_restore_0 : decode cX5_restore 0 = .ok (.aload_n 0, 1) := by decide +kernel
theorem dX5_restore_1 : decode cX5_restore 1 = .ok (.getfield 18, 3) := by decide +kernel
theorem dX5_restore_4 : decode cX5_restore 4 = .ok (.ifCond .ne 4, 3) := by decide +kernel
theorem dX5_restore_7 : decode cX5_restore 7 = .ok (.return_, 1) := by decide +kernel
theorem dX5_restore_8 : decode cX5_restore 8 = .ok (.aload_n 0, 1) := by decide +kernel
theorem dX5_restore_9 : decode cX5_restore 9 = .ok (.aload_n 0, 1) := by decide +kernel
theorem dX5_restore_10 : decode cX5_restore 10 = .ok (.getfield 22, 3) := by decide +kernel
theorem dX5_restore_13 : decode cX5_restore 13 = .ok (.ifCond .le 21, 3) := by decide +kernel
theorem dX5_restore_16 : decode cX5_restore 16 = .ok (.aload_n 0, 1) := by decide +kernel
theorem dX5_restore_17 : decode cX5_restore 17 = .ok (.getfield 22, 3) := by decide +kernel
theorem dX5_restore_20 : decode cX5_restore 20 = .ok (.bipush 16, 2) := by decide +kernel
theorem dX5_restore_22 : decode cX5_restore 22 = .ok (.if_icmp .ge 12, 3) := by decide +kernel
theorem dX5_restore_25 : decode cX5_restore 25 = .ok (.aload_n 0, 1) := by decide +kernel
theorem dX5_restore_26 : decode cX5_restore 26 = .ok (.getfield 22, 3) := by decide +kernel
theorem dX5_restore_29 : decode cX5_restore 29 = .ok (.iconst 1, 1) := by decide +kernel
theorem dX5_restore_30 : decode cX5_restore 30 = .ok (.isub, 1) := by decide +kernel
theorem dX5_restore_31 : decode cX5_restore 31 = .ok (.goto 5, 3) := by decide +kernel
theorem dX5_restore_34 : decode cX5_restore 34 = .ok (.bipush 15, 2) := by decide +kernel
theorem dX5_restore_36 : decode cX5_restore 36 = .ok (.putfield 22, 3) := by decide +kernel
theorem dX5_restore_39 : decode cX5_restore 39 = .ok (.aload_n 1, 1) := by decide +kernel
theorem dX5_restore_40 : decode cX5_restore 40 = .ok (.aload_n 0, 1) := by decide +kernel
theorem dX5_restore_41 : decode cX5_restore 41 = .ok (.getfield 11, 3) := by decide +kernel
theorem dX5_restore_44 : decode cX5_restore 44 = .ok (.aload_n 0, 1) := by decide +kernel
theorem dX5_restore_45 : decode cX5_restore 45 = .ok (.getfield 22, 3) := by decide +kernel
theorem dX5_restore_48 : decode cX5_restore 48 = .ok (.aaload, 1) := by decide +kernel
theorem dX5_restore_49 : decode cX5_restore 49 = .ok (.invokevirtual 25, 3) := by decide +kernel
theorem dX5_restore_52 : decode cX5_restore 52 = .ok (.aload_n 0, 1) := by decide +kernel
theorem dX5_restore_53 : decode cX5_restore 53 = .ok (.dup, 1) := by decide +kernel
theorem dX5_restore_54 : decode cX5_restore 54 = .ok (.getfield 18, 3) := by decide +kernel
theorem dX5_restore_57 : decode cX5_restore 57 = .ok (.iconst 1, 1) := by decide +kernel
theorem dX5_restore_58 : decode cX5_restore 58 = .ok (.isub, 1) := by decide +kernel
theorem dX5_restore_59 : decode cX5_restore 59 = .ok (.putfield 18, 3) := by decide +kernel
theorem dX5_restore_62 : decode cX5_restore 62 = .ok (.return_, 1) := by decide +kernel
theorem dX6_init_0 : decode cX6_init 0 = .ok (.aload_n 0, 1) := by decide +kernel
theorem dX6_init_1 : decode cX6_init 1 = .ok (.invokespecial 3, 3) := by decide +kernel
theorem dX6_init_4 : decode cX6_init 4 = .ok (.aload_n 0, 1) := by decide +kernel
theorem dX6_init_5 : decode cX6_init 5 = .ok (.sipush 240, 3) := by decide +kernel
theorem dX6_init_8 : decode cX6_init 8 = .ok (.newarray .int, 2) := by decide +kernel
theorem dX6_init_10 : decode cX6_init 10 = .ok (.putfield 9, 3) := by decide +kernel
theorem dX6_init_13 : decode cX6_init 13 = .ok (.aload_n 0, 1) := by decide +kernel
theorem dX6_init_14 : decode cX6_init 14 = .ok (.iconst (-1), 1) := by decide +kernel
theorem dX6_init_15 : decode cX6_init 15 = .ok (.putfield 15, 3) := by decide +kernel
theorem dX6_init_18 : decode cX6_init 18 = .ok (.aload_n 0, 1) := by decide +kernel
theorem dX6_init_19 : decode cX6_init 19 = .ok (.iconst 5, 1) := by decide +kernel
theorem dX6_init_20 : decode cX6_init 20 = .ok (.newarray .int, 2) := by decide +kernel
theorem dX6_init_22 : decode cX6_init 22 = .ok (.putfield 19, 3) := by decide +kernel
theorem dX6_init_25 : decode cX6_init 25 = .ok (.return_, 1) := by decide +kernel
theorem dX6_add_0 : decode cX6_add 0 = .ok (.aload_n 0, 1) := by decide +kernel
theorem dX6_add_1 : decode cX6_add 1 = .ok (.getfield 22, 3) := by decide +kernel
theorem dX6_add_4 : decode cX6_add 4 = .ok (.ifCond .lt 13, 3) := by decide +kernel
theorem dX6_add_7 : decode cX6_add 7 = .ok (.aload_n 0, 1) := by decide +kernel
theorem dX6_add_8 : decode cX6_add 8 = .ok (.getfield 22, 3) := by decide +kernel
theorem dX6_add_11 : decode cX6_add 11 = .ok (.sipush 240, 3) := by decide +kernel
theorem dX6_add_14 : decode cX6_add 14 = .ok (.if_icmp .lt 5, 3) := by decide +kernel
theorem dX6_add_17 : decode cX6_add 17 = .ok (.iconst 0, 1) := by decide +kernel
theorem dX6_add_18 : decode cX6_add 18 = .ok (.ireturn, 1) := by decide +kernel
theorem dX6_add_19 : decode cX6_add 19 = .ok (.aload_n 0, 1) := by decide +kernel
theorem dX6_add_20 : decode cX6_add 20 = .ok (.getfield 9, 3) := by decide +kernel
theorem dX6_add_23 : decode cX6_add 23 = .ok (.aload_n 0, 1) := by decide +kernel
theorem dX6_add_24 : decode cX6_add 24 = .ok (.getfield 22, 3) := by decide +kernel
theorem dX6_add_27 : decode cX6_add 27 = .ok (.iload_n 1, 1) := by decide +kernel
theorem dX6_add_28 : decode cX6_add 28 = .ok (.iastore, 1) := by decide +kernel
theorem dX6_add_29 : decode cX6_add 29 = .ok (.aload_n 0, 1) := by decide +kernel
theorem dX6_add_30 : decode cX6_add 30 = .ok (.dup, 1) := by decide +kernel
theorem dX6_add_31 : decode cX6_add 31 = .ok (.getfield 22, 3) := by decide +kernel
theorem dX6_add_34 : decode cX6_add 34 = .ok (.iconst 1, 1) := by decide +kernel
theorem dX6_add_35 : decode cX6_add 35 = .ok (.iadd, 1) := by decide +kernel
theorem dX6_add_36 : decode cX6_add 36 = .ok (.putfield 22, 3) := by decide +kernel
theorem dX6_add_39 : decode cX6_add 39 = .ok (.iconst 1, 1) := by decide +kernel
theorem dX6_add_40 : decode cX6_add 40 = .ok (.ireturn, 1) := by decide +kernel
theorem dX6_read_0 : decode cX6_read 0 = .ok (.aload_n 0, 1) := by decide +kernel
theorem dX6_read_1 : decode cX6_read 1 = .ok (.iconst 0, 1) := by decide +kernel
theorem dX6_read_2 : decode cX6_read 2 = .ok (.putfield 25, 3) := by decide +kernel
theorem dX6_read_5 : decode cX6_read 5 = .ok (.aload_n 0, 1) := by decide +kernel
theorem dX6_read_6 : decode cX6_read 6 = .ok (.iconst 0, 1) := by decide +kernel
theorem dX6_read_7 : decode cX6_read 7 = .ok (.putfield 28, 3) := by decide +kernel
theorem dX6_read_10 : decode cX6_read 10 = .ok (.aload_n 0, 1) := by decide +kernel
theorem dX6_read_11 : decode cX6_read 11 = .ok (.iconst 0, 1) := by decide +kernel
theorem dX6_read_12 : decode cX6_read 12 = .ok (.putfield 31, 3) := by decide +kernel
theorem dX6_read_15 : decode cX6_read 15 = .ok (.aload_n 0, 1) := by decide +kernel
theorem dX6_read_16 : decode cX6_read 16 = .ok (.iconst 0, 1) := by decide +kernel
theorem dX6_read_17 : decode cX6_read 17 = .ok (.putfield 34, 3) := by decide +kernel
theorem dX6_read_20 : decode cX6_read 20 = .ok (.aload_n 0, 1) := by decide +kernel
theorem dX6_read_21 : decode cX6_read 21 = .ok (.iconst 0, 1) := by decide +kernel
theorem dX6_read_22 : decode cX6_read 22 = .ok (.putfield 37, 3) := by decide +kernel
theorem dX6_read_25 : decode cX6_read 25 = .ok (.aload_n 0, 1) := by decide +kernel
theorem dX6_read_26 : decode cX6_read 26 = .ok (.iconst (-1), 1) := by decide +kernel
theorem dX6_read_27 : decode cX6_read 27 = .ok (.putfield 15, 3) := by decide +kernel
theorem dX6_read_30 : decode cX6_read 30 = .ok (.aload_n 0, 1) := by decide +kernel
theorem dX6_read_31 : decode cX6_read 31 = .ok (.invokevirtual 40, 3) := by decide +kernel
theorem dX6_read_34 : decode cX6_read 34 = .ok (.iconst (-1), 1) := by decide +kernel
theorem dX6_read_35 : decode cX6_read 35 = .ok (.if_icmp .eq 41, 3) := by decide +kernel
theorem dX6_read_38 : decode cX6_read 38 = .ok (.aload_n 0, 1) := by decide +kernel
theorem dX6_read_39 : decode cX6_read 39 = .ok (.invokevirtual 44, 3) := by decide +kernel
theorem dX6_read_42 : decode cX6_read 42 = .ok (.iconst 0, 1) := by decide +kernel
theorem dX6_read_43 : decode cX6_read 43 = .ok (.istore_n 1, 1) := by decide +kernel
theorem dX6_read_44 : decode cX6_read 44 = .ok (.iload_n 1, 1) := by decide +kernel
theorem dX6_read_45 : decode cX6_read 45 = .ok (.sipush 240, 3) := by decide +kernel
theorem dX6_read_48 : decode cX6_read 48 = .ok (.if_icmp .ge 28, 3) := by decide +kernel
theorem dX6_read_51 : decode cX6_read 51 = .ok (.aload_n 0, 1) := by decide +kernel
theorem dX6_read_52 : decode cX6_read 52 = .ok (.getfield 37, 3) := by decide +kernel
theorem dX6_read_55 : decode cX6_read 55 = .ok (.ifCond .ne 21, 3) := by decide +kernel
theorem dX6_read_58 : decode cX6_read 58 = .ok (.aload_n 0, 1) := by decide +kernel
theorem dX6_read_59 : decode cX6_read 59 = .ok (.invokevirtual 40, 3) := by decide +kernel
theorem dX6_read_62 : decode cX6_read 62 = .ok (.iconst (-1), 1) := by decide +kernel
theorem dX6_read_63 : decode cX6_read 63 = .ok (.if_icmp .eq 13, 3) := by decide +kernel
theorem dX6_read_66 : decode cX6_read 66 = .ok (.aload_n 0, 1) := by decide +kernel
theorem dX6_read_67 : decode cX6_read 67 = .ok (.invokevirtual 47, 3) := by decide +kernel
theorem dX6_read_70 : decode cX6_read 70 = .ok (.iinc 1 1, 3) := by decide +kernel
theorem dX6_read_73 : decode cX6_read 73 = .ok (.goto (-29), 3) := by decide +kernel
theorem dX6_read_76 : decode cX6_read 76 = .ok (.aload_n 0, 1) := by decide +kernel
theorem dX6_read_77 : decode cX6_read 77 = .ok (.iconst 0, 1) := by decide +kernel
theorem dX6_read_78 : decode cX6_read 78 = .ok (.putfield 22, 3) := by decide +kernel
theorem dX6_read_81 : decode cX6_read 81 = .ok (.return_, 1) := by decide +kernel
theorem dX6_readOrder_0 : decode cX6_readOrder 0 = .ok (.aload_n 0, 1) := by decide +kernel
theorem dX6_readOrder_1 : decode cX6_readOrder 1 = .ok (.bipush 99, 2) := by decide +kernel
theorem dX6_readOrder_3 : decode cX6_readOrder 3 = .ok (.invokevirtual 50, 3) := by decide +kernel
theorem dX6_readOrder_6 : decode cX6_readOrder 6 = .ok (.ifCond .ne 4, 3) := by decide +kernel
theorem dX6_readOrder_9 : decode cX6_readOrder 9 = .ok (.return_, 1) := by decide +kernel
theorem dX6_readOrder_10 : decode cX6_readOrder 10 = .ok (.iconst 0, 1) := by decide +kernel
theorem dX6_readOrder_11 : decode cX6_readOrder 11 = .ok (.istore_n 1, 1) := by decide +kernel
theorem dX6_readOrder_12 : decode cX6_readOrder 12 = .ok (.iconst 0, 1) := by decide +kernel
theorem dX6_readOrder_13 : decode cX6_readOrder 13 = .ok (.istore_n 2, 1) := by decide +kernel
theorem dX6_readOrder_14 : decode cX6_readOrder 14 = .ok (.iload_n 2, 1) := by decide +kernel
theorem dX6_readOrder_15 : decode cX6_readOrder 15 = .ok (.iconst 5, 1) := by decide +kernel
theorem dX6_readOrder_16 : decode cX6_readOrder 16 = .ok (.if_icmp .ge 176, 3) := by decide +kernel
theorem dX6_readOrder_19 : decode cX6_readOrder 19 = .ok (.aload_n 0, 1) := by decide +kernel
theorem dX6_readOrder_20 : decode cX6_readOrder 20 = .ok (.iconst 0, 1) := by decide +kernel
theorem dX6_readOrder_21 : decode cX6_readOrder 21 = .ok (.iconst 4, 1) := by decide +kernel
theorem dX6_readOrder_22 : decode cX6_readOrder 22 = .ok (.invokevirtual 54, 3) := by decide +kernel
theorem dX6_readOrder_25 : decode cX6_readOrder 25 = .ok (.ifCond .eq 26, 3) := by decide +kernel
theorem dX6_readOrder_28 : decode cX6_readOrder 28 = .ok (.aload_n 0, 1) := by decide +kernel
theorem dX6_readOrder_29 : decode cX6_readOrder 29 = .ok (.iload_n 1, 1) := by decide +kernel
theorem dX6_readOrder_30 : decode cX6_readOrder 30 = .ok (.aload_n 0, 1) := by decide +kernel
theorem dX6_readOrder_31 : decode cX6_readOrder 31 = .ok (.getfield 58, 3) := by decide +kernel
theorem dX6_readOrder_34 : decode cX6_readOrder 34 = .ok (.ishr, 1) := by decide +kernel
theorem dX6_readOrder_35 : decode cX6_readOrder 35 = .ok (.iconst 1, 1) := by decide +kernel
theorem dX6_readOrder_36 : decode cX6_readOrder 36 = .ok (.iand, 1) := by decide +kernel
theorem dX6_readOrder_37 : decode cX6_readOrder 37 = .ok (.ifCond .ne 7, 3) := by decide +kernel
theorem dX6_readOrder_40 : decode cX6_readOrder 40 = .ok (.iconst 1, 1) := by decide +kernel
theorem dX6_readOrder_41 : decode cX6_readOrder 41 = .ok (.goto 4, 3) := by decide +kernel
theorem dX6_readOrder_44 : decode cX6_readOrder 44 = .ok (.iconst 0, 1) := by decide +kernel
theorem dX6_readOrder_45 : decode cX6_readOrder 45 = .ok (.invokevirtual 61, 3) := by decide +kernel
theorem dX6_readOrder_48 : decode cX6_readOrder 48 = .ok (.ifCond .ne 4, 3) := by decide +kernel
theorem dX6_readOrder_51 : decode cX6_readOrder 51 = .ok (.return_, 1) := by decide +kernel
theorem dX6_readOrder_52 : decode cX6_readOrder 52 = .ok (.iload_n 1, 1) := by decide +kernel
theorem dX6_readOrder_53 : decode cX6_readOrder 53 = .ok (.iconst 1, 1) := by decide +kernel
theorem dX6_readOrder_54 : decode cX6_readOrder 54 = .ok (.aload_n 0, 1) := by decide +kernel
theorem dX6_readOrder_55 : decode cX6_readOrder 55 = .ok (.getfield 58, 3) := by decide +kernel
theorem dX6_readOrder_58 : decode cX6_readOrder 58 = .ok (.ishl, 1) := by decide +kernel
theorem dX6_readOrder_59 : decode cX6_readOrder 59 = .ok (.ior, 1) := by decide +kernel
theorem dX6_readOrder_60 : decode cX6_readOrder 60 = .ok (.istore_n 1, 1) := by decide +kernel
theorem dX6_readOrder_61 : decode cX6_readOrder 61 = .ok (.aload_n 0, 1) := by decide +kernel
theorem dX6_readOrder_62 : decode cX6_readOrder 62 = .ok (.getfield 19, 3) := by decide +kernel
theorem dX6_readOrder_65 : decode cX6_readOrder 65 = .ok (.iload_n 2, 1) := by decide +kernel
theorem dX6_readOrder_66 : decode cX6_readOrder 66 = .ok (.aload_n 0, 1) := by decide +kernel
theorem dX6_readOrder_67 : decode cX6_readOrder 67 = .ok (.getfield 58, 3) := by decide +kernel
theorem dX6_readOrder_70 : decode cX6_readOrder 70 = .ok (.iastore, 1) := by decide +kernel
theorem dX6_readOrder_71 : decode cX6_readOrder 71 = .ok (.aload_n 0, 1) := by decide +kernel
theorem dX6_readOrder_72 : decode cX6_readOrder 72 = .ok (.iload_n 2, 1) := by decide +kernel
theorem dX6_readOrder_73 : decode cX6_readOrder 73 = .ok (.iconst 1, 1) := by decide +kernel
theorem dX6_readOrder_74 : decode cX6_readOrder 74 = .ok (.iadd, 1) := by decide +kernel
theorem dX6_readOrder_75 : decode cX6_readOrder 75 = .ok (.putfield 28, 3) := by decide +kernel
theorem dX6_readOrder_78 : decode cX6_readOrder 78 = .ok (.aload_n 0, 1) := by decide +kernel
theorem dX6_readOrder_79 : decode cX6_readOrder 79 = .ok (.getfield 28, 3) := by decide +kernel
theorem dX6_readOrder_82 : decode cX6_readOrder 82 = .ok (.iconst 2, 1) := by decide +kernel
theorem dX6_readOrder_83 : decode cX6_readOrder 83 = .ok (.if_icmp .lt 19, 3) := by decide +kernel
theorem dX6_readOrder_86 : decode cX6_readOrder 86 = .ok (.iload_n 1, 1) := by decide +kernel
theorem dX6_readOrder_87 : decode cX6_readOrder 87 = .ok (.iconst 1, 1) := by decide +kernel
theorem dX6_readOrder_88 : decode cX6_readOrder 88 = .ok (.aload_n 0, 1) := by decide +kernel
theorem dX6_readOrder_89 : decode cX6_readOrder 89 = .ok (.getfield 28, 3) := by decide +kernel
theorem dX6_readOrder_92 : decode cX6_readOrder 92 = .ok (.ishl, 1) := by decide +kernel
theorem dX6_readOrder_93 : decode cX6_readOrder 93 = .ok (.iconst 1, 1) := by decide +kernel
theorem dX6_readOrder_94 : decode cX6_readOrder 94 = .ok (.isub, 1) := by decide +kernel
theorem dX6_readOrder_95 : decode cX6_readOrder 95 = .ok (.if_icmp .ne 7, 3) := by decide +kernel
theorem dX6_readOrder_98 : decode cX6_readOrder 98 = .ok (.iconst 1, 1) := by decide +kernel
theorem dX6_readOrder_99 : decode cX6_readOrder 99 = .ok (.goto 4, 3) := by decide +kernel
theorem dX6_readOrder_102 : decode cX6_readOrder 102 = .ok (.iconst 0, 1) := by decide +kernel
theorem dX6_readOrder_103 : decode cX6_readOrder 103 = .ok (.istore_n 3, 1) := by decide +kernel
theorem dX6_readOrder_104 : decode cX6_readOrder 104 = .ok (.aload_n 0, 1) := by decide +kernel
theorem dX6_readOrder_105 : decode cX6_readOrder 105 = .ok (.invokevirtual 40, 3) := by decide +kernel
theorem dX6_readOrder_108 : decode cX6_readOrder 108 = .ok (.istore 4, 2) := by decide +kernel
theorem dX6_readOrder_110 : decode cX6_readOrder 110 = .ok (.iload 4, 2) := by decide +kernel
theorem dX6_readOrder_112 : decode cX6_readOrder 112 = .ok (.bipush 59, 2) := by decide +kernel
theorem dX6_readOrder_114 : decode cX6_readOrder 114 = .ok (.if_icmp .ne 11, 3) := by decide +kernel
theorem dX6_readOrder_117 : decode cX6_readOrder 117 = .ok (.iload_n 3, 1) := by decide +kernel
theorem dX6_readOrder_118 : decode cX6_readOrder 118 = .ok (.ifCond .eq 7, 3) := by decide +kernel
theorem dX6_readOrder_121 : decode cX6_readOrder 121 = .ok (.iconst 1, 1) := by decide +kernel
theorem dX6_readOrder_122 : decode cX6_readOrder 122 = .ok (.goto 4, 3) := by decide +kernel
theorem dX6_readOrder_125 : decode cX6_readOrder 125 = .ok (.iconst 0, 1) := by decide +kernel
theorem dX6_readOrder_126 : decode cX6_readOrder 126 = .ok (.istore 5, 2) := by decide +kernel
theorem dX6_readOrder_128 : decode cX6_readOrder 128 = .ok (.iload 4, 2) := by decide +kernel
theorem dX6_readOrder_130 : decode cX6_readOrder 130 = .ok (.bipush 44, 2) := by decide +kernel
theorem dX6_readOrder_132 : decode cX6_readOrder 132 = .ok (.if_icmp .ne 15, 3) := by decide +kernel
theorem dX6_readOrder_135 : decode cX6_readOrder 135 = .ok (.aload_n 0, 1) := by decide +kernel
theorem dX6_readOrder_136 : decode cX6_readOrder 136 = .ok (.getfield 28, 3) := by decide +kernel
theorem dX6_readOrder_139 : decode cX6_readOrder 139 = .ok (.iconst 5, 1) := by decide +kernel
theorem dX6_readOrder_140 : decode cX6_readOrder 140 = .ok (.if_icmp .ge 7, 3) := by decide +kernel
theorem dX6_readOrder_143 : decode cX6_readOrder 143 = .ok (.iconst 1, 1) := by decide +kernel
theorem dX6_readOrder_144 : decode cX6_readOrder 144 = .ok (.goto 4, 3) := by decide +kernel
theorem dX6_readOrder_147 : decode cX6_readOrder 147 = .ok (.iconst 0, 1) := by decide +kernel
theorem dX6_readOrder_148 : decode cX6_readOrder 148 = .ok (.istore 6, 2) := by decide +kernel
theorem dX6_readOrder_150 : decode cX6_readOrder 150 = .ok (.iload 5, 2) := by decide +kernel
theorem dX6_readOrder_152 : decode cX6_readOrder 152 = .ok (.ifCond .ne 18, 3) := by decide +kernel
theorem dX6_readOrder_155 : decode cX6_readOrder 155 = .ok (.iload 6, 2) := by decide +kernel
theorem dX6_readOrder_157 : decode cX6_readOrder 157 = .ok (.ifCond .ne 13, 3) := by decide +kernel
theorem dX6_readOrder_160 : decode cX6_readOrder 160 = .ok (.aload_n 0, 1) := by decide +kernel
theorem dX6_readOrder_161 : decode cX6_readOrder 161 = .ok (.iconst 1, 1) := by decide +kernel
theorem dX6_readOrder_162 : decode cX6_readOrder 162 = .ok (.aload_n 0, 1) := by decide +kernel
theorem dX6_readOrder_163 : decode cX6_readOrder 163 = .ok (.getfield 25, 3) := by decide +kernel
theorem dX6_readOrder_166 : decode cX6_readOrder 166 = .ok (.invokevirtual 65, 3) := by decide +kernel
theorem dX6_readOrder_169 : decode cX6_readOrder 169 = .ok (.return_, 1) := by decide +kernel
theorem dX6_readOrder_170 : decode cX6_readOrder 170 = .ok (.aload_n 0, 1) := by decide +kernel
theorem dX6_readOrder_171 : decode cX6_readOrder 171 = .ok (.dup, 1) := by decide +kernel
theorem dX6_readOrder_172 : decode cX6_readOrder 172 = .ok (.getfield 25, 3) := by decide +kernel
theorem dX6_readOrder_175 : decode cX6_readOrder 175 = .ok (.iconst 1, 1) := by decide +kernel
theorem dX6_readOrder_176 : decode cX6_readOrder 176 = .ok (.iadd, 1) := by decide +kernel
theorem dX6_readOrder_177 : decode cX6_readOrder 177 = .ok (.putfield 25, 3) := by decide +kernel
theorem dX6_readOrder_180 : decode cX6_readOrder 180 = .ok (.iload 5, 2) := by decide +kernel
theorem dX6_readOrder_182 : decode cX6_readOrder 182 = .ok (.ifCond .eq 4, 3) := by decide +kernel
theorem dX6_readOrder_185 : decode cX6_readOrder 185 = .ok (.return_, 1) := by decide +kernel
theorem dX6_readOrder_186 : decode cX6_readOrder 186 = .ok (.iinc 2 1, 3) := by decide +kernel
theorem dX6_readOrder_189 : decode cX6_readOrder 189 = .ok (.goto (-175), 3) := by decide +kernel
theorem dX6_readOrder_192 : decode cX6_readOrder 192 = .ok (.return_, 1) := by decide +kernel
theorem dX6_readClause_0 : decode cX6_readClause 0 = .ok (.aload_n 0, 1) := by decide +kernel
theorem dX6_readClause_1 : decode cX6_readClause 1 = .ok (.invokevirtual 40, 3) := by decide +kernel
theorem dX6_readClause_4 : decode cX6_readClause 4 = .ok (.istore_n 1, 1) := by decide +kernel
theorem dX6_readClause_5 : decode cX6_readClause 5 = .ok (.iload_n 1, 1) := by decide +kernel
theorem dX6_readClause_6 : decode cX6_readClause 6 = .ok (.bipush 107, 2) := by decide +kernel
theorem dX6_readClause_8 : decode cX6_readClause 8 = .ok (.if_icmp .ne 20, 3) := by decide +kernel
theorem dX6_readClause_11 : decode cX6_readClause 11 = .ok (.aload_n 0, 1) := by decide +kernel
theorem dX6_readClause_12 : decode cX6_readClause 12 = .ok (.dup, 1) := by decide +kernel
theorem dX6_readClause_13 : decode cX6_readClause 13 = .ok (.getfield 25, 3) := by decide +kernel
theorem dX6_readClause_16 : decode cX6_readClause 16 = .ok (.iconst 1, 1) := by decide +kernel
theorem dX6_readClause_17 : decode cX6_readClause 17 = .ok (.iadd, 1) := by decide +kernel
theorem dX6_readClause_18 : decode cX6_readClause 18 = .ok (.putfield 25, 3) := by decide +kernel
theorem dX6_readClause_21 : decode cX6_readClause 21 = .ok (.aload_n 0, 1) := by decide +kernel
theorem dX6_readClause_22 : decode cX6_readClause 22 = .ok (.invokevirtual 69, 3) := by decide +kernel
theorem dX6_readClause_25 : decode cX6_readClause 25 = .ok (.goto 45, 3) := by decide +kernel
theorem dX6_readClause_28 : decode cX6_readClause 28 = .ok (.iload_n 1, 1) := by decide +kernel
theorem dX6_readClause_29 : decode cX6_readClause 29 = .ok (.bipush 115, 2) := by decide +kernel
theorem dX6_readClause_31 : decode cX6_readClause 31 = .ok (.if_icmp .ne 20, 3) := by decide +kernel
theorem dX6_readClause_34 : decode cX6_readClause 34 = .ok (.aload_n 0, 1) := by decide +kernel
theorem dX6_readClause_35 : decode cX6_readClause 35 = .ok (.dup, 1) := by decide +kernel
theorem dX6_readClause_36 : decode cX6_readClause 36 = .ok (.getfield 25, 3) := by decide +kernel
theorem dX6_readClause_39 : decode cX6_readClause 39 = .ok (.iconst 1, 1) := by decide +kernel
theorem dX6_readClause_40 : decode cX6_readClause 40 = .ok (.iadd, 1) := by decide +kernel
theorem dX6_readClause_41 : decode cX6_readClause 41 = .ok (.putfield 25, 3) := by decide +kernel
theorem dX6_readClause_44 : decode cX6_readClause 44 = .ok (.aload_n 0, 1) := by decide +kernel
theorem dX6_readClause_45 : decode cX6_readClause 45 = .ok (.invokevirtual 72, 3) := by decide +kernel
theorem dX6_readClause_48 : decode cX6_readClause 48 = .ok (.goto 22, 3) := by decide +kernel
theorem dX6_readClause_51 : decode cX6_readClause 51 = .ok (.aload_n 0, 1) := by decide +kernel
theorem dX6_readClause_52 : decode cX6_readClause 52 = .ok (.iload_n 1, 1) := by decide +kernel
theorem dX6_readClause_53 : decode cX6_readClause 53 = .ok (.bipush 99, 2) := by decide +kernel
theorem dX6_readClause_55 : decode cX6_readClause 55 = .ok (.if_icmp .ne 7, 3) := by decide +kernel
theorem dX6_readClause_58 : decode cX6_readClause 58 = .ok (.iconst 3, 1) := by decide +kernel
theorem dX6_readClause_59 : decode cX6_readClause 59 = .ok (.goto 4, 3) := by decide +kernel
theorem dX6_readClause_62 : decode cX6_readClause 62 = .ok (.iconst 1, 1) := by decide +kernel
theorem dX6_readClause_63 : decode cX6_readClause 63 = .ok (.aload_n 0, 1) := by decide +kernel
theorem dX6_readClause_64 : decode cX6_readClause 64 = .ok (.getfield 25, 3) := by decide +kernel
theorem dX6_readClause_67 : decode cX6_readClause 67 = .ok (.invokevirtual 65, 3) := by decide +kernel
theorem dX6_readClause_70 : decode cX6_readClause 70 = .ok (.return_, 1) := by decide +kernel
theorem dX6_readKind_0 : decode cX6_readKind 0 = .ok (.aload_n 0, 1) := by decide +kernel
theorem dX6_readKind_1 : decode cX6_readKind 1 = .ok (.iconst 0, 1) := by decide +kernel
theorem dX6_readKind_2 : decode cX6_readKind 2 = .ok (.aload_n 0, 1) := by decide +kernel
theorem dX6_readKind_3 : decode cX6_readKind 3 = .ok (.getfield 28, 3) := by decide +kernel
theorem dX6_readKind_6 : decode cX6_readKind 6 = .ok (.iconst 1, 1) := by decide +kernel
theorem dX6_readKind_7 : decode cX6_readKind 7 = .ok (.isub, 1) := by decide +kernel
theorem dX6_readKind_8 : decode cX6_readKind 8 = .ok (.invokevirtual 54, 3) := by decide +kernel
theorem dX6_readKind_11 : decode cX6_readKind 11 = .ok (.ifCond .eq 29, 3) := by decide +kernel
theorem dX6_readKind_14 : decode cX6_readKind 14 = .ok (.aload_n 0, 1) := by decide +kernel
theorem dX6_readKind_15 : decode cX6_readKind 15 = .ok (.aload_n 0, 1) := by decide +kernel
theorem dX6_readKind_16 : decode cX6_readKind 16 = .ok (.getfield 31, 3) := by decide +kernel
theorem dX6_readKind_19 : decode cX6_readKind 19 = .ok (.aload_n 0, 1) := by decide +kernel
theorem dX6_readKind_20 : decode cX6_readKind 20 = .ok (.getfield 58, 3) := by decide +kernel
theorem dX6_readKind_23 : decode cX6_readKind 23 = .ok (.invokestatic 75, 3) := by decide +kernel
theorem dX6_readKind_26 : decode cX6_readKind 26 = .ok (.ifCond .ne 7, 3) := by decide +kernel
theorem dX6_readKind_29 : decode cX6_readKind 29 = .ok (.iconst 1, 1) := by decide +kernel
theorem dX6_readKind_30 : decode cX6_readKind 30 = .ok (.goto 4, 3) := by decide +kernel
theorem dX6_readKind_33 : decode cX6_readKind 33 = .ok (.iconst 0, 1) := by decide +kernel
theorem dX6_readKind_34 : decode cX6_readKind 34 = .ok (.invokevirtual 61, 3) := by decide +kernel
theorem dX6_readKind_37 : decode cX6_readKind 37 = .ok (.ifCond .ne 4, 3) := by decide +kernel
theorem dX6_readKind_40 : decode cX6_readKind 40 = .ok (.return_, 1) := by decide +kernel
theorem dX6_readKind_41 : decode cX6_readKind 41 = .ok (.aload_n 0, 1) := by decide +kernel
theorem dX6_readKind_42 : decode cX6_readKind 42 = .ok (.getfield 58, 3) := by decide +kernel
theorem dX6_readKind_45 : decode cX6_readKind 45 = .ok (.istore_n 1, 1) := by decide +kernel
theorem dX6_readKind_46 : decode cX6_readKind 46 = .ok (.aload_n 0, 1) := by decide +kernel
theorem dX6_readKind_47 : decode cX6_readKind 47 = .ok (.iconst 1, 1) := by decide +kernel
theorem dX6_readKind_48 : decode cX6_readKind 48 = .ok (.iconst 3, 1) := by decide +kernel
theorem dX6_readKind_49 : decode cX6_readKind 49 = .ok (.invokevirtual 54, 3) := by decide +kernel
theorem dX6_readKind_52 : decode cX6_readKind 52 = .ok (.ifCond .eq 26, 3) := by decide +kernel
theorem dX6_readKind_55 : decode cX6_readKind 55 = .ok (.aload_n 0, 1) := by decide +kernel
theorem dX6_readKind_56 : decode cX6_readKind 56 = .ok (.aload_n 0, 1) := by decide +kernel
theorem dX6_readKind_57 : decode cX6_readKind 57 = .ok (.getfield 31, 3) := by decide +kernel
theorem dX6_readKind_60 : decode cX6_readKind 60 = .ok (.iload_n 1, 1) := by decide +kernel
theorem dX6_readKind_61 : decode cX6_readKind 61 = .ok (.aload_n 0, 1) := by decide +kernel
theorem dX6_readKind_62 : decode cX6_readKind 62 = .ok (.getfield 58, 3) := by decide +kernel
theorem dX6_readKind_65 : decode cX6_readKind 65 = .ok (.invokestatic 79, 3) := by decide +kernel
theorem dX6_readKind_68 : decode cX6_readKind 68 = .ok (.putfield 31, 3) := by decide +kernel
theorem dX6_readKind_71 : decode cX6_readKind 71 = .ok (.aload_n 0, 1) := by decide +kernel
theorem dX6_readKind_72 : decode cX6_readKind 72 = .ok (.bipush 59, 2) := by decide +kernel
theorem dX6_readKind_74 : decode cX6_readKind 74 = .ok (.invokevirtual 50, 3) := by decide +kernel
theorem dX6_readKind_77 : decode cX6_readKind 77 = .ok (.pop, 1) := by decide +kernel
theorem dX6_readKind_78 : decode cX6_readKind 78 = .ok (.return_, 1) := by decide +kernel
theorem dX6_readTouch_0 : decode cX6_readTouch 0 = .ok (.aload_n 0, 1) := by decide +kernel
theorem dX6_readTouch_1 : decode cX6_readTouch 1 = .ok (.iconst 0, 1) := by decide +kernel
theorem dX6_readTouch_2 : decode cX6_readTouch 2 = .ok (.aload_n 0, 1) := by decide +kernel
theorem dX6_readTouch_3 : decode cX6_readTouch 3 = .ok (.getfield 28, 3) := by decide +kernel
theorem dX6_readTouch_6 : decode cX6_readTouch 6 = .ok (.iconst 1, 1) := by decide +kernel
theorem dX6_readTouch_7 : decode cX6_readTouch 7 = .ok (.isub, 1) := by decide +kernel
theorem dX6_readTouch_8 : decode cX6_readTouch 8 = .ok (.invokevirtual 54, 3) := by decide +kernel
theorem dX6_readTouch_11 : decode cX6_readTouch 11 = .ok (.ifCond .ne 4, 3) := by decide +kernel
theorem dX6_readTouch_14 : decode cX6_readTouch 14 = .ok (.return_, 1) := by decide +kernel
theorem dX6_readTouch_15 : decode cX6_readTouch 15 = .ok (.aload_n 0, 1) := by decide +kernel
theorem dX6_readTouch_16 : decode cX6_readTouch 16 = .ok (.getfield 58, 3) := by decide +kernel
theorem dX6_readTouch_19 : decode cX6_readTouch 19 = .ok (.istore_n 1, 1) := by decide +kernel
theorem dX6_readTouch_20 : decode cX6_readTouch 20 = .ok (.aload_n 0, 1) := by decide +kernel
theorem dX6_readTouch_21 : decode cX6_readTouch 21 = .ok (.iconst 0, 1) := by decide +kernel
theorem dX6_readTouch_22 : decode cX6_readTouch 22 = .ok (.aload_n 0, 1) := by decide +kernel
theorem dX6_readTouch_23 : decode cX6_readTouch 23 = .ok (.getfield 28, 3) := by decide +kernel
theorem dX6_readTouch_26 : decode cX6_readTouch 26 = .ok (.iconst 1, 1) := by decide +kernel
theorem dX6_readTouch_27 : decode cX6_readTouch 27 = .ok (.isub, 1) := by decide +kernel
theorem dX6_readTouch_28 : decode cX6_readTouch 28 = .ok (.invokevirtual 54, 3) := by decide +kernel
theorem dX6_readTouch_31 : decode cX6_readTouch 31 = .ok (.ifCond .ne 4, 3) := by decide +kernel
theorem dX6_readTouch_34 : decode cX6_readTouch 34 = .ok (.return_, 1) := by decide +kernel
theorem dX6_readTouch_35 : decode cX6_readTouch 35 = .ok (.iload_n 1, 1) := by decide +kernel
theorem dX6_readTouch_36 : decode cX6_readTouch 36 = .ok (.aload_n 0, 1) := by decide +kernel
theorem dX6_readTouch_37 : decode cX6_readTouch 37 = .ok (.getfield 58, 3) := by decide +kernel
theorem dX6_readTouch_40 : decode cX6_readTouch 40 = .ok (.invokestatic 83, 3) := by decide +kernel
theorem dX6_readTouch_43 : decode cX6_readTouch 43 = .ok (.istore_n 2, 1) := by decide +kernel
theorem dX6_readTouch_44 : decode cX6_readTouch 44 = .ok (.aload_n 0, 1) := by decide +kernel
theorem dX6_readTouch_45 : decode cX6_readTouch 45 = .ok (.iload_n 1, 1) := by decide +kernel
theorem dX6_readTouch_46 : decode cX6_readTouch 46 = .ok (.aload_n 0, 1) := by decide +kernel
theorem dX6_readTouch_47 : decode cX6_readTouch 47 = .ok (.getfield 58, 3) := by decide +kernel
theorem dX6_readTouch_50 : decode cX6_readTouch 50 = .ok (.if_icmp .eq 16, 3) := by decide +kernel
theorem dX6_readTouch_53 : decode cX6_readTouch 53 = .ok (.aload_n 0, 1) := by decide +kernel
theorem dX6_readTouch_54 : decode cX6_readTouch 54 = .ok (.getfield 34, 3) := by decide +kernel
theorem dX6_readTouch_57 : decode cX6_readTouch 57 = .ok (.iload_n 2, 1) := by decide +kernel
theorem dX6_readTouch_58 : decode cX6_readTouch 58 = .ok (.iand, 1) := by decide +kernel
theorem dX6_readTouch_59 : decode cX6_readTouch 59 = .ok (.ifCond .ne 7, 3) := by decide +kernel
theorem dX6_readTouch_62 : decode cX6_readTouch 62 = .ok (.iconst 1, 1) := by decide +kernel
theorem dX6_readTouch_63 : decode cX6_readTouch 63 = .ok (.goto 4, 3) := by decide +kernel
theorem dX6_readTouch_66 : decode cX6_readTouch 66 = .ok (.iconst 0, 1) := by decide +kernel
theorem dX6_readTouch_67 : decode cX6_readTouch 67 = .ok (.invokevirtual 61, 3) := by decide +kernel
theorem dX6_readTouch_70 : decode cX6_readTouch 70 = .ok (.ifCond .eq 20, 3) := by decide +kernel
theorem dX6_readTouch_73 : decode cX6_readTouch 73 = .ok (.aload_n 0, 1) := by decide +kernel
theorem dX6_readTouch_74 : decode cX6_readTouch 74 = .ok (.dup, 1) := by decide +kernel
theorem dX6_readTouch_75 : decode cX6_readTouch 75 = .ok (.getfield 34, 3) := by decide +kernel
theorem dX6_readTouch_78 : decode cX6_readTouch 78 = .ok (.iload_n 2, 1) := by decide +kernel
theorem dX6_readTouch_79 : decode cX6_readTouch 79 = .ok (.ior, 1) := by decide +kernel
theorem dX6_readTouch_80 : decode cX6_readTouch 80 = .ok (.putfield 34, 3) := by decide +kernel
theorem dX6_readTouch_83 : decode cX6_readTouch 83 = .ok (.aload_n 0, 1) := by decide +kernel
theorem dX6_readTouch_84 : decode cX6_readTouch 84 = .ok (.bipush 59, 2) := by decide +kernel
theorem dX6_readTouch_86 : decode cX6_readTouch 86 = .ok (.invokevirtual 50, 3) := by decide +kernel
theorem dX6_readTouch_89 : decode cX6_readTouch 89 = .ok (.pop, 1) := by decide +kernel
theorem dX6_readTouch_90 : decode cX6_readTouch 90 = .ok (.return_, 1) := by decide +kernel
theorem dX6_upNext_0 : decode cX6_upNext 0 = .ok (.aload_n 0, 1) := by decide +kernel
theorem dX6_upNext_1 : decode cX6_upNext 1 = .ok (.getfield 25, 3) := by decide +kernel
theorem dX6_upNext_4 : decode cX6_upNext 4 = .ok (.aload_n 0, 1) := by decide +kernel
theorem dX6_upNext_5 : decode cX6_upNext 5 = .ok (.getfield 22, 3) := by decide +kernel
theorem dX6_upNext_8 : decode cX6_upNext 8 = .ok (.if_icmp .ge 40, 3) := by decide +kernel
theorem dX6_upNext_11 : decode cX6_upNext 11 = .ok (.aload_n 0, 1) := by decide +kernel
theorem dX6_upNext_12 : decode cX6_upNext 12 = .ok (.getfield 25, 3) := by decide +kernel
theorem dX6_upNext_15 : decode cX6_upNext 15 = .ok (.sipush 240, 3) := by decide +kernel
theorem dX6_upNext_18 : decode cX6_upNext 18 = .ok (.if_icmp .ge 30, 3) := by decide +kernel
theorem dX6_upNext_21 : decode cX6_upNext 21 = .ok (.aload_n 0, 1) := by decide +kernel
theorem dX6_upNext_22 : decode cX6_upNext 22 = .ok (.getfield 9, 3) := by decide +kernel
theorem dX6_upNext_25 : decode cX6_upNext 25 = .ok (.aload_n 0, 1) := by decide +kernel
theorem dX6_upNext_26 : decode cX6_upNext 26 = .ok (.getfield 25, 3) := by decide +kernel
theorem dX6_upNext_29 : decode cX6_upNext 29 = .ok (.iaload, 1) := by decide +kernel
theorem dX6_upNext_30 : decode cX6_upNext 30 = .ok (.bipush 32, 2) := by decide +kernel
theorem dX6_upNext_32 : decode cX6_upNext 32 = .ok (.if_icmp .ne 16, 3) := by decide +kernel
theorem dX6_upNext_35 : decode cX6_upNext 35 = .ok (.aload_n 0, 1) := by decide +kernel
theorem dX6_upNext_36 : decode cX6_upNext 36 = .ok (.dup, 1) := by decide +kernel
theorem dX6_upNext_37 : decode cX6_upNext 37 = .ok (.getfield 25, 3) := by decide +kernel
theorem dX6_upNext_40 : decode cX6_upNext 40 = .ok (.iconst 1, 1) := by decide +kernel
theorem dX6_upNext_41 : decode cX6_upNext 41 = .ok (.iadd, 1) := by decide +kernel
theorem dX6_upNext_42 : decode cX6_upNext 42 = .ok (.putfield 25, 3) := by decide +kernel
theorem dX6_upNext_45 : decode cX6_upNext 45 = .ok (.goto (-45), 3) := by decide +kernel
theorem dX6_upNext_48 : decode cX6_upNext 48 = .ok (.aload_n 0, 1) := by decide +kernel
theorem dX6_upNext_49 : decode cX6_upNext 49 = .ok (.aload_n 0, 1) := by decide +kernel
theorem dX6_upNext_50 : decode cX6_upNext 50 = .ok (.getfield 25, 3) := by decide +kernel
theorem dX6_upNext_53 : decode cX6_upNext 53 = .ok (.invokevirtual 86, 3) := by decide +kernel
theorem dX6_upNext_56 : decode cX6_upNext 56 = .ok (.ireturn, 1) := by decide +kernel
theorem dX6_letterAt_0 : decode cX6_letterAt 0 = .ok (.iload_n 1, 1) := by decide +kernel
theorem dX6_letterAt_1 : decode cX6_letterAt 1 = .ok (.ifCond .lt 27, 3) := by decide +kernel
theorem dX6_letterAt_4 : decode cX6_letterAt 4 = .ok (.iload_n 1, 1) := by decide +kernel
theorem dX6_letterAt_5 : decode cX6_letterAt 5 = .ok (.aload_n 0, 1) := by decide +kernel
theorem dX6_letterAt_6 : decode cX6_letterAt 6 = .ok (.getfield 22, 3) := by decide +kernel
theorem dX6_letterAt_9 : decode cX6_letterAt 9 = .ok (.if_icmp .ge 19, 3) := by decide +kernel
theorem dX6_letterAt_12 : decode cX6_letterAt 12 = .ok (.iload_n 1, 1) := by decide +kernel
theorem dX6_letterAt_13 : decode cX6_letterAt 13 = .ok (.sipush 240, 3) := by decide +kernel
theorem dX6_letterAt_16 : decode cX6_letterAt 16 = .ok (.if_icmp .ge 12, 3) := by decide +kernel
theorem dX6_letterAt_19 : decode cX6_letterAt 19 = .ok (.aload_n 0, 1) := by decide +kernel
theorem dX6_letterAt_20 : decode cX6_letterAt 20 = .ok (.getfield 9, 3) := by decide +kernel
theorem dX6_letterAt_23 : decode cX6_letterAt 23 = .ok (.iload_n 1, 1) := by decide +kernel
theorem dX6_letterAt_24 : decode cX6_letterAt 24 = .ok (.iaload, 1) := by decide +kernel
theorem dX6_letterAt_25 : decode cX6_letterAt 25 = .ok (.goto 4, 3) := by decide +kernel
theorem dX6_letterAt_28 : decode cX6_letterAt 28 = .ok (.iconst (-1), 1) := by decide +kernel
theorem dX6_letterAt_29 : decode cX6_letterAt 29 = .ok (.ireturn, 1) := by decide +kernel
theorem dX6_takeWord_0 : decode cX6_takeWord 0 = .ok (.aload_n 0, 1) := by decide +kernel
theorem dX6_takeWord_1 : decode cX6_takeWord 1 = .ok (.invokevirtual 40, 3) := by decide +kernel
theorem dX6_takeWord_4 : decode cX6_takeWord 4 = .ok (.iload_n 1, 1) := by decide +kernel
theorem dX6_takeWord_5 : decode cX6_takeWord 5 = .ok (.if_icmp .eq 14, 3) := by decide +kernel
theorem dX6_takeWord_8 : decode cX6_takeWord 8 = .ok (.aload_n 0, 1) := by decide +kernel
theorem dX6_takeWord_9 : decode cX6_takeWord 9 = .ok (.iconst 1, 1) := by decide +kernel
theorem dX6_takeWord_10 : decode cX6_takeWord 10 = .ok (.aload_n 0, 1) := by decide +kernel
theorem dX6_takeWord_11 : decode cX6_takeWord 11 = .ok (.getfield 25, 3) := by decide +kernel
theorem dX6_takeWord_14 : decode cX6_takeWord 14 = .ok (.invokevirtual 65, 3) := by decide +kernel
theorem dX6_takeWord_17 : decode cX6_takeWord 17 = .ok (.iconst 0, 1) := by decide +kernel
theorem dX6_takeWord_18 : decode cX6_takeWord 18 = .ok (.ireturn, 1) := by decide +kernel
theorem dX6_takeWord_19 : decode cX6_takeWord 19 = .ok (.aload_n 0, 1) := by decide +kernel
theorem dX6_takeWord_20 : decode cX6_takeWord 20 = .ok (.dup, 1) := by decide +kernel
theorem dX6_takeWord_21 : decode cX6_takeWord 21 = .ok (.getfield 25, 3) := by decide +kernel
theorem dX6_takeWord_24 : decode cX6_takeWord 24 = .ok (.iconst 1, 1) := by decide +kernel
theorem dX6_takeWord_25 : decode cX6_takeWord 25 = .ok (.iadd, 1) := by decide +kernel
theorem dX6_takeWord_26 : decode cX6_takeWord 26 = .ok (.putfield 25, 3) := by decide +kernel
theorem dX6_takeWord_29 : decode cX6_takeWord 29 = .ok (.iconst 1, 1) := by decide +kernel
theorem dX6_takeWord_30 : decode cX6_takeWord 30 = .ok (.ireturn, 1) := by decide +kernel
theorem dX6_takeNumberWithin_0 : decode cX6_takeNumberWithin 0 = .ok (.aload_n 0, 1) := by decide +kernel
theorem dX6_takeNumberWithin_1 : decode cX6_takeNumberWithin 1 = .ok (.invokevirtual 40, 3) := by decide +kernel
theorem dX6_takeNumberWithin_4 : decode cX6_takeNumberWithin 4 = .ok (.invokestatic 90, 3) := by decide +kernel
theorem dX6_takeNumberWithin_7 : decode cX6_takeNumberWithin 7 = .ok (.ifCond .ne 14, 3) := by decide +kernel
theorem dX6_takeNumberWithin_10 : decode cX6_takeNumberWithin 10 = .ok (.aload_n 0, 1) := by decide +kernel
theorem dX6_takeNumberWithin_11 : decode cX6_takeNumberWithin 11 = .ok (.iconst 1, 1) := by decide +kernel
theorem dX6_takeNumberWithin_12 : decode cX6_takeNumberWithin 12 = .ok (.aload_n 0, 1) := by decide +kernel
theorem dX6_takeNumberWithin_13 : decode cX6_takeNumberWithin 13 = .ok (.getfield 25, 3) := by decide +kernel
theorem dX6_takeNumberWithin_16 : decode cX6_takeNumberWithin 16 = .ok (.invokevirtual 65, 3) := by decide +kernel
theorem dX6_takeNumberWithin_19 : decode cX6_takeNumberWithin 19 = .ok (.iconst 0, 1) := by decide +kernel
theorem dX6_takeNumberWithin_20 : decode cX6_takeNumberWithin 20 = .ok (.ireturn, 1) := by decide +kernel
theorem dX6_takeNumberWithin_21 : decode cX6_takeNumberWithin 21 = .ok (.aload_n 0, 1) := by decide +kernel
theorem dX6_takeNumberWithin_22 : decode cX6_takeNumberWithin 22 = .ok (.iconst 0, 1) := by decide +kernel
theorem dX6_takeNumberWithin_23 : decode cX6_takeNumberWithin 23 = .ok (.putfield 58, 3) := by decide +kernel
theorem dX6_takeNumberWithin_26 : decode cX6_takeNumberWithin 26 = .ok (.aload_n 0, 1) := by decide +kernel
theorem dX6_takeNumberWithin_27 : decode cX6_takeNumberWithin 27 = .ok (.aload_n 0, 1) := by decide +kernel
theorem dX6_takeNumberWithin_28 : decode cX6_takeNumberWithin 28 = .ok (.getfield 25, 3) := by decide +kernel
theorem dX6_takeNumberWithin_31 : decode cX6_takeNumberWithin 31 = .ok (.putfield 93, 3) := by decide +kernel
theorem dX6_takeNumberWithin_34 : decode cX6_takeNumberWithin 34 = .ok (.aload_n 0, 1) := by decide +kernel
theorem dX6_takeNumberWithin_35 : decode cX6_takeNumberWithin 35 = .ok (.getfield 25, 3) := by decide +kernel
theorem dX6_takeNumberWithin_38 : decode cX6_takeNumberWithin 38 = .ok (.aload_n 0, 1) := by decide +kernel
theorem dX6_takeNumberWithin_39 : decode cX6_takeNumberWithin 39 = .ok (.getfield 22, 3) := by decide +kernel
theorem dX6_takeNumberWithin_42 : decode cX6_takeNumberWithin 42 = .ok (.if_icmp .ge 53, 3) := by decide +kernel
theorem dX6_takeNumberWithin_45 : decode cX6_takeNumberWithin 45 = .ok (.aload_n 0, 1) := by decide +kernel
theorem dX6_takeNumberWithin_46 : decode cX6_takeNumberWithin 46 = .ok (.aload_n 0, 1) := by decide +kernel
theorem dX6_takeNumberWithin_47 : decode cX6_takeNumberWithin 47 = .ok (.getfield 25, 3) := by decide +kernel
theorem dX6_takeNumberWithin_50 : decode cX6_takeNumberWithin 50 = .ok (.invokevirtual 86, 3) := by decide +kernel
theorem dX6_takeNumberWithin_53 : decode cX6_takeNumberWithin 53 = .ok (.invokestatic 90, 3) := by decide +kernel
theorem dX6_takeNumberWithin_56 : decode cX6_takeNumberWithin 56 = .ok (.ifCond .eq 39, 3) := by decide +kernel
theorem dX6_takeNumberWithin_59 : decode cX6_takeNumberWithin 59 = .ok (.aload_n 0, 1) := by decide +kernel
theorem dX6_takeNumberWithin_60 : decode cX6_takeNumberWithin 60 = .ok (.aload_n 0, 1) := by decide +kernel
theorem dX6_takeNumberWithin_61 : decode cX6_takeNumberWithin 61 = .ok (.getfield 58, 3) := by decide +kernel
theorem dX6_takeNumberWithin_64 : decode cX6_takeNumberWithin 64 = .ok (.bipush 10, 2) := by decide +kernel
theorem dX6_takeNumberWithin_66 : decode cX6_takeNumberWithin 66 = .ok (.imul, 1) := by decide +kernel
theorem dX6_takeNumberWithin_67 : decode cX6_takeNumberWithin 67 = .ok (.aload_n 0, 1) := by decide +kernel
theorem dX6_takeNumberWithin_68 : decode cX6_takeNumberWithin 68 = .ok (.aload_n 0, 1) := by decide +kernel
theorem dX6_takeNumberWithin_69 : decode cX6_takeNumberWithin 69 = .ok (.getfield 25, 3) := by decide +kernel
theorem dX6_takeNumberWithin_72 : decode cX6_takeNumberWithin 72 = .ok (.invokevirtual 86, 3) := by decide +kernel
theorem dX6_takeNumberWithin_75 : decode cX6_takeNumberWithin 75 = .ok (.iadd, 1) := by decide +kernel
theorem dX6_takeNumberWithin_76 : decode cX6_takeNumberWithin 76 = .ok (.bipush 48, 2) := by decide +kernel
theorem dX6_takeNumberWithin_78 : decode cX6_takeNumberWithin 78 = .ok (.isub, 1) := by decide +kernel
theorem dX6_takeNumberWithin_79 : decode cX6_takeNumberWithin 79 = .ok (.putfield 58, 3) := by decide +kernel
theorem dX6_takeNumberWithin_82 : decode cX6_takeNumberWithin 82 = .ok (.aload_n 0, 1) := by decide +kernel
theorem dX6_takeNumberWithin_83 : decode cX6_takeNumberWithin 83 = .ok (.dup, 1) := by decide +kernel
theorem dX6_takeNumberWithin_84 : decode cX6_takeNumberWithin 84 = .ok (.getfield 25, 3) := by decide +kernel
theorem dX6_takeNumberWithin_87 : decode cX6_takeNumberWithin 87 = .ok (.iconst 1, 1) := by decide +kernel
theorem dX6_takeNumberWithin_88 : decode cX6_takeNumberWithin 88 = .ok (.iadd, 1) := by decide +kernel
theorem dX6_takeNumberWithin_89 : decode cX6_takeNumberWithin 89 = .ok (.putfield 25, 3) := by decide +kernel
theorem dX6_takeNumberWithin_92 : decode cX6_takeNumberWithin 92 = .ok (.goto (-58), 3) := by decide +kernel
theorem dX6_takeNumberWithin_95 : decode cX6_takeNumberWithin 95 = .ok (.aload_n 0, 1) := by decide +kernel
theorem dX6_takeNumberWithin_96 : decode cX6_takeNumberWithin 96 = .ok (.getfield 25, 3) := by decide +kernel
theorem dX6_takeNumberWithin_99 : decode cX6_takeNumberWithin 99 = .ok (.aload_n 0, 1) := by decide +kernel
theorem dX6_takeNumberWithin_100 : decode cX6_takeNumberWithin 100 = .ok (.getfield 93, 3) := by decide +kernel
theorem dX6_takeNumberWithin_103 : decode cX6_takeNumberWithin 103 = .ok (.isub, 1) := by decide +kernel
theorem dX6_takeNumberWithin_104 : decode cX6_takeNumberWithin 104 = .ok (.iconst 3, 1) := by decide +kernel
theorem dX6_takeNumberWithin_105 : decode cX6_takeNumberWithin 105 = .ok (.if_icmp .gt 19, 3) := by decide +kernel
theorem dX6_takeNumberWithin_108 : decode cX6_takeNumberWithin 108 = .ok (.aload_n 0, 1) := by decide +kernel
theorem dX6_takeNumberWithin_109 : decode cX6_takeNumberWithin 109 = .ok (.getfield 58, 3) := by decide +kernel
theorem dX6_takeNumberWithin_112 : decode cX6_takeNumberWithin 112 = .ok (.iload_n 1, 1) := by decide +kernel
theorem dX6_takeNumberWithin_113 : decode cX6_takeNumberWithin 113 = .ok (.if_icmp .lt 11, 3) := by decide +kernel
theorem dX6_takeNumberWithin_116 : decode cX6_takeNumberWithin 116 = .ok (.aload_n 0, 1) := by decide +kernel
theorem dX6_takeNumberWithin_117 : decode cX6_takeNumberWithin 117 = .ok (.getfield 58, 3) := by decide +kernel
theorem dX6_takeNumberWithin_120 : decode cX6_takeNumberWithin 120 = .ok (.iload_n 2, 1) := by decide +kernel
theorem dX6_takeNumberWithin_121 : decode cX6_takeNumberWithin 121 = .ok (.if_icmp .le 14, 3) := by decide +kernel
theorem dX6_takeNumberWithin_124 : decode cX6_takeNumberWithin 124 = .ok (.aload_n 0, 1) := by decide +kernel
theorem dX6_takeNumberWithin_125 : decode cX6_takeNumberWithin 125 = .ok (.iconst 2, 1) := by decide +kernel
theorem dX6_takeNumberWithin_126 : decode cX6_takeNumberWithin 126 = .ok (.aload_n 0, 1) := by decide +kernel
theorem dX6_takeNumberWithin_127 : decode cX6_takeNumberWithin 127 = .ok (.getfield 93, 3) := by decide +kernel
theorem dX6_takeNumberWithin_130 : decode cX6_takeNumberWithin 130 = .ok (.invokevirtual 65, 3) := by decide +kernel
theorem dX6_takeNumberWithin_133 : decode cX6_takeNumberWithin 133 = .ok (.iconst 0, 1) := by decide +kernel
theorem dX6_takeNumberWithin_134 : decode cX6_takeNumberWithin 134 = .ok (.ireturn, 1) := by decide +kernel
theorem dX6_takeNumberWithin_135 : decode cX6_takeNumberWithin 135 = .ok (.iconst 1, 1) := by decide +kernel
theorem dX6_takeNumberWithin_136 : decode cX6_takeNumberWithin 136 = .ok (.ireturn, 1) := by decide +kernel
theorem dX6_isNew_0 : decode cX6_isNew 0 = .ok (.iload_n 1, 1) := by decide +kernel
theorem dX6_isNew_1 : decode cX6_isNew 1 = .ok (.ifCond .ne 12, 3) := by decide +kernel
theorem dX6_isNew_4 : decode cX6_isNew 4 = .ok (.aload_n 0, 1) := by decide +kernel
theorem dX6_isNew_5 : decode cX6_isNew 5 = .ok (.iconst 4, 1) := by decide +kernel
theorem dX6_isNew_6 : decode cX6_isNew 6 = .ok (.aload_n 0, 1) := by decide +kernel
theorem dX6_isNew_7 : decode cX6_isNew 7 = .ok (.getfield 93, 3) := by decide +kernel
theorem dX6_isNew_10 : decode cX6_isNew 10 = .ok (.invokevirtual 65, 3) := by decide +kernel
theorem dX6_isNew_13 : decode cX6_isNew 13 = .ok (.iload_n 1, 1) := by decide +kernel
theorem dX6_isNew_14 : decode cX6_isNew 14 = .ok (.ireturn, 1) := by decide +kernel
theorem dX6_isFigure_0 : decode cX6_isFigure 0 = .ok (.iload_n 0, 1) := by decide +kernel
theorem dX6_isFigure_1 : decode cX6_isFigure 1 = .ok (.bipush 48, 2) := by decide +kernel
theorem dX6_isFigure_3 : decode cX6_isFigure 3 = .ok (.if_icmp .lt 13, 3) := by decide +kernel
theorem dX6_isFigure_6 : decode cX6_isFigure 6 = .ok (.iload_n 0, 1) := by decide +kernel
theorem dX6_isFigure_7 : decode cX6_isFigure 7 = .ok (.bipush 57, 2) := by decide +kernel
theorem dX6_isFigure_9 : decode cX6_isFigure 9 = .ok (.if_icmp .gt 7, 3) := by decide +kernel
theorem dX6_isFigure_12 : decode cX6_isFigure 12 = .ok (.iconst 1, 1) := by decide +kernel
theorem dX6_isFigure_13 : decode cX6_isFigure 13 = .ok (.goto 4, 3) := by decide +kernel
theorem dX6_isFigure_16 : decode cX6_isFigure 16 = .ok (.iconst 0, 1) := by decide +kernel
theorem dX6_isFigure_17 : decode cX6_isFigure 17 = .ok (.ireturn, 1) := by decide +kernel
theorem dX6_blame_0 : decode cX6_blame 0 = .ok (.aload_n 0, 1) := by decide +kernel
theorem dX6_blame_1 : decode cX6_blame 1 = .ok (.iload_n 1, 1) := by decide +kernel
theorem dX6_blame_2 : decode cX6_blame 2 = .ok (.putfield 37, 3) := by decide +kernel
theorem dX6_blame_5 : decode cX6_blame 5 = .ok (.aload_n 0, 1) := by decide +kernel
theorem dX6_blame_6 : decode cX6_blame 6 = .ok (.iload_n 2, 1) := by decide +kernel
theorem dX6_blame_7 : decode cX6_blame 7 = .ok (.putfield 15, 3) := by decide +kernel
theorem dX6_blame_10 : decode cX6_blame 10 = .ok (.return_, 1) := by decide +kernel
theorem dX7_init_0 : decode cX7_init 0 = .ok (.aload_n 0, 1) := by decide +kernel
theorem dX7_init_1 : decode cX7_init 1 = .ok (.invokespecial 1, 3) := by decide +kernel
theorem dX7_init_4 : decode cX7_init 4 = .ok (.aload_n 0, 1) := by decide +kernel
theorem dX7_init_5 : decode cX7_init 5 = .ok (.new 7, 3) := by decide +kernel
theorem dX7_init_8 : decode cX7_init 8 = .ok (.dup, 1) := by decide +kernel
theorem dX7_init_9 : decode cX7_init 9 = .ok (.invokespecial 9, 3) := by decide +kernel
theorem dX7_init_12 : decode cX7_init 12 = .ok (.putfield 10, 3) := by decide +kernel
theorem dX7_init_15 : decode cX7_init 15 = .ok (.return_, 1) := by decide +kernel
theorem dX7_take_0 : decode cX7_take 0 = .ok (.aload_n 0, 1) := by decide +kernel
theorem dX7_take_1 : decode cX7_take 1 = .ok (.aload_n 1, 1) := by decide +kernel
theorem dX7_take_2 : decode cX7_take 2 = .ok (.getfield 16, 3) := by decide +kernel
theorem dX7_take_5 : decode cX7_take 5 = .ok (.putfield 22, 3) := by decide +kernel
theorem dX7_take_8 : decode cX7_take 8 = .ok (.aload_n 0, 1) := by decide +kernel
theorem dX7_take_9 : decode cX7_take 9 = .ok (.aload_n 1, 1) := by decide +kernel
theorem dX7_take_10 : decode cX7_take 10 = .ok (.getfield 23, 3) := by decide +kernel
theorem dX7_take_13 : decode cX7_take 13 = .ok (.putfield 26, 3) := by decide +kernel
theorem dX7_take_16 : decode cX7_take 16 = .ok (.aload_n 0, 1) := by decide +kernel
theorem dX7_take_17 : decode cX7_take 17 = .ok (.aload_n 1, 1) := by decide +kernel
theorem dX7_take_18 : decode cX7_take 18 = .ok (.getfield 27, 3) := by decide +kernel
theorem dX7_take_21 : decode cX7_take 21 = .ok (.putfield 30, 3) := by decide +kernel
theorem dX7_take_24 : decode cX7_take 24 = .ok (.aload_n 0, 1) := by decide +kernel
theorem dX7_take_25 : decode cX7_take 25 = .ok (.iload_n 2, 1) := by decide +kernel
theorem dX7_take_26 : decode cX7_take 26 = .ok (.putfield 33, 3) := by decide +kernel
theorem dX7_take_29 : decode cX7_take 29 = .ok (.aload_n 0, 1) := by decide +kernel
theorem dX7_take_30 : decode cX7_take 30 = .ok (.iload_n 3, 1) := by decide +kernel
theorem dX7_take_31 : decode cX7_take 31 = .ok (.putfield 36, 3) := by decide +kernel
theorem dX7_take_34 : decode cX7_take 34 = .ok (.aload_n 0, 1) := by decide +kernel
theorem dX7_take_35 : decode cX7_take 35 = .ok (.iload 4, 2) := by decide +kernel
theorem dX7_take_37 : decode cX7_take 37 = .ok (.putfield 39, 3) := by decide +kernel
theorem dX7_take_40 : decode cX7_take 40 = .ok (.return_, 1) := by decide +kernel
theorem dX7_lay_0 : decode cX7_lay 0 = .ok (.aload_n 0, 1) := by decide +kernel
theorem dX7_lay_1 : decode cX7_lay 1 = .ok (.getfield 10, 3) := by decide +kernel
theorem dX7_lay_4 : decode cX7_lay 4 = .ok (.iload_n 1, 1) := by decide +kernel
theorem dX7_lay_5 : decode cX7_lay 5 = .ok (.iload_n 2, 1) := by decide +kernel
theorem dX7_lay_6 : decode cX7_lay 6 = .ok (.aload_n 0, 1) := by decide +kernel
theorem dX7_lay_7 : decode cX7_lay 7 = .ok (.getfield 22, 3) := by decide +kernel
theorem dX7_lay_10 : decode cX7_lay 10 = .ok (.aload_n 0, 1) := by decide +kernel
theorem dX7_lay_11 : decode cX7_lay 11 = .ok (.getfield 26, 3) := by decide +kernel
theorem dX7_lay_14 : decode cX7_lay 14 = .ok (.invokevirtual 43, 3) := by decide +kernel
theorem dX7_lay_17 : decode cX7_lay 17 = .ok (.aload_n 0, 1) := by decide +kernel
theorem dX7_lay_18 : decode cX7_lay 18 = .ok (.iload_n 1, 1) := by decide +kernel
theorem dX7_lay_19 : decode cX7_lay 19 = .ok (.aload_n 0, 1) := by decide +kernel
theorem dX7_lay_20 : decode cX7_lay 20 = .ok (.getfield 30, 3) := by decide +kernel
theorem dX7_lay_23 : decode cX7_lay 23 = .ok (.invokestatic 47, 3) := by decide +kernel
theorem dX7_lay_26 : decode cX7_lay 26 = .ok (.putfield 53, 3) := by decide +kernel
theorem dX7_lay_29 : decode cX7_lay 29 = .ok (.return_, 1) := by decide +kernel
theorem dX7_fits_0 : decode cX7_fits 0 = .ok (.aload_n 0, 1) := by decide +kernel
theorem dX7_fits_1 : decode cX7_fits 1 = .ok (.getfield 10, 3) := by decide +kernel
theorem dX7_fits_4 : decode cX7_fits 4 = .ok (.aload_n 1, 1) := by decide +kernel
theorem dX7_fits_5 : decode cX7_fits 5 = .ok (.iload_n 2, 1) := by decide +kernel
theorem dX7_fits_6 : decode cX7_fits 6 = .ok (.aload_n 0, 1) := by decide +kernel
theorem dX7_fits_7 : decode cX7_fits 7 = .ok (.getfield 53, 3) := by decide +kernel
theorem dX7_fits_10 : decode cX7_fits 10 = .ok (.invokevirtual 55, 3) := by decide +kernel
theorem dX7_fits_13 : decode cX7_fits 13 = .ok (.aload_n 0, 1) := by decide +kernel
theorem dX7_fits_14 : decode cX7_fits 14 = .ok (.getfield 10, 3) := by decide +kernel
theorem dX7_fits_17 : decode cX7_fits 17 = .ok (.aload_n 0, 1) := by decide +kernel
theorem dX7_fits_18 : decode cX7_fits 18 = .ok (.getfield 33, 3) := by decide +kernel
theorem dX7_fits_21 : decode cX7_fits 21 = .ok (.aload_n 0, 1) := by decide +kernel
theorem dX7_fits_22 : decode cX7_fits 22 = .ok (.getfield 36, 3) := by decide +kernel
theorem dX7_fits_25 : decode cX7_fits 25 = .ok (.invokevirtual 59, 3) := by decide +kernel
theorem dX7_fits_28 : decode cX7_fits 28 = .ok (.aload_n 0, 1) := by decide +kernel
theorem dX7_fits_29 : decode cX7_fits 29 = .ok (.getfield 39, 3) := by decide +kernel
theorem dX7_fits_32 : decode cX7_fits 32 = .ok (.if_icmp .ne 7, 3) := by decide +kernel
theorem dX7_fits_35 : decode cX7_fits 35 = .ok (.iconst 1, 1) := by decide +kernel
theorem dX7_fits_36 : decode cX7_fits 36 = .ok (.goto 4, 3) := by decide +kernel
theorem dX7_fits_39 : decode cX7_fits 39 = .ok (.iconst 0, 1) := by decide +kernel
theorem dX7_fits_40 : decode cX7_fits 40 = .ok (.ireturn, 1) := by decide +kernel
theorem dX8_init_0 : decode cX8_init 0 = .ok (.aload_n 0, 1) := by decide +kernel
theorem dX8_init_1 : decode cX8_init 1 = .ok (.invokespecial 3, 3) := by decide +kernel
theorem dX8_init_4 : decode cX8_init 4 = .ok (.return_, 1) := by decide +kernel
theorem dX8_begin_0 : decode cX8_begin 0 = .ok (.aload_n 0, 1) := by decide +kernel
theorem dX8_begin_1 : decode cX8_begin 1 = .ok (.iload_n 1, 1) := by decide +kernel
theorem dX8_begin_2 : decode cX8_begin 2 = .ok (.putfield 9, 3) := by decide +kernel
theorem dX8_begin_5 : decode cX8_begin 5 = .ok (.aload_n 0, 1) := by decide +kernel
theorem dX8_begin_6 : decode cX8_begin 6 = .ok (.iload_n 2, 1) := by decide +kernel
theorem dX8_begin_7 : decode cX8_begin 7 = .ok (.putfield 15, 3) := by decide +kernel
theorem dX8_begin_10 : decode cX8_begin 10 = .ok (.aload_n 0, 1) := by decide +kernel
theorem dX8_begin_11 : decode cX8_begin 11 = .ok (.iconst 0, 1) := by decide +kernel
theorem dX8_begin_12 : decode cX8_begin 12 = .ok (.putfield 18, 3) := by decide +kernel
theorem dX8_begin_15 : decode cX8_begin 15 = .ok (.aload_n 0, 1) := by decide +kernel
theorem dX8_begin_16 : decode cX8_begin 16 = .ok (.iconst 0, 1) := by decide +kernel
theorem dX8_begin_17 : decode cX8_begin 17 = .ok (.putfield 21, 3) := by decide +kernel
theorem dX8_begin_20 : decode cX8_begin 20 = .ok (.aload_n 0, 1) := by decide +kernel
theorem dX8_begin_21 : decode cX8_begin 21 = .ok (.iconst 0, 1) := by decide +kernel
theorem dX8_begin_22 : decode cX8_begin 22 = .ok (.putfield 24, 3) := by decide +kernel
theorem dX8_begin_25 : decode cX8_begin 25 = .ok (.aload_n 0, 1) := by decide +kernel
theorem dX8_begin_26 : decode cX8_begin 26 = .ok (.iconst 0, 1) := by decide +kernel
theorem dX8_begin_27 : decode cX8_begin 27 = .ok (.putfield 27, 3) := by decide +kernel
theorem dX8_begin_30 : decode cX8_begin 30 = .ok (.aload_n 0, 1) := by decide +kernel
theorem dX8_begin_31 : decode cX8_begin 31 = .ok (.iconst 0, 1) := by decide +kernel
theorem dX8_begin_32 : decode cX8_begin 32 = .ok (.putfield 30, 3) := by decide +kernel
theorem dX8_begin_35 : decode cX8_begin 35 = .ok (.aload_n 0, 1) := by decide +kernel
theorem dX8_begin_36 : decode cX8_begin 36 = .ok (.iconst 0, 1) := by decide +kernel
theorem dX8_begin_37 : decode cX8_begin 37 = .ok (.putfield 33, 3) := by decide +kernel
theorem dX8_begin_40 : decode cX8_begin 40 = .ok (.return_, 1) := by decide +kernel
theorem dX8_become_0 : decode cX8_become 0 = .ok (.aload_n 0, 1) := by decide +kernel
theorem dX8_become_1 : decode cX8_become 1 = .ok (.aload_n 1, 1) := by decide +kernel
theorem dX8_become_2 : decode cX8_become 2 = .ok (.getfield 9, 3) := by decide +kernel
theorem dX8_become_5 : decode cX8_become 5 = .ok (.putfield 9, 3) := by decide +kernel
theorem dX8_become_8 : decode cX8_become 8 = .ok (.aload_n 0, 1) := by decide +kernel
theorem dX8_become_9 : decode cX8_become 9 = .ok (.aload_n 1, 1) := by decide +kernel
theorem dX8_become_10 : decode cX8_become 10 = .ok (.getfield 15, 3) := by decide +kernel
theorem dX8_become_13 : decode cX8_become 13 = .ok (.putfield 15, 3) := by decide +kernel
theorem dX8_become_16 : decode cX8_become 16 = .ok (.aload_n 0, 1) := by decide +kernel
theorem dX8_become_17 : decode cX8_become 17 = .ok (.aload_n 1, 1) := by decide +kernel
theorem dX8_become_18 : decode cX8_become 18 = .ok (.getfield 18, 3) := by decide +kernel
theorem dX8_become_21 : decode cX8_become 21 = .ok (.putfield 18, 3) := by decide +kernel
theorem dX8_become_24 : decode cX8_become 24 = .ok (.aload_n 0, 1) := by decide +kernel
theorem dX8_become_25 : decode cX8_become 25 = .ok (.aload_n 1, 1) := by decide +kernel
theorem dX8_become_26 : decode cX8_become 26 = .ok (.getfield 21, 3) := by decide +kernel
theorem dX8_become_29 : decode cX8_become 29 = .ok (.putfield 21, 3) := by decide +kernel
theorem dX8_become_32 : decode cX8_become 32 = .ok (.aload_n 0, 1) := by decide +kernel
theorem dX8_become_33 : decode cX8_become 33 = .ok (.aload_n 1, 1) := by decide +kernel
theorem dX8_become_34 : decode cX8_become 34 = .ok (.getfield 24, 3) := by decide +kernel
theorem dX8_become_37 : decode cX8_become 37 = .ok (.putfield 24, 3) := by decide +kernel
theorem dX8_become_40 : decode cX8_become 40 = .ok (.aload_n 0, 1) := by decide +kernel
theorem dX8_become_41 : decode cX8_become 41 = .ok (.aload_n 1, 1) := by decide +kernel
theorem dX8_become_42 : decode cX8_become 42 = .ok (.getfield 27, 3) := by decide +kernel
theorem dX8_become_45 : decode cX8_become 45 = .ok (.putfield 27, 3) := by decide +kernel
theorem dX8_become_48 : decode cX8_become 48 = .ok (.aload_n 0, 1) := by decide +kernel
theorem dX8_become_49 : decode cX8_become 49 = .ok (.aload_n 1, 1) := by decide +kernel
theorem dX8_become_50 : decode cX8_become 50 = .ok (.getfield 30, 3) := by decide +kernel
theorem dX8_become_53 : decode cX8_become 53 = .ok (.putfield 30, 3) := by decide +kernel
theorem dX8_become_56 : decode cX8_become 56 = .ok (.aload_n 0, 1) := by decide +kernel
theorem dX8_become_57 : decode cX8_become 57 = .ok (.aload_n 1, 1) := by decide +kernel
theorem dX8_become_58 : decode cX8_become 58 = .ok (.getfield 33, 3) := by decide +kernel
theorem dX8_become_61 : decode cX8_become 61 = .ok (.putfield 33, 3) := by decide +kernel
theorem dX8_become_64 : decode cX8_become 64 = .ok (.return_, 1) := by decide +kernel
theorem dX8_tiesHere_0 : decode cX8_tiesHere 0 = .ok (.aload_n 0, 1) := by decide +kernel
theorem dX8_tiesHere_1 : decode cX8_tiesHere 1 = .ok (.getfield 24, 3) := by decide +kernel
theorem dX8_tiesHere_4 : decode cX8_tiesHere 4 = .ok (.ifCond .ne 10, 3) := by decide +kernel
theorem dX8_tiesHere_7 : decode cX8_tiesHere 7 = .ok (.aload_n 0, 1) := by decide +kernel
theorem dX8_tiesHere_8 : decode cX8_tiesHere 8 = .ok (.getfield 18, 3) := by decide +kernel
theorem dX8_tiesHere_11 : decode cX8_tiesHere 11 = .ok (.goto 7, 3) := by decide +kernel
theorem dX8_tiesHere_14 : decode cX8_tiesHere 14 = .ok (.aload_n 0, 1) := by decide +kernel
theorem dX8_tiesHere_15 : decode cX8_tiesHere 15 = .ok (.getfield 21, 3) := by decide +kernel
theorem dX8_tiesHere_18 : decode cX8_tiesHere 18 = .ok (.ireturn, 1) := by decide +kernel
theorem dX8_tieHere_0 : decode cX8_tieHere 0 = .ok (.aload_n 0, 1) := by decide +kernel
theorem dX8_tieHere_1 : decode cX8_tieHere 1 = .ok (.getfield 24, 3) := by decide +kernel
theorem dX8_tieHere_4 : decode cX8_tieHere 4 = .ok (.ifCond .ne 19, 3) := by decide +kernel
theorem dX8_tieHere_7 : decode cX8_tieHere 7 = .ok (.aload_n 0, 1) := by decide +kernel
theorem dX8_tieHere_8 : decode cX8_tieHere 8 = .ok (.aload_n 0, 1) := by decide +kernel
theorem dX8_tieHere_9 : decode cX8_tieHere 9 = .ok (.getfield 18, 3) := by decide +kernel
theorem dX8_tieHere_12 : decode cX8_tieHere 12 = .ok (.iload_n 1, 1) := by decide +kernel
theorem dX8_tieHere_13 : decode cX8_tieHere 13 = .ok (.iload_n 2, 1) := by decide +kernel
theorem dX8_tieHere_14 : decode cX8_tieHere 14 = .ok (.invokestatic 36, 3) := by decide +kernel
theorem dX8_tieHere_17 : decode cX8_tieHere 17 = .ok (.putfield 18, 3) := by decide +kernel
theorem dX8_tieHere_20 : decode cX8_tieHere 20 = .ok (.goto 16, 3) := by decide +kernel
theorem dX8_tieHere_23 : decode cX8_tieHere 23 = .ok (.aload_n 0, 1) := by decide +kernel
theorem dX8_tieHere_24 : decode cX8_tieHere 24 = .ok (.aload_n 0, 1) := by decide +kernel
theorem dX8_tieHere_25 : decode cX8_tieHere 25 = .ok (.getfield 21, 3) := by decide +kernel
theorem dX8_tieHere_28 : decode cX8_tieHere 28 = .ok (.iload_n 1, 1) := by decide +kernel
theorem dX8_tieHere_29 : decode cX8_tieHere 29 = .ok (.iload_n 2, 1) := by decide +kernel
theorem dX8_tieHere_30 : decode cX8_tieHere 30 = .ok (.invokestatic 36, 3) := by decide +kernel
theorem dX8_tieHere_33 : decode cX8_tieHere 33 = .ok (.putfield 21, 3) := by decide +kernel
theorem dX8_tieHere_36 : decode cX8_tieHere 36 = .ok (.return_, 1) := by decide +kernel
theorem dX8_walk_0 : decode cX8_walk 0 = .ok (.aload_n 0, 1) := by decide +kernel
theorem dX8_walk_1 : decode cX8_walk 1 = .ok (.iconst 1, 1) := by decide +kernel
theorem dX8_walk_2 : decode cX8_walk 2 = .ok (.aload_n 0, 1) := by decide +kernel
theorem dX8_walk_3 : decode cX8_walk 3 = .ok (.getfield 24, 3) := by decide +kernel
theorem dX8_walk_6 : decode cX8_walk 6 = .ok (.isub, 1) := by decide +kernel
theorem dX8_walk_7 : decode cX8_walk 7 = .ok (.putfield 24, 3) := by decide +kernel
theorem dX8_walk_10 : decode cX8_walk 10 = .ok (.aload_n 0, 1) := by decide +kernel
theorem dX8_walk_11 : decode cX8_walk 11 = .ok (.aload_n 0, 1) := by decide +kernel
theorem dX8_walk_12 : decode cX8_walk 12 = .ok (.getfield 30, 3) := by decide +kernel
theorem dX8_walk_15 : decode cX8_walk 15 = .ok (.iconst 1, 1) := by decide +kernel
theorem dX8_walk_16 : decode cX8_walk 16 = .ok (.iadd, 1) := by decide +kernel
theorem dX8_walk_17 : decode cX8_walk 17 = .ok (.sipush 9999, 3) := by decide +kernel
theorem dX8_walk_20 : decode cX8_walk 20 = .ok (.invokestatic 40, 3) := by decide +kernel
theorem dX8_walk_23 : decode cX8_walk 23 = .ok (.putfield 30, 3) := by decide +kernel
theorem dX8_walk_26 : decode cX8_walk 26 = .ok (.return_, 1) := by decide +kernel
theorem dX8_countTest_0 : decode cX8_countTest 0 = .ok (.aload_n 0, 1) := by decide +kernel
theorem dX8_countTest_1 : decode cX8_countTest 1 = .ok (.aload_n 0, 1) := by decide +kernel
theorem dX8_countTest_2 : decode cX8_countTest 2 = .ok (.getfield 33, 3) := by decide +kernel
theorem dX8_countTest_5 : decode cX8_countTest 5 = .ok (.iconst 1, 1) := by decide +kernel
theorem dX8_countTest_6 : decode cX8_countTest 6 = .ok (.iadd, 1) := by decide +kernel
theorem dX8_countTest_7 : decode cX8_countTest 7 = .ok (.sipush 9999, 3) := by decide +kernel
theorem dX8_countTest_10 : decode cX8_countTest 10 = .ok (.invokestatic 40, 3) := by decide +kernel
theorem dX8_countTest_13 : decode cX8_countTest 13 = .ok (.putfield 33, 3) := by decide +kernel
theorem dX8_countTest_16 : decode cX8_countTest 16 = .ok (.return_, 1) := by decide +kernel
theorem dX9_init_0 : decode cX9_init 0 = .ok (.aload_n 0, 1) := by decide +kernel
theorem dX9_init_1 : decode cX9_init 1 = .ok (.invokespecial 3, 3) := by decide +kernel
theorem dX9_init_4 : decode cX9_init 4 = .ok (.aload_n 0, 1) := by decide +kernel
theorem dX9_init_5 : decode cX9_init 5 = .ok (.iconst 5, 1) := by decide +kernel
theorem dX9_init_6 : decode cX9_init 6 = .ok (.newarray .int, 2) := by decide +kernel
theorem dX9_init_8 : decode cX9_init 8 = .ok (.putfield 9, 3) := by decide +kernel
theorem dX9_init_11 : decode cX9_init 11 = .ok (.return_, 1) := by decide +kernel
theorem dX9_start_0 : decode cX9_start 0 = .ok (.iconst 0, 1) := by decide +kernel
theorem dX9_start_1 : decode cX9_start 1 = .ok (.istore_n 1, 1) := by decide +kernel
theorem dX9_start_2 : decode cX9_start 2 = .ok (.iload_n 1, 1) := by decide +kernel
theorem dX9_start_3 : decode cX9_start 3 = .ok (.iconst 5, 1) := by decide +kernel
theorem dX9_start_4 : decode cX9_start 4 = .ok (.if_icmp .ge 16, 3) := by decide +kernel
theorem dX9_start_7 : decode cX9_start 7 = .ok (.aload_n 0, 1) := by decide +kernel
theorem dX9_start_8 : decode cX9_start 8 = .ok (.getfield 9, 3) := by decide +kernel
theorem dX9_start_11 : decode cX9_start 11 = .ok (.iload_n 1, 1) := by decide +kernel
theorem dX9_start_12 : decode cX9_start 12 = .ok (.iconst 0, 1) := by decide +kernel
theorem dX9_start_13 : decode cX9_start 13 = .ok (.iastore, 1) := by decide +kernel
theorem dX9_start_14 : decode cX9_start 14 = .ok (.iinc 1 1, 3) := by decide +kernel
theorem dX9_start_17 : decode cX9_start 17 = .ok (.goto (-15), 3) := by decide +kernel
theorem dX9_start_20 : decode cX9_start 20 = .ok (.return_, 1) := by decide +kernel
theorem dX9_advance_0 : decode cX9_advance 0 = .ok (.iload_n 1, 1) := by decide +kernel
theorem dX9_advance_1 : decode cX9_advance 1 = .ok (.iconst 5, 1) := by decide +kernel
theorem dX9_advance_2 : decode cX9_advance 2 = .ok (.invokestatic 15, 3) := by decide +kernel
theorem dX9_advance_5 : decode cX9_advance 5 = .ok (.iconst 1, 1) := by decide +kernel
theorem dX9_advance_6 : decode cX9_advance 6 = .ok (.isub, 1) := by decide +kernel
theorem dX9_advance_7 : decode cX9_advance 7 = .ok (.istore_n 2, 1) := by decide +kernel
theorem dX9_advance_8 : decode cX9_advance 8 = .ok (.iload_n 2, 1) := by decide +kernel
theorem dX9_advance_9 : decode cX9_advance 9 = .ok (.ifCond .le 42, 3) := by decide +kernel
theorem dX9_advance_12 : decode cX9_advance 12 = .ok (.aload_n 0, 1) := by decide +kernel
theorem dX9_advance_13 : decode cX9_advance 13 = .ok (.getfield 9, 3) := by decide +kernel
theorem dX9_advance_16 : decode cX9_advance 16 = .ok (.iload_n 2, 1) := by decide +kernel
theorem dX9_advance_17 : decode cX9_advance 17 = .ok (.iaload, 1) := by decide +kernel
theorem dX9_advance_18 : decode cX9_advance 18 = .ok (.aload_n 0, 1) := by decide +kernel
theorem dX9_advance_19 : decode cX9_advance 19 = .ok (.iload_n 2, 1) := by decide +kernel
theorem dX9_advance_20 : decode cX9_advance 20 = .ok (.invokevirtual 21, 3) := by decide +kernel
theorem dX9_advance_23 : decode cX9_advance 23 = .ok (.if_icmp .gt 15, 3) := by decide +kernel
theorem dX9_advance_26 : decode cX9_advance 26 = .ok (.aload_n 0, 1) := by decide +kernel
theorem dX9_advance_27 : decode cX9_advance 27 = .ok (.getfield 9, 3) := by decide +kernel
theorem dX9_advance_30 : decode cX9_advance 30 = .ok (.iload_n 2, 1) := by decide +kernel
theorem dX9_advance_31 : decode cX9_advance 31 = .ok (.dup2, 1) := by decide +kernel
theorem dX9_advance_32 : decode cX9_advance 32 = .ok (.iaload, 1) := by decide +kernel
theorem dX9_advance_33 : decode cX9_advance 33 = .ok (.iconst 1, 1) := by decide +kernel
theorem dX9_advance_34 : decode cX9_advance 34 = .ok (.iadd, 1) := by decide +kernel
theorem dX9_advance_35 : decode cX9_advance 35 = .ok (.iastore, 1) := by decide +kernel
theorem dX9_advance_36 : decode cX9_advance 36 = .ok (.iconst 1, 1) := by decide +kernel
theorem dX9_advance_37 : decode cX9_advance 37 = .ok (.ireturn, 1) := by decide +kernel
theorem dX9_advance_38 : decode cX9_advance 38 = .ok (.aload_n 0, 1) := by decide +kernel
theorem dX9_advance_39 : decode cX9_advance 39 = .ok (.getfield 9, 3) := by decide +kernel
theorem dX9_advance_42 : decode cX9_advance 42 = .ok (.iload_n 2, 1) := by decide +kernel
theorem dX9_advance_43 : decode cX9_advance 43 = .ok (.iconst 0, 1) := by decide +kernel
theorem dX9_advance_44 : decode cX9_advance 44 = .ok (.iastore, 1) := by decide +kernel
theorem dX9_advance_45 : decode cX9_advance 45 = .ok (.iinc 2 (-1), 3) := by decide +kernel
theorem dX9_advance_48 : decode cX9_advance 48 = .ok (.goto (-40), 3) := by decide +kernel
theorem dX9_advance_51 : decode cX9_advance 51 = .ok (.iconst 0, 1) := by decide +kernel
theorem dX9_advance_52 : decode cX9_advance 52 = .ok (.ireturn, 1) := by decide +kernel
theorem dX9_row_0 : decode cX9_row 0 = .ok (.iconst 0, 1) := by decide +kernel
theorem dX9_row_1 : decode cX9_row 1 = .ok (.istore_n 2, 1) := by decide +kernel
theorem dX9_row_2 : decode cX9_row 2 = .ok (.iconst 0, 1) := by decide +kernel
theorem dX9_row_3 : decode cX9_row 3 = .ok (.istore_n 3, 1) := by decide +kernel
theorem dX9_row_4 : decode cX9_row 4 = .ok (.iload_n 3, 1) := by decide +kernel
theorem dX9_row_5 : decode cX9_row 5 = .ok (.iload_n 1, 1) := by decide +kernel
theorem dX9_row_6 : decode cX9_row 6 = .ok (.if_icmp .ge 28, 3) := by decide +kernel
theorem dX9_row_9 : decode cX9_row 9 = .ok (.iload_n 3, 1) := by decide +kernel
theorem dX9_row_10 : decode cX9_row 10 = .ok (.iconst 5, 1) := by decide +kernel
theorem dX9_row_11 : decode cX9_row 11 = .ok (.if_icmp .ge 23, 3) := by decide +kernel
theorem dX9_row_14 : decode cX9_row 14 = .ok (.iload_n 2, 1) := by decide +kernel
theorem dX9_row_15 : decode cX9_row 15 = .ok (.iload_n 3, 1) := by decide +kernel
theorem dX9_row_16 : decode cX9_row 16 = .ok (.aload_n 0, 1) := by decide +kernel
theorem dX9_row_17 : decode cX9_row 17 = .ok (.getfield 9, 3) := by decide +kernel
theorem dX9_row_20 : decode cX9_row 20 = .ok (.iload_n 3, 1) := by decide +kernel
theorem dX9_row_21 : decode cX9_row 21 = .ok (.iaload, 1) := by decide +kernel
theorem dX9_row_22 : decode cX9_row 22 = .ok (.iconst 1, 1) := by decide +kernel
theorem dX9_row_23 : decode cX9_row 23 = .ok (.iadd, 1) := by decide +kernel
theorem dX9_row_24 : decode cX9_row 24 = .ok (.invokestatic 25, 3) := by decide +kernel
theorem dX9_row_27 : decode cX9_row 27 = .ok (.istore_n 2, 1) := by decide +kernel
theorem dX9_row_28 : decode cX9_row 28 = .ok (.iinc 3 1, 3) := by decide +kernel
theorem dX9_row_31 : decode cX9_row 31 = .ok (.goto (-27), 3) := by decide +kernel
theorem dX9_row_34 : decode cX9_row 34 = .ok (.iload_n 2, 1) := by decide +kernel
theorem dX9_row_35 : decode cX9_row 35 = .ok (.ireturn, 1) := by decide +kernel
theorem dX9_mostAhead_0 : decode cX9_mostAhead 0 = .ok (.iconst 0, 1) := by decide +kernel
theorem dX9_mostAhead_1 : decode cX9_mostAhead 1 = .ok (.istore_n 2, 1) := by decide +kernel
theorem dX9_mostAhead_2 : decode cX9_mostAhead 2 = .ok (.iconst 0, 1) := by decide +kernel
theorem dX9_mostAhead_3 : decode cX9_mostAhead 3 = .ok (.istore_n 3, 1) := by decide +kernel
theorem dX9_mostAhead_4 : decode cX9_mostAhead 4 = .ok (.iload_n 3, 1) := by decide +kernel
theorem dX9_mostAhead_5 : decode cX9_mostAhead 5 = .ok (.iload_n 1, 1) := by decide +kernel
theorem dX9_mostAhead_6 : decode cX9_mostAhead 6 = .ok (.if_icmp .ge 25, 3) := by decide +kernel
theorem dX9_mostAhead_9 : decode cX9_mostAhead 9 = .ok (.iload_n 3, 1) := by decide +kernel
theorem dX9_mostAhead_10 : decode cX9_mostAhead 10 = .ok (.iconst 5, 1) := by decide +kernel
theorem dX9_mostAhead_11 : decode cX9_mostAhead 11 = .ok (.if_icmp .ge 20, 3) := by decide +kernel
theorem dX9_mostAhead_14 : decode cX9_mostAhead 14 = .ok (.iload_n 2, 1) := by decide +kernel
theorem dX9_mostAhead_15 : decode cX9_mostAhead 15 = .ok (.aload_n 0, 1) := by decide +kernel
theorem dX9_mostAhead_16 : decode cX9_mostAhead 16 = .ok (.getfield 9, 3) := by decide +kernel
theorem dX9_mostAhead_19 : decode cX9_mostAhead 19 = .ok (.iload_n 3, 1) := by decide +kernel
theorem dX9_mostAhead_20 : decode cX9_mostAhead 20 = .ok (.iaload, 1) := by decide +kernel
theorem dX9_mostAhead_21 : decode cX9_mostAhead 21 = .ok (.invokestatic 29, 3) := by decide +kernel
theorem dX9_mostAhead_24 : decode cX9_mostAhead 24 = .ok (.istore_n 2, 1) := by decide +kernel
theorem dX9_mostAhead_25 : decode cX9_mostAhead 25 = .ok (.iinc 3 1, 3) := by decide +kernel
theorem dX9_mostAhead_28 : decode cX9_mostAhead 28 = .ok (.goto (-24), 3) := by decide +kernel
theorem dX9_mostAhead_31 : decode cX9_mostAhead 31 = .ok (.iload_n 2, 1) := by decide +kernel
theorem dX9_mostAhead_32 : decode cX9_mostAhead 32 = .ok (.ireturn, 1) := by decide +kernel
theorem dX10_init_0 : decode cX10_init 0 = .ok (.aload_n 0, 1) := by decide +kernel
theorem dX10_init_1 : decode cX10_init 1 = .ok (.invokespecial 1, 3) := by decide +kernel
theorem dX10_init_4 : decode cX10_init 4 = .ok (.aload_n 0, 1) := by decide +kernel
theorem dX10_init_5 : decode cX10_init 5 = .ok (.new 7, 3) := by decide +kernel
theorem dX10_init_8 : decode cX10_init 8 = .ok (.dup, 1) := by decide +kernel
theorem dX10_init_9 : decode cX10_init 9 = .ok (.invokespecial 9, 3) := by decide +kernel
theorem dX10_init_12 : decode cX10_init 12 = .ok (.putfield 10, 3) := by decide +kernel
theorem dX10_init_15 : decode cX10_init 15 = .ok (.aload_n 0, 1) := by decide +kernel
theorem dX10_init_16 : decode cX10_init 16 = .ok (.iconst 5, 1) := by decide +kernel
theorem dX10_init_17 : decode cX10_init 17 = .ok (.newarray .int, 2) := by decide +kernel
theorem dX10_init_19 : decode cX10_init 19 = .ok (.putfield 16, 3) := by decide +kernel
theorem dX10_init_22 : decode cX10_init 22 = .ok (.aload_n 0, 1) := by decide +kernel
theorem dX10_init_23 : decode cX10_init 23 = .ok (.new 20, 3) := by decide +kernel
theorem dX10_init_26 : decode cX10_init 26 = .ok (.dup, 1) := by decide +kernel
theorem dX10_init_27 : decode cX10_init 27 = .ok (.invokespecial 22, 3) := by decide +kernel
theorem dX10_init_30 : decode cX10_init 30 = .ok (.putfield 23, 3) := by decide +kernel
theorem dX10_init_33 : decode cX10_init 33 = .ok (.aload_n 0, 1) := by decide +kernel
theorem dX10_init_34 : decode cX10_init 34 = .ok (.new 27, 3) := by decide +kernel
theorem dX10_init_37 : decode cX10_init 37 = .ok (.dup, 1) := by decide +kernel
theorem dX10_init_38 : decode cX10_init 38 = .ok (.invokespecial 29, 3) := by decide +kernel
theorem dX10_init_41 : decode cX10_init 41 = .ok (.putfield 30, 3) := by decide +kernel
theorem dX10_init_44 : decode cX10_init 44 = .ok (.aload_n 0, 1) := by decide +kernel
theorem dX10_init_45 : decode cX10_init 45 = .ok (.new 34, 3) := by decide +kernel
theorem dX10_init_48 : decode cX10_init 48 = .ok (.dup, 1) := by decide +kernel
theorem dX10_init_49 : decode cX10_init 49 = .ok (.invokespecial 36, 3) := by decide +kernel
theorem dX10_init_52 : decode cX10_init 52 = .ok (.putfield 37, 3) := by decide +kernel
theorem dX10_init_55 : decode cX10_init 55 = .ok (.aload_n 0, 1) := by decide +kernel
theorem dX10_init_56 : decode cX10_init 56 = .ok (.iconst 2, 1) := by decide +kernel
theorem dX10_init_57 : decode cX10_init 57 = .ok (.anewarray 41, 3) := by decide +kernel
theorem dX10_init_60 : decode cX10_init 60 = .ok (.putfield 43, 3) := by decide +kernel
theorem dX10_init_63 : decode cX10_init 63 = .ok (.aload_n 0, 1) := by decide +kernel
theorem dX10_init_64 : decode cX10_init 64 = .ok (.bipush 8, 2) := by decide +kernel
theorem dX10_init_66 : decode cX10_init 66 = .ok (.anewarray 47, 3) := by decide +kernel
theorem dX10_init_69 : decode cX10_init 69 = .ok (.putfield 49, 3) := by decide +kernel
theorem dX10_init_72 : decode cX10_init 72 = .ok (.aload_n 0, 1) := by decide +kernel
theorem dX10_init_73 : decode cX10_init 73 = .ok (.bipush 15, 2) := by decide +kernel
theorem dX10_init_75 : decode cX10_init 75 = .ok (.newarray .int, 2) := by decide +kernel
theorem dX10_init_77 : decode cX10_init 77 = .ok (.putfield 53, 3) := by decide +kernel
theorem dX10_init_80 : decode cX10_init 80 = .ok (.aload_n 0, 1) := by decide +kernel
theorem dX10_init_81 : decode cX10_init 81 = .ok (.bipush 15, 2) := by decide +kernel
theorem dX10_init_83 : decode cX10_init 83 = .ok (.newarray .int, 2) := by decide +kernel
theorem dX10_init_85 : decode cX10_init 85 = .ok (.putfield 56, 3) := by decide +kernel
theorem dX10_init_88 : decode cX10_init 88 = .ok (.aload_n 0, 1) := by decide +kernel
theorem dX10_init_89 : decode cX10_init 89 = .ok (.new 59, 3) := by decide +kernel
theorem dX10_init_92 : decode cX10_init 92 = .ok (.dup, 1) := by decide +kernel
theorem dX10_init_93 : decode cX10_init 93 = .ok (.invokespecial 61, 3) := by decide +kernel
theorem dX10_init_96 : decode cX10_init 96 = .ok (.putfield 62, 3) := by decide +kernel
theorem dX10_init_99 : decode cX10_init 99 = .ok (.aload_n 0, 1) := by decide +kernel
theorem dX10_init_100 : decode cX10_init 100 = .ok (.new 66, 3) := by decide +kernel
theorem dX10_init_103 : decode cX10_init 103 = .ok (.dup, 1) := by decide +kernel
theorem dX10_init_104 : decode cX10_init 104 = .ok (.invokespecial 68, 3) := by decide +kernel
theorem dX10_init_107 : decode cX10_init 107 = .ok (.putfield 69, 3) := by decide +kernel
theorem dX10_init_110 : decode cX10_init 110 = .ok (.aload_n 0, 1) := by decide +kernel
theorem dX10_init_111 : decode cX10_init 111 = .ok (.new 73, 3) := by decide +kernel
theorem dX10_init_114 : decode cX10_init 114 = .ok (.dup, 1) := by decide +kernel
theorem dX10_init_115 : decode cX10_init 115 = .ok (.invokespecial 75, 3) := by decide +kernel
theorem dX10_init_118 : decode cX10_init 118 = .ok (.putfield 76, 3) := by decide +kernel
theorem dX10_init_121 : decode cX10_init 121 = .ok (.aload_n 0, 1) := by decide +kernel
theorem dX10_init_122 : decode cX10_init 122 = .ok (.new 80, 3) := by decide +kernel
theorem dX10_init_125 : decode cX10_init 125 = .ok (.dup, 1) := by decide +kernel
theorem dX10_init_126 : decode cX10_init 126 = .ok (.invokespecial 82, 3) := by decide +kernel
theorem dX10_init_129 : decode cX10_init 129 = .ok (.putfield 83, 3) := by decide +kernel
theorem dX10_init_132 : decode cX10_init 132 = .ok (.iconst 0, 1) := by decide +kernel
theorem dX10_init_133 : decode cX10_init 133 = .ok (.istore_n 1, 1) := by decide +kernel
theorem dX10_init_134 : decode cX10_init 134 = .ok (.iload_n 1, 1) := by decide +kernel
theorem dX10_init_135 : decode cX10_init 135 = .ok (.iconst 2, 1) := by decide +kernel
theorem dX10_init_136 : decode cX10_init 136 = .ok (.if_icmp .ge 22, 3) := by decide +kernel
theorem dX10_init_139 : decode cX10_init 139 = .ok (.aload_n 0, 1) := by decide +kernel
theorem dX10_init_140 : decode cX10_init 140 = .ok (.getfield 43, 3) := by decide +kernel
theorem dX10_init_143 : decode cX10_init 143 = .ok (.iload_n 1, 1) := by decide +kernel
theorem dX10_init_144 : decode cX10_init 144 = .ok (.new 41, 3) := by decide +kernel
theorem dX10_init_147 : decode cX10_init 147 = .ok (.dup, 1) := by decide +kernel
theorem dX10_init_148 : decode cX10_init 148 = .ok (.invokespecial 87, 3) := by decide +kernel
theorem dX10_init_151 : decode cX10_init 151 = .ok (.aastore, 1) := by decide +kernel
theorem dX10_init_152 : decode cX10_init 152 = .ok (.iinc 1 1, 3) := by decide +kernel
theorem dX10_init_155 : decode cX10_init 155 = .ok (.goto (-21), 3) := by decide +kernel
theorem dX10_init_158 : decode cX10_init 158 = .ok (.iconst 0, 1) := by decide +kernel
theorem dX10_init_159 : decode cX10_init 159 = .ok (.istore_n 1, 1) := by decide +kernel
theorem dX10_init_160 : decode cX10_init 160 = .ok (.iload_n 1, 1) := by decide +kernel
theorem dX10_init_161 : decode cX10_init 161 = .ok (.bipush 8, 2) := by decide +kernel
theorem dX10_init_163 : decode cX10_init 163 = .ok (.if_icmp .ge 22, 3) := by decide +kernel
theorem dX10_init_166 : decode cX10_init 166 = .ok (.aload_n 0, 1) := by decide +kernel
theorem dX10_init_167 : decode cX10_init 167 = .ok (.getfield 49, 3) := by decide +kernel
theorem dX10_init_170 : decode cX10_init 170 = .ok (.iload_n 1, 1) := by decide +kernel
theorem dX10_init_171 : decode cX10_init 171 = .ok (.new 47, 3) := by decide +kernel
theorem dX10_init_174 : decode cX10_init 174 = .ok (.dup, 1) := by decide +kernel
theorem dX10_init_175 : decode cX10_init 175 = .ok (.invokespecial 88, 3) := by decide +kernel
theorem dX10_init_178 : decode cX10_init 178 = .ok (.aastore, 1) := by decide +kernel
theorem dX10_init_179 : decode cX10_init 179 = .ok (.iinc 1 1, 3) := by decide +kernel
theorem dX10_init_182 : decode cX10_init 182 = .ok (.goto (-22), 3) := by decide +kernel
theorem dX10_init_185 : decode cX10_init 185 = .ok (.return_, 1) := by decide +kernel
theorem dX10_feed_0 : decode cX10_feed 0 = .ok (.iload_n 1, 1) := by decide +kernel
theorem dX10_feed_1 : decode cX10_feed 1 = .ok (.ifCond .lt 10, 3) := by decide +kernel
theorem dX10_feed_4 : decode cX10_feed 4 = .ok (.iload_n 1, 1) := by decide +kernel
theorem dX10_feed_5 : decode cX10_feed 5 = .ok (.sipush 255, 3) := by decide +kernel
theorem dX10_feed_8 : decode cX10_feed 8 = .ok (.if_icmp .le 6, 3) := by decide +kernel
theorem dX10_feed_11 : decode cX10_feed 11 = .ok (.ldc 89, 2) := by decide +kernel
theorem dX10_feed_13 : decode cX10_feed 13 = .ok (.ireturn, 1) := by decide +kernel
theorem dX10_feed_14 : decode cX10_feed 14 = .ok (.aload_n 0, 1) := by decide +kernel
theorem dX10_feed_15 : decode cX10_feed 15 = .ok (.getfield 10, 3) := by decide +kernel
theorem dX10_feed_18 : decode cX10_feed 18 = .ok (.iload_n 1, 1) := by decide +kernel
theorem dX10_feed_19 : decode cX10_feed 19 = .ok (.invokevirtual 90, 3) := by decide +kernel
theorem dX10_feed_22 : decode cX10_feed 22 = .ok (.ifCond .eq 13, 3) := by decide +kernel
theorem dX10_feed_25 : decode cX10_feed 25 = .ok (.aload_n 0, 1) := by decide +kernel
theorem dX10_feed_26 : decode cX10_feed 26 = .ok (.getfield 10, 3) := by decide +kernel
theorem dX10_feed_29 : decode cX10_feed 29 = .ok (.getfield 94, 3) := by decide +kernel
theorem dX10_feed_32 : decode cX10_feed 32 = .ok (.goto 5, 3) := by decide +kernel
theorem dX10_feed_35 : decode cX10_feed 35 = .ok (.ldc 98, 2) := by decide +kernel
theorem dX10_feed_37 : decode cX10_feed 37 = .ok (.ireturn, 1) := by decide +kernel
theorem dX10_cable_0 : decode cX10_cable 0 = .ok (.aload_n 0, 1) := by decide +kernel
theorem dX10_cable_1 : decode cX10_cable 1 = .ok (.getfield 10, 3) := by decide +kernel
theorem dX10_cable_4 : decode cX10_cable 4 = .ok (.invokevirtual 99, 3) := by decide +kernel
theorem dX10_cable_7 : decode cX10_cable 7 = .ok (.aload_n 0, 1) := by decide +kernel
theorem dX10_cable_8 : decode cX10_cable 8 = .ok (.getfield 10, 3) := by decide +kernel
theorem dX10_cable_11 : decode cX10_cable 11 = .ok (.getfield 102, 3) := by decide +kernel
theorem dX10_cable_14 : decode cX10_cable 14 = .ok (.ifCond .eq 14, 3) := by decide +kernel
theorem dX10_cable_17 : decode cX10_cable 17 = .ok (.bipush (-10), 2) := by decide +kernel
theorem dX10_cable_19 : decode cX10_cable 19 = .ok (.aload_n 0, 1) := by decide +kernel
theorem dX10_cable_20 : decode cX10_cable 20 = .ok (.getfield 10, 3) := by decide +kernel
theorem dX10_cable_23 : decode cX10_cable 23 = .ok (.getfield 102, 3) := by decide +kernel
theorem dX10_cable_26 : decode cX10_cable 26 = .ok (.isub, 1) := by decide +kernel
theorem dX10_cable_27 : decode cX10_cable 27 = .ok (.ireturn, 1) := by decide +kernel
theorem dX10_cable_28 : decode cX10_cable 28 = .ok (.aload_n 0, 1) := by decide +kernel
theorem dX10_cable_29 : decode cX10_cable 29 = .ok (.aload_n 0, 1) := by decide +kernel
theorem dX10_cable_30 : decode cX10_cable 30 = .ok (.getfield 10, 3) := by decide +kernel
theorem dX10_cable_33 : decode cX10_cable 33 = .ok (.getfield 105, 3) := by decide +kernel
theorem dX10_cable_36 : decode cX10_cable 36 = .ok (.putfield 108, 3) := by decide +kernel
theorem dX10_cable_39 : decode cX10_cable 39 = .ok (.aload_n 0, 1) := by decide +kernel
theorem dX10_cable_40 : decode cX10_cable 40 = .ok (.getfield 10, 3) := by decide +kernel
theorem dX10_cable_43 : decode cX10_cable 43 = .ok (.getfield 109, 3) := by decide +kernel
theorem dX10_cable_46 : decode cX10_cable 46 = .ok (.iconst 0, 1) := by decide +kernel
theorem dX10_cable_47 : decode cX10_cable 47 = .ok (.aload_n 0, 1) := by decide +kernel
theorem dX10_cable_48 : decode cX10_cable 48 = .ok (.getfield 16, 3) := by decide +kernel
theorem dX10_cable_51 : decode cX10_cable 51 = .ok (.iconst 0, 1) := by decide +kernel
theorem dX10_cable_52 : decode cX10_cable 52 = .ok (.iconst 5, 1) := by decide +kernel
theorem dX10_cable_53 : decode cX10_cable 53 = .ok (.invokestatic 110, 3) := by decide +kernel
theorem dX10_cable_56 : decode cX10_cable 56 = .ok (.aload_n 0, 1) := by decide +kernel
theorem dX10_cable_57 : decode cX10_cable 57 = .ok (.getfield 23, 3) := by decide +kernel
theorem dX10_cable_60 : decode cX10_cable 60 = .ok (.aload_n 0, 1) := by decide +kernel
theorem dX10_cable_61 : decode cX10_cable 61 = .ok (.getfield 10, 3) := by decide +kernel
theorem dX10_cable_64 : decode cX10_cable 64 = .ok (.getfield 116, 3) := by decide +kernel
theorem dX10_cable_67 : decode cX10_cable 67 = .ok (.aload_n 0, 1) := by decide +kernel
theorem dX10_cable_68 : decode cX10_cable 68 = .ok (.getfield 10, 3) := by decide +kernel
theorem dX10_cable_71 : decode cX10_cable 71 = .ok (.getfield 119, 3) := by decide +kernel
theorem dX10_cable_74 : decode cX10_cable 74 = .ok (.invokevirtual 122, 3) := by decide +kernel
theorem dX10_cable_77 : decode cX10_cable 77 = .ok (.aload_n 0, 1) := by decide +kernel
theorem dX10_cable_78 : decode cX10_cable 78 = .ok (.getfield 30, 3) := by decide +kernel
theorem dX10_cable_81 : decode cX10_cable 81 = .ok (.invokevirtual 126, 3) := by decide +kernel
theorem dX10_cable_84 : decode cX10_cable 84 = .ok (.iconst 0, 1) := by decide +kernel
theorem dX10_cable_85 : decode cX10_cable 85 = .ok (.istore_n 1, 1) := by decide +kernel
theorem dX10_cable_86 : decode cX10_cable 86 = .ok (.iload_n 1, 1) := by decide +kernel
theorem dX10_cable_87 : decode cX10_cable 87 = .ok (.iconst 2, 1) := by decide +kernel
theorem dX10_cable_88 : decode cX10_cable 88 = .ok (.if_icmp .ge 19, 3) := by decide +kernel
theorem dX10_cable_91 : decode cX10_cable 91 = .ok (.aload_n 0, 1) := by decide +kernel
theorem dX10_cable_92 : decode cX10_cable 92 = .ok (.getfield 43, 3) := by decide +kernel
theorem dX10_cable_95 : decode cX10_cable 95 = .ok (.iload_n 1, 1) := by decide +kernel
theorem dX10_cable_96 : decode cX10_cable 96 = .ok (.aaload, 1) := by decide +kernel
theorem dX10_cable_97 : decode cX10_cable 97 = .ok (.iconst 0, 1) := by decide +kernel
theorem dX10_cable_98 : decode cX10_cable 98 = .ok (.putfield 129, 3) := by decide +kernel
theorem dX10_cable_101 : decode cX10_cable 101 = .ok (.iinc 1 1, 3) := by decide +kernel
theorem dX10_cable_104 : decode cX10_cable 104 = .ok (.goto (-18), 3) := by decide +kernel
theorem dX10_cable_107 : decode cX10_cable 107 = .ok (.aload_n 0, 1) := by decide +kernel
theorem dX10_cable_108 : decode cX10_cable 108 = .ok (.iconst 0, 1) := by decide +kernel
theorem dX10_cable_109 : decode cX10_cable 109 = .ok (.putfield 133, 3) := by decide +kernel
theorem dX10_cable_112 : decode cX10_cable 112 = .ok (.aload_n 0, 1) := by decide +kernel
theorem dX10_cable_113 : decode cX10_cable 113 = .ok (.iconst 0, 1) := by decide +kernel
theorem dX10_cable_114 : decode cX10_cable 114 = .ok (.putfield 136, 3) := by decide +kernel
theorem dX10_cable_117 : decode cX10_cable 117 = .ok (.aload_n 0, 1) := by decide +kernel
theorem dX10_cable_118 : decode cX10_cable 118 = .ok (.getfield 108, 3) := by decide +kernel
theorem dX10_cable_121 : decode cX10_cable 121 = .ok (.ireturn, 1) := by decide +kernel
theorem dX10_fault_0 : decode cX10_fault 0 = .ok (.aload_n 0, 1) := by decide +kernel
theorem dX10_fault_1 : decode cX10_fault 1 = .ok (.getfield 10, 3) := by decide +kernel
theorem dX10_fault_4 : decode cX10_fault 4 = .ok (.getfield 139, 3) := by decide +kernel
theorem dX10_fault_7 : decode cX10_fault 7 = .ok (.ireturn, 1) := by decide +kernel
theorem dX10_told_0 : decode cX10_told 0 = .ok (.iload_n 1, 1) := by decide +kernel
theorem dX10_told_1 : decode cX10_told 1 = .ok (.tableswitch 165 0 13 #[71, 76, 84, 92, 100, 108, 116, 127, 132, 137, 142, 147, 152, 157], 71) := by decide +kernel
theorem dX10_told_72 : decode cX10_told 72 = .ok (.aload_n 0, 1) := by decide +kernel
theorem dX10_told_73 : decode cX10_told 73 = .ok (.getfield 108, 3) := by decide +kernel
theorem dX10_told_76 : decode cX10_told 76 = .ok (.ireturn, 1) := by decide +kernel
theorem dX10_told_77 : decode cX10_told 77 = .ok (.aload_n 0, 1) := by decide +kernel
theorem dX10_told_78 : decode cX10_told 78 = .ok (.getfield 23, 3) := by decide +kernel
theorem dX10_told_81 : decode cX10_told 81 = .ok (.getfield 142, 3) := by decide +kernel
theorem dX10_told_84 : decode cX10_told 84 = .ok (.ireturn, 1) := by decide +kernel
theorem dX10_told_85 : decode cX10_told 85 = .ok (.aload_n 0, 1) := by decide +kernel
theorem dX10_told_86 : decode cX10_told 86 = .ok (.getfield 23, 3) := by decide +kernel
theorem dX10_told_89 : decode cX10_told 89 = .ok (.getfield 145, 3) := by decide +kernel
theorem dX10_told_92 : decode cX10_told 92 = .ok (.ireturn, 1) := by decide +kernel
theorem dX10_told_93 : decode cX10_told 93 = .ok (.aload_n 0, 1) := by decide +kernel
theorem dX10_told_94 : decode cX10_told 94 = .ok (.getfield 23, 3) := by decide +kernel
theorem dX10_told_97 : decode cX10_told 97 = .ok (.getfield 148, 3) := by decide +kernel
theorem dX10_told_100 : decode cX10_told 100 = .ok (.ireturn, 1) := by decide +kernel
theorem dX10_told_101 : decode cX10_told 101 = .ok (.aload_n 0, 1) := by decide +kernel
theorem dX10_told_102 : decode cX10_told 102 = .ok (.getfield 23, 3) := by decide +kernel
theorem dX10_told_105 : decode cX10_told 105 = .ok (.getfield 151, 3) := by decide +kernel
theorem dX10_told_108 : decode cX10_told 108 = .ok (.ireturn, 1) := by decide +kernel
theorem dX10_told_109 : decode cX10_told 109 = .ok (.aload_n 0, 1) := by decide +kernel
theorem dX10_told_110 : decode cX10_told 110 = .ok (.getfield 10, 3) := by decide +kernel
theorem dX10_told_113 : decode cX10_told 113 = .ok (.getfield 94, 3) := by decide +kernel
theorem dX10_told_116 : decode cX10_told 116 = .ok (.ireturn, 1) := by decide +kernel
theorem dX10_told_117 : decode cX10_told 117 = .ok (.aload_n 0, 1) := by decide +kernel
theorem dX10_told_118 : decode cX10_told 118 = .ok (.getfield 23, 3) := by decide +kernel
theorem dX10_told_121 : decode cX10_told 121 = .ok (.getfield 154, 3) := by decide +kernel
theorem dX10_told_124 : decode cX10_told 124 = .ok (.invokestatic 155, 3) := by decide +kernel
theorem dX10_told_127 : decode cX10_told 127 = .ok (.ireturn, 1) := by decide +kernel
theorem dX10_told_128 : decode cX10_told 128 = .ok (.aload_n 0, 1) := by decide +kernel
theorem dX10_told_129 : decode cX10_told 129 = .ok (.invokevirtual 161, 3) := by decide +kernel
theorem dX10_told_132 : decode cX10_told 132 = .ok (.ireturn, 1) := by decide +kernel
theorem dX10_told_133 : decode cX10_told 133 = .ok (.aload_n 0, 1) := by decide +kernel
theorem dX10_told_134 : decode cX10_told 134 = .ok (.invokevirtual 165, 3) := by decide +kernel
theorem dX10_told_137 : decode cX10_told 137 = .ok (.ireturn, 1) := by decide +kernel
theorem dX10_told_138 : decode cX10_told 138 = .ok (.aload_n 0, 1) := by decide +kernel
theorem dX10_told_139 : decode cX10_told 139 = .ok (.invokevirtual 168, 3) := by decide +kernel
theorem dX10_told_142 : decode cX10_told 142 = .ok (.ireturn, 1) := by decide +kernel
theorem dX10_told_143 : decode cX10_told 143 = .ok (.aload_n 0, 1) := by decide +kernel
theorem dX10_told_144 : decode cX10_told 144 = .ok (.invokevirtual 171, 3) := by decide +kernel
theorem dX10_told_147 : decode cX10_told 147 = .ok (.ireturn, 1) := by decide +kernel
theorem dX10_told_148 : decode cX10_told 148 = .ok (.aload_n 0, 1) := by decide +kernel
theorem dX10_told_149 : decode cX10_told 149 = .ok (.getfield 133, 3) := by decide +kernel
theorem dX10_told_152 : decode cX10_told 152 = .ok (.ireturn, 1) := by decide +kernel
theorem dX10_told_153 : decode cX10_told 153 = .ok (.aload_n 0, 1) := by decide +kernel
theorem dX10_told_154 : decode cX10_told 154 = .ok (.getfield 136, 3) := by decide +kernel
theorem dX10_told_157 : decode cX10_told 157 = .ok (.ireturn, 1) := by decide +kernel
theorem dX10_told_158 : decode cX10_told 158 = .ok (.aload_n 0, 1) := by decide +kernel
theorem dX10_told_159 : decode cX10_told 159 = .ok (.getfield 30, 3) := by decide +kernel
theorem dX10_told_162 : decode cX10_told 162 = .ok (.getfield 174, 3) := by decide +kernel
theorem dX10_told_165 : decode cX10_told 165 = .ok (.ireturn, 1) := by decide +kernel
theorem dX10_told_166 : decode cX10_told 166 = .ok (.ldc 89, 2) := by decide +kernel
theorem dX10_told_168 : decode cX10_told 168 = .ok (.ireturn, 1) := by decide +kernel
theorem dX10_wire_0 : decode cX10_wire 0 = .ok (.aload_n 0, 1) := by decide +kernel
theorem dX10_wire_1 : decode cX10_wire 1 = .ok (.iload_n 1, 1) := by decide +kernel
theorem dX10_wire_2 : decode cX10_wire 2 = .ok (.invokevirtual 177, 3) := by decide +kernel
theorem dX10_wire_5 : decode cX10_wire 5 = .ok (.ifCond .ne 6, 3) := by decide +kernel
theorem dX10_wire_8 : decode cX10_wire 8 = .ok (.ldc 180, 2) := by decide +kernel
theorem dX10_wire_10 : decode cX10_wire 10 = .ok (.ireturn, 1) := by decide +kernel
theorem dX10_wire_11 : decode cX10_wire 11 = .ok (.iload_n 2, 1) := by decide +kernel
theorem dX10_wire_12 : decode cX10_wire 12 = .ok (.tableswitch 84 0 3 #[32, 44, 50, 72], 32) := by decide +kernel
theorem dX10_wire_44 : decode cX10_wire 44 = .ok (.aload_n 0, 1) := by decide +kernel
theorem dX10_wire_45 : decode cX10_wire 45 = .ok (.getfield 23, 3) := by decide +kernel
theorem dX10_wire_48 : decode cX10_wire 48 = .ok (.getfield 181, 3) := by decide +kernel
theorem dX10_wire_51 : decode cX10_wire 51 = .ok (.iload_n 1, 1) := by decide +kernel
theorem dX10_wire_52 : decode cX10_wire 52 = .ok (.invokestatic 182, 3) := by decide +kernel
theorem dX10_wire_55 : decode cX10_wire 55 = .ok (.ireturn, 1) := by decide +kernel
theorem dX10_wire_56 : decode cX10_wire 56 = .ok (.aload_n 0, 1) := by decide +kernel
theorem dX10_wire_57 : decode cX10_wire 57 = .ok (.iload_n 1, 1) := by decide +kernel
theorem dX10_wire_58 : decode cX10_wire 58 = .ok (.invokevirtual 186, 3) := by decide +kernel
theorem dX10_wire_61 : decode cX10_wire 61 = .ok (.ireturn, 1) := by decide +kernel
theorem dX10_wire_62 : decode cX10_wire 62 = .ok (.aload_n 0, 1) := by decide +kernel
theorem dX10_wire_63 : decode cX10_wire 63 = .ok (.getfield 23, 3) := by decide +kernel
theorem dX10_wire_66 : decode cX10_wire 66 = .ok (.getfield 181, 3) := by decide +kernel
theorem dX10_wire_69 : decode cX10_wire 69 = .ok (.aload_n 0, 1) := by decide +kernel
theorem dX10_wire_70 : decode cX10_wire 70 = .ok (.getfield 23, 3) := by decide +kernel
theorem dX10_wire_73 : decode cX10_wire 73 = .ok (.getfield 145, 3) := by decide +kernel
theorem dX10_wire_76 : decode cX10_wire 76 = .ok (.invokestatic 189, 3) := by decide +kernel
theorem dX10_wire_79 : decode cX10_wire 79 = .ok (.iload_n 1, 1) := by decide +kernel
theorem dX10_wire_80 : decode cX10_wire 80 = .ok (.ishr, 1) := by decide +kernel
theorem dX10_wire_81 : decode cX10_wire 81 = .ok (.iconst 1, 1) := by decide +kernel
theorem dX10_wire_82 : decode cX10_wire 82 = .ok (.iand, 1) := by decide +kernel
theorem dX10_wire_83 : decode cX10_wire 83 = .ok (.ireturn, 1) := by decide +kernel
theorem dX10_wire_84 : decode cX10_wire 84 = .ok (.aload_n 0, 1) := by decide +kernel
theorem dX10_wire_85 : decode cX10_wire 85 = .ok (.getfield 23, 3) := by decide +kernel
theorem dX10_wire_88 : decode cX10_wire 88 = .ok (.getfield 192, 3) := by decide +kernel
theorem dX10_wire_91 : decode cX10_wire 91 = .ok (.iload_n 1, 1) := by decide +kernel
theorem dX10_wire_92 : decode cX10_wire 92 = .ok (.invokestatic 182, 3) := by decide +kernel
theorem dX10_wire_95 : decode cX10_wire 95 = .ok (.ireturn, 1) := by decide +kernel
theorem dX10_wire_96 : decode cX10_wire 96 = .ok (.ldc 89, 2) := by decide +kernel
theorem dX10_wire_98 : decode cX10_wire 98 = .ok (.ireturn, 1) := by decide +kernel
theorem dX10_end_0 : decode cX10_end 0 = .ok (.aload_n 0, 1) := by decide +kernel
theorem dX10_end_1 : decode cX10_end 1 = .ok (.iload_n 1, 1) := by decide +kernel
theorem dX10_end_2 : decode cX10_end 2 = .ok (.invokevirtual 177, 3) := by decide +kernel
theorem dX10_end_5 : decode cX10_end 5 = .ok (.ifCond .ne 6, 3) := by decide +kernel
theorem dX10_end_8 : decode cX10_end 8 = .ok (.ldc 180, 2) := by decide +kernel
theorem dX10_end_10 : decode cX10_end 10 = .ok (.ireturn, 1) := by decide +kernel
theorem dX10_end_11 : decode cX10_end 11 = .ok (.iload_n 2, 1) := by decide +kernel
theorem dX10_end_12 : decode cX10_end 12 = .ok (.tableswitch 63 0 3 #[32, 39, 51, 57], 32) := by decide +kernel
theorem dX10_end_44 : decode cX10_end 44 = .ok (.aload_n 0, 1) := by decide +kernel
theorem dX10_end_45 : decode cX10_end 45 = .ok (.getfield 16, 3) := by decide +kernel
theorem dX10_end_48 : decode cX10_end 48 = .ok (.iload_n 1, 1) := by decide +kernel
theorem dX10_end_49 : decode cX10_end 49 = .ok (.iaload, 1) := by decide +kernel
theorem dX10_end_50 : decode cX10_end 50 = .ok (.ireturn, 1) := by decide +kernel
theorem dX10_end_51 : decode cX10_end 51 = .ok (.aload_n 0, 1) := by decide +kernel
theorem dX10_end_52 : decode cX10_end 52 = .ok (.getfield 23, 3) := by decide +kernel
theorem dX10_end_55 : decode cX10_end 55 = .ok (.getfield 195, 3) := by decide +kernel
theorem dX10_end_58 : decode cX10_end 58 = .ok (.iload_n 1, 1) := by decide +kernel
theorem dX10_end_59 : decode cX10_end 59 = .ok (.invokestatic 182, 3) := by decide +kernel
theorem dX10_end_62 : decode cX10_end 62 = .ok (.ireturn, 1) := by decide +kernel
theorem dX10_end_63 : decode cX10_end 63 = .ok (.aload_n 0, 1) := by decide +kernel
theorem dX10_end_64 : decode cX10_end 64 = .ok (.iload_n 1, 1) := by decide +kernel
theorem dX10_end_65 : decode cX10_end 65 = .ok (.invokevirtual 198, 3) := by decide +kernel
theorem dX10_end_68 : decode cX10_end 68 = .ok (.ireturn, 1) := by decide +kernel
theorem dX10_end_69 : decode cX10_end 69 = .ok (.aload_n 0, 1) := by decide +kernel
theorem dX10_end_70 : decode cX10_end 70 = .ok (.iload_n 1, 1) := by decide +kernel
theorem dX10_end_71 : decode cX10_end 71 = .ok (.invokevirtual 201, 3) := by decide +kernel
theorem dX10_end_74 : decode cX10_end 74 = .ok (.ireturn, 1) := by decide +kernel
theorem dX10_end_75 : decode cX10_end 75 = .ok (.ldc 89, 2) := by decide +kernel
theorem dX10_end_77 : decode cX10_end 77 = .ok (.ireturn, 1) := by decide +kernel
theorem dX10_net_0 : decode cX10_net 0 = .ok (.aload_n 0, 1) := by decide +kernel
theorem dX10_net_1 : decode cX10_net 1 = .ok (.iload_n 2, 1) := by decide +kernel
theorem dX10_net_2 : decode cX10_net 2 = .ok (.invokevirtual 177, 3) := by decide +kernel
theorem dX10_net_5 : decode cX10_net 5 = .ok (.ifCond .ne 6, 3) := by decide +kernel
theorem dX10_net_8 : decode cX10_net 8 = .ok (.ldc 180, 2) := by decide +kernel
theorem dX10_net_10 : decode cX10_net 10 = .ok (.ireturn, 1) := by decide +kernel
theorem dX10_net_11 : decode cX10_net 11 = .ok (.iload_n 1, 1) := by decide +kernel
theorem dX10_net_12 : decode cX10_net 12 = .ok (.ifCond .lt 8, 3) := by decide +kernel
theorem dX10_net_15 : decode cX10_net 15 = .ok (.iload_n 1, 1) := by decide +kernel
theorem dX10_net_16 : decode cX10_net 16 = .ok (.iconst 1, 1) := by decide +kernel
theorem dX10_net_17 : decode cX10_net 17 = .ok (.if_icmp .le 6, 3) := by decide +kernel
theorem dX10_net_20 : decode cX10_net 20 = .ok (.ldc 89, 2) := by decide +kernel
theorem dX10_net_22 : decode cX10_net 22 = .ok (.ireturn, 1) := by decide +kernel
theorem dX10_net_23 : decode cX10_net 23 = .ok (.aload_n 0, 1) := by decide +kernel
theorem dX10_net_24 : decode cX10_net 24 = .ok (.aload_n 0, 1) := by decide +kernel
theorem dX10_net_25 : decode cX10_net 25 = .ok (.getfield 23, 3) := by decide +kernel
theorem dX10_net_28 : decode cX10_net 28 = .ok (.getfield 181, 3) := by decide +kernel
theorem dX10_net_31 : decode cX10_net 31 = .ok (.invokevirtual 204, 3) := by decide +kernel
theorem dX10_net_34 : decode cX10_net 34 = .ok (.aload_n 0, 1) := by decide +kernel
theorem dX10_net_35 : decode cX10_net 35 = .ok (.getfield 62, 3) := by decide +kernel
theorem dX10_net_38 : decode cX10_net 38 = .ok (.iload_n 1, 1) := by decide +kernel
theorem dX10_net_39 : decode cX10_net 39 = .ok (.iload_n 2, 1) := by decide +kernel
theorem dX10_net_40 : decode cX10_net 40 = .ok (.invokestatic 208, 3) := by decide +kernel
theorem dX10_net_43 : decode cX10_net 43 = .ok (.invokevirtual 211, 3) := by decide +kernel
theorem dX10_net_46 : decode cX10_net 46 = .ok (.ireturn, 1) := by decide +kernel
theorem dX10_rings_0 : decode cX10_rings 0 = .ok (.aload_n 0, 1) := by decide +kernel
theorem dX10_rings_1 : decode cX10_rings 1 = .ok (.iload_n 1, 1) := by decide +kernel
theorem dX10_rings_2 : decode cX10_rings 2 = .ok (.iload_n 2, 1) := by decide +kernel
theorem dX10_rings_3 : decode cX10_rings 3 = .ok (.invokevirtual 214, 3) := by decide +kernel
theorem dX10_rings_6 : decode cX10_rings 6 = .ok (.ifCond .ne 6, 3) := by decide +kernel
theorem dX10_rings_9 : decode cX10_rings 9 = .ok (.ldc 180, 2) := by decide +kernel
theorem dX10_rings_11 : decode cX10_rings 11 = .ok (.ireturn, 1) := by decide +kernel
theorem dX10_rings_12 : decode cX10_rings 12 = .ok (.aload_n 0, 1) := by decide +kernel
theorem dX10_rings_13 : decode cX10_rings 13 = .ok (.aload_n 0, 1) := by decide +kernel
theorem dX10_rings_14 : decode cX10_rings 14 = .ok (.getfield 23, 3) := by decide +kernel
theorem dX10_rings_17 : decode cX10_rings 17 = .ok (.getfield 181, 3) := by decide +kernel
theorem dX10_rings_20 : decode cX10_rings 20 = .ok (.iload_n 1, 1) := by decide +kernel
theorem dX10_rings_21 : decode cX10_rings 21 = .ok (.iload_n 2, 1) := by decide +kernel
theorem dX10_rings_22 : decode cX10_rings 22 = .ok (.invokevirtual 218, 3) := by decide +kernel
theorem dX10_rings_25 : decode cX10_rings 25 = .ok (.ifCond .eq 7, 3) := by decide +kernel
theorem dX10_rings_28 : decode cX10_rings 28 = .ok (.iconst 1, 1) := by decide +kernel
theorem dX10_rings_29 : decode cX10_rings 29 = .ok (.goto 4, 3) := by decide +kernel
theorem dX10_rings_32 : decode cX10_rings 32 = .ok (.iconst 0, 1) := by decide +kernel
theorem dX10_rings_33 : decode cX10_rings 33 = .ok (.ireturn, 1) := by decide +kernel
theorem dX10_touches_0 : decode cX10_touches 0 = .ok (.aload_n 0, 1) := by decide +kernel
theorem dX10_touches_1 : decode cX10_touches 1 = .ok (.iload_n 1, 1) := by decide +kernel
theorem dX10_touches_2 : decode cX10_touches 2 = .ok (.iload_n 2, 1) := by decide +kernel
theorem dX10_touches_3 : decode cX10_touches 3 = .ok (.invokevirtual 222, 3) := by decide +kernel
theorem dX10_touches_6 : decode cX10_touches 6 = .ok (.ifCond .ne 6, 3) := by decide +kernel
theorem dX10_touches_9 : decode cX10_touches 9 = .ok (.ldc 180, 2) := by decide +kernel
theorem dX10_touches_11 : decode cX10_touches 11 = .ok (.ireturn, 1) := by decide +kernel
theorem dX10_touches_12 : decode cX10_touches 12 = .ok (.aload_n 0, 1) := by decide +kernel
theorem dX10_touches_13 : decode cX10_touches 13 = .ok (.getfield 23, 3) := by decide +kernel
theorem dX10_touches_16 : decode cX10_touches 16 = .ok (.getfield 154, 3) := by decide +kernel
theorem dX10_touches_19 : decode cX10_touches 19 = .ok (.iload_n 1, 1) := by decide +kernel
theorem dX10_touches_20 : decode cX10_touches 20 = .ok (.iload_n 2, 1) := by decide +kernel
theorem dX10_touches_21 : decode cX10_touches 21 = .ok (.invokestatic 225, 3) := by decide +kernel
theorem dX10_touches_24 : decode cX10_touches 24 = .ok (.iand, 1) := by decide +kernel
theorem dX10_touches_25 : decode cX10_touches 25 = .ok (.ifCond .eq 7, 3) := by decide +kernel
theorem dX10_touches_28 : decode cX10_touches 28 = .ok (.iconst 1, 1) := by decide +kernel
theorem dX10_touches_29 : decode cX10_touches 29 = .ok (.goto 4, 3) := by decide +kernel
theorem dX10_touches_32 : decode cX10_touches 32 = .ok (.iconst 0, 1) := by decide +kernel
theorem dX10_touches_33 : decode cX10_touches 33 = .ok (.ireturn, 1) := by decide +kernel
theorem dX10_tie_0 : decode cX10_tie 0 = .ok (.aload_n 0, 1) := by decide +kernel
theorem dX10_tie_1 : decode cX10_tie 1 = .ok (.iload_n 1, 1) := by decide +kernel
theorem dX10_tie_2 : decode cX10_tie 2 = .ok (.invokevirtual 177, 3) := by decide +kernel
theorem dX10_tie_5 : decode cX10_tie 5 = .ok (.ifCond .ne 6, 3) := by decide +kernel
theorem dX10_tie_8 : decode cX10_tie 8 = .ok (.ldc 180, 2) := by decide +kernel
theorem dX10_tie_10 : decode cX10_tie 10 = .ok (.ireturn, 1) := by decide +kernel
theorem dX10_tie_11 : decode cX10_tie 11 = .ok (.iload_n 2, 1) := by decide +kernel
theorem dX10_tie_12 : decode cX10_tie 12 = .ok (.ifCond .lt 8, 3) := by decide +kernel
theorem dX10_tie_15 : decode cX10_tie 15 = .ok (.iload_n 2, 1) := by decide +kernel
theorem dX10_tie_16 : decode cX10_tie 16 = .ok (.iconst 4, 1) := by decide +kernel
theorem dX10_tie_17 : decode cX10_tie 17 = .ok (.if_icmp .lt 6, 3) := by decide +kernel
theorem dX10_tie_20 : decode cX10_tie 20 = .ok (.ldc 89, 2) := by decide +kernel
theorem dX10_tie_22 : decode cX10_tie 22 = .ok (.ireturn, 1) := by decide +kernel
theorem dX10_tie_23 : decode cX10_tie 23 = .ok (.aload_n 0, 1) := by decide +kernel
theorem dX10_tie_24 : decode cX10_tie 24 = .ok (.getfield 23, 3) := by decide +kernel
theorem dX10_tie_27 : decode cX10_tie 27 = .ok (.invokevirtual 228, 3) := by decide +kernel
theorem dX10_tie_30 : decode cX10_tie 30 = .ok (.iload_n 1, 1) := by decide +kernel
theorem dX10_tie_31 : decode cX10_tie 31 = .ok (.invokestatic 182, 3) := by decide +kernel
theorem dX10_tie_34 : decode cX10_tie 34 = .ok (.istore_n 3, 1) := by decide +kernel
theorem dX10_tie_35 : decode cX10_tie 35 = .ok (.iload_n 3, 1) := by decide +kernel
theorem dX10_tie_36 : decode cX10_tie 36 = .ok (.iload_n 2, 1) := by decide +kernel
theorem dX10_tie_37 : decode cX10_tie 37 = .ok (.if_icmp .ne 6, 3) := by decide +kernel
theorem dX10_tie_40 : decode cX10_tie 40 = .ok (.ldc 231, 2) := by decide +kernel
theorem dX10_tie_42 : decode cX10_tie 42 = .ok (.ireturn, 1) := by decide +kernel
theorem dX10_tie_43 : decode cX10_tie 43 = .ok (.aload_n 0, 1) := by decide +kernel
theorem dX10_tie_44 : decode cX10_tie 44 = .ok (.getfield 30, 3) := by decide +kernel
theorem dX10_tie_47 : decode cX10_tie 47 = .ok (.aload_n 0, 1) := by decide +kernel
theorem dX10_tie_48 : decode cX10_tie 48 = .ok (.getfield 23, 3) := by decide +kernel
theorem dX10_tie_51 : decode cX10_tie 51 = .ok (.invokevirtual 232, 3) := by decide +kernel
theorem dX10_tie_54 : decode cX10_tie 54 = .ok (.aload_n 0, 1) := by decide +kernel
theorem dX10_tie_55 : decode cX10_tie 55 = .ok (.getfield 23, 3) := by decide +kernel
theorem dX10_tie_58 : decode cX10_tie 58 = .ok (.iload_n 1, 1) := by decide +kernel
theorem dX10_tie_59 : decode cX10_tie 59 = .ok (.iload_n 2, 1) := by decide +kernel
theorem dX10_tie_60 : decode cX10_tie 60 = .ok (.invokevirtual 236, 3) := by decide +kernel
theorem dX10_tie_63 : decode cX10_tie 63 = .ok (.iload_n 3, 1) := by decide +kernel
theorem dX10_tie_64 : decode cX10_tie 64 = .ok (.ireturn, 1) := by decide +kernel
theorem dX10_cross_0 : decode cX10_cross 0 = .ok (.aload_n 0, 1) := by decide +kernel
theorem dX10_cross_1 : decode cX10_cross 1 = .ok (.invokevirtual 239, 3) := by decide +kernel
theorem dX10_cross_4 : decode cX10_cross 4 = .ok (.istore_n 1, 1) := by decide +kernel
theorem dX10_cross_5 : decode cX10_cross 5 = .ok (.iload_n 1, 1) := by decide +kernel
theorem dX10_cross_6 : decode cX10_cross 6 = .ok (.ifCond .eq 5, 3) := by decide +kernel
theorem dX10_cross_9 : decode cX10_cross 9 = .ok (.iload_n 1, 1) := by decide +kernel
theorem dX10_cross_10 : decode cX10_cross 10 = .ok (.ireturn, 1) := by decide +kernel
theorem dX10_cross_11 : decode cX10_cross 11 = .ok (.aload_n 0, 1) := by decide +kernel
theorem dX10_cross_12 : decode cX10_cross 12 = .ok (.getfield 30, 3) := by decide +kernel
theorem dX10_cross_15 : decode cX10_cross 15 = .ok (.aload_n 0, 1) := by decide +kernel
theorem dX10_cross_16 : decode cX10_cross 16 = .ok (.getfield 23, 3) := by decide +kernel
theorem dX10_cross_19 : decode cX10_cross 19 = .ok (.invokevirtual 232, 3) := by decide +kernel
theorem dX10_cross_22 : decode cX10_cross 22 = .ok (.aload_n 0, 1) := by decide +kernel
theorem dX10_cross_23 : decode cX10_cross 23 = .ok (.getfield 23, 3) := by decide +kernel
theorem dX10_cross_26 : decode cX10_cross 26 = .ok (.invokevirtual 242, 3) := by decide +kernel
theorem dX10_cross_29 : decode cX10_cross 29 = .ok (.aload_n 0, 1) := by decide +kernel
theorem dX10_cross_30 : decode cX10_cross 30 = .ok (.getfield 23, 3) := by decide +kernel
theorem dX10_cross_33 : decode cX10_cross 33 = .ok (.dup, 1) := by decide +kernel
theorem dX10_cross_34 : decode cX10_cross 34 = .ok (.getfield 145, 3) := by decide +kernel
theorem dX10_cross_37 : decode cX10_cross 37 = .ok (.iconst 1, 1) := by decide +kernel
theorem dX10_cross_38 : decode cX10_cross 38 = .ok (.iadd, 1) := by decide +kernel
theorem dX10_cross_39 : decode cX10_cross 39 = .ok (.putfield 145, 3) := by decide +kernel
theorem dX10_cross_42 : decode cX10_cross 42 = .ok (.aload_n 0, 1) := by decide +kernel
theorem dX10_cross_43 : decode cX10_cross 43 = .ok (.getfield 23, 3) := by decide +kernel
theorem dX10_cross_46 : decode cX10_cross 46 = .ok (.getfield 145, 3) := by decide +kernel
theorem dX10_cross_49 : decode cX10_cross 49 = .ok (.ireturn, 1) := by decide +kernel
theorem dX10_test_0 : decode cX10_test 0 = .ok (.aload_n 0, 1) := by decide +kernel
theorem dX10_test_1 : decode cX10_test 1 = .ok (.iload_n 1, 1) := by decide +kernel
theorem dX10_test_2 : decode cX10_test 2 = .ok (.iload_n 2, 1) := by decide +kernel
theorem dX10_test_3 : decode cX10_test 3 = .ok (.invokevirtual 214, 3) := by decide +kernel
theorem dX10_test_6 : decode cX10_test 6 = .ok (.ifCond .ne 6, 3) := by decide +kernel
theorem dX10_test_9 : decode cX10_test 9 = .ok (.ldc 180, 2) := by decide +kernel
theorem dX10_test_11 : decode cX10_test 11 = .ok (.ireturn, 1) := by decide +kernel
theorem dX10_test_12 : decode cX10_test 12 = .ok (.aload_n 0, 1) := by decide +kernel
theorem dX10_test_13 : decode cX10_test 13 = .ok (.getfield 30, 3) := by decide +kernel
theorem dX10_test_16 : decode cX10_test 16 = .ok (.aload_n 0, 1) := by decide +kernel
theorem dX10_test_17 : decode cX10_test 17 = .ok (.getfield 23, 3) := by decide +kernel
theorem dX10_test_20 : decode cX10_test 20 = .ok (.invokevirtual 232, 3) := by decide +kernel
theorem dX10_test_23 : decode cX10_test 23 = .ok (.aload_n 0, 1) := by decide +kernel
theorem dX10_test_24 : decode cX10_test 24 = .ok (.getfield 23, 3) := by decide +kernel
theorem dX10_test_27 : decode cX10_test 27 = .ok (.invokevirtual 245, 3) := by decide +kernel
theorem dX10_test_30 : decode cX10_test 30 = .ok (.aload_n 0, 1) := by decide +kernel
theorem dX10_test_31 : decode cX10_test 31 = .ok (.aload_n 0, 1) := by decide +kernel
theorem dX10_test_32 : decode cX10_test 32 = .ok (.getfield 23, 3) := by decide +kernel
theorem dX10_test_35 : decode cX10_test 35 = .ok (.getfield 181, 3) := by decide +kernel
theorem dX10_test_38 : decode cX10_test 38 = .ok (.iload_n 1, 1) := by decide +kernel
theorem dX10_test_39 : decode cX10_test 39 = .ok (.iload_n 2, 1) := by decide +kernel
theorem dX10_test_40 : decode cX10_test 40 = .ok (.invokevirtual 218, 3) := by decide +kernel
theorem dX10_test_43 : decode cX10_test 43 = .ok (.ifCond .eq 7, 3) := by decide +kernel
theorem dX10_test_46 : decode cX10_test 46 = .ok (.iconst 1, 1) := by decide +kernel
theorem dX10_test_47 : decode cX10_test 47 = .ok (.goto 4, 3) := by decide +kernel
theorem dX10_test_50 : decode cX10_test 50 = .ok (.iconst 0, 1) := by decide +kernel
theorem dX10_test_51 : decode cX10_test 51 = .ok (.ireturn, 1) := by decide +kernel
theorem dX10_rest_0 : decode cX10_rest 0 = .ok (.iload_n 1, 1) := by decide +kernel
theorem dX10_rest_1 : decode cX10_rest 1 = .ok (.iconst 1, 1) := by decide +kernel
theorem dX10_rest_2 : decode cX10_rest 2 = .ok (.if_icmp .lt 9, 3) := by decide +kernel
theorem dX10_rest_5 : decode cX10_rest 5 = .ok (.iload_n 1, 1) := by decide +kernel
theorem dX10_rest_6 : decode cX10_rest 6 = .ok (.bipush 60, 2) := by decide +kernel
theorem dX10_rest_8 : decode cX10_rest 8 = .ok (.if_icmp .le 8, 3) := by decide +kernel
theorem dX10_rest_11 : decode cX10_rest 11 = .ok (.ldc 89, 2) := by decide +kernel
theorem dX10_rest_13 : decode cX10_rest 13 = .ok (.goto 7, 3) := by decide +kernel
theorem dX10_rest_16 : decode cX10_rest 16 = .ok (.aload_n 0, 1) := by decide +kernel
theorem dX10_rest_17 : decode cX10_rest 17 = .ok (.invokevirtual 239, 3) := by decide +kernel
theorem dX10_rest_20 : decode cX10_rest 20 = .ok (.istore_n 2, 1) := by decide +kernel
theorem dX10_rest_21 : decode cX10_rest 21 = .ok (.iload_n 2, 1) := by decide +kernel
theorem dX10_rest_22 : decode cX10_rest 22 = .ok (.ifCond .eq 5, 3) := by decide +kernel
theorem dX10_rest_25 : decode cX10_rest 25 = .ok (.iload_n 2, 1) := by decide +kernel
theorem dX10_rest_26 : decode cX10_rest 26 = .ok (.ireturn, 1) := by decide +kernel
theorem dX10_rest_27 : decode cX10_rest 27 = .ok (.aload_n 0, 1) := by decide +kernel
theorem dX10_rest_28 : decode cX10_rest 28 = .ok (.getfield 30, 3) := by decide +kernel
theorem dX10_rest_31 : decode cX10_rest 31 = .ok (.aload_n 0, 1) := by decide +kernel
theorem dX10_rest_32 : decode cX10_rest 32 = .ok (.getfield 23, 3) := by decide +kernel
theorem dX10_rest_35 : decode cX10_rest 35 = .ok (.invokevirtual 232, 3) := by decide +kernel
theorem dX10_rest_38 : decode cX10_rest 38 = .ok (.aload_n 0, 1) := by decide +kernel
theorem dX10_rest_39 : decode cX10_rest 39 = .ok (.getfield 23, 3) := by decide +kernel
theorem dX10_rest_42 : decode cX10_rest 42 = .ok (.dup, 1) := by decide +kernel
theorem dX10_rest_43 : decode cX10_rest 43 = .ok (.getfield 145, 3) := by decide +kernel
theorem dX10_rest_46 : decode cX10_rest 46 = .ok (.iload_n 1, 1) := by decide +kernel
theorem dX10_rest_47 : decode cX10_rest 47 = .ok (.iadd, 1) := by decide +kernel
theorem dX10_rest_48 : decode cX10_rest 48 = .ok (.putfield 145, 3) := by decide +kernel
theorem dX10_rest_51 : decode cX10_rest 51 = .ok (.aload_n 0, 1) := by decide +kernel
theorem dX10_rest_52 : decode cX10_rest 52 = .ok (.getfield 23, 3) := by decide +kernel
theorem dX10_rest_55 : decode cX10_rest 55 = .ok (.getfield 145, 3) := by decide +kernel
theorem dX10_rest_58 : decode cX10_rest 58 = .ok (.ireturn, 1) := by decide +kernel
theorem dX10_mend_0 : decode cX10_mend 0 = .ok (.aload_n 0, 1) := by decide +kernel
theorem dX10_mend_1 : decode cX10_mend 1 = .ok (.iload_n 1, 1) := by decide +kernel
theorem dX10_mend_2 : decode cX10_mend 2 = .ok (.invokevirtual 177, 3) := by decide +kernel
theorem dX10_mend_5 : decode cX10_mend 5 = .ok (.ifCond .ne 6, 3) := by decide +kernel
theorem dX10_mend_8 : decode cX10_mend 8 = .ok (.ldc 180, 2) := by decide +kernel
theorem dX10_mend_10 : decode cX10_mend 10 = .ok (.ireturn, 1) := by decide +kernel
theorem dX10_mend_11 : decode cX10_mend 11 = .ok (.iload_n 2, 1) := by decide +kernel
theorem dX10_mend_12 : decode cX10_mend 12 = .ok (.ifCond .lt 8, 3) := by decide +kernel
theorem dX10_mend_15 : decode cX10_mend 15 = .ok (.iload_n 2, 1) := by decide +kernel
theorem dX10_mend_16 : decode cX10_mend 16 = .ok (.iconst 4, 1) := by decide +kernel
theorem dX10_mend_17 : decode cX10_mend 17 = .ok (.if_icmp .lt 6, 3) := by decide +kernel
theorem dX10_mend_20 : decode cX10_mend 20 = .ok (.ldc 89, 2) := by decide +kernel
theorem dX10_mend_22 : decode cX10_mend 22 = .ok (.ireturn, 1) := by decide +kernel
theorem dX10_mend_23 : decode cX10_mend 23 = .ok (.aload_n 0, 1) := by decide +kernel
theorem dX10_mend_24 : decode cX10_mend 24 = .ok (.getfield 23, 3) := by decide +kernel
theorem dX10_mend_27 : decode cX10_mend 27 = .ok (.getfield 181, 3) := by decide +kernel
theorem dX10_mend_30 : decode cX10_mend 30 = .ok (.iload_n 1, 1) := by decide +kernel
theorem dX10_mend_31 : decode cX10_mend 31 = .ok (.invokestatic 182, 3) := by decide +kernel
theorem dX10_mend_34 : decode cX10_mend 34 = .ok (.istore_n 3, 1) := by decide +kernel
theorem dX10_mend_35 : decode cX10_mend 35 = .ok (.iload_n 3, 1) := by decide +kernel
theorem dX10_mend_36 : decode cX10_mend 36 = .ok (.iload_n 2, 1) := by decide +kernel
theorem dX10_mend_37 : decode cX10_mend 37 = .ok (.if_icmp .ne 6, 3) := by decide +kernel
theorem dX10_mend_40 : decode cX10_mend 40 = .ok (.ldc 231, 2) := by decide +kernel
theorem dX10_mend_42 : decode cX10_mend 42 = .ok (.ireturn, 1) := by decide +kernel
theorem dX10_mend_43 : decode cX10_mend 43 = .ok (.aload_n 0, 1) := by decide +kernel
theorem dX10_mend_44 : decode cX10_mend 44 = .ok (.getfield 30, 3) := by decide +kernel
theorem dX10_mend_47 : decode cX10_mend 47 = .ok (.aload_n 0, 1) := by decide +kernel
theorem dX10_mend_48 : decode cX10_mend 48 = .ok (.getfield 23, 3) := by decide +kernel
theorem dX10_mend_51 : decode cX10_mend 51 = .ok (.invokevirtual 232, 3) := by decide +kernel
theorem dX10_mend_54 : decode cX10_mend 54 = .ok (.aload_n 0, 1) := by decide +kernel
theorem dX10_mend_55 : decode cX10_mend 55 = .ok (.getfield 23, 3) := by decide +kernel
theorem dX10_mend_58 : decode cX10_mend 58 = .ok (.aload_n 0, 1) := by decide +kernel
theorem dX10_mend_59 : decode cX10_mend 59 = .ok (.getfield 23, 3) := by decide +kernel
theorem dX10_mend_62 : decode cX10_mend 62 = .ok (.getfield 181, 3) := by decide +kernel
theorem dX10_mend_65 : decode cX10_mend 65 = .ok (.iload_n 1, 1) := by decide +kernel
theorem dX10_mend_66 : decode cX10_mend 66 = .ok (.iload_n 2, 1) := by decide +kernel
theorem dX10_mend_67 : decode cX10_mend 67 = .ok (.invokestatic 248, 3) := by decide +kernel
theorem dX10_mend_70 : decode cX10_mend 70 = .ok (.putfield 181, 3) := by decide +kernel
theorem dX10_mend_73 : decode cX10_mend 73 = .ok (.iload_n 3, 1) := by decide +kernel
theorem dX10_mend_74 : decode cX10_mend 74 = .ok (.ireturn, 1) := by decide +kernel
theorem dX10_touch_0 : decode cX10_touch 0 = .ok (.aload_n 0, 1) := by decide +kernel
theorem dX10_touch_1 : decode cX10_touch 1 = .ok (.iload_n 1, 1) := by decide +kernel
theorem dX10_touch_2 : decode cX10_touch 2 = .ok (.iload_n 2, 1) := by decide +kernel
theorem dX10_touch_3 : decode cX10_touch 3 = .ok (.invokevirtual 222, 3) := by decide +kernel
theorem dX10_touch_6 : decode cX10_touch 6 = .ok (.ifCond .ne 6, 3) := by decide +kernel
theorem dX10_touch_9 : decode cX10_touch 9 = .ok (.ldc 180, 2) := by decide +kernel
theorem dX10_touch_11 : decode cX10_touch 11 = .ok (.ireturn, 1) := by decide +kernel
theorem dX10_touch_12 : decode cX10_touch 12 = .ok (.iload_n 1, 1) := by decide +kernel
theorem dX10_touch_13 : decode cX10_touch 13 = .ok (.iload_n 2, 1) := by decide +kernel
theorem dX10_touch_14 : decode cX10_touch 14 = .ok (.invokestatic 225, 3) := by decide +kernel
theorem dX10_touch_17 : decode cX10_touch 17 = .ok (.istore 4, 2) := by decide +kernel
theorem dX10_touch_19 : decode cX10_touch 19 = .ok (.aload_n 0, 1) := by decide +kernel
theorem dX10_touch_20 : decode cX10_touch 20 = .ok (.getfield 23, 3) := by decide +kernel
theorem dX10_touch_23 : decode cX10_touch 23 = .ok (.getfield 154, 3) := by decide +kernel
theorem dX10_touch_26 : decode cX10_touch 26 = .ok (.iload 4, 2) := by decide +kernel
theorem dX10_touch_28 : decode cX10_touch 28 = .ok (.iand, 1) := by decide +kernel
theorem dX10_touch_29 : decode cX10_touch 29 = .ok (.ifCond .eq 7, 3) := by decide +kernel
theorem dX10_touch_32 : decode cX10_touch 32 = .ok (.iconst 1, 1) := by decide +kernel
theorem dX10_touch_33 : decode cX10_touch 33 = .ok (.goto 4, 3) := by decide +kernel
theorem dX10_touch_36 : decode cX10_touch 36 = .ok (.iconst 0, 1) := by decide +kernel
theorem dX10_touch_37 : decode cX10_touch 37 = .ok (.istore 5, 2) := by decide +kernel
theorem dX10_touch_39 : decode cX10_touch 39 = .ok (.iload 5, 2) := by decide +kernel
theorem dX10_touch_41 : decode cX10_touch 41 = .ok (.iload_n 3, 1) := by decide +kernel
theorem dX10_touch_42 : decode cX10_touch 42 = .ok (.if_icmp .ne 6, 3) := by decide +kernel
theorem dX10_touch_45 : decode cX10_touch 45 = .ok (.ldc 231, 2) := by decide +kernel
theorem dX10_touch_47 : decode cX10_touch 47 = .ok (.ireturn, 1) := by decide +kernel
theorem dX10_touch_48 : decode cX10_touch 48 = .ok (.aload_n 0, 1) := by decide +kernel
theorem dX10_touch_49 : decode cX10_touch 49 = .ok (.getfield 30, 3) := by decide +kernel
theorem dX10_touch_52 : decode cX10_touch 52 = .ok (.aload_n 0, 1) := by decide +kernel
theorem dX10_touch_53 : decode cX10_touch 53 = .ok (.getfield 23, 3) := by decide +kernel
theorem dX10_touch_56 : decode cX10_touch 56 = .ok (.invokevirtual 232, 3) := by decide +kernel
theorem dX10_touch_59 : decode cX10_touch 59 = .ok (.aload_n 0, 1) := by decide +kernel
theorem dX10_touch_60 : decode cX10_touch 60 = .ok (.getfield 23, 3) := by decide +kernel
theorem dX10_touch_63 : decode cX10_touch 63 = .ok (.dup, 1) := by decide +kernel
theorem dX10_touch_64 : decode cX10_touch 64 = .ok (.getfield 154, 3) := by decide +kernel
theorem dX10_touch_67 : decode cX10_touch 67 = .ok (.iload 4, 2) := by decide +kernel
theorem dX10_touch_69 : decode cX10_touch 69 = .ok (.ixor, 1) := by decide +kernel
theorem dX10_touch_70 : decode cX10_touch 70 = .ok (.putfield 154, 3) := by decide +kernel
theorem dX10_touch_73 : decode cX10_touch 73 = .ok (.aload_n 0, 1) := by decide +kernel
theorem dX10_touch_74 : decode cX10_touch 74 = .ok (.getfield 23, 3) := by decide +kernel
theorem dX10_touch_77 : decode cX10_touch 77 = .ok (.getfield 154, 3) := by decide +kernel
theorem dX10_touch_80 : decode cX10_touch 80 = .ok (.invokestatic 155, 3) := by decide +kernel
theorem dX10_touch_83 : decode cX10_touch 83 = .ok (.ireturn, 1) := by decide +kernel
theorem dX10_drift_0 : decode cX10_drift 0 = .ok (.iload_n 1, 1) := by decide +kernel
theorem dX10_drift_1 : decode cX10_drift 1 = .ok (.iconst 1, 1) := by decide +kernel
theorem dX10_drift_2 : decode cX10_drift 2 = .ok (.if_icmp .lt 9, 3) := by decide +kernel
theorem dX10_drift_5 : decode cX10_drift 5 = .ok (.iload_n 1, 1) := by decide +kernel
theorem dX10_drift_6 : decode cX10_drift 6 = .ok (.bipush 60, 2) := by decide +kernel
theorem dX10_drift_8 : decode cX10_drift 8 = .ok (.if_icmp .le 8, 3) := by decide +kernel
theorem dX10_drift_11 : decode cX10_drift 11 = .ok (.ldc 89, 2) := by decide +kernel
theorem dX10_drift_13 : decode cX10_drift 13 = .ok (.goto 7, 3) := by decide +kernel
theorem dX10_drift_16 : decode cX10_drift 16 = .ok (.aload_n 0, 1) := by decide +kernel
theorem dX10_drift_17 : decode cX10_drift 17 = .ok (.invokevirtual 239, 3) := by decide +kernel
theorem dX10_drift_20 : decode cX10_drift 20 = .ok (.istore_n 2, 1) := by decide +kernel
theorem dX10_drift_21 : decode cX10_drift 21 = .ok (.iload_n 2, 1) := by decide +kernel
theorem dX10_drift_22 : decode cX10_drift 22 = .ok (.ifCond .eq 5, 3) := by decide +kernel
theorem dX10_drift_25 : decode cX10_drift 25 = .ok (.iload_n 2, 1) := by decide +kernel
theorem dX10_drift_26 : decode cX10_drift 26 = .ok (.ireturn, 1) := by decide +kernel
theorem dX10_drift_27 : decode cX10_drift 27 = .ok (.aload_n 0, 1) := by decide +kernel
theorem dX10_drift_28 : decode cX10_drift 28 = .ok (.getfield 30, 3) := by decide +kernel
theorem dX10_drift_31 : decode cX10_drift 31 = .ok (.aload_n 0, 1) := by decide +kernel
theorem dX10_drift_32 : decode cX10_drift 32 = .ok (.getfield 23, 3) := by decide +kernel
theorem dX10_drift_35 : decode cX10_drift 35 = .ok (.invokevirtual 232, 3) := by decide +kernel
theorem dX10_drift_38 : decode cX10_drift 38 = .ok (.iconst 0, 1) := by decide +kernel
theorem dX10_drift_39 : decode cX10_drift 39 = .ok (.istore_n 3, 1) := by decide +kernel
theorem dX10_drift_40 : decode cX10_drift 40 = .ok (.iload_n 3, 1) := by decide +kernel
theorem dX10_drift_41 : decode cX10_drift 41 = .ok (.iload_n 1, 1) := by decide +kernel
theorem dX10_drift_42 : decode cX10_drift 42 = .ok (.if_icmp .ge 13, 3) := by decide +kernel
theorem dX10_drift_45 : decode cX10_drift 45 = .ok (.aload_n 0, 1) := by decide +kernel
theorem dX10_drift_46 : decode cX10_drift 46 = .ok (.invokevirtual 252, 3) := by decide +kernel
theorem dX10_drift_49 : decode cX10_drift 49 = .ok (.iinc 3 1, 3) := by decide +kernel
theorem dX10_drift_52 : decode cX10_drift 52 = .ok (.goto (-12), 3) := by decide +kernel
theorem dX10_drift_55 : decode cX10_drift 55 = .ok (.aload_n 0, 1) := by decide +kernel
theorem dX10_drift_56 : decode cX10_drift 56 = .ok (.getfield 23, 3) := by decide +kernel
theorem dX10_drift_59 : decode cX10_drift 59 = .ok (.getfield 145, 3) := by decide +kernel
theorem dX10_drift_62 : decode cX10_drift 62 = .ok (.ireturn, 1) := by decide +kernel
theorem dX10_undo_0 : decode cX10_undo 0 = .ok (.aload_n 0, 1) := by decide +kernel
theorem dX10_undo_1 : decode cX10_undo 1 = .ok (.getfield 30, 3) := by decide +kernel
theorem dX10_undo_4 : decode cX10_undo 4 = .ok (.getfield 174, 3) := by decide +kernel
theorem dX10_undo_7 : decode cX10_undo 7 = .ok (.ifCond .ne 6, 3) := by decide +kernel
theorem dX10_undo_10 : decode cX10_undo 10 = .ok (.ldc 231, 2) := by decide +kernel
theorem dX10_undo_12 : decode cX10_undo 12 = .ok (.ireturn, 1) := by decide +kernel
theorem dX10_undo_13 : decode cX10_undo 13 = .ok (.aload_n 0, 1) := by decide +kernel
theorem dX10_undo_14 : decode cX10_undo 14 = .ok (.getfield 30, 3) := by decide +kernel
theorem dX10_undo_17 : decode cX10_undo 17 = .ok (.aload_n 0, 1) := by decide +kernel
theorem dX10_undo_18 : decode cX10_undo 18 = .ok (.getfield 23, 3) := by decide +kernel
theorem dX10_undo_21 : decode cX10_undo 21 = .ok (.invokevirtual 255, 3) := by decide +kernel
theorem dX10_undo_24 : decode cX10_undo 24 = .ok (.aload_n 0, 1) := by decide +kernel
theorem dX10_undo_25 : decode cX10_undo 25 = .ok (.getfield 30, 3) := by decide +kernel
theorem dX10_undo_28 : decode cX10_undo 28 = .ok (.getfield 174, 3) := by decide +kernel
theorem dX10_undo_31 : decode cX10_undo 31 = .ok (.ireturn, 1) := by decide +kernel
theorem dX10_cut_0 : decode cX10_cut 0 = .ok (.aload_n 0, 1) := by decide +kernel
theorem dX10_cut_1 : decode cX10_cut 1 = .ok (.iload_n 1, 1) := by decide +kernel
theorem dX10_cut_2 : decode cX10_cut 2 = .ok (.iload_n 2, 1) := by decide +kernel
theorem dX10_cut_3 : decode cX10_cut 3 = .ok (.invokevirtual 222, 3) := by decide +kernel
theorem dX10_cut_6 : decode cX10_cut 6 = .ok (.ifCond .ne 6, 3) := by decide +kernel
theorem dX10_cut_9 : decode cX10_cut 9 = .ok (.ldc 180, 2) := by decide +kernel
theorem dX10_cut_11 : decode cX10_cut 11 = .ok (.ireturn, 1) := by decide +kernel
theorem dX10_cut_12 : decode cX10_cut 12 = .ok (.iconst (-1), 1) := by decide +kernel
theorem dX10_cut_13 : decode cX10_cut 13 = .ok (.istore_n 3, 1) := by decide +kernel
theorem dX10_cut_14 : decode cX10_cut 14 = .ok (.iconst 0, 1) := by decide +kernel
theorem dX10_cut_15 : decode cX10_cut 15 = .ok (.istore 4, 2) := by decide +kernel
theorem dX10_cut_17 : decode cX10_cut 17 = .ok (.iload 4, 2) := by decide +kernel
theorem dX10_cut_19 : decode cX10_cut 19 = .ok (.iconst 1, 1) := by decide +kernel
theorem dX10_cut_20 : decode cX10_cut 20 = .ok (.aload_n 0, 1) := by decide +kernel
theorem dX10_cut_21 : decode cX10_cut 21 = .ok (.getfield 108, 3) := by decide +kernel
theorem dX10_cut_24 : decode cX10_cut 24 = .ok (.ishl, 1) := by decide +kernel
theorem dX10_cut_25 : decode cX10_cut 25 = .ok (.if_icmp .ge 56, 3) := by decide +kernel
theorem dX10_cut_28 : decode cX10_cut 28 = .ok (.iload_n 3, 1) := by decide +kernel
theorem dX10_cut_29 : decode cX10_cut 29 = .ok (.iconst (-1), 1) := by decide +kernel
theorem dX10_cut_30 : decode cX10_cut 30 = .ok (.if_icmp .eq 15, 3) := by decide +kernel
theorem dX10_cut_33 : decode cX10_cut 33 = .ok (.iload 4, 2) := by decide +kernel
theorem dX10_cut_35 : decode cX10_cut 35 = .ok (.invokestatic 155, 3) := by decide +kernel
theorem dX10_cut_38 : decode cX10_cut 38 = .ok (.iload_n 3, 1) := by decide +kernel
theorem dX10_cut_39 : decode cX10_cut 39 = .ok (.invokestatic 155, 3) := by decide +kernel
theorem dX10_cut_42 : decode cX10_cut 42 = .ok (.if_icmp .ge 7, 3) := by decide +kernel
theorem dX10_cut_45 : decode cX10_cut 45 = .ok (.iconst 1, 1) := by decide +kernel
theorem dX10_cut_46 : decode cX10_cut 46 = .ok (.goto 4, 3) := by decide +kernel
theorem dX10_cut_49 : decode cX10_cut 49 = .ok (.iconst 0, 1) := by decide +kernel
theorem dX10_cut_50 : decode cX10_cut 50 = .ok (.istore 5, 2) := by decide +kernel
theorem dX10_cut_52 : decode cX10_cut 52 = .ok (.iload 5, 2) := by decide +kernel
theorem dX10_cut_54 : decode cX10_cut 54 = .ok (.ifCond .eq 21, 3) := by decide +kernel
theorem dX10_cut_57 : decode cX10_cut 57 = .ok (.aload_n 0, 1) := by decide +kernel
theorem dX10_cut_58 : decode cX10_cut 58 = .ok (.aload_n 0, 1) := by decide +kernel
theorem dX10_cut_59 : decode cX10_cut 59 = .ok (.iload 4, 2) := by decide +kernel
theorem dX10_cut_61 : decode cX10_cut 61 = .ok (.invokevirtual 258, 3) := by decide +kernel
theorem dX10_cut_64 : decode cX10_cut 64 = .ok (.iload_n 1, 1) := by decide +kernel
theorem dX10_cut_65 : decode cX10_cut 65 = .ok (.iload_n 2, 1) := by decide +kernel
theorem dX10_cut_66 : decode cX10_cut 66 = .ok (.invokevirtual 218, 3) := by decide +kernel
theorem dX10_cut_69 : decode cX10_cut 69 = .ok (.ifCond .ne 6, 3) := by decide +kernel
theorem dX10_cut_72 : decode cX10_cut 72 = .ok (.iload 4, 2) := by decide +kernel
theorem dX10_cut_74 : decode cX10_cut 74 = .ok (.istore_n 3, 1) := by decide +kernel
theorem dX10_cut_75 : decode cX10_cut 75 = .ok (.iinc 4 1, 3) := by decide +kernel
theorem dX10_cut_78 : decode cX10_cut 78 = .ok (.goto (-61), 3) := by decide +kernel
theorem dX10_cut_81 : decode cX10_cut 81 = .ok (.iload_n 3, 1) := by decide +kernel
theorem dX10_cut_82 : decode cX10_cut 82 = .ok (.ireturn, 1) := by decide +kernel
theorem dX10_ties_0 : decode cX10_ties 0 = .ok (.iload_n 1, 1) := by decide +kernel
theorem dX10_ties_1 : decode cX10_ties 1 = .ok (.iconst (-1), 1) := by decide +kernel
theorem dX10_ties_2 : decode cX10_ties 2 = .ok (.if_icmp .eq 14, 3) := by decide +kernel
theorem dX10_ties_5 : decode cX10_ties 5 = .ok (.aload_n 0, 1) := by decide +kernel
theorem dX10_ties_6 : decode cX10_ties 6 = .ok (.iload_n 1, 1) := by decide +kernel
theorem dX10_ties_7 : decode cX10_ties 7 = .ok (.invokevirtual 177, 3) := by decide +kernel
theorem dX10_ties_10 : decode cX10_ties 10 = .ok (.ifCond .ne 6, 3) := by decide +kernel
theorem dX10_ties_13 : decode cX10_ties 13 = .ok (.ldc 180, 2) := by decide +kernel
theorem dX10_ties_15 : decode cX10_ties 15 = .ok (.ireturn, 1) := by decide +kernel
theorem dX10_ties_16 : decode cX10_ties 16 = .ok (.aload_n 0, 1) := by decide +kernel
theorem dX10_ties_17 : decode cX10_ties 17 = .ok (.getfield 108, 3) := by decide +kernel
theorem dX10_ties_20 : decode cX10_ties 20 = .ok (.ifCond .ne 6, 3) := by decide +kernel
theorem dX10_ties_23 : decode cX10_ties 23 = .ok (.ldc 231, 2) := by decide +kernel
theorem dX10_ties_25 : decode cX10_ties 25 = .ok (.ireturn, 1) := by decide +kernel
theorem dX10_ties_26 : decode cX10_ties 26 = .ok (.aload_n 0, 1) := by decide +kernel
theorem dX10_ties_27 : decode cX10_ties 27 = .ok (.invokevirtual 261, 3) := by decide +kernel
theorem dX10_ties_30 : decode cX10_ties 30 = .ok (.istore_n 2, 1) := by decide +kernel
theorem dX10_ties_31 : decode cX10_ties 31 = .ok (.iload_n 1, 1) := by decide +kernel
theorem dX10_ties_32 : decode cX10_ties 32 = .ok (.iconst (-1), 1) := by decide +kernel
theorem dX10_ties_33 : decode cX10_ties 33 = .ok (.if_icmp .ne 11, 3) := by decide +kernel
theorem dX10_ties_36 : decode cX10_ties 36 = .ok (.aload_n 0, 1) := by decide +kernel
theorem dX10_ties_37 : decode cX10_ties 37 = .ok (.iload_n 2, 1) := by decide +kernel
theorem dX10_ties_38 : decode cX10_ties 38 = .ok (.invokevirtual 264, 3) := by decide +kernel
theorem dX10_ties_41 : decode cX10_ties 41 = .ok (.goto 10, 3) := by decide +kernel
theorem dX10_ties_44 : decode cX10_ties 44 = .ok (.iload_n 2, 1) := by decide +kernel
theorem dX10_ties_45 : decode cX10_ties 45 = .ok (.iload_n 1, 1) := by decide +kernel
theorem dX10_ties_46 : decode cX10_ties 46 = .ok (.invokestatic 182, 3) := by decide +kernel
theorem dX10_ties_49 : decode cX10_ties 49 = .ok (.iconst 1, 1) := by decide +kernel
theorem dX10_ties_50 : decode cX10_ties 50 = .ok (.isub, 1) := by decide +kernel
theorem dX10_ties_51 : decode cX10_ties 51 = .ok (.ireturn, 1) := by decide +kernel
theorem dX10_dry_0 : decode cX10_dry 0 = .ok (.iload_n 1, 1) := by decide +kernel
theorem dX10_dry_1 : decode cX10_dry 1 = .ok (.ifCond .lt 19, 3) := by decide +kernel
theorem dX10_dry_4 : decode cX10_dry 4 = .ok (.iload_n 1, 1) := by decide +kernel
theorem dX10_dry_5 : decode cX10_dry 5 = .ok (.bipush 60, 2) := by decide +kernel
theorem dX10_dry_7 : decode cX10_dry 7 = .ok (.if_icmp .gt 13, 3) := by decide +kernel
theorem dX10_dry_10 : decode cX10_dry 10 = .ok (.iload_n 2, 1) := by decide +kernel
theorem dX10_dry_11 : decode cX10_dry 11 = .ok (.ifCond .lt 9, 3) := by decide +kernel
theorem dX10_dry_14 : decode cX10_dry 14 = .ok (.iload_n 2, 1) := by decide +kernel
theorem dX10_dry_15 : decode cX10_dry 15 = .ok (.bipush 100, 2) := by decide +kernel
theorem dX10_dry_17 : decode cX10_dry 17 = .ok (.if_icmp .le 6, 3) := by decide +kernel
theorem dX10_dry_20 : decode cX10_dry 20 = .ok (.ldc 89, 2) := by decide +kernel
theorem dX10_dry_22 : decode cX10_dry 22 = .ok (.ireturn, 1) := by decide +kernel
theorem dX10_dry_23 : decode cX10_dry 23 = .ok (.ldc2_w 267, 3) := by decide +kernel
theorem dX10_dry_26 : decode cX10_dry 26 = .ok (.lstore_n 3, 1) := by decide +kernel
theorem dX10_dry_27 : decode cX10_dry 27 = .ok (.iconst 0, 1) := by decide +kernel
theorem dX10_dry_28 : decode cX10_dry 28 = .ok (.istore 5, 2) := by decide +kernel
theorem dX10_dry_30 : decode cX10_dry 30 = .ok (.iload 5, 2) := by decide +kernel
theorem dX10_dry_32 : decode cX10_dry 32 = .ok (.iload_n 1, 1) := by decide +kernel
theorem dX10_dry_33 : decode cX10_dry 33 = .ok (.if_icmp .ge 18, 3) := by decide +kernel
theorem dX10_dry_36 : decode cX10_dry 36 = .ok (.lload_n 3, 1) := by decide +kernel
theorem dX10_dry_37 : decode cX10_dry 37 = .ok (.iload_n 2, 1) := by decide +kernel
theorem dX10_dry_38 : decode cX10_dry 38 = .ok (.i2l, 1) := by decide +kernel
theorem dX10_dry_39 : decode cX10_dry 39 = .ok (.lmul, 1) := by decide +kernel
theorem dX10_dry_40 : decode cX10_dry 40 = .ok (.ldc2_w 269, 3) := by decide +kernel
theorem dX10_dry_43 : decode cX10_dry 43 = .ok (.ldiv, 1) := by decide +kernel
theorem dX10_dry_44 : decode cX10_dry 44 = .ok (.lstore_n 3, 1) := by decide +kernel
theorem dX10_dry_45 : decode cX10_dry 45 = .ok (.iinc 5 1, 3) := by decide +kernel
theorem dX10_dry_48 : decode cX10_dry 48 = .ok (.goto (-18), 3) := by decide +kernel
theorem dX10_dry_51 : decode cX10_dry 51 = .ok (.lload_n 3, 1) := by decide +kernel
theorem dX10_dry_52 : decode cX10_dry 52 = .ok (.l2i, 1) := by decide +kernel
theorem dX10_dry_53 : decode cX10_dry 53 = .ok (.ireturn, 1) := by decide +kernel
theorem dX10_see_0 : decode cX10_see 0 = .ok (.aload_n 0, 1) := by decide +kernel
theorem dX10_see_1 : decode cX10_see 1 = .ok (.iload_n 1, 1) := by decide +kernel
theorem dX10_see_2 : decode cX10_see 2 = .ok (.iload_n 2, 1) := by decide +kernel
theorem dX10_see_3 : decode cX10_see 3 = .ok (.invokevirtual 214, 3) := by decide +kernel
theorem dX10_see_6 : decode cX10_see 6 = .ok (.ifCond .ne 6, 3) := by decide +kernel
theorem dX10_see_9 : decode cX10_see 9 = .ok (.ldc 180, 2) := by decide +kernel
theorem dX10_see_11 : decode cX10_see 11 = .ok (.ireturn, 1) := by decide +kernel
theorem dX10_see_12 : decode cX10_see 12 = .ok (.aload_n 0, 1) := by decide +kernel
theorem dX10_see_13 : decode cX10_see 13 = .ok (.getfield 133, 3) := by decide +kernel
theorem dX10_see_16 : decode cX10_see 16 = .ok (.bipush 8, 2) := by decide +kernel
theorem dX10_see_18 : decode cX10_see 18 = .ok (.if_icmp .lt 6, 3) := by decide +kernel
theorem dX10_see_21 : decode cX10_see 21 = .ok (.ldc 98, 2) := by decide +kernel
theorem dX10_see_23 : decode cX10_see 23 = .ok (.ireturn, 1) := by decide +kernel
theorem dX10_see_24 : decode cX10_see 24 = .ok (.aload_n 0, 1) := by decide +kernel
theorem dX10_see_25 : decode cX10_see 25 = .ok (.getfield 49, 3) := by decide +kernel
theorem dX10_see_28 : decode cX10_see 28 = .ok (.aload_n 0, 1) := by decide +kernel
theorem dX10_see_29 : decode cX10_see 29 = .ok (.getfield 133, 3) := by decide +kernel
theorem dX10_see_32 : decode cX10_see 32 = .ok (.aaload, 1) := by decide +kernel
theorem dX10_see_33 : decode cX10_see 33 = .ok (.aload_n 0, 1) := by decide +kernel
theorem dX10_see_34 : decode cX10_see 34 = .ok (.getfield 23, 3) := by decide +kernel
theorem dX10_see_37 : decode cX10_see 37 = .ok (.aload_n 0, 1) := by decide +kernel
theorem dX10_see_38 : decode cX10_see 38 = .ok (.getfield 23, 3) := by decide +kernel
theorem dX10_see_41 : decode cX10_see 41 = .ok (.getfield 142, 3) := by decide +kernel
theorem dX10_see_44 : decode cX10_see 44 = .ok (.iload_n 1, 1) := by decide +kernel
theorem dX10_see_45 : decode cX10_see 45 = .ok (.invokestatic 208, 3) := by decide +kernel
theorem dX10_see_48 : decode cX10_see 48 = .ok (.aload_n 0, 1) := by decide +kernel
theorem dX10_see_49 : decode cX10_see 49 = .ok (.getfield 23, 3) := by decide +kernel
theorem dX10_see_52 : decode cX10_see 52 = .ok (.getfield 142, 3) := by decide +kernel
theorem dX10_see_55 : decode cX10_see 55 = .ok (.iload_n 2, 1) := by decide +kernel
theorem dX10_see_56 : decode cX10_see 56 = .ok (.invokestatic 208, 3) := by decide +kernel
theorem dX10_see_59 : decode cX10_see 59 = .ok (.iload_n 3, 1) := by decide +kernel
theorem dX10_see_60 : decode cX10_see 60 = .ok (.invokevirtual 271, 3) := by decide +kernel
theorem dX10_see_63 : decode cX10_see 63 = .ok (.aload_n 0, 1) := by decide +kernel
theorem dX10_see_64 : decode cX10_see 64 = .ok (.dup, 1) := by decide +kernel
theorem dX10_see_65 : decode cX10_see 65 = .ok (.getfield 133, 3) := by decide +kernel
theorem dX10_see_68 : decode cX10_see 68 = .ok (.iconst 1, 1) := by decide +kernel
theorem dX10_see_69 : decode cX10_see 69 = .ok (.iadd, 1) := by decide +kernel
theorem dX10_see_70 : decode cX10_see 70 = .ok (.putfield 133, 3) := by decide +kernel
theorem dX10_see_73 : decode cX10_see 73 = .ok (.aload_n 0, 1) := by decide +kernel
theorem dX10_see_74 : decode cX10_see 74 = .ok (.getfield 133, 3) := by decide +kernel
theorem dX10_see_77 : decode cX10_see 77 = .ok (.ireturn, 1) := by decide +kernel
theorem dX10_write_0 : decode cX10_write 0 = .ok (.aload_n 0, 1) := by decide +kernel
theorem dX10_write_1 : decode cX10_write 1 = .ok (.iload_n 1, 1) := by decide +kernel
theorem dX10_write_2 : decode cX10_write 2 = .ok (.invokevirtual 177, 3) := by decide +kernel
theorem dX10_write_5 : decode cX10_write 5 = .ok (.ifCond .eq 11, 3) := by decide +kernel
theorem dX10_write_8 : decode cX10_write 8 = .ok (.aload_n 0, 1) := by decide +kernel
theorem dX10_write_9 : decode cX10_write 9 = .ok (.iload_n 2, 1) := by decide +kernel
theorem dX10_write_10 : decode cX10_write 10 = .ok (.invokevirtual 177, 3) := by decide +kernel
theorem dX10_write_13 : decode cX10_write 13 = .ok (.ifCond .ne 6, 3) := by decide +kernel
theorem dX10_write_16 : decode cX10_write 16 = .ok (.ldc 180, 2) := by decide +kernel
theorem dX10_write_18 : decode cX10_write 18 = .ok (.ireturn, 1) := by decide +kernel
theorem dX10_write_19 : decode cX10_write 19 = .ok (.aload_n 0, 1) := by decide +kernel
theorem dX10_write_20 : decode cX10_write 20 = .ok (.getfield 136, 3) := by decide +kernel
theorem dX10_write_23 : decode cX10_write 23 = .ok (.bipush 15, 2) := by decide +kernel
theorem dX10_write_25 : decode cX10_write 25 = .ok (.if_icmp .lt 6, 3) := by decide +kernel
theorem dX10_write_28 : decode cX10_write 28 = .ok (.ldc 98, 2) := by decide +kernel
theorem dX10_write_30 : decode cX10_write 30 = .ok (.ireturn, 1) := by decide +kernel
theorem dX10_write_31 : decode cX10_write 31 = .ok (.aload_n 0, 1) := by decide +kernel
theorem dX10_write_32 : decode cX10_write 32 = .ok (.getfield 53, 3) := by decide +kernel
theorem dX10_write_35 : decode cX10_write 35 = .ok (.aload_n 0, 1) := by decide +kernel
theorem dX10_write_36 : decode cX10_write 36 = .ok (.getfield 136, 3) := by decide +kernel
theorem dX10_write_39 : decode cX10_write 39 = .ok (.iload_n 1, 1) := by decide +kernel
theorem dX10_write_40 : decode cX10_write 40 = .ok (.iastore, 1) := by decide +kernel
theorem dX10_write_41 : decode cX10_write 41 = .ok (.aload_n 0, 1) := by decide +kernel
theorem dX10_write_42 : decode cX10_write 42 = .ok (.getfield 56, 3) := by decide +kernel
theorem dX10_write_45 : decode cX10_write 45 = .ok (.aload_n 0, 1) := by decide +kernel
theorem dX10_write_46 : decode cX10_write 46 = .ok (.getfield 136, 3) := by decide +kernel
theorem dX10_write_49 : decode cX10_write 49 = .ok (.iload_n 2, 1) := by decide +kernel
theorem dX10_write_50 : decode cX10_write 50 = .ok (.iastore, 1) := by decide +kernel
theorem dX10_write_51 : decode cX10_write 51 = .ok (.aload_n 0, 1) := by decide +kernel
theorem dX10_write_52 : decode cX10_write 52 = .ok (.dup, 1) := by decide +kernel
theorem dX10_write_53 : decode cX10_write 53 = .ok (.getfield 136, 3) := by decide +kernel
theorem dX10_write_56 : decode cX10_write 56 = .ok (.iconst 1, 1) := by decide +kernel
theorem dX10_write_57 : decode cX10_write 57 = .ok (.iadd, 1) := by decide +kernel
theorem dX10_write_58 : decode cX10_write 58 = .ok (.putfield 136, 3) := by decide +kernel
theorem dX10_write_61 : decode cX10_write 61 = .ok (.aload_n 0, 1) := by decide +kernel
theorem dX10_write_62 : decode cX10_write 62 = .ok (.getfield 136, 3) := by decide +kernel
theorem dX10_write_65 : decode cX10_write 65 = .ok (.ireturn, 1) := by decide +kernel
theorem dX10_tear_0 : decode cX10_tear 0 = .ok (.aload_n 0, 1) := by decide +kernel
theorem dX10_tear_1 : decode cX10_tear 1 = .ok (.getfield 133, 3) := by decide +kernel
theorem dX10_tear_4 : decode cX10_tear 4 = .ok (.aload_n 0, 1) := by decide +kernel
theorem dX10_tear_5 : decode cX10_tear 5 = .ok (.getfield 136, 3) := by decide +kernel
theorem dX10_tear_8 : decode cX10_tear 8 = .ok (.iadd, 1) := by decide +kernel
theorem dX10_tear_9 : decode cX10_tear 9 = .ok (.istore_n 1, 1) := by decide +kernel
theorem dX10_tear_10 : decode cX10_tear 10 = .ok (.aload_n 0, 1) := by decide +kernel
theorem dX10_tear_11 : decode cX10_tear 11 = .ok (.iconst 0, 1) := by decide +kernel
theorem dX10_tear_12 : decode cX10_tear 12 = .ok (.putfield 133, 3) := by decide +kernel
theorem dX10_tear_15 : decode cX10_tear 15 = .ok (.aload_n 0, 1) := by decide +kernel
theorem dX10_tear_16 : decode cX10_tear 16 = .ok (.iconst 0, 1) := by decide +kernel
theorem dX10_tear_17 : decode cX10_tear 17 = .ok (.putfield 136, 3) := by decide +kernel
theorem dX10_tear_20 : decode cX10_tear 20 = .ok (.iload_n 1, 1) := by decide +kernel
theorem dX10_tear_21 : decode cX10_tear 21 = .ok (.ireturn, 1) := by decide +kernel
theorem dX10_judge_0 : decode cX10_judge 0 = .ok (.iconst 0, 1) := by decide +kernel
theorem dX10_judge_1 : decode cX10_judge 1 = .ok (.istore_n 1, 1) := by decide +kernel
theorem dX10_judge_2 : decode cX10_judge 2 = .ok (.iload_n 1, 1) := by decide +kernel
theorem dX10_judge_3 : decode cX10_judge 3 = .ok (.aload_n 0, 1) := by decide +kernel
theorem dX10_judge_4 : decode cX10_judge 4 = .ok (.getfield 136, 3) := by decide +kernel
theorem dX10_judge_7 : decode cX10_judge 7 = .ok (.if_icmp .ge 48, 3) := by decide +kernel
theorem dX10_judge_10 : decode cX10_judge 10 = .ok (.iload_n 1, 1) := by decide +kernel
theorem dX10_judge_11 : decode cX10_judge 11 = .ok (.bipush 15, 2) := by decide +kernel
theorem dX10_judge_13 : decode cX10_judge 13 = .ok (.if_icmp .ge 42, 3) := by decide +kernel
theorem dX10_judge_16 : decode cX10_judge 16 = .ok (.aload_n 0, 1) := by decide +kernel
theorem dX10_judge_17 : decode cX10_judge 17 = .ok (.getfield 53, 3) := by decide +kernel
theorem dX10_judge_20 : decode cX10_judge 20 = .ok (.iload_n 1, 1) := by decide +kernel
theorem dX10_judge_21 : decode cX10_judge 21 = .ok (.iaload, 1) := by decide +kernel
theorem dX10_judge_22 : decode cX10_judge 22 = .ok (.istore_n 2, 1) := by decide +kernel
theorem dX10_judge_23 : decode cX10_judge 23 = .ok (.iload_n 2, 1) := by decide +kernel
theorem dX10_judge_24 : decode cX10_judge 24 = .ok (.ifCond .lt 25, 3) := by decide +kernel
theorem dX10_judge_27 : decode cX10_judge 27 = .ok (.iload_n 2, 1) := by decide +kernel
theorem dX10_judge_28 : decode cX10_judge 28 = .ok (.iconst 5, 1) := by decide +kernel
theorem dX10_judge_29 : decode cX10_judge 29 = .ok (.if_icmp .ge 20, 3) := by decide +kernel
theorem dX10_judge_32 : decode cX10_judge 32 = .ok (.aload_n 0, 1) := by decide +kernel
theorem dX10_judge_33 : decode cX10_judge 33 = .ok (.getfield 16, 3) := by decide +kernel
theorem dX10_judge_36 : decode cX10_judge 36 = .ok (.iload_n 2, 1) := by decide +kernel
theorem dX10_judge_37 : decode cX10_judge 37 = .ok (.iaload, 1) := by decide +kernel
theorem dX10_judge_38 : decode cX10_judge 38 = .ok (.aload_n 0, 1) := by decide +kernel
theorem dX10_judge_39 : decode cX10_judge 39 = .ok (.getfield 56, 3) := by decide +kernel
theorem dX10_judge_42 : decode cX10_judge 42 = .ok (.iload_n 1, 1) := by decide +kernel
theorem dX10_judge_43 : decode cX10_judge 43 = .ok (.iaload, 1) := by decide +kernel
theorem dX10_judge_44 : decode cX10_judge 44 = .ok (.if_icmp .eq 5, 3) := by decide +kernel
theorem dX10_judge_47 : decode cX10_judge 47 = .ok (.iload_n 1, 1) := by decide +kernel
theorem dX10_judge_48 : decode cX10_judge 48 = .ok (.ireturn, 1) := by decide +kernel
theorem dX10_judge_49 : decode cX10_judge 49 = .ok (.iinc 1 1, 3) := by decide +kernel
theorem dX10_judge_52 : decode cX10_judge 52 = .ok (.goto (-50), 3) := by decide +kernel
theorem dX10_judge_55 : decode cX10_judge 55 = .ok (.iconst (-1), 1) := by decide +kernel
theorem dX10_judge_56 : decode cX10_judge 56 = .ok (.ireturn, 1) := by decide +kernel
theorem dX10_seed_0 : decode cX10_seed 0 = .ok (.iload_n 1, 1) := by decide +kernel
theorem dX10_seed_1 : decode cX10_seed 1 = .ok (.ifCond .ge 6, 3) := by decide +kernel
theorem dX10_seed_4 : decode cX10_seed 4 = .ok (.ldc 89, 2) := by decide +kernel
theorem dX10_seed_6 : decode cX10_seed 6 = .ok (.ireturn, 1) := by decide +kernel
theorem dX10_seed_7 : decode cX10_seed 7 = .ok (.aload_n 0, 1) := by decide +kernel
theorem dX10_seed_8 : decode cX10_seed 8 = .ok (.getfield 37, 3) := by decide +kernel
theorem dX10_seed_11 : decode cX10_seed 11 = .ok (.getfield 275, 3) := by decide +kernel
theorem dX10_seed_14 : decode cX10_seed 14 = .ok (.istore_n 2, 1) := by decide +kernel
theorem dX10_seed_15 : decode cX10_seed 15 = .ok (.aload_n 0, 1) := by decide +kernel
theorem dX10_seed_16 : decode cX10_seed 16 = .ok (.getfield 37, 3) := by decide +kernel
theorem dX10_seed_19 : decode cX10_seed 19 = .ok (.iload_n 1, 1) := by decide +kernel
theorem dX10_seed_20 : decode cX10_seed 20 = .ok (.putfield 275, 3) := by decide +kernel
theorem dX10_seed_23 : decode cX10_seed 23 = .ok (.iload_n 2, 1) := by decide +kernel
theorem dX10_seed_24 : decode cX10_seed 24 = .ok (.ireturn, 1) := by decide +kernel
theorem dX10_keep_0 : decode cX10_keep 0 = .ok (.iload_n 1, 1) := by decide +kernel
theorem dX10_keep_1 : decode cX10_keep 1 = .ok (.ifCond .lt 8, 3) := by decide +kernel
theorem dX10_keep_4 : decode cX10_keep 4 = .ok (.iload_n 1, 1) := by decide +kernel
theorem dX10_keep_5 : decode cX10_keep 5 = .ok (.iconst 2, 1) := by decide +kernel
theorem dX10_keep_6 : decode cX10_keep 6 = .ok (.if_icmp .lt 6, 3) := by decide +kernel
theorem dX10_keep_9 : decode cX10_keep 9 = .ok (.ldc 180, 2) := by decide +kernel
theorem dX10_keep_11 : decode cX10_keep 11 = .ok (.ireturn, 1) := by decide +kernel
theorem dX10_keep_12 : decode cX10_keep 12 = .ok (.aload_n 0, 1) := by decide +kernel
theorem dX10_keep_13 : decode cX10_keep 13 = .ok (.getfield 43, 3) := by decide +kernel
theorem dX10_keep_16 : decode cX10_keep 16 = .ok (.iload_n 1, 1) := by decide +kernel
theorem dX10_keep_17 : decode cX10_keep 17 = .ok (.aaload, 1) := by decide +kernel
theorem dX10_keep_18 : decode cX10_keep 18 = .ok (.astore_n 2, 1) := by decide +kernel
theorem dX10_keep_19 : decode cX10_keep 19 = .ok (.aload_n 2, 1) := by decide +kernel
theorem dX10_keep_20 : decode cX10_keep 20 = .ok (.getfield 278, 3) := by decide +kernel
theorem dX10_keep_23 : decode cX10_keep 23 = .ok (.aload_n 0, 1) := by decide +kernel
theorem dX10_keep_24 : decode cX10_keep 24 = .ok (.getfield 23, 3) := by decide +kernel
theorem dX10_keep_27 : decode cX10_keep 27 = .ok (.invokevirtual 281, 3) := by decide +kernel
theorem dX10_keep_30 : decode cX10_keep 30 = .ok (.aload_n 2, 1) := by decide +kernel
theorem dX10_keep_31 : decode cX10_keep 31 = .ok (.aload_n 0, 1) := by decide +kernel
theorem dX10_keep_32 : decode cX10_keep 32 = .ok (.getfield 37, 3) := by decide +kernel
theorem dX10_keep_35 : decode cX10_keep 35 = .ok (.getfield 275, 3) := by decide +kernel
theorem dX10_keep_38 : decode cX10_keep 38 = .ok (.putfield 284, 3) := by decide +kernel
theorem dX10_keep_41 : decode cX10_keep 41 = .ok (.aload_n 2, 1) := by decide +kernel
theorem dX10_keep_42 : decode cX10_keep 42 = .ok (.iconst 1, 1) := by decide +kernel
theorem dX10_keep_43 : decode cX10_keep 43 = .ok (.putfield 129, 3) := by decide +kernel
theorem dX10_keep_46 : decode cX10_keep 46 = .ok (.aload_n 0, 1) := by decide +kernel
theorem dX10_keep_47 : decode cX10_keep 47 = .ok (.getfield 30, 3) := by decide +kernel
theorem dX10_keep_50 : decode cX10_keep 50 = .ok (.invokevirtual 126, 3) := by decide +kernel
theorem dX10_keep_53 : decode cX10_keep 53 = .ok (.iconst 1, 1) := by decide +kernel
theorem dX10_keep_54 : decode cX10_keep 54 = .ok (.ireturn, 1) := by decide +kernel
theorem dX10_goBack_0 : decode cX10_goBack 0 = .ok (.iload_n 1, 1) := by decide +kernel
theorem dX10_goBack_1 : decode cX10_goBack 1 = .ok (.ifCond .lt 8, 3) := by decide +kernel
theorem dX10_goBack_4 : decode cX10_goBack 4 = .ok (.iload_n 1, 1) := by decide +kernel
theorem dX10_goBack_5 : decode cX10_goBack 5 = .ok (.iconst 2, 1) := by decide +kernel
theorem dX10_goBack_6 : decode cX10_goBack 6 = .ok (.if_icmp .lt 6, 3) := by decide +kernel
theorem dX10_goBack_9 : decode cX10_goBack 9 = .ok (.ldc 180, 2) := by decide +kernel
theorem dX10_goBack_11 : decode cX10_goBack 11 = .ok (.ireturn, 1) := by decide +kernel
theorem dX10_goBack_12 : decode cX10_goBack 12 = .ok (.aload_n 0, 1) := by decide +kernel
theorem dX10_goBack_13 : decode cX10_goBack 13 = .ok (.getfield 43, 3) := by decide +kernel
theorem dX10_goBack_16 : decode cX10_goBack 16 = .ok (.iload_n 1, 1) := by decide +kernel
theorem dX10_goBack_17 : decode cX10_goBack 17 = .ok (.aaload, 1) := by decide +kernel
theorem dX10_goBack_18 : decode cX10_goBack 18 = .ok (.astore_n 2, 1) := by decide +kernel
theorem dX10_goBack_19 : decode cX10_goBack 19 = .ok (.aload_n 2, 1) := by decide +kernel
theorem dX10_goBack_20 : decode cX10_goBack 20 = .ok (.getfield 129, 3) := by decide +kernel
theorem dX10_goBack_23 : decode cX10_goBack 23 = .ok (.ifCond .ne 6, 3) := by decide +kernel
theorem dX10_goBack_26 : decode cX10_goBack 26 = .ok (.ldc 231, 2) := by decide +kernel
theorem dX10_goBack_28 : decode cX10_goBack 28 = .ok (.ireturn, 1) := by decide +kernel
theorem dX10_goBack_29 : decode cX10_goBack 29 = .ok (.aload_n 0, 1) := by decide +kernel
theorem dX10_goBack_30 : decode cX10_goBack 30 = .ok (.getfield 23, 3) := by decide +kernel
theorem dX10_goBack_33 : decode cX10_goBack 33 = .ok (.aload_n 2, 1) := by decide +kernel
theorem dX10_goBack_34 : decode cX10_goBack 34 = .ok (.getfield 278, 3) := by decide +kernel
theorem dX10_goBack_37 : decode cX10_goBack 37 = .ok (.invokevirtual 281, 3) := by decide +kernel
theorem dX10_goBack_40 : decode cX10_goBack 40 = .ok (.aload_n 0, 1) := by decide +kernel
theorem dX10_goBack_41 : decode cX10_goBack 41 = .ok (.getfield 37, 3) := by decide +kernel
theorem dX10_goBack_44 : decode cX10_goBack 44 = .ok (.aload_n 2, 1) := by decide +kernel
theorem dX10_goBack_45 : decode cX10_goBack 45 = .ok (.getfield 284, 3) := by decide +kernel
theorem dX10_goBack_48 : decode cX10_goBack 48 = .ok (.putfield 275, 3) := by decide +kernel
theorem dX10_goBack_51 : decode cX10_goBack 51 = .ok (.aload_n 0, 1) := by decide +kernel
theorem dX10_goBack_52 : decode cX10_goBack 52 = .ok (.getfield 30, 3) := by decide +kernel
theorem dX10_goBack_55 : decode cX10_goBack 55 = .ok (.invokevirtual 126, 3) := by decide +kernel
theorem dX10_goBack_58 : decode cX10_goBack 58 = .ok (.iconst 1, 1) := by decide +kernel
theorem dX10_goBack_59 : decode cX10_goBack 59 = .ok (.ireturn, 1) := by decide +kernel
theorem dX10_isNumber_0 : decode cX10_isNumber 0 = .ok (.iload_n 1, 1) := by decide +kernel
theorem dX10_isNumber_1 : decode cX10_isNumber 1 = .ok (.ifCond .lt 20, 3) := by decide +kernel
theorem dX10_isNumber_4 : decode cX10_isNumber 4 = .ok (.iload_n 1, 1) := by decide +kernel
theorem dX10_isNumber_5 : decode cX10_isNumber 5 = .ok (.aload_n 0, 1) := by decide +kernel
theorem dX10_isNumber_6 : decode cX10_isNumber 6 = .ok (.getfield 108, 3) := by decide +kernel
theorem dX10_isNumber_9 : decode cX10_isNumber 9 = .ok (.if_icmp .ge 12, 3) := by decide +kernel
theorem dX10_isNumber_12 : decode cX10_isNumber 12 = .ok (.iload_n 1, 1) := by decide +kernel
theorem dX10_isNumber_13 : decode cX10_isNumber 13 = .ok (.iconst 5, 1) := by decide +kernel
theorem dX10_isNumber_14 : decode cX10_isNumber 14 = .ok (.if_icmp .ge 7, 3) := by decide +kernel
theorem dX10_isNumber_17 : decode cX10_isNumber 17 = .ok (.iconst 1, 1) := by decide +kernel
theorem dX10_isNumber_18 : decode cX10_isNumber 18 = .ok (.goto 4, 3) := by decide +kernel
theorem dX10_isNumber_21 : decode cX10_isNumber 21 = .ok (.iconst 0, 1) := by decide +kernel
theorem dX10_isNumber_22 : decode cX10_isNumber 22 = .ok (.ireturn, 1) := by decide +kernel
theorem dX10_areTwo_0 : decode cX10_areTwo 0 = .ok (.aload_n 0, 1) := by decide +kernel
theorem dX10_areTwo_1 : decode cX10_areTwo 1 = .ok (.iload_n 1, 1) := by decide +kernel
theorem dX10_areTwo_2 : decode cX10_areTwo 2 = .ok (.invokevirtual 177, 3) := by decide +kernel
theorem dX10_areTwo_5 : decode cX10_areTwo 5 = .ok (.ifCond .eq 20, 3) := by decide +kernel
theorem dX10_areTwo_8 : decode cX10_areTwo 8 = .ok (.aload_n 0, 1) := by decide +kernel
theorem dX10_areTwo_9 : decode cX10_areTwo 9 = .ok (.iload_n 2, 1) := by decide +kernel
theorem dX10_areTwo_10 : decode cX10_areTwo 10 = .ok (.invokevirtual 177, 3) := by decide +kernel
theorem dX10_areTwo_13 : decode cX10_areTwo 13 = .ok (.ifCond .eq 12, 3) := by decide +kernel
theorem dX10_areTwo_16 : decode cX10_areTwo 16 = .ok (.iload_n 1, 1) := by decide +kernel
theorem dX10_areTwo_17 : decode cX10_areTwo 17 = .ok (.iload_n 2, 1) := by decide +kernel
theorem dX10_areTwo_18 : decode cX10_areTwo 18 = .ok (.if_icmp .eq 7, 3) := by decide +kernel
theorem dX10_areTwo_21 : decode cX10_areTwo 21 = .ok (.iconst 1, 1) := by decide +kernel
theorem dX10_areTwo_22 : decode cX10_areTwo 22 = .ok (.goto 4, 3) := by decide +kernel
theorem dX10_areTwo_25 : decode cX10_areTwo 25 = .ok (.iconst 0, 1) := by decide +kernel
theorem dX10_areTwo_26 : decode cX10_areTwo 26 = .ok (.ireturn, 1) := by decide +kernel
theorem dX10_canHold_0 : decode cX10_canHold 0 = .ok (.iload_n 2, 1) := by decide +kernel
theorem dX10_canHold_1 : decode cX10_canHold 1 = .ok (.iconst (-1), 1) := by decide +kernel
theorem dX10_canHold_2 : decode cX10_canHold 2 = .ok (.if_icmp .ne 11, 3) := by decide +kernel
theorem dX10_canHold_5 : decode cX10_canHold 5 = .ok (.aload_n 0, 1) := by decide +kernel
theorem dX10_canHold_6 : decode cX10_canHold 6 = .ok (.iload_n 1, 1) := by decide +kernel
theorem dX10_canHold_7 : decode cX10_canHold 7 = .ok (.invokevirtual 177, 3) := by decide +kernel
theorem dX10_canHold_10 : decode cX10_canHold 10 = .ok (.goto 9, 3) := by decide +kernel
theorem dX10_canHold_13 : decode cX10_canHold 13 = .ok (.aload_n 0, 1) := by decide +kernel
theorem dX10_canHold_14 : decode cX10_canHold 14 = .ok (.iload_n 1, 1) := by decide +kernel
theorem dX10_canHold_15 : decode cX10_canHold 15 = .ok (.iload_n 2, 1) := by decide +kernel
theorem dX10_canHold_16 : decode cX10_canHold 16 = .ok (.invokevirtual 222, 3) := by decide +kernel
theorem dX10_canHold_19 : decode cX10_canHold 19 = .ok (.ireturn, 1) := by decide +kernel
theorem dX10_nodeOf_0 : decode cX10_nodeOf 0 = .ok (.iload_n 1, 1) := by decide +kernel
theorem dX10_nodeOf_1 : decode cX10_nodeOf 1 = .ok (.iconst (-1), 1) := by decide +kernel
theorem dX10_nodeOf_2 : decode cX10_nodeOf 2 = .ok (.if_icmp .ne 6, 3) := by decide +kernel
theorem dX10_nodeOf_5 : decode cX10_nodeOf 5 = .ok (.bipush 10, 2) := by decide +kernel
theorem dX10_nodeOf_7 : decode cX10_nodeOf 7 = .ok (.ireturn, 1) := by decide +kernel
theorem dX10_nodeOf_8 : decode cX10_nodeOf 8 = .ok (.iload_n 0, 1) := by decide +kernel
theorem dX10_nodeOf_9 : decode cX10_nodeOf 9 = .ok (.ifCond .ne 7, 3) := by decide +kernel
theorem dX10_nodeOf_12 : decode cX10_nodeOf 12 = .ok (.iload_n 1, 1) := by decide +kernel
theorem dX10_nodeOf_13 : decode cX10_nodeOf 13 = .ok (.goto 6, 3) := by decide +kernel
theorem dX10_nodeOf_16 : decode cX10_nodeOf 16 = .ok (.iconst 5, 1) := by decide +kernel
theorem dX10_nodeOf_17 : decode cX10_nodeOf 17 = .ok (.iload_n 1, 1) := by decide +kernel
theorem dX10_nodeOf_18 : decode cX10_nodeOf 18 = .ok (.iadd, 1) := by decide +kernel
theorem dX10_nodeOf_19 : decode cX10_nodeOf 19 = .ok (.ireturn, 1) := by decide +kernel
theorem dX10_farEndOf_0 : decode cX10_farEndOf 0 = .ok (.iconst 0, 1) := by decide +kernel
theorem dX10_farEndOf_1 : decode cX10_farEndOf 1 = .ok (.istore_n 2, 1) := by decide +kernel
theorem dX10_farEndOf_2 : decode cX10_farEndOf 2 = .ok (.iload_n 2, 1) := by decide +kernel
theorem dX10_farEndOf_3 : decode cX10_farEndOf 3 = .ok (.aload_n 0, 1) := by decide +kernel
theorem dX10_farEndOf_4 : decode cX10_farEndOf 4 = .ok (.getfield 108, 3) := by decide +kernel
theorem dX10_farEndOf_7 : decode cX10_farEndOf 7 = .ok (.if_icmp .ge 26, 3) := by decide +kernel
theorem dX10_farEndOf_10 : decode cX10_farEndOf 10 = .ok (.iload_n 2, 1) := by decide +kernel
theorem dX10_farEndOf_11 : decode cX10_farEndOf 11 = .ok (.iconst 5, 1) := by decide +kernel
theorem dX10_farEndOf_12 : decode cX10_farEndOf 12 = .ok (.if_icmp .ge 21, 3) := by decide +kernel
theorem dX10_farEndOf_15 : decode cX10_farEndOf 15 = .ok (.aload_n 0, 1) := by decide +kernel
theorem dX10_farEndOf_16 : decode cX10_farEndOf 16 = .ok (.getfield 16, 3) := by decide +kernel
theorem dX10_farEndOf_19 : decode cX10_farEndOf 19 = .ok (.iload_n 2, 1) := by decide +kernel
theorem dX10_farEndOf_20 : decode cX10_farEndOf 20 = .ok (.iaload, 1) := by decide +kernel
theorem dX10_farEndOf_21 : decode cX10_farEndOf 21 = .ok (.iload_n 1, 1) := by decide +kernel
theorem dX10_farEndOf_22 : decode cX10_farEndOf 22 = .ok (.if_icmp .ne 5, 3) := by decide +kernel
theorem dX10_farEndOf_25 : decode cX10_farEndOf 25 = .ok (.iload_n 2, 1) := by decide +kernel
theorem dX10_farEndOf_26 : decode cX10_farEndOf 26 = .ok (.ireturn, 1) := by decide +kernel
theorem dX10_farEndOf_27 : decode cX10_farEndOf 27 = .ok (.iinc 2 1, 3) := by decide +kernel
theorem dX10_farEndOf_30 : decode cX10_farEndOf 30 = .ok (.goto (-28), 3) := by decide +kernel
theorem dX10_farEndOf_33 : decode cX10_farEndOf 33 = .ok (.iconst (-1), 1) := by decide +kernel
theorem dX10_farEndOf_34 : decode cX10_farEndOf 34 = .ok (.ireturn, 1) := by decide +kernel
theorem dX10_part_0 : decode cX10_part 0 = .ok (.iload_n 0, 1) := by decide +kernel
theorem dX10_part_1 : decode cX10_part 1 = .ok (.iconst 3, 1) := by decide +kernel
theorem dX10_part_2 : decode cX10_part 2 = .ok (.iload_n 1, 1) := by decide +kernel
theorem dX10_part_3 : decode cX10_part 3 = .ok (.imul, 1) := by decide +kernel
theorem dX10_part_4 : decode cX10_part 4 = .ok (.ishr, 1) := by decide +kernel
theorem dX10_part_5 : decode cX10_part 5 = .ok (.bipush 7, 2) := by decide +kernel
theorem dX10_part_7 : decode cX10_part 7 = .ok (.iand, 1) := by decide +kernel
theorem dX10_part_8 : decode cX10_part 8 = .ok (.ireturn, 1) := by decide +kernel
theorem dX10_withPart_0 : decode cX10_withPart 0 = .ok (.iload_n 0, 1) := by decide +kernel
theorem dX10_withPart_1 : decode cX10_withPart 1 = .ok (.bipush 7, 2) := by decide +kernel
theorem dX10_withPart_3 : decode cX10_withPart 3 = .ok (.iconst 3, 1) := by decide +kernel
theorem dX10_withPart_4 : decode cX10_withPart 4 = .ok (.iload_n 1, 1) := by decide +kernel
theorem dX10_withPart_5 : decode cX10_withPart 5 = .ok (.imul, 1) := by decide +kernel
theorem dX10_withPart_6 : decode cX10_withPart 6 = .ok (.ishl, 1) := by decide +kernel
theorem dX10_withPart_7 : decode cX10_withPart 7 = .ok (.iconst (-1), 1) := by decide +kernel
theorem dX10_withPart_8 : decode cX10_withPart 8 = .ok (.ixor, 1) := by decide +kernel
theorem dX10_withPart_9 : decode cX10_withPart 9 = .ok (.iand, 1) := by decide +kernel
theorem dX10_withPart_10 : decode cX10_withPart 10 = .ok (.iload_n 2, 1) := by decide +kernel
theorem dX10_withPart_11 : decode cX10_withPart 11 = .ok (.iconst 3, 1) := by decide +kernel
theorem dX10_withPart_12 : decode cX10_withPart 12 = .ok (.iload_n 1, 1) := by decide +kernel
theorem dX10_withPart_13 : decode cX10_withPart 13 = .ok (.imul, 1) := by decide +kernel
theorem dX10_withPart_14 : decode cX10_withPart 14 = .ok (.ishl, 1) := by decide +kernel
theorem dX10_withPart_15 : decode cX10_withPart 15 = .ok (.ior, 1) := by decide +kernel
theorem dX10_withPart_16 : decode cX10_withPart 16 = .ok (.ireturn, 1) := by decide +kernel
theorem dX10_pairBit_0 : decode cX10_pairBit 0 = .ok (.iconst 1, 1) := by decide +kernel
theorem dX10_pairBit_1 : decode cX10_pairBit 1 = .ok (.iconst 5, 1) := by decide +kernel
theorem dX10_pairBit_2 : decode cX10_pairBit 2 = .ok (.iload_n 0, 1) := by decide +kernel
theorem dX10_pairBit_3 : decode cX10_pairBit 3 = .ok (.iload_n 1, 1) := by decide +kernel
theorem dX10_pairBit_4 : decode cX10_pairBit 4 = .ok (.invokestatic 285, 3) := by decide +kernel
theorem dX10_pairBit_7 : decode cX10_pairBit 7 = .ok (.imul, 1) := by decide +kernel
theorem dX10_pairBit_8 : decode cX10_pairBit 8 = .ok (.iload_n 0, 1) := by decide +kernel
theorem dX10_pairBit_9 : decode cX10_pairBit 9 = .ok (.iload_n 1, 1) := by decide +kernel
theorem dX10_pairBit_10 : decode cX10_pairBit 10 = .ok (.invokestatic 290, 3) := by decide +kernel
theorem dX10_pairBit_13 : decode cX10_pairBit 13 = .ok (.iadd, 1) := by decide +kernel
theorem dX10_pairBit_14 : decode cX10_pairBit 14 = .ok (.ishl, 1) := by decide +kernel
theorem dX10_pairBit_15 : decode cX10_pairBit 15 = .ok (.ireturn, 1) := by decide +kernel
theorem dX10_factorial_0 : decode cX10_factorial 0 = .ok (.iload_n 0, 1) := by decide +kernel
theorem dX10_factorial_1 : decode cX10_factorial 1 = .ok (.ifCond .lt 19, 3) := by decide +kernel
theorem dX10_factorial_4 : decode cX10_factorial 4 = .ok (.iload_n 0, 1) := by decide +kernel
theorem dX10_factorial_5 : decode cX10_factorial 5 = .ok (.getstatic 293, 3) := by decide +kernel
theorem dX10_factorial_8 : decode cX10_factorial 8 = .ok (.arraylength, 1) := by decide +kernel
theorem dX10_factorial_9 : decode cX10_factorial 9 = .ok (.if_icmp .ge 11, 3) := by decide +kernel
theorem dX10_factorial_12 : decode cX10_factorial 12 = .ok (.getstatic 293, 3) := by decide +kernel
theorem dX10_factorial_15 : decode cX10_factorial 15 = .ok (.iload_n 0, 1) := by decide +kernel
theorem dX10_factorial_16 : decode cX10_factorial 16 = .ok (.iaload, 1) := by decide +kernel
theorem dX10_factorial_17 : decode cX10_factorial 17 = .ok (.goto 4, 3) := by decide +kernel
theorem dX10_factorial_20 : decode cX10_factorial 20 = .ok (.iconst 0, 1) := by decide +kernel
theorem dX10_factorial_21 : decode cX10_factorial 21 = .ok (.ireturn, 1) := by decide +kernel
theorem dX10_passing_0 : decode cX10_passing 0 = .ok (.iconst 0, 1) := by decide +kernel
theorem dX10_passing_1 : decode cX10_passing 1 = .ok (.istore_n 2, 1) := by decide +kernel
theorem dX10_passing_2 : decode cX10_passing 2 = .ok (.iconst 0, 1) := by decide +kernel
theorem dX10_passing_3 : decode cX10_passing 3 = .ok (.istore_n 3, 1) := by decide +kernel
theorem dX10_passing_4 : decode cX10_passing 4 = .ok (.iload_n 3, 1) := by decide +kernel
theorem dX10_passing_5 : decode cX10_passing 5 = .ok (.iconst 5, 1) := by decide +kernel
theorem dX10_passing_6 : decode cX10_passing 6 = .ok (.if_icmp .ge 57, 3) := by decide +kernel
theorem dX10_passing_9 : decode cX10_passing 9 = .ok (.iload_n 0, 1) := by decide +kernel
theorem dX10_passing_10 : decode cX10_passing 10 = .ok (.iload_n 3, 1) := by decide +kernel
theorem dX10_passing_11 : decode cX10_passing 11 = .ok (.invokestatic 182, 3) := by decide +kernel
theorem dX10_passing_14 : decode cX10_passing 14 = .ok (.istore 4, 2) := by decide +kernel
theorem dX10_passing_16 : decode cX10_passing 16 = .ok (.iload 4, 2) := by decide +kernel
theorem dX10_passing_18 : decode cX10_passing 18 = .ok (.ifCond .eq 21, 3) := by decide +kernel
theorem dX10_passing_21 : decode cX10_passing 21 = .ok (.iload 4, 2) := by decide +kernel
theorem dX10_passing_23 : decode cX10_passing 23 = .ok (.iconst 2, 1) := by decide +kernel
theorem dX10_passing_24 : decode cX10_passing 24 = .ok (.if_icmp .eq 15, 3) := by decide +kernel
theorem dX10_passing_27 : decode cX10_passing 27 = .ok (.iload 4, 2) := by decide +kernel
theorem dX10_passing_29 : decode cX10_passing 29 = .ok (.iconst 3, 1) := by decide +kernel
theorem dX10_passing_30 : decode cX10_passing 30 = .ok (.if_icmp .ne 13, 3) := by decide +kernel
theorem dX10_passing_33 : decode cX10_passing 33 = .ok (.iload_n 1, 1) := by decide +kernel
theorem dX10_passing_34 : decode cX10_passing 34 = .ok (.iconst 1, 1) := by decide +kernel
theorem dX10_passing_35 : decode cX10_passing 35 = .ok (.iand, 1) := by decide +kernel
theorem dX10_passing_36 : decode cX10_passing 36 = .ok (.ifCond .ne 7, 3) := by decide +kernel
theorem dX10_passing_39 : decode cX10_passing 39 = .ok (.iconst 1, 1) := by decide +kernel
theorem dX10_passing_40 : decode cX10_passing 40 = .ok (.goto 4, 3) := by decide +kernel
theorem dX10_passing_43 : decode cX10_passing 43 = .ok (.iconst 0, 1) := by decide +kernel
theorem dX10_passing_44 : decode cX10_passing 44 = .ok (.istore 5, 2) := by decide +kernel
theorem dX10_passing_46 : decode cX10_passing 46 = .ok (.iload 5, 2) := by decide +kernel
theorem dX10_passing_48 : decode cX10_passing 48 = .ok (.ifCond .eq 9, 3) := by decide +kernel
theorem dX10_passing_51 : decode cX10_passing 51 = .ok (.iload_n 2, 1) := by decide +kernel
theorem dX10_passing_52 : decode cX10_passing 52 = .ok (.iconst 1, 1) := by decide +kernel
theorem dX10_passing_53 : decode cX10_passing 53 = .ok (.iload_n 3, 1) := by decide +kernel
theorem dX10_passing_54 : decode cX10_passing 54 = .ok (.ishl, 1) := by decide +kernel
theorem dX10_passing_55 : decode cX10_passing 55 = .ok (.ior, 1) := by decide +kernel
theorem dX10_passing_56 : decode cX10_passing 56 = .ok (.istore_n 2, 1) := by decide +kernel
theorem dX10_passing_57 : decode cX10_passing 57 = .ok (.iinc 3 1, 3) := by decide +kernel
theorem dX10_passing_60 : decode cX10_passing 60 = .ok (.goto (-56), 3) := by decide +kernel
theorem dX10_passing_63 : decode cX10_passing 63 = .ok (.iload_n 2, 1) := by decide +kernel
theorem dX10_passing_64 : decode cX10_passing 64 = .ok (.ireturn, 1) := by decide +kernel
theorem dX10_joinAll_0 : decode cX10_joinAll 0 = .ok (.aload_n 0, 1) := by decide +kernel
theorem dX10_joinAll_1 : decode cX10_joinAll 1 = .ok (.getfield 62, 3) := by decide +kernel
theorem dX10_joinAll_4 : decode cX10_joinAll 4 = .ok (.iload_n 1, 1) := by decide +kernel
theorem dX10_joinAll_5 : decode cX10_joinAll 5 = .ok (.aload_n 0, 1) := by decide +kernel
theorem dX10_joinAll_6 : decode cX10_joinAll 6 = .ok (.getfield 23, 3) := by decide +kernel
theorem dX10_joinAll_9 : decode cX10_joinAll 9 = .ok (.getfield 154, 3) := by decide +kernel
theorem dX10_joinAll_12 : decode cX10_joinAll 12 = .ok (.aload_n 0, 1) := by decide +kernel
theorem dX10_joinAll_13 : decode cX10_joinAll 13 = .ok (.getfield 23, 3) := by decide +kernel
theorem dX10_joinAll_16 : decode cX10_joinAll 16 = .ok (.getfield 192, 3) := by decide +kernel
theorem dX10_joinAll_19 : decode cX10_joinAll 19 = .ok (.aload_n 0, 1) := by decide +kernel
theorem dX10_joinAll_20 : decode cX10_joinAll 20 = .ok (.getfield 23, 3) := by decide +kernel
theorem dX10_joinAll_23 : decode cX10_joinAll 23 = .ok (.getfield 195, 3) := by decide +kernel
theorem dX10_joinAll_26 : decode cX10_joinAll 26 = .ok (.invokevirtual 296, 3) := by decide +kernel
theorem dX10_joinAll_29 : decode cX10_joinAll 29 = .ok (.aload_n 0, 1) := by decide +kernel
theorem dX10_joinAll_30 : decode cX10_joinAll 30 = .ok (.getfield 62, 3) := by decide +kernel
theorem dX10_joinAll_33 : decode cX10_joinAll 33 = .ok (.aload_n 0, 1) := by decide +kernel
theorem dX10_joinAll_34 : decode cX10_joinAll 34 = .ok (.getfield 16, 3) := by decide +kernel
theorem dX10_joinAll_37 : decode cX10_joinAll 37 = .ok (.aload_n 0, 1) := by decide +kernel
theorem dX10_joinAll_38 : decode cX10_joinAll 38 = .ok (.getfield 108, 3) := by decide +kernel
theorem dX10_joinAll_41 : decode cX10_joinAll 41 = .ok (.iload_n 1, 1) := by decide +kernel
theorem dX10_joinAll_42 : decode cX10_joinAll 42 = .ok (.aload_n 0, 1) := by decide +kernel
theorem dX10_joinAll_43 : decode cX10_joinAll 43 = .ok (.getfield 23, 3) := by decide +kernel
theorem dX10_joinAll_46 : decode cX10_joinAll 46 = .ok (.getfield 145, 3) := by decide +kernel
theorem dX10_joinAll_49 : decode cX10_joinAll 49 = .ok (.invokestatic 189, 3) := by decide +kernel
theorem dX10_joinAll_52 : decode cX10_joinAll 52 = .ok (.invokevirtual 300, 3) := by decide +kernel
theorem dX10_joinAll_55 : decode cX10_joinAll 55 = .ok (.return_, 1) := by decide +kernel
theorem dX10_ringsBy_0 : decode cX10_ringsBy 0 = .ok (.aload_n 0, 1) := by decide +kernel
theorem dX10_ringsBy_1 : decode cX10_ringsBy 1 = .ok (.iload_n 1, 1) := by decide +kernel
theorem dX10_ringsBy_2 : decode cX10_ringsBy 2 = .ok (.invokevirtual 204, 3) := by decide +kernel
theorem dX10_ringsBy_5 : decode cX10_ringsBy 5 = .ok (.aload_n 0, 1) := by decide +kernel
theorem dX10_ringsBy_6 : decode cX10_ringsBy 6 = .ok (.getfield 62, 3) := by decide +kernel
theorem dX10_ringsBy_9 : decode cX10_ringsBy 9 = .ok (.aload_n 0, 1) := by decide +kernel
theorem dX10_ringsBy_10 : decode cX10_ringsBy 10 = .ok (.getfield 23, 3) := by decide +kernel
theorem dX10_ringsBy_13 : decode cX10_ringsBy 13 = .ok (.getfield 142, 3) := by decide +kernel
theorem dX10_ringsBy_16 : decode cX10_ringsBy 16 = .ok (.iload_n 2, 1) := by decide +kernel
theorem dX10_ringsBy_17 : decode cX10_ringsBy 17 = .ok (.invokestatic 208, 3) := by decide +kernel
theorem dX10_ringsBy_20 : decode cX10_ringsBy 20 = .ok (.aload_n 0, 1) := by decide +kernel
theorem dX10_ringsBy_21 : decode cX10_ringsBy 21 = .ok (.getfield 23, 3) := by decide +kernel
theorem dX10_ringsBy_24 : decode cX10_ringsBy 24 = .ok (.getfield 142, 3) := by decide +kernel
theorem dX10_ringsBy_27 : decode cX10_ringsBy 27 = .ok (.iload_n 3, 1) := by decide +kernel
theorem dX10_ringsBy_28 : decode cX10_ringsBy 28 = .ok (.invokestatic 208, 3) := by decide +kernel
theorem dX10_ringsBy_31 : decode cX10_ringsBy 31 = .ok (.invokevirtual 304, 3) := by decide +kernel
theorem dX10_ringsBy_34 : decode cX10_ringsBy 34 = .ok (.ireturn, 1) := by decide +kernel
theorem dX10_kindsWithBroken_0 : decode cX10_kindsWithBroken 0 = .ok (.aload_n 0, 1) := by decide +kernel
theorem dX10_kindsWithBroken_1 : decode cX10_kindsWithBroken 1 = .ok (.getfield 23, 3) := by decide +kernel
theorem dX10_kindsWithBroken_4 : decode cX10_kindsWithBroken 4 = .ok (.getfield 181, 3) := by decide +kernel
theorem dX10_kindsWithBroken_7 : decode cX10_kindsWithBroken 7 = .ok (.istore_n 2, 1) := by decide +kernel
theorem dX10_kindsWithBroken_8 : decode cX10_kindsWithBroken 8 = .ok (.iconst 0, 1) := by decide +kernel
theorem dX10_kindsWithBroken_9 : decode cX10_kindsWithBroken 9 = .ok (.istore_n 3, 1) := by decide +kernel
theorem dX10_kindsWithBroken_10 : decode cX10_kindsWithBroken 10 = .ok (.iload_n 3, 1) := by decide +kernel
theorem dX10_kindsWithBroken_11 : decode cX10_kindsWithBroken 11 = .ok (.aload_n 0, 1) := by decide +kernel
theorem dX10_kindsWithBroken_12 : decode cX10_kindsWithBroken 12 = .ok (.getfield 108, 3) := by decide +kernel
theorem dX10_kindsWithBroken_15 : decode cX10_kindsWithBroken 15 = .ok (.if_icmp .ge 24, 3) := by decide +kernel
theorem dX10_kindsWithBroken_18 : decode cX10_kindsWithBroken 18 = .ok (.iload_n 1, 1) := by decide +kernel
theorem dX10_kindsWithBroken_19 : decode cX10_kindsWithBroken 19 = .ok (.iload_n 3, 1) := by decide +kernel
theorem dX10_kindsWithBroken_20 : decode cX10_kindsWithBroken 20 = .ok (.ishr, 1) := by decide +kernel
theorem dX10_kindsWithBroken_21 : decode cX10_kindsWithBroken 21 = .ok (.iconst 1, 1) := by decide +kernel
theorem dX10_kindsWithBroken_22 : decode cX10_kindsWithBroken 22 = .ok (.iand, 1) := by decide +kernel
theorem dX10_kindsWithBroken_23 : decode cX10_kindsWithBroken 23 = .ok (.ifCond .eq 10, 3) := by decide +kernel
theorem dX10_kindsWithBroken_26 : decode cX10_kindsWithBroken 26 = .ok (.iload_n 2, 1) := by decide +kernel
theorem dX10_kindsWithBroken_27 : decode cX10_kindsWithBroken 27 = .ok (.iload_n 3, 1) := by decide +kernel
theorem dX10_kindsWithBroken_28 : decode cX10_kindsWithBroken 28 = .ok (.iconst 1, 1) := by decide +kernel
theorem dX10_kindsWithBroken_29 : decode cX10_kindsWithBroken 29 = .ok (.invokestatic 248, 3) := by decide +kernel
theorem dX10_kindsWithBroken_32 : decode cX10_kindsWithBroken 32 = .ok (.istore_n 2, 1) := by decide +kernel
theorem dX10_kindsWithBroken_33 : decode cX10_kindsWithBroken 33 = .ok (.iinc 3 1, 3) := by decide +kernel
theorem dX10_kindsWithBroken_36 : decode cX10_kindsWithBroken 36 = .ok (.goto (-26), 3) := by decide +kernel
theorem dX10_kindsWithBroken_39 : decode cX10_kindsWithBroken 39 = .ok (.iload_n 2, 1) := by decide +kernel
theorem dX10_kindsWithBroken_40 : decode cX10_kindsWithBroken 40 = .ok (.ireturn, 1) := by decide +kernel
theorem dX10_goodWires_0 : decode cX10_goodWires 0 = .ok (.aload_n 0, 1) := by decide +kernel
theorem dX10_goodWires_1 : decode cX10_goodWires 1 = .ok (.aload_n 0, 1) := by decide +kernel
theorem dX10_goodWires_2 : decode cX10_goodWires 2 = .ok (.getfield 23, 3) := by decide +kernel
theorem dX10_goodWires_5 : decode cX10_goodWires 5 = .ok (.getfield 181, 3) := by decide +kernel
theorem dX10_goodWires_8 : decode cX10_goodWires 8 = .ok (.invokevirtual 204, 3) := by decide +kernel
theorem dX10_goodWires_11 : decode cX10_goodWires 11 = .ok (.iconst 0, 1) := by decide +kernel
theorem dX10_goodWires_12 : decode cX10_goodWires 12 = .ok (.istore_n 1, 1) := by decide +kernel
theorem dX10_goodWires_13 : decode cX10_goodWires 13 = .ok (.iconst 0, 1) := by decide +kernel
theorem dX10_goodWires_14 : decode cX10_goodWires 14 = .ok (.istore_n 2, 1) := by decide +kernel
theorem dX10_goodWires_15 : decode cX10_goodWires 15 = .ok (.iload_n 2, 1) := by decide +kernel
theorem dX10_goodWires_16 : decode cX10_goodWires 16 = .ok (.aload_n 0, 1) := by decide +kernel
theorem dX10_goodWires_17 : decode cX10_goodWires 17 = .ok (.getfield 108, 3) := by decide +kernel
theorem dX10_goodWires_20 : decode cX10_goodWires 20 = .ok (.if_icmp .ge 41, 3) := by decide +kernel
theorem dX10_goodWires_23 : decode cX10_goodWires 23 = .ok (.iload_n 2, 1) := by decide +kernel
theorem dX10_goodWires_24 : decode cX10_goodWires 24 = .ok (.iconst 5, 1) := by decide +kernel
theorem dX10_goodWires_25 : decode cX10_goodWires 25 = .ok (.if_icmp .ge 36, 3) := by decide +kernel
theorem dX10_goodWires_28 : decode cX10_goodWires 28 = .ok (.aload_n 0, 1) := by decide +kernel
theorem dX10_goodWires_29 : decode cX10_goodWires 29 = .ok (.getfield 16, 3) := by decide +kernel
theorem dX10_goodWires_32 : decode cX10_goodWires 32 = .ok (.iload_n 2, 1) := by decide +kernel
theorem dX10_goodWires_33 : decode cX10_goodWires 33 = .ok (.iaload, 1) := by decide +kernel
theorem dX10_goodWires_34 : decode cX10_goodWires 34 = .ok (.istore_n 3, 1) := by decide +kernel
theorem dX10_goodWires_35 : decode cX10_goodWires 35 = .ok (.aload_n 0, 1) := by decide +kernel
theorem dX10_goodWires_36 : decode cX10_goodWires 36 = .ok (.getfield 62, 3) := by decide +kernel
theorem dX10_goodWires_39 : decode cX10_goodWires 39 = .ok (.iload_n 3, 1) := by decide +kernel
theorem dX10_goodWires_40 : decode cX10_goodWires 40 = .ok (.iconst 5, 1) := by decide +kernel
theorem dX10_goodWires_41 : decode cX10_goodWires 41 = .ok (.iload_n 2, 1) := by decide +kernel
theorem dX10_goodWires_42 : decode cX10_goodWires 42 = .ok (.iadd, 1) := by decide +kernel
theorem dX10_goodWires_43 : decode cX10_goodWires 43 = .ok (.invokevirtual 304, 3) := by decide +kernel
theorem dX10_goodWires_46 : decode cX10_goodWires 46 = .ok (.ifCond .eq 9, 3) := by decide +kernel
theorem dX10_goodWires_49 : decode cX10_goodWires 49 = .ok (.iload_n 1, 1) := by decide +kernel
theorem dX10_goodWires_50 : decode cX10_goodWires 50 = .ok (.iconst 1, 1) := by decide +kernel
theorem dX10_goodWires_51 : decode cX10_goodWires 51 = .ok (.iload_n 3, 1) := by decide +kernel
theorem dX10_goodWires_52 : decode cX10_goodWires 52 = .ok (.ishl, 1) := by decide +kernel
theorem dX10_goodWires_53 : decode cX10_goodWires 53 = .ok (.ior, 1) := by decide +kernel
theorem dX10_goodWires_54 : decode cX10_goodWires 54 = .ok (.istore_n 1, 1) := by decide +kernel
theorem dX10_goodWires_55 : decode cX10_goodWires 55 = .ok (.iinc 2 1, 3) := by decide +kernel
theorem dX10_goodWires_58 : decode cX10_goodWires 58 = .ok (.goto (-43), 3) := by decide +kernel
theorem dX10_goodWires_61 : decode cX10_goodWires 61 = .ok (.iload_n 1, 1) := by decide +kernel
theorem dX10_goodWires_62 : decode cX10_goodWires 62 = .ok (.ireturn, 1) := by decide +kernel
theorem dX10_whyNoTime_0 : decode cX10_whyNoTime 0 = .ok (.aload_n 0, 1) := by decide +kernel
theorem dX10_whyNoTime_1 : decode cX10_whyNoTime 1 = .ok (.getfield 108, 3) := by decide +kernel
theorem dX10_whyNoTime_4 : decode cX10_whyNoTime 4 = .ok (.ifCond .ne 6, 3) := by decide +kernel
theorem dX10_whyNoTime_7 : decode cX10_whyNoTime 7 = .ok (.ldc 231, 2) := by decide +kernel
theorem dX10_whyNoTime_9 : decode cX10_whyNoTime 9 = .ok (.ireturn, 1) := by decide +kernel
theorem dX10_whyNoTime_10 : decode cX10_whyNoTime 10 = .ok (.aload_n 0, 1) := by decide +kernel
theorem dX10_whyNoTime_11 : decode cX10_whyNoTime 11 = .ok (.getfield 23, 3) := by decide +kernel
theorem dX10_whyNoTime_14 : decode cX10_whyNoTime 14 = .ok (.getfield 145, 3) := by decide +kernel
theorem dX10_whyNoTime_17 : decode cX10_whyNoTime 17 = .ok (.sipush 9000, 3) := by decide +kernel
theorem dX10_whyNoTime_20 : decode cX10_whyNoTime 20 = .ok (.if_icmp .le 8, 3) := by decide +kernel
theorem dX10_whyNoTime_23 : decode cX10_whyNoTime 23 = .ok (.ldc 98, 2) := by decide +kernel
theorem dX10_whyNoTime_25 : decode cX10_whyNoTime 25 = .ok (.goto 4, 3) := by decide +kernel
theorem dX10_whyNoTime_28 : decode cX10_whyNoTime 28 = .ok (.iconst 0, 1) := by decide +kernel
theorem dX10_whyNoTime_29 : decode cX10_whyNoTime 29 = .ok (.ireturn, 1) := by decide +kernel
theorem dX10_driftOneHour_0 : decode cX10_driftOneHour 0 = .ok (.aload_n 0, 1) := by decide +kernel
theorem dX10_driftOneHour_1 : decode cX10_driftOneHour 1 = .ok (.getfield 37, 3) := by decide +kernel
theorem dX10_driftOneHour_4 : decode cX10_driftOneHour 4 = .ok (.iconst 4, 1) := by decide +kernel
theorem dX10_driftOneHour_5 : decode cX10_driftOneHour 5 = .ok (.invokevirtual 307, 3) := by decide +kernel
theorem dX10_driftOneHour_8 : decode cX10_driftOneHour 8 = .ok (.istore_n 1, 1) := by decide +kernel
theorem dX10_driftOneHour_9 : decode cX10_driftOneHour 9 = .ok (.aload_n 0, 1) := by decide +kernel
theorem dX10_driftOneHour_10 : decode cX10_driftOneHour 10 = .ok (.getfield 37, 3) := by decide +kernel
theorem dX10_driftOneHour_13 : decode cX10_driftOneHour 13 = .ok (.aload_n 0, 1) := by decide +kernel
theorem dX10_driftOneHour_14 : decode cX10_driftOneHour 14 = .ok (.getfield 108, 3) := by decide +kernel
theorem dX10_driftOneHour_17 : decode cX10_driftOneHour 17 = .ok (.invokevirtual 307, 3) := by decide +kernel
theorem dX10_driftOneHour_20 : decode cX10_driftOneHour 20 = .ok (.istore_n 2, 1) := by decide +kernel
theorem dX10_driftOneHour_21 : decode cX10_driftOneHour 21 = .ok (.iload_n 1, 1) := by decide +kernel
theorem dX10_driftOneHour_22 : decode cX10_driftOneHour 22 = .ok (.ifCond .ne 22, 3) := by decide +kernel
theorem dX10_driftOneHour_25 : decode cX10_driftOneHour 25 = .ok (.aload_n 0, 1) := by decide +kernel
theorem dX10_driftOneHour_26 : decode cX10_driftOneHour 26 = .ok (.getfield 23, 3) := by decide +kernel
theorem dX10_driftOneHour_29 : decode cX10_driftOneHour 29 = .ok (.iload_n 2, 1) := by decide +kernel
theorem dX10_driftOneHour_30 : decode cX10_driftOneHour 30 = .ok (.aload_n 0, 1) := by decide +kernel
theorem dX10_driftOneHour_31 : decode cX10_driftOneHour 31 = .ok (.getfield 37, 3) := by decide +kernel
theorem dX10_driftOneHour_34 : decode cX10_driftOneHour 34 = .ok (.iconst 4, 1) := by decide +kernel
theorem dX10_driftOneHour_35 : decode cX10_driftOneHour 35 = .ok (.invokevirtual 307, 3) := by decide +kernel
theorem dX10_driftOneHour_38 : decode cX10_driftOneHour 38 = .ok (.invokevirtual 236, 3) := by decide +kernel
theorem dX10_driftOneHour_41 : decode cX10_driftOneHour 41 = .ok (.goto 74, 3) := by decide +kernel
theorem dX10_driftOneHour_44 : decode cX10_driftOneHour 44 = .ok (.iload_n 1, 1) := by decide +kernel
theorem dX10_driftOneHour_45 : decode cX10_driftOneHour 45 = .ok (.iconst 1, 1) := by decide +kernel
theorem dX10_driftOneHour_46 : decode cX10_driftOneHour 46 = .ok (.if_icmp .ne 28, 3) := by decide +kernel
theorem dX10_driftOneHour_49 : decode cX10_driftOneHour 49 = .ok (.aload_n 0, 1) := by decide +kernel
theorem dX10_driftOneHour_50 : decode cX10_driftOneHour 50 = .ok (.getfield 37, 3) := by decide +kernel
theorem dX10_driftOneHour_53 : decode cX10_driftOneHour 53 = .ok (.aload_n 0, 1) := by decide +kernel
theorem dX10_driftOneHour_54 : decode cX10_driftOneHour 54 = .ok (.getfield 108, 3) := by decide +kernel
theorem dX10_driftOneHour_57 : decode cX10_driftOneHour 57 = .ok (.invokevirtual 307, 3) := by decide +kernel
theorem dX10_driftOneHour_60 : decode cX10_driftOneHour 60 = .ok (.iload_n 2, 1) := by decide +kernel
theorem dX10_driftOneHour_61 : decode cX10_driftOneHour 61 = .ok (.if_icmp .eq 54, 3) := by decide +kernel
theorem dX10_driftOneHour_64 : decode cX10_driftOneHour 64 = .ok (.aload_n 0, 1) := by decide +kernel
theorem dX10_driftOneHour_65 : decode cX10_driftOneHour 65 = .ok (.getfield 23, 3) := by decide +kernel
theorem dX10_driftOneHour_68 : decode cX10_driftOneHour 68 = .ok (.invokevirtual 245, 3) := by decide +kernel
theorem dX10_driftOneHour_71 : decode cX10_driftOneHour 71 = .ok (.goto 44, 3) := by decide +kernel
theorem dX10_driftOneHour_74 : decode cX10_driftOneHour 74 = .ok (.iload_n 1, 1) := by decide +kernel
theorem dX10_driftOneHour_75 : decode cX10_driftOneHour 75 = .ok (.iconst 2, 1) := by decide +kernel
theorem dX10_driftOneHour_76 : decode cX10_driftOneHour 76 = .ok (.if_icmp .ne 13, 3) := by decide +kernel
theorem dX10_driftOneHour_79 : decode cX10_driftOneHour 79 = .ok (.aload_n 0, 1) := by decide +kernel
theorem dX10_driftOneHour_80 : decode cX10_driftOneHour 80 = .ok (.getfield 23, 3) := by decide +kernel
theorem dX10_driftOneHour_83 : decode cX10_driftOneHour 83 = .ok (.invokevirtual 242, 3) := by decide +kernel
theorem dX10_driftOneHour_86 : decode cX10_driftOneHour 86 = .ok (.goto 29, 3) := by decide +kernel
theorem dX10_driftOneHour_89 : decode cX10_driftOneHour 89 = .ok (.aload_n 0, 1) := by decide +kernel
theorem dX10_driftOneHour_90 : decode cX10_driftOneHour 90 = .ok (.getfield 23, 3) := by decide +kernel
theorem dX10_driftOneHour_93 : decode cX10_driftOneHour 93 = .ok (.aload_n 0, 1) := by decide +kernel
theorem dX10_driftOneHour_94 : decode cX10_driftOneHour 94 = .ok (.getfield 23, 3) := by decide +kernel
theorem dX10_driftOneHour_97 : decode cX10_driftOneHour 97 = .ok (.getfield 181, 3) := by decide +kernel
theorem dX10_driftOneHour_100 : decode cX10_driftOneHour 100 = .ok (.iload_n 2, 1) := by decide +kernel
theorem dX10_driftOneHour_101 : decode cX10_driftOneHour 101 = .ok (.aload_n 0, 1) := by decide +kernel
theorem dX10_driftOneHour_102 : decode cX10_driftOneHour 102 = .ok (.getfield 37, 3) := by decide +kernel
theorem dX10_driftOneHour_105 : decode cX10_driftOneHour 105 = .ok (.iconst 4, 1) := by decide +kernel
theorem dX10_driftOneHour_106 : decode cX10_driftOneHour 106 = .ok (.invokevirtual 307, 3) := by decide +kernel
theorem dX10_driftOneHour_109 : decode cX10_driftOneHour 109 = .ok (.invokestatic 248, 3) := by decide +kernel
theorem dX10_driftOneHour_112 : decode cX10_driftOneHour 112 = .ok (.putfield 181, 3) := by decide +kernel
theorem dX10_driftOneHour_115 : decode cX10_driftOneHour 115 = .ok (.aload_n 0, 1) := by decide +kernel
theorem dX10_driftOneHour_116 : decode cX10_driftOneHour 116 = .ok (.getfield 23, 3) := by decide +kernel
theorem dX10_driftOneHour_119 : decode cX10_driftOneHour 119 = .ok (.dup, 1) := by decide +kernel
theorem dX10_driftOneHour_120 : decode cX10_driftOneHour 120 = .ok (.getfield 145, 3) := by decide +kernel
theorem dX10_driftOneHour_123 : decode cX10_driftOneHour 123 = .ok (.iconst 1, 1) := by decide +kernel
theorem dX10_driftOneHour_124 : decode cX10_driftOneHour 124 = .ok (.iadd, 1) := by decide +kernel
theorem dX10_driftOneHour_125 : decode cX10_driftOneHour 125 = .ok (.putfield 145, 3) := by decide +kernel
theorem dX10_driftOneHour_128 : decode cX10_driftOneHour 128 = .ok (.return_, 1) := by decide +kernel
theorem dX10_countOrders_0 : decode cX10_countOrders 0 = .ok (.aload_n 0, 1) := by decide +kernel
theorem dX10_countOrders_1 : decode cX10_countOrders 1 = .ok (.getfield 108, 3) := by decide +kernel
theorem dX10_countOrders_4 : decode cX10_countOrders 4 = .ok (.ifCond .ne 7, 3) := by decide +kernel
theorem dX10_countOrders_7 : decode cX10_countOrders 7 = .ok (.iconst 0, 1) := by decide +kernel
theorem dX10_countOrders_8 : decode cX10_countOrders 8 = .ok (.goto 10, 3) := by decide +kernel
theorem dX10_countOrders_11 : decode cX10_countOrders 11 = .ok (.aload_n 0, 1) := by decide +kernel
theorem dX10_countOrders_12 : decode cX10_countOrders 12 = .ok (.getfield 108, 3) := by decide +kernel
theorem dX10_countOrders_15 : decode cX10_countOrders 15 = .ok (.invokestatic 310, 3) := by decide +kernel
theorem dX10_countOrders_18 : decode cX10_countOrders 18 = .ok (.ireturn, 1) := by decide +kernel
theorem dX10_layAllSeen_0 : decode cX10_layAllSeen 0 = .ok (.iconst 0, 1) := by decide +kernel
theorem dX10_layAllSeen_1 : decode cX10_layAllSeen 1 = .ok (.istore_n 1, 1) := by decide +kernel
theorem dX10_layAllSeen_2 : decode cX10_layAllSeen 2 = .ok (.iload_n 1, 1) := by decide +kernel
theorem dX10_layAllSeen_3 : decode cX10_layAllSeen 3 = .ok (.aload_n 0, 1) := by decide +kernel
theorem dX10_layAllSeen_4 : decode cX10_layAllSeen 4 = .ok (.getfield 133, 3) := by decide +kernel
theorem dX10_layAllSeen_7 : decode cX10_layAllSeen 7 = .ok (.if_icmp .ge 38, 3) := by decide +kernel
theorem dX10_layAllSeen_10 : decode cX10_layAllSeen 10 = .ok (.iload_n 1, 1) := by decide +kernel
theorem dX10_layAllSeen_11 : decode cX10_layAllSeen 11 = .ok (.bipush 8, 2) := by decide +kernel
theorem dX10_layAllSeen_13 : decode cX10_layAllSeen 13 = .ok (.if_icmp .ge 32, 3) := by decide +kernel
theorem dX10_layAllSeen_16 : decode cX10_layAllSeen 16 = .ok (.aload_n 0, 1) := by decide +kernel
theorem dX10_layAllSeen_17 : decode cX10_layAllSeen 17 = .ok (.getfield 49, 3) := by decide +kernel
theorem dX10_layAllSeen_20 : decode cX10_layAllSeen 20 = .ok (.iload_n 1, 1) := by decide +kernel
theorem dX10_layAllSeen_21 : decode cX10_layAllSeen 21 = .ok (.aaload, 1) := by decide +kernel
theorem dX10_layAllSeen_22 : decode cX10_layAllSeen 22 = .ok (.aload_n 0, 1) := by decide +kernel
theorem dX10_layAllSeen_23 : decode cX10_layAllSeen 23 = .ok (.getfield 23, 3) := by decide +kernel
theorem dX10_layAllSeen_26 : decode cX10_layAllSeen 26 = .ok (.getfield 181, 3) := by decide +kernel
theorem dX10_layAllSeen_29 : decode cX10_layAllSeen 29 = .ok (.aload_n 0, 1) := by decide +kernel
theorem dX10_layAllSeen_30 : decode cX10_layAllSeen 30 = .ok (.getfield 23, 3) := by decide +kernel
theorem dX10_layAllSeen_33 : decode cX10_layAllSeen 33 = .ok (.getfield 154, 3) := by decide +kernel
theorem dX10_layAllSeen_36 : decode cX10_layAllSeen 36 = .ok (.invokevirtual 313, 3) := by decide +kernel
theorem dX10_layAllSeen_39 : decode cX10_layAllSeen 39 = .ok (.iinc 1 1, 3) := by decide +kernel
theorem dX10_layAllSeen_42 : decode cX10_layAllSeen 42 = .ok (.goto (-40), 3) := by decide +kernel
theorem dX10_layAllSeen_45 : decode cX10_layAllSeen 45 = .ok (.return_, 1) := by decide +kernel
theorem dX10_fitsAllSeen_0 : decode cX10_fitsAllSeen 0 = .ok (.iconst 0, 1) := by decide +kernel
theorem dX10_fitsAllSeen_1 : decode cX10_fitsAllSeen 1 = .ok (.istore_n 1, 1) := by decide +kernel
theorem dX10_fitsAllSeen_2 : decode cX10_fitsAllSeen 2 = .ok (.iload_n 1, 1) := by decide +kernel
theorem dX10_fitsAllSeen_3 : decode cX10_fitsAllSeen 3 = .ok (.aload_n 0, 1) := by decide +kernel
theorem dX10_fitsAllSeen_4 : decode cX10_fitsAllSeen 4 = .ok (.getfield 133, 3) := by decide +kernel
theorem dX10_fitsAllSeen_7 : decode cX10_fitsAllSeen 7 = .ok (.if_icmp .ge 40, 3) := by decide +kernel
theorem dX10_fitsAllSeen_10 : decode cX10_fitsAllSeen 10 = .ok (.iload_n 1, 1) := by decide +kernel
theorem dX10_fitsAllSeen_11 : decode cX10_fitsAllSeen 11 = .ok (.bipush 8, 2) := by decide +kernel
theorem dX10_fitsAllSeen_13 : decode cX10_fitsAllSeen 13 = .ok (.if_icmp .ge 34, 3) := by decide +kernel
theorem dX10_fitsAllSeen_16 : decode cX10_fitsAllSeen 16 = .ok (.aload_n 0, 1) := by decide +kernel
theorem dX10_fitsAllSeen_17 : decode cX10_fitsAllSeen 17 = .ok (.getfield 49, 3) := by decide +kernel
theorem dX10_fitsAllSeen_20 : decode cX10_fitsAllSeen 20 = .ok (.iload_n 1, 1) := by decide +kernel
theorem dX10_fitsAllSeen_21 : decode cX10_fitsAllSeen 21 = .ok (.aaload, 1) := by decide +kernel
theorem dX10_fitsAllSeen_22 : decode cX10_fitsAllSeen 22 = .ok (.aload_n 0, 1) := by decide +kernel
theorem dX10_fitsAllSeen_23 : decode cX10_fitsAllSeen 23 = .ok (.getfield 69, 3) := by decide +kernel
theorem dX10_fitsAllSeen_26 : decode cX10_fitsAllSeen 26 = .ok (.getfield 315, 3) := by decide +kernel
theorem dX10_fitsAllSeen_29 : decode cX10_fitsAllSeen 29 = .ok (.aload_n 0, 1) := by decide +kernel
theorem dX10_fitsAllSeen_30 : decode cX10_fitsAllSeen 30 = .ok (.getfield 108, 3) := by decide +kernel
theorem dX10_fitsAllSeen_33 : decode cX10_fitsAllSeen 33 = .ok (.invokevirtual 318, 3) := by decide +kernel
theorem dX10_fitsAllSeen_36 : decode cX10_fitsAllSeen 36 = .ok (.ifCond .ne 5, 3) := by decide +kernel
theorem dX10_fitsAllSeen_39 : decode cX10_fitsAllSeen 39 = .ok (.iconst 0, 1) := by decide +kernel
theorem dX10_fitsAllSeen_40 : decode cX10_fitsAllSeen 40 = .ok (.ireturn, 1) := by decide +kernel
theorem dX10_fitsAllSeen_41 : decode cX10_fitsAllSeen 41 = .ok (.iinc 1 1, 3) := by decide +kernel
theorem dX10_fitsAllSeen_44 : decode cX10_fitsAllSeen 44 = .ok (.goto (-42), 3) := by decide +kernel
theorem dX10_fitsAllSeen_47 : decode cX10_fitsAllSeen 47 = .ok (.iconst 1, 1) := by decide +kernel
theorem dX10_fitsAllSeen_48 : decode cX10_fitsAllSeen 48 = .ok (.ireturn, 1) := by decide +kernel
theorem dX10_guessOrders_0 : decode cX10_guessOrders 0 = .ok (.aload_n 0, 1) := by decide +kernel
theorem dX10_guessOrders_1 : decode cX10_guessOrders 1 = .ok (.getfield 76, 3) := by decide +kernel
theorem dX10_guessOrders_4 : decode cX10_guessOrders 4 = .ok (.invokevirtual 322, 3) := by decide +kernel
theorem dX10_guessOrders_7 : decode cX10_guessOrders 7 = .ok (.aload_n 0, 1) := by decide +kernel
theorem dX10_guessOrders_8 : decode cX10_guessOrders 8 = .ok (.invokevirtual 323, 3) := by decide +kernel
theorem dX10_guessOrders_11 : decode cX10_guessOrders 11 = .ok (.aload_n 0, 1) := by decide +kernel
theorem dX10_guessOrders_12 : decode cX10_guessOrders 12 = .ok (.getfield 69, 3) := by decide +kernel
theorem dX10_guessOrders_15 : decode cX10_guessOrders 15 = .ok (.invokevirtual 326, 3) := by decide +kernel
theorem dX10_guessOrders_18 : decode cX10_guessOrders 18 = .ok (.aload_n 0, 1) := by decide +kernel
theorem dX10_guessOrders_19 : decode cX10_guessOrders 19 = .ok (.invokevirtual 329, 3) := by decide +kernel
theorem dX10_guessOrders_22 : decode cX10_guessOrders 22 = .ok (.istore_n 1, 1) := by decide +kernel
theorem dX10_guessOrders_23 : decode cX10_guessOrders 23 = .ok (.iconst 0, 1) := by decide +kernel
theorem dX10_guessOrders_24 : decode cX10_guessOrders 24 = .ok (.istore_n 2, 1) := by decide +kernel
theorem dX10_guessOrders_25 : decode cX10_guessOrders 25 = .ok (.iload_n 2, 1) := by decide +kernel
theorem dX10_guessOrders_26 : decode cX10_guessOrders 26 = .ok (.iload_n 1, 1) := by decide +kernel
theorem dX10_guessOrders_27 : decode cX10_guessOrders 27 = .ok (.if_icmp .ge 45, 3) := by decide +kernel
theorem dX10_guessOrders_30 : decode cX10_guessOrders 30 = .ok (.aload_n 0, 1) := by decide +kernel
theorem dX10_guessOrders_31 : decode cX10_guessOrders 31 = .ok (.invokevirtual 332, 3) := by decide +kernel
theorem dX10_guessOrders_34 : decode cX10_guessOrders 34 = .ok (.ifCond .eq 21, 3) := by decide +kernel
theorem dX10_guessOrders_37 : decode cX10_guessOrders 37 = .ok (.aload_n 0, 1) := by decide +kernel
theorem dX10_guessOrders_38 : decode cX10_guessOrders 38 = .ok (.getfield 76, 3) := by decide +kernel
theorem dX10_guessOrders_41 : decode cX10_guessOrders 41 = .ok (.aload_n 0, 1) := by decide +kernel
theorem dX10_guessOrders_42 : decode cX10_guessOrders 42 = .ok (.getfield 69, 3) := by decide +kernel
theorem dX10_guessOrders_45 : decode cX10_guessOrders 45 = .ok (.getfield 315, 3) := by decide +kernel
theorem dX10_guessOrders_48 : decode cX10_guessOrders 48 = .ok (.aload_n 0, 1) := by decide +kernel
theorem dX10_guessOrders_49 : decode cX10_guessOrders 49 = .ok (.getfield 108, 3) := by decide +kernel
theorem dX10_guessOrders_52 : decode cX10_guessOrders 52 = .ok (.invokevirtual 336, 3) := by decide +kernel
theorem dX10_guessOrders_55 : decode cX10_guessOrders 55 = .ok (.aload_n 0, 1) := by decide +kernel
theorem dX10_guessOrders_56 : decode cX10_guessOrders 56 = .ok (.getfield 69, 3) := by decide +kernel
theorem dX10_guessOrders_59 : decode cX10_guessOrders 59 = .ok (.aload_n 0, 1) := by decide +kernel
theorem dX10_guessOrders_60 : decode cX10_guessOrders 60 = .ok (.getfield 108, 3) := by decide +kernel
theorem dX10_guessOrders_63 : decode cX10_guessOrders 63 = .ok (.invokevirtual 339, 3) := by decide +kernel
theorem dX10_guessOrders_66 : decode cX10_guessOrders 66 = .ok (.iinc 2 1, 3) := by decide +kernel
theorem dX10_guessOrders_69 : decode cX10_guessOrders 69 = .ok (.goto (-44), 3) := by decide +kernel
theorem dX10_guessOrders_72 : decode cX10_guessOrders 72 = .ok (.return_, 1) := by decide +kernel
theorem dX10_countCouldBe_0 : decode cX10_countCouldBe 0 = .ok (.aload_n 0, 1) := by decide +kernel
theorem dX10_countCouldBe_1 : decode cX10_countCouldBe 1 = .ok (.invokevirtual 342, 3) := by decide +kernel
theorem dX10_countCouldBe_4 : decode cX10_countCouldBe 4 = .ok (.aload_n 0, 1) := by decide +kernel
theorem dX10_countCouldBe_5 : decode cX10_countCouldBe 5 = .ok (.getfield 76, 3) := by decide +kernel
theorem dX10_countCouldBe_8 : decode cX10_countCouldBe 8 = .ok (.getfield 345, 3) := by decide +kernel
theorem dX10_countCouldBe_11 : decode cX10_countCouldBe 11 = .ok (.ireturn, 1) := by decide +kernel
theorem dX10_couldBeOf_0 : decode cX10_couldBeOf 0 = .ok (.aload_n 0, 1) := by decide +kernel
theorem dX10_couldBeOf_1 : decode cX10_couldBeOf 1 = .ok (.invokevirtual 342, 3) := by decide +kernel
theorem dX10_couldBeOf_4 : decode cX10_couldBeOf 4 = .ok (.aload_n 0, 1) := by decide +kernel
theorem dX10_couldBeOf_5 : decode cX10_couldBeOf 5 = .ok (.getfield 76, 3) := by decide +kernel
theorem dX10_couldBeOf_8 : decode cX10_couldBeOf 8 = .ok (.getfield 346, 3) := by decide +kernel
theorem dX10_couldBeOf_11 : decode cX10_couldBeOf 11 = .ok (.iload_n 1, 1) := by decide +kernel
theorem dX10_couldBeOf_12 : decode cX10_couldBeOf 12 = .ok (.iaload, 1) := by decide +kernel
theorem dX10_couldBeOf_13 : decode cX10_couldBeOf 13 = .ok (.ireturn, 1) := by decide +kernel
theorem dX10_firstCouldBeOf_0 : decode cX10_firstCouldBeOf 0 = .ok (.aload_n 0, 1) := by decide +kernel
theorem dX10_firstCouldBeOf_1 : decode cX10_firstCouldBeOf 1 = .ok (.invokevirtual 342, 3) := by decide +kernel
theorem dX10_firstCouldBeOf_4 : decode cX10_firstCouldBeOf 4 = .ok (.aload_n 0, 1) := by decide +kernel
theorem dX10_firstCouldBeOf_5 : decode cX10_firstCouldBeOf 5 = .ok (.getfield 76, 3) := by decide +kernel
theorem dX10_firstCouldBeOf_8 : decode cX10_firstCouldBeOf 8 = .ok (.getfield 345, 3) := by decide +kernel
theorem dX10_firstCouldBeOf_11 : decode cX10_firstCouldBeOf 11 = .ok (.ifCond .ne 7, 3) := by decide +kernel
theorem dX10_firstCouldBeOf_14 : decode cX10_firstCouldBeOf 14 = .ok (.iconst (-1), 1) := by decide +kernel
theorem dX10_firstCouldBeOf_15 : decode cX10_firstCouldBeOf 15 = .ok (.goto 12, 3) := by decide +kernel
theorem dX10_firstCouldBeOf_18 : decode cX10_firstCouldBeOf 18 = .ok (.aload_n 0, 1) := by decide +kernel
theorem dX10_firstCouldBeOf_19 : decode cX10_firstCouldBeOf 19 = .ok (.getfield 76, 3) := by decide +kernel
theorem dX10_firstCouldBeOf_22 : decode cX10_firstCouldBeOf 22 = .ok (.getfield 349, 3) := by decide +kernel
theorem dX10_firstCouldBeOf_25 : decode cX10_firstCouldBeOf 25 = .ok (.iload_n 1, 1) := by decide +kernel
theorem dX10_firstCouldBeOf_26 : decode cX10_firstCouldBeOf 26 = .ok (.iaload, 1) := by decide +kernel
theorem dX10_firstCouldBeOf_27 : decode cX10_firstCouldBeOf 27 = .ok (.ireturn, 1) := by decide +kernel
theorem dX10_bestQuestion_0 : decode cX10_bestQuestion 0 = .ok (.aload_n 0, 1) := by decide +kernel
theorem dX10_bestQuestion_1 : decode cX10_bestQuestion 1 = .ok (.getfield 76, 3) := by decide +kernel
theorem dX10_bestQuestion_4 : decode cX10_bestQuestion 4 = .ok (.invokevirtual 322, 3) := by decide +kernel
theorem dX10_bestQuestion_7 : decode cX10_bestQuestion 7 = .ok (.aload_n 0, 1) := by decide +kernel
theorem dX10_bestQuestion_8 : decode cX10_bestQuestion 8 = .ok (.invokevirtual 323, 3) := by decide +kernel
theorem dX10_bestQuestion_11 : decode cX10_bestQuestion 11 = .ok (.aload_n 0, 1) := by decide +kernel
theorem dX10_bestQuestion_12 : decode cX10_bestQuestion 12 = .ok (.getfield 62, 3) := by decide +kernel
theorem dX10_bestQuestion_15 : decode cX10_bestQuestion 15 = .ok (.aload_n 0, 1) := by decide +kernel
theorem dX10_bestQuestion_16 : decode cX10_bestQuestion 16 = .ok (.getfield 23, 3) := by decide +kernel
theorem dX10_bestQuestion_19 : decode cX10_bestQuestion 19 = .ok (.getfield 181, 3) := by decide +kernel
theorem dX10_bestQuestion_22 : decode cX10_bestQuestion 22 = .ok (.aload_n 0, 1) := by decide +kernel
theorem dX10_bestQuestion_23 : decode cX10_bestQuestion 23 = .ok (.getfield 23, 3) := by decide +kernel
theorem dX10_bestQuestion_26 : decode cX10_bestQuestion 26 = .ok (.getfield 154, 3) := by decide +kernel
theorem dX10_bestQuestion_29 : decode cX10_bestQuestion 29 = .ok (.aload_n 0, 1) := by decide +kernel
theorem dX10_bestQuestion_30 : decode cX10_bestQuestion 30 = .ok (.getfield 23, 3) := by decide +kernel
theorem dX10_bestQuestion_33 : decode cX10_bestQuestion 33 = .ok (.getfield 192, 3) := by decide +kernel
theorem dX10_bestQuestion_36 : decode cX10_bestQuestion 36 = .ok (.aload_n 0, 1) := by decide +kernel
theorem dX10_bestQuestion_37 : decode cX10_bestQuestion 37 = .ok (.getfield 23, 3) := by decide +kernel
theorem dX10_bestQuestion_40 : decode cX10_bestQuestion 40 = .ok (.getfield 195, 3) := by decide +kernel
theorem dX10_bestQuestion_43 : decode cX10_bestQuestion 43 = .ok (.invokevirtual 296, 3) := by decide +kernel
theorem dX10_bestQuestion_46 : decode cX10_bestQuestion 46 = .ok (.aload_n 0, 1) := by decide +kernel
theorem dX10_bestQuestion_47 : decode cX10_bestQuestion 47 = .ok (.getfield 23, 3) := by decide +kernel
theorem dX10_bestQuestion_50 : decode cX10_bestQuestion 50 = .ok (.getfield 181, 3) := by decide +kernel
theorem dX10_bestQuestion_53 : decode cX10_bestQuestion 53 = .ok (.aload_n 0, 1) := by decide +kernel
theorem dX10_bestQuestion_54 : decode cX10_bestQuestion 54 = .ok (.getfield 23, 3) := by decide +kernel
theorem dX10_bestQuestion_57 : decode cX10_bestQuestion 57 = .ok (.getfield 145, 3) := by decide +kernel
theorem dX10_bestQuestion_60 : decode cX10_bestQuestion 60 = .ok (.invokestatic 189, 3) := by decide +kernel
theorem dX10_bestQuestion_63 : decode cX10_bestQuestion 63 = .ok (.istore_n 1, 1) := by decide +kernel
theorem dX10_bestQuestion_64 : decode cX10_bestQuestion 64 = .ok (.aload_n 0, 1) := by decide +kernel
theorem dX10_bestQuestion_65 : decode cX10_bestQuestion 65 = .ok (.getfield 69, 3) := by decide +kernel
theorem dX10_bestQuestion_68 : decode cX10_bestQuestion 68 = .ok (.invokevirtual 326, 3) := by decide +kernel
theorem dX10_bestQuestion_71 : decode cX10_bestQuestion 71 = .ok (.aload_n 0, 1) := by decide +kernel
theorem dX10_bestQuestion_72 : decode cX10_bestQuestion 72 = .ok (.invokevirtual 329, 3) := by decide +kernel
theorem dX10_bestQuestion_75 : decode cX10_bestQuestion 75 = .ok (.istore_n 2, 1) := by decide +kernel
theorem dX10_bestQuestion_76 : decode cX10_bestQuestion 76 = .ok (.iconst 0, 1) := by decide +kernel
theorem dX10_bestQuestion_77 : decode cX10_bestQuestion 77 = .ok (.istore_n 3, 1) := by decide +kernel
theorem dX10_bestQuestion_78 : decode cX10_bestQuestion 78 = .ok (.iload_n 3, 1) := by decide +kernel
theorem dX10_bestQuestion_79 : decode cX10_bestQuestion 79 = .ok (.iload_n 2, 1) := by decide +kernel
theorem dX10_bestQuestion_80 : decode cX10_bestQuestion 80 = .ok (.if_icmp .ge 86, 3) := by decide +kernel
theorem dX10_bestQuestion_83 : decode cX10_bestQuestion 83 = .ok (.aload_n 0, 1) := by decide +kernel
theorem dX10_bestQuestion_84 : decode cX10_bestQuestion 84 = .ok (.invokevirtual 332, 3) := by decide +kernel
theorem dX10_bestQuestion_87 : decode cX10_bestQuestion 87 = .ok (.ifCond .eq 62, 3) := by decide +kernel
theorem dX10_bestQuestion_90 : decode cX10_bestQuestion 90 = .ok (.aload_n 0, 1) := by decide +kernel
theorem dX10_bestQuestion_91 : decode cX10_bestQuestion 91 = .ok (.getfield 62, 3) := by decide +kernel
theorem dX10_bestQuestion_94 : decode cX10_bestQuestion 94 = .ok (.aload_n 0, 1) := by decide +kernel
theorem dX10_bestQuestion_95 : decode cX10_bestQuestion 95 = .ok (.getfield 69, 3) := by decide +kernel
theorem dX10_bestQuestion_98 : decode cX10_bestQuestion 98 = .ok (.getfield 315, 3) := by decide +kernel
theorem dX10_bestQuestion_101 : decode cX10_bestQuestion 101 = .ok (.aload_n 0, 1) := by decide +kernel
theorem dX10_bestQuestion_102 : decode cX10_bestQuestion 102 = .ok (.getfield 108, 3) := by decide +kernel
theorem dX10_bestQuestion_105 : decode cX10_bestQuestion 105 = .ok (.iload_n 1, 1) := by decide +kernel
theorem dX10_bestQuestion_106 : decode cX10_bestQuestion 106 = .ok (.invokevirtual 300, 3) := by decide +kernel
theorem dX10_bestQuestion_109 : decode cX10_bestQuestion 109 = .ok (.aload_n 0, 1) := by decide +kernel
theorem dX10_bestQuestion_110 : decode cX10_bestQuestion 110 = .ok (.getfield 76, 3) := by decide +kernel
theorem dX10_bestQuestion_113 : decode cX10_bestQuestion 113 = .ok (.aload_n 0, 1) := by decide +kernel
theorem dX10_bestQuestion_114 : decode cX10_bestQuestion 114 = .ok (.getfield 69, 3) := by decide +kernel
theorem dX10_bestQuestion_117 : decode cX10_bestQuestion 117 = .ok (.getfield 315, 3) := by decide +kernel
theorem dX10_bestQuestion_120 : decode cX10_bestQuestion 120 = .ok (.aload_n 0, 1) := by decide +kernel
theorem dX10_bestQuestion_121 : decode cX10_bestQuestion 121 = .ok (.getfield 108, 3) := by decide +kernel
theorem dX10_bestQuestion_124 : decode cX10_bestQuestion 124 = .ok (.invokevirtual 336, 3) := by decide +kernel
theorem dX10_bestQuestion_127 : decode cX10_bestQuestion 127 = .ok (.aload_n 0, 1) := by decide +kernel
theorem dX10_bestQuestion_128 : decode cX10_bestQuestion 128 = .ok (.getfield 76, 3) := by decide +kernel
theorem dX10_bestQuestion_131 : decode cX10_bestQuestion 131 = .ok (.aload_n 0, 1) := by decide +kernel
theorem dX10_bestQuestion_132 : decode cX10_bestQuestion 132 = .ok (.getfield 62, 3) := by decide +kernel
theorem dX10_bestQuestion_135 : decode cX10_bestQuestion 135 = .ok (.aload_n 0, 1) := by decide +kernel
theorem dX10_bestQuestion_136 : decode cX10_bestQuestion 136 = .ok (.getfield 23, 3) := by decide +kernel
theorem dX10_bestQuestion_139 : decode cX10_bestQuestion 139 = .ok (.getfield 142, 3) := by decide +kernel
theorem dX10_bestQuestion_142 : decode cX10_bestQuestion 142 = .ok (.aload_n 0, 1) := by decide +kernel
theorem dX10_bestQuestion_143 : decode cX10_bestQuestion 143 = .ok (.getfield 108, 3) := by decide +kernel
theorem dX10_bestQuestion_146 : decode cX10_bestQuestion 146 = .ok (.invokevirtual 352, 3) := by decide +kernel
theorem dX10_bestQuestion_149 : decode cX10_bestQuestion 149 = .ok (.aload_n 0, 1) := by decide +kernel
theorem dX10_bestQuestion_150 : decode cX10_bestQuestion 150 = .ok (.getfield 69, 3) := by decide +kernel
theorem dX10_bestQuestion_153 : decode cX10_bestQuestion 153 = .ok (.aload_n 0, 1) := by decide +kernel
theorem dX10_bestQuestion_154 : decode cX10_bestQuestion 154 = .ok (.getfield 108, 3) := by decide +kernel
theorem dX10_bestQuestion_157 : decode cX10_bestQuestion 157 = .ok (.invokevirtual 339, 3) := by decide +kernel
theorem dX10_bestQuestion_160 : decode cX10_bestQuestion 160 = .ok (.iinc 3 1, 3) := by decide +kernel
theorem dX10_bestQuestion_163 : decode cX10_bestQuestion 163 = .ok (.goto (-85), 3) := by decide +kernel
theorem dX10_bestQuestion_166 : decode cX10_bestQuestion 166 = .ok (.aload_n 0, 1) := by decide +kernel
theorem dX10_bestQuestion_167 : decode cX10_bestQuestion 167 = .ok (.getfield 76, 3) := by decide +kernel
theorem dX10_bestQuestion_170 : decode cX10_bestQuestion 170 = .ok (.aload_n 0, 1) := by decide +kernel
theorem dX10_bestQuestion_171 : decode cX10_bestQuestion 171 = .ok (.getfield 108, 3) := by decide +kernel
theorem dX10_bestQuestion_174 : decode cX10_bestQuestion 174 = .ok (.invokevirtual 356, 3) := by decide +kernel
theorem dX10_bestQuestion_177 : decode cX10_bestQuestion 177 = .ok (.ireturn, 1) := by decide +kernel
theorem dX10_countLeft_0 : decode cX10_countLeft 0 = .ok (.aload_n 0, 1) := by decide +kernel
theorem dX10_countLeft_1 : decode cX10_countLeft 1 = .ok (.aload_n 0, 1) := by decide +kernel
theorem dX10_countLeft_2 : decode cX10_countLeft 2 = .ok (.getfield 23, 3) := by decide +kernel
theorem dX10_countLeft_5 : decode cX10_countLeft 5 = .ok (.getfield 181, 3) := by decide +kernel
theorem dX10_countLeft_8 : decode cX10_countLeft 8 = .ok (.invokevirtual 204, 3) := by decide +kernel
theorem dX10_countLeft_11 : decode cX10_countLeft 11 = .ok (.aload_n 0, 1) := by decide +kernel
theorem dX10_countLeft_12 : decode cX10_countLeft 12 = .ok (.getfield 62, 3) := by decide +kernel
theorem dX10_countLeft_15 : decode cX10_countLeft 15 = .ok (.aload_n 0, 1) := by decide +kernel
theorem dX10_countLeft_16 : decode cX10_countLeft 16 = .ok (.getfield 23, 3) := by decide +kernel
theorem dX10_countLeft_19 : decode cX10_countLeft 19 = .ok (.getfield 142, 3) := by decide +kernel
theorem dX10_countLeft_22 : decode cX10_countLeft 22 = .ok (.aload_n 0, 1) := by decide +kernel
theorem dX10_countLeft_23 : decode cX10_countLeft 23 = .ok (.getfield 108, 3) := by decide +kernel
theorem dX10_countLeft_26 : decode cX10_countLeft 26 = .ok (.invokevirtual 359, 3) := by decide +kernel
theorem dX10_countLeft_29 : decode cX10_countLeft 29 = .ok (.istore_n 1, 1) := by decide +kernel
theorem dX10_countLeft_30 : decode cX10_countLeft 30 = .ok (.aload_n 0, 1) := by decide +kernel
theorem dX10_countLeft_31 : decode cX10_countLeft 31 = .ok (.getfield 23, 3) := by decide +kernel
theorem dX10_countLeft_34 : decode cX10_countLeft 34 = .ok (.getfield 181, 3) := by decide +kernel
theorem dX10_countLeft_37 : decode cX10_countLeft 37 = .ok (.aload_n 0, 1) := by decide +kernel
theorem dX10_countLeft_38 : decode cX10_countLeft 38 = .ok (.getfield 23, 3) := by decide +kernel
theorem dX10_countLeft_41 : decode cX10_countLeft 41 = .ok (.getfield 145, 3) := by decide +kernel
theorem dX10_countLeft_44 : decode cX10_countLeft 44 = .ok (.invokestatic 189, 3) := by decide +kernel
theorem dX10_countLeft_47 : decode cX10_countLeft 47 = .ok (.istore_n 2, 1) := by decide +kernel
theorem dX10_countLeft_48 : decode cX10_countLeft 48 = .ok (.iconst 0, 1) := by decide +kernel
theorem dX10_countLeft_49 : decode cX10_countLeft 49 = .ok (.istore_n 3, 1) := by decide +kernel
theorem dX10_countLeft_50 : decode cX10_countLeft 50 = .ok (.aload_n 0, 1) := by decide +kernel
theorem dX10_countLeft_51 : decode cX10_countLeft 51 = .ok (.getfield 69, 3) := by decide +kernel
theorem dX10_countLeft_54 : decode cX10_countLeft 54 = .ok (.invokevirtual 326, 3) := by decide +kernel
theorem dX10_countLeft_57 : decode cX10_countLeft 57 = .ok (.aload_n 0, 1) := by decide +kernel
theorem dX10_countLeft_58 : decode cX10_countLeft 58 = .ok (.invokevirtual 329, 3) := by decide +kernel
theorem dX10_countLeft_61 : decode cX10_countLeft 61 = .ok (.istore 4, 2) := by decide +kernel
theorem dX10_countLeft_63 : decode cX10_countLeft 63 = .ok (.iconst 0, 1) := by decide +kernel
theorem dX10_countLeft_64 : decode cX10_countLeft 64 = .ok (.istore 5, 2) := by decide +kernel
theorem dX10_countLeft_66 : decode cX10_countLeft 66 = .ok (.iload 5, 2) := by decide +kernel
theorem dX10_countLeft_68 : decode cX10_countLeft 68 = .ok (.iload 4, 2) := by decide +kernel
theorem dX10_countLeft_70 : decode cX10_countLeft 70 = .ok (.if_icmp .ge 64, 3) := by decide +kernel
theorem dX10_countLeft_73 : decode cX10_countLeft 73 = .ok (.aload_n 0, 1) := by decide +kernel
theorem dX10_countLeft_74 : decode cX10_countLeft 74 = .ok (.getfield 62, 3) := by decide +kernel
theorem dX10_countLeft_77 : decode cX10_countLeft 77 = .ok (.aload_n 0, 1) := by decide +kernel
theorem dX10_countLeft_78 : decode cX10_countLeft 78 = .ok (.getfield 69, 3) := by decide +kernel
theorem dX10_countLeft_81 : decode cX10_countLeft 81 = .ok (.getfield 315, 3) := by decide +kernel
theorem dX10_countLeft_84 : decode cX10_countLeft 84 = .ok (.aload_n 0, 1) := by decide +kernel
theorem dX10_countLeft_85 : decode cX10_countLeft 85 = .ok (.getfield 108, 3) := by decide +kernel
theorem dX10_countLeft_88 : decode cX10_countLeft 88 = .ok (.iload_n 2, 1) := by decide +kernel
theorem dX10_countLeft_89 : decode cX10_countLeft 89 = .ok (.invokevirtual 300, 3) := by decide +kernel
theorem dX10_countLeft_92 : decode cX10_countLeft 92 = .ok (.aload_n 0, 1) := by decide +kernel
theorem dX10_countLeft_93 : decode cX10_countLeft 93 = .ok (.getfield 62, 3) := by decide +kernel
theorem dX10_countLeft_96 : decode cX10_countLeft 96 = .ok (.aload_n 0, 1) := by decide +kernel
theorem dX10_countLeft_97 : decode cX10_countLeft 97 = .ok (.getfield 23, 3) := by decide +kernel
theorem dX10_countLeft_100 : decode cX10_countLeft 100 = .ok (.getfield 142, 3) := by decide +kernel
theorem dX10_countLeft_103 : decode cX10_countLeft 103 = .ok (.aload_n 0, 1) := by decide +kernel
theorem dX10_countLeft_104 : decode cX10_countLeft 104 = .ok (.getfield 108, 3) := by decide +kernel
theorem dX10_countLeft_107 : decode cX10_countLeft 107 = .ok (.invokevirtual 359, 3) := by decide +kernel
theorem dX10_countLeft_110 : decode cX10_countLeft 110 = .ok (.iload_n 1, 1) := by decide +kernel
theorem dX10_countLeft_111 : decode cX10_countLeft 111 = .ok (.if_icmp .ne 6, 3) := by decide +kernel
theorem dX10_countLeft_114 : decode cX10_countLeft 114 = .ok (.iinc 3 1, 3) := by decide +kernel
theorem dX10_countLeft_117 : decode cX10_countLeft 117 = .ok (.aload_n 0, 1) := by decide +kernel
theorem dX10_countLeft_118 : decode cX10_countLeft 118 = .ok (.getfield 69, 3) := by decide +kernel
theorem dX10_countLeft_121 : decode cX10_countLeft 121 = .ok (.aload_n 0, 1) := by decide +kernel
theorem dX10_countLeft_122 : decode cX10_countLeft 122 = .ok (.getfield 108, 3) := by decide +kernel
theorem dX10_countLeft_125 : decode cX10_countLeft 125 = .ok (.invokevirtual 339, 3) := by decide +kernel
theorem dX10_countLeft_128 : decode cX10_countLeft 128 = .ok (.iinc 5 1, 3) := by decide +kernel
theorem dX10_countLeft_131 : decode cX10_countLeft 131 = .ok (.goto (-65), 3) := by decide +kernel
theorem dX10_countLeft_134 : decode cX10_countLeft 134 = .ok (.iload_n 3, 1) := by decide +kernel
theorem dX10_countLeft_135 : decode cX10_countLeft 135 = .ok (.ireturn, 1) := by decide +kernel
theorem dX10_bestWay_0 : decode cX10_bestWay 0 = .ok (.aload_n 0, 1) := by decide +kernel
theorem dX10_bestWay_1 : decode cX10_bestWay 1 = .ok (.getfield 83, 3) := by decide +kernel
theorem dX10_bestWay_4 : decode cX10_bestWay 4 = .ok (.invokevirtual 362, 3) := by decide +kernel
theorem dX10_bestWay_7 : decode cX10_bestWay 7 = .ok (.aload_n 0, 1) := by decide +kernel
theorem dX10_bestWay_8 : decode cX10_bestWay 8 = .ok (.getfield 83, 3) := by decide +kernel
theorem dX10_bestWay_11 : decode cX10_bestWay 11 = .ok (.aload_n 0, 1) := by decide +kernel
theorem dX10_bestWay_12 : decode cX10_bestWay 12 = .ok (.getfield 108, 3) := by decide +kernel
theorem dX10_bestWay_15 : decode cX10_bestWay 15 = .ok (.invokevirtual 363, 3) := by decide +kernel
theorem dX10_bestWay_18 : decode cX10_bestWay 18 = .ok (.istore_n 1, 1) := by decide +kernel
theorem dX10_bestWay_19 : decode cX10_bestWay 19 = .ok (.aload_n 0, 1) := by decide +kernel
theorem dX10_bestWay_20 : decode cX10_bestWay 20 = .ok (.iload_n 1, 1) := by decide +kernel
theorem dX10_bestWay_21 : decode cX10_bestWay 21 = .ok (.invokevirtual 264, 3) := by decide +kernel
theorem dX10_bestWay_24 : decode cX10_bestWay 24 = .ok (.istore_n 2, 1) := by decide +kernel
theorem dX10_bestWay_25 : decode cX10_bestWay 25 = .ok (.iconst 0, 1) := by decide +kernel
theorem dX10_bestWay_26 : decode cX10_bestWay 26 = .ok (.istore_n 3, 1) := by decide +kernel
theorem dX10_bestWay_27 : decode cX10_bestWay 27 = .ok (.iload_n 3, 1) := by decide +kernel
theorem dX10_bestWay_28 : decode cX10_bestWay 28 = .ok (.bipush 60, 2) := by decide +kernel
theorem dX10_bestWay_30 : decode cX10_bestWay 30 = .ok (.if_icmp .ge 56, 3) := by decide +kernel
theorem dX10_bestWay_33 : decode cX10_bestWay 33 = .ok (.aload_n 0, 1) := by decide +kernel
theorem dX10_bestWay_34 : decode cX10_bestWay 34 = .ok (.getfield 83, 3) := by decide +kernel
theorem dX10_bestWay_37 : decode cX10_bestWay 37 = .ok (.aload_n 0, 1) := by decide +kernel
theorem dX10_bestWay_38 : decode cX10_bestWay 38 = .ok (.getfield 108, 3) := by decide +kernel
theorem dX10_bestWay_41 : decode cX10_bestWay 41 = .ok (.invokevirtual 366, 3) := by decide +kernel
theorem dX10_bestWay_44 : decode cX10_bestWay 44 = .ok (.ifCond .eq 42, 3) := by decide +kernel
theorem dX10_bestWay_47 : decode cX10_bestWay 47 = .ok (.aload_n 0, 1) := by decide +kernel
theorem dX10_bestWay_48 : decode cX10_bestWay 48 = .ok (.getfield 83, 3) := by decide +kernel
theorem dX10_bestWay_51 : decode cX10_bestWay 51 = .ok (.aload_n 0, 1) := by decide +kernel
theorem dX10_bestWay_52 : decode cX10_bestWay 52 = .ok (.getfield 108, 3) := by decide +kernel
theorem dX10_bestWay_55 : decode cX10_bestWay 55 = .ok (.invokevirtual 363, 3) := by decide +kernel
theorem dX10_bestWay_58 : decode cX10_bestWay 58 = .ok (.istore 4, 2) := by decide +kernel
theorem dX10_bestWay_60 : decode cX10_bestWay 60 = .ok (.aload_n 0, 1) := by decide +kernel
theorem dX10_bestWay_61 : decode cX10_bestWay 61 = .ok (.iload 4, 2) := by decide +kernel
theorem dX10_bestWay_63 : decode cX10_bestWay 63 = .ok (.invokevirtual 264, 3) := by decide +kernel
theorem dX10_bestWay_66 : decode cX10_bestWay 66 = .ok (.istore 5, 2) := by decide +kernel
theorem dX10_bestWay_68 : decode cX10_bestWay 68 = .ok (.iload 5, 2) := by decide +kernel
theorem dX10_bestWay_70 : decode cX10_bestWay 70 = .ok (.iload_n 2, 1) := by decide +kernel
theorem dX10_bestWay_71 : decode cX10_bestWay 71 = .ok (.if_icmp .ge 9, 3) := by decide +kernel
theorem dX10_bestWay_74 : decode cX10_bestWay 74 = .ok (.iload 5, 2) := by decide +kernel
theorem dX10_bestWay_76 : decode cX10_bestWay 76 = .ok (.istore_n 2, 1) := by decide +kernel
theorem dX10_bestWay_77 : decode cX10_bestWay 77 = .ok (.iload 4, 2) := by decide +kernel
theorem dX10_bestWay_79 : decode cX10_bestWay 79 = .ok (.istore_n 1, 1) := by decide +kernel
theorem dX10_bestWay_80 : decode cX10_bestWay 80 = .ok (.iinc 3 1, 3) := by decide +kernel
theorem dX10_bestWay_83 : decode cX10_bestWay 83 = .ok (.goto (-56), 3) := by decide +kernel
theorem dX10_bestWay_86 : decode cX10_bestWay 86 = .ok (.iload_n 1, 1) := by decide +kernel
theorem dX10_bestWay_87 : decode cX10_bestWay 87 = .ok (.ireturn, 1) := by decide +kernel
theorem dX10_leftByWay_0 : decode cX10_leftByWay 0 = .ok (.aload_n 0, 1) := by decide +kernel
theorem dX10_leftByWay_1 : decode cX10_leftByWay 1 = .ok (.getfield 62, 3) := by decide +kernel
theorem dX10_leftByWay_4 : decode cX10_leftByWay 4 = .ok (.aload_n 0, 1) := by decide +kernel
theorem dX10_leftByWay_5 : decode cX10_leftByWay 5 = .ok (.getfield 23, 3) := by decide +kernel
theorem dX10_leftByWay_8 : decode cX10_leftByWay 8 = .ok (.getfield 181, 3) := by decide +kernel
theorem dX10_leftByWay_11 : decode cX10_leftByWay 11 = .ok (.aload_n 0, 1) := by decide +kernel
theorem dX10_leftByWay_12 : decode cX10_leftByWay 12 = .ok (.getfield 23, 3) := by decide +kernel
theorem dX10_leftByWay_15 : decode cX10_leftByWay 15 = .ok (.getfield 154, 3) := by decide +kernel
theorem dX10_leftByWay_18 : decode cX10_leftByWay 18 = .ok (.iload_n 1, 1) := by decide +kernel
theorem dX10_leftByWay_19 : decode cX10_leftByWay 19 = .ok (.iconst 0, 1) := by decide +kernel
theorem dX10_leftByWay_20 : decode cX10_leftByWay 20 = .ok (.invokevirtual 296, 3) := by decide +kernel
theorem dX10_leftByWay_23 : decode cX10_leftByWay 23 = .ok (.aload_n 0, 1) := by decide +kernel
theorem dX10_leftByWay_24 : decode cX10_leftByWay 24 = .ok (.getfield 23, 3) := by decide +kernel
theorem dX10_leftByWay_27 : decode cX10_leftByWay 27 = .ok (.getfield 181, 3) := by decide +kernel
theorem dX10_leftByWay_30 : decode cX10_leftByWay 30 = .ok (.aload_n 0, 1) := by decide +kernel
theorem dX10_leftByWay_31 : decode cX10_leftByWay 31 = .ok (.getfield 23, 3) := by decide +kernel
theorem dX10_leftByWay_34 : decode cX10_leftByWay 34 = .ok (.getfield 145, 3) := by decide +kernel
theorem dX10_leftByWay_37 : decode cX10_leftByWay 37 = .ok (.invokestatic 189, 3) := by decide +kernel
theorem dX10_leftByWay_40 : decode cX10_leftByWay 40 = .ok (.iconst 1, 1) := by decide +kernel
theorem dX10_leftByWay_41 : decode cX10_leftByWay 41 = .ok (.aload_n 0, 1) := by decide +kernel
theorem dX10_leftByWay_42 : decode cX10_leftByWay 42 = .ok (.getfield 108, 3) := by decide +kernel
theorem dX10_leftByWay_45 : decode cX10_leftByWay 45 = .ok (.ishl, 1) := by decide +kernel
theorem dX10_leftByWay_46 : decode cX10_leftByWay 46 = .ok (.iconst 1, 1) := by decide +kernel
theorem dX10_leftByWay_47 : decode cX10_leftByWay 47 = .ok (.isub, 1) := by decide +kernel
theorem dX10_leftByWay_48 : decode cX10_leftByWay 48 = .ok (.iand, 1) := by decide +kernel
theorem dX10_leftByWay_49 : decode cX10_leftByWay 49 = .ok (.istore_n 2, 1) := by decide +kernel
theorem dX10_leftByWay_50 : decode cX10_leftByWay 50 = .ok (.iconst 1, 1) := by decide +kernel
theorem dX10_leftByWay_51 : decode cX10_leftByWay 51 = .ok (.istore_n 3, 1) := by decide +kernel
theorem dX10_leftByWay_52 : decode cX10_leftByWay 52 = .ok (.iconst 0, 1) := by decide +kernel
theorem dX10_leftByWay_53 : decode cX10_leftByWay 53 = .ok (.istore 4, 2) := by decide +kernel
theorem dX10_leftByWay_55 : decode cX10_leftByWay 55 = .ok (.iconst 0, 1) := by decide +kernel
theorem dX10_leftByWay_56 : decode cX10_leftByWay 56 = .ok (.istore 5, 2) := by decide +kernel
theorem dX10_leftByWay_58 : decode cX10_leftByWay 58 = .ok (.iconst 0, 1) := by decide +kernel
theorem dX10_leftByWay_59 : decode cX10_leftByWay 59 = .ok (.istore 6, 2) := by decide +kernel
theorem dX10_leftByWay_61 : decode cX10_leftByWay 61 = .ok (.iload 6, 2) := by decide +kernel
theorem dX10_leftByWay_63 : decode cX10_leftByWay 63 = .ok (.aload_n 0, 1) := by decide +kernel
theorem dX10_leftByWay_64 : decode cX10_leftByWay 64 = .ok (.getfield 108, 3) := by decide +kernel
theorem dX10_leftByWay_67 : decode cX10_leftByWay 67 = .ok (.if_icmp .ge 129, 3) := by decide +kernel
theorem dX10_leftByWay_70 : decode cX10_leftByWay 70 = .ok (.iload_n 2, 1) := by decide +kernel
theorem dX10_leftByWay_71 : decode cX10_leftByWay 71 = .ok (.iload 6, 2) := by decide +kernel
theorem dX10_leftByWay_73 : decode cX10_leftByWay 73 = .ok (.ishr, 1) := by decide +kernel
theorem dX10_leftByWay_74 : decode cX10_leftByWay 74 = .ok (.iconst 1, 1) := by decide +kernel
theorem dX10_leftByWay_75 : decode cX10_leftByWay 75 = .ok (.iand, 1) := by decide +kernel
theorem dX10_leftByWay_76 : decode cX10_leftByWay 76 = .ok (.ifCond .eq 7, 3) := by decide +kernel
theorem dX10_leftByWay_79 : decode cX10_leftByWay 79 = .ok (.iconst 1, 1) := by decide +kernel
theorem dX10_leftByWay_80 : decode cX10_leftByWay 80 = .ok (.goto 4, 3) := by decide +kernel
theorem dX10_leftByWay_83 : decode cX10_leftByWay 83 = .ok (.iconst 0, 1) := by decide +kernel
theorem dX10_leftByWay_84 : decode cX10_leftByWay 84 = .ok (.istore 7, 2) := by decide +kernel
theorem dX10_leftByWay_86 : decode cX10_leftByWay 86 = .ok (.iload 7, 2) := by decide +kernel
theorem dX10_leftByWay_88 : decode cX10_leftByWay 88 = .ok (.ifCond .eq 17, 3) := by decide +kernel
theorem dX10_leftByWay_91 : decode cX10_leftByWay 91 = .ok (.aload_n 0, 1) := by decide +kernel
theorem dX10_leftByWay_92 : decode cX10_leftByWay 92 = .ok (.getfield 62, 3) := by decide +kernel
theorem dX10_leftByWay_95 : decode cX10_leftByWay 95 = .ok (.iload 6, 2) := by decide +kernel
theorem dX10_leftByWay_97 : decode cX10_leftByWay 97 = .ok (.invokevirtual 368, 3) := by decide +kernel
theorem dX10_leftByWay_100 : decode cX10_leftByWay 100 = .ok (.iload_n 2, 1) := by decide +kernel
theorem dX10_leftByWay_101 : decode cX10_leftByWay 101 = .ok (.iand, 1) := by decide +kernel
theorem dX10_leftByWay_102 : decode cX10_leftByWay 102 = .ok (.goto 7, 3) := by decide +kernel
theorem dX10_leftByWay_105 : decode cX10_leftByWay 105 = .ok (.iconst 1, 1) := by decide +kernel
theorem dX10_leftByWay_106 : decode cX10_leftByWay 106 = .ok (.iload 6, 2) := by decide +kernel
theorem dX10_leftByWay_108 : decode cX10_leftByWay 108 = .ok (.ishl, 1) := by decide +kernel
theorem dX10_leftByWay_109 : decode cX10_leftByWay 109 = .ok (.istore 8, 2) := by decide +kernel
theorem dX10_leftByWay_111 : decode cX10_leftByWay 111 = .ok (.iload 7, 2) := by decide +kernel
theorem dX10_leftByWay_113 : decode cX10_leftByWay 113 = .ok (.ifCond .eq 21, 3) := by decide +kernel
theorem dX10_leftByWay_116 : decode cX10_leftByWay 116 = .ok (.aload_n 0, 1) := by decide +kernel
theorem dX10_leftByWay_117 : decode cX10_leftByWay 117 = .ok (.getfield 62, 3) := by decide +kernel
theorem dX10_leftByWay_120 : decode cX10_leftByWay 120 = .ok (.iload 6, 2) := by decide +kernel
theorem dX10_leftByWay_122 : decode cX10_leftByWay 122 = .ok (.invokevirtual 371, 3) := by decide +kernel
theorem dX10_leftByWay_125 : decode cX10_leftByWay 125 = .ok (.ifCond .eq 9, 3) := by decide +kernel
theorem dX10_leftByWay_128 : decode cX10_leftByWay 128 = .ok (.iinc 4 1, 3) := by decide +kernel
theorem dX10_leftByWay_131 : decode cX10_leftByWay 131 = .ok (.goto 59, 3) := by decide +kernel
theorem dX10_leftByWay_134 : decode cX10_leftByWay 134 = .ok (.iload 8, 2) := by decide +kernel
theorem dX10_leftByWay_136 : decode cX10_leftByWay 136 = .ok (.iconst 1, 1) := by decide +kernel
theorem dX10_leftByWay_137 : decode cX10_leftByWay 137 = .ok (.iload 6, 2) := by decide +kernel
theorem dX10_leftByWay_139 : decode cX10_leftByWay 139 = .ok (.ishl, 1) := by decide +kernel
theorem dX10_leftByWay_140 : decode cX10_leftByWay 140 = .ok (.iconst 1, 1) := by decide +kernel
theorem dX10_leftByWay_141 : decode cX10_leftByWay 141 = .ok (.isub, 1) := by decide +kernel
theorem dX10_leftByWay_142 : decode cX10_leftByWay 142 = .ok (.iand, 1) := by decide +kernel
theorem dX10_leftByWay_143 : decode cX10_leftByWay 143 = .ok (.ifCond .ne 47, 3) := by decide +kernel
theorem dX10_leftByWay_146 : decode cX10_leftByWay 146 = .ok (.iload 8, 2) := by decide +kernel
theorem dX10_leftByWay_148 : decode cX10_leftByWay 148 = .ok (.invokestatic 155, 3) := by decide +kernel
theorem dX10_leftByWay_151 : decode cX10_leftByWay 151 = .ok (.istore 9, 2) := by decide +kernel
theorem dX10_leftByWay_153 : decode cX10_leftByWay 153 = .ok (.iload 5, 2) := by decide +kernel
theorem dX10_leftByWay_155 : decode cX10_leftByWay 155 = .ok (.iload 9, 2) := by decide +kernel
theorem dX10_leftByWay_157 : decode cX10_leftByWay 157 = .ok (.iconst 1, 1) := by decide +kernel
theorem dX10_leftByWay_158 : decode cX10_leftByWay 158 = .ok (.isub, 1) := by decide +kernel
theorem dX10_leftByWay_159 : decode cX10_leftByWay 159 = .ok (.invokestatic 182, 3) := by decide +kernel
theorem dX10_leftByWay_162 : decode cX10_leftByWay 162 = .ok (.iconst 1, 1) := by decide +kernel
theorem dX10_leftByWay_163 : decode cX10_leftByWay 163 = .ok (.iadd, 1) := by decide +kernel
theorem dX10_leftByWay_164 : decode cX10_leftByWay 164 = .ok (.istore 10, 2) := by decide +kernel
theorem dX10_leftByWay_166 : decode cX10_leftByWay 166 = .ok (.iload 5, 2) := by decide +kernel
theorem dX10_leftByWay_168 : decode cX10_leftByWay 168 = .ok (.iload 9, 2) := by decide +kernel
theorem dX10_leftByWay_170 : decode cX10_leftByWay 170 = .ok (.iconst 1, 1) := by decide +kernel
theorem dX10_leftByWay_171 : decode cX10_leftByWay 171 = .ok (.isub, 1) := by decide +kernel
theorem dX10_leftByWay_172 : decode cX10_leftByWay 172 = .ok (.iload 10, 2) := by decide +kernel
theorem dX10_leftByWay_174 : decode cX10_leftByWay 174 = .ok (.invokestatic 248, 3) := by decide +kernel
theorem dX10_leftByWay_177 : decode cX10_leftByWay 177 = .ok (.istore 5, 2) := by decide +kernel
theorem dX10_leftByWay_179 : decode cX10_leftByWay 179 = .ok (.iload_n 3, 1) := by decide +kernel
theorem dX10_leftByWay_180 : decode cX10_leftByWay 180 = .ok (.iload 9, 2) := by decide +kernel
theorem dX10_leftByWay_182 : decode cX10_leftByWay 182 = .ok (.invokestatic 310, 3) := by decide +kernel
theorem dX10_leftByWay_185 : decode cX10_leftByWay 185 = .ok (.iload 10, 2) := by decide +kernel
theorem dX10_leftByWay_187 : decode cX10_leftByWay 187 = .ok (.imul, 1) := by decide +kernel
theorem dX10_leftByWay_188 : decode cX10_leftByWay 188 = .ok (.imul, 1) := by decide +kernel
theorem dX10_leftByWay_189 : decode cX10_leftByWay 189 = .ok (.istore_n 3, 1) := by decide +kernel
theorem dX10_leftByWay_190 : decode cX10_leftByWay 190 = .ok (.iinc 6 1, 3) := by decide +kernel
theorem dX10_leftByWay_193 : decode cX10_leftByWay 193 = .ok (.goto (-132), 3) := by decide +kernel
theorem dX10_leftByWay_196 : decode cX10_leftByWay 196 = .ok (.iload_n 3, 1) := by decide +kernel
theorem dX10_leftByWay_197 : decode cX10_leftByWay 197 = .ok (.iload 4, 2) := by decide +kernel
theorem dX10_leftByWay_199 : decode cX10_leftByWay 199 = .ok (.invokestatic 310, 3) := by decide +kernel
theorem dX10_leftByWay_202 : decode cX10_leftByWay 202 = .ok (.imul, 1) := by decide +kernel
theorem dX10_leftByWay_203 : decode cX10_leftByWay 203 = .ok (.ireturn, 1) := by decide +kernel
theorem dX11_init_0 : decode cX11_init 0 = .ok (.aload_n 0, 1) := by decide +kernel
theorem dX11_init_1 : decode cX11_init 1 = .ok (.invokespecial 1, 3) := by decide +kernel
theorem dX11_init_4 : decode cX11_init 4 = .ok (.aload_n 0, 1) := by decide +kernel
theorem dX11_init_5 : decode cX11_init 5 = .ok (.iconst 5, 1) := by decide +kernel
theorem dX11_init_6 : decode cX11_init 6 = .ok (.newarray .int, 2) := by decide +kernel
theorem dX11_init_8 : decode cX11_init 8 = .ok (.putfield 7, 3) := by decide +kernel
theorem dX11_init_11 : decode cX11_init 11 = .ok (.aload_n 0, 1) := by decide +kernel
theorem dX11_init_12 : decode cX11_init 12 = .ok (.iconst 5, 1) := by decide +kernel
theorem dX11_init_13 : decode cX11_init 13 = .ok (.newarray .int, 2) := by decide +kernel
theorem dX11_init_15 : decode cX11_init 15 = .ok (.putfield 13, 3) := by decide +kernel
theorem dX11_init_18 : decode cX11_init 18 = .ok (.aload_n 0, 1) := by decide +kernel
theorem dX11_init_19 : decode cX11_init 19 = .ok (.iconst 5, 1) := by decide +kernel
theorem dX11_init_20 : decode cX11_init 20 = .ok (.newarray .int, 2) := by decide +kernel
theorem dX11_init_22 : decode cX11_init 22 = .ok (.putfield 16, 3) := by decide +kernel
theorem dX11_init_25 : decode cX11_init 25 = .ok (.aload_n 0, 1) := by decide +kernel
theorem dX11_init_26 : decode cX11_init 26 = .ok (.iconst 5, 1) := by decide +kernel
theorem dX11_init_27 : decode cX11_init 27 = .ok (.newarray .int, 2) := by decide +kernel
theorem dX11_init_29 : decode cX11_init 29 = .ok (.putfield 19, 3) := by decide +kernel
theorem dX11_init_32 : decode cX11_init 32 = .ok (.aload_n 0, 1) := by decide +kernel
theorem dX11_init_33 : decode cX11_init 33 = .ok (.bipush 112, 2) := by decide +kernel
theorem dX11_init_35 : decode cX11_init 35 = .ok (.newarray .int, 2) := by decide +kernel
theorem dX11_init_37 : decode cX11_init 37 = .ok (.putfield 22, 3) := by decide +kernel
theorem dX11_init_40 : decode cX11_init 40 = .ok (.aload_n 0, 1) := by decide +kernel
theorem dX11_init_41 : decode cX11_init 41 = .ok (.bipush 15, 2) := by decide +kernel
theorem dX11_init_43 : decode cX11_init 43 = .ok (.newarray .int, 2) := by decide +kernel
theorem dX11_init_45 : decode cX11_init 45 = .ok (.putfield 25, 3) := by decide +kernel
theorem dX11_init_48 : decode cX11_init 48 = .ok (.aload_n 0, 1) := by decide +kernel
theorem dX11_init_49 : decode cX11_init 49 = .ok (.bipush 15, 2) := by decide +kernel
theorem dX11_init_51 : decode cX11_init 51 = .ok (.newarray .int, 2) := by decide +kernel
theorem dX11_init_53 : decode cX11_init 53 = .ok (.putfield 28, 3) := by decide +kernel
theorem dX11_init_56 : decode cX11_init 56 = .ok (.aload_n 0, 1) := by decide +kernel
theorem dX11_init_57 : decode cX11_init 57 = .ok (.sipush 240, 3) := by decide +kernel
theorem dX11_init_60 : decode cX11_init 60 = .ok (.newarray .int, 2) := by decide +kernel
theorem dX11_init_62 : decode cX11_init 62 = .ok (.putfield 31, 3) := by decide +kernel
theorem dX11_init_65 : decode cX11_init 65 = .ok (.aload_n 0, 1) := by decide +kernel
theorem dX11_init_66 : decode cX11_init 66 = .ok (.iconst (-1), 1) := by decide +kernel
theorem dX11_init_67 : decode cX11_init 67 = .ok (.putfield 34, 3) := by decide +kernel
theorem dX11_init_70 : decode cX11_init 70 = .ok (.aload_n 0, 1) := by decide +kernel
theorem dX11_init_71 : decode cX11_init 71 = .ok (.iconst 5, 1) := by decide +kernel
theorem dX11_init_72 : decode cX11_init 72 = .ok (.newarray .int, 2) := by decide +kernel
theorem dX11_init_74 : decode cX11_init 74 = .ok (.putfield 38, 3) := by decide +kernel
theorem dX11_init_77 : decode cX11_init 77 = .ok (.aload_n 0, 1) := by decide +kernel
theorem dX11_init_78 : decode cX11_init 78 = .ok (.iconst 5, 1) := by decide +kernel
theorem dX11_init_79 : decode cX11_init 79 = .ok (.newarray .int, 2) := by decide +kernel
theorem dX11_init_81 : decode cX11_init 81 = .ok (.putfield 41, 3) := by decide +kernel
theorem dX11_init_84 : decode cX11_init 84 = .ok (.aload_n 0, 1) := by decide +kernel
theorem dX11_init_85 : decode cX11_init 85 = .ok (.sipush 320, 3) := by decide +kernel
theorem dX11_init_88 : decode cX11_init 88 = .ok (.newarray .int, 2) := by decide +kernel
theorem dX11_init_90 : decode cX11_init 90 = .ok (.putfield 44, 3) := by decide +kernel
theorem dX11_init_93 : decode cX11_init 93 = .ok (.aload_n 0, 1) := by decide +kernel
theorem dX11_init_94 : decode cX11_init 94 = .ok (.bipush 40, 2) := by decide +kernel
theorem dX11_init_96 : decode cX11_init 96 = .ok (.newarray .int, 2) := by decide +kernel
theorem dX11_init_98 : decode cX11_init 98 = .ok (.putfield 47, 3) := by decide +kernel
theorem dX11_init_101 : decode cX11_init 101 = .ok (.aload_n 0, 1) := by decide +kernel
theorem dX11_init_102 : decode cX11_init 102 = .ok (.iconst 2, 1) := by decide +kernel
theorem dX11_init_103 : decode cX11_init 103 = .ok (.newarray .long, 2) := by decide +kernel
theorem dX11_init_105 : decode cX11_init 105 = .ok (.putfield 50, 3) := by decide +kernel
theorem dX11_init_108 : decode cX11_init 108 = .ok (.aload_n 0, 1) := by decide +kernel
theorem dX11_init_109 : decode cX11_init 109 = .ok (.iconst 2, 1) := by decide +kernel
theorem dX11_init_110 : decode cX11_init 110 = .ok (.newarray .int, 2) := by decide +kernel
theorem dX11_init_112 : decode cX11_init 112 = .ok (.putfield 54, 3) := by decide +kernel
theorem dX11_init_115 : decode cX11_init 115 = .ok (.aload_n 0, 1) := by decide +kernel
theorem dX11_init_116 : decode cX11_init 116 = .ok (.iconst 5, 1) := by decide +kernel
theorem dX11_init_117 : decode cX11_init 117 = .ok (.newarray .int, 2) := by decide +kernel
theorem dX11_init_119 : decode cX11_init 119 = .ok (.putfield 57, 3) := by decide +kernel
theorem dX11_init_122 : decode cX11_init 122 = .ok (.aload_n 0, 1) := by decide +kernel
theorem dX11_init_123 : decode cX11_init 123 = .ok (.bipush 112, 2) := by decide +kernel
theorem dX11_init_125 : decode cX11_init 125 = .ok (.newarray .int, 2) := by decide +kernel
theorem dX11_init_127 : decode cX11_init 127 = .ok (.putfield 60, 3) := by decide +kernel
theorem dX11_init_130 : decode cX11_init 130 = .ok (.aload_n 0, 1) := by decide +kernel
theorem dX11_init_131 : decode cX11_init 131 = .ok (.iconst 5, 1) := by decide +kernel
theorem dX11_init_132 : decode cX11_init 132 = .ok (.newarray .int, 2) := by decide +kernel
theorem dX11_init_134 : decode cX11_init 134 = .ok (.putfield 63, 3) := by decide +kernel
theorem dX11_init_137 : decode cX11_init 137 = .ok (.aload_n 0, 1) := by decide +kernel
theorem dX11_init_138 : decode cX11_init 138 = .ok (.iconst 5, 1) := by decide +kernel
theorem dX11_init_139 : decode cX11_init 139 = .ok (.newarray .int, 2) := by decide +kernel
theorem dX11_init_141 : decode cX11_init 141 = .ok (.putfield 66, 3) := by decide +kernel
theorem dX11_init_144 : decode cX11_init 144 = .ok (.aload_n 0, 1) := by decide +kernel
theorem dX11_init_145 : decode cX11_init 145 = .ok (.bipush 25, 2) := by decide +kernel
theorem dX11_init_147 : decode cX11_init 147 = .ok (.newarray .int, 2) := by decide +kernel
theorem dX11_init_149 : decode cX11_init 149 = .ok (.putfield 69, 3) := by decide +kernel
theorem dX11_init_152 : decode cX11_init 152 = .ok (.aload_n 0, 1) := by decide +kernel
theorem dX11_init_153 : decode cX11_init 153 = .ok (.iconst 5, 1) := by decide +kernel
theorem dX11_init_154 : decode cX11_init 154 = .ok (.newarray .int, 2) := by decide +kernel
theorem dX11_init_156 : decode cX11_init 156 = .ok (.putfield 72, 3) := by decide +kernel
theorem dX11_init_159 : decode cX11_init 159 = .ok (.aload_n 0, 1) := by decide +kernel
theorem dX11_init_160 : decode cX11_init 160 = .ok (.iconst 5, 1) := by decide +kernel
theorem dX11_init_161 : decode cX11_init 161 = .ok (.newarray .int, 2) := by decide +kernel
theorem dX11_init_163 : decode cX11_init 163 = .ok (.putfield 75, 3) := by decide +kernel
theorem dX11_init_166 : decode cX11_init 166 = .ok (.aload_n 0, 1) := by decide +kernel
theorem dX11_init_167 : decode cX11_init 167 = .ok (.iconst 5, 1) := by decide +kernel
theorem dX11_init_168 : decode cX11_init 168 = .ok (.newarray .int, 2) := by decide +kernel
theorem dX11_init_170 : decode cX11_init 170 = .ok (.putfield 78, 3) := by decide +kernel
theorem dX11_init_173 : decode cX11_init 173 = .ok (.return_, 1) := by decide +kernel
theorem dX11_in_0 : decode cX11_in 0 = .ok (.iload_n 0, 1) := by decide +kernel
theorem dX11_in_1 : decode cX11_in 1 = .ok (.iload_n 1, 1) := by decide +kernel
theorem dX11_in_2 : decode cX11_in 2 = .ok (.if_icmp .lt 12, 3) := by decide +kernel
theorem dX11_in_5 : decode cX11_in 5 = .ok (.iload_n 0, 1) := by decide +kernel
theorem dX11_in_6 : decode cX11_in 6 = .ok (.iload_n 2, 1) := by decide +kernel
theorem dX11_in_7 : decode cX11_in 7 = .ok (.if_icmp .gt 7, 3) := by decide +kernel
theorem dX11_in_10 : decode cX11_in 10 = .ok (.iconst 1, 1) := by decide +kernel
theorem dX11_in_11 : decode cX11_in 11 = .ok (.goto 4, 3) := by decide +kernel
theorem dX11_in_14 : decode cX11_in 14 = .ok (.iconst 0, 1) := by decide +kernel
theorem dX11_in_15 : decode cX11_in 15 = .ok (.ireturn, 1) := by decide +kernel
theorem dX11_has_0 : decode cX11_has 0 = .ok (.iload_n 0, 1) := by decide +kernel
theorem dX11_has_1 : decode cX11_has 1 = .ok (.iload_n 1, 1) := by decide +kernel
theorem dX11_has_2 : decode cX11_has 2 = .ok (.ishr, 1) := by decide +kernel
theorem dX11_has_3 : decode cX11_has 3 = .ok (.iconst 1, 1) := by decide +kernel
theorem dX11_has_4 : decode cX11_has 4 = .ok (.iand, 1) := by decide +kernel
theorem dX11_has_5 : decode cX11_has 5 = .ok (.iconst 1, 1) := by decide +kernel
theorem dX11_has_6 : decode cX11_has 6 = .ok (.if_icmp .ne 7, 3) := by decide +kernel
theorem dX11_has_9 : decode cX11_has 9 = .ok (.iconst 1, 1) := by decide +kernel
theorem dX11_has_10 : decode cX11_has 10 = .ok (.goto 4, 3) := by decide +kernel
theorem dX11_has_13 : decode cX11_has 13 = .ok (.iconst 0, 1) := by decide +kernel
theorem dX11_has_14 : decode cX11_has 14 = .ok (.ireturn, 1) := by decide +kernel
theorem dX11_bits_0 : decode cX11_bits 0 = .ok (.iconst 0, 1) := by decide +kernel
theorem dX11_bits_1 : decode cX11_bits 1 = .ok (.istore_n 1, 1) := by decide +kernel
theorem dX11_bits_2 : decode cX11_bits 2 = .ok (.iconst 0, 1) := by decide +kernel
theorem dX11_bits_3 : decode cX11_bits 3 = .ok (.istore_n 2, 1) := by decide +kernel
theorem dX11_bits_4 : decode cX11_bits 4 = .ok (.iload_n 2, 1) := by decide +kernel
theorem dX11_bits_5 : decode cX11_bits 5 = .ok (.bipush 11, 2) := by decide +kernel
theorem dX11_bits_7 : decode cX11_bits 7 = .ok (.if_icmp .ge 17, 3) := by decide +kernel
theorem dX11_bits_10 : decode cX11_bits 10 = .ok (.iload_n 1, 1) := by decide +kernel
theorem dX11_bits_11 : decode cX11_bits 11 = .ok (.iload_n 0, 1) := by decide +kernel
theorem dX11_bits_12 : decode cX11_bits 12 = .ok (.iload_n 2, 1) := by decide +kernel
theorem dX11_bits_13 : decode cX11_bits 13 = .ok (.ishr, 1) := by decide +kernel
theorem dX11_bits_14 : decode cX11_bits 14 = .ok (.iconst 1, 1) := by decide +kernel
theorem dX11_bits_15 : decode cX11_bits 15 = .ok (.iand, 1) := by decide +kernel
theorem dX11_bits_16 : decode cX11_bits 16 = .ok (.iadd, 1) := by decide +kernel
theorem dX11_bits_17 : decode cX11_bits 17 = .ok (.istore_n 1, 1) := by decide +kernel
theorem dX11_bits_18 : decode cX11_bits 18 = .ok (.iinc 2 1, 3) := by decide +kernel
theorem dX11_bits_21 : decode cX11_bits 21 = .ok (.goto (-17), 3) := by decide +kernel
theorem dX11_bits_24 : decode cX11_bits 24 = .ok (.iload_n 1, 1) := by decide +kernel
theorem dX11_bits_25 : decode cX11_bits 25 = .ok (.ireturn, 1) := by decide +kernel
theorem dX11_isWire_0 : decode cX11_isWire 0 = .ok (.iload_n 1, 1) := by decide +kernel
theorem dX11_isWire_1 : decode cX11_isWire 1 = .ok (.iconst 0, 1) := by decide +kernel
theorem dX11_isWire_2 : decode cX11_isWire 2 = .ok (.aload_n 0, 1) := by decide +kernel
theorem dX11_isWire_3 : decode cX11_isWire 3 = .ok (.getfield 81, 3) := by decide +kernel
theorem dX11_isWire_6 : decode cX11_isWire 6 = .ok (.iconst 1, 1) := by decide +kernel
theorem dX11_isWire_7 : decode cX11_isWire 7 = .ok (.isub, 1) := by decide +kernel
theorem dX11_isWire_8 : decode cX11_isWire 8 = .ok (.invokestatic 84, 3) := by decide +kernel
theorem dX11_isWire_11 : decode cX11_isWire 11 = .ok (.ireturn, 1) := by decide +kernel
theorem dX11_areEnds_0 : decode cX11_areEnds 0 = .ok (.aload_n 0, 1) := by decide +kernel
theorem dX11_areEnds_1 : decode cX11_areEnds 1 = .ok (.iload_n 1, 1) := by decide +kernel
theorem dX11_areEnds_2 : decode cX11_areEnds 2 = .ok (.invokevirtual 88, 3) := by decide +kernel
theorem dX11_areEnds_5 : decode cX11_areEnds 5 = .ok (.ifCond .eq 25, 3) := by decide +kernel
theorem dX11_areEnds_8 : decode cX11_areEnds 8 = .ok (.iload_n 2, 1) := by decide +kernel
theorem dX11_areEnds_9 : decode cX11_areEnds 9 = .ok (.iconst (-1), 1) := by decide +kernel
theorem dX11_areEnds_10 : decode cX11_areEnds 10 = .ok (.if_icmp .eq 16, 3) := by decide +kernel
theorem dX11_areEnds_13 : decode cX11_areEnds 13 = .ok (.aload_n 0, 1) := by decide +kernel
theorem dX11_areEnds_14 : decode cX11_areEnds 14 = .ok (.iload_n 2, 1) := by decide +kernel
theorem dX11_areEnds_15 : decode cX11_areEnds 15 = .ok (.invokevirtual 88, 3) := by decide +kernel
theorem dX11_areEnds_18 : decode cX11_areEnds 18 = .ok (.ifCond .eq 12, 3) := by decide +kernel
