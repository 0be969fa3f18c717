theorem dX11_areEnds_21 : decode cX11_areEnds 21 = .ok (.iload_n 1, 1) := by decide +kernel
theorem dX11_areEnds_22 : decode cX11_areEnds 22 = .ok (.iload_n 2, 1) := by decide +kernel
theorem dX11_areEnds_23 : decode cX11_areEnds 23 = .ok (.if_icmp .eq 7, 3) := by decide +kernel
theorem dX11_areEnds_26 : decode cX11_areEnds 26 = .ok (.iconst 1, 1) := by decide +kernel
theorem dX11_areEnds_27 : decode cX11_areEnds 27 = .ok (.goto 4, 3) := by decide +kernel
theorem dX11_areEnds_30 : decode cX11_areEnds 30 = .ok (.iconst 0, 1) := by decide +kernel
theorem dX11_areEnds_31 : decode cX11_areEnds 31 = .ok (.ireturn, 1) := by decide +kernel
theorem dX11_pair_0 : decode cX11_pair 0 = .ok (.iload_n 0, 1) := by decide +kernel
theorem dX11_pair_1 : decode cX11_pair 1 = .ok (.iload_n 1, 1) := by decide +kernel
theorem dX11_pair_2 : decode cX11_pair 2 = .ok (.if_icmp .ge 7, 3) := by decide +kernel
theorem dX11_pair_5 : decode cX11_pair 5 = .ok (.iload_n 0, 1) := by decide +kernel
theorem dX11_pair_6 : decode cX11_pair 6 = .ok (.goto 4, 3) := by decide +kernel
theorem dX11_pair_9 : decode cX11_pair 9 = .ok (.iload_n 1, 1) := by decide +kernel
theorem dX11_pair_10 : decode cX11_pair 10 = .ok (.istore_n 2, 1) := by decide +kernel
theorem dX11_pair_11 : decode cX11_pair 11 = .ok (.iload_n 0, 1) := by decide +kernel
theorem dX11_pair_12 : decode cX11_pair 12 = .ok (.iload_n 1, 1) := by decide +kernel
theorem dX11_pair_13 : decode cX11_pair 13 = .ok (.if_icmp .ge 7, 3) := by decide +kernel
theorem dX11_pair_16 : decode cX11_pair 16 = .ok (.iload_n 1, 1) := by decide +kernel
theorem dX11_pair_17 : decode cX11_pair 17 = .ok (.goto 4, 3) := by decide +kernel
theorem dX11_pair_20 : decode cX11_pair 20 = .ok (.iload_n 0, 1) := by decide +kernel
theorem dX11_pair_21 : decode cX11_pair 21 = .ok (.istore_n 3, 1) := by decide +kernel
theorem dX11_pair_22 : decode cX11_pair 22 = .ok (.iconst 5, 1) := by decide +kernel
theorem dX11_pair_23 : decode cX11_pair 23 = .ok (.iload_n 2, 1) := by decide +kernel
theorem dX11_pair_24 : decode cX11_pair 24 = .ok (.imul, 1) := by decide +kernel
theorem dX11_pair_25 : decode cX11_pair 25 = .ok (.iload_n 3, 1) := by decide +kernel
theorem dX11_pair_26 : decode cX11_pair 26 = .ok (.iadd, 1) := by decide +kernel
theorem dX11_pair_27 : decode cX11_pair 27 = .ok (.ireturn, 1) := by decide +kernel
theorem dX11_doTouch_0 : decode cX11_doTouch 0 = .ok (.aload_n 0, 1) := by decide +kernel
theorem dX11_doTouch_1 : decode cX11_doTouch 1 = .ok (.getfield 92, 3) := by decide +kernel
theorem dX11_doTouch_4 : decode cX11_doTouch 4 = .ok (.iload_n 1, 1) := by decide +kernel
theorem dX11_doTouch_5 : decode cX11_doTouch 5 = .ok (.iload_n 2, 1) := by decide +kernel
theorem dX11_doTouch_6 : decode cX11_doTouch 6 = .ok (.invokestatic 95, 3) := by decide +kernel
theorem dX11_doTouch_9 : decode cX11_doTouch 9 = .ok (.invokestatic 99, 3) := by decide +kernel
theorem dX11_doTouch_12 : decode cX11_doTouch 12 = .ok (.ireturn, 1) := by decide +kernel
theorem dX11_touchMany_0 : decode cX11_touchMany 0 = .ok (.iconst 0, 1) := by decide +kernel
theorem dX11_touchMany_1 : decode cX11_touchMany 1 = .ok (.istore_n 1, 1) := by decide +kernel
theorem dX11_touchMany_2 : decode cX11_touchMany 2 = .ok (.iconst 0, 1) := by decide +kernel
theorem dX11_touchMany_3 : decode cX11_touchMany 3 = .ok (.istore_n 2, 1) := by decide +kernel
theorem dX11_touchMany_4 : decode cX11_touchMany 4 = .ok (.iload_n 2, 1) := by decide +kernel
theorem dX11_touchMany_5 : decode cX11_touchMany 5 = .ok (.aload_n 0, 1) := by decide +kernel
theorem dX11_touchMany_6 : decode cX11_touchMany 6 = .ok (.getfield 81, 3) := by decide +kernel
theorem dX11_touchMany_9 : decode cX11_touchMany 9 = .ok (.if_icmp .ge 44, 3) := by decide +kernel
theorem dX11_touchMany_12 : decode cX11_touchMany 12 = .ok (.iload_n 2, 1) := by decide +kernel
theorem dX11_touchMany_13 : decode cX11_touchMany 13 = .ok (.iconst 1, 1) := by decide +kernel
theorem dX11_touchMany_14 : decode cX11_touchMany 14 = .ok (.iadd, 1) := by decide +kernel
theorem dX11_touchMany_15 : decode cX11_touchMany 15 = .ok (.istore_n 3, 1) := by decide +kernel
theorem dX11_touchMany_16 : decode cX11_touchMany 16 = .ok (.iload_n 3, 1) := by decide +kernel
theorem dX11_touchMany_17 : decode cX11_touchMany 17 = .ok (.aload_n 0, 1) := by decide +kernel
theorem dX11_touchMany_18 : decode cX11_touchMany 18 = .ok (.getfield 81, 3) := by decide +kernel
theorem dX11_touchMany_21 : decode cX11_touchMany 21 = .ok (.if_icmp .ge 26, 3) := by decide +kernel
theorem dX11_touchMany_24 : decode cX11_touchMany 24 = .ok (.iload_n 1, 1) := by decide +kernel
theorem dX11_touchMany_25 : decode cX11_touchMany 25 = .ok (.aload_n 0, 1) := by decide +kernel
theorem dX11_touchMany_26 : decode cX11_touchMany 26 = .ok (.iload_n 2, 1) := by decide +kernel
theorem dX11_touchMany_27 : decode cX11_touchMany 27 = .ok (.iload_n 3, 1) := by decide +kernel
theorem dX11_touchMany_28 : decode cX11_touchMany 28 = .ok (.invokevirtual 103, 3) := by decide +kernel
theorem dX11_touchMany_31 : decode cX11_touchMany 31 = .ok (.ifCond .eq 7, 3) := by decide +kernel
theorem dX11_touchMany_34 : decode cX11_touchMany 34 = .ok (.iconst 1, 1) := by decide +kernel
theorem dX11_touchMany_35 : decode cX11_touchMany 35 = .ok (.goto 4, 3) := by decide +kernel
theorem dX11_touchMany_38 : decode cX11_touchMany 38 = .ok (.iconst 0, 1) := by decide +kernel
theorem dX11_touchMany_39 : decode cX11_touchMany 39 = .ok (.iadd, 1) := by decide +kernel
theorem dX11_touchMany_40 : decode cX11_touchMany 40 = .ok (.istore_n 1, 1) := by decide +kernel
theorem dX11_touchMany_41 : decode cX11_touchMany 41 = .ok (.iinc 3 1, 3) := by decide +kernel
theorem dX11_touchMany_44 : decode cX11_touchMany 44 = .ok (.goto (-28), 3) := by decide +kernel
theorem dX11_touchMany_47 : decode cX11_touchMany 47 = .ok (.iinc 2 1, 3) := by decide +kernel
theorem dX11_touchMany_50 : decode cX11_touchMany 50 = .ok (.goto (-46), 3) := by decide +kernel
theorem dX11_touchMany_53 : decode cX11_touchMany 53 = .ok (.iload_n 1, 1) := by decide +kernel
theorem dX11_touchMany_54 : decode cX11_touchMany 54 = .ok (.ireturn, 1) := by decide +kernel
theorem dX11_feed_0 : decode cX11_feed 0 = .ok (.iload_n 1, 1) := by decide +kernel
theorem dX11_feed_1 : decode cX11_feed 1 = .ok (.iconst 0, 1) := by decide +kernel
theorem dX11_feed_2 : decode cX11_feed 2 = .ok (.sipush 255, 3) := by decide +kernel
theorem dX11_feed_5 : decode cX11_feed 5 = .ok (.invokestatic 84, 3) := by decide +kernel
theorem dX11_feed_8 : decode cX11_feed 8 = .ok (.ifCond .ne 6, 3) := by decide +kernel
theorem dX11_feed_11 : decode cX11_feed 11 = .ok (.ldc 106, 2) := by decide +kernel
theorem dX11_feed_13 : decode cX11_feed 13 = .ok (.ireturn, 1) := by decide +kernel
theorem dX11_feed_14 : decode cX11_feed 14 = .ok (.aload_n 0, 1) := by decide +kernel
theorem dX11_feed_15 : decode cX11_feed 15 = .ok (.getfield 107, 3) := by decide +kernel
theorem dX11_feed_18 : decode cX11_feed 18 = .ok (.sipush 240, 3) := by decide +kernel
theorem dX11_feed_21 : decode cX11_feed 21 = .ok (.if_icmp .ne 6, 3) := by decide +kernel
theorem dX11_feed_24 : decode cX11_feed 24 = .ok (.ldc 110, 2) := by decide +kernel
theorem dX11_feed_26 : decode cX11_feed 26 = .ok (.ireturn, 1) := by decide +kernel
theorem dX11_feed_27 : decode cX11_feed 27 = .ok (.aload_n 0, 1) := by decide +kernel
theorem dX11_feed_28 : decode cX11_feed 28 = .ok (.getfield 31, 3) := by decide +kernel
theorem dX11_feed_31 : decode cX11_feed 31 = .ok (.aload_n 0, 1) := by decide +kernel
theorem dX11_feed_32 : decode cX11_feed 32 = .ok (.getfield 107, 3) := by decide +kernel
theorem dX11_feed_35 : decode cX11_feed 35 = .ok (.iload_n 1, 1) := by decide +kernel
theorem dX11_feed_36 : decode cX11_feed 36 = .ok (.iastore, 1) := by decide +kernel
theorem dX11_feed_37 : decode cX11_feed 37 = .ok (.aload_n 0, 1) := by decide +kernel
theorem dX11_feed_38 : decode cX11_feed 38 = .ok (.dup, 1) := by decide +kernel
theorem dX11_feed_39 : decode cX11_feed 39 = .ok (.getfield 107, 3) := by decide +kernel
theorem dX11_feed_42 : decode cX11_feed 42 = .ok (.iconst 1, 1) := by decide +kernel
theorem dX11_feed_43 : decode cX11_feed 43 = .ok (.iadd, 1) := by decide +kernel
theorem dX11_feed_44 : decode cX11_feed 44 = .ok (.putfield 107, 3) := by decide +kernel
theorem dX11_feed_47 : decode cX11_feed 47 = .ok (.aload_n 0, 1) := by decide +kernel
theorem dX11_feed_48 : decode cX11_feed 48 = .ok (.getfield 107, 3) := by decide +kernel
theorem dX11_feed_51 : decode cX11_feed 51 = .ok (.ireturn, 1) := by decide +kernel
theorem dX11_skip_0 : decode cX11_skip 0 = .ok (.aload_n 0, 1) := by decide +kernel
theorem dX11_skip_1 : decode cX11_skip 1 = .ok (.getfield 111, 3) := by decide +kernel
theorem dX11_skip_4 : decode cX11_skip 4 = .ok (.aload_n 0, 1) := by decide +kernel
theorem dX11_skip_5 : decode cX11_skip 5 = .ok (.getfield 107, 3) := by decide +kernel
theorem dX11_skip_8 : decode cX11_skip 8 = .ok (.if_icmp .ge 30, 3) := by decide +kernel
theorem dX11_skip_11 : decode cX11_skip 11 = .ok (.aload_n 0, 1) := by decide +kernel
theorem dX11_skip_12 : decode cX11_skip 12 = .ok (.getfield 31, 3) := by decide +kernel
theorem dX11_skip_15 : decode cX11_skip 15 = .ok (.aload_n 0, 1) := by decide +kernel
theorem dX11_skip_16 : decode cX11_skip 16 = .ok (.getfield 111, 3) := by decide +kernel
theorem dX11_skip_19 : decode cX11_skip 19 = .ok (.iaload, 1) := by decide +kernel
theorem dX11_skip_20 : decode cX11_skip 20 = .ok (.bipush 32, 2) := by decide +kernel
theorem dX11_skip_22 : decode cX11_skip 22 = .ok (.if_icmp .ne 16, 3) := by decide +kernel
theorem dX11_skip_25 : decode cX11_skip 25 = .ok (.aload_n 0, 1) := by decide +kernel
theorem dX11_skip_26 : decode cX11_skip 26 = .ok (.dup, 1) := by decide +kernel
theorem dX11_skip_27 : decode cX11_skip 27 = .ok (.getfield 111, 3) := by decide +kernel
theorem dX11_skip_30 : decode cX11_skip 30 = .ok (.iconst 1, 1) := by decide +kernel
theorem dX11_skip_31 : decode cX11_skip 31 = .ok (.iadd, 1) := by decide +kernel
theorem dX11_skip_32 : decode cX11_skip 32 = .ok (.putfield 111, 3) := by decide +kernel
theorem dX11_skip_35 : decode cX11_skip 35 = .ok (.goto (-35), 3) := by decide +kernel
theorem dX11_skip_38 : decode cX11_skip 38 = .ok (.return_, 1) := by decide +kernel
theorem dX11_here_0 : decode cX11_here 0 = .ok (.aload_n 0, 1) := by decide +kernel
theorem dX11_here_1 : decode cX11_here 1 = .ok (.getfield 111, 3) := by decide +kernel
theorem dX11_here_4 : decode cX11_here 4 = .ok (.aload_n 0, 1) := by decide +kernel
theorem dX11_here_5 : decode cX11_here 5 = .ok (.getfield 107, 3) := by decide +kernel
theorem dX11_here_8 : decode cX11_here 8 = .ok (.if_icmp .ge 15, 3) := by decide +kernel
theorem dX11_here_11 : decode cX11_here 11 = .ok (.aload_n 0, 1) := by decide +kernel
theorem dX11_here_12 : decode cX11_here 12 = .ok (.getfield 31, 3) := by decide +kernel
theorem dX11_here_15 : decode cX11_here 15 = .ok (.aload_n 0, 1) := by decide +kernel
theorem dX11_here_16 : decode cX11_here 16 = .ok (.getfield 111, 3) := by decide +kernel
theorem dX11_here_19 : decode cX11_here 19 = .ok (.iaload, 1) := by decide +kernel
theorem dX11_here_20 : decode cX11_here 20 = .ok (.goto 4, 3) := by decide +kernel
theorem dX11_here_23 : decode cX11_here 23 = .ok (.iconst (-1), 1) := by decide +kernel
theorem dX11_here_24 : decode cX11_here 24 = .ok (.ireturn, 1) := by decide +kernel
theorem dX11_fails_0 : decode cX11_fails 0 = .ok (.aload_n 0, 1) := by decide +kernel
theorem dX11_fails_1 : decode cX11_fails 1 = .ok (.iload_n 1, 1) := by decide +kernel
theorem dX11_fails_2 : decode cX11_fails 2 = .ok (.putfield 114, 3) := by decide +kernel
theorem dX11_fails_5 : decode cX11_fails 5 = .ok (.aload_n 0, 1) := by decide +kernel
theorem dX11_fails_6 : decode cX11_fails 6 = .ok (.iload_n 2, 1) := by decide +kernel
theorem dX11_fails_7 : decode cX11_fails 7 = .ok (.putfield 111, 3) := by decide +kernel
theorem dX11_fails_10 : decode cX11_fails 10 = .ok (.iconst 0, 1) := by decide +kernel
theorem dX11_fails_11 : decode cX11_fails 11 = .ok (.ireturn, 1) := by decide +kernel
theorem dX11_number_0 : decode cX11_number 0 = .ok (.aload_n 0, 1) := by decide +kernel
theorem dX11_number_1 : decode cX11_number 1 = .ok (.invokevirtual 117, 3) := by decide +kernel
theorem dX11_number_4 : decode cX11_number 4 = .ok (.aload_n 0, 1) := by decide +kernel
theorem dX11_number_5 : decode cX11_number 5 = .ok (.aload_n 0, 1) := by decide +kernel
theorem dX11_number_6 : decode cX11_number 6 = .ok (.getfield 111, 3) := by decide +kernel
theorem dX11_number_9 : decode cX11_number 9 = .ok (.putfield 120, 3) := by decide +kernel
theorem dX11_number_12 : decode cX11_number 12 = .ok (.iconst 0, 1) := by decide +kernel
theorem dX11_number_13 : decode cX11_number 13 = .ok (.istore_n 3, 1) := by decide +kernel
theorem dX11_number_14 : decode cX11_number 14 = .ok (.iconst 0, 1) := by decide +kernel
theorem dX11_number_15 : decode cX11_number 15 = .ok (.istore 4, 2) := by decide +kernel
theorem dX11_number_17 : decode cX11_number 17 = .ok (.aload_n 0, 1) := by decide +kernel
theorem dX11_number_18 : decode cX11_number 18 = .ok (.invokevirtual 123, 3) := by decide +kernel
theorem dX11_number_21 : decode cX11_number 21 = .ok (.bipush 48, 2) := by decide +kernel
theorem dX11_number_23 : decode cX11_number 23 = .ok (.bipush 57, 2) := by decide +kernel
theorem dX11_number_25 : decode cX11_number 25 = .ok (.invokestatic 84, 3) := by decide +kernel
theorem dX11_number_28 : decode cX11_number 28 = .ok (.ifCond .eq 42, 3) := by decide +kernel
theorem dX11_number_31 : decode cX11_number 31 = .ok (.iload 4, 2) := by decide +kernel
theorem dX11_number_33 : decode cX11_number 33 = .ok (.iconst 3, 1) := by decide +kernel
theorem dX11_number_34 : decode cX11_number 34 = .ok (.if_icmp .ge 18, 3) := by decide +kernel
theorem dX11_number_37 : decode cX11_number 37 = .ok (.bipush 10, 2) := by decide +kernel
theorem dX11_number_39 : decode cX11_number 39 = .ok (.iload_n 3, 1) := by decide +kernel
theorem dX11_number_40 : decode cX11_number 40 = .ok (.imul, 1) := by decide +kernel
theorem dX11_number_41 : decode cX11_number 41 = .ok (.aload_n 0, 1) := by decide +kernel
theorem dX11_number_42 : decode cX11_number 42 = .ok (.invokevirtual 123, 3) := by decide +kernel
theorem dX11_number_45 : decode cX11_number 45 = .ok (.iadd, 1) := by decide +kernel
theorem dX11_number_46 : decode cX11_number 46 = .ok (.bipush 48, 2) := by decide +kernel
theorem dX11_number_48 : decode cX11_number 48 = .ok (.isub, 1) := by decide +kernel
theorem dX11_number_49 : decode cX11_number 49 = .ok (.goto 4, 3) := by decide +kernel
theorem dX11_number_52 : decode cX11_number 52 = .ok (.iload_n 3, 1) := by decide +kernel
theorem dX11_number_53 : decode cX11_number 53 = .ok (.istore_n 3, 1) := by decide +kernel
theorem dX11_number_54 : decode cX11_number 54 = .ok (.iinc 4 1, 3) := by decide +kernel
theorem dX11_number_57 : decode cX11_number 57 = .ok (.aload_n 0, 1) := by decide +kernel
theorem dX11_number_58 : decode cX11_number 58 = .ok (.dup, 1) := by decide +kernel
theorem dX11_number_59 : decode cX11_number 59 = .ok (.getfield 111, 3) := by decide +kernel
theorem dX11_number_62 : decode cX11_number 62 = .ok (.iconst 1, 1) := by decide +kernel
theorem dX11_number_63 : decode cX11_number 63 = .ok (.iadd, 1) := by decide +kernel
theorem dX11_number_64 : decode cX11_number 64 = .ok (.putfield 111, 3) := by decide +kernel
theorem dX11_number_67 : decode cX11_number 67 = .ok (.goto (-50), 3) := by decide +kernel
theorem dX11_number_70 : decode cX11_number 70 = .ok (.iload 4, 2) := by decide +kernel
theorem dX11_number_72 : decode cX11_number 72 = .ok (.ifCond .ne 13, 3) := by decide +kernel
theorem dX11_number_75 : decode cX11_number 75 = .ok (.aload_n 0, 1) := by decide +kernel
theorem dX11_number_76 : decode cX11_number 76 = .ok (.iconst 1, 1) := by decide +kernel
theorem dX11_number_77 : decode cX11_number 77 = .ok (.aload_n 0, 1) := by decide +kernel
theorem dX11_number_78 : decode cX11_number 78 = .ok (.getfield 120, 3) := by decide +kernel
theorem dX11_number_81 : decode cX11_number 81 = .ok (.invokevirtual 127, 3) := by decide +kernel
theorem dX11_number_84 : decode cX11_number 84 = .ok (.ireturn, 1) := by decide +kernel
theorem dX11_number_85 : decode cX11_number 85 = .ok (.aload_n 0, 1) := by decide +kernel
theorem dX11_number_86 : decode cX11_number 86 = .ok (.iload_n 3, 1) := by decide +kernel
theorem dX11_number_87 : decode cX11_number 87 = .ok (.putfield 130, 3) := by decide +kernel
theorem dX11_number_90 : decode cX11_number 90 = .ok (.iload 4, 2) := by decide +kernel
theorem dX11_number_92 : decode cX11_number 92 = .ok (.iconst 3, 1) := by decide +kernel
theorem dX11_number_93 : decode cX11_number 93 = .ok (.if_icmp .gt 12, 3) := by decide +kernel
theorem dX11_number_96 : decode cX11_number 96 = .ok (.iload_n 3, 1) := by decide +kernel
theorem dX11_number_97 : decode cX11_number 97 = .ok (.iload_n 1, 1) := by decide +kernel
theorem dX11_number_98 : decode cX11_number 98 = .ok (.iload_n 2, 1) := by decide +kernel
theorem dX11_number_99 : decode cX11_number 99 = .ok (.invokestatic 84, 3) := by decide +kernel
theorem dX11_number_102 : decode cX11_number 102 = .ok (.ifCond .ne 15, 3) := by decide +kernel
theorem dX11_number_105 : decode cX11_number 105 = .ok (.aload_n 0, 1) := by decide +kernel
theorem dX11_number_106 : decode cX11_number 106 = .ok (.iconst 2, 1) := by decide +kernel
theorem dX11_number_107 : decode cX11_number 107 = .ok (.aload_n 0, 1) := by decide +kernel
theorem dX11_number_108 : decode cX11_number 108 = .ok (.getfield 120, 3) := by decide +kernel
theorem dX11_number_111 : decode cX11_number 111 = .ok (.invokevirtual 127, 3) := by decide +kernel
theorem dX11_number_114 : decode cX11_number 114 = .ok (.ifCond .eq 7, 3) := by decide +kernel
theorem dX11_number_117 : decode cX11_number 117 = .ok (.iconst 1, 1) := by decide +kernel
theorem dX11_number_118 : decode cX11_number 118 = .ok (.goto 4, 3) := by decide +kernel
theorem dX11_number_121 : decode cX11_number 121 = .ok (.iconst 0, 1) := by decide +kernel
theorem dX11_number_122 : decode cX11_number 122 = .ok (.ireturn, 1) := by decide +kernel
theorem dX11_ends_0 : decode cX11_ends 0 = .ok (.aload_n 0, 1) := by decide +kernel
theorem dX11_ends_1 : decode cX11_ends 1 = .ok (.invokevirtual 117, 3) := by decide +kernel
theorem dX11_ends_4 : decode cX11_ends 4 = .ok (.aload_n 0, 1) := by decide +kernel
theorem dX11_ends_5 : decode cX11_ends 5 = .ok (.invokevirtual 123, 3) := by decide +kernel
theorem dX11_ends_8 : decode cX11_ends 8 = .ok (.bipush 59, 2) := by decide +kernel
theorem dX11_ends_10 : decode cX11_ends 10 = .ok (.if_icmp .eq 13, 3) := by decide +kernel
theorem dX11_ends_13 : decode cX11_ends 13 = .ok (.aload_n 0, 1) := by decide +kernel
theorem dX11_ends_14 : decode cX11_ends 14 = .ok (.iconst 1, 1) := by decide +kernel
theorem dX11_ends_15 : decode cX11_ends 15 = .ok (.aload_n 0, 1) := by decide +kernel
theorem dX11_ends_16 : decode cX11_ends 16 = .ok (.getfield 111, 3) := by decide +kernel
theorem dX11_ends_19 : decode cX11_ends 19 = .ok (.invokevirtual 127, 3) := by decide +kernel
theorem dX11_ends_22 : decode cX11_ends 22 = .ok (.ireturn, 1) := by decide +kernel
theorem dX11_ends_23 : decode cX11_ends 23 = .ok (.aload_n 0, 1) := by decide +kernel
theorem dX11_ends_24 : decode cX11_ends 24 = .ok (.dup, 1) := by decide +kernel
theorem dX11_ends_25 : decode cX11_ends 25 = .ok (.getfield 111, 3) := by decide +kernel
theorem dX11_ends_28 : decode cX11_ends 28 = .ok (.iconst 1, 1) := by decide +kernel
theorem dX11_ends_29 : decode cX11_ends 29 = .ok (.iadd, 1) := by decide +kernel
theorem dX11_ends_30 : decode cX11_ends 30 = .ok (.putfield 111, 3) := by decide +kernel
theorem dX11_ends_33 : decode cX11_ends 33 = .ok (.iconst 1, 1) := by decide +kernel
theorem dX11_ends_34 : decode cX11_ends 34 = .ok (.ireturn, 1) := by decide +kernel
theorem dX11_isRead_0 : decode cX11_isRead 0 = .ok (.iconst 0, 1) := by decide +kernel
theorem dX11_isRead_1 : decode cX11_isRead 1 = .ok (.istore_n 2, 1) := by decide +kernel
theorem dX11_isRead_2 : decode cX11_isRead 2 = .ok (.iconst 0, 1) := by decide +kernel
theorem dX11_isRead_3 : decode cX11_isRead 3 = .ok (.istore_n 3, 1) := by decide +kernel
theorem dX11_isRead_4 : decode cX11_isRead 4 = .ok (.iload_n 3, 1) := by decide +kernel
theorem dX11_isRead_5 : decode cX11_isRead 5 = .ok (.aload_n 0, 1) := by decide +kernel
theorem dX11_isRead_6 : decode cX11_isRead 6 = .ok (.getfield 133, 3) := by decide +kernel
theorem dX11_isRead_9 : decode cX11_isRead 9 = .ok (.if_icmp .ge 29, 3) := by decide +kernel
theorem dX11_isRead_12 : decode cX11_isRead 12 = .ok (.iload_n 2, 1) := by decide +kernel
theorem dX11_isRead_13 : decode cX11_isRead 13 = .ok (.ifCond .ne 13, 3) := by decide +kernel
theorem dX11_isRead_16 : decode cX11_isRead 16 = .ok (.aload_n 0, 1) := by decide +kernel
theorem dX11_isRead_17 : decode cX11_isRead 17 = .ok (.getfield 38, 3) := by decide +kernel
theorem dX11_isRead_20 : decode cX11_isRead 20 = .ok (.iload_n 3, 1) := by decide +kernel
theorem dX11_isRead_21 : decode cX11_isRead 21 = .ok (.iaload, 1) := by decide +kernel
theorem dX11_isRead_22 : decode cX11_isRead 22 = .ok (.iload_n 1, 1) := by decide +kernel
theorem dX11_isRead_23 : decode cX11_isRead 23 = .ok (.if_icmp .ne 7, 3) := by decide +kernel
theorem dX11_isRead_26 : decode cX11_isRead 26 = .ok (.iconst 1, 1) := by decide +kernel
theorem dX11_isRead_27 : decode cX11_isRead 27 = .ok (.goto 4, 3) := by decide +kernel
theorem dX11_isRead_30 : decode cX11_isRead 30 = .ok (.iconst 0, 1) := by decide +kernel
theorem dX11_isRead_31 : decode cX11_isRead 31 = .ok (.istore_n 2, 1) := by decide +kernel
theorem dX11_isRead_32 : decode cX11_isRead 32 = .ok (.iinc 3 1, 3) := by decide +kernel
theorem dX11_isRead_35 : decode cX11_isRead 35 = .ok (.goto (-31), 3) := by decide +kernel
theorem dX11_isRead_38 : decode cX11_isRead 38 = .ok (.iload_n 2, 1) := by decide +kernel
theorem dX11_isRead_39 : decode cX11_isRead 39 = .ok (.ireturn, 1) := by decide +kernel
theorem dX11_isWhole_0 : decode cX11_isWhole 0 = .ok (.aload_n 0, 1) := by decide +kernel
theorem dX11_isWhole_1 : decode cX11_isWhole 1 = .ok (.getfield 133, 3) := by decide +kernel
theorem dX11_isWhole_4 : decode cX11_isWhole 4 = .ok (.iconst 1, 1) := by decide +kernel
theorem dX11_isWhole_5 : decode cX11_isWhole 5 = .ok (.if_icmp .le 7, 3) := by decide +kernel
theorem dX11_isWhole_8 : decode cX11_isWhole 8 = .ok (.iconst 1, 1) := by decide +kernel
theorem dX11_isWhole_9 : decode cX11_isWhole 9 = .ok (.goto 4, 3) := by decide +kernel
theorem dX11_isWhole_12 : decode cX11_isWhole 12 = .ok (.iconst 0, 1) := by decide +kernel
theorem dX11_isWhole_13 : decode cX11_isWhole 13 = .ok (.istore_n 1, 1) := by decide +kernel
theorem dX11_isWhole_14 : decode cX11_isWhole 14 = .ok (.iconst 0, 1) := by decide +kernel
theorem dX11_isWhole_15 : decode cX11_isWhole 15 = .ok (.istore_n 2, 1) := by decide +kernel
theorem dX11_isWhole_16 : decode cX11_isWhole 16 = .ok (.iload_n 2, 1) := by decide +kernel
theorem dX11_isWhole_17 : decode cX11_isWhole 17 = .ok (.aload_n 0, 1) := by decide +kernel
theorem dX11_isWhole_18 : decode cX11_isWhole 18 = .ok (.getfield 133, 3) := by decide +kernel
theorem dX11_isWhole_21 : decode cX11_isWhole 21 = .ok (.if_icmp .ge 27, 3) := by decide +kernel
theorem dX11_isWhole_24 : decode cX11_isWhole 24 = .ok (.iload_n 1, 1) := by decide +kernel
theorem dX11_isWhole_25 : decode cX11_isWhole 25 = .ok (.ifCond .eq 15, 3) := by decide +kernel
theorem dX11_isWhole_28 : decode cX11_isWhole 28 = .ok (.aload_n 0, 1) := by decide +kernel
theorem dX11_isWhole_29 : decode cX11_isWhole 29 = .ok (.iload_n 2, 1) := by decide +kernel
theorem dX11_isWhole_30 : decode cX11_isWhole 30 = .ok (.invokevirtual 136, 3) := by decide +kernel
theorem dX11_isWhole_33 : decode cX11_isWhole 33 = .ok (.ifCond .eq 7, 3) := by decide +kernel
theorem dX11_isWhole_36 : decode cX11_isWhole 36 = .ok (.iconst 1, 1) := by decide +kernel
theorem dX11_isWhole_37 : decode cX11_isWhole 37 = .ok (.goto 4, 3) := by decide +kernel
theorem dX11_isWhole_40 : decode cX11_isWhole 40 = .ok (.iconst 0, 1) := by decide +kernel
theorem dX11_isWhole_41 : decode cX11_isWhole 41 = .ok (.istore_n 1, 1) := by decide +kernel
theorem dX11_isWhole_42 : decode cX11_isWhole 42 = .ok (.iinc 2 1, 3) := by decide +kernel
theorem dX11_isWhole_45 : decode cX11_isWhole 45 = .ok (.goto (-29), 3) := by decide +kernel
theorem dX11_isWhole_48 : decode cX11_isWhole 48 = .ok (.iload_n 1, 1) := by decide +kernel
theorem dX11_isWhole_49 : decode cX11_isWhole 49 = .ok (.ireturn, 1) := by decide +kernel
theorem dX11_readsOne_0 : decode cX11_readsOne 0 = .ok (.aload_n 0, 1) := by decide +kernel
theorem dX11_readsOne_1 : decode cX11_readsOne 1 = .ok (.iconst 0, 1) := by decide +kernel
theorem dX11_readsOne_2 : decode cX11_readsOne 2 = .ok (.iconst 4, 1) := by decide +kernel
theorem dX11_readsOne_3 : decode cX11_readsOne 3 = .ok (.invokevirtual 139, 3) := by decide +kernel
theorem dX11_readsOne_6 : decode cX11_readsOne 6 = .ok (.ifCond .ne 5, 3) := by decide +kernel
theorem dX11_readsOne_9 : decode cX11_readsOne 9 = .ok (.iconst 0, 1) := by decide +kernel
theorem dX11_readsOne_10 : decode cX11_readsOne 10 = .ok (.ireturn, 1) := by decide +kernel
theorem dX11_readsOne_11 : decode cX11_readsOne 11 = .ok (.aload_n 0, 1) := by decide +kernel
theorem dX11_readsOne_12 : decode cX11_readsOne 12 = .ok (.aload_n 0, 1) := by decide +kernel
theorem dX11_readsOne_13 : decode cX11_readsOne 13 = .ok (.getfield 130, 3) := by decide +kernel
theorem dX11_readsOne_16 : decode cX11_readsOne 16 = .ok (.invokevirtual 136, 3) := by decide +kernel
theorem dX11_readsOne_19 : decode cX11_readsOne 19 = .ok (.ifCond .eq 13, 3) := by decide +kernel
theorem dX11_readsOne_22 : decode cX11_readsOne 22 = .ok (.aload_n 0, 1) := by decide +kernel
theorem dX11_readsOne_23 : decode cX11_readsOne 23 = .ok (.iconst 4, 1) := by decide +kernel
theorem dX11_readsOne_24 : decode cX11_readsOne 24 = .ok (.aload_n 0, 1) := by decide +kernel
theorem dX11_readsOne_25 : decode cX11_readsOne 25 = .ok (.getfield 120, 3) := by decide +kernel
theorem dX11_readsOne_28 : decode cX11_readsOne 28 = .ok (.invokevirtual 127, 3) := by decide +kernel
theorem dX11_readsOne_31 : decode cX11_readsOne 31 = .ok (.ireturn, 1) := by decide +kernel
theorem dX11_readsOne_32 : decode cX11_readsOne 32 = .ok (.aload_n 0, 1) := by decide +kernel
theorem dX11_readsOne_33 : decode cX11_readsOne 33 = .ok (.getfield 38, 3) := by decide +kernel
theorem dX11_readsOne_36 : decode cX11_readsOne 36 = .ok (.aload_n 0, 1) := by decide +kernel
theorem dX11_readsOne_37 : decode cX11_readsOne 37 = .ok (.getfield 133, 3) := by decide +kernel
theorem dX11_readsOne_40 : decode cX11_readsOne 40 = .ok (.aload_n 0, 1) := by decide +kernel
theorem dX11_readsOne_41 : decode cX11_readsOne 41 = .ok (.getfield 130, 3) := by decide +kernel
theorem dX11_readsOne_44 : decode cX11_readsOne 44 = .ok (.iastore, 1) := by decide +kernel
theorem dX11_readsOne_45 : decode cX11_readsOne 45 = .ok (.aload_n 0, 1) := by decide +kernel
theorem dX11_readsOne_46 : decode cX11_readsOne 46 = .ok (.dup, 1) := by decide +kernel
theorem dX11_readsOne_47 : decode cX11_readsOne 47 = .ok (.getfield 133, 3) := by decide +kernel
theorem dX11_readsOne_50 : decode cX11_readsOne 50 = .ok (.iconst 1, 1) := by decide +kernel
theorem dX11_readsOne_51 : decode cX11_readsOne 51 = .ok (.iadd, 1) := by decide +kernel
theorem dX11_readsOne_52 : decode cX11_readsOne 52 = .ok (.putfield 133, 3) := by decide +kernel
theorem dX11_readsOne_55 : decode cX11_readsOne 55 = .ok (.aload_n 0, 1) := by decide +kernel
theorem dX11_readsOne_56 : decode cX11_readsOne 56 = .ok (.invokevirtual 117, 3) := by decide +kernel
theorem dX11_readsOne_59 : decode cX11_readsOne 59 = .ok (.iconst 1, 1) := by decide +kernel
theorem dX11_readsOne_60 : decode cX11_readsOne 60 = .ok (.ireturn, 1) := by decide +kernel
theorem dX11_readsCable_0 : decode cX11_readsCable 0 = .ok (.aload_n 0, 1) := by decide +kernel
theorem dX11_readsCable_1 : decode cX11_readsCable 1 = .ok (.invokevirtual 142, 3) := by decide +kernel
theorem dX11_readsCable_4 : decode cX11_readsCable 4 = .ok (.ifCond .ne 5, 3) := by decide +kernel
theorem dX11_readsCable_7 : decode cX11_readsCable 7 = .ok (.iconst 0, 1) := by decide +kernel
theorem dX11_readsCable_8 : decode cX11_readsCable 8 = .ok (.ireturn, 1) := by decide +kernel
theorem dX11_readsCable_9 : decode cX11_readsCable 9 = .ok (.aload_n 0, 1) := by decide +kernel
theorem dX11_readsCable_10 : decode cX11_readsCable 10 = .ok (.invokevirtual 123, 3) := by decide +kernel
theorem dX11_readsCable_13 : decode cX11_readsCable 13 = .ok (.bipush 44, 2) := by decide +kernel
theorem dX11_readsCable_15 : decode cX11_readsCable 15 = .ok (.if_icmp .ne 30, 3) := by decide +kernel
theorem dX11_readsCable_18 : decode cX11_readsCable 18 = .ok (.aload_n 0, 1) := by decide +kernel
theorem dX11_readsCable_19 : decode cX11_readsCable 19 = .ok (.getfield 133, 3) := by decide +kernel
theorem dX11_readsCable_22 : decode cX11_readsCable 22 = .ok (.iconst 5, 1) := by decide +kernel
theorem dX11_readsCable_23 : decode cX11_readsCable 23 = .ok (.if_icmp .ge 22, 3) := by decide +kernel
theorem dX11_readsCable_26 : decode cX11_readsCable 26 = .ok (.aload_n 0, 1) := by decide +kernel
theorem dX11_readsCable_27 : decode cX11_readsCable 27 = .ok (.dup, 1) := by decide +kernel
theorem dX11_readsCable_28 : decode cX11_readsCable 28 = .ok (.getfield 111, 3) := by decide +kernel
theorem dX11_readsCable_31 : decode cX11_readsCable 31 = .ok (.iconst 1, 1) := by decide +kernel
theorem dX11_readsCable_32 : decode cX11_readsCable 32 = .ok (.iadd, 1) := by decide +kernel
theorem dX11_readsCable_33 : decode cX11_readsCable 33 = .ok (.putfield 111, 3) := by decide +kernel
theorem dX11_readsCable_36 : decode cX11_readsCable 36 = .ok (.aload_n 0, 1) := by decide +kernel
theorem dX11_readsCable_37 : decode cX11_readsCable 37 = .ok (.invokevirtual 142, 3) := by decide +kernel
theorem dX11_readsCable_40 : decode cX11_readsCable 40 = .ok (.ifCond .ne (-31), 3) := by decide +kernel
theorem dX11_readsCable_43 : decode cX11_readsCable 43 = .ok (.iconst 0, 1) := by decide +kernel
theorem dX11_readsCable_44 : decode cX11_readsCable 44 = .ok (.ireturn, 1) := by decide +kernel
theorem dX11_readsCable_45 : decode cX11_readsCable 45 = .ok (.aload_n 0, 1) := by decide +kernel
theorem dX11_readsCable_46 : decode cX11_readsCable 46 = .ok (.invokevirtual 146, 3) := by decide +kernel
theorem dX11_readsCable_49 : decode cX11_readsCable 49 = .ok (.ifCond .eq 10, 3) := by decide +kernel
theorem dX11_readsCable_52 : decode cX11_readsCable 52 = .ok (.aload_n 0, 1) := by decide +kernel
theorem dX11_readsCable_53 : decode cX11_readsCable 53 = .ok (.invokevirtual 149, 3) := by decide +kernel
theorem dX11_readsCable_56 : decode cX11_readsCable 56 = .ok (.goto 12, 3) := by decide +kernel
theorem dX11_readsCable_59 : decode cX11_readsCable 59 = .ok (.aload_n 0, 1) := by decide +kernel
theorem dX11_readsCable_60 : decode cX11_readsCable 60 = .ok (.iconst 1, 1) := by decide +kernel
theorem dX11_readsCable_61 : decode cX11_readsCable 61 = .ok (.aload_n 0, 1) := by decide +kernel
theorem dX11_readsCable_62 : decode cX11_readsCable 62 = .ok (.getfield 111, 3) := by decide +kernel
theorem dX11_readsCable_65 : decode cX11_readsCable 65 = .ok (.invokevirtual 127, 3) := by decide +kernel
theorem dX11_readsCable_68 : decode cX11_readsCable 68 = .ok (.ireturn, 1) := by decide +kernel
theorem dX11_readsKind_0 : decode cX11_readsKind 0 = .ok (.aload_n 0, 1) := by decide +kernel
theorem dX11_readsKind_1 : decode cX11_readsKind 1 = .ok (.iconst 0, 1) := by decide +kernel
theorem dX11_readsKind_2 : decode cX11_readsKind 2 = .ok (.aload_n 0, 1) := by decide +kernel
theorem dX11_readsKind_3 : decode cX11_readsKind 3 = .ok (.getfield 133, 3) := by decide +kernel
theorem dX11_readsKind_6 : decode cX11_readsKind 6 = .ok (.iconst 1, 1) := by decide +kernel
theorem dX11_readsKind_7 : decode cX11_readsKind 7 = .ok (.isub, 1) := by decide +kernel
theorem dX11_readsKind_8 : decode cX11_readsKind 8 = .ok (.invokevirtual 139, 3) := by decide +kernel
theorem dX11_readsKind_11 : decode cX11_readsKind 11 = .ok (.ifCond .ne 5, 3) := by decide +kernel
theorem dX11_readsKind_14 : decode cX11_readsKind 14 = .ok (.iconst 0, 1) := by decide +kernel
theorem dX11_readsKind_15 : decode cX11_readsKind 15 = .ok (.ireturn, 1) := by decide +kernel
theorem dX11_readsKind_16 : decode cX11_readsKind 16 = .ok (.aload_n 0, 1) := by decide +kernel
theorem dX11_readsKind_17 : decode cX11_readsKind 17 = .ok (.getfield 130, 3) := by decide +kernel
theorem dX11_readsKind_20 : decode cX11_readsKind 20 = .ok (.istore_n 1, 1) := by decide +kernel
theorem dX11_readsKind_21 : decode cX11_readsKind 21 = .ok (.aload_n 0, 1) := by decide +kernel
theorem dX11_readsKind_22 : decode cX11_readsKind 22 = .ok (.getfield 41, 3) := by decide +kernel
theorem dX11_readsKind_25 : decode cX11_readsKind 25 = .ok (.iload_n 1, 1) := by decide +kernel
theorem dX11_readsKind_26 : decode cX11_readsKind 26 = .ok (.iaload, 1) := by decide +kernel
theorem dX11_readsKind_27 : decode cX11_readsKind 27 = .ok (.ifCond .eq 13, 3) := by decide +kernel
theorem dX11_readsKind_30 : decode cX11_readsKind 30 = .ok (.aload_n 0, 1) := by decide +kernel
theorem dX11_readsKind_31 : decode cX11_readsKind 31 = .ok (.iconst 4, 1) := by decide +kernel
theorem dX11_readsKind_32 : decode cX11_readsKind 32 = .ok (.aload_n 0, 1) := by decide +kernel
theorem dX11_readsKind_33 : decode cX11_readsKind 33 = .ok (.getfield 120, 3) := by decide +kernel
theorem dX11_readsKind_36 : decode cX11_readsKind 36 = .ok (.invokevirtual 127, 3) := by decide +kernel
theorem dX11_readsKind_39 : decode cX11_readsKind 39 = .ok (.ireturn, 1) := by decide +kernel
theorem dX11_readsKind_40 : decode cX11_readsKind 40 = .ok (.aload_n 0, 1) := by decide +kernel
theorem dX11_readsKind_41 : decode cX11_readsKind 41 = .ok (.iconst 1, 1) := by decide +kernel
theorem dX11_readsKind_42 : decode cX11_readsKind 42 = .ok (.iconst 3, 1) := by decide +kernel
theorem dX11_readsKind_43 : decode cX11_readsKind 43 = .ok (.invokevirtual 139, 3) := by decide +kernel
theorem dX11_readsKind_46 : decode cX11_readsKind 46 = .ok (.ifCond .ne 5, 3) := by decide +kernel
theorem dX11_readsKind_49 : decode cX11_readsKind 49 = .ok (.iconst 0, 1) := by decide +kernel
theorem dX11_readsKind_50 : decode cX11_readsKind 50 = .ok (.ireturn, 1) := by decide +kernel
theorem dX11_readsKind_51 : decode cX11_readsKind 51 = .ok (.aload_n 0, 1) := by decide +kernel
theorem dX11_readsKind_52 : decode cX11_readsKind 52 = .ok (.getfield 41, 3) := by decide +kernel
theorem dX11_readsKind_55 : decode cX11_readsKind 55 = .ok (.iload_n 1, 1) := by decide +kernel
theorem dX11_readsKind_56 : decode cX11_readsKind 56 = .ok (.aload_n 0, 1) := by decide +kernel
theorem dX11_readsKind_57 : decode cX11_readsKind 57 = .ok (.getfield 130, 3) := by decide +kernel
theorem dX11_readsKind_60 : decode cX11_readsKind 60 = .ok (.iastore, 1) := by decide +kernel
theorem dX11_readsKind_61 : decode cX11_readsKind 61 = .ok (.aload_n 0, 1) := by decide +kernel
theorem dX11_readsKind_62 : decode cX11_readsKind 62 = .ok (.invokevirtual 149, 3) := by decide +kernel
theorem dX11_readsKind_65 : decode cX11_readsKind 65 = .ok (.ireturn, 1) := by decide +kernel
theorem dX11_readsTouch_0 : decode cX11_readsTouch 0 = .ok (.aload_n 0, 1) := by decide +kernel
theorem dX11_readsTouch_1 : decode cX11_readsTouch 1 = .ok (.iconst 0, 1) := by decide +kernel
theorem dX11_readsTouch_2 : decode cX11_readsTouch 2 = .ok (.aload_n 0, 1) := by decide +kernel
theorem dX11_readsTouch_3 : decode cX11_readsTouch 3 = .ok (.getfield 133, 3) := by decide +kernel
theorem dX11_readsTouch_6 : decode cX11_readsTouch 6 = .ok (.iconst 1, 1) := by decide +kernel
theorem dX11_readsTouch_7 : decode cX11_readsTouch 7 = .ok (.isub, 1) := by decide +kernel
theorem dX11_readsTouch_8 : decode cX11_readsTouch 8 = .ok (.invokevirtual 139, 3) := by decide +kernel
theorem dX11_readsTouch_11 : decode cX11_readsTouch 11 = .ok (.ifCond .ne 5, 3) := by decide +kernel
theorem dX11_readsTouch_14 : decode cX11_readsTouch 14 = .ok (.iconst 0, 1) := by decide +kernel
theorem dX11_readsTouch_15 : decode cX11_readsTouch 15 = .ok (.ireturn, 1) := by decide +kernel
theorem dX11_readsTouch_16 : decode cX11_readsTouch 16 = .ok (.aload_n 0, 1) := by decide +kernel
theorem dX11_readsTouch_17 : decode cX11_readsTouch 17 = .ok (.getfield 130, 3) := by decide +kernel
theorem dX11_readsTouch_20 : decode cX11_readsTouch 20 = .ok (.istore_n 1, 1) := by decide +kernel
theorem dX11_readsTouch_21 : decode cX11_readsTouch 21 = .ok (.aload_n 0, 1) := by decide +kernel
theorem dX11_readsTouch_22 : decode cX11_readsTouch 22 = .ok (.iconst 0, 1) := by decide +kernel
theorem dX11_readsTouch_23 : decode cX11_readsTouch 23 = .ok (.aload_n 0, 1) := by decide +kernel
theorem dX11_readsTouch_24 : decode cX11_readsTouch 24 = .ok (.getfield 133, 3) := by decide +kernel
theorem dX11_readsTouch_27 : decode cX11_readsTouch 27 = .ok (.iconst 1, 1) := by decide +kernel
theorem dX11_readsTouch_28 : decode cX11_readsTouch 28 = .ok (.isub, 1) := by decide +kernel
theorem dX11_readsTouch_29 : decode cX11_readsTouch 29 = .ok (.invokevirtual 139, 3) := by decide +kernel
theorem dX11_readsTouch_32 : decode cX11_readsTouch 32 = .ok (.ifCond .ne 5, 3) := by decide +kernel
theorem dX11_readsTouch_35 : decode cX11_readsTouch 35 = .ok (.iconst 0, 1) := by decide +kernel
theorem dX11_readsTouch_36 : decode cX11_readsTouch 36 = .ok (.ireturn, 1) := by decide +kernel
theorem dX11_readsTouch_37 : decode cX11_readsTouch 37 = .ok (.iload_n 1, 1) := by decide +kernel
theorem dX11_readsTouch_38 : decode cX11_readsTouch 38 = .ok (.aload_n 0, 1) := by decide +kernel
theorem dX11_readsTouch_39 : decode cX11_readsTouch 39 = .ok (.getfield 130, 3) := by decide +kernel
theorem dX11_readsTouch_42 : decode cX11_readsTouch 42 = .ok (.if_icmp .eq 21, 3) := by decide +kernel
theorem dX11_readsTouch_45 : decode cX11_readsTouch 45 = .ok (.aload_n 0, 1) := by decide +kernel
theorem dX11_readsTouch_46 : decode cX11_readsTouch 46 = .ok (.getfield 152, 3) := by decide +kernel
theorem dX11_readsTouch_49 : decode cX11_readsTouch 49 = .ok (.iload_n 1, 1) := by decide +kernel
theorem dX11_readsTouch_50 : decode cX11_readsTouch 50 = .ok (.aload_n 0, 1) := by decide +kernel
theorem dX11_readsTouch_51 : decode cX11_readsTouch 51 = .ok (.getfield 130, 3) := by decide +kernel
theorem dX11_readsTouch_54 : decode cX11_readsTouch 54 = .ok (.invokestatic 95, 3) := by decide +kernel
theorem dX11_readsTouch_57 : decode cX11_readsTouch 57 = .ok (.invokestatic 99, 3) := by decide +kernel
theorem dX11_readsTouch_60 : decode cX11_readsTouch 60 = .ok (.ifCond .eq 13, 3) := by decide +kernel
theorem dX11_readsTouch_63 : decode cX11_readsTouch 63 = .ok (.aload_n 0, 1) := by decide +kernel
theorem dX11_readsTouch_64 : decode cX11_readsTouch 64 = .ok (.iconst 4, 1) := by decide +kernel
theorem dX11_readsTouch_65 : decode cX11_readsTouch 65 = .ok (.aload_n 0, 1) := by decide +kernel
theorem dX11_readsTouch_66 : decode cX11_readsTouch 66 = .ok (.getfield 120, 3) := by decide +kernel
theorem dX11_readsTouch_69 : decode cX11_readsTouch 69 = .ok (.invokevirtual 127, 3) := by decide +kernel
theorem dX11_readsTouch_72 : decode cX11_readsTouch 72 = .ok (.ireturn, 1) := by decide +kernel
theorem dX11_readsTouch_73 : decode cX11_readsTouch 73 = .ok (.aload_n 0, 1) := by decide +kernel
theorem dX11_readsTouch_74 : decode cX11_readsTouch 74 = .ok (.dup, 1) := by decide +kernel
theorem dX11_readsTouch_75 : decode cX11_readsTouch 75 = .ok (.getfield 152, 3) := by decide +kernel
theorem dX11_readsTouch_78 : decode cX11_readsTouch 78 = .ok (.iconst 1, 1) := by decide +kernel
theorem dX11_readsTouch_79 : decode cX11_readsTouch 79 = .ok (.iload_n 1, 1) := by decide +kernel
theorem dX11_readsTouch_80 : decode cX11_readsTouch 80 = .ok (.aload_n 0, 1) := by decide +kernel
theorem dX11_readsTouch_81 : decode cX11_readsTouch 81 = .ok (.getfield 130, 3) := by decide +kernel
theorem dX11_readsTouch_84 : decode cX11_readsTouch 84 = .ok (.invokestatic 95, 3) := by decide +kernel
theorem dX11_readsTouch_87 : decode cX11_readsTouch 87 = .ok (.ishl, 1) := by decide +kernel
theorem dX11_readsTouch_88 : decode cX11_readsTouch 88 = .ok (.ior, 1) := by decide +kernel
theorem dX11_readsTouch_89 : decode cX11_readsTouch 89 = .ok (.putfield 152, 3) := by decide +kernel
theorem dX11_readsTouch_92 : decode cX11_readsTouch 92 = .ok (.aload_n 0, 1) := by decide +kernel
theorem dX11_readsTouch_93 : decode cX11_readsTouch 93 = .ok (.invokevirtual 149, 3) := by decide +kernel
theorem dX11_readsTouch_96 : decode cX11_readsTouch 96 = .ok (.ireturn, 1) := by decide +kernel
theorem dX11_readsClause_0 : decode cX11_readsClause 0 = .ok (.aload_n 0, 1) := by decide +kernel
theorem dX11_readsClause_1 : decode cX11_readsClause 1 = .ok (.invokevirtual 123, 3) := by decide +kernel
theorem dX11_readsClause_4 : decode cX11_readsClause 4 = .ok (.istore_n 1, 1) := by decide +kernel
theorem dX11_readsClause_5 : decode cX11_readsClause 5 = .ok (.aload_n 0, 1) := by decide +kernel
theorem dX11_readsClause_6 : decode cX11_readsClause 6 = .ok (.getfield 111, 3) := by decide +kernel
theorem dX11_readsClause_9 : decode cX11_readsClause 9 = .ok (.istore_n 2, 1) := by decide +kernel
theorem dX11_readsClause_10 : decode cX11_readsClause 10 = .ok (.aload_n 0, 1) := by decide +kernel
theorem dX11_readsClause_11 : decode cX11_readsClause 11 = .ok (.dup, 1) := by decide +kernel
theorem dX11_readsClause_12 : decode cX11_readsClause 12 = .ok (.getfield 111, 3) := by decide +kernel
theorem dX11_readsClause_15 : decode cX11_readsClause 15 = .ok (.iconst 1, 1) := by decide +kernel
theorem dX11_readsClause_16 : decode cX11_readsClause 16 = .ok (.iadd, 1) := by decide +kernel
theorem dX11_readsClause_17 : decode cX11_readsClause 17 = .ok (.putfield 111, 3) := by decide +kernel
theorem dX11_readsClause_20 : decode cX11_readsClause 20 = .ok (.aload_n 0, 1) := by decide +kernel
theorem dX11_readsClause_21 : decode cX11_readsClause 21 = .ok (.getfield 133, 3) := by decide +kernel
theorem dX11_readsClause_24 : decode cX11_readsClause 24 = .ok (.ifCond .ne 23, 3) := by decide +kernel
theorem dX11_readsClause_27 : decode cX11_readsClause 27 = .ok (.iload_n 1, 1) := by decide +kernel
theorem dX11_readsClause_28 : decode cX11_readsClause 28 = .ok (.bipush 99, 2) := by decide +kernel
theorem dX11_readsClause_30 : decode cX11_readsClause 30 = .ok (.if_icmp .ne 10, 3) := by decide +kernel
theorem dX11_readsClause_33 : decode cX11_readsClause 33 = .ok (.aload_n 0, 1) := by decide +kernel
theorem dX11_readsClause_34 : decode cX11_readsClause 34 = .ok (.invokevirtual 155, 3) := by decide +kernel
theorem dX11_readsClause_37 : decode cX11_readsClause 37 = .ok (.goto 9, 3) := by decide +kernel
theorem dX11_readsClause_40 : decode cX11_readsClause 40 = .ok (.aload_n 0, 1) := by decide +kernel
theorem dX11_readsClause_41 : decode cX11_readsClause 41 = .ok (.iconst 1, 1) := by decide +kernel
theorem dX11_readsClause_42 : decode cX11_readsClause 42 = .ok (.iload_n 2, 1) := by decide +kernel
theorem dX11_readsClause_43 : decode cX11_readsClause 43 = .ok (.invokevirtual 127, 3) := by decide +kernel
theorem dX11_readsClause_46 : decode cX11_readsClause 46 = .ok (.ireturn, 1) := by decide +kernel
theorem dX11_readsClause_47 : decode cX11_readsClause 47 = .ok (.iload_n 1, 1) := by decide +kernel
theorem dX11_readsClause_48 : decode cX11_readsClause 48 = .ok (.bipush 107, 2) := by decide +kernel
theorem dX11_readsClause_50 : decode cX11_readsClause 50 = .ok (.if_icmp .ne 8, 3) := by decide +kernel
theorem dX11_readsClause_53 : decode cX11_readsClause 53 = .ok (.aload_n 0, 1) := by decide +kernel
theorem dX11_readsClause_54 : decode cX11_readsClause 54 = .ok (.invokevirtual 158, 3) := by decide +kernel
theorem dX11_readsClause_57 : decode cX11_readsClause 57 = .ok (.ireturn, 1) := by decide +kernel
theorem dX11_readsClause_58 : decode cX11_readsClause 58 = .ok (.iload_n 1, 1) := by decide +kernel
theorem dX11_readsClause_59 : decode cX11_readsClause 59 = .ok (.bipush 115, 2) := by decide +kernel
theorem dX11_readsClause_61 : decode cX11_readsClause 61 = .ok (.if_icmp .ne 8, 3) := by decide +kernel
theorem dX11_readsClause_64 : decode cX11_readsClause 64 = .ok (.aload_n 0, 1) := by decide +kernel
theorem dX11_readsClause_65 : decode cX11_readsClause 65 = .ok (.invokevirtual 161, 3) := by decide +kernel
theorem dX11_readsClause_68 : decode cX11_readsClause 68 = .ok (.ireturn, 1) := by decide +kernel
theorem dX11_readsClause_69 : decode cX11_readsClause 69 = .ok (.aload_n 0, 1) := by decide +kernel
theorem dX11_readsClause_70 : decode cX11_readsClause 70 = .ok (.iload_n 1, 1) := by decide +kernel
theorem dX11_readsClause_71 : decode cX11_readsClause 71 = .ok (.bipush 99, 2) := by decide +kernel
theorem dX11_readsClause_73 : decode cX11_readsClause 73 = .ok (.if_icmp .ne 7, 3) := by decide +kernel
theorem dX11_readsClause_76 : decode cX11_readsClause 76 = .ok (.iconst 3, 1) := by decide +kernel
theorem dX11_readsClause_77 : decode cX11_readsClause 77 = .ok (.goto 4, 3) := by decide +kernel
theorem dX11_readsClause_80 : decode cX11_readsClause 80 = .ok (.iconst 1, 1) := by decide +kernel
theorem dX11_readsClause_81 : decode cX11_readsClause 81 = .ok (.iload_n 2, 1) := by decide +kernel
theorem dX11_readsClause_82 : decode cX11_readsClause 82 = .ok (.invokevirtual 127, 3) := by decide +kernel
theorem dX11_readsClause_85 : decode cX11_readsClause 85 = .ok (.ireturn, 1) := by decide +kernel
theorem dX11_readsAll_0 : decode cX11_readsAll 0 = .ok (.aload_n 0, 1) := by decide +kernel
theorem dX11_readsAll_1 : decode cX11_readsAll 1 = .ok (.iconst 0, 1) := by decide +kernel
theorem dX11_readsAll_2 : decode cX11_readsAll 2 = .ok (.putfield 111, 3) := by decide +kernel
theorem dX11_readsAll_5 : decode cX11_readsAll 5 = .ok (.aload_n 0, 1) := by decide +kernel
theorem dX11_readsAll_6 : decode cX11_readsAll 6 = .ok (.iconst 0, 1) := by decide +kernel
theorem dX11_readsAll_7 : decode cX11_readsAll 7 = .ok (.putfield 133, 3) := by decide +kernel
theorem dX11_readsAll_10 : decode cX11_readsAll 10 = .ok (.aload_n 0, 1) := by decide +kernel
theorem dX11_readsAll_11 : decode cX11_readsAll 11 = .ok (.iconst 0, 1) := by decide +kernel
theorem dX11_readsAll_12 : decode cX11_readsAll 12 = .ok (.putfield 152, 3) := by decide +kernel
theorem dX11_readsAll_15 : decode cX11_readsAll 15 = .ok (.iconst 0, 1) := by decide +kernel
theorem dX11_readsAll_16 : decode cX11_readsAll 16 = .ok (.istore_n 1, 1) := by decide +kernel
theorem dX11_readsAll_17 : decode cX11_readsAll 17 = .ok (.iload_n 1, 1) := by decide +kernel
theorem dX11_readsAll_18 : decode cX11_readsAll 18 = .ok (.iconst 5, 1) := by decide +kernel
theorem dX11_readsAll_19 : decode cX11_readsAll 19 = .ok (.if_icmp .ge 16, 3) := by decide +kernel
theorem dX11_readsAll_22 : decode cX11_readsAll 22 = .ok (.aload_n 0, 1) := by decide +kernel
theorem dX11_readsAll_23 : decode cX11_readsAll 23 = .ok (.getfield 41, 3) := by decide +kernel
theorem dX11_readsAll_26 : decode cX11_readsAll 26 = .ok (.iload_n 1, 1) := by decide +kernel
theorem dX11_readsAll_27 : decode cX11_readsAll 27 = .ok (.iconst 0, 1) := by decide +kernel
theorem dX11_readsAll_28 : decode cX11_readsAll 28 = .ok (.iastore, 1) := by decide +kernel
theorem dX11_readsAll_29 : decode cX11_readsAll 29 = .ok (.iinc 1 1, 3) := by decide +kernel
theorem dX11_readsAll_32 : decode cX11_readsAll 32 = .ok (.goto (-15), 3) := by decide +kernel
theorem dX11_readsAll_35 : decode cX11_readsAll 35 = .ok (.aload_n 0, 1) := by decide +kernel
theorem dX11_readsAll_36 : decode cX11_readsAll 36 = .ok (.invokevirtual 117, 3) := by decide +kernel
theorem dX11_readsAll_39 : decode cX11_readsAll 39 = .ok (.aload_n 0, 1) := by decide +kernel
theorem dX11_readsAll_40 : decode cX11_readsAll 40 = .ok (.getfield 111, 3) := by decide +kernel
theorem dX11_readsAll_43 : decode cX11_readsAll 43 = .ok (.aload_n 0, 1) := by decide +kernel
theorem dX11_readsAll_44 : decode cX11_readsAll 44 = .ok (.getfield 107, 3) := by decide +kernel
theorem dX11_readsAll_47 : decode cX11_readsAll 47 = .ok (.if_icmp .ge 19, 3) := by decide +kernel
theorem dX11_readsAll_50 : decode cX11_readsAll 50 = .ok (.aload_n 0, 1) := by decide +kernel
theorem dX11_readsAll_51 : decode cX11_readsAll 51 = .ok (.invokevirtual 164, 3) := by decide +kernel
theorem dX11_readsAll_54 : decode cX11_readsAll 54 = .ok (.ifCond .ne 5, 3) := by decide +kernel
theorem dX11_readsAll_57 : decode cX11_readsAll 57 = .ok (.iconst 0, 1) := by decide +kernel
theorem dX11_readsAll_58 : decode cX11_readsAll 58 = .ok (.ireturn, 1) := by decide +kernel
theorem dX11_readsAll_59 : decode cX11_readsAll 59 = .ok (.aload_n 0, 1) := by decide +kernel
theorem dX11_readsAll_60 : decode cX11_readsAll 60 = .ok (.invokevirtual 117, 3) := by decide +kernel
theorem dX11_readsAll_63 : decode cX11_readsAll 63 = .ok (.goto (-24), 3) := by decide +kernel
theorem dX11_readsAll_66 : decode cX11_readsAll 66 = .ok (.iconst 1, 1) := by decide +kernel
theorem dX11_readsAll_67 : decode cX11_readsAll 67 = .ok (.ireturn, 1) := by decide +kernel
theorem dX11_cable_0 : decode cX11_cable 0 = .ok (.aload_n 0, 1) := by decide +kernel
theorem dX11_cable_1 : decode cX11_cable 1 = .ok (.invokevirtual 167, 3) := by decide +kernel
theorem dX11_cable_4 : decode cX11_cable 4 = .ok (.istore_n 1, 1) := by decide +kernel
theorem dX11_cable_5 : decode cX11_cable 5 = .ok (.aload_n 0, 1) := by decide +kernel
theorem dX11_cable_6 : decode cX11_cable 6 = .ok (.iconst 0, 1) := by decide +kernel
theorem dX11_cable_7 : decode cX11_cable 7 = .ok (.putfield 107, 3) := by decide +kernel
theorem dX11_cable_10 : decode cX11_cable 10 = .ok (.iload_n 1, 1) := by decide +kernel
theorem dX11_cable_11 : decode cX11_cable 11 = .ok (.ifCond .ne 19, 3) := by decide +kernel
theorem dX11_cable_14 : decode cX11_cable 14 = .ok (.aload_n 0, 1) := by decide +kernel
theorem dX11_cable_15 : decode cX11_cable 15 = .ok (.aload_n 0, 1) := by decide +kernel
theorem dX11_cable_16 : decode cX11_cable 16 = .ok (.getfield 111, 3) := by decide +kernel
theorem dX11_cable_19 : decode cX11_cable 19 = .ok (.putfield 34, 3) := by decide +kernel
theorem dX11_cable_22 : decode cX11_cable 22 = .ok (.bipush (-10), 2) := by decide +kernel
theorem dX11_cable_24 : decode cX11_cable 24 = .ok (.aload_n 0, 1) := by decide +kernel
theorem dX11_cable_25 : decode cX11_cable 25 = .ok (.getfield 114, 3) := by decide +kernel
theorem dX11_cable_28 : decode cX11_cable 28 = .ok (.isub, 1) := by decide +kernel
theorem dX11_cable_29 : decode cX11_cable 29 = .ok (.ireturn, 1) := by decide +kernel
theorem dX11_cable_30 : decode cX11_cable 30 = .ok (.aload_n 0, 1) := by decide +kernel
theorem dX11_cable_31 : decode cX11_cable 31 = .ok (.iconst (-1), 1) := by decide +kernel
theorem dX11_cable_32 : decode cX11_cable 32 = .ok (.putfield 34, 3) := by decide +kernel
theorem dX11_cable_35 : decode cX11_cable 35 = .ok (.aload_n 0, 1) := by decide +kernel
theorem dX11_cable_36 : decode cX11_cable 36 = .ok (.aload_n 0, 1) := by decide +kernel
theorem dX11_cable_37 : decode cX11_cable 37 = .ok (.getfield 133, 3) := by decide +kernel
theorem dX11_cable_40 : decode cX11_cable 40 = .ok (.putfield 81, 3) := by decide +kernel
theorem dX11_cable_43 : decode cX11_cable 43 = .ok (.aload_n 0, 1) := by decide +kernel
theorem dX11_cable_44 : decode cX11_cable 44 = .ok (.aload_n 0, 1) := by decide +kernel
theorem dX11_cable_45 : decode cX11_cable 45 = .ok (.getfield 152, 3) := by decide +kernel
theorem dX11_cable_48 : decode cX11_cable 48 = .ok (.putfield 92, 3) := by decide +kernel
theorem dX11_cable_51 : decode cX11_cable 51 = .ok (.iconst 0, 1) := by decide +kernel
theorem dX11_cable_52 : decode cX11_cable 52 = .ok (.istore_n 2, 1) := by decide +kernel
theorem dX11_cable_53 : decode cX11_cable 53 = .ok (.iload_n 2, 1) := by decide +kernel
theorem dX11_cable_54 : decode cX11_cable 54 = .ok (.iconst 5, 1) := by decide +kernel
theorem dX11_cable_55 : decode cX11_cable 55 = .ok (.if_icmp .ge 47, 3) := by decide +kernel
theorem dX11_cable_58 : decode cX11_cable 58 = .ok (.aload_n 0, 1) := by decide +kernel
theorem dX11_cable_59 : decode cX11_cable 59 = .ok (.getfield 7, 3) := by decide +kernel
theorem dX11_cable_62 : decode cX11_cable 62 = .ok (.iload_n 2, 1) := by decide +kernel
theorem dX11_cable_63 : decode cX11_cable 63 = .ok (.aload_n 0, 1) := by decide +kernel
theorem dX11_cable_64 : decode cX11_cable 64 = .ok (.getfield 38, 3) := by decide +kernel
theorem dX11_cable_67 : decode cX11_cable 67 = .ok (.iload_n 2, 1) := by decide +kernel
theorem dX11_cable_68 : decode cX11_cable 68 = .ok (.iaload, 1) := by decide +kernel
theorem dX11_cable_69 : decode cX11_cable 69 = .ok (.iastore, 1) := by decide +kernel
theorem dX11_cable_70 : decode cX11_cable 70 = .ok (.aload_n 0, 1) := by decide +kernel
theorem dX11_cable_71 : decode cX11_cable 71 = .ok (.getfield 13, 3) := by decide +kernel
theorem dX11_cable_74 : decode cX11_cable 74 = .ok (.iload_n 2, 1) := by decide +kernel
theorem dX11_cable_75 : decode cX11_cable 75 = .ok (.aload_n 0, 1) := by decide +kernel
theorem dX11_cable_76 : decode cX11_cable 76 = .ok (.getfield 41, 3) := by decide +kernel
theorem dX11_cable_79 : decode cX11_cable 79 = .ok (.iload_n 2, 1) := by decide +kernel
theorem dX11_cable_80 : decode cX11_cable 80 = .ok (.iaload, 1) := by decide +kernel
theorem dX11_cable_81 : decode cX11_cable 81 = .ok (.iastore, 1) := by decide +kernel
theorem dX11_cable_82 : decode cX11_cable 82 = .ok (.aload_n 0, 1) := by decide +kernel
theorem dX11_cable_83 : decode cX11_cable 83 = .ok (.getfield 16, 3) := by decide +kernel
theorem dX11_cable_86 : decode cX11_cable 86 = .ok (.iload_n 2, 1) := by decide +kernel
theorem dX11_cable_87 : decode cX11_cable 87 = .ok (.iconst 0, 1) := by decide +kernel
theorem dX11_cable_88 : decode cX11_cable 88 = .ok (.iastore, 1) := by decide +kernel
theorem dX11_cable_89 : decode cX11_cable 89 = .ok (.aload_n 0, 1) := by decide +kernel
theorem dX11_cable_90 : decode cX11_cable 90 = .ok (.getfield 19, 3) := by decide +kernel
theorem dX11_cable_93 : decode cX11_cable 93 = .ok (.iload_n 2, 1) := by decide +kernel
theorem dX11_cable_94 : decode cX11_cable 94 = .ok (.iconst 0, 1) := by decide +kernel
theorem dX11_cable_95 : decode cX11_cable 95 = .ok (.iastore, 1) := by decide +kernel
theorem dX11_cable_96 : decode cX11_cable 96 = .ok (.iinc 2 1, 3) := by decide +kernel
theorem dX11_cable_99 : decode cX11_cable 99 = .ok (.goto (-46), 3) := by decide +kernel
theorem dX11_cable_102 : decode cX11_cable 102 = .ok (.aload_n 0, 1) := by decide +kernel
theorem dX11_cable_103 : decode cX11_cable 103 = .ok (.iconst 0, 1) := by decide +kernel
theorem dX11_cable_104 : decode cX11_cable 104 = .ok (.putfield 170, 3) := by decide +kernel
theorem dX11_cable_107 : decode cX11_cable 107 = .ok (.aload_n 0, 1) := by decide +kernel
theorem dX11_cable_108 : decode cX11_cable 108 = .ok (.iconst 0, 1) := by decide +kernel
theorem dX11_cable_109 : decode cX11_cable 109 = .ok (.putfield 173, 3) := by decide +kernel
theorem dX11_cable_112 : decode cX11_cable 112 = .ok (.aload_n 0, 1) := by decide +kernel
theorem dX11_cable_113 : decode cX11_cable 113 = .ok (.iconst 0, 1) := by decide +kernel
theorem dX11_cable_114 : decode cX11_cable 114 = .ok (.putfield 176, 3) := by decide +kernel
theorem dX11_cable_117 : decode cX11_cable 117 = .ok (.aload_n 0, 1) := by decide +kernel
theorem dX11_cable_118 : decode cX11_cable 118 = .ok (.iconst 0, 1) := by decide +kernel
theorem dX11_cable_119 : decode cX11_cable 119 = .ok (.putfield 179, 3) := by decide +kernel
theorem dX11_cable_122 : decode cX11_cable 122 = .ok (.aload_n 0, 1) := by decide +kernel
theorem dX11_cable_123 : decode cX11_cable 123 = .ok (.iconst 0, 1) := by decide +kernel
theorem dX11_cable_124 : decode cX11_cable 124 = .ok (.putfield 182, 3) := by decide +kernel
theorem dX11_cable_127 : decode cX11_cable 127 = .ok (.aload_n 0, 1) := by decide +kernel
theorem dX11_cable_128 : decode cX11_cable 128 = .ok (.iconst 0, 1) := by decide +kernel
theorem dX11_cable_129 : decode cX11_cable 129 = .ok (.putfield 185, 3) := by decide +kernel
theorem dX11_cable_132 : decode cX11_cable 132 = .ok (.aload_n 0, 1) := by decide +kernel
theorem dX11_cable_133 : decode cX11_cable 133 = .ok (.iconst 0, 1) := by decide +kernel
theorem dX11_cable_134 : decode cX11_cable 134 = .ok (.putfield 188, 3) := by decide +kernel
theorem dX11_cable_137 : decode cX11_cable 137 = .ok (.aload_n 0, 1) := by decide +kernel
theorem dX11_cable_138 : decode cX11_cable 138 = .ok (.getfield 54, 3) := by decide +kernel
theorem dX11_cable_141 : decode cX11_cable 141 = .ok (.iconst 0, 1) := by decide +kernel
theorem dX11_cable_142 : decode cX11_cable 142 = .ok (.iconst 0, 1) := by decide +kernel
theorem dX11_cable_143 : decode cX11_cable 143 = .ok (.iastore, 1) := by decide +kernel
theorem dX11_cable_144 : decode cX11_cable 144 = .ok (.aload_n 0, 1) := by decide +kernel
theorem dX11_cable_145 : decode cX11_cable 145 = .ok (.getfield 54, 3) := by decide +kernel
theorem dX11_cable_148 : decode cX11_cable 148 = .ok (.iconst 1, 1) := by decide +kernel
theorem dX11_cable_149 : decode cX11_cable 149 = .ok (.iconst 0, 1) := by decide +kernel
theorem dX11_cable_150 : decode cX11_cable 150 = .ok (.iastore, 1) := by decide +kernel
theorem dX11_cable_151 : decode cX11_cable 151 = .ok (.aload_n 0, 1) := by decide +kernel
theorem dX11_cable_152 : decode cX11_cable 152 = .ok (.getfield 81, 3) := by decide +kernel
theorem dX11_cable_155 : decode cX11_cable 155 = .ok (.ireturn, 1) := by decide +kernel
theorem dX11_fault_0 : decode cX11_fault 0 = .ok (.aload_n 0, 1) := by decide +kernel
theorem dX11_fault_1 : decode cX11_fault 1 = .ok (.getfield 34, 3) := by decide +kernel
theorem dX11_fault_4 : decode cX11_fault 4 = .ok (.ireturn, 1) := by decide +kernel
theorem dX11_passesBy_0 : decode cX11_passesBy 0 = .ok (.iload_n 0, 1) := by decide +kernel
theorem dX11_passesBy_1 : decode cX11_passesBy 1 = .ok (.ifCond .eq 19, 3) := by decide +kernel
theorem dX11_passesBy_4 : decode cX11_passesBy 4 = .ok (.iload_n 0, 1) := by decide +kernel
theorem dX11_passesBy_5 : decode cX11_passesBy 5 = .ok (.iconst 2, 1) := by decide +kernel
theorem dX11_passesBy_6 : decode cX11_passesBy 6 = .ok (.if_icmp .eq 14, 3) := by decide +kernel
theorem dX11_passesBy_9 : decode cX11_passesBy 9 = .ok (.iload_n 0, 1) := by decide +kernel
theorem dX11_passesBy_10 : decode cX11_passesBy 10 = .ok (.iconst 3, 1) := by decide +kernel
theorem dX11_passesBy_11 : decode cX11_passesBy 11 = .ok (.if_icmp .ne 13, 3) := by decide +kernel
theorem dX11_passesBy_14 : decode cX11_passesBy 14 = .ok (.iload_n 1, 1) := by decide +kernel
theorem dX11_passesBy_15 : decode cX11_passesBy 15 = .ok (.iconst 2, 1) := by decide +kernel
theorem dX11_passesBy_16 : decode cX11_passesBy 16 = .ok (.irem, 1) := by decide +kernel
theorem dX11_passesBy_17 : decode cX11_passesBy 17 = .ok (.ifCond .ne 7, 3) := by decide +kernel
theorem dX11_passesBy_20 : decode cX11_passesBy 20 = .ok (.iconst 1, 1) := by decide +kernel
theorem dX11_passesBy_21 : decode cX11_passesBy 21 = .ok (.goto 4, 3) := by decide +kernel
theorem dX11_passesBy_24 : decode cX11_passesBy 24 = .ok (.iconst 0, 1) := by decide +kernel
theorem dX11_passesBy_25 : decode cX11_passesBy 25 = .ok (.ireturn, 1) := by decide +kernel
theorem dX11_farEndOf_0 : decode cX11_farEndOf 0 = .ok (.iconst (-1), 1) := by decide +kernel
theorem dX11_farEndOf_1 : decode cX11_farEndOf 1 = .ok (.istore_n 3, 1) := by decide +kernel
theorem dX11_farEndOf_2 : decode cX11_farEndOf 2 = .ok (.iconst 0, 1) := by decide +kernel
theorem dX11_farEndOf_3 : decode cX11_farEndOf 3 = .ok (.istore 4, 2) := by decide +kernel
theorem dX11_farEndOf_5 : decode cX11_farEndOf 5 = .ok (.iload 4, 2) := by decide +kernel
theorem dX11_farEndOf_7 : decode cX11_farEndOf 7 = .ok (.aload_n 0, 1) := by decide +kernel
theorem dX11_farEndOf_8 : decode cX11_farEndOf 8 = .ok (.getfield 81, 3) := by decide +kernel
theorem dX11_farEndOf_11 : decode cX11_farEndOf 11 = .ok (.if_icmp .ge 24, 3) := by decide +kernel
theorem dX11_farEndOf_14 : decode cX11_farEndOf 14 = .ok (.aload_n 1, 1) := by decide +kernel
theorem dX11_farEndOf_15 : decode cX11_farEndOf 15 = .ok (.iload 4, 2) := by decide +kernel
theorem dX11_farEndOf_17 : decode cX11_farEndOf 17 = .ok (.iaload, 1) := by decide +kernel
theorem dX11_farEndOf_18 : decode cX11_farEndOf 18 = .ok (.iload_n 2, 1) := by decide +kernel
theorem dX11_farEndOf_19 : decode cX11_farEndOf 19 = .ok (.if_icmp .ne 8, 3) := by decide +kernel
theorem dX11_farEndOf_22 : decode cX11_farEndOf 22 = .ok (.iload 4, 2) := by decide +kernel
theorem dX11_farEndOf_24 : decode cX11_farEndOf 24 = .ok (.goto 4, 3) := by decide +kernel
theorem dX11_farEndOf_27 : decode cX11_farEndOf 27 = .ok (.iload_n 3, 1) := by decide +kernel
theorem dX11_farEndOf_28 : decode cX11_farEndOf 28 = .ok (.istore_n 3, 1) := by decide +kernel
theorem dX11_farEndOf_29 : decode cX11_farEndOf 29 = .ok (.iinc 4 1, 3) := by decide +kernel
theorem dX11_farEndOf_32 : decode cX11_farEndOf 32 = .ok (.goto (-27), 3) := by decide +kernel
theorem dX11_farEndOf_35 : decode cX11_farEndOf 35 = .ok (.iload_n 3, 1) := by decide +kernel
theorem dX11_farEndOf_36 : decode cX11_farEndOf 36 = .ok (.ireturn, 1) := by decide +kernel
theorem dX11_together_0 : decode cX11_together 0 = .ok (.iload_n 0, 1) := by decide +kernel
theorem dX11_together_1 : decode cX11_together 1 = .ok (.iload_n 1, 1) := by decide +kernel
theorem dX11_together_2 : decode cX11_together 2 = .ok (.iand, 1) := by decide +kernel
theorem dX11_together_3 : decode cX11_together 3 = .ok (.ifCond .ne 7, 3) := by decide +kernel
theorem dX11_together_6 : decode cX11_together 6 = .ok (.iload_n 0, 1) := by decide +kernel
theorem dX11_together_7 : decode cX11_together 7 = .ok (.goto 6, 3) := by decide +kernel
theorem dX11_together_10 : decode cX11_together 10 = .ok (.iload_n 0, 1) := by decide +kernel
theorem dX11_together_11 : decode cX11_together 11 = .ok (.iload_n 1, 1) := by decide +kernel
theorem dX11_together_12 : decode cX11_together 12 = .ok (.ior, 1) := by decide +kernel
theorem dX11_together_13 : decode cX11_together 13 = .ok (.ireturn, 1) := by decide +kernel
theorem dX11_joinedOnce_0 : decode cX11_joinedOnce 0 = .ok (.iload_n 1, 1) := by decide +kernel
theorem dX11_joinedOnce_1 : decode cX11_joinedOnce 1 = .ok (.istore 8, 2) := by decide +kernel
theorem dX11_joinedOnce_3 : decode cX11_joinedOnce 3 = .ok (.iconst 0, 1) := by decide +kernel
theorem dX11_joinedOnce_4 : decode cX11_joinedOnce 4 = .ok (.istore 9, 2) := by decide +kernel
theorem dX11_joinedOnce_6 : decode cX11_joinedOnce 6 = .ok (.iload 9, 2) := by decide +kernel
theorem dX11_joinedOnce_8 : decode cX11_joinedOnce 8 = .ok (.aload_n 0, 1) := by decide +kernel
theorem dX11_joinedOnce_9 : decode cX11_joinedOnce 9 = .ok (.getfield 81, 3) := by decide +kernel
theorem dX11_joinedOnce_12 : decode cX11_joinedOnce 12 = .ok (.if_icmp .ge 142, 3) := by decide +kernel
theorem dX11_joinedOnce_15 : decode cX11_joinedOnce 15 = .ok (.iload 7, 2) := by decide +kernel
theorem dX11_joinedOnce_17 : decode cX11_joinedOnce 17 = .ok (.iload 9, 2) := by decide +kernel
theorem dX11_joinedOnce_19 : decode cX11_joinedOnce 19 = .ok (.invokestatic 99, 3) := by decide +kernel
theorem dX11_joinedOnce_22 : decode cX11_joinedOnce 22 = .ok (.ifCond .eq 7, 3) := by decide +kernel
theorem dX11_joinedOnce_25 : decode cX11_joinedOnce 25 = .ok (.iconst 1, 1) := by decide +kernel
theorem dX11_joinedOnce_26 : decode cX11_joinedOnce 26 = .ok (.goto 10, 3) := by decide +kernel
theorem dX11_joinedOnce_29 : decode cX11_joinedOnce 29 = .ok (.aload_n 0, 1) := by decide +kernel
theorem dX11_joinedOnce_30 : decode cX11_joinedOnce 30 = .ok (.getfield 13, 3) := by decide +kernel
theorem dX11_joinedOnce_33 : decode cX11_joinedOnce 33 = .ok (.iload 9, 2) := by decide +kernel
theorem dX11_joinedOnce_35 : decode cX11_joinedOnce 35 = .ok (.iaload, 1) := by decide +kernel
theorem dX11_joinedOnce_36 : decode cX11_joinedOnce 36 = .ok (.istore 10, 2) := by decide +kernel
theorem dX11_joinedOnce_38 : decode cX11_joinedOnce 38 = .ok (.iload 10, 2) := by decide +kernel
theorem dX11_joinedOnce_40 : decode cX11_joinedOnce 40 = .ok (.iload_n 3, 1) := by decide +kernel
theorem dX11_joinedOnce_41 : decode cX11_joinedOnce 41 = .ok (.invokestatic 191, 3) := by decide +kernel
theorem dX11_joinedOnce_44 : decode cX11_joinedOnce 44 = .ok (.ifCond .eq 26, 3) := by decide +kernel
theorem dX11_joinedOnce_47 : decode cX11_joinedOnce 47 = .ok (.iload 8, 2) := by decide +kernel
theorem dX11_joinedOnce_49 : decode cX11_joinedOnce 49 = .ok (.iconst 1, 1) := by decide +kernel
theorem dX11_joinedOnce_50 : decode cX11_joinedOnce 50 = .ok (.iload 9, 2) := by decide +kernel
theorem dX11_joinedOnce_52 : decode cX11_joinedOnce 52 = .ok (.ishl, 1) := by decide +kernel
theorem dX11_joinedOnce_53 : decode cX11_joinedOnce 53 = .ok (.bipush 32, 2) := by decide +kernel
theorem dX11_joinedOnce_55 : decode cX11_joinedOnce 55 = .ok (.aload_n 0, 1) := by decide +kernel
theorem dX11_joinedOnce_56 : decode cX11_joinedOnce 56 = .ok (.aload_n 2, 1) := by decide +kernel
theorem dX11_joinedOnce_57 : decode cX11_joinedOnce 57 = .ok (.iload 9, 2) := by decide +kernel
theorem dX11_joinedOnce_59 : decode cX11_joinedOnce 59 = .ok (.invokevirtual 194, 3) := by decide +kernel
theorem dX11_joinedOnce_62 : decode cX11_joinedOnce 62 = .ok (.ishl, 1) := by decide +kernel
theorem dX11_joinedOnce_63 : decode cX11_joinedOnce 63 = .ok (.ior, 1) := by decide +kernel
theorem dX11_joinedOnce_64 : decode cX11_joinedOnce 64 = .ok (.invokestatic 198, 3) := by decide +kernel
theorem dX11_joinedOnce_67 : decode cX11_joinedOnce 67 = .ok (.goto 5, 3) := by decide +kernel
theorem dX11_joinedOnce_70 : decode cX11_joinedOnce 70 = .ok (.iload 8, 2) := by decide +kernel
theorem dX11_joinedOnce_72 : decode cX11_joinedOnce 72 = .ok (.istore 8, 2) := by decide +kernel
theorem dX11_joinedOnce_74 : decode cX11_joinedOnce 74 = .ok (.iload 10, 2) := by decide +kernel
theorem dX11_joinedOnce_76 : decode cX11_joinedOnce 76 = .ok (.iconst 2, 1) := by decide +kernel
theorem dX11_joinedOnce_77 : decode cX11_joinedOnce 77 = .ok (.if_icmp .ne 19, 3) := by decide +kernel
theorem dX11_joinedOnce_80 : decode cX11_joinedOnce 80 = .ok (.iload 8, 2) := by decide +kernel
theorem dX11_joinedOnce_82 : decode cX11_joinedOnce 82 = .ok (.iconst 1, 1) := by decide +kernel
theorem dX11_joinedOnce_83 : decode cX11_joinedOnce 83 = .ok (.iload 9, 2) := by decide +kernel
theorem dX11_joinedOnce_85 : decode cX11_joinedOnce 85 = .ok (.ishl, 1) := by decide +kernel
theorem dX11_joinedOnce_86 : decode cX11_joinedOnce 86 = .ok (.sipush 1024, 3) := by decide +kernel
theorem dX11_joinedOnce_89 : decode cX11_joinedOnce 89 = .ok (.ior, 1) := by decide +kernel
theorem dX11_joinedOnce_90 : decode cX11_joinedOnce 90 = .ok (.invokestatic 198, 3) := by decide +kernel
theorem dX11_joinedOnce_93 : decode cX11_joinedOnce 93 = .ok (.goto 5, 3) := by decide +kernel
theorem dX11_joinedOnce_96 : decode cX11_joinedOnce 96 = .ok (.iload 8, 2) := by decide +kernel
theorem dX11_joinedOnce_98 : decode cX11_joinedOnce 98 = .ok (.istore 8, 2) := by decide +kernel
theorem dX11_joinedOnce_100 : decode cX11_joinedOnce 100 = .ok (.iconst 0, 1) := by decide +kernel
theorem dX11_joinedOnce_101 : decode cX11_joinedOnce 101 = .ok (.istore 11, 2) := by decide +kernel
theorem dX11_joinedOnce_103 : decode cX11_joinedOnce 103 = .ok (.iload 11, 2) := by decide +kernel
theorem dX11_joinedOnce_105 : decode cX11_joinedOnce 105 = .ok (.iload 9, 2) := by decide +kernel
theorem dX11_joinedOnce_107 : decode cX11_joinedOnce 107 = .ok (.if_icmp .ge 41, 3) := by decide +kernel
theorem dX11_joinedOnce_110 : decode cX11_joinedOnce 110 = .ok (.aload_n 0, 1) := by decide +kernel
theorem dX11_joinedOnce_111 : decode cX11_joinedOnce 111 = .ok (.iload 11, 2) := by decide +kernel
theorem dX11_joinedOnce_113 : decode cX11_joinedOnce 113 = .ok (.iload 9, 2) := by decide +kernel
theorem dX11_joinedOnce_115 : decode cX11_joinedOnce 115 = .ok (.invokevirtual 103, 3) := by decide +kernel
theorem dX11_joinedOnce_118 : decode cX11_joinedOnce 118 = .ok (.ifCond .eq 20, 3) := by decide +kernel
theorem dX11_joinedOnce_121 : decode cX11_joinedOnce 121 = .ok (.iload 8, 2) := by decide +kernel
theorem dX11_joinedOnce_123 : decode cX11_joinedOnce 123 = .ok (.iconst 1, 1) := by decide +kernel
theorem dX11_joinedOnce_124 : decode cX11_joinedOnce 124 = .ok (.iload 11, 2) := by decide +kernel
theorem dX11_joinedOnce_126 : decode cX11_joinedOnce 126 = .ok (.ishl, 1) := by decide +kernel
theorem dX11_joinedOnce_127 : decode cX11_joinedOnce 127 = .ok (.iconst 1, 1) := by decide +kernel
theorem dX11_joinedOnce_128 : decode cX11_joinedOnce 128 = .ok (.iload 9, 2) := by decide +kernel
theorem dX11_joinedOnce_130 : decode cX11_joinedOnce 130 = .ok (.ishl, 1) := by decide +kernel
theorem dX11_joinedOnce_131 : decode cX11_joinedOnce 131 = .ok (.ior, 1) := by decide +kernel
theorem dX11_joinedOnce_132 : decode cX11_joinedOnce 132 = .ok (.invokestatic 198, 3) := by decide +kernel
theorem dX11_joinedOnce_135 : decode cX11_joinedOnce 135 = .ok (.goto 5, 3) := by decide +kernel
theorem dX11_joinedOnce_138 : decode cX11_joinedOnce 138 = .ok (.iload 8, 2) := by decide +kernel
theorem dX11_joinedOnce_140 : decode cX11_joinedOnce 140 = .ok (.istore 8, 2) := by decide +kernel
theorem dX11_joinedOnce_142 : decode cX11_joinedOnce 142 = .ok (.iinc 11 1, 3) := by decide +kernel
theorem dX11_joinedOnce_145 : decode cX11_joinedOnce 145 = .ok (.goto (-42), 3) := by decide +kernel
theorem dX11_joinedOnce_148 : decode cX11_joinedOnce 148 = .ok (.iinc 9 1, 3) := by decide +kernel
theorem dX11_joinedOnce_151 : decode cX11_joinedOnce 151 = .ok (.goto (-145), 3) := by decide +kernel
theorem dX11_joinedOnce_154 : decode cX11_joinedOnce 154 = .ok (.iconst 1, 1) := by decide +kernel
theorem dX11_joinedOnce_155 : decode cX11_joinedOnce 155 = .ok (.istore 9, 2) := by decide +kernel
theorem dX11_joinedOnce_157 : decode cX11_joinedOnce 157 = .ok (.iload 9, 2) := by decide +kernel
theorem dX11_joinedOnce_159 : decode cX11_joinedOnce 159 = .ok (.iconst 5, 1) := by decide +kernel
theorem dX11_joinedOnce_160 : decode cX11_joinedOnce 160 = .ok (.if_icmp .gt 100, 3) := by decide +kernel
theorem dX11_joinedOnce_163 : decode cX11_joinedOnce 163 = .ok (.iconst 0, 1) := by decide +kernel
theorem dX11_joinedOnce_164 : decode cX11_joinedOnce 164 = .ok (.istore 10, 2) := by decide +kernel
theorem dX11_joinedOnce_166 : decode cX11_joinedOnce 166 = .ok (.iconst 0, 1) := by decide +kernel
theorem dX11_joinedOnce_167 : decode cX11_joinedOnce 167 = .ok (.istore 11, 2) := by decide +kernel
theorem dX11_joinedOnce_169 : decode cX11_joinedOnce 169 = .ok (.iconst 0, 1) := by decide +kernel
theorem dX11_joinedOnce_170 : decode cX11_joinedOnce 170 = .ok (.istore 12, 2) := by decide +kernel
theorem dX11_joinedOnce_172 : decode cX11_joinedOnce 172 = .ok (.iload 12, 2) := by decide +kernel
theorem dX11_joinedOnce_174 : decode cX11_joinedOnce 174 = .ok (.aload_n 0, 1) := by decide +kernel
theorem dX11_joinedOnce_175 : decode cX11_joinedOnce 175 = .ok (.getfield 81, 3) := by decide +kernel
theorem dX11_joinedOnce_178 : decode cX11_joinedOnce 178 = .ok (.if_icmp .ge 62, 3) := by decide +kernel
theorem dX11_joinedOnce_181 : decode cX11_joinedOnce 181 = .ok (.iload 10, 2) := by decide +kernel
theorem dX11_joinedOnce_183 : decode cX11_joinedOnce 183 = .ok (.aload 4, 2) := by decide +kernel
theorem dX11_joinedOnce_185 : decode cX11_joinedOnce 185 = .ok (.iload 6, 2) := by decide +kernel
theorem dX11_joinedOnce_187 : decode cX11_joinedOnce 187 = .ok (.iload 12, 2) := by decide +kernel
theorem dX11_joinedOnce_189 : decode cX11_joinedOnce 189 = .ok (.iadd, 1) := by decide +kernel
theorem dX11_joinedOnce_190 : decode cX11_joinedOnce 190 = .ok (.iaload, 1) := by decide +kernel
theorem dX11_joinedOnce_191 : decode cX11_joinedOnce 191 = .ok (.iload 9, 2) := by decide +kernel
theorem dX11_joinedOnce_193 : decode cX11_joinedOnce 193 = .ok (.if_icmp .ne 10, 3) := by decide +kernel
theorem dX11_joinedOnce_196 : decode cX11_joinedOnce 196 = .ok (.iconst 1, 1) := by decide +kernel
theorem dX11_joinedOnce_197 : decode cX11_joinedOnce 197 = .ok (.iload 12, 2) := by decide +kernel
theorem dX11_joinedOnce_199 : decode cX11_joinedOnce 199 = .ok (.ishl, 1) := by decide +kernel
theorem dX11_joinedOnce_200 : decode cX11_joinedOnce 200 = .ok (.goto 4, 3) := by decide +kernel
theorem dX11_joinedOnce_203 : decode cX11_joinedOnce 203 = .ok (.iconst 0, 1) := by decide +kernel
theorem dX11_joinedOnce_204 : decode cX11_joinedOnce 204 = .ok (.ior, 1) := by decide +kernel
theorem dX11_joinedOnce_205 : decode cX11_joinedOnce 205 = .ok (.istore 10, 2) := by decide +kernel
theorem dX11_joinedOnce_207 : decode cX11_joinedOnce 207 = .ok (.iload 11, 2) := by decide +kernel
theorem dX11_joinedOnce_209 : decode cX11_joinedOnce 209 = .ok (.aload 5, 2) := by decide +kernel
theorem dX11_joinedOnce_211 : decode cX11_joinedOnce 211 = .ok (.iload 6, 2) := by decide +kernel
theorem dX11_joinedOnce_213 : decode cX11_joinedOnce 213 = .ok (.iload 12, 2) := by decide +kernel
theorem dX11_joinedOnce_215 : decode cX11_joinedOnce 215 = .ok (.iadd, 1) := by decide +kernel
theorem dX11_joinedOnce_216 : decode cX11_joinedOnce 216 = .ok (.iaload, 1) := by decide +kernel
theorem dX11_joinedOnce_217 : decode cX11_joinedOnce 217 = .ok (.iload 9, 2) := by decide +kernel
theorem dX11_joinedOnce_219 : decode cX11_joinedOnce 219 = .ok (.if_icmp .ne 11, 3) := by decide +kernel
theorem dX11_joinedOnce_222 : decode cX11_joinedOnce 222 = .ok (.bipush 32, 2) := by decide +kernel
theorem dX11_joinedOnce_224 : decode cX11_joinedOnce 224 = .ok (.iload 12, 2) := by decide +kernel
theorem dX11_joinedOnce_226 : decode cX11_joinedOnce 226 = .ok (.ishl, 1) := by decide +kernel
theorem dX11_joinedOnce_227 : decode cX11_joinedOnce 227 = .ok (.goto 4, 3) := by decide +kernel
theorem dX11_joinedOnce_230 : decode cX11_joinedOnce 230 = .ok (.iconst 0, 1) := by decide +kernel
theorem dX11_joinedOnce_231 : decode cX11_joinedOnce 231 = .ok (.ior, 1) := by decide +kernel
theorem dX11_joinedOnce_232 : decode cX11_joinedOnce 232 = .ok (.istore 11, 2) := by decide +kernel
theorem dX11_joinedOnce_234 : decode cX11_joinedOnce 234 = .ok (.iinc 12 1, 3) := by decide +kernel
theorem dX11_joinedOnce_237 : decode cX11_joinedOnce 237 = .ok (.goto (-65), 3) := by decide +kernel
theorem dX11_joinedOnce_240 : decode cX11_joinedOnce 240 = .ok (.iload 8, 2) := by decide +kernel
theorem dX11_joinedOnce_242 : decode cX11_joinedOnce 242 = .ok (.iload 10, 2) := by decide +kernel
theorem dX11_joinedOnce_244 : decode cX11_joinedOnce 244 = .ok (.invokestatic 198, 3) := by decide +kernel
theorem dX11_joinedOnce_247 : decode cX11_joinedOnce 247 = .ok (.iload 11, 2) := by decide +kernel
theorem dX11_joinedOnce_249 : decode cX11_joinedOnce 249 = .ok (.invokestatic 198, 3) := by decide +kernel
theorem dX11_joinedOnce_252 : decode cX11_joinedOnce 252 = .ok (.istore 8, 2) := by decide +kernel
theorem dX11_joinedOnce_254 : decode cX11_joinedOnce 254 = .ok (.iinc 9 1, 3) := by decide +kernel
theorem dX11_joinedOnce_257 : decode cX11_joinedOnce 257 = .ok (.goto (-100), 3) := by decide +kernel
theorem dX11_joinedOnce_260 : decode cX11_joinedOnce 260 = .ok (.iload 8, 2) := by decide +kernel
theorem dX11_joinedOnce_262 : decode cX11_joinedOnce 262 = .ok (.ireturn, 1) := by decide +kernel
theorem dX11_joined_0 : decode cX11_joined 0 = .ok (.iconst 1, 1) := by decide +kernel
theorem dX11_joined_1 : decode cX11_joined 1 = .ok (.iload_n 1, 1) := by decide +kernel
theorem dX11_joined_2 : decode cX11_joined 2 = .ok (.ishl, 1) := by decide +kernel
theorem dX11_joined_3 : decode cX11_joined 3 = .ok (.istore 8, 2) := by decide +kernel
theorem dX11_joined_5 : decode cX11_joined 5 = .ok (.aload_n 0, 1) := by decide +kernel
theorem dX11_joined_6 : decode cX11_joined 6 = .ok (.iload 8, 2) := by decide +kernel
theorem dX11_joined_8 : decode cX11_joined 8 = .ok (.aload_n 2, 1) := by decide +kernel
theorem dX11_joined_9 : decode cX11_joined 9 = .ok (.iload_n 3, 1) := by decide +kernel
theorem dX11_joined_10 : decode cX11_joined 10 = .ok (.aload 4, 2) := by decide +kernel
theorem dX11_joined_12 : decode cX11_joined 12 = .ok (.aload 5, 2) := by decide +kernel
theorem dX11_joined_14 : decode cX11_joined 14 = .ok (.iload 6, 2) := by decide +kernel
theorem dX11_joined_16 : decode cX11_joined 16 = .ok (.iload 7, 2) := by decide +kernel
theorem dX11_joined_18 : decode cX11_joined 18 = .ok (.invokevirtual 201, 3) := by decide +kernel
theorem dX11_joined_21 : decode cX11_joined 21 = .ok (.istore 9, 2) := by decide +kernel
theorem dX11_joined_23 : decode cX11_joined 23 = .ok (.iload 9, 2) := by decide +kernel
theorem dX11_joined_25 : decode cX11_joined 25 = .ok (.iload 8, 2) := by decide +kernel
theorem dX11_joined_27 : decode cX11_joined 27 = .ok (.if_icmp .eq 28, 3) := by decide +kernel
theorem dX11_joined_30 : decode cX11_joined 30 = .ok (.iload 9, 2) := by decide +kernel
theorem dX11_joined_32 : decode cX11_joined 32 = .ok (.istore 8, 2) := by decide +kernel
theorem dX11_joined_34 : decode cX11_joined 34 = .ok (.aload_n 0, 1) := by decide +kernel
theorem dX11_joined_35 : decode cX11_joined 35 = .ok (.iload 8, 2) := by decide +kernel
theorem dX11_joined_37 : decode cX11_joined 37 = .ok (.aload_n 2, 1) := by decide +kernel
theorem dX11_joined_38 : decode cX11_joined 38 = .ok (.iload_n 3, 1) := by decide +kernel
theorem dX11_joined_39 : decode cX11_joined 39 = .ok (.aload 4, 2) := by decide +kernel
theorem dX11_joined_41 : decode cX11_joined 41 = .ok (.aload 5, 2) := by decide +kernel
theorem dX11_joined_43 : decode cX11_joined 43 = .ok (.iload 6, 2) := by decide +kernel
theorem dX11_joined_45 : decode cX11_joined 45 = .ok (.iload 7, 2) := by decide +kernel
theorem dX11_joined_47 : decode cX11_joined 47 = .ok (.invokevirtual 201, 3) := by decide +kernel
theorem dX11_joined_50 : decode cX11_joined 50 = .ok (.istore 9, 2) := by decide +kernel
theorem dX11_joined_52 : decode cX11_joined 52 = .ok (.goto (-29), 3) := by decide +kernel
theorem dX11_joined_55 : decode cX11_joined 55 = .ok (.iload 8, 2) := by decide +kernel
theorem dX11_joined_57 : decode cX11_joined 57 = .ok (.ireturn, 1) := by decide +kernel
theorem dX11_netNow_0 : decode cX11_netNow 0 = .ok (.aload_n 0, 1) := by decide +kernel
theorem dX11_netNow_1 : decode cX11_netNow 1 = .ok (.iconst 5, 1) := by decide +kernel
theorem dX11_netNow_2 : decode cX11_netNow 2 = .ok (.iload_n 1, 1) := by decide +kernel
theorem dX11_netNow_3 : decode cX11_netNow 3 = .ok (.imul, 1) := by decide +kernel
theorem dX11_netNow_4 : decode cX11_netNow 4 = .ok (.iload_n 2, 1) := by decide +kernel
theorem dX11_netNow_5 : decode cX11_netNow 5 = .ok (.iadd, 1) := by decide +kernel
theorem dX11_netNow_6 : decode cX11_netNow 6 = .ok (.aload_n 0, 1) := by decide +kernel
theorem dX11_netNow_7 : decode cX11_netNow 7 = .ok (.getfield 7, 3) := by decide +kernel
theorem dX11_netNow_10 : decode cX11_netNow 10 = .ok (.aload_n 0, 1) := by decide +kernel
theorem dX11_netNow_11 : decode cX11_netNow 11 = .ok (.getfield 173, 3) := by decide +kernel
theorem dX11_netNow_14 : decode cX11_netNow 14 = .ok (.aload_n 0, 1) := by decide +kernel
theorem dX11_netNow_15 : decode cX11_netNow 15 = .ok (.getfield 16, 3) := by decide +kernel
theorem dX11_netNow_18 : decode cX11_netNow 18 = .ok (.aload_n 0, 1) := by decide +kernel
theorem dX11_netNow_19 : decode cX11_netNow 19 = .ok (.getfield 19, 3) := by decide +kernel
theorem dX11_netNow_22 : decode cX11_netNow 22 = .ok (.iconst 0, 1) := by decide +kernel
theorem dX11_netNow_23 : decode cX11_netNow 23 = .ok (.iload_n 3, 1) := by decide +kernel
theorem dX11_netNow_24 : decode cX11_netNow 24 = .ok (.invokevirtual 205, 3) := by decide +kernel
theorem dX11_netNow_27 : decode cX11_netNow 27 = .ok (.ireturn, 1) := by decide +kernel
theorem dX11_bitOf_0 : decode cX11_bitOf 0 = .ok (.iload_n 1, 1) := by decide +kernel
theorem dX11_bitOf_1 : decode cX11_bitOf 1 = .ok (.iconst (-1), 1) := by decide +kernel
theorem dX11_bitOf_2 : decode cX11_bitOf 2 = .ok (.if_icmp .ne 8, 3) := by decide +kernel
theorem dX11_bitOf_5 : decode cX11_bitOf 5 = .ok (.bipush 10, 2) := by decide +kernel
theorem dX11_bitOf_7 : decode cX11_bitOf 7 = .ok (.goto 8, 3) := by decide +kernel
theorem dX11_bitOf_10 : decode cX11_bitOf 10 = .ok (.iconst 5, 1) := by decide +kernel
theorem dX11_bitOf_11 : decode cX11_bitOf 11 = .ok (.iload_n 0, 1) := by decide +kernel
theorem dX11_bitOf_12 : decode cX11_bitOf 12 = .ok (.imul, 1) := by decide +kernel
theorem dX11_bitOf_13 : decode cX11_bitOf 13 = .ok (.iload_n 1, 1) := by decide +kernel
theorem dX11_bitOf_14 : decode cX11_bitOf 14 = .ok (.iadd, 1) := by decide +kernel
theorem dX11_bitOf_15 : decode cX11_bitOf 15 = .ok (.ireturn, 1) := by decide +kernel
theorem dX11_ringsNow_0 : decode cX11_ringsNow 0 = .ok (.aload_n 0, 1) := by decide +kernel
theorem dX11_ringsNow_1 : decode cX11_ringsNow 1 = .ok (.aload_n 0, 1) := by decide +kernel
theorem dX11_ringsNow_2 : decode cX11_ringsNow 2 = .ok (.getfield 170, 3) := by decide +kernel
theorem dX11_ringsNow_5 : decode cX11_ringsNow 5 = .ok (.iload_n 1, 1) := by decide +kernel
theorem dX11_ringsNow_6 : decode cX11_ringsNow 6 = .ok (.iload_n 3, 1) := by decide +kernel
theorem dX11_ringsNow_7 : decode cX11_ringsNow 7 = .ok (.invokevirtual 208, 3) := by decide +kernel
theorem dX11_ringsNow_10 : decode cX11_ringsNow 10 = .ok (.aload_n 0, 1) := by decide +kernel
theorem dX11_ringsNow_11 : decode cX11_ringsNow 11 = .ok (.getfield 170, 3) := by decide +kernel
theorem dX11_ringsNow_14 : decode cX11_ringsNow 14 = .ok (.iload_n 2, 1) := by decide +kernel
theorem dX11_ringsNow_15 : decode cX11_ringsNow 15 = .ok (.invokestatic 212, 3) := by decide +kernel
theorem dX11_ringsNow_18 : decode cX11_ringsNow 18 = .ok (.invokestatic 99, 3) := by decide +kernel
theorem dX11_ringsNow_21 : decode cX11_ringsNow 21 = .ok (.ireturn, 1) := by decide +kernel
theorem dX11_goodSet_0 : decode cX11_goodSet 0 = .ok (.iconst 0, 1) := by decide +kernel
theorem dX11_goodSet_1 : decode cX11_goodSet 1 = .ok (.istore_n 1, 1) := by decide +kernel
theorem dX11_goodSet_2 : decode cX11_goodSet 2 = .ok (.iconst 0, 1) := by decide +kernel
theorem dX11_goodSet_3 : decode cX11_goodSet 3 = .ok (.istore_n 2, 1) := by decide +kernel
theorem dX11_goodSet_4 : decode cX11_goodSet 4 = .ok (.iload_n 2, 1) := by decide +kernel
theorem dX11_goodSet_5 : decode cX11_goodSet 5 = .ok (.aload_n 0, 1) := by decide +kernel
theorem dX11_goodSet_6 : decode cX11_goodSet 6 = .ok (.getfield 81, 3) := by decide +kernel
theorem dX11_goodSet_9 : decode cX11_goodSet 9 = .ok (.if_icmp .ge 43, 3) := by decide +kernel
theorem dX11_goodSet_12 : decode cX11_goodSet 12 = .ok (.iload_n 1, 1) := by decide +kernel
theorem dX11_goodSet_13 : decode cX11_goodSet 13 = .ok (.aload_n 0, 1) := by decide +kernel
theorem dX11_goodSet_14 : decode cX11_goodSet 14 = .ok (.iconst 1, 1) := by decide +kernel
theorem dX11_goodSet_15 : decode cX11_goodSet 15 = .ok (.iload_n 2, 1) := by decide +kernel
theorem dX11_goodSet_16 : decode cX11_goodSet 16 = .ok (.iconst 0, 1) := by decide +kernel
theorem dX11_goodSet_17 : decode cX11_goodSet 17 = .ok (.invokevirtual 208, 3) := by decide +kernel
theorem dX11_goodSet_20 : decode cX11_goodSet 20 = .ok (.aload_n 0, 1) := by decide +kernel
theorem dX11_goodSet_21 : decode cX11_goodSet 21 = .ok (.getfield 7, 3) := by decide +kernel
theorem dX11_goodSet_24 : decode cX11_goodSet 24 = .ok (.iload_n 2, 1) := by decide +kernel
theorem dX11_goodSet_25 : decode cX11_goodSet 25 = .ok (.iaload, 1) := by decide +kernel
theorem dX11_goodSet_26 : decode cX11_goodSet 26 = .ok (.invokestatic 99, 3) := by decide +kernel
theorem dX11_goodSet_29 : decode cX11_goodSet 29 = .ok (.ifCond .eq 14, 3) := by decide +kernel
theorem dX11_goodSet_32 : decode cX11_goodSet 32 = .ok (.iconst 1, 1) := by decide +kernel
theorem dX11_goodSet_33 : decode cX11_goodSet 33 = .ok (.aload_n 0, 1) := by decide +kernel
theorem dX11_goodSet_34 : decode cX11_goodSet 34 = .ok (.getfield 7, 3) := by decide +kernel
theorem dX11_goodSet_37 : decode cX11_goodSet 37 = .ok (.iload_n 2, 1) := by decide +kernel
theorem dX11_goodSet_38 : decode cX11_goodSet 38 = .ok (.iaload, 1) := by decide +kernel
theorem dX11_goodSet_39 : decode cX11_goodSet 39 = .ok (.ishl, 1) := by decide +kernel
theorem dX11_goodSet_40 : decode cX11_goodSet 40 = .ok (.goto 4, 3) := by decide +kernel
theorem dX11_goodSet_43 : decode cX11_goodSet 43 = .ok (.iconst 0, 1) := by decide +kernel
theorem dX11_goodSet_44 : decode cX11_goodSet 44 = .ok (.ior, 1) := by decide +kernel
theorem dX11_goodSet_45 : decode cX11_goodSet 45 = .ok (.istore_n 1, 1) := by decide +kernel
theorem dX11_goodSet_46 : decode cX11_goodSet 46 = .ok (.iinc 2 1, 3) := by decide +kernel
theorem dX11_goodSet_49 : decode cX11_goodSet 49 = .ok (.goto (-45), 3) := by decide +kernel
theorem dX11_goodSet_52 : decode cX11_goodSet 52 = .ok (.iload_n 1, 1) := by decide +kernel
theorem dX11_goodSet_53 : decode cX11_goodSet 53 = .ok (.ireturn, 1) := by decide +kernel
theorem dX11_wire_0 : decode cX11_wire 0 = .ok (.aload_n 0, 1) := by decide +kernel
theorem dX11_wire_1 : decode cX11_wire 1 = .ok (.iload_n 1, 1) := by decide +kernel
theorem dX11_wire_2 : decode cX11_wire 2 = .ok (.invokevirtual 88, 3) := by decide +kernel
theorem dX11_wire_5 : decode cX11_wire 5 = .ok (.ifCond .ne 6, 3) := by decide +kernel
theorem dX11_wire_8 : decode cX11_wire 8 = .ok (.ldc 215, 2) := by decide +kernel
theorem dX11_wire_10 : decode cX11_wire 10 = .ok (.ireturn, 1) := by decide +kernel
theorem dX11_wire_11 : decode cX11_wire 11 = .ok (.iload_n 2, 1) := by decide +kernel
theorem dX11_wire_12 : decode cX11_wire 12 = .ok (.iconst 0, 1) := by decide +kernel
theorem dX11_wire_13 : decode cX11_wire 13 = .ok (.iconst 3, 1) := by decide +kernel
theorem dX11_wire_14 : decode cX11_wire 14 = .ok (.invokestatic 84, 3) := by decide +kernel
theorem dX11_wire_17 : decode cX11_wire 17 = .ok (.ifCond .ne 6, 3) := by decide +kernel
theorem dX11_wire_20 : decode cX11_wire 20 = .ok (.ldc 106, 2) := by decide +kernel
theorem dX11_wire_22 : decode cX11_wire 22 = .ok (.ireturn, 1) := by decide +kernel
theorem dX11_wire_23 : decode cX11_wire 23 = .ok (.iload_n 2, 1) := by decide +kernel
theorem dX11_wire_24 : decode cX11_wire 24 = .ok (.ifCond .ne 12, 3) := by decide +kernel
theorem dX11_wire_27 : decode cX11_wire 27 = .ok (.aload_n 0, 1) := by decide +kernel
theorem dX11_wire_28 : decode cX11_wire 28 = .ok (.getfield 13, 3) := by decide +kernel
theorem dX11_wire_31 : decode cX11_wire 31 = .ok (.iload_n 1, 1) := by decide +kernel
theorem dX11_wire_32 : decode cX11_wire 32 = .ok (.iaload, 1) := by decide +kernel
theorem dX11_wire_33 : decode cX11_wire 33 = .ok (.goto 55, 3) := by decide +kernel
theorem dX11_wire_36 : decode cX11_wire 36 = .ok (.iload_n 2, 1) := by decide +kernel
theorem dX11_wire_37 : decode cX11_wire 37 = .ok (.iconst 1, 1) := by decide +kernel
theorem dX11_wire_38 : decode cX11_wire 38 = .ok (.if_icmp .ne 15, 3) := by decide +kernel
theorem dX11_wire_41 : decode cX11_wire 41 = .ok (.aload_n 0, 1) := by decide +kernel
theorem dX11_wire_42 : decode cX11_wire 42 = .ok (.aload_n 0, 1) := by decide +kernel
theorem dX11_wire_43 : decode cX11_wire 43 = .ok (.getfield 7, 3) := by decide +kernel
theorem dX11_wire_46 : decode cX11_wire 46 = .ok (.iload_n 1, 1) := by decide +kernel
theorem dX11_wire_47 : decode cX11_wire 47 = .ok (.invokevirtual 194, 3) := by decide +kernel
theorem dX11_wire_50 : decode cX11_wire 50 = .ok (.goto 38, 3) := by decide +kernel
theorem dX11_wire_53 : decode cX11_wire 53 = .ok (.iload_n 2, 1) := by decide +kernel
theorem dX11_wire_54 : decode cX11_wire 54 = .ok (.iconst 2, 1) := by decide +kernel
theorem dX11_wire_55 : decode cX11_wire 55 = .ok (.if_icmp .ne 27, 3) := by decide +kernel
theorem dX11_wire_58 : decode cX11_wire 58 = .ok (.aload_n 0, 1) := by decide +kernel
theorem dX11_wire_59 : decode cX11_wire 59 = .ok (.getfield 13, 3) := by decide +kernel
theorem dX11_wire_62 : decode cX11_wire 62 = .ok (.iload_n 1, 1) := by decide +kernel
theorem dX11_wire_63 : decode cX11_wire 63 = .ok (.iaload, 1) := by decide +kernel
theorem dX11_wire_64 : decode cX11_wire 64 = .ok (.aload_n 0, 1) := by decide +kernel
theorem dX11_wire_65 : decode cX11_wire 65 = .ok (.getfield 173, 3) := by decide +kernel
theorem dX11_wire_68 : decode cX11_wire 68 = .ok (.invokestatic 191, 3) := by decide +kernel
theorem dX11_wire_71 : decode cX11_wire 71 = .ok (.ifCond .eq 7, 3) := by decide +kernel
theorem dX11_wire_74 : decode cX11_wire 74 = .ok (.iconst 1, 1) := by decide +kernel
theorem dX11_wire_75 : decode cX11_wire 75 = .ok (.goto 13, 3) := by decide +kernel
theorem dX11_wire_78 : decode cX11_wire 78 = .ok (.iconst 0, 1) := by decide +kernel
theorem dX11_wire_79 : decode cX11_wire 79 = .ok (.goto 9, 3) := by decide +kernel
theorem dX11_wire_82 : decode cX11_wire 82 = .ok (.aload_n 0, 1) := by decide +kernel
theorem dX11_wire_83 : decode cX11_wire 83 = .ok (.getfield 16, 3) := by decide +kernel
theorem dX11_wire_86 : decode cX11_wire 86 = .ok (.iload_n 1, 1) := by decide +kernel
theorem dX11_wire_87 : decode cX11_wire 87 = .ok (.iaload, 1) := by decide +kernel
theorem dX11_wire_88 : decode cX11_wire 88 = .ok (.ireturn, 1) := by decide +kernel
theorem dX11_net_0 : decode cX11_net 0 = .ok (.aload_n 0, 1) := by decide +kernel
theorem dX11_net_1 : decode cX11_net 1 = .ok (.iload_n 2, 1) := by decide +kernel
theorem dX11_net_2 : decode cX11_net 2 = .ok (.invokevirtual 88, 3) := by decide +kernel
theorem dX11_net_5 : decode cX11_net 5 = .ok (.ifCond .ne 6, 3) := by decide +kernel
theorem dX11_net_8 : decode cX11_net 8 = .ok (.ldc 215, 2) := by decide +kernel
theorem dX11_net_10 : decode cX11_net 10 = .ok (.ireturn, 1) := by decide +kernel
theorem dX11_net_11 : decode cX11_net 11 = .ok (.iload_n 1, 1) := by decide +kernel
theorem dX11_net_12 : decode cX11_net 12 = .ok (.iconst 0, 1) := by decide +kernel
theorem dX11_net_13 : decode cX11_net 13 = .ok (.iconst 1, 1) := by decide +kernel
theorem dX11_net_14 : decode cX11_net 14 = .ok (.invokestatic 84, 3) := by decide +kernel
theorem dX11_net_17 : decode cX11_net 17 = .ok (.ifCond .eq 13, 3) := by decide +kernel
theorem dX11_net_20 : decode cX11_net 20 = .ok (.aload_n 0, 1) := by decide +kernel
theorem dX11_net_21 : decode cX11_net 21 = .ok (.iload_n 1, 1) := by decide +kernel
theorem dX11_net_22 : decode cX11_net 22 = .ok (.iload_n 2, 1) := by decide +kernel
theorem dX11_net_23 : decode cX11_net 23 = .ok (.iconst 0, 1) := by decide +kernel
theorem dX11_net_24 : decode cX11_net 24 = .ok (.invokevirtual 208, 3) := by decide +kernel
theorem dX11_net_27 : decode cX11_net 27 = .ok (.goto 5, 3) := by decide +kernel
theorem dX11_net_30 : decode cX11_net 30 = .ok (.ldc 106, 2) := by decide +kernel
theorem dX11_net_32 : decode cX11_net 32 = .ok (.ireturn, 1) := by decide +kernel
theorem dX11_rings_0 : decode cX11_rings 0 = .ok (.aload_n 0, 1) := by decide +kernel
theorem dX11_rings_1 : decode cX11_rings 1 = .ok (.iload_n 1, 1) := by decide +kernel
theorem dX11_rings_2 : decode cX11_rings 2 = .ok (.iload_n 2, 1) := by decide +kernel
theorem dX11_rings_3 : decode cX11_rings 3 = .ok (.invokevirtual 216, 3) := by decide +kernel
theorem dX11_rings_6 : decode cX11_rings 6 = .ok (.ifCond .ne 6, 3) := by decide +kernel
theorem dX11_rings_9 : decode cX11_rings 9 = .ok (.ldc 215, 2) := by decide +kernel
theorem dX11_rings_11 : decode cX11_rings 11 = .ok (.ireturn, 1) := by decide +kernel
theorem dX11_rings_12 : decode cX11_rings 12 = .ok (.aload_n 0, 1) := by decide +kernel
theorem dX11_rings_13 : decode cX11_rings 13 = .ok (.iload_n 1, 1) := by decide +kernel
theorem dX11_rings_14 : decode cX11_rings 14 = .ok (.iload_n 2, 1) := by decide +kernel
theorem dX11_rings_15 : decode cX11_rings 15 = .ok (.iconst 0, 1) := by decide +kernel
theorem dX11_rings_16 : decode cX11_rings 16 = .ok (.invokevirtual 219, 3) := by decide +kernel
theorem dX11_rings_19 : decode cX11_rings 19 = .ok (.ifCond .eq 7, 3) := by decide +kernel
theorem dX11_rings_22 : decode cX11_rings 22 = .ok (.iconst 1, 1) := by decide +kernel
theorem dX11_rings_23 : decode cX11_rings 23 = .ok (.goto 4, 3) := by decide +kernel
theorem dX11_rings_26 : decode cX11_rings 26 = .ok (.iconst 0, 1) := by decide +kernel
theorem dX11_rings_27 : decode cX11_rings 27 = .ok (.ireturn, 1) := by decide +kernel
theorem dX11_touches_0 : decode cX11_touches 0 = .ok (.aload_n 0, 1) := by decide +kernel
theorem dX11_touches_1 : decode cX11_touches 1 = .ok (.iload_n 1, 1) := by decide +kernel
theorem dX11_touches_2 : decode cX11_touches 2 = .ok (.invokevirtual 88, 3) := by decide +kernel
theorem dX11_touches_5 : decode cX11_touches 5 = .ok (.ifCond .eq 16, 3) := by decide +kernel
theorem dX11_touches_8 : decode cX11_touches 8 = .ok (.aload_n 0, 1) := by decide +kernel
theorem dX11_touches_9 : decode cX11_touches 9 = .ok (.iload_n 2, 1) := by decide +kernel
theorem dX11_touches_10 : decode cX11_touches 10 = .ok (.invokevirtual 88, 3) := by decide +kernel
theorem dX11_touches_13 : decode cX11_touches 13 = .ok (.ifCond .eq 8, 3) := by decide +kernel
theorem dX11_touches_16 : decode cX11_touches 16 = .ok (.iload_n 1, 1) := by decide +kernel
theorem dX11_touches_17 : decode cX11_touches 17 = .ok (.iload_n 2, 1) := by decide +kernel
theorem dX11_touches_18 : decode cX11_touches 18 = .ok (.if_icmp .ne 6, 3) := by decide +kernel
theorem dX11_touches_21 : decode cX11_touches 21 = .ok (.ldc 215, 2) := by decide +kernel
theorem dX11_touches_23 : decode cX11_touches 23 = .ok (.ireturn, 1) := by decide +kernel
theorem dX11_touches_24 : decode cX11_touches 24 = .ok (.aload_n 0, 1) := by decide +kernel
theorem dX11_touches_25 : decode cX11_touches 25 = .ok (.iload_n 1, 1) := by decide +kernel
theorem dX11_touches_26 : decode cX11_touches 26 = .ok (.iload_n 2, 1) := by decide +kernel
theorem dX11_touches_27 : decode cX11_touches 27 = .ok (.invokevirtual 103, 3) := by decide +kernel
theorem dX11_touches_30 : decode cX11_touches 30 = .ok (.ifCond .eq 7, 3) := by decide +kernel
theorem dX11_touches_33 : decode cX11_touches 33 = .ok (.iconst 1, 1) := by decide +kernel
theorem dX11_touches_34 : decode cX11_touches 34 = .ok (.goto 4, 3) := by decide +kernel
theorem dX11_touches_37 : decode cX11_touches 37 = .ok (.iconst 0, 1) := by decide +kernel
theorem dX11_touches_38 : decode cX11_touches 38 = .ok (.ireturn, 1) := by decide +kernel
theorem dX11_lays_0 : decode cX11_lays 0 = .ok (.aload_n 1, 1) := by decide +kernel
theorem dX11_lays_1 : decode cX11_lays 1 = .ok (.iload_n 2, 1) := by decide +kernel
theorem dX11_lays_2 : decode cX11_lays 2 = .ok (.aload_n 0, 1) := by decide +kernel
theorem dX11_lays_3 : decode cX11_lays 3 = .ok (.getfield 170, 3) := by decide +kernel
theorem dX11_lays_6 : decode cX11_lays 6 = .ok (.iastore, 1) := by decide +kernel
theorem dX11_lays_7 : decode cX11_lays 7 = .ok (.aload_n 1, 1) := by decide +kernel
theorem dX11_lays_8 : decode cX11_lays 8 = .ok (.iload_n 2, 1) := by decide +kernel
theorem dX11_lays_9 : decode cX11_lays 9 = .ok (.iconst 1, 1) := by decide +kernel
theorem dX11_lays_10 : decode cX11_lays 10 = .ok (.iadd, 1) := by decide +kernel
theorem dX11_lays_11 : decode cX11_lays 11 = .ok (.aload_n 0, 1) := by decide +kernel
theorem dX11_lays_12 : decode cX11_lays 12 = .ok (.getfield 173, 3) := by decide +kernel
theorem dX11_lays_15 : decode cX11_lays 15 = .ok (.iastore, 1) := by decide +kernel
theorem dX11_lays_16 : decode cX11_lays 16 = .ok (.aload_n 1, 1) := by decide +kernel
theorem dX11_lays_17 : decode cX11_lays 17 = .ok (.iload_n 2, 1) := by decide +kernel
theorem dX11_lays_18 : decode cX11_lays 18 = .ok (.iconst 2, 1) := by decide +kernel
theorem dX11_lays_19 : decode cX11_lays 19 = .ok (.iadd, 1) := by decide +kernel
theorem dX11_lays_20 : decode cX11_lays 20 = .ok (.aload_n 0, 1) := by decide +kernel
theorem dX11_lays_21 : decode cX11_lays 21 = .ok (.getfield 176, 3) := by decide +kernel
theorem dX11_lays_24 : decode cX11_lays 24 = .ok (.iastore, 1) := by decide +kernel
theorem dX11_lays_25 : decode cX11_lays 25 = .ok (.aload_n 1, 1) := by decide +kernel
theorem dX11_lays_26 : decode cX11_lays 26 = .ok (.iload_n 2, 1) := by decide +kernel
theorem dX11_lays_27 : decode cX11_lays 27 = .ok (.iconst 3, 1) := by decide +kernel
theorem dX11_lays_28 : decode cX11_lays 28 = .ok (.iadd, 1) := by decide +kernel
theorem dX11_lays_29 : decode cX11_lays 29 = .ok (.aload_n 0, 1) := by decide +kernel
theorem dX11_lays_30 : decode cX11_lays 30 = .ok (.getfield 179, 3) := by decide +kernel
theorem dX11_lays_33 : decode cX11_lays 33 = .ok (.iastore, 1) := by decide +kernel
theorem dX11_lays_34 : decode cX11_lays 34 = .ok (.aload_n 1, 1) := by decide +kernel
theorem dX11_lays_35 : decode cX11_lays 35 = .ok (.iload_n 2, 1) := by decide +kernel
theorem dX11_lays_36 : decode cX11_lays 36 = .ok (.iconst 4, 1) := by decide +kernel
theorem dX11_lays_37 : decode cX11_lays 37 = .ok (.iadd, 1) := by decide +kernel
theorem dX11_lays_38 : decode cX11_lays 38 = .ok (.aload_n 0, 1) := by decide +kernel
theorem dX11_lays_39 : decode cX11_lays 39 = .ok (.getfield 92, 3) := by decide +kernel
theorem dX11_lays_42 : decode cX11_lays 42 = .ok (.iastore, 1) := by decide +kernel
theorem dX11_lays_43 : decode cX11_lays 43 = .ok (.iconst 0, 1) := by decide +kernel
theorem dX11_lays_44 : decode cX11_lays 44 = .ok (.istore_n 3, 1) := by decide +kernel
theorem dX11_lays_45 : decode cX11_lays 45 = .ok (.iload_n 3, 1) := by decide +kernel
theorem dX11_lays_46 : decode cX11_lays 46 = .ok (.iconst 5, 1) := by decide +kernel
theorem dX11_lays_47 : decode cX11_lays 47 = .ok (.if_icmp .ge 50, 3) := by decide +kernel
theorem dX11_lays_50 : decode cX11_lays 50 = .ok (.aload_n 1, 1) := by decide +kernel
theorem dX11_lays_51 : decode cX11_lays 51 = .ok (.iload_n 2, 1) := by decide +kernel
theorem dX11_lays_52 : decode cX11_lays 52 = .ok (.iconst 5, 1) := by decide +kernel
theorem dX11_lays_53 : decode cX11_lays 53 = .ok (.iadd, 1) := by decide +kernel
theorem dX11_lays_54 : decode cX11_lays 54 = .ok (.iload_n 3, 1) := by decide +kernel
theorem dX11_lays_55 : decode cX11_lays 55 = .ok (.iadd, 1) := by decide +kernel
theorem dX11_lays_56 : decode cX11_lays 56 = .ok (.aload_n 0, 1) := by decide +kernel
theorem dX11_lays_57 : decode cX11_lays 57 = .ok (.getfield 13, 3) := by decide +kernel
theorem dX11_lays_60 : decode cX11_lays 60 = .ok (.iload_n 3, 1) := by decide +kernel
theorem dX11_lays_61 : decode cX11_lays 61 = .ok (.iaload, 1) := by decide +kernel
theorem dX11_lays_62 : decode cX11_lays 62 = .ok (.iastore, 1) := by decide +kernel
theorem dX11_lays_63 : decode cX11_lays 63 = .ok (.aload_n 1, 1) := by decide +kernel
theorem dX11_lays_64 : decode cX11_lays 64 = .ok (.iload_n 2, 1) := by decide +kernel
theorem dX11_lays_65 : decode cX11_lays 65 = .ok (.bipush 10, 2) := by decide +kernel
theorem dX11_lays_67 : decode cX11_lays 67 = .ok (.iadd, 1) := by decide +kernel
theorem dX11_lays_68 : decode cX11_lays 68 = .ok (.iload_n 3, 1) := by decide +kernel
theorem dX11_lays_69 : decode cX11_lays 69 = .ok (.iadd, 1) := by decide +kernel
theorem dX11_lays_70 : decode cX11_lays 70 = .ok (.aload_n 0, 1) := by decide +kernel
theorem dX11_lays_71 : decode cX11_lays 71 = .ok (.getfield 16, 3) := by decide +kernel
theorem dX11_lays_74 : decode cX11_lays 74 = .ok (.iload_n 3, 1) := by decide +kernel
theorem dX11_lays_75 : decode cX11_lays 75 = .ok (.iaload, 1) := by decide +kernel
theorem dX11_lays_76 : decode cX11_lays 76 = .ok (.iastore, 1) := by decide +kernel
theorem dX11_lays_77 : decode cX11_lays 77 = .ok (.aload_n 1, 1) := by decide +kernel
theorem dX11_lays_78 : decode cX11_lays 78 = .ok (.iload_n 2, 1) := by decide +kernel
theorem dX11_lays_79 : decode cX11_lays 79 = .ok (.bipush 15, 2) := by decide +kernel
theorem dX11_lays_81 : decode cX11_lays 81 = .ok (.iadd, 1) := by decide +kernel
theorem dX11_lays_82 : decode cX11_lays 82 = .ok (.iload_n 3, 1) := by decide +kernel
theorem dX11_lays_83 : decode cX11_lays 83 = .ok (.iadd, 1) := by decide +kernel
theorem dX11_lays_84 : decode cX11_lays 84 = .ok (.aload_n 0, 1) := by decide +kernel
theorem dX11_lays_85 : decode cX11_lays 85 = .ok (.getfield 19, 3) := by decide +kernel
theorem dX11_lays_88 : decode cX11_lays 88 = .ok (.iload_n 3, 1) := by decide +kernel
theorem dX11_lays_89 : decode cX11_lays 89 = .ok (.iaload, 1) := by decide +kernel
theorem dX11_lays_90 : decode cX11_lays 90 = .ok (.iastore, 1) := by decide +kernel
theorem dX11_lays_91 : decode cX11_lays 91 = .ok (.iinc 3 1, 3) := by decide +kernel
theorem dX11_lays_94 : decode cX11_lays 94 = .ok (.goto (-49), 3) := by decide +kernel
theorem dX11_lays_97 : decode cX11_lays 97 = .ok (.return_, 1) := by decide +kernel
theorem dX11_takes_0 : decode cX11_takes 0 = .ok (.aload_n 0, 1) := by decide +kernel
theorem dX11_takes_1 : decode cX11_takes 1 = .ok (.aload_n 1, 1) := by decide +kernel
theorem dX11_takes_2 : decode cX11_takes 2 = .ok (.iload_n 2, 1) := by decide +kernel
theorem dX11_takes_3 : decode cX11_takes 3 = .ok (.iaload, 1) := by decide +kernel
theorem dX11_takes_4 : decode cX11_takes 4 = .ok (.putfield 170, 3) := by decide +kernel
theorem dX11_takes_7 : decode cX11_takes 7 = .ok (.aload_n 0, 1) := by decide +kernel
theorem dX11_takes_8 : decode cX11_takes 8 = .ok (.aload_n 1, 1) := by decide +kernel
theorem dX11_takes_9 : decode cX11_takes 9 = .ok (.iload_n 2, 1) := by decide +kernel
theorem dX11_takes_10 : decode cX11_takes 10 = .ok (.iconst 1, 1) := by decide +kernel
theorem dX11_takes_11 : decode cX11_takes 11 = .ok (.iadd, 1) := by decide +kernel
theorem dX11_takes_12 : decode cX11_takes 12 = .ok (.iaload, 1) := by decide +kernel
theorem dX11_takes_13 : decode cX11_takes 13 = .ok (.putfield 173, 3) := by decide +kernel
theorem dX11_takes_16 : decode cX11_takes 16 = .ok (.aload_n 0, 1) := by decide +kernel
theorem dX11_takes_17 : decode cX11_takes 17 = .ok (.aload_n 1, 1) := by decide +kernel
theorem dX11_takes_18 : decode cX11_takes 18 = .ok (.iload_n 2, 1) := by decide +kernel
theorem dX11_takes_19 : decode cX11_takes 19 = .ok (.iconst 2, 1) := by decide +kernel
theorem dX11_takes_20 : decode cX11_takes 20 = .ok (.iadd, 1) := by decide +kernel
theorem dX11_takes_21 : decode cX11_takes 21 = .ok (.iaload, 1) := by decide +kernel
theorem dX11_takes_22 : decode cX11_takes 22 = .ok (.putfield 176, 3) := by decide +kernel
theorem dX11_takes_25 : decode cX11_takes 25 = .ok (.aload_n 0, 1) := by decide +kernel
theorem dX11_takes_26 : decode cX11_takes 26 = .ok (.aload_n 1, 1) := by decide +kernel
theorem dX11_takes_27 : decode cX11_takes 27 = .ok (.iload_n 2, 1) := by decide +kernel
theorem dX11_takes_28 : decode cX11_takes 28 = .ok (.iconst 3, 1) := by decide +kernel
theorem dX11_takes_29 : decode cX11_takes 29 = .ok (.iadd, 1) := by decide +kernel
theorem dX11_takes_30 : decode cX11_takes 30 = .ok (.iaload, 1) := by decide +kernel
theorem dX11_takes_31 : decode cX11_takes 31 = .ok (.putfield 179, 3) := by decide +kernel
theorem dX11_takes_34 : decode cX11_takes 34 = .ok (.aload_n 0, 1) := by decide +kernel
theorem dX11_takes_35 : decode cX11_takes 35 = .ok (.aload_n 1, 1) := by decide +kernel
theorem dX11_takes_36 : decode cX11_takes 36 = .ok (.iload_n 2, 1) := by decide +kernel
theorem dX11_takes_37 : decode cX11_takes 37 = .ok (.iconst 4, 1) := by decide +kernel
theorem dX11_takes_38 : decode cX11_takes 38 = .ok (.iadd, 1) := by decide +kernel
theorem dX11_takes_39 : decode cX11_takes 39 = .ok (.iaload, 1) := by decide +kernel
theorem dX11_takes_40 : decode cX11_takes 40 = .ok (.putfield 92, 3) := by decide +kernel
theorem dX11_takes_43 : decode cX11_takes 43 = .ok (.iconst 0, 1) := by decide +kernel
theorem dX11_takes_44 : decode cX11_takes 44 = .ok (.istore_n 3, 1) := by decide +kernel
theorem dX11_takes_45 : decode cX11_takes 45 = .ok (.iload_n 3, 1) := by decide +kernel
theorem dX11_takes_46 : decode cX11_takes 46 = .ok (.iconst 5, 1) := by decide +kernel
theorem dX11_takes_47 : decode cX11_takes 47 = .ok (.if_icmp .ge 50, 3) := by decide +kernel
theorem dX11_takes_50 : decode cX11_takes 50 = .ok (.aload_n 0, 1) := by decide +kernel
theorem dX11_takes_51 : decode cX11_takes 51 = .ok (.getfield 13, 3) := by decide +kernel
theorem dX11_takes_54 : decode cX11_takes 54 = .ok (.iload_n 3, 1) := by decide +kernel
theorem dX11_takes_55 : decode cX11_takes 55 = .ok (.aload_n 1, 1) := by decide +kernel
theorem dX11_takes_56 : decode cX11_takes 56 = .ok (.iload_n 2, 1) := by decide +kernel
theorem dX11_takes_57 : decode cX11_takes 57 = .ok (.iconst 5, 1) := by decide +kernel
theorem dX11_takes_58 : decode cX11_takes 58 = .ok (.iadd, 1) := by decide +kernel
theorem dX11_takes_59 : decode cX11_takes 59 = .ok (.iload_n 3, 1) := by decide +kernel
theorem dX11_takes_60 : decode cX11_takes 60 = .ok (.iadd, 1) := by decide +kernel
theorem dX11_takes_61 : decode cX11_takes 61 = .ok (.iaload, 1) := by decide +kernel
theorem dX11_takes_62 : decode cX11_takes 62 = .ok (.iastore, 1) := by decide +kernel
theorem dX11_takes_63 : decode cX11_takes 63 = .ok (.aload_n 0, 1) := by decide +kernel
theorem dX11_takes_64 : decode cX11_takes 64 = .ok (.getfield 16, 3) := by decide +kernel
theorem dX11_takes_67 : decode cX11_takes 67 = .ok (.iload_n 3, 1) := by decide +kernel
theorem dX11_takes_68 : decode cX11_takes 68 = .ok (.aload_n 1, 1) := by decide +kernel
theorem dX11_takes_69 : decode cX11_takes 69 = .ok (.iload_n 2, 1) := by decide +kernel
theorem dX11_takes_70 : decode cX11_takes 70 = .ok (.bipush 10, 2) := by decide +kernel
theorem dX11_takes_72 : decode cX11_takes 72 = .ok (.iadd, 1) := by decide +kernel
theorem dX11_takes_73 : decode cX11_takes 73 = .ok (.iload_n 3, 1) := by decide +kernel
theorem dX11_takes_74 : decode cX11_takes 74 = .ok (.iadd, 1) := by decide +kernel
theorem dX11_takes_75 : decode cX11_takes 75 = .ok (.iaload, 1) := by decide +kernel
theorem dX11_takes_76 : decode cX11_takes 76 = .ok (.iastore, 1) := by decide +kernel
theorem dX11_takes_77 : decode cX11_takes 77 = .ok (.aload_n 0, 1) := by decide +kernel
theorem dX11_takes_78 : decode cX11_takes 78 = .ok (.getfield 19, 3) := by decide +kernel
theorem dX11_takes_81 : decode cX11_takes 81 = .ok (.iload_n 3, 1) := by decide +kernel
theorem dX11_takes_82 : decode cX11_takes 82 = .ok (.aload_n 1, 1) := by decide +kernel
theorem dX11_takes_83 : decode cX11_takes 83 = .ok (.iload_n 2, 1) := by decide +kernel
theorem dX11_takes_84 : decode cX11_takes 84 = .ok (.bipush 15, 2) := by decide +kernel
theorem dX11_takes_86 : decode cX11_takes 86 = .ok (.iadd, 1) := by decide +kernel
theorem dX11_takes_87 : decode cX11_takes 87 = .ok (.iload_n 3, 1) := by decide +kernel
theorem dX11_takes_88 : decode cX11_takes 88 = .ok (.iadd, 1) := by decide +kernel
theorem dX11_takes_89 : decode cX11_takes 89 = .ok (.iaload, 1) := by decide +kernel
theorem dX11_takes_90 : decode cX11_takes 90 = .ok (.iastore, 1) := by decide +kernel
theorem dX11_takes_91 : decode cX11_takes 91 = .ok (.iinc 3 1, 3) := by decide +kernel
theorem dX11_takes_94 : decode cX11_takes 94 = .ok (.goto (-49), 3) := by decide +kernel
theorem dX11_takes_97 : decode cX11_takes 97 = .ok (.return_, 1) := by decide +kernel
theorem dX11_notes_0 : decode cX11_notes 0 = .ok (.aload_n 0, 1) := by decide +kernel
theorem dX11_notes_1 : decode cX11_notes 1 = .ok (.getfield 188, 3) := by decide +kernel
theorem dX11_notes_4 : decode cX11_notes 4 = .ok (.bipush 16, 2) := by decide +kernel
theorem dX11_notes_6 : decode cX11_notes 6 = .ok (.if_icmp .ne 43, 3) := by decide +kernel
theorem dX11_notes_9 : decode cX11_notes 9 = .ok (.iconst 0, 1) := by decide +kernel
theorem dX11_notes_10 : decode cX11_notes 10 = .ok (.istore_n 1, 1) := by decide +kernel
theorem dX11_notes_11 : decode cX11_notes 11 = .ok (.iload_n 1, 1) := by decide +kernel
theorem dX11_notes_12 : decode cX11_notes 12 = .ok (.sipush 300, 3) := by decide +kernel
theorem dX11_notes_15 : decode cX11_notes 15 = .ok (.if_icmp .ge 24, 3) := by decide +kernel
theorem dX11_notes_18 : decode cX11_notes 18 = .ok (.aload_n 0, 1) := by decide +kernel
theorem dX11_notes_19 : decode cX11_notes 19 = .ok (.getfield 44, 3) := by decide +kernel
theorem dX11_notes_22 : decode cX11_notes 22 = .ok (.iload_n 1, 1) := by decide +kernel
theorem dX11_notes_23 : decode cX11_notes 23 = .ok (.aload_n 0, 1) := by decide +kernel
theorem dX11_notes_24 : decode cX11_notes 24 = .ok (.getfield 44, 3) := by decide +kernel
theorem dX11_notes_27 : decode cX11_notes 27 = .ok (.iload_n 1, 1) := by decide +kernel
theorem dX11_notes_28 : decode cX11_notes 28 = .ok (.bipush 20, 2) := by decide +kernel
theorem dX11_notes_30 : decode cX11_notes 30 = .ok (.iadd, 1) := by decide +kernel
theorem dX11_notes_31 : decode cX11_notes 31 = .ok (.iaload, 1) := by decide +kernel
theorem dX11_notes_32 : decode cX11_notes 32 = .ok (.iastore, 1) := by decide +kernel
theorem dX11_notes_33 : decode cX11_notes 33 = .ok (.iinc 1 1, 3) := by decide +kernel
theorem dX11_notes_36 : decode cX11_notes 36 = .ok (.goto (-25), 3) := by decide +kernel
theorem dX11_notes_39 : decode cX11_notes 39 = .ok (.aload_n 0, 1) := by decide +kernel
theorem dX11_notes_40 : decode cX11_notes 40 = .ok (.dup, 1) := by decide +kernel
theorem dX11_notes_41 : decode cX11_notes 41 = .ok (.getfield 188, 3) := by decide +kernel
theorem dX11_notes_44 : decode cX11_notes 44 = .ok (.iconst 1, 1) := by decide +kernel
theorem dX11_notes_45 : decode cX11_notes 45 = .ok (.isub, 1) := by decide +kernel
theorem dX11_notes_46 : decode cX11_notes 46 = .ok (.putfield 188, 3) := by decide +kernel
theorem dX11_notes_49 : decode cX11_notes 49 = .ok (.aload_n 0, 1) := by decide +kernel
theorem dX11_notes_50 : decode cX11_notes 50 = .ok (.aload_n 0, 1) := by decide +kernel
theorem dX11_notes_51 : decode cX11_notes 51 = .ok (.getfield 44, 3) := by decide +kernel
theorem dX11_notes_54 : decode cX11_notes 54 = .ok (.bipush 20, 2) := by decide +kernel
theorem dX11_notes_56 : decode cX11_notes 56 = .ok (.aload_n 0, 1) := by decide +kernel
theorem dX11_notes_57 : decode cX11_notes 57 = .ok (.getfield 188, 3) := by decide +kernel
theorem dX11_notes_60 : decode cX11_notes 60 = .ok (.imul, 1) := by decide +kernel
theorem dX11_notes_61 : decode cX11_notes 61 = .ok (.invokevirtual 222, 3) := by decide +kernel
theorem dX11_notes_64 : decode cX11_notes 64 = .ok (.aload_n 0, 1) := by decide +kernel
theorem dX11_notes_65 : decode cX11_notes 65 = .ok (.dup, 1) := by decide +kernel
theorem dX11_notes_66 : decode cX11_notes 66 = .ok (.getfield 188, 3) := by decide +kernel
theorem dX11_notes_69 : decode cX11_notes 69 = .ok (.iconst 1, 1) := by decide +kernel
theorem dX11_notes_70 : decode cX11_notes 70 = .ok (.iadd, 1) := by decide +kernel
theorem dX11_notes_71 : decode cX11_notes 71 = .ok (.putfield 188, 3) := by decide +kernel
theorem dX11_notes_74 : decode cX11_notes 74 = .ok (.return_, 1) := by decide +kernel
theorem dX11_groupOf_0 : decode cX11_groupOf 0 = .ok (.aload_n 0, 1) := by decide +kernel
theorem dX11_groupOf_1 : decode cX11_groupOf 1 = .ok (.getfield 170, 3) := by decide +kernel
theorem dX11_groupOf_4 : decode cX11_groupOf 4 = .ok (.ifCond .ne 12, 3) := by decide +kernel
theorem dX11_groupOf_7 : decode cX11_groupOf 7 = .ok (.aload_n 0, 1) := by decide +kernel
theorem dX11_groupOf_8 : decode cX11_groupOf 8 = .ok (.getfield 16, 3) := by decide +kernel
theorem dX11_groupOf_11 : decode cX11_groupOf 11 = .ok (.iload_n 1, 1) := by decide +kernel
theorem dX11_groupOf_12 : decode cX11_groupOf 12 = .ok (.iaload, 1) := by decide +kernel
theorem dX11_groupOf_13 : decode cX11_groupOf 13 = .ok (.goto 9, 3) := by decide +kernel
theorem dX11_groupOf_16 : decode cX11_groupOf 16 = .ok (.aload_n 0, 1) := by decide +kernel
theorem dX11_groupOf_17 : decode cX11_groupOf 17 = .ok (.getfield 19, 3) := by decide +kernel
theorem dX11_groupOf_20 : decode cX11_groupOf 20 = .ok (.iload_n 1, 1) := by decide +kernel
theorem dX11_groupOf_21 : decode cX11_groupOf 21 = .ok (.iaload, 1) := by decide +kernel
theorem dX11_groupOf_22 : decode cX11_groupOf 22 = .ok (.ireturn, 1) := by decide +kernel
theorem dX11_comesInto_0 : decode cX11_comesInto 0 = .ok (.aload_n 0, 1) := by decide +kernel
theorem dX11_comesInto_1 : decode cX11_comesInto 1 = .ok (.getfield 170, 3) := by decide +kernel
theorem dX11_comesInto_4 : decode cX11_comesInto 4 = .ok (.ifCond .ne 13, 3) := by decide +kernel
theorem dX11_comesInto_7 : decode cX11_comesInto 7 = .ok (.aload_n 0, 1) := by decide +kernel
theorem dX11_comesInto_8 : decode cX11_comesInto 8 = .ok (.getfield 16, 3) := by decide +kernel
theorem dX11_comesInto_11 : decode cX11_comesInto 11 = .ok (.iload_n 1, 1) := by decide +kernel
theorem dX11_comesInto_12 : decode cX11_comesInto 12 = .ok (.iload_n 2, 1) := by decide +kernel
theorem dX11_comesInto_13 : decode cX11_comesInto 13 = .ok (.iastore, 1) := by decide +kernel
theorem dX11_comesInto_14 : decode cX11_comesInto 14 = .ok (.goto 10, 3) := by decide +kernel
theorem dX11_comesInto_17 : decode cX11_comesInto 17 = .ok (.aload_n 0, 1) := by decide +kernel
theorem dX11_comesInto_18 : decode cX11_comesInto 18 = .ok (.getfield 19, 3) := by decide +kernel
theorem dX11_comesInto_21 : decode cX11_comesInto 21 = .ok (.iload_n 1, 1) := by decide +kernel
theorem dX11_comesInto_22 : decode cX11_comesInto 22 = .ok (.iload_n 2, 1) := by decide +kernel
theorem dX11_comesInto_23 : decode cX11_comesInto 23 = .ok (.iastore, 1) := by decide +kernel
theorem dX11_comesInto_24 : decode cX11_comesInto 24 = .ok (.return_, 1) := by decide +kernel
theorem dX11_goesOver_0 : decode cX11_goesOver 0 = .ok (.aload_n 0, 1) := by decide +kernel
theorem dX11_goesOver_1 : decode cX11_goesOver 1 = .ok (.iconst 1, 1) := by decide +kernel
theorem dX11_goesOver_2 : decode cX11_goesOver 2 = .ok (.aload_n 0, 1) := by decide +kernel
theorem dX11_goesOver_3 : decode cX11_goesOver 3 = .ok (.getfield 170, 3) := by decide +kernel
theorem dX11_goesOver_6 : decode cX11_goesOver 6 = .ok (.isub, 1) := by decide +kernel
theorem dX11_goesOver_7 : decode cX11_goesOver 7 = .ok (.putfield 170, 3) := by decide +kernel
theorem dX11_goesOver_10 : decode cX11_goesOver 10 = .ok (.aload_n 0, 1) := by decide +kernel
theorem dX11_goesOver_11 : decode cX11_goesOver 11 = .ok (.dup, 1) := by decide +kernel
theorem dX11_goesOver_12 : decode cX11_goesOver 12 = .ok (.getfield 176, 3) := by decide +kernel
theorem dX11_goesOver_15 : decode cX11_goesOver 15 = .ok (.aload_n 0, 1) := by decide +kernel
theorem dX11_goesOver_16 : decode cX11_goesOver 16 = .ok (.getfield 176, 3) := by decide +kernel
theorem dX11_goesOver_19 : decode cX11_goesOver 19 = .ok (.sipush 9999, 3) := by decide +kernel
theorem dX11_goesOver_22 : decode cX11_goesOver 22 = .ok (.if_icmp .ge 7, 3) := by decide +kernel
theorem dX11_goesOver_25 : decode cX11_goesOver 25 = .ok (.iconst 1, 1) := by decide +kernel
theorem dX11_goesOver_26 : decode cX11_goesOver 26 = .ok (.goto 4, 3) := by decide +kernel
theorem dX11_goesOver_29 : decode cX11_goesOver 29 = .ok (.iconst 0, 1) := by decide +kernel
theorem dX11_goesOver_30 : decode cX11_goesOver 30 = .ok (.iadd, 1) := by decide +kernel
theorem dX11_goesOver_31 : decode cX11_goesOver 31 = .ok (.putfield 176, 3) := by decide +kernel
theorem dX11_goesOver_34 : decode cX11_goesOver 34 = .ok (.return_, 1) := by decide +kernel
theorem dX11_tested_0 : decode cX11_tested 0 = .ok (.aload_n 0, 1) := by decide +kernel
theorem dX11_tested_1 : decode cX11_tested 1 = .ok (.dup, 1) := by decide +kernel
theorem dX11_tested_2 : decode cX11_tested 2 = .ok (.getfield 179, 3) := by decide +kernel
theorem dX11_tested_5 : decode cX11_tested 5 = .ok (.aload_n 0, 1) := by decide +kernel
theorem dX11_tested_6 : decode cX11_tested 6 = .ok (.getfield 179, 3) := by decide +kernel
theorem dX11_tested_9 : decode cX11_tested 9 = .ok (.sipush 9999, 3) := by decide +kernel
theorem dX11_tested_12 : decode cX11_tested 12 = .ok (.if_icmp .ge 7, 3) := by decide +kernel
theorem dX11_tested_15 : decode cX11_tested 15 = .ok (.iconst 1, 1) := by decide +kernel
theorem dX11_tested_16 : decode cX11_tested 16 = .ok (.goto 4, 3) := by decide +kernel
theorem dX11_tested_19 : decode cX11_tested 19 = .ok (.iconst 0, 1) := by decide +kernel
theorem dX11_tested_20 : decode cX11_tested 20 = .ok (.iadd, 1) := by decide +kernel
theorem dX11_tested_21 : decode cX11_tested 21 = .ok (.putfield 179, 3) := by decide +kernel
theorem dX11_tested_24 : decode cX11_tested 24 = .ok (.return_, 1) := by decide +kernel
theorem dX11_tie_0 : decode cX11_tie 0 = .ok (.aload_n 0, 1) := by decide +kernel
theorem dX11_tie_1 : decode cX11_tie 1 = .ok (.iload_n 1, 1) := by decide +kernel
theorem dX11_tie_2 : decode cX11_tie 2 = .ok (.invokevirtual 88, 3) := by decide +kernel
theorem dX11_tie_5 : decode cX11_tie 5 = .ok (.ifCond .ne 6, 3) := by decide +kernel
theorem dX11_tie_8 : decode cX11_tie 8 = .ok (.ldc 215, 2) := by decide +kernel
theorem dX11_tie_10 : decode cX11_tie 10 = .ok (.ireturn, 1) := by decide +kernel
theorem dX11_tie_11 : decode cX11_tie 11 = .ok (.iload_n 2, 1) := by decide +kernel
theorem dX11_tie_12 : decode cX11_tie 12 = .ok (.iconst 0, 1) := by decide +kernel
theorem dX11_tie_13 : decode cX11_tie 13 = .ok (.iconst 3, 1) := by decide +kernel
theorem dX11_tie_14 : decode cX11_tie 14 = .ok (.invokestatic 84, 3) := by decide +kernel
theorem dX11_tie_17 : decode cX11_tie 17 = .ok (.ifCond .ne 6, 3) := by decide +kernel
theorem dX11_tie_20 : decode cX11_tie 20 = .ok (.ldc 106, 2) := by decide +kernel
theorem dX11_tie_22 : decode cX11_tie 22 = .ok (.ireturn, 1) := by decide +kernel
theorem dX11_tie_23 : decode cX11_tie 23 = .ok (.aload_n 0, 1) := by decide +kernel
theorem dX11_tie_24 : decode cX11_tie 24 = .ok (.iload_n 1, 1) := by decide +kernel
theorem dX11_tie_25 : decode cX11_tie 25 = .ok (.invokevirtual 226, 3) := by decide +kernel
theorem dX11_tie_28 : decode cX11_tie 28 = .ok (.istore_n 3, 1) := by decide +kernel
theorem dX11_tie_29 : decode cX11_tie 29 = .ok (.iload_n 3, 1) := by decide +kernel
theorem dX11_tie_30 : decode cX11_tie 30 = .ok (.iload_n 2, 1) := by decide +kernel
theorem dX11_tie_31 : decode cX11_tie 31 = .ok (.if_icmp .ne 6, 3) := by decide +kernel
theorem dX11_tie_34 : decode cX11_tie 34 = .ok (.ldc 230, 2) := by decide +kernel
theorem dX11_tie_36 : decode cX11_tie 36 = .ok (.ireturn, 1) := by decide +kernel
theorem dX11_tie_37 : decode cX11_tie 37 = .ok (.aload_n 0, 1) := by decide +kernel
theorem dX11_tie_38 : decode cX11_tie 38 = .ok (.invokevirtual 231, 3) := by decide +kernel
theorem dX11_tie_41 : decode cX11_tie 41 = .ok (.aload_n 0, 1) := by decide +kernel
theorem dX11_tie_42 : decode cX11_tie 42 = .ok (.iload_n 1, 1) := by decide +kernel
theorem dX11_tie_43 : decode cX11_tie 43 = .ok (.iload_n 2, 1) := by decide +kernel
theorem dX11_tie_44 : decode cX11_tie 44 = .ok (.invokevirtual 234, 3) := by decide +kernel
theorem dX11_tie_47 : decode cX11_tie 47 = .ok (.iload_n 3, 1) := by decide +kernel
theorem dX11_tie_48 : decode cX11_tie 48 = .ok (.ireturn, 1) := by decide +kernel
theorem dX11_cross_0 : decode cX11_cross 0 = .ok (.aload_n 0, 1) := by decide +kernel
theorem dX11_cross_1 : decode cX11_cross 1 = .ok (.getfield 81, 3) := by decide +kernel
theorem dX11_cross_4 : decode cX11_cross 4 = .ok (.ifCond .ne 6, 3) := by decide +kernel
theorem dX11_cross_7 : decode cX11_cross 7 = .ok (.ldc 230, 2) := by decide +kernel
theorem dX11_cross_9 : decode cX11_cross 9 = .ok (.ireturn, 1) := by decide +kernel
theorem dX11_cross_10 : decode cX11_cross 10 = .ok (.aload_n 0, 1) := by decide +kernel
theorem dX11_cross_11 : decode cX11_cross 11 = .ok (.getfield 173, 3) := by decide +kernel
theorem dX11_cross_14 : decode cX11_cross 14 = .ok (.sipush 9000, 3) := by decide +kernel
theorem dX11_cross_17 : decode cX11_cross 17 = .ok (.if_icmp .le 6, 3) := by decide +kernel
theorem dX11_cross_20 : decode cX11_cross 20 = .ok (.ldc 110, 2) := by decide +kernel
theorem dX11_cross_22 : decode cX11_cross 22 = .ok (.ireturn, 1) := by decide +kernel
theorem dX11_cross_23 : decode cX11_cross 23 = .ok (.aload_n 0, 1) := by decide +kernel
theorem dX11_cross_24 : decode cX11_cross 24 = .ok (.invokevirtual 231, 3) := by decide +kernel
theorem dX11_cross_27 : decode cX11_cross 27 = .ok (.aload_n 0, 1) := by decide +kernel
theorem dX11_cross_28 : decode cX11_cross 28 = .ok (.invokevirtual 238, 3) := by decide +kernel
theorem dX11_cross_31 : decode cX11_cross 31 = .ok (.aload_n 0, 1) := by decide +kernel
theorem dX11_cross_32 : decode cX11_cross 32 = .ok (.dup, 1) := by decide +kernel
theorem dX11_cross_33 : decode cX11_cross 33 = .ok (.getfield 173, 3) := by decide +kernel
theorem dX11_cross_36 : decode cX11_cross 36 = .ok (.iconst 1, 1) := by decide +kernel
theorem dX11_cross_37 : decode cX11_cross 37 = .ok (.iadd, 1) := by decide +kernel
theorem dX11_cross_38 : decode cX11_cross 38 = .ok (.putfield 173, 3) := by decide +kernel
theorem dX11_cross_41 : decode cX11_cross 41 = .ok (.aload_n 0, 1) := by decide +kernel
theorem dX11_cross_42 : decode cX11_cross 42 = .ok (.getfield 173, 3) := by decide +kernel
theorem dX11_cross_45 : decode cX11_cross 45 = .ok (.ireturn, 1) := by decide +kernel
theorem dX11_test_0 : decode cX11_test 0 = .ok (.aload_n 0, 1) := by decide +kernel
theorem dX11_test_1 : decode cX11_test 1 = .ok (.iload_n 1, 1) := by decide +kernel
theorem dX11_test_2 : decode cX11_test 2 = .ok (.iload_n 2, 1) := by decide +kernel
theorem dX11_test_3 : decode cX11_test 3 = .ok (.invokevirtual 216, 3) := by decide +kernel
theorem dX11_test_6 : decode cX11_test 6 = .ok (.ifCond .ne 6, 3) := by decide +kernel
theorem dX11_test_9 : decode cX11_test 9 = .ok (.ldc 215, 2) := by decide +kernel
theorem dX11_test_11 : decode cX11_test 11 = .ok (.ireturn, 1) := by decide +kernel
theorem dX11_test_12 : decode cX11_test 12 = .ok (.aload_n 0, 1) := by decide +kernel
theorem dX11_test_13 : decode cX11_test 13 = .ok (.invokevirtual 231, 3) := by decide +kernel
theorem dX11_test_16 : decode cX11_test 16 = .ok (.aload_n 0, 1) := by decide +kernel
theorem dX11_test_17 : decode cX11_test 17 = .ok (.invokevirtual 241, 3) := by decide +kernel
theorem dX11_test_20 : decode cX11_test 20 = .ok (.aload_n 0, 1) := by decide +kernel
theorem dX11_test_21 : decode cX11_test 21 = .ok (.iload_n 1, 1) := by decide +kernel
theorem dX11_test_22 : decode cX11_test 22 = .ok (.iload_n 2, 1) := by decide +kernel
theorem dX11_test_23 : decode cX11_test 23 = .ok (.iconst 0, 1) := by decide +kernel
theorem dX11_test_24 : decode cX11_test 24 = .ok (.invokevirtual 219, 3) := by decide +kernel
theorem dX11_test_27 : decode cX11_test 27 = .ok (.ifCond .eq 7, 3) := by decide +kernel
theorem dX11_test_30 : decode cX11_test 30 = .ok (.iconst 1, 1) := by decide +kernel
theorem dX11_test_31 : decode cX11_test 31 = .ok (.goto 4, 3) := by decide +kernel
theorem dX11_test_34 : decode cX11_test 34 = .ok (.iconst 0, 1) := by decide +kernel
theorem dX11_test_35 : decode cX11_test 35 = .ok (.ireturn, 1) := by decide +kernel
theorem dX11_mayGoOn_0 : decode cX11_mayGoOn 0 = .ok (.iload_n 1, 1) := by decide +kernel
theorem dX11_mayGoOn_1 : decode cX11_mayGoOn 1 = .ok (.iconst 1, 1) := by decide +kernel
theorem dX11_mayGoOn_2 : decode cX11_mayGoOn 2 = .ok (.bipush 60, 2) := by decide +kernel
theorem dX11_mayGoOn_4 : decode cX11_mayGoOn 4 = .ok (.invokestatic 84, 3) := by decide +kernel
theorem dX11_mayGoOn_7 : decode cX11_mayGoOn 7 = .ok (.ifCond .ne 6, 3) := by decide +kernel
theorem dX11_mayGoOn_10 : decode cX11_mayGoOn 10 = .ok (.ldc 106, 2) := by decide +kernel
theorem dX11_mayGoOn_12 : decode cX11_mayGoOn 12 = .ok (.ireturn, 1) := by decide +kernel
theorem dX11_mayGoOn_13 : decode cX11_mayGoOn 13 = .ok (.aload_n 0, 1) := by decide +kernel
theorem dX11_mayGoOn_14 : decode cX11_mayGoOn 14 = .ok (.getfield 81, 3) := by decide +kernel
theorem dX11_mayGoOn_17 : decode cX11_mayGoOn 17 = .ok (.ifCond .ne 8, 3) := by decide +kernel
theorem dX11_mayGoOn_20 : decode cX11_mayGoOn 20 = .ok (.ldc 230, 2) := by decide +kernel
theorem dX11_mayGoOn_22 : decode cX11_mayGoOn 22 = .ok (.goto 19, 3) := by decide +kernel
theorem dX11_mayGoOn_25 : decode cX11_mayGoOn 25 = .ok (.aload_n 0, 1) := by decide +kernel
theorem dX11_mayGoOn_26 : decode cX11_mayGoOn 26 = .ok (.getfield 173, 3) := by decide +kernel
theorem dX11_mayGoOn_29 : decode cX11_mayGoOn 29 = .ok (.sipush 9000, 3) := by decide +kernel
theorem dX11_mayGoOn_32 : decode cX11_mayGoOn 32 = .ok (.if_icmp .le 8, 3) := by decide +kernel
theorem dX11_mayGoOn_35 : decode cX11_mayGoOn 35 = .ok (.ldc 110, 2) := by decide +kernel
theorem dX11_mayGoOn_37 : decode cX11_mayGoOn 37 = .ok (.goto 4, 3) := by decide +kernel
theorem dX11_mayGoOn_40 : decode cX11_mayGoOn 40 = .ok (.iconst 0, 1) := by decide +kernel
theorem dX11_mayGoOn_41 : decode cX11_mayGoOn 41 = .ok (.ireturn, 1) := by decide +kernel
theorem dX11_rest_0 : decode cX11_rest 0 = .ok (.aload_n 0, 1) := by decide +kernel
theorem dX11_rest_1 : decode cX11_rest 1 = .ok (.iload_n 1, 1) := by decide +kernel
theorem dX11_rest_2 : decode cX11_rest 2 = .ok (.invokevirtual 244, 3) := by decide +kernel
theorem dX11_rest_5 : decode cX11_rest 5 = .ok (.istore_n 2, 1) := by decide +kernel
theorem dX11_rest_6 : decode cX11_rest 6 = .ok (.iload_n 2, 1) := by decide +kernel
theorem dX11_rest_7 : decode cX11_rest 7 = .ok (.ifCond .ge 5, 3) := by decide +kernel
theorem dX11_rest_10 : decode cX11_rest 10 = .ok (.iload_n 2, 1) := by decide +kernel
theorem dX11_rest_11 : decode cX11_rest 11 = .ok (.ireturn, 1) := by decide +kernel
theorem dX11_rest_12 : decode cX11_rest 12 = .ok (.aload_n 0, 1) := by decide +kernel
theorem dX11_rest_13 : decode cX11_rest 13 = .ok (.invokevirtual 231, 3) := by decide +kernel
theorem dX11_rest_16 : decode cX11_rest 16 = .ok (.aload_n 0, 1) := by decide +kernel
theorem dX11_rest_17 : decode cX11_rest 17 = .ok (.dup, 1) := by decide +kernel
theorem dX11_rest_18 : decode cX11_rest 18 = .ok (.getfield 173, 3) := by decide +kernel
theorem dX11_rest_21 : decode cX11_rest 21 = .ok (.iload_n 1, 1) := by decide +kernel
theorem dX11_rest_22 : decode cX11_rest 22 = .ok (.iadd, 1) := by decide +kernel
theorem dX11_rest_23 : decode cX11_rest 23 = .ok (.putfield 173, 3) := by decide +kernel
theorem dX11_rest_26 : decode cX11_rest 26 = .ok (.aload_n 0, 1) := by decide +kernel
theorem dX11_rest_27 : decode cX11_rest 27 = .ok (.getfield 173, 3) := by decide +kernel
theorem dX11_rest_30 : decode cX11_rest 30 = .ok (.ireturn, 1) := by decide +kernel
theorem dX11_mend_0 : decode cX11_mend 0 = .ok (.aload_n 0, 1) := by decide +kernel
theorem dX11_mend_1 : decode cX11_mend 1 = .ok (.iload_n 1, 1) := by decide +kernel
theorem dX11_mend_2 : decode cX11_mend 2 = .ok (.invokevirtual 88, 3) := by decide +kernel
theorem dX11_mend_5 : decode cX11_mend 5 = .ok (.ifCond .ne 6, 3) := by decide +kernel
theorem dX11_mend_8 : decode cX11_mend 8 = .ok (.ldc 215, 2) := by decide +kernel
theorem dX11_mend_10 : decode cX11_mend 10 = .ok (.ireturn, 1) := by decide +kernel
theorem dX11_mend_11 : decode cX11_mend 11 = .ok (.iload_n 2, 1) := by decide +kernel
theorem dX11_mend_12 : decode cX11_mend 12 = .ok (.iconst 0, 1) := by decide +kernel
theorem dX11_mend_13 : decode cX11_mend 13 = .ok (.iconst 3, 1) := by decide +kernel
theorem dX11_mend_14 : decode cX11_mend 14 = .ok (.invokestatic 84, 3) := by decide +kernel
theorem dX11_mend_17 : decode cX11_mend 17 = .ok (.ifCond .ne 6, 3) := by decide +kernel
theorem dX11_mend_20 : decode cX11_mend 20 = .ok (.ldc 106, 2) := by decide +kernel
theorem dX11_mend_22 : decode cX11_mend 22 = .ok (.ireturn, 1) := by decide +kernel
theorem dX11_mend_23 : decode cX11_mend 23 = .ok (.aload_n 0, 1) := by decide +kernel
theorem dX11_mend_24 : decode cX11_mend 24 = .ok (.getfield 13, 3) := by decide +kernel
theorem dX11_mend_27 : decode cX11_mend 27 = .ok (.iload_n 1, 1) := by decide +kernel
theorem dX11_mend_28 : decode cX11_mend 28 = .ok (.iaload, 1) := by decide +kernel
theorem dX11_mend_29 : decode cX11_mend 29 = .ok (.istore_n 3, 1) := by decide +kernel
theorem dX11_mend_30 : decode cX11_mend 30 = .ok (.iload_n 3, 1) := by decide +kernel
theorem dX11_mend_31 : decode cX11_mend 31 = .ok (.iload_n 2, 1) := by decide +kernel
theorem dX11_mend_32 : decode cX11_mend 32 = .ok (.if_icmp .ne 6, 3) := by decide +kernel
theorem dX11_mend_35 : decode cX11_mend 35 = .ok (.ldc 230, 2) := by decide +kernel
theorem dX11_mend_37 : decode cX11_mend 37 = .ok (.ireturn, 1) := by decide +kernel
theorem dX11_mend_38 : decode cX11_mend 38 = .ok (.aload_n 0, 1) := by decide +kernel
theorem dX11_mend_39 : decode cX11_mend 39 = .ok (.invokevirtual 231, 3) := by decide +kernel
theorem dX11_mend_42 : decode cX11_mend 42 = .ok (.aload_n 0, 1) := by decide +kernel
theorem dX11_mend_43 : decode cX11_mend 43 = .ok (.getfield 13, 3) := by decide +kernel
theorem dX11_mend_46 : decode cX11_mend 46 = .ok (.iload_n 1, 1) := by decide +kernel
theorem dX11_mend_47 : decode cX11_mend 47 = .ok (.iload_n 2, 1) := by decide +kernel
theorem dX11_mend_48 : decode cX11_mend 48 = .ok (.iastore, 1) := by decide +kernel
theorem dX11_mend_49 : decode cX11_mend 49 = .ok (.iload_n 3, 1) := by decide +kernel
theorem dX11_mend_50 : decode cX11_mend 50 = .ok (.ireturn, 1) := by decide +kernel
theorem dX11_touch_0 : decode cX11_touch 0 = .ok (.aload_n 0, 1) := by decide +kernel
theorem dX11_touch_1 : decode cX11_touch 1 = .ok (.iload_n 1, 1) := by decide +kernel
theorem dX11_touch_2 : decode cX11_touch 2 = .ok (.invokevirtual 88, 3) := by decide +kernel
theorem dX11_touch_5 : decode cX11_touch 5 = .ok (.ifCond .eq 16, 3) := by decide +kernel
theorem dX11_touch_8 : decode cX11_touch 8 = .ok (.aload_n 0, 1) := by decide +kernel
theorem dX11_touch_9 : decode cX11_touch 9 = .ok (.iload_n 2, 1) := by decide +kernel
theorem dX11_touch_10 : decode cX11_touch 10 = .ok (.invokevirtual 88, 3) := by decide +kernel
theorem dX11_touch_13 : decode cX11_touch 13 = .ok (.ifCond .eq 8, 3) := by decide +kernel
theorem dX11_touch_16 : decode cX11_touch 16 = .ok (.iload_n 1, 1) := by decide +kernel
theorem dX11_touch_17 : decode cX11_touch 17 = .ok (.iload_n 2, 1) := by decide +kernel
theorem dX11_touch_18 : decode cX11_touch 18 = .ok (.if_icmp .ne 6, 3) := by decide +kernel
theorem dX11_touch_21 : decode cX11_touch 21 = .ok (.ldc 215, 2) := by decide +kernel
theorem dX11_touch_23 : decode cX11_touch 23 = .ok (.ireturn, 1) := by decide +kernel
theorem dX11_touch_24 : decode cX11_touch 24 = .ok (.aload_n 0, 1) := by decide +kernel
theorem dX11_touch_25 : decode cX11_touch 25 = .ok (.iload_n 1, 1) := by decide +kernel
theorem dX11_touch_26 : decode cX11_touch 26 = .ok (.iload_n 2, 1) := by decide +kernel
theorem dX11_touch_27 : decode cX11_touch 27 = .ok (.invokevirtual 103, 3) := by decide +kernel
theorem dX11_touch_30 : decode cX11_touch 30 = .ok (.iload_n 3, 1) := by decide +kernel
theorem dX11_touch_31 : decode cX11_touch 31 = .ok (.if_icmp .ne 6, 3) := by decide +kernel
theorem dX11_touch_34 : decode cX11_touch 34 = .ok (.ldc 230, 2) := by decide +kernel
theorem dX11_touch_36 : decode cX11_touch 36 = .ok (.ireturn, 1) := by decide +kernel
theorem dX11_touch_37 : decode cX11_touch 37 = .ok (.aload_n 0, 1) := by decide +kernel
theorem dX11_touch_38 : decode cX11_touch 38 = .ok (.invokevirtual 231, 3) := by decide +kernel
theorem dX11_touch_41 : decode cX11_touch 41 = .ok (.aload_n 0, 1) := by decide +kernel
theorem dX11_touch_42 : decode cX11_touch 42 = .ok (.dup, 1) := by decide +kernel
theorem dX11_touch_43 : decode cX11_touch 43 = .ok (.getfield 92, 3) := by decide +kernel
theorem dX11_touch_46 : decode cX11_touch 46 = .ok (.iconst 1, 1) := by decide +kernel
theorem dX11_touch_47 : decode cX11_touch 47 = .ok (.iload_n 1, 1) := by decide +kernel
theorem dX11_touch_48 : decode cX11_touch 48 = .ok (.iload_n 2, 1) := by decide +kernel
theorem dX11_touch_49 : decode cX11_touch 49 = .ok (.invokestatic 95, 3) := by decide +kernel
theorem dX11_touch_52 : decode cX11_touch 52 = .ok (.ishl, 1) := by decide +kernel
theorem dX11_touch_53 : decode cX11_touch 53 = .ok (.ixor, 1) := by decide +kernel
theorem dX11_touch_54 : decode cX11_touch 54 = .ok (.putfield 92, 3) := by decide +kernel
theorem dX11_touch_57 : decode cX11_touch 57 = .ok (.aload_n 0, 1) := by decide +kernel
theorem dX11_touch_58 : decode cX11_touch 58 = .ok (.invokevirtual 247, 3) := by decide +kernel
theorem dX11_touch_61 : decode cX11_touch 61 = .ok (.ireturn, 1) := by decide +kernel
theorem dX11_draw_0 : decode cX11_draw 0 = .ok (.aload_n 0, 1) := by decide +kernel
theorem dX11_draw_1 : decode cX11_draw 1 = .ok (.aload_n 0, 1) := by decide +kernel
theorem dX11_draw_2 : decode cX11_draw 2 = .ok (.getfield 250, 3) := by decide +kernel
theorem dX11_draw_5 : decode cX11_draw 5 = .ok (.ldc2_w 254, 3) := by decide +kernel
theorem dX11_draw_8 : decode cX11_draw 8 = .ok (.lmul, 1) := by decide +kernel
theorem dX11_draw_9 : decode cX11_draw 9 = .ok (.ldc2_w 256, 3) := by decide +kernel
theorem dX11_draw_12 : decode cX11_draw 12 = .ok (.ladd, 1) := by decide +kernel
theorem dX11_draw_13 : decode cX11_draw 13 = .ok (.ldc2_w 258, 3) := by decide +kernel
theorem dX11_draw_16 : decode cX11_draw 16 = .ok (.lrem, 1) := by decide +kernel
theorem dX11_draw_17 : decode cX11_draw 17 = .ok (.putfield 250, 3) := by decide +kernel
theorem dX11_draw_20 : decode cX11_draw 20 = .ok (.aload_n 0, 1) := by decide +kernel
theorem dX11_draw_21 : decode cX11_draw 21 = .ok (.getfield 250, 3) := by decide +kernel
theorem dX11_draw_24 : decode cX11_draw 24 = .ok (.ldc2_w 260, 3) := by decide +kernel
theorem dX11_draw_27 : decode cX11_draw 27 = .ok (.ldiv, 1) := by decide +kernel
theorem dX11_draw_28 : decode cX11_draw 28 = .ok (.iload_n 1, 1) := by decide +kernel
theorem dX11_draw_29 : decode cX11_draw 29 = .ok (.i2l, 1) := by decide +kernel
theorem dX11_draw_30 : decode cX11_draw 30 = .ok (.lrem, 1) := by decide +kernel
theorem dX11_draw_31 : decode cX11_draw 31 = .ok (.l2i, 1) := by decide +kernel
theorem dX11_draw_32 : decode cX11_draw 32 = .ok (.ireturn, 1) := by decide +kernel
theorem dX11_driftsHour_0 : decode cX11_driftsHour 0 = .ok (.aload_n 0, 1) := by decide +kernel
theorem dX11_driftsHour_1 : decode cX11_driftsHour 1 = .ok (.iconst 4, 1) := by decide +kernel
theorem dX11_driftsHour_2 : decode cX11_driftsHour 2 = .ok (.invokevirtual 262, 3) := by decide +kernel
theorem dX11_driftsHour_5 : decode cX11_driftsHour 5 = .ok (.istore_n 1, 1) := by decide +kernel
theorem dX11_driftsHour_6 : decode cX11_driftsHour 6 = .ok (.aload_n 0, 1) := by decide +kernel
theorem dX11_driftsHour_7 : decode cX11_driftsHour 7 = .ok (.aload_n 0, 1) := by decide +kernel
theorem dX11_driftsHour_8 : decode cX11_driftsHour 8 = .ok (.getfield 81, 3) := by decide +kernel
theorem dX11_driftsHour_11 : decode cX11_driftsHour 11 = .ok (.invokevirtual 262, 3) := by decide +kernel
theorem dX11_driftsHour_14 : decode cX11_driftsHour 14 = .ok (.istore_n 2, 1) := by decide +kernel
theorem dX11_driftsHour_15 : decode cX11_driftsHour 15 = .ok (.iload_n 1, 1) := by decide +kernel
theorem dX11_driftsHour_16 : decode cX11_driftsHour 16 = .ok (.ifCond .ne 16, 3) := by decide +kernel
theorem dX11_driftsHour_19 : decode cX11_driftsHour 19 = .ok (.aload_n 0, 1) := by decide +kernel
theorem dX11_driftsHour_20 : decode cX11_driftsHour 20 = .ok (.iload_n 2, 1) := by decide +kernel
theorem dX11_driftsHour_21 : decode cX11_driftsHour 21 = .ok (.aload_n 0, 1) := by decide +kernel
theorem dX11_driftsHour_22 : decode cX11_driftsHour 22 = .ok (.iconst 4, 1) := by decide +kernel
theorem dX11_driftsHour_23 : decode cX11_driftsHour 23 = .ok (.invokevirtual 262, 3) := by decide +kernel
theorem dX11_driftsHour_26 : decode cX11_driftsHour 26 = .ok (.invokevirtual 234, 3) := by decide +kernel
theorem dX11_driftsHour_29 : decode cX11_driftsHour 29 = .ok (.goto 50, 3) := by decide +kernel
theorem dX11_driftsHour_32 : decode cX11_driftsHour 32 = .ok (.iload_n 1, 1) := by decide +kernel
theorem dX11_driftsHour_33 : decode cX11_driftsHour 33 = .ok (.iconst 1, 1) := by decide +kernel
theorem dX11_driftsHour_34 : decode cX11_driftsHour 34 = .ok (.if_icmp .ne 22, 3) := by decide +kernel
theorem dX11_driftsHour_37 : decode cX11_driftsHour 37 = .ok (.aload_n 0, 1) := by decide +kernel
theorem dX11_driftsHour_38 : decode cX11_driftsHour 38 = .ok (.aload_n 0, 1) := by decide +kernel
theorem dX11_driftsHour_39 : decode cX11_driftsHour 39 = .ok (.getfield 81, 3) := by decide +kernel
theorem dX11_driftsHour_42 : decode cX11_driftsHour 42 = .ok (.invokevirtual 262, 3) := by decide +kernel
theorem dX11_driftsHour_45 : decode cX11_driftsHour 45 = .ok (.iload_n 2, 1) := by decide +kernel
theorem dX11_driftsHour_46 : decode cX11_driftsHour 46 = .ok (.if_icmp .eq 33, 3) := by decide +kernel
theorem dX11_driftsHour_49 : decode cX11_driftsHour 49 = .ok (.aload_n 0, 1) := by decide +kernel
theorem dX11_driftsHour_50 : decode cX11_driftsHour 50 = .ok (.invokevirtual 241, 3) := by decide +kernel
theorem dX11_driftsHour_53 : decode cX11_driftsHour 53 = .ok (.goto 26, 3) := by decide +kernel
theorem dX11_driftsHour_56 : decode cX11_driftsHour 56 = .ok (.iload_n 1, 1) := by decide +kernel
theorem dX11_driftsHour_57 : decode cX11_driftsHour 57 = .ok (.iconst 2, 1) := by decide +kernel
theorem dX11_driftsHour_58 : decode cX11_driftsHour 58 = .ok (.if_icmp .ne 10, 3) := by decide +kernel
theorem dX11_driftsHour_61 : decode cX11_driftsHour 61 = .ok (.aload_n 0, 1) := by decide +kernel
theorem dX11_driftsHour_62 : decode cX11_driftsHour 62 = .ok (.invokevirtual 238, 3) := by decide +kernel
theorem dX11_driftsHour_65 : decode cX11_driftsHour 65 = .ok (.goto 14, 3) := by decide +kernel
theorem dX11_driftsHour_68 : decode cX11_driftsHour 68 = .ok (.aload_n 0, 1) := by decide +kernel
theorem dX11_driftsHour_69 : decode cX11_driftsHour 69 = .ok (.getfield 13, 3) := by decide +kernel
theorem dX11_driftsHour_72 : decode cX11_driftsHour 72 = .ok (.iload_n 2, 1) := by decide +kernel
theorem dX11_driftsHour_73 : decode cX11_driftsHour 73 = .ok (.aload_n 0, 1) := by decide +kernel
theorem dX11_driftsHour_74 : decode cX11_driftsHour 74 = .ok (.iconst 4, 1) := by decide +kernel
theorem dX11_driftsHour_75 : decode cX11_driftsHour 75 = .ok (.invokevirtual 262, 3) := by decide +kernel
theorem dX11_driftsHour_78 : decode cX11_driftsHour 78 = .ok (.iastore, 1) := by decide +kernel
theorem dX11_driftsHour_79 : decode cX11_driftsHour 79 = .ok (.aload_n 0, 1) := by decide +kernel
theorem dX11_driftsHour_80 : decode cX11_driftsHour 80 = .ok (.dup, 1) := by decide +kernel
theorem dX11_driftsHour_81 : decode cX11_driftsHour 81 = .ok (.getfield 173, 3) := by decide +kernel
theorem dX11_driftsHour_84 : decode cX11_driftsHour 84 = .ok (.iconst 1, 1) := by decide +kernel
theorem dX11_driftsHour_85 : decode cX11_driftsHour 85 = .ok (.iadd, 1) := by decide +kernel
theorem dX11_driftsHour_86 : decode cX11_driftsHour 86 = .ok (.putfield 173, 3) := by decide +kernel
theorem dX11_driftsHour_89 : decode cX11_driftsHour 89 = .ok (.return_, 1) := by decide +kernel
theorem dX11_drift_0 : decode cX11_drift 0 = .ok (.aload_n 0, 1) := by decide +kernel
theorem dX11_drift_1 : decode cX11_drift 1 = .ok (.iload_n 1, 1) := by decide +kernel
theorem dX11_drift_2 : decode cX11_drift 2 = .ok (.invokevirtual 244, 3) := by decide +kernel
theorem dX11_drift_5 : decode cX11_drift 5 = .ok (.istore_n 2, 1) := by decide +kernel
theorem dX11_drift_6 : decode cX11_drift 6 = .ok (.iload_n 2, 1) := by decide +kernel
theorem dX11_drift_7 : decode cX11_drift 7 = .ok (.ifCond .ge 5, 3) := by decide +kernel
theorem dX11_drift_10 : decode cX11_drift 10 = .ok (.iload_n 2, 1) := by decide +kernel
theorem dX11_drift_11 : decode cX11_drift 11 = .ok (.ireturn, 1) := by decide +kernel
theorem dX11_drift_12 : decode cX11_drift 12 = .ok (.aload_n 0, 1) := by decide +kernel
theorem dX11_drift_13 : decode cX11_drift 13 = .ok (.invokevirtual 231, 3) := by decide +kernel
theorem dX11_drift_16 : decode cX11_drift 16 = .ok (.iconst 0, 1) := by decide +kernel
theorem dX11_drift_17 : decode cX11_drift 17 = .ok (.istore_n 3, 1) := by decide +kernel
theorem dX11_drift_18 : decode cX11_drift 18 = .ok (.iload_n 3, 1) := by decide +kernel
theorem dX11_drift_19 : decode cX11_drift 19 = .ok (.iload_n 1, 1) := by decide +kernel
theorem dX11_drift_20 : decode cX11_drift 20 = .ok (.if_icmp .ge 13, 3) := by decide +kernel
theorem dX11_drift_23 : decode cX11_drift 23 = .ok (.aload_n 0, 1) := by decide +kernel
theorem dX11_drift_24 : decode cX11_drift 24 = .ok (.invokevirtual 265, 3) := by decide +kernel
theorem dX11_drift_27 : decode cX11_drift 27 = .ok (.iinc 3 1, 3) := by decide +kernel
theorem dX11_drift_30 : decode cX11_drift 30 = .ok (.goto (-12), 3) := by decide +kernel
theorem dX11_drift_33 : decode cX11_drift 33 = .ok (.aload_n 0, 1) := by decide +kernel
theorem dX11_drift_34 : decode cX11_drift 34 = .ok (.getfield 173, 3) := by decide +kernel
theorem dX11_drift_37 : decode cX11_drift 37 = .ok (.ireturn, 1) := by decide +kernel
theorem dX11_undo_0 : decode cX11_undo 0 = .ok (.aload_n 0, 1) := by decide +kernel
theorem dX11_undo_1 : decode cX11_undo 1 = .ok (.getfield 188, 3) := by decide +kernel
theorem dX11_undo_4 : decode cX11_undo 4 = .ok (.ifCond .ne 6, 3) := by decide +kernel
theorem dX11_undo_7 : decode cX11_undo 7 = .ok (.ldc 230, 2) := by decide +kernel
theorem dX11_undo_9 : decode cX11_undo 9 = .ok (.ireturn, 1) := by decide +kernel
theorem dX11_undo_10 : decode cX11_undo 10 = .ok (.aload_n 0, 1) := by decide +kernel
theorem dX11_undo_11 : decode cX11_undo 11 = .ok (.dup, 1) := by decide +kernel
theorem dX11_undo_12 : decode cX11_undo 12 = .ok (.getfield 188, 3) := by decide +kernel
theorem dX11_undo_15 : decode cX11_undo 15 = .ok (.iconst 1, 1) := by decide +kernel
theorem dX11_undo_16 : decode cX11_undo 16 = .ok (.isub, 1) := by decide +kernel
theorem dX11_undo_17 : decode cX11_undo 17 = .ok (.putfield 188, 3) := by decide +kernel
theorem dX11_undo_20 : decode cX11_undo 20 = .ok (.aload_n 0, 1) := by decide +kernel
theorem dX11_undo_21 : decode cX11_undo 21 = .ok (.aload_n 0, 1) := by decide +kernel
theorem dX11_undo_22 : decode cX11_undo 22 = .ok (.getfield 44, 3) := by decide +kernel
theorem dX11_undo_25 : decode cX11_undo 25 = .ok (.bipush 20, 2) := by decide +kernel
theorem dX11_undo_27 : decode cX11_undo 27 = .ok (.aload_n 0, 1) := by decide +kernel
theorem dX11_undo_28 : decode cX11_undo 28 = .ok (.getfield 188, 3) := by decide +kernel
theorem dX11_undo_31 : decode cX11_undo 31 = .ok (.imul, 1) := by decide +kernel
theorem dX11_undo_32 : decode cX11_undo 32 = .ok (.invokevirtual 268, 3) := by decide +kernel
theorem dX11_undo_35 : decode cX11_undo 35 = .ok (.aload_n 0, 1) := by decide +kernel
theorem dX11_undo_36 : decode cX11_undo 36 = .ok (.getfield 188, 3) := by decide +kernel
theorem dX11_undo_39 : decode cX11_undo 39 = .ok (.ireturn, 1) := by decide +kernel
theorem dX11_cut_0 : decode cX11_cut 0 = .ok (.iload_n 2, 1) := by decide +kernel
theorem dX11_cut_1 : decode cX11_cut 1 = .ok (.iconst (-1), 1) := by decide +kernel
theorem dX11_cut_2 : decode cX11_cut 2 = .ok (.if_icmp .eq 12, 3) := by decide +kernel
theorem dX11_cut_5 : decode cX11_cut 5 = .ok (.aload_n 0, 1) := by decide +kernel
theorem dX11_cut_6 : decode cX11_cut 6 = .ok (.iload_n 1, 1) := by decide +kernel
theorem dX11_cut_7 : decode cX11_cut 7 = .ok (.iload_n 2, 1) := by decide +kernel
theorem dX11_cut_8 : decode cX11_cut 8 = .ok (.invokevirtual 216, 3) := by decide +kernel
theorem dX11_cut_11 : decode cX11_cut 11 = .ok (.ifCond .ne 6, 3) := by decide +kernel
theorem dX11_cut_14 : decode cX11_cut 14 = .ok (.ldc 215, 2) := by decide +kernel
theorem dX11_cut_16 : decode cX11_cut 16 = .ok (.ireturn, 1) := by decide +kernel
theorem dX11_cut_17 : decode cX11_cut 17 = .ok (.iconst (-1), 1) := by decide +kernel
theorem dX11_cut_18 : decode cX11_cut 18 = .ok (.istore_n 3, 1) := by decide +kernel
theorem dX11_cut_19 : decode cX11_cut 19 = .ok (.ldc_w 271, 3) := by decide +kernel
theorem dX11_cut_22 : decode cX11_cut 22 = .ok (.istore 4, 2) := by decide +kernel
theorem dX11_cut_24 : decode cX11_cut 24 = .ok (.iconst 0, 1) := by decide +kernel
theorem dX11_cut_25 : decode cX11_cut 25 = .ok (.istore 5, 2) := by decide +kernel
theorem dX11_cut_27 : decode cX11_cut 27 = .ok (.iload 5, 2) := by decide +kernel
theorem dX11_cut_29 : decode cX11_cut 29 = .ok (.iconst 1, 1) := by decide +kernel
theorem dX11_cut_30 : decode cX11_cut 30 = .ok (.aload_n 0, 1) := by decide +kernel
theorem dX11_cut_31 : decode cX11_cut 31 = .ok (.getfield 81, 3) := by decide +kernel
theorem dX11_cut_34 : decode cX11_cut 34 = .ok (.ishl, 1) := by decide +kernel
theorem dX11_cut_35 : decode cX11_cut 35 = .ok (.if_icmp .ge 40, 3) := by decide +kernel
theorem dX11_cut_38 : decode cX11_cut 38 = .ok (.iload 5, 2) := by decide +kernel
theorem dX11_cut_40 : decode cX11_cut 40 = .ok (.invokestatic 272, 3) := by decide +kernel
theorem dX11_cut_43 : decode cX11_cut 43 = .ok (.iload 4, 2) := by decide +kernel
theorem dX11_cut_45 : decode cX11_cut 45 = .ok (.if_icmp .ge 24, 3) := by decide +kernel
theorem dX11_cut_48 : decode cX11_cut 48 = .ok (.aload_n 0, 1) := by decide +kernel
theorem dX11_cut_49 : decode cX11_cut 49 = .ok (.iload_n 1, 1) := by decide +kernel
theorem dX11_cut_50 : decode cX11_cut 50 = .ok (.iload_n 2, 1) := by decide +kernel
theorem dX11_cut_51 : decode cX11_cut 51 = .ok (.iload 5, 2) := by decide +kernel
theorem dX11_cut_53 : decode cX11_cut 53 = .ok (.invokevirtual 219, 3) := by decide +kernel
theorem dX11_cut_56 : decode cX11_cut 56 = .ok (.ifCond .ne 13, 3) := by decide +kernel
theorem dX11_cut_59 : decode cX11_cut 59 = .ok (.iload 5, 2) := by decide +kernel
theorem dX11_cut_61 : decode cX11_cut 61 = .ok (.istore_n 3, 1) := by decide +kernel
theorem dX11_cut_62 : decode cX11_cut 62 = .ok (.iload 5, 2) := by decide +kernel
theorem dX11_cut_64 : decode cX11_cut 64 = .ok (.invokestatic 272, 3) := by decide +kernel
theorem dX11_cut_67 : decode cX11_cut 67 = .ok (.istore 4, 2) := by decide +kernel
theorem dX11_cut_69 : decode cX11_cut 69 = .ok (.iinc 5 1, 3) := by decide +kernel
theorem dX11_cut_72 : decode cX11_cut 72 = .ok (.goto (-45), 3) := by decide +kernel
theorem dX11_cut_75 : decode cX11_cut 75 = .ok (.iload_n 3, 1) := by decide +kernel
theorem dX11_cut_76 : decode cX11_cut 76 = .ok (.ireturn, 1) := by decide +kernel
theorem dX11_firstOrder_0 : decode cX11_firstOrder 0 = .ok (.iconst 0, 1) := by decide +kernel
theorem dX11_firstOrder_1 : decode cX11_firstOrder 1 = .ok (.istore_n 1, 1) := by decide +kernel
theorem dX11_firstOrder_2 : decode cX11_firstOrder 2 = .ok (.iload_n 1, 1) := by decide +kernel
theorem dX11_firstOrder_3 : decode cX11_firstOrder 3 = .ok (.iconst 5, 1) := by decide +kernel
theorem dX11_firstOrder_4 : decode cX11_firstOrder 4 = .ok (.if_icmp .ge 16, 3) := by decide +kernel
theorem dX11_firstOrder_7 : decode cX11_firstOrder 7 = .ok (.aload_n 0, 1) := by decide +kernel
theorem dX11_firstOrder_8 : decode cX11_firstOrder 8 = .ok (.getfield 57, 3) := by decide +kernel
theorem dX11_firstOrder_11 : decode cX11_firstOrder 11 = .ok (.iload_n 1, 1) := by decide +kernel
theorem dX11_firstOrder_12 : decode cX11_firstOrder 12 = .ok (.iload_n 1, 1) := by decide +kernel
theorem dX11_firstOrder_13 : decode cX11_firstOrder 13 = .ok (.iastore, 1) := by decide +kernel
theorem dX11_firstOrder_14 : decode cX11_firstOrder 14 = .ok (.iinc 1 1, 3) := by decide +kernel
theorem dX11_firstOrder_17 : decode cX11_firstOrder 17 = .ok (.goto (-15), 3) := by decide +kernel
theorem dX11_firstOrder_20 : decode cX11_firstOrder 20 = .ok (.return_, 1) := by decide +kernel
theorem dX11_nextOrder_0 : decode cX11_nextOrder 0 = .ok (.aload_n 0, 1) := by decide +kernel
theorem dX11_nextOrder_1 : decode cX11_nextOrder 1 = .ok (.getfield 81, 3) := by decide +kernel
theorem dX11_nextOrder_4 : decode cX11_nextOrder 4 = .ok (.iconst 2, 1) := by decide +kernel
theorem dX11_nextOrder_5 : decode cX11_nextOrder 5 = .ok (.isub, 1) := by decide +kernel
theorem dX11_nextOrder_6 : decode cX11_nextOrder 6 = .ok (.istore_n 1, 1) := by decide +kernel
theorem dX11_nextOrder_7 : decode cX11_nextOrder 7 = .ok (.iload_n 1, 1) := by decide +kernel
theorem dX11_nextOrder_8 : decode cX11_nextOrder 8 = .ok (.ifCond .lt 26, 3) := by decide +kernel
theorem dX11_nextOrder_11 : decode cX11_nextOrder 11 = .ok (.aload_n 0, 1) := by decide +kernel
theorem dX11_nextOrder_12 : decode cX11_nextOrder 12 = .ok (.getfield 57, 3) := by decide +kernel
theorem dX11_nextOrder_15 : decode cX11_nextOrder 15 = .ok (.iload_n 1, 1) := by decide +kernel
theorem dX11_nextOrder_16 : decode cX11_nextOrder 16 = .ok (.iaload, 1) := by decide +kernel
theorem dX11_nextOrder_17 : decode cX11_nextOrder 17 = .ok (.aload_n 0, 1) := by decide +kernel
theorem dX11_nextOrder_18 : decode cX11_nextOrder 18 = .ok (.getfield 57, 3) := by decide +kernel
theorem dX11_nextOrder_21 : decode cX11_nextOrder 21 = .ok (.iload_n 1, 1) := by decide +kernel
theorem dX11_nextOrder_22 : decode cX11_nextOrder 22 = .ok (.iconst 1, 1) := by decide +kernel
theorem dX11_nextOrder_23 : decode cX11_nextOrder 23 = .ok (.iadd, 1) := by decide +kernel
theorem dX11_nextOrder_24 : decode cX11_nextOrder 24 = .ok (.iaload, 1) := by decide +kernel
theorem dX11_nextOrder_25 : decode cX11_nextOrder 25 = .ok (.if_icmp .le 9, 3) := by decide +kernel
theorem dX11_nextOrder_28 : decode cX11_nextOrder 28 = .ok (.iinc 1 (-1), 3) := by decide +kernel
theorem dX11_nextOrder_31 : decode cX11_nextOrder 31 = .ok (.goto (-24), 3) := by decide +kernel
theorem dX11_nextOrder_34 : decode cX11_nextOrder 34 = .ok (.iload_n 1, 1) := by decide +kernel
theorem dX11_nextOrder_35 : decode cX11_nextOrder 35 = .ok (.ifCond .ge 5, 3) := by decide +kernel
theorem dX11_nextOrder_38 : decode cX11_nextOrder 38 = .ok (.iconst 0, 1) := by decide +kernel
theorem dX11_nextOrder_39 : decode cX11_nextOrder 39 = .ok (.ireturn, 1) := by decide +kernel
theorem dX11_nextOrder_40 : decode cX11_nextOrder 40 = .ok (.aload_n 0, 1) := by decide +kernel
theorem dX11_nextOrder_41 : decode cX11_nextOrder 41 = .ok (.getfield 81, 3) := by decide +kernel
theorem dX11_nextOrder_44 : decode cX11_nextOrder 44 = .ok (.iconst 1, 1) := by decide +kernel
theorem dX11_nextOrder_45 : decode cX11_nextOrder 45 = .ok (.isub, 1) := by decide +kernel
theorem dX11_nextOrder_46 : decode cX11_nextOrder 46 = .ok (.istore_n 2, 1) := by decide +kernel
theorem dX11_nextOrder_47 : decode cX11_nextOrder 47 = .ok (.aload_n 0, 1) := by decide +kernel
theorem dX11_nextOrder_48 : decode cX11_nextOrder 48 = .ok (.getfield 57, 3) := by decide +kernel
theorem dX11_nextOrder_51 : decode cX11_nextOrder 51 = .ok (.iload_n 2, 1) := by decide +kernel
theorem dX11_nextOrder_52 : decode cX11_nextOrder 52 = .ok (.iaload, 1) := by decide +kernel
theorem dX11_nextOrder_53 : decode cX11_nextOrder 53 = .ok (.aload_n 0, 1) := by decide +kernel
theorem dX11_nextOrder_54 : decode cX11_nextOrder 54 = .ok (.getfield 57, 3) := by decide +kernel
theorem dX11_nextOrder_57 : decode cX11_nextOrder 57 = .ok (.iload_n 1, 1) := by decide +kernel
theorem dX11_nextOrder_58 : decode cX11_nextOrder 58 = .ok (.iaload, 1) := by decide +kernel
theorem dX11_nextOrder_59 : decode cX11_nextOrder 59 = .ok (.if_icmp .ge 9, 3) := by decide +kernel
theorem dX11_nextOrder_62 : decode cX11_nextOrder 62 = .ok (.iinc 2 (-1), 3) := by decide +kernel
theorem dX11_nextOrder_65 : decode cX11_nextOrder 65 = .ok (.goto (-18), 3) := by decide +kernel
theorem dX11_nextOrder_68 : decode cX11_nextOrder 68 = .ok (.aload_n 0, 1) := by decide +kernel
theorem dX11_nextOrder_69 : decode cX11_nextOrder 69 = .ok (.getfield 57, 3) := by decide +kernel
theorem dX11_nextOrder_72 : decode cX11_nextOrder 72 = .ok (.iload_n 1, 1) := by decide +kernel
theorem dX11_nextOrder_73 : decode cX11_nextOrder 73 = .ok (.iaload, 1) := by decide +kernel
theorem dX11_nextOrder_74 : decode cX11_nextOrder 74 = .ok (.istore_n 3, 1) := by decide +kernel
theorem dX11_nextOrder_75 : decode cX11_nextOrder 75 = .ok (.aload_n 0, 1) := by decide +kernel
theorem dX11_nextOrder_76 : decode cX11_nextOrder 76 = .ok (.getfield 57, 3) := by decide +kernel
theorem dX11_nextOrder_79 : decode cX11_nextOrder 79 = .ok (.iload_n 1, 1) := by decide +kernel
theorem dX11_nextOrder_80 : decode cX11_nextOrder 80 = .ok (.aload_n 0, 1) := by decide +kernel
theorem dX11_nextOrder_81 : decode cX11_nextOrder 81 = .ok (.getfield 57, 3) := by decide +kernel
theorem dX11_nextOrder_84 : decode cX11_nextOrder 84 = .ok (.iload_n 2, 1) := by decide +kernel
theorem dX11_nextOrder_85 : decode cX11_nextOrder 85 = .ok (.iaload, 1) := by decide +kernel
theorem dX11_nextOrder_86 : decode cX11_nextOrder 86 = .ok (.iastore, 1) := by decide +kernel
theorem dX11_nextOrder_87 : decode cX11_nextOrder 87 = .ok (.aload_n 0, 1) := by decide +kernel
theorem dX11_nextOrder_88 : decode cX11_nextOrder 88 = .ok (.getfield 57, 3) := by decide +kernel
theorem dX11_nextOrder_91 : decode cX11_nextOrder 91 = .ok (.iload_n 2, 1) := by decide +kernel
theorem dX11_nextOrder_92 : decode cX11_nextOrder 92 = .ok (.iload_n 3, 1) := by decide +kernel
theorem dX11_nextOrder_93 : decode cX11_nextOrder 93 = .ok (.iastore, 1) := by decide +kernel
theorem dX11_nextOrder_94 : decode cX11_nextOrder 94 = .ok (.aload_n 0, 1) := by decide +kernel
theorem dX11_nextOrder_95 : decode cX11_nextOrder 95 = .ok (.getfield 81, 3) := by decide +kernel
theorem dX11_nextOrder_98 : decode cX11_nextOrder 98 = .ok (.iconst 1, 1) := by decide +kernel
theorem dX11_nextOrder_99 : decode cX11_nextOrder 99 = .ok (.isub, 1) := by decide +kernel
theorem dX11_nextOrder_100 : decode cX11_nextOrder 100 = .ok (.istore 4, 2) := by decide +kernel
theorem dX11_nextOrder_102 : decode cX11_nextOrder 102 = .ok (.iload_n 1, 1) := by decide +kernel
theorem dX11_nextOrder_103 : decode cX11_nextOrder 103 = .ok (.iconst 1, 1) := by decide +kernel
theorem dX11_nextOrder_104 : decode cX11_nextOrder 104 = .ok (.iadd, 1) := by decide +kernel
theorem dX11_nextOrder_105 : decode cX11_nextOrder 105 = .ok (.istore 5, 2) := by decide +kernel
theorem dX11_nextOrder_107 : decode cX11_nextOrder 107 = .ok (.iload 5, 2) := by decide +kernel
theorem dX11_nextOrder_109 : decode cX11_nextOrder 109 = .ok (.iload 4, 2) := by decide +kernel
theorem dX11_nextOrder_111 : decode cX11_nextOrder 111 = .ok (.if_icmp .ge 44, 3) := by decide +kernel
theorem dX11_nextOrder_114 : decode cX11_nextOrder 114 = .ok (.aload_n 0, 1) := by decide +kernel
theorem dX11_nextOrder_115 : decode cX11_nextOrder 115 = .ok (.getfield 57, 3) := by decide +kernel
theorem dX11_nextOrder_118 : decode cX11_nextOrder 118 = .ok (.iload 5, 2) := by decide +kernel
theorem dX11_nextOrder_120 : decode cX11_nextOrder 120 = .ok (.iaload, 1) := by decide +kernel
theorem dX11_nextOrder_121 : decode cX11_nextOrder 121 = .ok (.istore 6, 2) := by decide +kernel
theorem dX11_nextOrder_123 : decode cX11_nextOrder 123 = .ok (.aload_n 0, 1) := by decide +kernel
theorem dX11_nextOrder_124 : decode cX11_nextOrder 124 = .ok (.getfield 57, 3) := by decide +kernel
theorem dX11_nextOrder_127 : decode cX11_nextOrder 127 = .ok (.iload 5, 2) := by decide +kernel
theorem dX11_nextOrder_129 : decode cX11_nextOrder 129 = .ok (.aload_n 0, 1) := by decide +kernel
theorem dX11_nextOrder_130 : decode cX11_nextOrder 130 = .ok (.getfield 57, 3) := by decide +kernel
theorem dX11_nextOrder_133 : decode cX11_nextOrder 133 = .ok (.iload 4, 2) := by decide +kernel
theorem dX11_nextOrder_135 : decode cX11_nextOrder 135 = .ok (.iaload, 1) := by decide +kernel
theorem dX11_nextOrder_136 : decode cX11_nextOrder 136 = .ok (.iastore, 1) := by decide +kernel
theorem dX11_nextOrder_137 : decode cX11_nextOrder 137 = .ok (.aload_n 0, 1) := by decide +kernel
theorem dX11_nextOrder_138 : decode cX11_nextOrder 138 = .ok (.getfield 57, 3) := by decide +kernel
theorem dX11_nextOrder_141 : decode cX11_nextOrder 141 = .ok (.iload 4, 2) := by decide +kernel
theorem dX11_nextOrder_143 : decode cX11_nextOrder 143 = .ok (.iload 6, 2) := by decide +kernel
theorem dX11_nextOrder_145 : decode cX11_nextOrder 145 = .ok (.iastore, 1) := by decide +kernel
theorem dX11_nextOrder_146 : decode cX11_nextOrder 146 = .ok (.iinc 4 (-1), 3) := by decide +kernel
theorem dX11_nextOrder_149 : decode cX11_nextOrder 149 = .ok (.iinc 5 1, 3) := by decide +kernel
theorem dX11_nextOrder_152 : decode cX11_nextOrder 152 = .ok (.goto (-45), 3) := by decide +kernel
theorem dX11_nextOrder_155 : decode cX11_nextOrder 155 = .ok (.iconst 1, 1) := by decide +kernel
theorem dX11_nextOrder_156 : decode cX11_nextOrder 156 = .ok (.ireturn, 1) := by decide +kernel
theorem dX11_couldBe_0 : decode cX11_couldBe 0 = .ok (.iconst 1, 1) := by decide +kernel
theorem dX11_couldBe_1 : decode cX11_couldBe 1 = .ok (.istore_n 1, 1) := by decide +kernel
theorem dX11_couldBe_2 : decode cX11_couldBe 2 = .ok (.iconst 0, 1) := by decide +kernel
theorem dX11_couldBe_3 : decode cX11_couldBe 3 = .ok (.istore_n 2, 1) := by decide +kernel
theorem dX11_couldBe_4 : decode cX11_couldBe 4 = .ok (.iload_n 2, 1) := by decide +kernel
theorem dX11_couldBe_5 : decode cX11_couldBe 5 = .ok (.aload_n 0, 1) := by decide +kernel
theorem dX11_couldBe_6 : decode cX11_couldBe 6 = .ok (.getfield 182, 3) := by decide +kernel
theorem dX11_couldBe_9 : decode cX11_couldBe 9 = .ok (.if_icmp .ge 113, 3) := by decide +kernel
theorem dX11_couldBe_12 : decode cX11_couldBe 12 = .ok (.iload_n 1, 1) := by decide +kernel
theorem dX11_couldBe_13 : decode cX11_couldBe 13 = .ok (.ifCond .eq 109, 3) := by decide +kernel
theorem dX11_couldBe_16 : decode cX11_couldBe 16 = .ok (.bipush 14, 2) := by decide +kernel
theorem dX11_couldBe_18 : decode cX11_couldBe 18 = .ok (.iload_n 2, 1) := by decide +kernel
theorem dX11_couldBe_19 : decode cX11_couldBe 19 = .ok (.imul, 1) := by decide +kernel
theorem dX11_couldBe_20 : decode cX11_couldBe 20 = .ok (.istore_n 3, 1) := by decide +kernel
theorem dX11_couldBe_21 : decode cX11_couldBe 21 = .ok (.aload_n 0, 1) := by decide +kernel
theorem dX11_couldBe_22 : decode cX11_couldBe 22 = .ok (.iconst 5, 1) := by decide +kernel
theorem dX11_couldBe_23 : decode cX11_couldBe 23 = .ok (.aload_n 0, 1) := by decide +kernel
theorem dX11_couldBe_24 : decode cX11_couldBe 24 = .ok (.getfield 22, 3) := by decide +kernel
theorem dX11_couldBe_27 : decode cX11_couldBe 27 = .ok (.iload_n 3, 1) := by decide +kernel
theorem dX11_couldBe_28 : decode cX11_couldBe 28 = .ok (.iaload, 1) := by decide +kernel
theorem dX11_couldBe_29 : decode cX11_couldBe 29 = .ok (.imul, 1) := by decide +kernel
theorem dX11_couldBe_30 : decode cX11_couldBe 30 = .ok (.aload_n 0, 1) := by decide +kernel
theorem dX11_couldBe_31 : decode cX11_couldBe 31 = .ok (.getfield 22, 3) := by decide +kernel
theorem dX11_couldBe_34 : decode cX11_couldBe 34 = .ok (.iload_n 3, 1) := by decide +kernel
theorem dX11_couldBe_35 : decode cX11_couldBe 35 = .ok (.iconst 2, 1) := by decide +kernel
theorem dX11_couldBe_36 : decode cX11_couldBe 36 = .ok (.iadd, 1) := by decide +kernel
theorem dX11_couldBe_37 : decode cX11_couldBe 37 = .ok (.iaload, 1) := by decide +kernel
theorem dX11_couldBe_38 : decode cX11_couldBe 38 = .ok (.iadd, 1) := by decide +kernel
theorem dX11_couldBe_39 : decode cX11_couldBe 39 = .ok (.aload_n 0, 1) := by decide +kernel
theorem dX11_couldBe_40 : decode cX11_couldBe 40 = .ok (.getfield 57, 3) := by decide +kernel
theorem dX11_couldBe_43 : decode cX11_couldBe 43 = .ok (.aload_n 0, 1) := by decide +kernel
theorem dX11_couldBe_44 : decode cX11_couldBe 44 = .ok (.getfield 22, 3) := by decide +kernel
theorem dX11_couldBe_47 : decode cX11_couldBe 47 = .ok (.iload_n 3, 1) := by decide +kernel
theorem dX11_couldBe_48 : decode cX11_couldBe 48 = .ok (.iconst 1, 1) := by decide +kernel
theorem dX11_couldBe_49 : decode cX11_couldBe 49 = .ok (.iadd, 1) := by decide +kernel
theorem dX11_couldBe_50 : decode cX11_couldBe 50 = .ok (.iaload, 1) := by decide +kernel
theorem dX11_couldBe_51 : decode cX11_couldBe 51 = .ok (.aload_n 0, 1) := by decide +kernel
theorem dX11_couldBe_52 : decode cX11_couldBe 52 = .ok (.getfield 22, 3) := by decide +kernel
theorem dX11_couldBe_55 : decode cX11_couldBe 55 = .ok (.aload_n 0, 1) := by decide +kernel
theorem dX11_couldBe_56 : decode cX11_couldBe 56 = .ok (.getfield 60, 3) := by decide +kernel
theorem dX11_couldBe_59 : decode cX11_couldBe 59 = .ok (.iload_n 3, 1) := by decide +kernel
theorem dX11_couldBe_60 : decode cX11_couldBe 60 = .ok (.iconst 5, 1) := by decide +kernel
theorem dX11_couldBe_61 : decode cX11_couldBe 61 = .ok (.iadd, 1) := by decide +kernel
theorem dX11_couldBe_62 : decode cX11_couldBe 62 = .ok (.iconst 0, 1) := by decide +kernel
theorem dX11_couldBe_63 : decode cX11_couldBe 63 = .ok (.invokevirtual 205, 3) := by decide +kernel
theorem dX11_couldBe_66 : decode cX11_couldBe 66 = .ok (.istore 4, 2) := by decide +kernel
theorem dX11_couldBe_68 : decode cX11_couldBe 68 = .ok (.iload 4, 2) := by decide +kernel
theorem dX11_couldBe_70 : decode cX11_couldBe 70 = .ok (.aload_n 0, 1) := by decide +kernel
theorem dX11_couldBe_71 : decode cX11_couldBe 71 = .ok (.getfield 22, 3) := by decide +kernel
theorem dX11_couldBe_74 : decode cX11_couldBe 74 = .ok (.iload_n 3, 1) := by decide +kernel
theorem dX11_couldBe_75 : decode cX11_couldBe 75 = .ok (.iaload, 1) := by decide +kernel
theorem dX11_couldBe_76 : decode cX11_couldBe 76 = .ok (.aload_n 0, 1) := by decide +kernel
theorem dX11_couldBe_77 : decode cX11_couldBe 77 = .ok (.getfield 22, 3) := by decide +kernel
theorem dX11_couldBe_80 : decode cX11_couldBe 80 = .ok (.iload_n 3, 1) := by decide +kernel
theorem dX11_couldBe_81 : decode cX11_couldBe 81 = .ok (.iconst 3, 1) := by decide +kernel
theorem dX11_couldBe_82 : decode cX11_couldBe 82 = .ok (.iadd, 1) := by decide +kernel
theorem dX11_couldBe_83 : decode cX11_couldBe 83 = .ok (.iaload, 1) := by decide +kernel
theorem dX11_couldBe_84 : decode cX11_couldBe 84 = .ok (.invokestatic 212, 3) := by decide +kernel
theorem dX11_couldBe_87 : decode cX11_couldBe 87 = .ok (.invokestatic 99, 3) := by decide +kernel
theorem dX11_couldBe_90 : decode cX11_couldBe 90 = .ok (.aload_n 0, 1) := by decide +kernel
theorem dX11_couldBe_91 : decode cX11_couldBe 91 = .ok (.getfield 22, 3) := by decide +kernel
theorem dX11_couldBe_94 : decode cX11_couldBe 94 = .ok (.iload_n 3, 1) := by decide +kernel
theorem dX11_couldBe_95 : decode cX11_couldBe 95 = .ok (.iconst 4, 1) := by decide +kernel
theorem dX11_couldBe_96 : decode cX11_couldBe 96 = .ok (.iadd, 1) := by decide +kernel
theorem dX11_couldBe_97 : decode cX11_couldBe 97 = .ok (.iaload, 1) := by decide +kernel
theorem dX11_couldBe_98 : decode cX11_couldBe 98 = .ok (.iconst 1, 1) := by decide +kernel
theorem dX11_couldBe_99 : decode cX11_couldBe 99 = .ok (.if_icmp .ne 7, 3) := by decide +kernel
theorem dX11_couldBe_102 : decode cX11_couldBe 102 = .ok (.iconst 1, 1) := by decide +kernel
theorem dX11_couldBe_103 : decode cX11_couldBe 103 = .ok (.goto 4, 3) := by decide +kernel
theorem dX11_couldBe_106 : decode cX11_couldBe 106 = .ok (.iconst 0, 1) := by decide +kernel
theorem dX11_couldBe_107 : decode cX11_couldBe 107 = .ok (.if_icmp .ne 7, 3) := by decide +kernel
theorem dX11_couldBe_110 : decode cX11_couldBe 110 = .ok (.iconst 1, 1) := by decide +kernel
theorem dX11_couldBe_111 : decode cX11_couldBe 111 = .ok (.goto 4, 3) := by decide +kernel
theorem dX11_couldBe_114 : decode cX11_couldBe 114 = .ok (.iconst 0, 1) := by decide +kernel
theorem dX11_couldBe_115 : decode cX11_couldBe 115 = .ok (.istore_n 1, 1) := by decide +kernel
theorem dX11_couldBe_116 : decode cX11_couldBe 116 = .ok (.iinc 2 1, 3) := by decide +kernel
theorem dX11_couldBe_119 : decode cX11_couldBe 119 = .ok (.goto (-115), 3) := by decide +kernel
theorem dX11_couldBe_122 : decode cX11_couldBe 122 = .ok (.iload_n 1, 1) := by decide +kernel
theorem dX11_couldBe_123 : decode cX11_couldBe 123 = .ok (.ireturn, 1) := by decide +kernel
theorem dX11_setCould_0 : decode cX11_setCould 0 = .ok (.aload_n 0, 1) := by decide +kernel
theorem dX11_setCould_1 : decode cX11_setCould 1 = .ok (.iconst 0, 1) := by decide +kernel
theorem dX11_setCould_2 : decode cX11_setCould 2 = .ok (.putfield 275, 3) := by decide +kernel
theorem dX11_setCould_5 : decode cX11_setCould 5 = .ok (.iconst 0, 1) := by decide +kernel
theorem dX11_setCould_6 : decode cX11_setCould 6 = .ok (.istore_n 1, 1) := by decide +kernel
theorem dX11_setCould_7 : decode cX11_setCould 7 = .ok (.iload_n 1, 1) := by decide +kernel
theorem dX11_setCould_8 : decode cX11_setCould 8 = .ok (.iconst 5, 1) := by decide +kernel
theorem dX11_setCould_9 : decode cX11_setCould 9 = .ok (.if_icmp .ge 23, 3) := by decide +kernel
theorem dX11_setCould_12 : decode cX11_setCould 12 = .ok (.aload_n 0, 1) := by decide +kernel
theorem dX11_setCould_13 : decode cX11_setCould 13 = .ok (.getfield 63, 3) := by decide +kernel
theorem dX11_setCould_16 : decode cX11_setCould 16 = .ok (.iload_n 1, 1) := by decide +kernel
theorem dX11_setCould_17 : decode cX11_setCould 17 = .ok (.iconst 0, 1) := by decide +kernel
theorem dX11_setCould_18 : decode cX11_setCould 18 = .ok (.iastore, 1) := by decide +kernel
theorem dX11_setCould_19 : decode cX11_setCould 19 = .ok (.aload_n 0, 1) := by decide +kernel
theorem dX11_setCould_20 : decode cX11_setCould 20 = .ok (.getfield 66, 3) := by decide +kernel
theorem dX11_setCould_23 : decode cX11_setCould 23 = .ok (.iload_n 1, 1) := by decide +kernel
theorem dX11_setCould_24 : decode cX11_setCould 24 = .ok (.iconst (-1), 1) := by decide +kernel
theorem dX11_setCould_25 : decode cX11_setCould 25 = .ok (.iastore, 1) := by decide +kernel
theorem dX11_setCould_26 : decode cX11_setCould 26 = .ok (.iinc 1 1, 3) := by decide +kernel
theorem dX11_setCould_29 : decode cX11_setCould 29 = .ok (.goto (-22), 3) := by decide +kernel
theorem dX11_setCould_32 : decode cX11_setCould 32 = .ok (.iconst 0, 1) := by decide +kernel
theorem dX11_setCould_33 : decode cX11_setCould 33 = .ok (.istore_n 1, 1) := by decide +kernel
theorem dX11_setCould_34 : decode cX11_setCould 34 = .ok (.iload_n 1, 1) := by decide +kernel
theorem dX11_setCould_35 : decode cX11_setCould 35 = .ok (.bipush 25, 2) := by decide +kernel
theorem dX11_setCould_37 : decode cX11_setCould 37 = .ok (.if_icmp .ge 16, 3) := by decide +kernel
theorem dX11_setCould_40 : decode cX11_setCould 40 = .ok (.aload_n 0, 1) := by decide +kernel
theorem dX11_setCould_41 : decode cX11_setCould 41 = .ok (.getfield 69, 3) := by decide +kernel
theorem dX11_setCould_44 : decode cX11_setCould 44 = .ok (.iload_n 1, 1) := by decide +kernel
theorem dX11_setCould_45 : decode cX11_setCould 45 = .ok (.iconst 0, 1) := by decide +kernel
theorem dX11_setCould_46 : decode cX11_setCould 46 = .ok (.iastore, 1) := by decide +kernel
theorem dX11_setCould_47 : decode cX11_setCould 47 = .ok (.iinc 1 1, 3) := by decide +kernel
theorem dX11_setCould_50 : decode cX11_setCould 50 = .ok (.goto (-16), 3) := by decide +kernel
theorem dX11_setCould_53 : decode cX11_setCould 53 = .ok (.aload_n 0, 1) := by decide +kernel
theorem dX11_setCould_54 : decode cX11_setCould 54 = .ok (.invokevirtual 278, 3) := by decide +kernel
theorem dX11_setCould_57 : decode cX11_setCould 57 = .ok (.aload_n 0, 1) := by decide +kernel
theorem dX11_setCould_58 : decode cX11_setCould 58 = .ok (.getfield 81, 3) := by decide +kernel
theorem dX11_setCould_61 : decode cX11_setCould 61 = .ok (.ifCond .le 7, 3) := by decide +kernel
theorem dX11_setCould_64 : decode cX11_setCould 64 = .ok (.iconst 1, 1) := by decide +kernel
theorem dX11_setCould_65 : decode cX11_setCould 65 = .ok (.goto 4, 3) := by decide +kernel
theorem dX11_setCould_68 : decode cX11_setCould 68 = .ok (.iconst 0, 1) := by decide +kernel
theorem dX11_setCould_69 : decode cX11_setCould 69 = .ok (.istore_n 1, 1) := by decide +kernel
theorem dX11_setCould_70 : decode cX11_setCould 70 = .ok (.iload_n 1, 1) := by decide +kernel
theorem dX11_setCould_71 : decode cX11_setCould 71 = .ok (.ifCond .eq 22, 3) := by decide +kernel
theorem dX11_setCould_74 : decode cX11_setCould 74 = .ok (.aload_n 0, 1) := by decide +kernel
theorem dX11_setCould_75 : decode cX11_setCould 75 = .ok (.invokevirtual 281, 3) := by decide +kernel
theorem dX11_setCould_78 : decode cX11_setCould 78 = .ok (.ifCond .eq 7, 3) := by decide +kernel
theorem dX11_setCould_81 : decode cX11_setCould 81 = .ok (.aload_n 0, 1) := by decide +kernel
theorem dX11_setCould_82 : decode cX11_setCould 82 = .ok (.invokevirtual 284, 3) := by decide +kernel
theorem dX11_setCould_85 : decode cX11_setCould 85 = .ok (.aload_n 0, 1) := by decide +kernel
theorem dX11_setCould_86 : decode cX11_setCould 86 = .ok (.invokevirtual 287, 3) := by decide +kernel
theorem dX11_setCould_89 : decode cX11_setCould 89 = .ok (.istore_n 1, 1) := by decide +kernel
theorem dX11_setCould_90 : decode cX11_setCould 90 = .ok (.goto (-20), 3) := by decide +kernel
theorem dX11_setCould_93 : decode cX11_setCould 93 = .ok (.return_, 1) := by decide +kernel
theorem dX11_countsOrder_0 : decode cX11_countsOrder 0 = .ok (.iconst 0, 1) := by decide +kernel
theorem dX11_countsOrder_1 : decode cX11_countsOrder 1 = .ok (.istore_n 1, 1) := by decide +kernel
theorem dX11_countsOrder_2 : decode cX11_countsOrder 2 = .ok (.iload_n 1, 1) := by decide +kernel
theorem dX11_countsOrder_3 : decode cX11_countsOrder 3 = .ok (.aload_n 0, 1) := by decide +kernel
theorem dX11_countsOrder_4 : decode cX11_countsOrder 4 = .ok (.getfield 81, 3) := by decide +kernel
theorem dX11_countsOrder_7 : decode cX11_countsOrder 7 = .ok (.if_icmp .ge 136, 3) := by decide +kernel
theorem dX11_countsOrder_10 : decode cX11_countsOrder 10 = .ok (.aload_n 0, 1) := by decide +kernel
theorem dX11_countsOrder_11 : decode cX11_countsOrder 11 = .ok (.getfield 63, 3) := by decide +kernel
theorem dX11_countsOrder_14 : decode cX11_countsOrder 14 = .ok (.iload_n 1, 1) := by decide +kernel
theorem dX11_countsOrder_15 : decode cX11_countsOrder 15 = .ok (.dup2, 1) := by decide +kernel
theorem dX11_countsOrder_16 : decode cX11_countsOrder 16 = .ok (.iaload, 1) := by decide +kernel
theorem dX11_countsOrder_17 : decode cX11_countsOrder 17 = .ok (.iconst 1, 1) := by decide +kernel
theorem dX11_countsOrder_18 : decode cX11_countsOrder 18 = .ok (.aload_n 0, 1) := by decide +kernel
theorem dX11_countsOrder_19 : decode cX11_countsOrder 19 = .ok (.getfield 57, 3) := by decide +kernel
theorem dX11_countsOrder_22 : decode cX11_countsOrder 22 = .ok (.iload_n 1, 1) := by decide +kernel
theorem dX11_countsOrder_23 : decode cX11_countsOrder 23 = .ok (.iaload, 1) := by decide +kernel
theorem dX11_countsOrder_24 : decode cX11_countsOrder 24 = .ok (.ishl, 1) := by decide +kernel
theorem dX11_countsOrder_25 : decode cX11_countsOrder 25 = .ok (.ior, 1) := by decide +kernel
theorem dX11_countsOrder_26 : decode cX11_countsOrder 26 = .ok (.iastore, 1) := by decide +kernel
theorem dX11_countsOrder_27 : decode cX11_countsOrder 27 = .ok (.aload_n 0, 1) := by decide +kernel
theorem dX11_countsOrder_28 : decode cX11_countsOrder 28 = .ok (.getfield 66, 3) := by decide +kernel
theorem dX11_countsOrder_31 : decode cX11_countsOrder 31 = .ok (.iload_n 1, 1) := by decide +kernel
theorem dX11_countsOrder_32 : decode cX11_countsOrder 32 = .ok (.aload_n 0, 1) := by decide +kernel
theorem dX11_countsOrder_33 : decode cX11_countsOrder 33 = .ok (.getfield 275, 3) := by decide +kernel
theorem dX11_countsOrder_36 : decode cX11_countsOrder 36 = .ok (.ifCond .ne 12, 3) := by decide +kernel
theorem dX11_countsOrder_39 : decode cX11_countsOrder 39 = .ok (.aload_n 0, 1) := by decide +kernel
theorem dX11_countsOrder_40 : decode cX11_countsOrder 40 = .ok (.getfield 57, 3) := by decide +kernel
theorem dX11_countsOrder_43 : decode cX11_countsOrder 43 = .ok (.iload_n 1, 1) := by decide +kernel
theorem dX11_countsOrder_44 : decode cX11_countsOrder 44 = .ok (.iaload, 1) := by decide +kernel
theorem dX11_countsOrder_45 : decode cX11_countsOrder 45 = .ok (.goto 9, 3) := by decide +kernel
theorem dX11_countsOrder_48 : decode cX11_countsOrder 48 = .ok (.aload_n 0, 1) := by decide +kernel
theorem dX11_countsOrder_49 : decode cX11_countsOrder 49 = .ok (.getfield 66, 3) := by decide +kernel
theorem dX11_countsOrder_52 : decode cX11_countsOrder 52 = .ok (.iload_n 1, 1) := by decide +kernel
theorem dX11_countsOrder_53 : decode cX11_countsOrder 53 = .ok (.iaload, 1) := by decide +kernel
theorem dX11_countsOrder_54 : decode cX11_countsOrder 54 = .ok (.iastore, 1) := by decide +kernel
theorem dX11_countsOrder_55 : decode cX11_countsOrder 55 = .ok (.aload_n 0, 1) := by decide +kernel
theorem dX11_countsOrder_56 : decode cX11_countsOrder 56 = .ok (.iconst 5, 1) := by decide +kernel
theorem dX11_countsOrder_57 : decode cX11_countsOrder 57 = .ok (.aload_n 0, 1) := by decide +kernel
theorem dX11_countsOrder_58 : decode cX11_countsOrder 58 = .ok (.getfield 170, 3) := by decide +kernel
theorem dX11_countsOrder_61 : decode cX11_countsOrder 61 = .ok (.imul, 1) := by decide +kernel
theorem dX11_countsOrder_62 : decode cX11_countsOrder 62 = .ok (.iload_n 1, 1) := by decide +kernel
theorem dX11_countsOrder_63 : decode cX11_countsOrder 63 = .ok (.iadd, 1) := by decide +kernel
theorem dX11_countsOrder_64 : decode cX11_countsOrder 64 = .ok (.aload_n 0, 1) := by decide +kernel
theorem dX11_countsOrder_65 : decode cX11_countsOrder 65 = .ok (.getfield 57, 3) := by decide +kernel
theorem dX11_countsOrder_68 : decode cX11_countsOrder 68 = .ok (.aload_n 0, 1) := by decide +kernel
theorem dX11_countsOrder_69 : decode cX11_countsOrder 69 = .ok (.getfield 173, 3) := by decide +kernel
theorem dX11_countsOrder_72 : decode cX11_countsOrder 72 = .ok (.aload_n 0, 1) := by decide +kernel
theorem dX11_countsOrder_73 : decode cX11_countsOrder 73 = .ok (.getfield 16, 3) := by decide +kernel
theorem dX11_countsOrder_76 : decode cX11_countsOrder 76 = .ok (.aload_n 0, 1) := by decide +kernel
theorem dX11_countsOrder_77 : decode cX11_countsOrder 77 = .ok (.getfield 19, 3) := by decide +kernel
theorem dX11_countsOrder_80 : decode cX11_countsOrder 80 = .ok (.iconst 0, 1) := by decide +kernel
theorem dX11_countsOrder_81 : decode cX11_countsOrder 81 = .ok (.iconst 0, 1) := by decide +kernel
theorem dX11_countsOrder_82 : decode cX11_countsOrder 82 = .ok (.invokevirtual 205, 3) := by decide +kernel
theorem dX11_countsOrder_85 : decode cX11_countsOrder 85 = .ok (.istore_n 2, 1) := by decide +kernel
theorem dX11_countsOrder_86 : decode cX11_countsOrder 86 = .ok (.iload_n 1, 1) := by decide +kernel
theorem dX11_countsOrder_87 : decode cX11_countsOrder 87 = .ok (.iconst 1, 1) := by decide +kernel
theorem dX11_countsOrder_88 : decode cX11_countsOrder 88 = .ok (.iadd, 1) := by decide +kernel
theorem dX11_countsOrder_89 : decode cX11_countsOrder 89 = .ok (.istore_n 3, 1) := by decide +kernel
theorem dX11_countsOrder_90 : decode cX11_countsOrder 90 = .ok (.iload_n 3, 1) := by decide +kernel
theorem dX11_countsOrder_91 : decode cX11_countsOrder 91 = .ok (.aload_n 0, 1) := by decide +kernel
theorem dX11_countsOrder_92 : decode cX11_countsOrder 92 = .ok (.getfield 81, 3) := by decide +kernel
theorem dX11_countsOrder_95 : decode cX11_countsOrder 95 = .ok (.if_icmp .ge 42, 3) := by decide +kernel
theorem dX11_countsOrder_98 : decode cX11_countsOrder 98 = .ok (.aload_n 0, 1) := by decide +kernel
theorem dX11_countsOrder_99 : decode cX11_countsOrder 99 = .ok (.getfield 69, 3) := by decide +kernel
theorem dX11_countsOrder_102 : decode cX11_countsOrder 102 = .ok (.iload_n 1, 1) := by decide +kernel
theorem dX11_countsOrder_103 : decode cX11_countsOrder 103 = .ok (.iload_n 3, 1) := by decide +kernel
theorem dX11_countsOrder_104 : decode cX11_countsOrder 104 = .ok (.invokestatic 95, 3) := by decide +kernel
theorem dX11_countsOrder_107 : decode cX11_countsOrder 107 = .ok (.dup2, 1) := by decide +kernel
theorem dX11_countsOrder_108 : decode cX11_countsOrder 108 = .ok (.iaload, 1) := by decide +kernel
theorem dX11_countsOrder_109 : decode cX11_countsOrder 109 = .ok (.iload_n 2, 1) := by decide +kernel
theorem dX11_countsOrder_110 : decode cX11_countsOrder 110 = .ok (.iconst 5, 1) := by decide +kernel
theorem dX11_countsOrder_111 : decode cX11_countsOrder 111 = .ok (.aload_n 0, 1) := by decide +kernel
theorem dX11_countsOrder_112 : decode cX11_countsOrder 112 = .ok (.getfield 170, 3) := by decide +kernel
theorem dX11_countsOrder_115 : decode cX11_countsOrder 115 = .ok (.imul, 1) := by decide +kernel
theorem dX11_countsOrder_116 : decode cX11_countsOrder 116 = .ok (.iload_n 3, 1) := by decide +kernel
theorem dX11_countsOrder_117 : decode cX11_countsOrder 117 = .ok (.iadd, 1) := by decide +kernel
theorem dX11_countsOrder_118 : decode cX11_countsOrder 118 = .ok (.invokestatic 99, 3) := by decide +kernel
theorem dX11_countsOrder_121 : decode cX11_countsOrder 121 = .ok (.ifCond .eq 7, 3) := by decide +kernel
theorem dX11_countsOrder_124 : decode cX11_countsOrder 124 = .ok (.iconst 1, 1) := by decide +kernel
theorem dX11_countsOrder_125 : decode cX11_countsOrder 125 = .ok (.goto 4, 3) := by decide +kernel
theorem dX11_countsOrder_128 : decode cX11_countsOrder 128 = .ok (.iconst 0, 1) := by decide +kernel
theorem dX11_countsOrder_129 : decode cX11_countsOrder 129 = .ok (.iadd, 1) := by decide +kernel
theorem dX11_countsOrder_130 : decode cX11_countsOrder 130 = .ok (.iastore, 1) := by decide +kernel
theorem dX11_countsOrder_131 : decode cX11_countsOrder 131 = .ok (.iinc 3 1, 3) := by decide +kernel
theorem dX11_countsOrder_134 : decode cX11_countsOrder 134 = .ok (.goto (-44), 3) := by decide +kernel
theorem dX11_countsOrder_137 : decode cX11_countsOrder 137 = .ok (.iinc 1 1, 3) := by decide +kernel
theorem dX11_countsOrder_140 : decode cX11_countsOrder 140 = .ok (.goto (-138), 3) := by decide +kernel
theorem dX11_countsOrder_143 : decode cX11_countsOrder 143 = .ok (.aload_n 0, 1) := by decide +kernel
theorem dX11_countsOrder_144 : decode cX11_countsOrder 144 = .ok (.dup, 1) := by decide +kernel
theorem dX11_countsOrder_145 : decode cX11_countsOrder 145 = .ok (.getfield 275, 3) := by decide +kernel
theorem dX11_countsOrder_148 : decode cX11_countsOrder 148 = .ok (.iconst 1, 1) := by decide +kernel
theorem dX11_countsOrder_149 : decode cX11_countsOrder 149 = .ok (.iadd, 1) := by decide +kernel
theorem dX11_countsOrder_150 : decode cX11_countsOrder 150 = .ok (.putfield 275, 3) := by decide +kernel
theorem dX11_countsOrder_153 : decode cX11_countsOrder 153 = .ok (.return_, 1) := by decide +kernel
theorem dX11_askPair_0 : decode cX11_askPair 0 = .ok (.aload_n 0, 1) := by decide +kernel
theorem dX11_askPair_1 : decode cX11_askPair 1 = .ok (.invokevirtual 290, 3) := by decide +kernel
theorem dX11_askPair_4 : decode cX11_askPair 4 = .ok (.iconst (-1), 1) := by decide +kernel
theorem dX11_askPair_5 : decode cX11_askPair 5 = .ok (.istore_n 1, 1) := by decide +kernel
theorem dX11_askPair_6 : decode cX11_askPair 6 = .ok (.aload_n 0, 1) := by decide +kernel
theorem dX11_askPair_7 : decode cX11_askPair 7 = .ok (.getfield 275, 3) := by decide +kernel
theorem dX11_askPair_10 : decode cX11_askPair 10 = .ok (.istore_n 2, 1) := by decide +kernel
theorem dX11_askPair_11 : decode cX11_askPair 11 = .ok (.iconst 0, 1) := by decide +kernel
theorem dX11_askPair_12 : decode cX11_askPair 12 = .ok (.istore_n 3, 1) := by decide +kernel
theorem dX11_askPair_13 : decode cX11_askPair 13 = .ok (.iload_n 3, 1) := by decide +kernel
theorem dX11_askPair_14 : decode cX11_askPair 14 = .ok (.aload_n 0, 1) := by decide +kernel
theorem dX11_askPair_15 : decode cX11_askPair 15 = .ok (.getfield 81, 3) := by decide +kernel
theorem dX11_askPair_18 : decode cX11_askPair 18 = .ok (.if_icmp .ge 99, 3) := by decide +kernel
theorem dX11_askPair_21 : decode cX11_askPair 21 = .ok (.iload_n 3, 1) := by decide +kernel
theorem dX11_askPair_22 : decode cX11_askPair 22 = .ok (.iconst 1, 1) := by decide +kernel
theorem dX11_askPair_23 : decode cX11_askPair 23 = .ok (.iadd, 1) := by decide +kernel
theorem dX11_askPair_24 : decode cX11_askPair 24 = .ok (.istore 4, 2) := by decide +kernel
theorem dX11_askPair_26 : decode cX11_askPair 26 = .ok (.iload 4, 2) := by decide +kernel
theorem dX11_askPair_28 : decode cX11_askPair 28 = .ok (.aload_n 0, 1) := by decide +kernel
theorem dX11_askPair_29 : decode cX11_askPair 29 = .ok (.getfield 81, 3) := by decide +kernel
theorem dX11_askPair_32 : decode cX11_askPair 32 = .ok (.if_icmp .ge 79, 3) := by decide +kernel
theorem dX11_askPair_35 : decode cX11_askPair 35 = .ok (.aload_n 0, 1) := by decide +kernel
theorem dX11_askPair_36 : decode cX11_askPair 36 = .ok (.getfield 69, 3) := by decide +kernel
theorem dX11_askPair_39 : decode cX11_askPair 39 = .ok (.iload_n 3, 1) := by decide +kernel
theorem dX11_askPair_40 : decode cX11_askPair 40 = .ok (.iload 4, 2) := by decide +kernel
theorem dX11_askPair_42 : decode cX11_askPair 42 = .ok (.invokestatic 95, 3) := by decide +kernel
theorem dX11_askPair_45 : decode cX11_askPair 45 = .ok (.iaload, 1) := by decide +kernel
theorem dX11_askPair_46 : decode cX11_askPair 46 = .ok (.istore 5, 2) := by decide +kernel
theorem dX11_askPair_48 : decode cX11_askPair 48 = .ok (.iload 5, 2) := by decide +kernel
theorem dX11_askPair_50 : decode cX11_askPair 50 = .ok (.aload_n 0, 1) := by decide +kernel
theorem dX11_askPair_51 : decode cX11_askPair 51 = .ok (.getfield 275, 3) := by decide +kernel
theorem dX11_askPair_54 : decode cX11_askPair 54 = .ok (.iload 5, 2) := by decide +kernel
theorem dX11_askPair_56 : decode cX11_askPair 56 = .ok (.isub, 1) := by decide +kernel
theorem dX11_askPair_57 : decode cX11_askPair 57 = .ok (.if_icmp .le 8, 3) := by decide +kernel
theorem dX11_askPair_60 : decode cX11_askPair 60 = .ok (.iload 5, 2) := by decide +kernel
theorem dX11_askPair_62 : decode cX11_askPair 62 = .ok (.goto 10, 3) := by decide +kernel
theorem dX11_askPair_65 : decode cX11_askPair 65 = .ok (.aload_n 0, 1) := by decide +kernel
theorem dX11_askPair_66 : decode cX11_askPair 66 = .ok (.getfield 275, 3) := by decide +kernel
theorem dX11_askPair_69 : decode cX11_askPair 69 = .ok (.iload 5, 2) := by decide +kernel
theorem dX11_askPair_71 : decode cX11_askPair 71 = .ok (.isub, 1) := by decide +kernel
theorem dX11_askPair_72 : decode cX11_askPair 72 = .ok (.istore 6, 2) := by decide +kernel
theorem dX11_askPair_74 : decode cX11_askPair 74 = .ok (.iload 6, 2) := by decide +kernel
theorem dX11_askPair_76 : decode cX11_askPair 76 = .ok (.iload_n 2, 1) := by decide +kernel
theorem dX11_askPair_77 : decode cX11_askPair 77 = .ok (.if_icmp .ge 13, 3) := by decide +kernel
theorem dX11_askPair_80 : decode cX11_askPair 80 = .ok (.bipush 10, 2) := by decide +kernel
theorem dX11_askPair_82 : decode cX11_askPair 82 = .ok (.iload_n 3, 1) := by decide +kernel
theorem dX11_askPair_83 : decode cX11_askPair 83 = .ok (.imul, 1) := by decide +kernel
theorem dX11_askPair_84 : decode cX11_askPair 84 = .ok (.iload 4, 2) := by decide +kernel
theorem dX11_askPair_86 : decode cX11_askPair 86 = .ok (.iadd, 1) := by decide +kernel
theorem dX11_askPair_87 : decode cX11_askPair 87 = .ok (.goto 4, 3) := by decide +kernel
theorem dX11_askPair_90 : decode cX11_askPair 90 = .ok (.iload_n 1, 1) := by decide +kernel
theorem dX11_askPair_91 : decode cX11_askPair 91 = .ok (.istore_n 1, 1) := by decide +kernel
theorem dX11_askPair_92 : decode cX11_askPair 92 = .ok (.iload 6, 2) := by decide +kernel
theorem dX11_askPair_94 : decode cX11_askPair 94 = .ok (.iload_n 2, 1) := by decide +kernel
theorem dX11_askPair_95 : decode cX11_askPair 95 = .ok (.if_icmp .ge 8, 3) := by decide +kernel
theorem dX11_askPair_98 : decode cX11_askPair 98 = .ok (.iload 6, 2) := by decide +kernel
theorem dX11_askPair_100 : decode cX11_askPair 100 = .ok (.goto 4, 3) := by decide +kernel
theorem dX11_askPair_103 : decode cX11_askPair 103 = .ok (.iload_n 2, 1) := by decide +kernel
theorem dX11_askPair_104 : decode cX11_askPair 104 = .ok (.istore_n 2, 1) := by decide +kernel
theorem dX11_askPair_105 : decode cX11_askPair 105 = .ok (.iinc 4 1, 3) := by decide +kernel
theorem dX11_askPair_108 : decode cX11_askPair 108 = .ok (.goto (-82), 3) := by decide +kernel
theorem dX11_askPair_111 : decode cX11_askPair 111 = .ok (.iinc 3 1, 3) := by decide +kernel
theorem dX11_askPair_114 : decode cX11_askPair 114 = .ok (.goto (-101), 3) := by decide +kernel
theorem dX11_askPair_117 : decode cX11_askPair 117 = .ok (.iload_n 1, 1) := by decide +kernel
theorem dX11_askPair_118 : decode cX11_askPair 118 = .ok (.ireturn, 1) := by decide +kernel
theorem dX11_allRings_0 : decode cX11_allRings 0 = .ok (.iconst 0, 1) := by decide +kernel
theorem dX11_allRings_1 : decode cX11_allRings 1 = .ok (.istore 5, 2) := by decide +kernel
theorem dX11_allRings_3 : decode cX11_allRings 3 = .ok (.iconst 0, 1) := by decide +kernel
theorem dX11_allRings_4 : decode cX11_allRings 4 = .ok (.istore 6, 2) := by decide +kernel
theorem dX11_allRings_6 : decode cX11_allRings 6 = .ok (.iconst 0, 1) := by decide +kernel
theorem dX11_allRings_7 : decode cX11_allRings 7 = .ok (.istore 7, 2) := by decide +kernel
theorem dX11_allRings_9 : decode cX11_allRings 9 = .ok (.iload 7, 2) := by decide +kernel
theorem dX11_allRings_11 : decode cX11_allRings 11 = .ok (.aload_n 0, 1) := by decide +kernel
theorem dX11_allRings_12 : decode cX11_allRings 12 = .ok (.getfield 81, 3) := by decide +kernel
theorem dX11_allRings_15 : decode cX11_allRings 15 = .ok (.if_icmp .ge 96, 3) := by decide +kernel
theorem dX11_allRings_18 : decode cX11_allRings 18 = .ok (.aload_n 0, 1) := by decide +kernel
theorem dX11_allRings_19 : decode cX11_allRings 19 = .ok (.iconst 5, 1) := by decide +kernel
theorem dX11_allRings_20 : decode cX11_allRings 20 = .ok (.iload_n 1, 1) := by decide +kernel
theorem dX11_allRings_21 : decode cX11_allRings 21 = .ok (.imul, 1) := by decide +kernel
theorem dX11_allRings_22 : decode cX11_allRings 22 = .ok (.iload 7, 2) := by decide +kernel
theorem dX11_allRings_24 : decode cX11_allRings 24 = .ok (.iadd, 1) := by decide +kernel
theorem dX11_allRings_25 : decode cX11_allRings 25 = .ok (.aload_n 2, 1) := by decide +kernel
theorem dX11_allRings_26 : decode cX11_allRings 26 = .ok (.aload_n 0, 1) := by decide +kernel
theorem dX11_allRings_27 : decode cX11_allRings 27 = .ok (.getfield 173, 3) := by decide +kernel
theorem dX11_allRings_30 : decode cX11_allRings 30 = .ok (.aload_n 3, 1) := by decide +kernel
theorem dX11_allRings_31 : decode cX11_allRings 31 = .ok (.aload 4, 2) := by decide +kernel
theorem dX11_allRings_33 : decode cX11_allRings 33 = .ok (.iconst 0, 1) := by decide +kernel
theorem dX11_allRings_34 : decode cX11_allRings 34 = .ok (.iconst 0, 1) := by decide +kernel
theorem dX11_allRings_35 : decode cX11_allRings 35 = .ok (.invokevirtual 205, 3) := by decide +kernel
theorem dX11_allRings_38 : decode cX11_allRings 38 = .ok (.istore 8, 2) := by decide +kernel
theorem dX11_allRings_40 : decode cX11_allRings 40 = .ok (.iload 7, 2) := by decide +kernel
theorem dX11_allRings_42 : decode cX11_allRings 42 = .ok (.iconst 1, 1) := by decide +kernel
theorem dX11_allRings_43 : decode cX11_allRings 43 = .ok (.iadd, 1) := by decide +kernel
theorem dX11_allRings_44 : decode cX11_allRings 44 = .ok (.istore 9, 2) := by decide +kernel
theorem dX11_allRings_46 : decode cX11_allRings 46 = .ok (.iload 9, 2) := by decide +kernel
theorem dX11_allRings_48 : decode cX11_allRings 48 = .ok (.aload_n 0, 1) := by decide +kernel
theorem dX11_allRings_49 : decode cX11_allRings 49 = .ok (.getfield 81, 3) := by decide +kernel
theorem dX11_allRings_52 : decode cX11_allRings 52 = .ok (.if_icmp .gt 53, 3) := by decide +kernel
theorem dX11_allRings_55 : decode cX11_allRings 55 = .ok (.iload 5, 2) := by decide +kernel
theorem dX11_allRings_57 : decode cX11_allRings 57 = .ok (.iload 8, 2) := by decide +kernel
theorem dX11_allRings_59 : decode cX11_allRings 59 = .ok (.iload 9, 2) := by decide +kernel
theorem dX11_allRings_61 : decode cX11_allRings 61 = .ok (.aload_n 0, 1) := by decide +kernel
theorem dX11_allRings_62 : decode cX11_allRings 62 = .ok (.getfield 81, 3) := by decide +kernel
theorem dX11_allRings_65 : decode cX11_allRings 65 = .ok (.if_icmp .ne 8, 3) := by decide +kernel
theorem dX11_allRings_68 : decode cX11_allRings 68 = .ok (.bipush 10, 2) := by decide +kernel
theorem dX11_allRings_70 : decode cX11_allRings 70 = .ok (.goto 9, 3) := by decide +kernel
theorem dX11_allRings_73 : decode cX11_allRings 73 = .ok (.iconst 5, 1) := by decide +kernel
theorem dX11_allRings_74 : decode cX11_allRings 74 = .ok (.iload_n 1, 1) := by decide +kernel
theorem dX11_allRings_75 : decode cX11_allRings 75 = .ok (.imul, 1) := by decide +kernel
theorem dX11_allRings_76 : decode cX11_allRings 76 = .ok (.iload 9, 2) := by decide +kernel
theorem dX11_allRings_78 : decode cX11_allRings 78 = .ok (.iadd, 1) := by decide +kernel
theorem dX11_allRings_79 : decode cX11_allRings 79 = .ok (.invokestatic 99, 3) := by decide +kernel
theorem dX11_allRings_82 : decode cX11_allRings 82 = .ok (.ifCond .eq 10, 3) := by decide +kernel
theorem dX11_allRings_85 : decode cX11_allRings 85 = .ok (.iconst 1, 1) := by decide +kernel
theorem dX11_allRings_86 : decode cX11_allRings 86 = .ok (.iload 6, 2) := by decide +kernel
theorem dX11_allRings_88 : decode cX11_allRings 88 = .ok (.ishl, 1) := by decide +kernel
theorem dX11_allRings_89 : decode cX11_allRings 89 = .ok (.goto 4, 3) := by decide +kernel
theorem dX11_allRings_92 : decode cX11_allRings 92 = .ok (.iconst 0, 1) := by decide +kernel
theorem dX11_allRings_93 : decode cX11_allRings 93 = .ok (.ior, 1) := by decide +kernel
theorem dX11_allRings_94 : decode cX11_allRings 94 = .ok (.istore 5, 2) := by decide +kernel
theorem dX11_allRings_96 : decode cX11_allRings 96 = .ok (.iinc 6 1, 3) := by decide +kernel
theorem dX11_allRings_99 : decode cX11_allRings 99 = .ok (.iinc 9 1, 3) := by decide +kernel
theorem dX11_allRings_102 : decode cX11_allRings 102 = .ok (.goto (-56), 3) := by decide +kernel
theorem dX11_allRings_105 : decode cX11_allRings 105 = .ok (.iinc 7 1, 3) := by decide +kernel
theorem dX11_allRings_108 : decode cX11_allRings 108 = .ok (.goto (-99), 3) := by decide +kernel
theorem dX11_allRings_111 : decode cX11_allRings 111 = .ok (.iload 5, 2) := by decide +kernel
theorem dX11_allRings_113 : decode cX11_allRings 113 = .ok (.ireturn, 1) := by decide +kernel
theorem dX11_leftBy_0 : decode cX11_leftBy 0 = .ok (.aload_n 0, 1) := by decide +kernel
theorem dX11_leftBy_1 : decode cX11_leftBy 1 = .ok (.iload_n 1, 1) := by decide +kernel
theorem dX11_leftBy_2 : decode cX11_leftBy 2 = .ok (.aload_n 0, 1) := by decide +kernel
theorem dX11_leftBy_3 : decode cX11_leftBy 3 = .ok (.getfield 7, 3) := by decide +kernel
theorem dX11_leftBy_6 : decode cX11_leftBy 6 = .ok (.aload_n 2, 1) := by decide +kernel
theorem dX11_leftBy_7 : decode cX11_leftBy 7 = .ok (.aload_n 3, 1) := by decide +kernel
theorem dX11_leftBy_8 : decode cX11_leftBy 8 = .ok (.invokevirtual 293, 3) := by decide +kernel
theorem dX11_leftBy_11 : decode cX11_leftBy 11 = .ok (.istore 4, 2) := by decide +kernel
theorem dX11_leftBy_13 : decode cX11_leftBy 13 = .ok (.iconst 0, 1) := by decide +kernel
theorem dX11_leftBy_14 : decode cX11_leftBy 14 = .ok (.istore 5, 2) := by decide +kernel
theorem dX11_leftBy_16 : decode cX11_leftBy 16 = .ok (.aload_n 0, 1) := by decide +kernel
theorem dX11_leftBy_17 : decode cX11_leftBy 17 = .ok (.invokevirtual 278, 3) := by decide +kernel
theorem dX11_leftBy_20 : decode cX11_leftBy 20 = .ok (.aload_n 0, 1) := by decide +kernel
theorem dX11_leftBy_21 : decode cX11_leftBy 21 = .ok (.getfield 81, 3) := by decide +kernel
theorem dX11_leftBy_24 : decode cX11_leftBy 24 = .ok (.ifCond .le 7, 3) := by decide +kernel
theorem dX11_leftBy_27 : decode cX11_leftBy 27 = .ok (.iconst 1, 1) := by decide +kernel
theorem dX11_leftBy_28 : decode cX11_leftBy 28 = .ok (.goto 4, 3) := by decide +kernel
theorem dX11_leftBy_31 : decode cX11_leftBy 31 = .ok (.iconst 0, 1) := by decide +kernel
theorem dX11_leftBy_32 : decode cX11_leftBy 32 = .ok (.istore 6, 2) := by decide +kernel
theorem dX11_leftBy_34 : decode cX11_leftBy 34 = .ok (.iload 6, 2) := by decide +kernel
theorem dX11_leftBy_36 : decode cX11_leftBy 36 = .ok (.ifCond .eq 38, 3) := by decide +kernel
theorem dX11_leftBy_39 : decode cX11_leftBy 39 = .ok (.iload 5, 2) := by decide +kernel
theorem dX11_leftBy_41 : decode cX11_leftBy 41 = .ok (.aload_n 0, 1) := by decide +kernel
theorem dX11_leftBy_42 : decode cX11_leftBy 42 = .ok (.iload_n 1, 1) := by decide +kernel
theorem dX11_leftBy_43 : decode cX11_leftBy 43 = .ok (.aload_n 0, 1) := by decide +kernel
theorem dX11_leftBy_44 : decode cX11_leftBy 44 = .ok (.getfield 57, 3) := by decide +kernel
theorem dX11_leftBy_47 : decode cX11_leftBy 47 = .ok (.aload_n 2, 1) := by decide +kernel
theorem dX11_leftBy_48 : decode cX11_leftBy 48 = .ok (.aload_n 3, 1) := by decide +kernel
theorem dX11_leftBy_49 : decode cX11_leftBy 49 = .ok (.invokevirtual 293, 3) := by decide +kernel
theorem dX11_leftBy_52 : decode cX11_leftBy 52 = .ok (.iload 4, 2) := by decide +kernel
theorem dX11_leftBy_54 : decode cX11_leftBy 54 = .ok (.if_icmp .ne 7, 3) := by decide +kernel
theorem dX11_leftBy_57 : decode cX11_leftBy 57 = .ok (.iconst 1, 1) := by decide +kernel
theorem dX11_leftBy_58 : decode cX11_leftBy 58 = .ok (.goto 4, 3) := by decide +kernel
theorem dX11_leftBy_61 : decode cX11_leftBy 61 = .ok (.iconst 0, 1) := by decide +kernel
theorem dX11_leftBy_62 : decode cX11_leftBy 62 = .ok (.iadd, 1) := by decide +kernel
theorem dX11_leftBy_63 : decode cX11_leftBy 63 = .ok (.istore 5, 2) := by decide +kernel
theorem dX11_leftBy_65 : decode cX11_leftBy 65 = .ok (.aload_n 0, 1) := by decide +kernel
theorem dX11_leftBy_66 : decode cX11_leftBy 66 = .ok (.invokevirtual 287, 3) := by decide +kernel
theorem dX11_leftBy_69 : decode cX11_leftBy 69 = .ok (.istore 6, 2) := by decide +kernel
theorem dX11_leftBy_71 : decode cX11_leftBy 71 = .ok (.goto (-37), 3) := by decide +kernel
theorem dX11_leftBy_74 : decode cX11_leftBy 74 = .ok (.iload 5, 2) := by decide +kernel
theorem dX11_leftBy_76 : decode cX11_leftBy 76 = .ok (.ireturn, 1) := by decide +kernel
theorem dX11_end_0 : decode cX11_end 0 = .ok (.aload_n 0, 1) := by decide +kernel
theorem dX11_end_1 : decode cX11_end 1 = .ok (.iload_n 1, 1) := by decide +kernel
theorem dX11_end_2 : decode cX11_end 2 = .ok (.invokevirtual 88, 3) := by decide +kernel
theorem dX11_end_5 : decode cX11_end 5 = .ok (.ifCond .ne 6, 3) := by decide +kernel
theorem dX11_end_8 : decode cX11_end 8 = .ok (.ldc 215, 2) := by decide +kernel
theorem dX11_end_10 : decode cX11_end 10 = .ok (.ireturn, 1) := by decide +kernel
theorem dX11_end_11 : decode cX11_end 11 = .ok (.iload_n 2, 1) := by decide +kernel
theorem dX11_end_12 : decode cX11_end 12 = .ok (.iconst 0, 1) := by decide +kernel
theorem dX11_end_13 : decode cX11_end 13 = .ok (.iconst 3, 1) := by decide +kernel
theorem dX11_end_14 : decode cX11_end 14 = .ok (.invokestatic 84, 3) := by decide +kernel
theorem dX11_end_17 : decode cX11_end 17 = .ok (.ifCond .ne 6, 3) := by decide +kernel
theorem dX11_end_20 : decode cX11_end 20 = .ok (.ldc 106, 2) := by decide +kernel
theorem dX11_end_22 : decode cX11_end 22 = .ok (.ireturn, 1) := by decide +kernel
theorem dX11_end_23 : decode cX11_end 23 = .ok (.iload_n 2, 1) := by decide +kernel
theorem dX11_end_24 : decode cX11_end 24 = .ok (.iconst 2, 1) := by decide +kernel
theorem dX11_end_25 : decode cX11_end 25 = .ok (.if_icmp .ge 23, 3) := by decide +kernel
theorem dX11_end_28 : decode cX11_end 28 = .ok (.iload_n 2, 1) := by decide +kernel
theorem dX11_end_29 : decode cX11_end 29 = .ok (.ifCond .ne 12, 3) := by decide +kernel
theorem dX11_end_32 : decode cX11_end 32 = .ok (.aload_n 0, 1) := by decide +kernel
theorem dX11_end_33 : decode cX11_end 33 = .ok (.getfield 7, 3) := by decide +kernel
theorem dX11_end_36 : decode cX11_end 36 = .ok (.iload_n 1, 1) := by decide +kernel
theorem dX11_end_37 : decode cX11_end 37 = .ok (.iaload, 1) := by decide +kernel
theorem dX11_end_38 : decode cX11_end 38 = .ok (.goto 9, 3) := by decide +kernel
theorem dX11_end_41 : decode cX11_end 41 = .ok (.aload_n 0, 1) := by decide +kernel
theorem dX11_end_42 : decode cX11_end 42 = .ok (.getfield 19, 3) := by decide +kernel
theorem dX11_end_45 : decode cX11_end 45 = .ok (.iload_n 1, 1) := by decide +kernel
theorem dX11_end_46 : decode cX11_end 46 = .ok (.iaload, 1) := by decide +kernel
theorem dX11_end_47 : decode cX11_end 47 = .ok (.ireturn, 1) := by decide +kernel
theorem dX11_end_48 : decode cX11_end 48 = .ok (.aload_n 0, 1) := by decide +kernel
theorem dX11_end_49 : decode cX11_end 49 = .ok (.invokevirtual 290, 3) := by decide +kernel
theorem dX11_end_52 : decode cX11_end 52 = .ok (.iload_n 2, 1) := by decide +kernel
theorem dX11_end_53 : decode cX11_end 53 = .ok (.iconst 2, 1) := by decide +kernel
theorem dX11_end_54 : decode cX11_end 54 = .ok (.if_icmp .ne 12, 3) := by decide +kernel
theorem dX11_end_57 : decode cX11_end 57 = .ok (.aload_n 0, 1) := by decide +kernel
theorem dX11_end_58 : decode cX11_end 58 = .ok (.getfield 63, 3) := by decide +kernel
theorem dX11_end_61 : decode cX11_end 61 = .ok (.iload_n 1, 1) := by decide +kernel
theorem dX11_end_62 : decode cX11_end 62 = .ok (.iaload, 1) := by decide +kernel
theorem dX11_end_63 : decode cX11_end 63 = .ok (.goto 9, 3) := by decide +kernel
theorem dX11_end_66 : decode cX11_end 66 = .ok (.aload_n 0, 1) := by decide +kernel
theorem dX11_end_67 : decode cX11_end 67 = .ok (.getfield 66, 3) := by decide +kernel
theorem dX11_end_70 : decode cX11_end 70 = .ok (.iload_n 1, 1) := by decide +kernel
theorem dX11_end_71 : decode cX11_end 71 = .ok (.iaload, 1) := by decide +kernel
theorem dX11_end_72 : decode cX11_end 72 = .ok (.ireturn, 1) := by decide +kernel
theorem dX11_nextWay_0 : decode cX11_nextWay 0 = .ok (.aload_n 0, 1) := by decide +kernel
theorem dX11_nextWay_1 : decode cX11_nextWay 1 = .ok (.getfield 81, 3) := by decide +kernel
theorem dX11_nextWay_4 : decode cX11_nextWay 4 = .ok (.iconst 1, 1) := by decide +kernel
theorem dX11_nextWay_5 : decode cX11_nextWay 5 = .ok (.isub, 1) := by decide +kernel
theorem dX11_nextWay_6 : decode cX11_nextWay 6 = .ok (.istore_n 1, 1) := by decide +kernel
theorem dX11_nextWay_7 : decode cX11_nextWay 7 = .ok (.iload_n 1, 1) := by decide +kernel
theorem dX11_nextWay_8 : decode cX11_nextWay 8 = .ok (.ifCond .le 74, 3) := by decide +kernel
theorem dX11_nextWay_11 : decode cX11_nextWay 11 = .ok (.iconst 0, 1) := by decide +kernel
theorem dX11_nextWay_12 : decode cX11_nextWay 12 = .ok (.istore_n 2, 1) := by decide +kernel
theorem dX11_nextWay_13 : decode cX11_nextWay 13 = .ok (.iconst 0, 1) := by decide +kernel
theorem dX11_nextWay_14 : decode cX11_nextWay 14 = .ok (.istore_n 3, 1) := by decide +kernel
theorem dX11_nextWay_15 : decode cX11_nextWay 15 = .ok (.iload_n 3, 1) := by decide +kernel
theorem dX11_nextWay_16 : decode cX11_nextWay 16 = .ok (.iload_n 1, 1) := by decide +kernel
theorem dX11_nextWay_17 : decode cX11_nextWay 17 = .ok (.if_icmp .ge 30, 3) := by decide +kernel
theorem dX11_nextWay_20 : decode cX11_nextWay 20 = .ok (.aload_n 0, 1) := by decide +kernel
theorem dX11_nextWay_21 : decode cX11_nextWay 21 = .ok (.getfield 72, 3) := by decide +kernel
theorem dX11_nextWay_24 : decode cX11_nextWay 24 = .ok (.iload_n 3, 1) := by decide +kernel
theorem dX11_nextWay_25 : decode cX11_nextWay 25 = .ok (.iaload, 1) := by decide +kernel
theorem dX11_nextWay_26 : decode cX11_nextWay 26 = .ok (.iload_n 2, 1) := by decide +kernel
theorem dX11_nextWay_27 : decode cX11_nextWay 27 = .ok (.if_icmp .le 12, 3) := by decide +kernel
theorem dX11_nextWay_30 : decode cX11_nextWay 30 = .ok (.aload_n 0, 1) := by decide +kernel
theorem dX11_nextWay_31 : decode cX11_nextWay 31 = .ok (.getfield 72, 3) := by decide +kernel
theorem dX11_nextWay_34 : decode cX11_nextWay 34 = .ok (.iload_n 3, 1) := by decide +kernel
theorem dX11_nextWay_35 : decode cX11_nextWay 35 = .ok (.iaload, 1) := by decide +kernel
theorem dX11_nextWay_36 : decode cX11_nextWay 36 = .ok (.goto 4, 3) := by decide +kernel
theorem dX11_nextWay_39 : decode cX11_nextWay 39 = .ok (.iload_n 2, 1) := by decide +kernel
theorem dX11_nextWay_40 : decode cX11_nextWay 40 = .ok (.istore_n 2, 1) := by decide +kernel
theorem dX11_nextWay_41 : decode cX11_nextWay 41 = .ok (.iinc 3 1, 3) := by decide +kernel
theorem dX11_nextWay_44 : decode cX11_nextWay 44 = .ok (.goto (-29), 3) := by decide +kernel
theorem dX11_nextWay_47 : decode cX11_nextWay 47 = .ok (.aload_n 0, 1) := by decide +kernel
theorem dX11_nextWay_48 : decode cX11_nextWay 48 = .ok (.getfield 72, 3) := by decide +kernel
theorem dX11_nextWay_51 : decode cX11_nextWay 51 = .ok (.iload_n 1, 1) := by decide +kernel
theorem dX11_nextWay_52 : decode cX11_nextWay 52 = .ok (.iaload, 1) := by decide +kernel
theorem dX11_nextWay_53 : decode cX11_nextWay 53 = .ok (.iload_n 2, 1) := by decide +kernel
theorem dX11_nextWay_54 : decode cX11_nextWay 54 = .ok (.if_icmp .gt 15, 3) := by decide +kernel
theorem dX11_nextWay_57 : decode cX11_nextWay 57 = .ok (.aload_n 0, 1) := by decide +kernel
theorem dX11_nextWay_58 : decode cX11_nextWay 58 = .ok (.getfield 72, 3) := by decide +kernel
theorem dX11_nextWay_61 : decode cX11_nextWay 61 = .ok (.iload_n 1, 1) := by decide +kernel
theorem dX11_nextWay_62 : decode cX11_nextWay 62 = .ok (.dup2, 1) := by decide +kernel
theorem dX11_nextWay_63 : decode cX11_nextWay 63 = .ok (.iaload, 1) := by decide +kernel
theorem dX11_nextWay_64 : decode cX11_nextWay 64 = .ok (.iconst 1, 1) := by decide +kernel
theorem dX11_nextWay_65 : decode cX11_nextWay 65 = .ok (.iadd, 1) := by decide +kernel
theorem dX11_nextWay_66 : decode cX11_nextWay 66 = .ok (.iastore, 1) := by decide +kernel
theorem dX11_nextWay_67 : decode cX11_nextWay 67 = .ok (.iconst 1, 1) := by decide +kernel
theorem dX11_nextWay_68 : decode cX11_nextWay 68 = .ok (.ireturn, 1) := by decide +kernel
theorem dX11_nextWay_69 : decode cX11_nextWay 69 = .ok (.aload_n 0, 1) := by decide +kernel
theorem dX11_nextWay_70 : decode cX11_nextWay 70 = .ok (.getfield 72, 3) := by decide +kernel
theorem dX11_nextWay_73 : decode cX11_nextWay 73 = .ok (.iload_n 1, 1) := by decide +kernel
theorem dX11_nextWay_74 : decode cX11_nextWay 74 = .ok (.iconst 1, 1) := by decide +kernel
theorem dX11_nextWay_75 : decode cX11_nextWay 75 = .ok (.iastore, 1) := by decide +kernel
theorem dX11_nextWay_76 : decode cX11_nextWay 76 = .ok (.iinc 1 (-1), 3) := by decide +kernel
theorem dX11_nextWay_79 : decode cX11_nextWay 79 = .ok (.goto (-72), 3) := by decide +kernel
theorem dX11_nextWay_82 : decode cX11_nextWay 82 = .ok (.iconst 0, 1) := by decide +kernel
theorem dX11_nextWay_83 : decode cX11_nextWay 83 = .ok (.ireturn, 1) := by decide +kernel
theorem dX11_ties_0 : decode cX11_ties 0 = .ok (.iload_n 1, 1) := by decide +kernel
theorem dX11_ties_1 : decode cX11_ties 1 = .ok (.iconst (-1), 1) := by decide +kernel
theorem dX11_ties_2 : decode cX11_ties 2 = .ok (.if_icmp .eq 14, 3) := by decide +kernel
theorem dX11_ties_5 : decode cX11_ties 5 = .ok (.aload_n 0, 1) := by decide +kernel
theorem dX11_ties_6 : decode cX11_ties 6 = .ok (.iload_n 1, 1) := by decide +kernel
theorem dX11_ties_7 : decode cX11_ties 7 = .ok (.invokevirtual 88, 3) := by decide +kernel
theorem dX11_ties_10 : decode cX11_ties 10 = .ok (.ifCond .ne 6, 3) := by decide +kernel
theorem dX11_ties_13 : decode cX11_ties 13 = .ok (.ldc 215, 2) := by decide +kernel
theorem dX11_ties_15 : decode cX11_ties 15 = .ok (.ireturn, 1) := by decide +kernel
theorem dX11_ties_16 : decode cX11_ties 16 = .ok (.aload_n 0, 1) := by decide +kernel
theorem dX11_ties_17 : decode cX11_ties 17 = .ok (.getfield 81, 3) := by decide +kernel
theorem dX11_ties_20 : decode cX11_ties 20 = .ok (.ifCond .ne 6, 3) := by decide +kernel
theorem dX11_ties_23 : decode cX11_ties 23 = .ok (.ldc 230, 2) := by decide +kernel
theorem dX11_ties_25 : decode cX11_ties 25 = .ok (.ireturn, 1) := by decide +kernel
theorem dX11_ties_26 : decode cX11_ties 26 = .ok (.iconst 0, 1) := by decide +kernel
theorem dX11_ties_27 : decode cX11_ties 27 = .ok (.istore_n 2, 1) := by decide +kernel
theorem dX11_ties_28 : decode cX11_ties 28 = .ok (.iload_n 2, 1) := by decide +kernel
theorem dX11_ties_29 : decode cX11_ties 29 = .ok (.iconst 5, 1) := by decide +kernel
theorem dX11_ties_30 : decode cX11_ties 30 = .ok (.if_icmp .ge 16, 3) := by decide +kernel
theorem dX11_ties_33 : decode cX11_ties 33 = .ok (.aload_n 0, 1) := by decide +kernel
theorem dX11_ties_34 : decode cX11_ties 34 = .ok (.getfield 72, 3) := by decide +kernel
theorem dX11_ties_37 : decode cX11_ties 37 = .ok (.iload_n 2, 1) := by decide +kernel
theorem dX11_ties_38 : decode cX11_ties 38 = .ok (.iconst 1, 1) := by decide +kernel
theorem dX11_ties_39 : decode cX11_ties 39 = .ok (.iastore, 1) := by decide +kernel
theorem dX11_ties_40 : decode cX11_ties 40 = .ok (.iinc 2 1, 3) := by decide +kernel
theorem dX11_ties_43 : decode cX11_ties 43 = .ok (.goto (-15), 3) := by decide +kernel
theorem dX11_ties_46 : decode cX11_ties 46 = .ok (.ldc_w 271, 3) := by decide +kernel
theorem dX11_ties_49 : decode cX11_ties 49 = .ok (.istore_n 2, 1) := by decide +kernel
theorem dX11_ties_50 : decode cX11_ties 50 = .ok (.iconst 1, 1) := by decide +kernel
theorem dX11_ties_51 : decode cX11_ties 51 = .ok (.istore_n 3, 1) := by decide +kernel
theorem dX11_ties_52 : decode cX11_ties 52 = .ok (.iload_n 3, 1) := by decide +kernel
theorem dX11_ties_53 : decode cX11_ties 53 = .ok (.ifCond .eq 67, 3) := by decide +kernel
theorem dX11_ties_56 : decode cX11_ties 56 = .ok (.aload_n 0, 1) := by decide +kernel
theorem dX11_ties_57 : decode cX11_ties 57 = .ok (.iconst 1, 1) := by decide +kernel
theorem dX11_ties_58 : decode cX11_ties 58 = .ok (.aload_n 0, 1) := by decide +kernel
theorem dX11_ties_59 : decode cX11_ties 59 = .ok (.getfield 72, 3) := by decide +kernel
theorem dX11_ties_62 : decode cX11_ties 62 = .ok (.aload_n 0, 1) := by decide +kernel
theorem dX11_ties_63 : decode cX11_ties 63 = .ok (.getfield 75, 3) := by decide +kernel
theorem dX11_ties_66 : decode cX11_ties 66 = .ok (.invokevirtual 297, 3) := by decide +kernel
theorem dX11_ties_69 : decode cX11_ties 69 = .ok (.istore 4, 2) := by decide +kernel
theorem dX11_ties_71 : decode cX11_ties 71 = .ok (.iload 4, 2) := by decide +kernel
theorem dX11_ties_73 : decode cX11_ties 73 = .ok (.iload_n 2, 1) := by decide +kernel
theorem dX11_ties_74 : decode cX11_ties 74 = .ok (.if_icmp .ge 38, 3) := by decide +kernel
theorem dX11_ties_77 : decode cX11_ties 77 = .ok (.iload 4, 2) := by decide +kernel
theorem dX11_ties_79 : decode cX11_ties 79 = .ok (.istore_n 2, 1) := by decide +kernel
theorem dX11_ties_80 : decode cX11_ties 80 = .ok (.iconst 0, 1) := by decide +kernel
theorem dX11_ties_81 : decode cX11_ties 81 = .ok (.istore 5, 2) := by decide +kernel
theorem dX11_ties_83 : decode cX11_ties 83 = .ok (.iload 5, 2) := by decide +kernel
theorem dX11_ties_85 : decode cX11_ties 85 = .ok (.aload_n 0, 1) := by decide +kernel
theorem dX11_ties_86 : decode cX11_ties 86 = .ok (.getfield 81, 3) := by decide +kernel
theorem dX11_ties_89 : decode cX11_ties 89 = .ok (.if_icmp .ge 23, 3) := by decide +kernel
theorem dX11_ties_92 : decode cX11_ties 92 = .ok (.aload_n 0, 1) := by decide +kernel
theorem dX11_ties_93 : decode cX11_ties 93 = .ok (.getfield 78, 3) := by decide +kernel
theorem dX11_ties_96 : decode cX11_ties 96 = .ok (.iload 5, 2) := by decide +kernel
theorem dX11_ties_98 : decode cX11_ties 98 = .ok (.aload_n 0, 1) := by decide +kernel
theorem dX11_ties_99 : decode cX11_ties 99 = .ok (.getfield 72, 3) := by decide +kernel
theorem dX11_ties_102 : decode cX11_ties 102 = .ok (.iload 5, 2) := by decide +kernel
theorem dX11_ties_104 : decode cX11_ties 104 = .ok (.iaload, 1) := by decide +kernel
theorem dX11_ties_105 : decode cX11_ties 105 = .ok (.iastore, 1) := by decide +kernel
theorem dX11_ties_106 : decode cX11_ties 106 = .ok (.iinc 5 1, 3) := by decide +kernel
theorem dX11_ties_109 : decode cX11_ties 109 = .ok (.goto (-26), 3) := by decide +kernel
theorem dX11_ties_112 : decode cX11_ties 112 = .ok (.aload_n 0, 1) := by decide +kernel
theorem dX11_ties_113 : decode cX11_ties 113 = .ok (.invokevirtual 301, 3) := by decide +kernel
theorem dX11_ties_116 : decode cX11_ties 116 = .ok (.istore_n 3, 1) := by decide +kernel
theorem dX11_ties_117 : decode cX11_ties 117 = .ok (.goto (-65), 3) := by decide +kernel
theorem dX11_ties_120 : decode cX11_ties 120 = .ok (.iload_n 1, 1) := by decide +kernel
theorem dX11_ties_121 : decode cX11_ties 121 = .ok (.iconst (-1), 1) := by decide +kernel
theorem dX11_ties_122 : decode cX11_ties 122 = .ok (.if_icmp .ne 7, 3) := by decide +kernel
theorem dX11_ties_125 : decode cX11_ties 125 = .ok (.iload_n 2, 1) := by decide +kernel
theorem dX11_ties_126 : decode cX11_ties 126 = .ok (.goto 11, 3) := by decide +kernel
theorem dX11_ties_129 : decode cX11_ties 129 = .ok (.aload_n 0, 1) := by decide +kernel
theorem dX11_ties_130 : decode cX11_ties 130 = .ok (.getfield 78, 3) := by decide +kernel
theorem dX11_ties_133 : decode cX11_ties 133 = .ok (.iload_n 1, 1) := by decide +kernel
theorem dX11_ties_134 : decode cX11_ties 134 = .ok (.iaload, 1) := by decide +kernel
theorem dX11_ties_135 : decode cX11_ties 135 = .ok (.iconst 1, 1) := by decide +kernel
theorem dX11_ties_136 : decode cX11_ties 136 = .ok (.isub, 1) := by decide +kernel
theorem dX11_ties_137 : decode cX11_ties 137 = .ok (.ireturn, 1) := by decide +kernel
theorem dX11_dry_0 : decode cX11_dry 0 = .ok (.iload_n 1, 1) := by decide +kernel
theorem dX11_dry_1 : decode cX11_dry 1 = .ok (.iconst 0, 1) := by decide +kernel
theorem dX11_dry_2 : decode cX11_dry 2 = .ok (.bipush 60, 2) := by decide +kernel
theorem dX11_dry_4 : decode cX11_dry 4 = .ok (.invokestatic 84, 3) := by decide +kernel
theorem dX11_dry_7 : decode cX11_dry 7 = .ok (.ifCond .eq 13, 3) := by decide +kernel
theorem dX11_dry_10 : decode cX11_dry 10 = .ok (.iload_n 2, 1) := by decide +kernel
theorem dX11_dry_11 : decode cX11_dry 11 = .ok (.iconst 0, 1) := by decide +kernel
theorem dX11_dry_12 : decode cX11_dry 12 = .ok (.bipush 100, 2) := by decide +kernel
theorem dX11_dry_14 : decode cX11_dry 14 = .ok (.invokestatic 84, 3) := by decide +kernel
theorem dX11_dry_17 : decode cX11_dry 17 = .ok (.ifCond .ne 6, 3) := by decide +kernel
theorem dX11_dry_20 : decode cX11_dry 20 = .ok (.ldc 106, 2) := by decide +kernel
theorem dX11_dry_22 : decode cX11_dry 22 = .ok (.ireturn, 1) := by decide +kernel
theorem dX11_dry_23 : decode cX11_dry 23 = .ok (.ldc2_w 304, 3) := by decide +kernel
theorem dX11_dry_26 : decode cX11_dry 26 = .ok (.lstore_n 3, 1) := by decide +kernel
theorem dX11_dry_27 : decode cX11_dry 27 = .ok (.iconst 0, 1) := by decide +kernel
theorem dX11_dry_28 : decode cX11_dry 28 = .ok (.istore 5, 2) := by decide +kernel
theorem dX11_dry_30 : decode cX11_dry 30 = .ok (.iload 5, 2) := by decide +kernel
theorem dX11_dry_32 : decode cX11_dry 32 = .ok (.iload_n 1, 1) := by decide +kernel
theorem dX11_dry_33 : decode cX11_dry 33 = .ok (.if_icmp .ge 18, 3) := by decide +kernel
theorem dX11_dry_36 : decode cX11_dry 36 = .ok (.lload_n 3, 1) := by decide +kernel
theorem dX11_dry_37 : decode cX11_dry 37 = .ok (.iload_n 2, 1) := by decide +kernel
theorem dX11_dry_38 : decode cX11_dry 38 = .ok (.i2l, 1) := by decide +kernel
theorem dX11_dry_39 : decode cX11_dry 39 = .ok (.lmul, 1) := by decide +kernel
theorem dX11_dry_40 : decode cX11_dry 40 = .ok (.ldc2_w 306, 3) := by decide +kernel
theorem dX11_dry_43 : decode cX11_dry 43 = .ok (.ldiv, 1) := by decide +kernel
theorem dX11_dry_44 : decode cX11_dry 44 = .ok (.lstore_n 3, 1) := by decide +kernel
theorem dX11_dry_45 : decode cX11_dry 45 = .ok (.iinc 5 1, 3) := by decide +kernel
theorem dX11_dry_48 : decode cX11_dry 48 = .ok (.goto (-18), 3) := by decide +kernel
theorem dX11_dry_51 : decode cX11_dry 51 = .ok (.lload_n 3, 1) := by decide +kernel
theorem dX11_dry_52 : decode cX11_dry 52 = .ok (.l2i, 1) := by decide +kernel
theorem dX11_dry_53 : decode cX11_dry 53 = .ok (.ireturn, 1) := by decide +kernel
theorem dX11_see_0 : decode cX11_see 0 = .ok (.aload_n 0, 1) := by decide +kernel
theorem dX11_see_1 : decode cX11_see 1 = .ok (.iload_n 1, 1) := by decide +kernel
theorem dX11_see_2 : decode cX11_see 2 = .ok (.iload_n 2, 1) := by decide +kernel
theorem dX11_see_3 : decode cX11_see 3 = .ok (.invokevirtual 216, 3) := by decide +kernel
theorem dX11_see_6 : decode cX11_see 6 = .ok (.ifCond .ne 6, 3) := by decide +kernel
theorem dX11_see_9 : decode cX11_see 9 = .ok (.ldc 215, 2) := by decide +kernel
theorem dX11_see_11 : decode cX11_see 11 = .ok (.ireturn, 1) := by decide +kernel
theorem dX11_see_12 : decode cX11_see 12 = .ok (.aload_n 0, 1) := by decide +kernel
theorem dX11_see_13 : decode cX11_see 13 = .ok (.getfield 182, 3) := by decide +kernel
theorem dX11_see_16 : decode cX11_see 16 = .ok (.bipush 8, 2) := by decide +kernel
theorem dX11_see_18 : decode cX11_see 18 = .ok (.if_icmp .ne 6, 3) := by decide +kernel
theorem dX11_see_21 : decode cX11_see 21 = .ok (.ldc 110, 2) := by decide +kernel
theorem dX11_see_23 : decode cX11_see 23 = .ok (.ireturn, 1) := by decide +kernel
theorem dX11_see_24 : decode cX11_see 24 = .ok (.bipush 14, 2) := by decide +kernel
theorem dX11_see_26 : decode cX11_see 26 = .ok (.aload_n 0, 1) := by decide +kernel
theorem dX11_see_27 : decode cX11_see 27 = .ok (.getfield 182, 3) := by decide +kernel
theorem dX11_see_30 : decode cX11_see 30 = .ok (.imul, 1) := by decide +kernel
theorem dX11_see_31 : decode cX11_see 31 = .ok (.istore 4, 2) := by decide +kernel
theorem dX11_see_33 : decode cX11_see 33 = .ok (.aload_n 0, 1) := by decide +kernel
theorem dX11_see_34 : decode cX11_see 34 = .ok (.getfield 22, 3) := by decide +kernel
theorem dX11_see_37 : decode cX11_see 37 = .ok (.iload 4, 2) := by decide +kernel
theorem dX11_see_39 : decode cX11_see 39 = .ok (.aload_n 0, 1) := by decide +kernel
theorem dX11_see_40 : decode cX11_see 40 = .ok (.getfield 170, 3) := by decide +kernel
theorem dX11_see_43 : decode cX11_see 43 = .ok (.iastore, 1) := by decide +kernel
theorem dX11_see_44 : decode cX11_see 44 = .ok (.aload_n 0, 1) := by decide +kernel
theorem dX11_see_45 : decode cX11_see 45 = .ok (.getfield 22, 3) := by decide +kernel
theorem dX11_see_48 : decode cX11_see 48 = .ok (.iload 4, 2) := by decide +kernel
theorem dX11_see_50 : decode cX11_see 50 = .ok (.iconst 1, 1) := by decide +kernel
theorem dX11_see_51 : decode cX11_see 51 = .ok (.iadd, 1) := by decide +kernel
theorem dX11_see_52 : decode cX11_see 52 = .ok (.aload_n 0, 1) := by decide +kernel
theorem dX11_see_53 : decode cX11_see 53 = .ok (.getfield 173, 3) := by decide +kernel
theorem dX11_see_56 : decode cX11_see 56 = .ok (.iastore, 1) := by decide +kernel
theorem dX11_see_57 : decode cX11_see 57 = .ok (.aload_n 0, 1) := by decide +kernel
theorem dX11_see_58 : decode cX11_see 58 = .ok (.getfield 22, 3) := by decide +kernel
theorem dX11_see_61 : decode cX11_see 61 = .ok (.iload 4, 2) := by decide +kernel
theorem dX11_see_63 : decode cX11_see 63 = .ok (.iconst 2, 1) := by decide +kernel
theorem dX11_see_64 : decode cX11_see 64 = .ok (.iadd, 1) := by decide +kernel
theorem dX11_see_65 : decode cX11_see 65 = .ok (.iload_n 1, 1) := by decide +kernel
theorem dX11_see_66 : decode cX11_see 66 = .ok (.iastore, 1) := by decide +kernel
theorem dX11_see_67 : decode cX11_see 67 = .ok (.aload_n 0, 1) := by decide +kernel
theorem dX11_see_68 : decode cX11_see 68 = .ok (.getfield 22, 3) := by decide +kernel
theorem dX11_see_71 : decode cX11_see 71 = .ok (.iload 4, 2) := by decide +kernel
theorem dX11_see_73 : decode cX11_see 73 = .ok (.iconst 3, 1) := by decide +kernel
theorem dX11_see_74 : decode cX11_see 74 = .ok (.iadd, 1) := by decide +kernel
theorem dX11_see_75 : decode cX11_see 75 = .ok (.iload_n 2, 1) := by decide +kernel
theorem dX11_see_76 : decode cX11_see 76 = .ok (.iastore, 1) := by decide +kernel
theorem dX11_see_77 : decode cX11_see 77 = .ok (.aload_n 0, 1) := by decide +kernel
theorem dX11_see_78 : decode cX11_see 78 = .ok (.getfield 22, 3) := by decide +kernel
theorem dX11_see_81 : decode cX11_see 81 = .ok (.iload 4, 2) := by decide +kernel
theorem dX11_see_83 : decode cX11_see 83 = .ok (.iconst 4, 1) := by decide +kernel
theorem dX11_see_84 : decode cX11_see 84 = .ok (.iadd, 1) := by decide +kernel
theorem dX11_see_85 : decode cX11_see 85 = .ok (.iload_n 3, 1) := by decide +kernel
theorem dX11_see_86 : decode cX11_see 86 = .ok (.ifCond .eq 7, 3) := by decide +kernel
theorem dX11_see_89 : decode cX11_see 89 = .ok (.iconst 1, 1) := by decide +kernel
theorem dX11_see_90 : decode cX11_see 90 = .ok (.goto 4, 3) := by decide +kernel
theorem dX11_see_93 : decode cX11_see 93 = .ok (.iconst 0, 1) := by decide +kernel
theorem dX11_see_94 : decode cX11_see 94 = .ok (.iastore, 1) := by decide +kernel
theorem dX11_see_95 : decode cX11_see 95 = .ok (.iconst 0, 1) := by decide +kernel
theorem dX11_see_96 : decode cX11_see 96 = .ok (.istore 5, 2) := by decide +kernel
theorem dX11_see_98 : decode cX11_see 98 = .ok (.iload 5, 2) := by decide +kernel
theorem dX11_see_100 : decode cX11_see 100 = .ok (.iconst 5, 1) := by decide +kernel
theorem dX11_see_101 : decode cX11_see 101 = .ok (.if_icmp .ge 47, 3) := by decide +kernel
theorem dX11_see_104 : decode cX11_see 104 = .ok (.aload_n 0, 1) := by decide +kernel
theorem dX11_see_105 : decode cX11_see 105 = .ok (.getfield 22, 3) := by decide +kernel
theorem dX11_see_108 : decode cX11_see 108 = .ok (.iload 4, 2) := by decide +kernel
theorem dX11_see_110 : decode cX11_see 110 = .ok (.iconst 5, 1) := by decide +kernel
theorem dX11_see_111 : decode cX11_see 111 = .ok (.iadd, 1) := by decide +kernel
theorem dX11_see_112 : decode cX11_see 112 = .ok (.iload 5, 2) := by decide +kernel
theorem dX11_see_114 : decode cX11_see 114 = .ok (.iadd, 1) := by decide +kernel
theorem dX11_see_115 : decode cX11_see 115 = .ok (.aload_n 0, 1) := by decide +kernel
theorem dX11_see_116 : decode cX11_see 116 = .ok (.getfield 16, 3) := by decide +kernel
theorem dX11_see_119 : decode cX11_see 119 = .ok (.iload 5, 2) := by decide +kernel
theorem dX11_see_121 : decode cX11_see 121 = .ok (.iaload, 1) := by decide +kernel
theorem dX11_see_122 : decode cX11_see 122 = .ok (.iastore, 1) := by decide +kernel
theorem dX11_see_123 : decode cX11_see 123 = .ok (.aload_n 0, 1) := by decide +kernel
theorem dX11_see_124 : decode cX11_see 124 = .ok (.getfield 60, 3) := by decide +kernel
theorem dX11_see_127 : decode cX11_see 127 = .ok (.iload 4, 2) := by decide +kernel
theorem dX11_see_129 : decode cX11_see 129 = .ok (.iconst 5, 1) := by decide +kernel
theorem dX11_see_130 : decode cX11_see 130 = .ok (.iadd, 1) := by decide +kernel
theorem dX11_see_131 : decode cX11_see 131 = .ok (.iload 5, 2) := by decide +kernel
theorem dX11_see_133 : decode cX11_see 133 = .ok (.iadd, 1) := by decide +kernel
theorem dX11_see_134 : decode cX11_see 134 = .ok (.aload_n 0, 1) := by decide +kernel
theorem dX11_see_135 : decode cX11_see 135 = .ok (.getfield 19, 3) := by decide +kernel
theorem dX11_see_138 : decode cX11_see 138 = .ok (.iload 5, 2) := by decide +kernel
theorem dX11_see_140 : decode cX11_see 140 = .ok (.iaload, 1) := by decide +kernel
theorem dX11_see_141 : decode cX11_see 141 = .ok (.iastore, 1) := by decide +kernel
theorem dX11_see_142 : decode cX11_see 142 = .ok (.iinc 5 1, 3) := by decide +kernel
theorem dX11_see_145 : decode cX11_see 145 = .ok (.goto (-47), 3) := by decide +kernel
theorem dX11_see_148 : decode cX11_see 148 = .ok (.aload_n 0, 1) := by decide +kernel
theorem dX11_see_149 : decode cX11_see 149 = .ok (.dup, 1) := by decide +kernel
theorem dX11_see_150 : decode cX11_see 150 = .ok (.getfield 182, 3) := by decide +kernel
theorem dX11_see_153 : decode cX11_see 153 = .ok (.iconst 1, 1) := by decide +kernel
theorem dX11_see_154 : decode cX11_see 154 = .ok (.iadd, 1) := by decide +kernel
theorem dX11_see_155 : decode cX11_see 155 = .ok (.putfield 182, 3) := by decide +kernel
theorem dX11_see_158 : decode cX11_see 158 = .ok (.aload_n 0, 1) := by decide +kernel
theorem dX11_see_159 : decode cX11_see 159 = .ok (.getfield 182, 3) := by decide +kernel
theorem dX11_see_162 : decode cX11_see 162 = .ok (.ireturn, 1) := by decide +kernel
theorem dX11_write_0 : decode cX11_write 0 = .ok (.aload_n 0, 1) := by decide +kernel
theorem dX11_write_1 : decode cX11_write 1 = .ok (.iload_n 1, 1) := by decide +kernel
theorem dX11_write_2 : decode cX11_write 2 = .ok (.invokevirtual 88, 3) := by decide +kernel
theorem dX11_write_5 : decode cX11_write 5 = .ok (.ifCond .eq 11, 3) := by decide +kernel
theorem dX11_write_8 : decode cX11_write 8 = .ok (.aload_n 0, 1) := by decide +kernel
theorem dX11_write_9 : decode cX11_write 9 = .ok (.iload_n 2, 1) := by decide +kernel
theorem dX11_write_10 : decode cX11_write 10 = .ok (.invokevirtual 88, 3) := by decide +kernel
theorem dX11_write_13 : decode cX11_write 13 = .ok (.ifCond .ne 6, 3) := by decide +kernel
theorem dX11_write_16 : decode cX11_write 16 = .ok (.ldc 215, 2) := by decide +kernel
theorem dX11_write_18 : decode cX11_write 18 = .ok (.ireturn, 1) := by decide +kernel
theorem dX11_write_19 : decode cX11_write 19 = .ok (.aload_n 0, 1) := by decide +kernel
theorem dX11_write_20 : decode cX11_write 20 = .ok (.getfield 185, 3) := by decide +kernel
theorem dX11_write_23 : decode cX11_write 23 = .ok (.bipush 15, 2) := by decide +kernel
theorem dX11_write_25 : decode cX11_write 25 = .ok (.if_icmp .ne 6, 3) := by decide +kernel
theorem dX11_write_28 : decode cX11_write 28 = .ok (.ldc 110, 2) := by decide +kernel
theorem dX11_write_30 : decode cX11_write 30 = .ok (.ireturn, 1) := by decide +kernel
theorem dX11_write_31 : decode cX11_write 31 = .ok (.aload_n 0, 1) := by decide +kernel
theorem dX11_write_32 : decode cX11_write 32 = .ok (.getfield 25, 3) := by decide +kernel
theorem dX11_write_35 : decode cX11_write 35 = .ok (.aload_n 0, 1) := by decide +kernel
theorem dX11_write_36 : decode cX11_write 36 = .ok (.getfield 185, 3) := by decide +kernel
theorem dX11_write_39 : decode cX11_write 39 = .ok (.iload_n 1, 1) := by decide +kernel
theorem dX11_write_40 : decode cX11_write 40 = .ok (.iastore, 1) := by decide +kernel
theorem dX11_write_41 : decode cX11_write 41 = .ok (.aload_n 0, 1) := by decide +kernel
theorem dX11_write_42 : decode cX11_write 42 = .ok (.getfield 28, 3) := by decide +kernel
theorem dX11_write_45 : decode cX11_write 45 = .ok (.aload_n 0, 1) := by decide +kernel
theorem dX11_write_46 : decode cX11_write 46 = .ok (.getfield 185, 3) := by decide +kernel
theorem dX11_write_49 : decode cX11_write 49 = .ok (.iload_n 2, 1) := by decide +kernel
theorem dX11_write_50 : decode cX11_write 50 = .ok (.iastore, 1) := by decide +kernel
theorem dX11_write_51 : decode cX11_write 51 = .ok (.aload_n 0, 1) := by decide +kernel
theorem dX11_write_52 : decode cX11_write 52 = .ok (.dup, 1) := by decide +kernel
theorem dX11_write_53 : decode cX11_write 53 = .ok (.getfield 185, 3) := by decide +kernel
theorem dX11_write_56 : decode cX11_write 56 = .ok (.iconst 1, 1) := by decide +kernel
theorem dX11_write_57 : decode cX11_write 57 = .ok (.iadd, 1) := by decide +kernel
theorem dX11_write_58 : decode cX11_write 58 = .ok (.putfield 185, 3) := by decide +kernel
theorem dX11_write_61 : decode cX11_write 61 = .ok (.aload_n 0, 1) := by decide +kernel
theorem dX11_write_62 : decode cX11_write 62 = .ok (.getfield 185, 3) := by decide +kernel
theorem dX11_write_65 : decode cX11_write 65 = .ok (.ireturn, 1) := by decide +kernel
theorem dX11_tear_0 : decode cX11_tear 0 = .ok (.aload_n 0, 1) := by decide +kernel
theorem dX11_tear_1 : decode cX11_tear 1 = .ok (.getfield 182, 3) := by decide +kernel
theorem dX11_tear_4 : decode cX11_tear 4 = .ok (.aload_n 0, 1) := by decide +kernel
theorem dX11_tear_5 : decode cX11_tear 5 = .ok (.getfield 185, 3) := by decide +kernel
theorem dX11_tear_8 : decode cX11_tear 8 = .ok (.iadd, 1) := by decide +kernel
theorem dX11_tear_9 : decode cX11_tear 9 = .ok (.istore_n 1, 1) := by decide +kernel
theorem dX11_tear_10 : decode cX11_tear 10 = .ok (.aload_n 0, 1) := by decide +kernel
theorem dX11_tear_11 : decode cX11_tear 11 = .ok (.iconst 0, 1) := by decide +kernel
theorem dX11_tear_12 : decode cX11_tear 12 = .ok (.putfield 182, 3) := by decide +kernel
theorem dX11_tear_15 : decode cX11_tear 15 = .ok (.aload_n 0, 1) := by decide +kernel
theorem dX11_tear_16 : decode cX11_tear 16 = .ok (.iconst 0, 1) := by decide +kernel
theorem dX11_tear_17 : decode cX11_tear 17 = .ok (.putfield 185, 3) := by decide +kernel
theorem dX11_tear_20 : decode cX11_tear 20 = .ok (.iload_n 1, 1) := by decide +kernel
theorem dX11_tear_21 : decode cX11_tear 21 = .ok (.ireturn, 1) := by decide +kernel
theorem dX11_judge_0 : decode cX11_judge 0 = .ok (.iconst (-1), 1) := by decide +kernel
theorem dX11_judge_1 : decode cX11_judge 1 = .ok (.istore_n 1, 1) := by decide +kernel
theorem dX11_judge_2 : decode cX11_judge 2 = .ok (.aload_n 0, 1) := by decide +kernel
theorem dX11_judge_3 : decode cX11_judge 3 = .ok (.getfield 185, 3) := by decide +kernel
theorem dX11_judge_6 : decode cX11_judge 6 = .ok (.iconst 1, 1) := by decide +kernel
theorem dX11_judge_7 : decode cX11_judge 7 = .ok (.isub, 1) := by decide +kernel
theorem dX11_judge_8 : decode cX11_judge 8 = .ok (.istore_n 2, 1) := by decide +kernel
theorem dX11_judge_9 : decode cX11_judge 9 = .ok (.iload_n 2, 1) := by decide +kernel
theorem dX11_judge_10 : decode cX11_judge 10 = .ok (.ifCond .lt 35, 3) := by decide +kernel
theorem dX11_judge_13 : decode cX11_judge 13 = .ok (.aload_n 0, 1) := by decide +kernel
theorem dX11_judge_14 : decode cX11_judge 14 = .ok (.getfield 7, 3) := by decide +kernel
theorem dX11_judge_17 : decode cX11_judge 17 = .ok (.aload_n 0, 1) := by decide +kernel
theorem dX11_judge_18 : decode cX11_judge 18 = .ok (.getfield 25, 3) := by decide +kernel
theorem dX11_judge_21 : decode cX11_judge 21 = .ok (.iload_n 2, 1) := by decide +kernel
theorem dX11_judge_22 : decode cX11_judge 22 = .ok (.iaload, 1) := by decide +kernel
theorem dX11_judge_23 : decode cX11_judge 23 = .ok (.iaload, 1) := by decide +kernel
theorem dX11_judge_24 : decode cX11_judge 24 = .ok (.aload_n 0, 1) := by decide +kernel
theorem dX11_judge_25 : decode cX11_judge 25 = .ok (.getfield 28, 3) := by decide +kernel
theorem dX11_judge_28 : decode cX11_judge 28 = .ok (.iload_n 2, 1) := by decide +kernel
theorem dX11_judge_29 : decode cX11_judge 29 = .ok (.iaload, 1) := by decide +kernel
theorem dX11_judge_30 : decode cX11_judge 30 = .ok (.if_icmp .ne 7, 3) := by decide +kernel
theorem dX11_judge_33 : decode cX11_judge 33 = .ok (.iload_n 1, 1) := by decide +kernel
theorem dX11_judge_34 : decode cX11_judge 34 = .ok (.goto 4, 3) := by decide +kernel
theorem dX11_judge_37 : decode cX11_judge 37 = .ok (.iload_n 2, 1) := by decide +kernel
theorem dX11_judge_38 : decode cX11_judge 38 = .ok (.istore_n 1, 1) := by decide +kernel
theorem dX11_judge_39 : decode cX11_judge 39 = .ok (.iinc 2 (-1), 3) := by decide +kernel
theorem dX11_judge_42 : decode cX11_judge 42 = .ok (.goto (-33), 3) := by decide +kernel
theorem dX11_judge_45 : decode cX11_judge 45 = .ok (.iload_n 1, 1) := by decide +kernel
theorem dX11_judge_46 : decode cX11_judge 46 = .ok (.ireturn, 1) := by decide +kernel
theorem dX11_seed_0 : decode cX11_seed 0 = .ok (.iload_n 1, 1) := by decide +kernel
theorem dX11_seed_1 : decode cX11_seed 1 = .ok (.ifCond .ge 6, 3) := by decide +kernel
theorem dX11_seed_4 : decode cX11_seed 4 = .ok (.ldc 106, 2) := by decide +kernel
theorem dX11_seed_6 : decode cX11_seed 6 = .ok (.ireturn, 1) := by decide +kernel
theorem dX11_seed_7 : decode cX11_seed 7 = .ok (.aload_n 0, 1) := by decide +kernel
theorem dX11_seed_8 : decode cX11_seed 8 = .ok (.getfield 250, 3) := by decide +kernel
theorem dX11_seed_11 : decode cX11_seed 11 = .ok (.l2i, 1) := by decide +kernel
theorem dX11_seed_12 : decode cX11_seed 12 = .ok (.istore_n 2, 1) := by decide +kernel
theorem dX11_seed_13 : decode cX11_seed 13 = .ok (.aload_n 0, 1) := by decide +kernel
theorem dX11_seed_14 : decode cX11_seed 14 = .ok (.iload_n 1, 1) := by decide +kernel
theorem dX11_seed_15 : decode cX11_seed 15 = .ok (.i2l, 1) := by decide +kernel
theorem dX11_seed_16 : decode cX11_seed 16 = .ok (.putfield 250, 3) := by decide +kernel
theorem dX11_seed_19 : decode cX11_seed 19 = .ok (.iload_n 2, 1) := by decide +kernel
theorem dX11_seed_20 : decode cX11_seed 20 = .ok (.ireturn, 1) := by decide +kernel
theorem dX11_keep_0 : decode cX11_keep 0 = .ok (.iload_n 1, 1) := by decide +kernel
theorem dX11_keep_1 : decode cX11_keep 1 = .ok (.iconst 0, 1) := by decide +kernel
theorem dX11_keep_2 : decode cX11_keep 2 = .ok (.iconst 1, 1) := by decide +kernel
theorem dX11_keep_3 : decode cX11_keep 3 = .ok (.invokestatic 84, 3) := by decide +kernel
theorem dX11_keep_6 : decode cX11_keep 6 = .ok (.ifCond .ne 6, 3) := by decide +kernel
theorem dX11_keep_9 : decode cX11_keep 9 = .ok (.ldc 215, 2) := by decide +kernel
theorem dX11_keep_11 : decode cX11_keep 11 = .ok (.ireturn, 1) := by decide +kernel
theorem dX11_keep_12 : decode cX11_keep 12 = .ok (.aload_n 0, 1) := by decide +kernel
theorem dX11_keep_13 : decode cX11_keep 13 = .ok (.aload_n 0, 1) := by decide +kernel
theorem dX11_keep_14 : decode cX11_keep 14 = .ok (.getfield 47, 3) := by decide +kernel
theorem dX11_keep_17 : decode cX11_keep 17 = .ok (.bipush 20, 2) := by decide +kernel
theorem dX11_keep_19 : decode cX11_keep 19 = .ok (.iload_n 1, 1) := by decide +kernel
theorem dX11_keep_20 : decode cX11_keep 20 = .ok (.imul, 1) := by decide +kernel
theorem dX11_keep_21 : decode cX11_keep 21 = .ok (.invokevirtual 222, 3) := by decide +kernel
theorem dX11_keep_24 : decode cX11_keep 24 = .ok (.aload_n 0, 1) := by decide +kernel
theorem dX11_keep_25 : decode cX11_keep 25 = .ok (.getfield 50, 3) := by decide +kernel
theorem dX11_keep_28 : decode cX11_keep 28 = .ok (.iload_n 1, 1) := by decide +kernel
theorem dX11_keep_29 : decode cX11_keep 29 = .ok (.aload_n 0, 1) := by decide +kernel
theorem dX11_keep_30 : decode cX11_keep 30 = .ok (.getfield 250, 3) := by decide +kernel
theorem dX11_keep_33 : decode cX11_keep 33 = .ok (.lastore, 1) := by decide +kernel
theorem dX11_keep_34 : decode cX11_keep 34 = .ok (.aload_n 0, 1) := by decide +kernel
theorem dX11_keep_35 : decode cX11_keep 35 = .ok (.getfield 54, 3) := by decide +kernel
theorem dX11_keep_38 : decode cX11_keep 38 = .ok (.iload_n 1, 1) := by decide +kernel
theorem dX11_keep_39 : decode cX11_keep 39 = .ok (.iconst 1, 1) := by decide +kernel
theorem dX11_keep_40 : decode cX11_keep 40 = .ok (.iastore, 1) := by decide +kernel
theorem dX11_keep_41 : decode cX11_keep 41 = .ok (.aload_n 0, 1) := by decide +kernel
theorem dX11_keep_42 : decode cX11_keep 42 = .ok (.iconst 0, 1) := by decide +kernel
theorem dX11_keep_43 : decode cX11_keep 43 = .ok (.putfield 188, 3) := by decide +kernel
theorem dX11_keep_46 : decode cX11_keep 46 = .ok (.iconst 1, 1) := by decide +kernel
theorem dX11_keep_47 : decode cX11_keep 47 = .ok (.ireturn, 1) := by decide +kernel
theorem dX11_goBack_0 : decode cX11_goBack 0 = .ok (.iload_n 1, 1) := by decide +kernel
theorem dX11_goBack_1 : decode cX11_goBack 1 = .ok (.iconst 0, 1) := by decide +kernel
theorem dX11_goBack_2 : decode cX11_goBack 2 = .ok (.iconst 1, 1) := by decide +kernel
theorem dX11_goBack_3 : decode cX11_goBack 3 = .ok (.invokestatic 84, 3) := by decide +kernel
theorem dX11_goBack_6 : decode cX11_goBack 6 = .ok (.ifCond .ne 6, 3) := by decide +kernel
theorem dX11_goBack_9 : decode cX11_goBack 9 = .ok (.ldc 215, 2) := by decide +kernel
theorem dX11_goBack_11 : decode cX11_goBack 11 = .ok (.ireturn, 1) := by decide +kernel
theorem dX11_goBack_12 : decode cX11_goBack 12 = .ok (.aload_n 0, 1) := by decide +kernel
theorem dX11_goBack_13 : decode cX11_goBack 13 = .ok (.getfield 54, 3) := by decide +kernel
theorem dX11_goBack_16 : decode cX11_goBack 16 = .ok (.iload_n 1, 1) := by decide +kernel
theorem dX11_goBack_17 : decode cX11_goBack 17 = .ok (.iaload, 1) := by decide +kernel
theorem dX11_goBack_18 : decode cX11_goBack 18 = .ok (.ifCond .ne 6, 3) := by decide +kernel
theorem dX11_goBack_21 : decode cX11_goBack 21 = .ok (.ldc 230, 2) := by decide +kernel
theorem dX11_goBack_23 : decode cX11_goBack 23 = .ok (.ireturn, 1) := by decide +kernel
theorem dX11_goBack_24 : decode cX11_goBack 24 = .ok (.aload_n 0, 1) := by decide +kernel
theorem dX11_goBack_25 : decode cX11_goBack 25 = .ok (.aload_n 0, 1) := by decide +kernel
theorem dX11_goBack_26 : decode cX11_goBack 26 = .ok (.getfield 47, 3) := by decide +kernel
theorem dX11_goBack_29 : decode cX11_goBack 29 = .ok (.bipush 20, 2) := by decide +kernel
theorem dX11_goBack_31 : decode cX11_goBack 31 = .ok (.iload_n 1, 1) := by decide +kernel
theorem dX11_goBack_32 : decode cX11_goBack 32 = .ok (.imul, 1) := by decide +kernel
theorem dX11_goBack_33 : decode cX11_goBack 33 = .ok (.invokevirtual 268, 3) := by decide +kernel
theorem dX11_goBack_36 : decode cX11_goBack 36 = .ok (.aload_n 0, 1) := by decide +kernel
theorem dX11_goBack_37 : decode cX11_goBack 37 = .ok (.aload_n 0, 1) := by decide +kernel
theorem dX11_goBack_38 : decode cX11_goBack 38 = .ok (.getfield 50, 3) := by decide +kernel
theorem dX11_goBack_41 : decode cX11_goBack 41 = .ok (.iload_n 1, 1) := by decide +kernel
theorem dX11_goBack_42 : decode cX11_goBack 42 = .ok (.laload, 1) := by decide +kernel
theorem dX11_goBack_43 : decode cX11_goBack 43 = .ok (.putfield 250, 3) := by decide +kernel
theorem dX11_goBack_46 : decode cX11_goBack 46 = .ok (.aload_n 0, 1) := by decide +kernel
theorem dX11_goBack_47 : decode cX11_goBack 47 = .ok (.iconst 0, 1) := by decide +kernel
theorem dX11_goBack_48 : decode cX11_goBack 48 = .ok (.putfield 188, 3) := by decide +kernel
theorem dX11_goBack_51 : decode cX11_goBack 51 = .ok (.iconst 1, 1) := by decide +kernel
theorem dX11_goBack_52 : decode cX11_goBack 52 = .ok (.ireturn, 1) := by decide +kernel
theorem dX11_told_0 : decode cX11_told 0 = .ok (.iload_n 1, 1) := by decide +kernel
theorem dX11_told_1 : decode cX11_told 1 = .ok (.iconst 0, 1) := by decide +kernel
theorem dX11_told_2 : decode cX11_told 2 = .ok (.bipush 13, 2) := by decide +kernel
theorem dX11_told_4 : decode cX11_told 4 = .ok (.invokestatic 84, 3) := by decide +kernel
theorem dX11_told_7 : decode cX11_told 7 = .ok (.ifCond .ne 6, 3) := by decide +kernel
theorem dX11_told_10 : decode cX11_told 10 = .ok (.ldc 106, 2) := by decide +kernel
theorem dX11_told_12 : decode cX11_told 12 = .ok (.ireturn, 1) := by decide +kernel
theorem dX11_told_13 : decode cX11_told 13 = .ok (.iload_n 1, 1) := by decide +kernel
theorem dX11_told_14 : decode cX11_told 14 = .ok (.tableswitch 147 0 12 #[66, 71, 76, 81, 86, 91, 96, 101, 106, 115, 120, 137, 142], 66) := by decide +kernel
theorem dX11_told_80 : decode cX11_told 80 = .ok (.aload_n 0, 1) := by decide +kernel
theorem dX11_told_81 : decode cX11_told 81 = .ok (.getfield 81, 3) := by decide +kernel
theorem dX11_told_84 : decode cX11_told 84 = .ok (.ireturn, 1) := by decide +kernel
theorem dX11_told_85 : decode cX11_told 85 = .ok (.aload_n 0, 1) := by decide +kernel
theorem dX11_told_86 : decode cX11_told 86 = .ok (.getfield 170, 3) := by decide +kernel
theorem dX11_told_89 : decode cX11_told 89 = .ok (.ireturn, 1) := by decide +kernel
theorem dX11_told_90 : decode cX11_told 90 = .ok (.aload_n 0, 1) := by decide +kernel
theorem dX11_told_91 : decode cX11_told 91 = .ok (.getfield 173, 3) := by decide +kernel
theorem dX11_told_94 : decode cX11_told 94 = .ok (.ireturn, 1) := by decide +kernel
theorem dX11_told_95 : decode cX11_told 95 = .ok (.aload_n 0, 1) := by decide +kernel
theorem dX11_told_96 : decode cX11_told 96 = .ok (.getfield 176, 3) := by decide +kernel
theorem dX11_told_99 : decode cX11_told 99 = .ok (.ireturn, 1) := by decide +kernel
theorem dX11_told_100 : decode cX11_told 100 = .ok (.aload_n 0, 1) := by decide +kernel
theorem dX11_told_101 : decode cX11_told 101 = .ok (.getfield 179, 3) := by decide +kernel
theorem dX11_told_104 : decode cX11_told 104 = .ok (.ireturn, 1) := by decide +kernel
theorem dX11_told_105 : decode cX11_told 105 = .ok (.aload_n 0, 1) := by decide +kernel
theorem dX11_told_106 : decode cX11_told 106 = .ok (.getfield 107, 3) := by decide +kernel
theorem dX11_told_109 : decode cX11_told 109 = .ok (.ireturn, 1) := by decide +kernel
theorem dX11_told_110 : decode cX11_told 110 = .ok (.aload_n 0, 1) := by decide +kernel
theorem dX11_told_111 : decode cX11_told 111 = .ok (.invokevirtual 247, 3) := by decide +kernel
theorem dX11_told_114 : decode cX11_told 114 = .ok (.ireturn, 1) := by decide +kernel
theorem dX11_told_115 : decode cX11_told 115 = .ok (.aload_n 0, 1) := by decide +kernel
theorem dX11_told_116 : decode cX11_told 116 = .ok (.invokevirtual 308, 3) := by decide +kernel
theorem dX11_told_119 : decode cX11_told 119 = .ok (.ireturn, 1) := by decide +kernel
theorem dX11_told_120 : decode cX11_told 120 = .ok (.aload_n 0, 1) := by decide +kernel
theorem dX11_told_121 : decode cX11_told 121 = .ok (.invokevirtual 290, 3) := by decide +kernel
theorem dX11_told_124 : decode cX11_told 124 = .ok (.aload_n 0, 1) := by decide +kernel
theorem dX11_told_125 : decode cX11_told 125 = .ok (.getfield 275, 3) := by decide +kernel
theorem dX11_told_128 : decode cX11_told 128 = .ok (.ireturn, 1) := by decide +kernel
theorem dX11_told_129 : decode cX11_told 129 = .ok (.aload_n 0, 1) := by decide +kernel
theorem dX11_told_130 : decode cX11_told 130 = .ok (.invokevirtual 311, 3) := by decide +kernel
theorem dX11_told_133 : decode cX11_told 133 = .ok (.ireturn, 1) := by decide +kernel
theorem dX11_told_134 : decode cX11_told 134 = .ok (.aload_n 0, 1) := by decide +kernel
theorem dX11_told_135 : decode cX11_told 135 = .ok (.aload_n 0, 1) := by decide +kernel
theorem dX11_told_136 : decode cX11_told 136 = .ok (.getfield 170, 3) := by decide +kernel
theorem dX11_told_139 : decode cX11_told 139 = .ok (.aload_n 0, 1) := by decide +kernel
theorem dX11_told_140 : decode cX11_told 140 = .ok (.getfield 16, 3) := by decide +kernel
theorem dX11_told_143 : decode cX11_told 143 = .ok (.aload_n 0, 1) := by decide +kernel
theorem dX11_told_144 : decode cX11_told 144 = .ok (.getfield 19, 3) := by decide +kernel
theorem dX11_told_147 : decode cX11_told 147 = .ok (.invokevirtual 297, 3) := by decide +kernel
theorem dX11_told_150 : decode cX11_told 150 = .ok (.ireturn, 1) := by decide +kernel
theorem dX11_told_151 : decode cX11_told 151 = .ok (.aload_n 0, 1) := by decide +kernel
theorem dX11_told_152 : decode cX11_told 152 = .ok (.getfield 182, 3) := by decide +kernel
theorem dX11_told_155 : decode cX11_told 155 = .ok (.ireturn, 1) := by decide +kernel
theorem dX11_told_156 : decode cX11_told 156 = .ok (.aload_n 0, 1) := by decide +kernel
theorem dX11_told_157 : decode cX11_told 157 = .ok (.getfield 185, 3) := by decide +kernel
theorem dX11_told_160 : decode cX11_told 160 = .ok (.ireturn, 1) := by decide +kernel
theorem dX11_told_161 : decode cX11_told 161 = .ok (.aload_n 0, 1) := by decide +kernel
theorem dX11_told_162 : decode cX11_told 162 = .ok (.getfield 188, 3) := by decide +kernel
theorem dX11_told_165 : decode cX11_told 165 = .ok (.ireturn, 1) := by decide +kernel
theorem dJ6_bitCount_0f7a4_0 : decode cJ6_bitCount_0f7a4 0 = .ok (.iload_n 0, 1) := by decide +kernel
theorem dJ6_bitCount_0f7a4_1 : decode cJ6_bitCount_0f7a4 1 = .ok (.iload_n 0, 1) := by decide +kernel
theorem dJ6_bitCount_0f7a4_2 : decode cJ6_bitCount_0f7a4 2 = .ok (.iconst 1, 1) := by decide +kernel
theorem dJ6_bitCount_0f7a4_3 : decode cJ6_bitCount_0f7a4 3 = .ok (.iushr, 1) := by decide +kernel
theorem dJ6_bitCount_0f7a4_4 : decode cJ6_bitCount_0f7a4 4 = .ok (.ldc_w 265, 3) := by decide +kernel
theorem dJ6_bitCount_0f7a4_7 : decode cJ6_bitCount_0f7a4 7 = .ok (.iand, 1) := by decide +kernel
theorem dJ6_bitCount_0f7a4_8 : decode cJ6_bitCount_0f7a4 8 = .ok (.isub, 1) := by decide +kernel
theorem dJ6_bitCount_0f7a4_9 : decode cJ6_bitCount_0f7a4 9 = .ok (.istore_n 0, 1) := by decide +kernel
theorem dJ6_bitCount_0f7a4_10 : decode cJ6_bitCount_0f7a4 10 = .ok (.iload_n 0, 1) := by decide +kernel
theorem dJ6_bitCount_0f7a4_11 : decode cJ6_bitCount_0f7a4 11 = .ok (.ldc_w 266, 3) := by decide +kernel
theorem dJ6_bitCount_0f7a4_14 : decode cJ6_bitCount_0f7a4 14 = .ok (.iand, 1) := by decide +kernel
theorem dJ6_bitCount_0f7a4_15 : decode cJ6_bitCount_0f7a4 15 = .ok (.iload_n 0, 1) := by decide +kernel
theorem dJ6_bitCount_0f7a4_16 : decode cJ6_bitCount_0f7a4 16 = .ok (.iconst 2, 1) := by decide +kernel
theorem dJ6_bitCount_0f7a4_17 : decode cJ6_bitCount_0f7a4 17 = .ok (.iushr, 1) := by decide +kernel
theorem dJ6_bitCount_0f7a4_18 : decode cJ6_bitCount_0f7a4 18 = .ok (.ldc_w 266, 3) := by decide +kernel
theorem dJ6_bitCount_0f7a4_21 : decode cJ6_bitCount_0f7a4 21 = .ok (.iand, 1) := by decide +kernel
theorem dJ6_bitCount_0f7a4_22 : decode cJ6_bitCount_0f7a4 22 = .ok (.iadd, 1) := by decide +kernel
theorem dJ6_bitCount_0f7a4_23 : decode cJ6_bitCount_0f7a4 23 = .ok (.istore_n 0, 1) := by decide +kernel
theorem dJ6_bitCount_0f7a4_24 : decode cJ6_bitCount_0f7a4 24 = .ok (.iload_n 0, 1) := by decide +kernel
theorem dJ6_bitCount_0f7a4_25 : decode cJ6_bitCount_0f7a4 25 = .ok (.iload_n 0, 1) := by decide +kernel
theorem dJ6_bitCount_0f7a4_26 : decode cJ6_bitCount_0f7a4 26 = .ok (.iconst 4, 1) := by decide +kernel
theorem dJ6_bitCount_0f7a4_27 : decode cJ6_bitCount_0f7a4 27 = .ok (.iushr, 1) := by decide +kernel
theorem dJ6_bitCount_0f7a4_28 : decode cJ6_bitCount_0f7a4 28 = .ok (.iadd, 1) := by decide +kernel
theorem dJ6_bitCount_0f7a4_29 : decode cJ6_bitCount_0f7a4 29 = .ok (.ldc_w 267, 3) := by decide +kernel
theorem dJ6_bitCount_0f7a4_32 : decode cJ6_bitCount_0f7a4 32 = .ok (.iand, 1) := by decide +kernel
theorem dJ6_bitCount_0f7a4_33 : decode cJ6_bitCount_0f7a4 33 = .ok (.istore_n 0, 1) := by decide +kernel
theorem dJ6_bitCount_0f7a4_34 : decode cJ6_bitCount_0f7a4 34 = .ok (.iload_n 0, 1) := by decide +kernel
theorem dJ6_bitCount_0f7a4_35 : decode cJ6_bitCount_0f7a4 35 = .ok (.iload_n 0, 1) := by decide +kernel
theorem dJ6_bitCount_0f7a4_36 : decode cJ6_bitCount_0f7a4 36 = .ok (.bipush 8, 2) := by decide +kernel
theorem dJ6_bitCount_0f7a4_38 : decode cJ6_bitCount_0f7a4 38 = .ok (.iushr, 1) := by decide +kernel
theorem dJ6_bitCount_0f7a4_39 : decode cJ6_bitCount_0f7a4 39 = .ok (.iadd, 1) := by decide +kernel
theorem dJ6_bitCount_0f7a4_40 : decode cJ6_bitCount_0f7a4 40 = .ok (.istore_n 0, 1) := by decide +kernel
theorem dJ6_bitCount_0f7a4_41 : decode cJ6_bitCount_0f7a4 41 = .ok (.iload_n 0, 1) := by decide +kernel
theorem dJ6_bitCount_0f7a4_42 : decode cJ6_bitCount_0f7a4 42 = .ok (.iload_n 0, 1) := by decide +kernel
theorem dJ6_bitCount_0f7a4_43 : decode cJ6_bitCount_0f7a4 43 = .ok (.bipush 16, 2) := by decide +kernel
theorem dJ6_bitCount_0f7a4_45 : decode cJ6_bitCount_0f7a4 45 = .ok (.iushr, 1) := by decide +kernel
theorem dJ6_bitCount_0f7a4_46 : decode cJ6_bitCount_0f7a4 46 = .ok (.iadd, 1) := by decide +kernel
theorem dJ6_bitCount_0f7a4_47 : decode cJ6_bitCount_0f7a4 47 = .ok (.istore_n 0, 1) := by decide +kernel
theorem dJ6_bitCount_0f7a4_48 : decode cJ6_bitCount_0f7a4 48 = .ok (.iload_n 0, 1) := by decide +kernel
theorem dJ6_bitCount_0f7a4_49 : decode cJ6_bitCount_0f7a4 49 = .ok (.bipush 63, 2) := by decide +kernel
theorem dJ6_bitCount_0f7a4_51 : decode cJ6_bitCount_0f7a4 51 = .ok (.iand, 1) := by decide +kernel
theorem dJ6_bitCount_0f7a4_52 : decode cJ6_bitCount_0f7a4 52 = .ok (.ireturn, 1) := by decide +kernel
theorem dJ9_max_7cf53_0 : decode cJ9_max_7cf53 0 = .ok (.iload_n 0, 1) := by decide +kernel
theorem dJ9_max_7cf53_1 : decode cJ9_max_7cf53 1 = .ok (.iload_n 1, 1) := by decide +kernel
theorem dJ9_max_7cf53_2 : decode cJ9_max_7cf53 2 = .ok (.if_icmp .lt 7, 3) := by decide +kernel
theorem dJ9_max_7cf53_5 : decode cJ9_max_7cf53 5 = .ok (.iload_n 0, 1) := by decide +kernel
theorem dJ9_max_7cf53_6 : decode cJ9_max_7cf53 6 = .ok (.goto 4, 3) := by decide +kernel
theorem dJ9_max_7cf53_9 : decode cJ9_max_7cf53 9 = .ok (.iload_n 1, 1) := by decide +kernel
theorem dJ9_max_7cf53_10 : decode cJ9_max_7cf53 10 = .ok (.ireturn, 1) := by decide +kernel
theorem dJ9_min_7cf53_0 : decode cJ9_min_7cf53 0 = .ok (.iload_n 0, 1) := by decide +kernel
theorem dJ9_min_7cf53_1 : decode cJ9_min_7cf53 1 = .ok (.iload_n 1, 1) := by decide +kernel
theorem dJ9_min_7cf53_2 : decode cJ9_min_7cf53 2 = .ok (.if_icmp .gt 7, 3) := by decide +kernel
theorem dJ9_min_7cf53_5 : decode cJ9_min_7cf53 5 = .ok (.iload_n 0, 1) := by decide +kernel
theorem dJ9_min_7cf53_6 : decode cJ9_min_7cf53 6 = .ok (.goto 4, 3) := by decide +kernel
theorem dJ9_min_7cf53_9 : decode cJ9_min_7cf53 9 = .ok (.iload_n 1, 1) := by decide +kernel
theorem dJ9_min_7cf53_10 : decode cJ9_min_7cf53 10 = .ok (.ireturn, 1) := by decide +kernel
theorem dL_law_0 : decode cL_law 0 = .ok (.new 7, 3) := by decide +kernel
theorem dL_law_3 : decode cL_law 3 = .ok (.dup, 1) := by decide +kernel
theorem dL_law_4 : decode cL_law 4 = .ok (.invokespecial 9, 3) := by decide +kernel
theorem dL_law_7 : decode cL_law 7 = .ok (.astore_n 1, 1) := by decide +kernel
theorem dL_law_8 : decode cL_law 8 = .ok (.new 10, 3) := by decide +kernel
theorem dL_law_11 : decode cL_law 11 = .ok (.dup, 1) := by decide +kernel
theorem dL_law_12 : decode cL_law 12 = .ok (.invokespecial 12, 3) := by decide +kernel
theorem dL_law_15 : decode cL_law 15 = .ok (.astore_n 2, 1) := by decide +kernel
theorem dL_law_16 : decode cL_law 16 = .ok (.iconst 0, 1) := by decide +kernel
theorem dL_law_17 : decode cL_law 17 = .ok (.istore_n 3, 1) := by decide +kernel
theorem dL_law_18 : decode cL_law 18 = .ok (.iload_n 3, 1) := by decide +kernel
theorem dL_law_19 : decode cL_law 19 = .ok (.aload_n 0, 1) := by decide +kernel
theorem dL_law_20 : decode cL_law 20 = .ok (.arraylength, 1) := by decide +kernel
theorem dL_law_21 : decode cL_law 21 = .ok (.iconst 4, 1) := by decide +kernel
theorem dL_law_22 : decode cL_law 22 = .ok (.isub, 1) := by decide +kernel
theorem dL_law_23 : decode cL_law 23 = .ok (.if_icmp .gt 882, 3) := by decide +kernel
theorem dL_law_26 : decode cL_law 26 = .ok (.aload_n 0, 1) := by decide +kernel
theorem dL_law_27 : decode cL_law 27 = .ok (.iload_n 3, 1) := by decide +kernel
theorem dL_law_28 : decode cL_law 28 = .ok (.iaload, 1) := by decide +kernel
theorem dL_law_29 : decode cL_law 29 = .ok (.bipush 31, 2) := by decide +kernel
theorem dL_law_31 : decode cL_law 31 = .ok (.iand, 1) := by decide +kernel
theorem dL_law_32 : decode cL_law 32 = .ok (.tableswitch 867 0 26 #[124, 147, 160, 173, 196, 229, 262, 295, 328, 361, 394, 407, 440, 463, 496, 555, 578, 591, 624, 647, 680, 739, 772, 785, 798, 821, 844], 124) := by decide +kernel
theorem dL_law_156 : decode cL_law 156 = .ok (.aload_n 1, 1) := by decide +kernel
theorem dL_law_157 : decode cL_law 157 = .ok (.aload_n 0, 1) := by decide +kernel
theorem dL_law_158 : decode cL_law 158 = .ok (.iload_n 3, 1) := by decide +kernel
theorem dL_law_159 : decode cL_law 159 = .ok (.iconst 1, 1) := by decide +kernel
theorem dL_law_160 : decode cL_law 160 = .ok (.iadd, 1) := by decide +kernel
theorem dL_law_161 : decode cL_law 161 = .ok (.iaload, 1) := by decide +kernel
theorem dL_law_162 : decode cL_law 162 = .ok (.invokevirtual 13, 3) := by decide +kernel
theorem dL_law_165 : decode cL_law 165 = .ok (.aload_n 2, 1) := by decide +kernel
theorem dL_law_166 : decode cL_law 166 = .ok (.aload_n 0, 1) := by decide +kernel
theorem dL_law_167 : decode cL_law 167 = .ok (.iload_n 3, 1) := by decide +kernel
theorem dL_law_168 : decode cL_law 168 = .ok (.iconst 1, 1) := by decide +kernel
theorem dL_law_169 : decode cL_law 169 = .ok (.iadd, 1) := by decide +kernel
theorem dL_law_170 : decode cL_law 170 = .ok (.iaload, 1) := by decide +kernel
theorem dL_law_171 : decode cL_law 171 = .ok (.invokevirtual 17, 3) := by decide +kernel
theorem dL_law_174 : decode cL_law 174 = .ok (.if_icmp .eq 725, 3) := by decide +kernel
theorem dL_law_177 : decode cL_law 177 = .ok (.iconst 0, 1) := by decide +kernel
theorem dL_law_178 : decode cL_law 178 = .ok (.ireturn, 1) := by decide +kernel
theorem dL_law_179 : decode cL_law 179 = .ok (.aload_n 1, 1) := by decide +kernel
theorem dL_law_180 : decode cL_law 180 = .ok (.invokevirtual 18, 3) := by decide +kernel
theorem dL_law_183 : decode cL_law 183 = .ok (.aload_n 2, 1) := by decide +kernel
theorem dL_law_184 : decode cL_law 184 = .ok (.invokevirtual 22, 3) := by decide +kernel
theorem dL_law_187 : decode cL_law 187 = .ok (.if_icmp .eq 712, 3) := by decide +kernel
theorem dL_law_190 : decode cL_law 190 = .ok (.iconst 0, 1) := by decide +kernel
theorem dL_law_191 : decode cL_law 191 = .ok (.ireturn, 1) := by decide +kernel
theorem dL_law_192 : decode cL_law 192 = .ok (.aload_n 1, 1) := by decide +kernel
theorem dL_law_193 : decode cL_law 193 = .ok (.invokevirtual 23, 3) := by decide +kernel
theorem dL_law_196 : decode cL_law 196 = .ok (.aload_n 2, 1) := by decide +kernel
theorem dL_law_197 : decode cL_law 197 = .ok (.invokevirtual 26, 3) := by decide +kernel
theorem dL_law_200 : decode cL_law 200 = .ok (.if_icmp .eq 699, 3) := by decide +kernel
theorem dL_law_203 : decode cL_law 203 = .ok (.iconst 0, 1) := by decide +kernel
theorem dL_law_204 : decode cL_law 204 = .ok (.ireturn, 1) := by decide +kernel
theorem dL_law_205 : decode cL_law 205 = .ok (.aload_n 1, 1) := by decide +kernel
theorem dL_law_206 : decode cL_law 206 = .ok (.aload_n 0, 1) := by decide +kernel
theorem dL_law_207 : decode cL_law 207 = .ok (.iload_n 3, 1) := by decide +kernel
theorem dL_law_208 : decode cL_law 208 = .ok (.iconst 1, 1) := by decide +kernel
theorem dL_law_209 : decode cL_law 209 = .ok (.iadd, 1) := by decide +kernel
theorem dL_law_210 : decode cL_law 210 = .ok (.iaload, 1) := by decide +kernel
theorem dL_law_211 : decode cL_law 211 = .ok (.invokevirtual 27, 3) := by decide +kernel
theorem dL_law_214 : decode cL_law 214 = .ok (.aload_n 2, 1) := by decide +kernel
theorem dL_law_215 : decode cL_law 215 = .ok (.aload_n 0, 1) := by decide +kernel
theorem dL_law_216 : decode cL_law 216 = .ok (.iload_n 3, 1) := by decide +kernel
theorem dL_law_217 : decode cL_law 217 = .ok (.iconst 1, 1) := by decide +kernel
theorem dL_law_218 : decode cL_law 218 = .ok (.iadd, 1) := by decide +kernel
theorem dL_law_219 : decode cL_law 219 = .ok (.iaload, 1) := by decide +kernel
theorem dL_law_220 : decode cL_law 220 = .ok (.invokevirtual 30, 3) := by decide +kernel
theorem dL_law_223 : decode cL_law 223 = .ok (.if_icmp .eq 676, 3) := by decide +kernel
theorem dL_law_226 : decode cL_law 226 = .ok (.iconst 0, 1) := by decide +kernel
theorem dL_law_227 : decode cL_law 227 = .ok (.ireturn, 1) := by decide +kernel
theorem dL_law_228 : decode cL_law 228 = .ok (.aload_n 1, 1) := by decide +kernel
theorem dL_law_229 : decode cL_law 229 = .ok (.aload_n 0, 1) := by decide +kernel
theorem dL_law_230 : decode cL_law 230 = .ok (.iload_n 3, 1) := by decide +kernel
theorem dL_law_231 : decode cL_law 231 = .ok (.iconst 1, 1) := by decide +kernel
theorem dL_law_232 : decode cL_law 232 = .ok (.iadd, 1) := by decide +kernel
theorem dL_law_233 : decode cL_law 233 = .ok (.iaload, 1) := by decide +kernel
theorem dL_law_234 : decode cL_law 234 = .ok (.aload_n 0, 1) := by decide +kernel
theorem dL_law_235 : decode cL_law 235 = .ok (.iload_n 3, 1) := by decide +kernel
theorem dL_law_236 : decode cL_law 236 = .ok (.iconst 2, 1) := by decide +kernel
theorem dL_law_237 : decode cL_law 237 = .ok (.iadd, 1) := by decide +kernel
theorem dL_law_238 : decode cL_law 238 = .ok (.iaload, 1) := by decide +kernel
theorem dL_law_239 : decode cL_law 239 = .ok (.invokevirtual 31, 3) := by decide +kernel
theorem dL_law_242 : decode cL_law 242 = .ok (.aload_n 2, 1) := by decide +kernel
theorem dL_law_243 : decode cL_law 243 = .ok (.aload_n 0, 1) := by decide +kernel
theorem dL_law_244 : decode cL_law 244 = .ok (.iload_n 3, 1) := by decide +kernel
theorem dL_law_245 : decode cL_law 245 = .ok (.iconst 1, 1) := by decide +kernel
theorem dL_law_246 : decode cL_law 246 = .ok (.iadd, 1) := by decide +kernel
theorem dL_law_247 : decode cL_law 247 = .ok (.iaload, 1) := by decide +kernel
theorem dL_law_248 : decode cL_law 248 = .ok (.aload_n 0, 1) := by decide +kernel
theorem dL_law_249 : decode cL_law 249 = .ok (.iload_n 3, 1) := by decide +kernel
theorem dL_law_250 : decode cL_law 250 = .ok (.iconst 2, 1) := by decide +kernel
theorem dL_law_251 : decode cL_law 251 = .ok (.iadd, 1) := by decide +kernel
theorem dL_law_252 : decode cL_law 252 = .ok (.iaload, 1) := by decide +kernel
theorem dL_law_253 : decode cL_law 253 = .ok (.invokevirtual 35, 3) := by decide +kernel
theorem dL_law_256 : decode cL_law 256 = .ok (.if_icmp .eq 643, 3) := by decide +kernel
theorem dL_law_259 : decode cL_law 259 = .ok (.iconst 0, 1) := by decide +kernel
theorem dL_law_260 : decode cL_law 260 = .ok (.ireturn, 1) := by decide +kernel
theorem dL_law_261 : decode cL_law 261 = .ok (.aload_n 1, 1) := by decide +kernel
theorem dL_law_262 : decode cL_law 262 = .ok (.aload_n 0, 1) := by decide +kernel
theorem dL_law_263 : decode cL_law 263 = .ok (.iload_n 3, 1) := by decide +kernel
theorem dL_law_264 : decode cL_law 264 = .ok (.iconst 1, 1) := by decide +kernel
theorem dL_law_265 : decode cL_law 265 = .ok (.iadd, 1) := by decide +kernel
theorem dL_law_266 : decode cL_law 266 = .ok (.iaload, 1) := by decide +kernel
theorem dL_law_267 : decode cL_law 267 = .ok (.aload_n 0, 1) := by decide +kernel
theorem dL_law_268 : decode cL_law 268 = .ok (.iload_n 3, 1) := by decide +kernel
theorem dL_law_269 : decode cL_law 269 = .ok (.iconst 2, 1) := by decide +kernel
theorem dL_law_270 : decode cL_law 270 = .ok (.iadd, 1) := by decide +kernel
theorem dL_law_271 : decode cL_law 271 = .ok (.iaload, 1) := by decide +kernel
theorem dL_law_272 : decode cL_law 272 = .ok (.invokevirtual 36, 3) := by decide +kernel
theorem dL_law_275 : decode cL_law 275 = .ok (.aload_n 2, 1) := by decide +kernel
theorem dL_law_276 : decode cL_law 276 = .ok (.aload_n 0, 1) := by decide +kernel
theorem dL_law_277 : decode cL_law 277 = .ok (.iload_n 3, 1) := by decide +kernel
theorem dL_law_278 : decode cL_law 278 = .ok (.iconst 1, 1) := by decide +kernel
theorem dL_law_279 : decode cL_law 279 = .ok (.iadd, 1) := by decide +kernel
theorem dL_law_280 : decode cL_law 280 = .ok (.iaload, 1) := by decide +kernel
theorem dL_law_281 : decode cL_law 281 = .ok (.aload_n 0, 1) := by decide +kernel
theorem dL_law_282 : decode cL_law 282 = .ok (.iload_n 3, 1) := by decide +kernel
theorem dL_law_283 : decode cL_law 283 = .ok (.iconst 2, 1) := by decide +kernel
theorem dL_law_284 : decode cL_law 284 = .ok (.iadd, 1) := by decide +kernel
theorem dL_law_285 : decode cL_law 285 = .ok (.iaload, 1) := by decide +kernel
theorem dL_law_286 : decode cL_law 286 = .ok (.invokevirtual 39, 3) := by decide +kernel
theorem dL_law_289 : decode cL_law 289 = .ok (.if_icmp .eq 610, 3) := by decide +kernel
theorem dL_law_292 : decode cL_law 292 = .ok (.iconst 0, 1) := by decide +kernel
theorem dL_law_293 : decode cL_law 293 = .ok (.ireturn, 1) := by decide +kernel
theorem dL_law_294 : decode cL_law 294 = .ok (.aload_n 1, 1) := by decide +kernel
theorem dL_law_295 : decode cL_law 295 = .ok (.aload_n 0, 1) := by decide +kernel
theorem dL_law_296 : decode cL_law 296 = .ok (.iload_n 3, 1) := by decide +kernel
theorem dL_law_297 : decode cL_law 297 = .ok (.iconst 1, 1) := by decide +kernel
theorem dL_law_298 : decode cL_law 298 = .ok (.iadd, 1) := by decide +kernel
theorem dL_law_299 : decode cL_law 299 = .ok (.iaload, 1) := by decide +kernel
theorem dL_law_300 : decode cL_law 300 = .ok (.aload_n 0, 1) := by decide +kernel
theorem dL_law_301 : decode cL_law 301 = .ok (.iload_n 3, 1) := by decide +kernel
theorem dL_law_302 : decode cL_law 302 = .ok (.iconst 2, 1) := by decide +kernel
theorem dL_law_303 : decode cL_law 303 = .ok (.iadd, 1) := by decide +kernel
theorem dL_law_304 : decode cL_law 304 = .ok (.iaload, 1) := by decide +kernel
theorem dL_law_305 : decode cL_law 305 = .ok (.invokevirtual 40, 3) := by decide +kernel
theorem dL_law_308 : decode cL_law 308 = .ok (.aload_n 2, 1) := by decide +kernel
theorem dL_law_309 : decode cL_law 309 = .ok (.aload_n 0, 1) := by decide +kernel
theorem dL_law_310 : decode cL_law 310 = .ok (.iload_n 3, 1) := by decide +kernel
theorem dL_law_311 : decode cL_law 311 = .ok (.iconst 1, 1) := by decide +kernel
theorem dL_law_312 : decode cL_law 312 = .ok (.iadd, 1) := by decide +kernel
theorem dL_law_313 : decode cL_law 313 = .ok (.iaload, 1) := by decide +kernel
theorem dL_law_314 : decode cL_law 314 = .ok (.aload_n 0, 1) := by decide +kernel
theorem dL_law_315 : decode cL_law 315 = .ok (.iload_n 3, 1) := by decide +kernel
theorem dL_law_316 : decode cL_law 316 = .ok (.iconst 2, 1) := by decide +kernel
theorem dL_law_317 : decode cL_law 317 = .ok (.iadd, 1) := by decide +kernel
theorem dL_law_318 : decode cL_law 318 = .ok (.iaload, 1) := by decide +kernel
theorem dL_law_319 : decode cL_law 319 = .ok (.invokevirtual 43, 3) := by decide +kernel
theorem dL_law_322 : decode cL_law 322 = .ok (.if_icmp .eq 577, 3) := by decide +kernel
theorem dL_law_325 : decode cL_law 325 = .ok (.iconst 0, 1) := by decide +kernel
theorem dL_law_326 : decode cL_law 326 = .ok (.ireturn, 1) := by decide +kernel
theorem dL_law_327 : decode cL_law 327 = .ok (.aload_n 1, 1) := by decide +kernel
theorem dL_law_328 : decode cL_law 328 = .ok (.aload_n 0, 1) := by decide +kernel
theorem dL_law_329 : decode cL_law 329 = .ok (.iload_n 3, 1) := by decide +kernel
theorem dL_law_330 : decode cL_law 330 = .ok (.iconst 1, 1) := by decide +kernel
theorem dL_law_331 : decode cL_law 331 = .ok (.iadd, 1) := by decide +kernel
theorem dL_law_332 : decode cL_law 332 = .ok (.iaload, 1) := by decide +kernel
theorem dL_law_333 : decode cL_law 333 = .ok (.aload_n 0, 1) := by decide +kernel
theorem dL_law_334 : decode cL_law 334 = .ok (.iload_n 3, 1) := by decide +kernel
theorem dL_law_335 : decode cL_law 335 = .ok (.iconst 2, 1) := by decide +kernel
theorem dL_law_336 : decode cL_law 336 = .ok (.iadd, 1) := by decide +kernel
theorem dL_law_337 : decode cL_law 337 = .ok (.iaload, 1) := by decide +kernel
theorem dL_law_338 : decode cL_law 338 = .ok (.invokevirtual 44, 3) := by decide +kernel
theorem dL_law_341 : decode cL_law 341 = .ok (.aload_n 2, 1) := by decide +kernel
theorem dL_law_342 : decode cL_law 342 = .ok (.aload_n 0, 1) := by decide +kernel
theorem dL_law_343 : decode cL_law 343 = .ok (.iload_n 3, 1) := by decide +kernel
theorem dL_law_344 : decode cL_law 344 = .ok (.iconst 1, 1) := by decide +kernel
theorem dL_law_345 : decode cL_law 345 = .ok (.iadd, 1) := by decide +kernel
theorem dL_law_346 : decode cL_law 346 = .ok (.iaload, 1) := by decide +kernel
theorem dL_law_347 : decode cL_law 347 = .ok (.aload_n 0, 1) := by decide +kernel
theorem dL_law_348 : decode cL_law 348 = .ok (.iload_n 3, 1) := by decide +kernel
theorem dL_law_349 : decode cL_law 349 = .ok (.iconst 2, 1) := by decide +kernel
theorem dL_law_350 : decode cL_law 350 = .ok (.iadd, 1) := by decide +kernel
theorem dL_law_351 : decode cL_law 351 = .ok (.iaload, 1) := by decide +kernel
theorem dL_law_352 : decode cL_law 352 = .ok (.invokevirtual 47, 3) := by decide +kernel
theorem dL_law_355 : decode cL_law 355 = .ok (.if_icmp .eq 544, 3) := by decide +kernel
theorem dL_law_358 : decode cL_law 358 = .ok (.iconst 0, 1) := by decide +kernel
theorem dL_law_359 : decode cL_law 359 = .ok (.ireturn, 1) := by decide +kernel
theorem dL_law_360 : decode cL_law 360 = .ok (.aload_n 1, 1) := by decide +kernel
theorem dL_law_361 : decode cL_law 361 = .ok (.aload_n 0, 1) := by decide +kernel
theorem dL_law_362 : decode cL_law 362 = .ok (.iload_n 3, 1) := by decide +kernel
theorem dL_law_363 : decode cL_law 363 = .ok (.iconst 1, 1) := by decide +kernel
theorem dL_law_364 : decode cL_law 364 = .ok (.iadd, 1) := by decide +kernel
theorem dL_law_365 : decode cL_law 365 = .ok (.iaload, 1) := by decide +kernel
theorem dL_law_366 : decode cL_law 366 = .ok (.aload_n 0, 1) := by decide +kernel
theorem dL_law_367 : decode cL_law 367 = .ok (.iload_n 3, 1) := by decide +kernel
theorem dL_law_368 : decode cL_law 368 = .ok (.iconst 2, 1) := by decide +kernel
theorem dL_law_369 : decode cL_law 369 = .ok (.iadd, 1) := by decide +kernel
theorem dL_law_370 : decode cL_law 370 = .ok (.iaload, 1) := by decide +kernel
theorem dL_law_371 : decode cL_law 371 = .ok (.invokevirtual 48, 3) := by decide +kernel
theorem dL_law_374 : decode cL_law 374 = .ok (.aload_n 2, 1) := by decide +kernel
theorem dL_law_375 : decode cL_law 375 = .ok (.aload_n 0, 1) := by decide +kernel
theorem dL_law_376 : decode cL_law 376 = .ok (.iload_n 3, 1) := by decide +kernel
theorem dL_law_377 : decode cL_law 377 = .ok (.iconst 1, 1) := by decide +kernel
theorem dL_law_378 : decode cL_law 378 = .ok (.iadd, 1) := by decide +kernel
theorem dL_law_379 : decode cL_law 379 = .ok (.iaload, 1) := by decide +kernel
theorem dL_law_380 : decode cL_law 380 = .ok (.aload_n 0, 1) := by decide +kernel
theorem dL_law_381 : decode cL_law 381 = .ok (.iload_n 3, 1) := by decide +kernel
theorem dL_law_382 : decode cL_law 382 = .ok (.iconst 2, 1) := by decide +kernel
theorem dL_law_383 : decode cL_law 383 = .ok (.iadd, 1) := by decide +kernel
theorem dL_law_384 : decode cL_law 384 = .ok (.iaload, 1) := by decide +kernel
theorem dL_law_385 : decode cL_law 385 = .ok (.invokevirtual 51, 3) := by decide +kernel
theorem dL_law_388 : decode cL_law 388 = .ok (.if_icmp .eq 511, 3) := by decide +kernel
theorem dL_law_391 : decode cL_law 391 = .ok (.iconst 0, 1) := by decide +kernel
theorem dL_law_392 : decode cL_law 392 = .ok (.ireturn, 1) := by decide +kernel
theorem dL_law_393 : decode cL_law 393 = .ok (.aload_n 1, 1) := by decide +kernel
theorem dL_law_394 : decode cL_law 394 = .ok (.aload_n 0, 1) := by decide +kernel
theorem dL_law_395 : decode cL_law 395 = .ok (.iload_n 3, 1) := by decide +kernel
theorem dL_law_396 : decode cL_law 396 = .ok (.iconst 1, 1) := by decide +kernel
theorem dL_law_397 : decode cL_law 397 = .ok (.iadd, 1) := by decide +kernel
theorem dL_law_398 : decode cL_law 398 = .ok (.iaload, 1) := by decide +kernel
theorem dL_law_399 : decode cL_law 399 = .ok (.aload_n 0, 1) := by decide +kernel
theorem dL_law_400 : decode cL_law 400 = .ok (.iload_n 3, 1) := by decide +kernel
theorem dL_law_401 : decode cL_law 401 = .ok (.iconst 2, 1) := by decide +kernel
theorem dL_law_402 : decode cL_law 402 = .ok (.iadd, 1) := by decide +kernel
theorem dL_law_403 : decode cL_law 403 = .ok (.iaload, 1) := by decide +kernel
theorem dL_law_404 : decode cL_law 404 = .ok (.invokevirtual 52, 3) := by decide +kernel
theorem dL_law_407 : decode cL_law 407 = .ok (.aload_n 2, 1) := by decide +kernel
theorem dL_law_408 : decode cL_law 408 = .ok (.aload_n 0, 1) := by decide +kernel
theorem dL_law_409 : decode cL_law 409 = .ok (.iload_n 3, 1) := by decide +kernel
theorem dL_law_410 : decode cL_law 410 = .ok (.iconst 1, 1) := by decide +kernel
theorem dL_law_411 : decode cL_law 411 = .ok (.iadd, 1) := by decide +kernel
theorem dL_law_412 : decode cL_law 412 = .ok (.iaload, 1) := by decide +kernel
theorem dL_law_413 : decode cL_law 413 = .ok (.aload_n 0, 1) := by decide +kernel
theorem dL_law_414 : decode cL_law 414 = .ok (.iload_n 3, 1) := by decide +kernel
theorem dL_law_415 : decode cL_law 415 = .ok (.iconst 2, 1) := by decide +kernel
theorem dL_law_416 : decode cL_law 416 = .ok (.iadd, 1) := by decide +kernel
theorem dL_law_417 : decode cL_law 417 = .ok (.iaload, 1) := by decide +kernel
theorem dL_law_418 : decode cL_law 418 = .ok (.invokevirtual 55, 3) := by decide +kernel
theorem dL_law_421 : decode cL_law 421 = .ok (.if_icmp .eq 478, 3) := by decide +kernel
theorem dL_law_424 : decode cL_law 424 = .ok (.iconst 0, 1) := by decide +kernel
theorem dL_law_425 : decode cL_law 425 = .ok (.ireturn, 1) := by decide +kernel
theorem dL_law_426 : decode cL_law 426 = .ok (.aload_n 1, 1) := by decide +kernel
theorem dL_law_427 : decode cL_law 427 = .ok (.invokevirtual 56, 3) := by decide +kernel
theorem dL_law_430 : decode cL_law 430 = .ok (.aload_n 2, 1) := by decide +kernel
theorem dL_law_431 : decode cL_law 431 = .ok (.invokevirtual 59, 3) := by decide +kernel
theorem dL_law_434 : decode cL_law 434 = .ok (.if_icmp .eq 465, 3) := by decide +kernel
theorem dL_law_437 : decode cL_law 437 = .ok (.iconst 0, 1) := by decide +kernel
theorem dL_law_438 : decode cL_law 438 = .ok (.ireturn, 1) := by decide +kernel
theorem dL_law_439 : decode cL_law 439 = .ok (.aload_n 1, 1) := by decide +kernel
theorem dL_law_440 : decode cL_law 440 = .ok (.aload_n 0, 1) := by decide +kernel
theorem dL_law_441 : decode cL_law 441 = .ok (.iload_n 3, 1) := by decide +kernel
theorem dL_law_442 : decode cL_law 442 = .ok (.iconst 1, 1) := by decide +kernel
theorem dL_law_443 : decode cL_law 443 = .ok (.iadd, 1) := by decide +kernel
theorem dL_law_444 : decode cL_law 444 = .ok (.iaload, 1) := by decide +kernel
theorem dL_law_445 : decode cL_law 445 = .ok (.aload_n 0, 1) := by decide +kernel
theorem dL_law_446 : decode cL_law 446 = .ok (.iload_n 3, 1) := by decide +kernel
theorem dL_law_447 : decode cL_law 447 = .ok (.iconst 2, 1) := by decide +kernel
theorem dL_law_448 : decode cL_law 448 = .ok (.iadd, 1) := by decide +kernel
theorem dL_law_449 : decode cL_law 449 = .ok (.iaload, 1) := by decide +kernel
theorem dL_law_450 : decode cL_law 450 = .ok (.invokevirtual 60, 3) := by decide +kernel
theorem dL_law_453 : decode cL_law 453 = .ok (.aload_n 2, 1) := by decide +kernel
theorem dL_law_454 : decode cL_law 454 = .ok (.aload_n 0, 1) := by decide +kernel
theorem dL_law_455 : decode cL_law 455 = .ok (.iload_n 3, 1) := by decide +kernel
theorem dL_law_456 : decode cL_law 456 = .ok (.iconst 1, 1) := by decide +kernel
theorem dL_law_457 : decode cL_law 457 = .ok (.iadd, 1) := by decide +kernel
theorem dL_law_458 : decode cL_law 458 = .ok (.iaload, 1) := by decide +kernel
theorem dL_law_459 : decode cL_law 459 = .ok (.aload_n 0, 1) := by decide +kernel
theorem dL_law_460 : decode cL_law 460 = .ok (.iload_n 3, 1) := by decide +kernel
theorem dL_law_461 : decode cL_law 461 = .ok (.iconst 2, 1) := by decide +kernel
theorem dL_law_462 : decode cL_law 462 = .ok (.iadd, 1) := by decide +kernel
theorem dL_law_463 : decode cL_law 463 = .ok (.iaload, 1) := by decide +kernel
theorem dL_law_464 : decode cL_law 464 = .ok (.invokevirtual 63, 3) := by decide +kernel
theorem dL_law_467 : decode cL_law 467 = .ok (.if_icmp .eq 432, 3) := by decide +kernel
theorem dL_law_470 : decode cL_law 470 = .ok (.iconst 0, 1) := by decide +kernel
theorem dL_law_471 : decode cL_law 471 = .ok (.ireturn, 1) := by decide +kernel
theorem dL_law_472 : decode cL_law 472 = .ok (.aload_n 1, 1) := by decide +kernel
theorem dL_law_473 : decode cL_law 473 = .ok (.aload_n 0, 1) := by decide +kernel
theorem dL_law_474 : decode cL_law 474 = .ok (.iload_n 3, 1) := by decide +kernel
theorem dL_law_475 : decode cL_law 475 = .ok (.iconst 1, 1) := by decide +kernel
theorem dL_law_476 : decode cL_law 476 = .ok (.iadd, 1) := by decide +kernel
theorem dL_law_477 : decode cL_law 477 = .ok (.iaload, 1) := by decide +kernel
theorem dL_law_478 : decode cL_law 478 = .ok (.invokevirtual 64, 3) := by decide +kernel
theorem dL_law_481 : decode cL_law 481 = .ok (.aload_n 2, 1) := by decide +kernel
theorem dL_law_482 : decode cL_law 482 = .ok (.aload_n 0, 1) := by decide +kernel
theorem dL_law_483 : decode cL_law 483 = .ok (.iload_n 3, 1) := by decide +kernel
theorem dL_law_484 : decode cL_law 484 = .ok (.iconst 1, 1) := by decide +kernel
theorem dL_law_485 : decode cL_law 485 = .ok (.iadd, 1) := by decide +kernel
theorem dL_law_486 : decode cL_law 486 = .ok (.iaload, 1) := by decide +kernel
theorem dL_law_487 : decode cL_law 487 = .ok (.invokevirtual 67, 3) := by decide +kernel
theorem dL_law_490 : decode cL_law 490 = .ok (.if_icmp .eq 409, 3) := by decide +kernel
theorem dL_law_493 : decode cL_law 493 = .ok (.iconst 0, 1) := by decide +kernel
theorem dL_law_494 : decode cL_law 494 = .ok (.ireturn, 1) := by decide +kernel
theorem dL_law_495 : decode cL_law 495 = .ok (.aload_n 1, 1) := by decide +kernel
theorem dL_law_496 : decode cL_law 496 = .ok (.aload_n 0, 1) := by decide +kernel
theorem dL_law_497 : decode cL_law 497 = .ok (.iload_n 3, 1) := by decide +kernel
theorem dL_law_498 : decode cL_law 498 = .ok (.iconst 1, 1) := by decide +kernel
theorem dL_law_499 : decode cL_law 499 = .ok (.iadd, 1) := by decide +kernel
theorem dL_law_500 : decode cL_law 500 = .ok (.iaload, 1) := by decide +kernel
theorem dL_law_501 : decode cL_law 501 = .ok (.aload_n 0, 1) := by decide +kernel
theorem dL_law_502 : decode cL_law 502 = .ok (.iload_n 3, 1) := by decide +kernel
theorem dL_law_503 : decode cL_law 503 = .ok (.iconst 2, 1) := by decide +kernel
theorem dL_law_504 : decode cL_law 504 = .ok (.iadd, 1) := by decide +kernel
theorem dL_law_505 : decode cL_law 505 = .ok (.iaload, 1) := by decide +kernel
theorem dL_law_506 : decode cL_law 506 = .ok (.invokevirtual 68, 3) := by decide +kernel
theorem dL_law_509 : decode cL_law 509 = .ok (.aload_n 2, 1) := by decide +kernel
theorem dL_law_510 : decode cL_law 510 = .ok (.aload_n 0, 1) := by decide +kernel
theorem dL_law_511 : decode cL_law 511 = .ok (.iload_n 3, 1) := by decide +kernel
theorem dL_law_512 : decode cL_law 512 = .ok (.iconst 1, 1) := by decide +kernel
theorem dL_law_513 : decode cL_law 513 = .ok (.iadd, 1) := by decide +kernel
theorem dL_law_514 : decode cL_law 514 = .ok (.iaload, 1) := by decide +kernel
theorem dL_law_515 : decode cL_law 515 = .ok (.aload_n 0, 1) := by decide +kernel
theorem dL_law_516 : decode cL_law 516 = .ok (.iload_n 3, 1) := by decide +kernel
theorem dL_law_517 : decode cL_law 517 = .ok (.iconst 2, 1) := by decide +kernel
theorem dL_law_518 : decode cL_law 518 = .ok (.iadd, 1) := by decide +kernel
theorem dL_law_519 : decode cL_law 519 = .ok (.iaload, 1) := by decide +kernel
theorem dL_law_520 : decode cL_law 520 = .ok (.invokevirtual 71, 3) := by decide +kernel
theorem dL_law_523 : decode cL_law 523 = .ok (.if_icmp .eq 376, 3) := by decide +kernel
theorem dL_law_526 : decode cL_law 526 = .ok (.iconst 0, 1) := by decide +kernel
theorem dL_law_527 : decode cL_law 527 = .ok (.ireturn, 1) := by decide +kernel
theorem dL_law_528 : decode cL_law 528 = .ok (.aload_n 1, 1) := by decide +kernel
theorem dL_law_529 : decode cL_law 529 = .ok (.aload_n 0, 1) := by decide +kernel
theorem dL_law_530 : decode cL_law 530 = .ok (.iload_n 3, 1) := by decide +kernel
theorem dL_law_531 : decode cL_law 531 = .ok (.iconst 1, 1) := by decide +kernel
theorem dL_law_532 : decode cL_law 532 = .ok (.iadd, 1) := by decide +kernel
theorem dL_law_533 : decode cL_law 533 = .ok (.iaload, 1) := by decide +kernel
theorem dL_law_534 : decode cL_law 534 = .ok (.aload_n 0, 1) := by decide +kernel
theorem dL_law_535 : decode cL_law 535 = .ok (.iload_n 3, 1) := by decide +kernel
theorem dL_law_536 : decode cL_law 536 = .ok (.iconst 2, 1) := by decide +kernel
theorem dL_law_537 : decode cL_law 537 = .ok (.iadd, 1) := by decide +kernel
theorem dL_law_538 : decode cL_law 538 = .ok (.iaload, 1) := by decide +kernel
theorem dL_law_539 : decode cL_law 539 = .ok (.aload_n 0, 1) := by decide +kernel
theorem dL_law_540 : decode cL_law 540 = .ok (.iload_n 3, 1) := by decide +kernel
theorem dL_law_541 : decode cL_law 541 = .ok (.iconst 3, 1) := by decide +kernel
theorem dL_law_542 : decode cL_law 542 = .ok (.iadd, 1) := by decide +kernel
theorem dL_law_543 : decode cL_law 543 = .ok (.iaload, 1) := by decide +kernel
theorem dL_law_544 : decode cL_law 544 = .ok (.ifCond .eq 7, 3) := by decide +kernel
theorem dL_law_547 : decode cL_law 547 = .ok (.iconst 1, 1) := by decide +kernel
theorem dL_law_548 : decode cL_law 548 = .ok (.goto 4, 3) := by decide +kernel
theorem dL_law_551 : decode cL_law 551 = .ok (.iconst 0, 1) := by decide +kernel
theorem dL_law_552 : decode cL_law 552 = .ok (.invokevirtual 72, 3) := by decide +kernel
theorem dL_law_555 : decode cL_law 555 = .ok (.aload_n 2, 1) := by decide +kernel
theorem dL_law_556 : decode cL_law 556 = .ok (.aload_n 0, 1) := by decide +kernel
theorem dL_law_557 : decode cL_law 557 = .ok (.iload_n 3, 1) := by decide +kernel
theorem dL_law_558 : decode cL_law 558 = .ok (.iconst 1, 1) := by decide +kernel
theorem dL_law_559 : decode cL_law 559 = .ok (.iadd, 1) := by decide +kernel
theorem dL_law_560 : decode cL_law 560 = .ok (.iaload, 1) := by decide +kernel
theorem dL_law_561 : decode cL_law 561 = .ok (.aload_n 0, 1) := by decide +kernel
theorem dL_law_562 : decode cL_law 562 = .ok (.iload_n 3, 1) := by decide +kernel
theorem dL_law_563 : decode cL_law 563 = .ok (.iconst 2, 1) := by decide +kernel
theorem dL_law_564 : decode cL_law 564 = .ok (.iadd, 1) := by decide +kernel
theorem dL_law_565 : decode cL_law 565 = .ok (.iaload, 1) := by decide +kernel
theorem dL_law_566 : decode cL_law 566 = .ok (.aload_n 0, 1) := by decide +kernel
theorem dL_law_567 : decode cL_law 567 = .ok (.iload_n 3, 1) := by decide +kernel
theorem dL_law_568 : decode cL_law 568 = .ok (.iconst 3, 1) := by decide +kernel
theorem dL_law_569 : decode cL_law 569 = .ok (.iadd, 1) := by decide +kernel
theorem dL_law_570 : decode cL_law 570 = .ok (.iaload, 1) := by decide +kernel
theorem dL_law_571 : decode cL_law 571 = .ok (.ifCond .eq 7, 3) := by decide +kernel
theorem dL_law_574 : decode cL_law 574 = .ok (.iconst 1, 1) := by decide +kernel
theorem dL_law_575 : decode cL_law 575 = .ok (.goto 4, 3) := by decide +kernel
theorem dL_law_578 : decode cL_law 578 = .ok (.iconst 0, 1) := by decide +kernel
theorem dL_law_579 : decode cL_law 579 = .ok (.invokevirtual 76, 3) := by decide +kernel
theorem dL_law_582 : decode cL_law 582 = .ok (.if_icmp .eq 317, 3) := by decide +kernel
theorem dL_law_585 : decode cL_law 585 = .ok (.iconst 0, 1) := by decide +kernel
theorem dL_law_586 : decode cL_law 586 = .ok (.ireturn, 1) := by decide +kernel
theorem dL_law_587 : decode cL_law 587 = .ok (.aload_n 1, 1) := by decide +kernel
theorem dL_law_588 : decode cL_law 588 = .ok (.aload_n 0, 1) := by decide +kernel
theorem dL_law_589 : decode cL_law 589 = .ok (.iload_n 3, 1) := by decide +kernel
theorem dL_law_590 : decode cL_law 590 = .ok (.iconst 1, 1) := by decide +kernel
theorem dL_law_591 : decode cL_law 591 = .ok (.iadd, 1) := by decide +kernel
theorem dL_law_592 : decode cL_law 592 = .ok (.iaload, 1) := by decide +kernel
theorem dL_law_593 : decode cL_law 593 = .ok (.invokevirtual 77, 3) := by decide +kernel
theorem dL_law_596 : decode cL_law 596 = .ok (.aload_n 2, 1) := by decide +kernel
theorem dL_law_597 : decode cL_law 597 = .ok (.aload_n 0, 1) := by decide +kernel
theorem dL_law_598 : decode cL_law 598 = .ok (.iload_n 3, 1) := by decide +kernel
theorem dL_law_599 : decode cL_law 599 = .ok (.iconst 1, 1) := by decide +kernel
theorem dL_law_600 : decode cL_law 600 = .ok (.iadd, 1) := by decide +kernel
theorem dL_law_601 : decode cL_law 601 = .ok (.iaload, 1) := by decide +kernel
theorem dL_law_602 : decode cL_law 602 = .ok (.invokevirtual 80, 3) := by decide +kernel
theorem dL_law_605 : decode cL_law 605 = .ok (.if_icmp .eq 294, 3) := by decide +kernel
theorem dL_law_608 : decode cL_law 608 = .ok (.iconst 0, 1) := by decide +kernel
theorem dL_law_609 : decode cL_law 609 = .ok (.ireturn, 1) := by decide +kernel
theorem dL_law_610 : decode cL_law 610 = .ok (.aload_n 1, 1) := by decide +kernel
theorem dL_law_611 : decode cL_law 611 = .ok (.invokevirtual 81, 3) := by decide +kernel
theorem dL_law_614 : decode cL_law 614 = .ok (.aload_n 2, 1) := by decide +kernel
theorem dL_law_615 : decode cL_law 615 = .ok (.invokevirtual 84, 3) := by decide +kernel
theorem dL_law_618 : decode cL_law 618 = .ok (.if_icmp .eq 281, 3) := by decide +kernel
theorem dL_law_621 : decode cL_law 621 = .ok (.iconst 0, 1) := by decide +kernel
theorem dL_law_622 : decode cL_law 622 = .ok (.ireturn, 1) := by decide +kernel
theorem dL_law_623 : decode cL_law 623 = .ok (.aload_n 1, 1) := by decide +kernel
theorem dL_law_624 : decode cL_law 624 = .ok (.aload_n 0, 1) := by decide +kernel
theorem dL_law_625 : decode cL_law 625 = .ok (.iload_n 3, 1) := by decide +kernel
theorem dL_law_626 : decode cL_law 626 = .ok (.iconst 1, 1) := by decide +kernel
theorem dL_law_627 : decode cL_law 627 = .ok (.iadd, 1) := by decide +kernel
theorem dL_law_628 : decode cL_law 628 = .ok (.iaload, 1) := by decide +kernel
theorem dL_law_629 : decode cL_law 629 = .ok (.aload_n 0, 1) := by decide +kernel
theorem dL_law_630 : decode cL_law 630 = .ok (.iload_n 3, 1) := by decide +kernel
theorem dL_law_631 : decode cL_law 631 = .ok (.iconst 2, 1) := by decide +kernel
theorem dL_law_632 : decode cL_law 632 = .ok (.iadd, 1) := by decide +kernel
theorem dL_law_633 : decode cL_law 633 = .ok (.iaload, 1) := by decide +kernel
theorem dL_law_634 : decode cL_law 634 = .ok (.invokevirtual 85, 3) := by decide +kernel
theorem dL_law_637 : decode cL_law 637 = .ok (.aload_n 2, 1) := by decide +kernel
theorem dL_law_638 : decode cL_law 638 = .ok (.aload_n 0, 1) := by decide +kernel
theorem dL_law_639 : decode cL_law 639 = .ok (.iload_n 3, 1) := by decide +kernel
theorem dL_law_640 : decode cL_law 640 = .ok (.iconst 1, 1) := by decide +kernel
theorem dL_law_641 : decode cL_law 641 = .ok (.iadd, 1) := by decide +kernel
theorem dL_law_642 : decode cL_law 642 = .ok (.iaload, 1) := by decide +kernel
theorem dL_law_643 : decode cL_law 643 = .ok (.aload_n 0, 1) := by decide +kernel
theorem dL_law_644 : decode cL_law 644 = .ok (.iload_n 3, 1) := by decide +kernel
theorem dL_law_645 : decode cL_law 645 = .ok (.iconst 2, 1) := by decide +kernel
theorem dL_law_646 : decode cL_law 646 = .ok (.iadd, 1) := by decide +kernel
theorem dL_law_647 : decode cL_law 647 = .ok (.iaload, 1) := by decide +kernel
theorem dL_law_648 : decode cL_law 648 = .ok (.invokevirtual 88, 3) := by decide +kernel
theorem dL_law_651 : decode cL_law 651 = .ok (.if_icmp .eq 248, 3) := by decide +kernel
theorem dL_law_654 : decode cL_law 654 = .ok (.iconst 0, 1) := by decide +kernel
theorem dL_law_655 : decode cL_law 655 = .ok (.ireturn, 1) := by decide +kernel
theorem dL_law_656 : decode cL_law 656 = .ok (.aload_n 1, 1) := by decide +kernel
theorem dL_law_657 : decode cL_law 657 = .ok (.aload_n 0, 1) := by decide +kernel
theorem dL_law_658 : decode cL_law 658 = .ok (.iload_n 3, 1) := by decide +kernel
theorem dL_law_659 : decode cL_law 659 = .ok (.iconst 1, 1) := by decide +kernel
theorem dL_law_660 : decode cL_law 660 = .ok (.iadd, 1) := by decide +kernel
theorem dL_law_661 : decode cL_law 661 = .ok (.iaload, 1) := by decide +kernel
theorem dL_law_662 : decode cL_law 662 = .ok (.invokevirtual 89, 3) := by decide +kernel
theorem dL_law_665 : decode cL_law 665 = .ok (.aload_n 2, 1) := by decide +kernel
theorem dL_law_666 : decode cL_law 666 = .ok (.aload_n 0, 1) := by decide +kernel
theorem dL_law_667 : decode cL_law 667 = .ok (.iload_n 3, 1) := by decide +kernel
theorem dL_law_668 : decode cL_law 668 = .ok (.iconst 1, 1) := by decide +kernel
theorem dL_law_669 : decode cL_law 669 = .ok (.iadd, 1) := by decide +kernel
theorem dL_law_670 : decode cL_law 670 = .ok (.iaload, 1) := by decide +kernel
theorem dL_law_671 : decode cL_law 671 = .ok (.invokevirtual 92, 3) := by decide +kernel
theorem dL_law_674 : decode cL_law 674 = .ok (.if_icmp .eq 225, 3) := by decide +kernel
theorem dL_law_677 : decode cL_law 677 = .ok (.iconst 0, 1) := by decide +kernel
theorem dL_law_678 : decode cL_law 678 = .ok (.ireturn, 1) := by decide +kernel
theorem dL_law_679 : decode cL_law 679 = .ok (.aload_n 1, 1) := by decide +kernel
theorem dL_law_680 : decode cL_law 680 = .ok (.aload_n 0, 1) := by decide +kernel
theorem dL_law_681 : decode cL_law 681 = .ok (.iload_n 3, 1) := by decide +kernel
theorem dL_law_682 : decode cL_law 682 = .ok (.iconst 1, 1) := by decide +kernel
theorem dL_law_683 : decode cL_law 683 = .ok (.iadd, 1) := by decide +kernel
theorem dL_law_684 : decode cL_law 684 = .ok (.iaload, 1) := by decide +kernel
theorem dL_law_685 : decode cL_law 685 = .ok (.aload_n 0, 1) := by decide +kernel
theorem dL_law_686 : decode cL_law 686 = .ok (.iload_n 3, 1) := by decide +kernel
theorem dL_law_687 : decode cL_law 687 = .ok (.iconst 2, 1) := by decide +kernel
theorem dL_law_688 : decode cL_law 688 = .ok (.iadd, 1) := by decide +kernel
theorem dL_law_689 : decode cL_law 689 = .ok (.iaload, 1) := by decide +kernel
theorem dL_law_690 : decode cL_law 690 = .ok (.invokevirtual 93, 3) := by decide +kernel
theorem dL_law_693 : decode cL_law 693 = .ok (.aload_n 2, 1) := by decide +kernel
theorem dL_law_694 : decode cL_law 694 = .ok (.aload_n 0, 1) := by decide +kernel
theorem dL_law_695 : decode cL_law 695 = .ok (.iload_n 3, 1) := by decide +kernel
theorem dL_law_696 : decode cL_law 696 = .ok (.iconst 1, 1) := by decide +kernel
theorem dL_law_697 : decode cL_law 697 = .ok (.iadd, 1) := by decide +kernel
theorem dL_law_698 : decode cL_law 698 = .ok (.iaload, 1) := by decide +kernel
theorem dL_law_699 : decode cL_law 699 = .ok (.aload_n 0, 1) := by decide +kernel
theorem dL_law_700 : decode cL_law 700 = .ok (.iload_n 3, 1) := by decide +kernel
theorem dL_law_701 : decode cL_law 701 = .ok (.iconst 2, 1) := by decide +kernel
theorem dL_law_702 : decode cL_law 702 = .ok (.iadd, 1) := by decide +kernel
theorem dL_law_703 : decode cL_law 703 = .ok (.iaload, 1) := by decide +kernel
theorem dL_law_704 : decode cL_law 704 = .ok (.invokevirtual 96, 3) := by decide +kernel
theorem dL_law_707 : decode cL_law 707 = .ok (.if_icmp .eq 192, 3) := by decide +kernel
theorem dL_law_710 : decode cL_law 710 = .ok (.iconst 0, 1) := by decide +kernel
theorem dL_law_711 : decode cL_law 711 = .ok (.ireturn, 1) := by decide +kernel
theorem dL_law_712 : decode cL_law 712 = .ok (.aload_n 1, 1) := by decide +kernel
theorem dL_law_713 : decode cL_law 713 = .ok (.aload_n 0, 1) := by decide +kernel
theorem dL_law_714 : decode cL_law 714 = .ok (.iload_n 3, 1) := by decide +kernel
theorem dL_law_715 : decode cL_law 715 = .ok (.iconst 1, 1) := by decide +kernel
theorem dL_law_716 : decode cL_law 716 = .ok (.iadd, 1) := by decide +kernel
theorem dL_law_717 : decode cL_law 717 = .ok (.iaload, 1) := by decide +kernel
theorem dL_law_718 : decode cL_law 718 = .ok (.aload_n 0, 1) := by decide +kernel
theorem dL_law_719 : decode cL_law 719 = .ok (.iload_n 3, 1) := by decide +kernel
theorem dL_law_720 : decode cL_law 720 = .ok (.iconst 2, 1) := by decide +kernel
theorem dL_law_721 : decode cL_law 721 = .ok (.iadd, 1) := by decide +kernel
theorem dL_law_722 : decode cL_law 722 = .ok (.iaload, 1) := by decide +kernel
theorem dL_law_723 : decode cL_law 723 = .ok (.aload_n 0, 1) := by decide +kernel
theorem dL_law_724 : decode cL_law 724 = .ok (.iload_n 3, 1) := by decide +kernel
theorem dL_law_725 : decode cL_law 725 = .ok (.iconst 3, 1) := by decide +kernel
theorem dL_law_726 : decode cL_law 726 = .ok (.iadd, 1) := by decide +kernel
theorem dL_law_727 : decode cL_law 727 = .ok (.iaload, 1) := by decide +kernel
theorem dL_law_728 : decode cL_law 728 = .ok (.ifCond .eq 7, 3) := by decide +kernel
theorem dL_law_731 : decode cL_law 731 = .ok (.iconst 1, 1) := by decide +kernel
theorem dL_law_732 : decode cL_law 732 = .ok (.goto 4, 3) := by decide +kernel
theorem dL_law_735 : decode cL_law 735 = .ok (.iconst 0, 1) := by decide +kernel
theorem dL_law_736 : decode cL_law 736 = .ok (.invokevirtual 97, 3) := by decide +kernel
theorem dL_law_739 : decode cL_law 739 = .ok (.aload_n 2, 1) := by decide +kernel
theorem dL_law_740 : decode cL_law 740 = .ok (.aload_n 0, 1) := by decide +kernel
theorem dL_law_741 : decode cL_law 741 = .ok (.iload_n 3, 1) := by decide +kernel
theorem dL_law_742 : decode cL_law 742 = .ok (.iconst 1, 1) := by decide +kernel
theorem dL_law_743 : decode cL_law 743 = .ok (.iadd, 1) := by decide +kernel
theorem dL_law_744 : decode cL_law 744 = .ok (.iaload, 1) := by decide +kernel
theorem dL_law_745 : decode cL_law 745 = .ok (.aload_n 0, 1) := by decide +kernel
theorem dL_law_746 : decode cL_law 746 = .ok (.iload_n 3, 1) := by decide +kernel
theorem dL_law_747 : decode cL_law 747 = .ok (.iconst 2, 1) := by decide +kernel
theorem dL_law_748 : decode cL_law 748 = .ok (.iadd, 1) := by decide +kernel
theorem dL_law_749 : decode cL_law 749 = .ok (.iaload, 1) := by decide +kernel
theorem dL_law_750 : decode cL_law 750 = .ok (.aload_n 0, 1) := by decide +kernel
theorem dL_law_751 : decode cL_law 751 = .ok (.iload_n 3, 1) := by decide +kernel
theorem dL_law_752 : decode cL_law 752 = .ok (.iconst 3, 1) := by decide +kernel
theorem dL_law_753 : decode cL_law 753 = .ok (.iadd, 1) := by decide +kernel
theorem dL_law_754 : decode cL_law 754 = .ok (.iaload, 1) := by decide +kernel
theorem dL_law_755 : decode cL_law 755 = .ok (.ifCond .eq 7, 3) := by decide +kernel
theorem dL_law_758 : decode cL_law 758 = .ok (.iconst 1, 1) := by decide +kernel
theorem dL_law_759 : decode cL_law 759 = .ok (.goto 4, 3) := by decide +kernel
theorem dL_law_762 : decode cL_law 762 = .ok (.iconst 0, 1) := by decide +kernel
theorem dL_law_763 : decode cL_law 763 = .ok (.invokevirtual 100, 3) := by decide +kernel
theorem dL_law_766 : decode cL_law 766 = .ok (.if_icmp .eq 133, 3) := by decide +kernel
theorem dL_law_769 : decode cL_law 769 = .ok (.iconst 0, 1) := by decide +kernel
theorem dL_law_770 : decode cL_law 770 = .ok (.ireturn, 1) := by decide +kernel
theorem dL_law_771 : decode cL_law 771 = .ok (.aload_n 1, 1) := by decide +kernel
theorem dL_law_772 : decode cL_law 772 = .ok (.aload_n 0, 1) := by decide +kernel
theorem dL_law_773 : decode cL_law 773 = .ok (.iload_n 3, 1) := by decide +kernel
theorem dL_law_774 : decode cL_law 774 = .ok (.iconst 1, 1) := by decide +kernel
theorem dL_law_775 : decode cL_law 775 = .ok (.iadd, 1) := by decide +kernel
theorem dL_law_776 : decode cL_law 776 = .ok (.iaload, 1) := by decide +kernel
theorem dL_law_777 : decode cL_law 777 = .ok (.aload_n 0, 1) := by decide +kernel
theorem dL_law_778 : decode cL_law 778 = .ok (.iload_n 3, 1) := by decide +kernel
theorem dL_law_779 : decode cL_law 779 = .ok (.iconst 2, 1) := by decide +kernel
theorem dL_law_780 : decode cL_law 780 = .ok (.iadd, 1) := by decide +kernel
theorem dL_law_781 : decode cL_law 781 = .ok (.iaload, 1) := by decide +kernel
theorem dL_law_782 : decode cL_law 782 = .ok (.invokevirtual 101, 3) := by decide +kernel
theorem dL_law_785 : decode cL_law 785 = .ok (.aload_n 2, 1) := by decide +kernel
theorem dL_law_786 : decode cL_law 786 = .ok (.aload_n 0, 1) := by decide +kernel
theorem dL_law_787 : decode cL_law 787 = .ok (.iload_n 3, 1) := by decide +kernel
theorem dL_law_788 : decode cL_law 788 = .ok (.iconst 1, 1) := by decide +kernel
theorem dL_law_789 : decode cL_law 789 = .ok (.iadd, 1) := by decide +kernel
theorem dL_law_790 : decode cL_law 790 = .ok (.iaload, 1) := by decide +kernel
theorem dL_law_791 : decode cL_law 791 = .ok (.aload_n 0, 1) := by decide +kernel
theorem dL_law_792 : decode cL_law 792 = .ok (.iload_n 3, 1) := by decide +kernel
theorem dL_law_793 : decode cL_law 793 = .ok (.iconst 2, 1) := by decide +kernel
theorem dL_law_794 : decode cL_law 794 = .ok (.iadd, 1) := by decide +kernel
theorem dL_law_795 : decode cL_law 795 = .ok (.iaload, 1) := by decide +kernel
theorem dL_law_796 : decode cL_law 796 = .ok (.invokevirtual 104, 3) := by decide +kernel
theorem dL_law_799 : decode cL_law 799 = .ok (.if_icmp .eq 100, 3) := by decide +kernel
theorem dL_law_802 : decode cL_law 802 = .ok (.iconst 0, 1) := by decide +kernel
theorem dL_law_803 : decode cL_law 803 = .ok (.ireturn, 1) := by decide +kernel
theorem dL_law_804 : decode cL_law 804 = .ok (.aload_n 1, 1) := by decide +kernel
theorem dL_law_805 : decode cL_law 805 = .ok (.invokevirtual 105, 3) := by decide +kernel
theorem dL_law_808 : decode cL_law 808 = .ok (.aload_n 2, 1) := by decide +kernel
theorem dL_law_809 : decode cL_law 809 = .ok (.invokevirtual 108, 3) := by decide +kernel
theorem dL_law_812 : decode cL_law 812 = .ok (.if_icmp .eq 87, 3) := by decide +kernel
theorem dL_law_815 : decode cL_law 815 = .ok (.iconst 0, 1) := by decide +kernel
theorem dL_law_816 : decode cL_law 816 = .ok (.ireturn, 1) := by decide +kernel
theorem dL_law_817 : decode cL_law 817 = .ok (.aload_n 1, 1) := by decide +kernel
theorem dL_law_818 : decode cL_law 818 = .ok (.invokevirtual 109, 3) := by decide +kernel
theorem dL_law_821 : decode cL_law 821 = .ok (.aload_n 2, 1) := by decide +kernel
theorem dL_law_822 : decode cL_law 822 = .ok (.invokevirtual 112, 3) := by decide +kernel
theorem dL_law_825 : decode cL_law 825 = .ok (.if_icmp .eq 74, 3) := by decide +kernel
theorem dL_law_828 : decode cL_law 828 = .ok (.iconst 0, 1) := by decide +kernel
theorem dL_law_829 : decode cL_law 829 = .ok (.ireturn, 1) := by decide +kernel
theorem dL_law_830 : decode cL_law 830 = .ok (.aload_n 1, 1) := by decide +kernel
theorem dL_law_831 : decode cL_law 831 = .ok (.aload_n 0, 1) := by decide +kernel
theorem dL_law_832 : decode cL_law 832 = .ok (.iload_n 3, 1) := by decide +kernel
theorem dL_law_833 : decode cL_law 833 = .ok (.iconst 1, 1) := by decide +kernel
theorem dL_law_834 : decode cL_law 834 = .ok (.iadd, 1) := by decide +kernel
theorem dL_law_835 : decode cL_law 835 = .ok (.iaload, 1) := by decide +kernel
theorem dL_law_836 : decode cL_law 836 = .ok (.invokevirtual 113, 3) := by decide +kernel
theorem dL_law_839 : decode cL_law 839 = .ok (.aload_n 2, 1) := by decide +kernel
theorem dL_law_840 : decode cL_law 840 = .ok (.aload_n 0, 1) := by decide +kernel
theorem dL_law_841 : decode cL_law 841 = .ok (.iload_n 3, 1) := by decide +kernel
theorem dL_law_842 : decode cL_law 842 = .ok (.iconst 1, 1) := by decide +kernel
theorem dL_law_843 : decode cL_law 843 = .ok (.iadd, 1) := by decide +kernel
theorem dL_law_844 : decode cL_law 844 = .ok (.iaload, 1) := by decide +kernel
theorem dL_law_845 : decode cL_law 845 = .ok (.invokevirtual 116, 3) := by decide +kernel
theorem dL_law_848 : decode cL_law 848 = .ok (.if_icmp .eq 51, 3) := by decide +kernel
theorem dL_law_851 : decode cL_law 851 = .ok (.iconst 0, 1) := by decide +kernel
theorem dL_law_852 : decode cL_law 852 = .ok (.ireturn, 1) := by decide +kernel
theorem dL_law_853 : decode cL_law 853 = .ok (.aload_n 1, 1) := by decide +kernel
theorem dL_law_854 : decode cL_law 854 = .ok (.aload_n 0, 1) := by decide +kernel
theorem dL_law_855 : decode cL_law 855 = .ok (.iload_n 3, 1) := by decide +kernel
theorem dL_law_856 : decode cL_law 856 = .ok (.iconst 1, 1) := by decide +kernel
theorem dL_law_857 : decode cL_law 857 = .ok (.iadd, 1) := by decide +kernel
theorem dL_law_858 : decode cL_law 858 = .ok (.iaload, 1) := by decide +kernel
theorem dL_law_859 : decode cL_law 859 = .ok (.invokevirtual 117, 3) := by decide +kernel
theorem dL_law_862 : decode cL_law 862 = .ok (.aload_n 2, 1) := by decide +kernel
theorem dL_law_863 : decode cL_law 863 = .ok (.aload_n 0, 1) := by decide +kernel
theorem dL_law_864 : decode cL_law 864 = .ok (.iload_n 3, 1) := by decide +kernel
theorem dL_law_865 : decode cL_law 865 = .ok (.iconst 1, 1) := by decide +kernel
theorem dL_law_866 : decode cL_law 866 = .ok (.iadd, 1) := by decide +kernel
theorem dL_law_867 : decode cL_law 867 = .ok (.iaload, 1) := by decide +kernel
theorem dL_law_868 : decode cL_law 868 = .ok (.invokevirtual 120, 3) := by decide +kernel
theorem dL_law_871 : decode cL_law 871 = .ok (.if_icmp .eq 28, 3) := by decide +kernel
theorem dL_law_874 : decode cL_law 874 = .ok (.iconst 0, 1) := by decide +kernel
theorem dL_law_875 : decode cL_law 875 = .ok (.ireturn, 1) := by decide +kernel
theorem dL_law_876 : decode cL_law 876 = .ok (.aload_n 1, 1) := by decide +kernel
theorem dL_law_877 : decode cL_law 877 = .ok (.aload_n 0, 1) := by decide +kernel
theorem dL_law_878 : decode cL_law 878 = .ok (.iload_n 3, 1) := by decide +kernel
theorem dL_law_879 : decode cL_law 879 = .ok (.iconst 1, 1) := by decide +kernel
theorem dL_law_880 : decode cL_law 880 = .ok (.iadd, 1) := by decide +kernel
theorem dL_law_881 : decode cL_law 881 = .ok (.iaload, 1) := by decide +kernel
theorem dL_law_882 : decode cL_law 882 = .ok (.invokevirtual 121, 3) := by decide +kernel
theorem dL_law_885 : decode cL_law 885 = .ok (.aload_n 2, 1) := by decide +kernel
theorem dL_law_886 : decode cL_law 886 = .ok (.aload_n 0, 1) := by decide +kernel
theorem dL_law_887 : decode cL_law 887 = .ok (.iload_n 3, 1) := by decide +kernel
theorem dL_law_888 : decode cL_law 888 = .ok (.iconst 1, 1) := by decide +kernel
theorem dL_law_889 : decode cL_law 889 = .ok (.iadd, 1) := by decide +kernel
theorem dL_law_890 : decode cL_law 890 = .ok (.iaload, 1) := by decide +kernel
theorem dL_law_891 : decode cL_law 891 = .ok (.invokevirtual 124, 3) := by decide +kernel
theorem dL_law_894 : decode cL_law 894 = .ok (.if_icmp .eq 5, 3) := by decide +kernel
theorem dL_law_897 : decode cL_law 897 = .ok (.iconst 0, 1) := by decide +kernel
theorem dL_law_898 : decode cL_law 898 = .ok (.ireturn, 1) := by decide +kernel
theorem dL_law_899 : decode cL_law 899 = .ok (.iinc 3 4, 3) := by decide +kernel
theorem dL_law_902 : decode cL_law 902 = .ok (.goto (-884), 3) := by decide +kernel
theorem dL_law_905 : decode cL_law 905 = .ok (.iconst 1, 1) := by decide +kernel
theorem dL_law_906 : decode cL_law 906 = .ok (.ireturn, 1) := by decide +kernel
