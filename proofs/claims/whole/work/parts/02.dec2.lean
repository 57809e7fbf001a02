theorem dX7_manyPages_11 : decode cX7_manyPages 11 = .ok (.aload_n 0, 1) := by decide +kernel
theorem dX7_manyPages_12 : decode cX7_manyPages 12 = .ok (.iload_n 2, 1) := by decide +kernel
theorem dX7_manyPages_13 : decode cX7_manyPages 13 = .ok (.invokevirtual 101, 3) := by decide +kernel
theorem dX7_manyPages_16 : decode cX7_manyPages 16 = .ok (.ifCond .eq 7, 3) := by decide +kernel
theorem dX7_manyPages_19 : decode cX7_manyPages 19 = .ok (.iconst 1, 1) := by decide +kernel
theorem dX7_manyPages_20 : decode cX7_manyPages 20 = .ok (.goto 4, 3) := by decide +kernel
theorem dX7_manyPages_23 : decode cX7_manyPages 23 = .ok (.iconst 0, 1) := by decide +kernel
theorem dX7_manyPages_24 : decode cX7_manyPages 24 = .ok (.iadd, 1) := by decide +kernel
theorem dX7_manyPages_25 : decode cX7_manyPages 25 = .ok (.istore_n 1, 1) := by decide +kernel
theorem dX7_manyPages_26 : decode cX7_manyPages 26 = .ok (.iinc 2 1, 3) := by decide +kernel
theorem dX7_manyPages_29 : decode cX7_manyPages 29 = .ok (.goto (-25), 3) := by decide +kernel
theorem dX7_manyPages_32 : decode cX7_manyPages 32 = .ok (.iload_n 1, 1) := by decide +kernel
theorem dX7_manyPages_33 : decode cX7_manyPages 33 = .ok (.ireturn, 1) := by decide +kernel
theorem dX7_clear_0 : decode cX7_clear 0 = .ok (.aload_n 0, 1) := by decide +kernel
theorem dX7_clear_1 : decode cX7_clear 1 = .ok (.invokevirtual 150, 3) := by decide +kernel
theorem dX7_clear_4 : decode cX7_clear 4 = .ok (.istore_n 1, 1) := by decide +kernel
theorem dX7_clear_5 : decode cX7_clear 5 = .ok (.aload_n 0, 1) := by decide +kernel
theorem dX7_clear_6 : decode cX7_clear 6 = .ok (.invokevirtual 130, 3) := by decide +kernel
theorem dX7_clear_9 : decode cX7_clear 9 = .ok (.iload_n 1, 1) := by decide +kernel
theorem dX7_clear_10 : decode cX7_clear 10 = .ok (.ireturn, 1) := by decide +kernel
theorem dX7_feed_0 : decode cX7_feed 0 = .ok (.iload_n 1, 1) := by decide +kernel
theorem dX7_feed_1 : decode cX7_feed 1 = .ok (.i2l, 1) := by decide +kernel
theorem dX7_feed_2 : decode cX7_feed 2 = .ok (.lconst 0, 1) := by decide +kernel
theorem dX7_feed_3 : decode cX7_feed 3 = .ok (.ldc2_w 154, 3) := by decide +kernel
theorem dX7_feed_6 : decode cX7_feed 6 = .ok (.invokestatic 47, 3) := by decide +kernel
theorem dX7_feed_9 : decode cX7_feed 9 = .ok (.ifCond .ne 10, 3) := by decide +kernel
theorem dX7_feed_12 : decode cX7_feed 12 = .ok (.aload_n 0, 1) := by decide +kernel
theorem dX7_feed_13 : decode cX7_feed 13 = .ok (.bipush (-52), 2) := by decide +kernel
theorem dX7_feed_15 : decode cX7_feed 15 = .ok (.invokevirtual 127, 3) := by decide +kernel
theorem dX7_feed_18 : decode cX7_feed 18 = .ok (.ireturn, 1) := by decide +kernel
theorem dX7_feed_19 : decode cX7_feed 19 = .ok (.aload_n 0, 1) := by decide +kernel
theorem dX7_feed_20 : decode cX7_feed 20 = .ok (.getfield 156, 3) := by decide +kernel
theorem dX7_feed_23 : decode cX7_feed 23 = .ok (.sipush 250, 3) := by decide +kernel
theorem dX7_feed_26 : decode cX7_feed 26 = .ok (.if_icmp .ne 10, 3) := by decide +kernel
theorem dX7_feed_29 : decode cX7_feed 29 = .ok (.aload_n 0, 1) := by decide +kernel
theorem dX7_feed_30 : decode cX7_feed 30 = .ok (.bipush (-56), 2) := by decide +kernel
theorem dX7_feed_32 : decode cX7_feed 32 = .ok (.invokevirtual 127, 3) := by decide +kernel
theorem dX7_feed_35 : decode cX7_feed 35 = .ok (.ireturn, 1) := by decide +kernel
theorem dX7_feed_36 : decode cX7_feed 36 = .ok (.aload_n 0, 1) := by decide +kernel
theorem dX7_feed_37 : decode cX7_feed 37 = .ok (.getfield 22, 3) := by decide +kernel
theorem dX7_feed_40 : decode cX7_feed 40 = .ok (.aload_n 0, 1) := by decide +kernel
theorem dX7_feed_41 : decode cX7_feed 41 = .ok (.getfield 156, 3) := by decide +kernel
theorem dX7_feed_44 : decode cX7_feed 44 = .ok (.iload_n 1, 1) := by decide +kernel
theorem dX7_feed_45 : decode cX7_feed 45 = .ok (.iastore, 1) := by decide +kernel
theorem dX7_feed_46 : decode cX7_feed 46 = .ok (.aload_n 0, 1) := by decide +kernel
theorem dX7_feed_47 : decode cX7_feed 47 = .ok (.dup, 1) := by decide +kernel
theorem dX7_feed_48 : decode cX7_feed 48 = .ok (.getfield 156, 3) := by decide +kernel
theorem dX7_feed_51 : decode cX7_feed 51 = .ok (.iconst 1, 1) := by decide +kernel
theorem dX7_feed_52 : decode cX7_feed 52 = .ok (.iadd, 1) := by decide +kernel
theorem dX7_feed_53 : decode cX7_feed 53 = .ok (.putfield 156, 3) := by decide +kernel
theorem dX7_feed_56 : decode cX7_feed 56 = .ok (.aload_n 0, 1) := by decide +kernel
theorem dX7_feed_57 : decode cX7_feed 57 = .ok (.getfield 156, 3) := by decide +kernel
theorem dX7_feed_60 : decode cX7_feed 60 = .ok (.ireturn, 1) := by decide +kernel
theorem dX7_wipe_0 : decode cX7_wipe 0 = .ok (.aload_n 0, 1) := by decide +kernel
theorem dX7_wipe_1 : decode cX7_wipe 1 = .ok (.getfield 156, 3) := by decide +kernel
theorem dX7_wipe_4 : decode cX7_wipe 4 = .ok (.istore_n 1, 1) := by decide +kernel
theorem dX7_wipe_5 : decode cX7_wipe 5 = .ok (.aload_n 0, 1) := by decide +kernel
theorem dX7_wipe_6 : decode cX7_wipe 6 = .ok (.iconst 0, 1) := by decide +kernel
theorem dX7_wipe_7 : decode cX7_wipe 7 = .ok (.putfield 156, 3) := by decide +kernel
theorem dX7_wipe_10 : decode cX7_wipe 10 = .ok (.iload_n 1, 1) := by decide +kernel
theorem dX7_wipe_11 : decode cX7_wipe 11 = .ok (.ireturn, 1) := by decide +kernel
theorem dX7_peek_0 : decode cX7_peek 0 = .ok (.aload_n 0, 1) := by decide +kernel
theorem dX7_peek_1 : decode cX7_peek 1 = .ok (.getfield 159, 3) := by decide +kernel
theorem dX7_peek_4 : decode cX7_peek 4 = .ok (.aload_n 0, 1) := by decide +kernel
theorem dX7_peek_5 : decode cX7_peek 5 = .ok (.getfield 156, 3) := by decide +kernel
theorem dX7_peek_8 : decode cX7_peek 8 = .ok (.if_icmp .ge 15, 3) := by decide +kernel
theorem dX7_peek_11 : decode cX7_peek 11 = .ok (.aload_n 0, 1) := by decide +kernel
theorem dX7_peek_12 : decode cX7_peek 12 = .ok (.getfield 22, 3) := by decide +kernel
theorem dX7_peek_15 : decode cX7_peek 15 = .ok (.aload_n 0, 1) := by decide +kernel
theorem dX7_peek_16 : decode cX7_peek 16 = .ok (.getfield 159, 3) := by decide +kernel
theorem dX7_peek_19 : decode cX7_peek 19 = .ok (.iaload, 1) := by decide +kernel
theorem dX7_peek_20 : decode cX7_peek 20 = .ok (.goto 4, 3) := by decide +kernel
theorem dX7_peek_23 : decode cX7_peek 23 = .ok (.iconst (-1), 1) := by decide +kernel
theorem dX7_peek_24 : decode cX7_peek 24 = .ok (.ireturn, 1) := by decide +kernel
theorem dX7_wrong_0 : decode cX7_wrong 0 = .ok (.aload_n 0, 1) := by decide +kernel
theorem dX7_wrong_1 : decode cX7_wrong 1 = .ok (.aload_n 0, 1) := by decide +kernel
theorem dX7_wrong_2 : decode cX7_wrong 2 = .ok (.getfield 162, 3) := by decide +kernel
theorem dX7_wrong_5 : decode cX7_wrong 5 = .ok (.ifCond .ge 7, 3) := by decide +kernel
theorem dX7_wrong_8 : decode cX7_wrong 8 = .ok (.iload_n 1, 1) := by decide +kernel
theorem dX7_wrong_9 : decode cX7_wrong 9 = .ok (.goto 7, 3) := by decide +kernel
theorem dX7_wrong_12 : decode cX7_wrong 12 = .ok (.aload_n 0, 1) := by decide +kernel
theorem dX7_wrong_13 : decode cX7_wrong 13 = .ok (.getfield 162, 3) := by decide +kernel
theorem dX7_wrong_16 : decode cX7_wrong 16 = .ok (.putfield 162, 3) := by decide +kernel
theorem dX7_wrong_19 : decode cX7_wrong 19 = .ok (.return_, 1) := by decide +kernel
theorem dX7_number_0 : decode cX7_number 0 = .ok (.aload_n 0, 1) := by decide +kernel
theorem dX7_number_1 : decode cX7_number 1 = .ok (.getfield 159, 3) := by decide +kernel
theorem dX7_number_4 : decode cX7_number 4 = .ok (.istore_n 3, 1) := by decide +kernel
theorem dX7_number_5 : decode cX7_number 5 = .ok (.iconst 0, 1) := by decide +kernel
theorem dX7_number_6 : decode cX7_number 6 = .ok (.istore 4, 2) := by decide +kernel
theorem dX7_number_8 : decode cX7_number 8 = .ok (.aload_n 0, 1) := by decide +kernel
theorem dX7_number_9 : decode cX7_number 9 = .ok (.getfield 162, 3) := by decide +kernel
theorem dX7_number_12 : decode cX7_number 12 = .ok (.ifCond .ge 58, 3) := by decide +kernel
theorem dX7_number_15 : decode cX7_number 15 = .ok (.aload_n 0, 1) := by decide +kernel
theorem dX7_number_16 : decode cX7_number 16 = .ok (.getfield 159, 3) := by decide +kernel
theorem dX7_number_19 : decode cX7_number 19 = .ok (.iload_n 3, 1) := by decide +kernel
theorem dX7_number_20 : decode cX7_number 20 = .ok (.isub, 1) := by decide +kernel
theorem dX7_number_21 : decode cX7_number 21 = .ok (.iconst 3, 1) := by decide +kernel
theorem dX7_number_22 : decode cX7_number 22 = .ok (.if_icmp .ge 48, 3) := by decide +kernel
theorem dX7_number_25 : decode cX7_number 25 = .ok (.aload_n 0, 1) := by decide +kernel
theorem dX7_number_26 : decode cX7_number 26 = .ok (.invokevirtual 165, 3) := by decide +kernel
theorem dX7_number_29 : decode cX7_number 29 = .ok (.i2l, 1) := by decide +kernel
theorem dX7_number_30 : decode cX7_number 30 = .ok (.ldc2_w 168, 3) := by decide +kernel
theorem dX7_number_33 : decode cX7_number 33 = .ok (.ldc2_w 170, 3) := by decide +kernel
theorem dX7_number_36 : decode cX7_number 36 = .ok (.invokestatic 47, 3) := by decide +kernel
theorem dX7_number_39 : decode cX7_number 39 = .ok (.ifCond .eq 31, 3) := by decide +kernel
theorem dX7_number_42 : decode cX7_number 42 = .ok (.bipush 10, 2) := by decide +kernel
theorem dX7_number_44 : decode cX7_number 44 = .ok (.iload 4, 2) := by decide +kernel
theorem dX7_number_46 : decode cX7_number 46 = .ok (.imul, 1) := by decide +kernel
theorem dX7_number_47 : decode cX7_number 47 = .ok (.aload_n 0, 1) := by decide +kernel
theorem dX7_number_48 : decode cX7_number 48 = .ok (.invokevirtual 165, 3) := by decide +kernel
theorem dX7_number_51 : decode cX7_number 51 = .ok (.iadd, 1) := by decide +kernel
theorem dX7_number_52 : decode cX7_number 52 = .ok (.bipush 48, 2) := by decide +kernel
theorem dX7_number_54 : decode cX7_number 54 = .ok (.isub, 1) := by decide +kernel
theorem dX7_number_55 : decode cX7_number 55 = .ok (.istore 4, 2) := by decide +kernel
theorem dX7_number_57 : decode cX7_number 57 = .ok (.aload_n 0, 1) := by decide +kernel
theorem dX7_number_58 : decode cX7_number 58 = .ok (.dup, 1) := by decide +kernel
theorem dX7_number_59 : decode cX7_number 59 = .ok (.getfield 159, 3) := by decide +kernel
theorem dX7_number_62 : decode cX7_number 62 = .ok (.iconst 1, 1) := by decide +kernel
theorem dX7_number_63 : decode cX7_number 63 = .ok (.iadd, 1) := by decide +kernel
theorem dX7_number_64 : decode cX7_number 64 = .ok (.putfield 159, 3) := by decide +kernel
theorem dX7_number_67 : decode cX7_number 67 = .ok (.goto (-59), 3) := by decide +kernel
theorem dX7_number_70 : decode cX7_number 70 = .ok (.aload_n 0, 1) := by decide +kernel
theorem dX7_number_71 : decode cX7_number 71 = .ok (.getfield 159, 3) := by decide +kernel
theorem dX7_number_74 : decode cX7_number 74 = .ok (.iload_n 3, 1) := by decide +kernel
theorem dX7_number_75 : decode cX7_number 75 = .ok (.if_icmp .eq 16, 3) := by decide +kernel
theorem dX7_number_78 : decode cX7_number 78 = .ok (.iload 4, 2) := by decide +kernel
theorem dX7_number_80 : decode cX7_number 80 = .ok (.i2l, 1) := by decide +kernel
theorem dX7_number_81 : decode cX7_number 81 = .ok (.iload_n 1, 1) := by decide +kernel
theorem dX7_number_82 : decode cX7_number 82 = .ok (.i2l, 1) := by decide +kernel
theorem dX7_number_83 : decode cX7_number 83 = .ok (.iload_n 2, 1) := by decide +kernel
theorem dX7_number_84 : decode cX7_number 84 = .ok (.i2l, 1) := by decide +kernel
theorem dX7_number_85 : decode cX7_number 85 = .ok (.invokestatic 47, 3) := by decide +kernel
theorem dX7_number_88 : decode cX7_number 88 = .ok (.ifCond .ne 8, 3) := by decide +kernel
theorem dX7_number_91 : decode cX7_number 91 = .ok (.aload_n 0, 1) := by decide +kernel
theorem dX7_number_92 : decode cX7_number 92 = .ok (.iload_n 3, 1) := by decide +kernel
theorem dX7_number_93 : decode cX7_number 93 = .ok (.invokevirtual 172, 3) := by decide +kernel
theorem dX7_number_96 : decode cX7_number 96 = .ok (.iload 4, 2) := by decide +kernel
theorem dX7_number_98 : decode cX7_number 98 = .ok (.ireturn, 1) := by decide +kernel
theorem dX7_part_0 : decode cX7_part 0 = .ok (.aload_n 0, 1) := by decide +kernel
theorem dX7_part_1 : decode cX7_part 1 = .ok (.invokevirtual 165, 3) := by decide +kernel
theorem dX7_part_4 : decode cX7_part 4 = .ok (.istore_n 2, 1) := by decide +kernel
theorem dX7_part_5 : decode cX7_part 5 = .ok (.iload_n 2, 1) := by decide +kernel
theorem dX7_part_6 : decode cX7_part 6 = .ok (.bipush 114, 2) := by decide +kernel
theorem dX7_part_8 : decode cX7_part 8 = .ok (.if_icmp .eq 31, 3) := by decide +kernel
theorem dX7_part_11 : decode cX7_part 11 = .ok (.iload_n 2, 1) := by decide +kernel
theorem dX7_part_12 : decode cX7_part 12 = .ok (.bipush 119, 2) := by decide +kernel
theorem dX7_part_14 : decode cX7_part 14 = .ok (.if_icmp .eq 25, 3) := by decide +kernel
theorem dX7_part_17 : decode cX7_part 17 = .ok (.iload_n 2, 1) := by decide +kernel
theorem dX7_part_18 : decode cX7_part 18 = .ok (.bipush 115, 2) := by decide +kernel
theorem dX7_part_20 : decode cX7_part 20 = .ok (.if_icmp .eq 19, 3) := by decide +kernel
theorem dX7_part_23 : decode cX7_part 23 = .ok (.iload_n 2, 1) := by decide +kernel
theorem dX7_part_24 : decode cX7_part 24 = .ok (.bipush 97, 2) := by decide +kernel
theorem dX7_part_26 : decode cX7_part 26 = .ok (.if_icmp .eq 13, 3) := by decide +kernel
theorem dX7_part_29 : decode cX7_part 29 = .ok (.aload_n 0, 1) := by decide +kernel
theorem dX7_part_30 : decode cX7_part 30 = .ok (.aload_n 0, 1) := by decide +kernel
theorem dX7_part_31 : decode cX7_part 31 = .ok (.getfield 159, 3) := by decide +kernel
theorem dX7_part_34 : decode cX7_part 34 = .ok (.invokevirtual 172, 3) := by decide +kernel
theorem dX7_part_37 : decode cX7_part 37 = .ok (.iconst 0, 1) := by decide +kernel
theorem dX7_part_38 : decode cX7_part 38 = .ok (.ireturn, 1) := by decide +kernel
theorem dX7_part_39 : decode cX7_part 39 = .ok (.aload_n 0, 1) := by decide +kernel
theorem dX7_part_40 : decode cX7_part 40 = .ok (.dup, 1) := by decide +kernel
theorem dX7_part_41 : decode cX7_part 41 = .ok (.getfield 159, 3) := by decide +kernel
theorem dX7_part_44 : decode cX7_part 44 = .ok (.iconst 1, 1) := by decide +kernel
theorem dX7_part_45 : decode cX7_part 45 = .ok (.iadd, 1) := by decide +kernel
theorem dX7_part_46 : decode cX7_part 46 = .ok (.putfield 159, 3) := by decide +kernel
theorem dX7_part_49 : decode cX7_part 49 = .ok (.aload_n 0, 1) := by decide +kernel
theorem dX7_part_50 : decode cX7_part 50 = .ok (.iload_n 2, 1) := by decide +kernel
theorem dX7_part_51 : decode cX7_part 51 = .ok (.bipush 115, 2) := by decide +kernel
theorem dX7_part_53 : decode cX7_part 53 = .ok (.if_icmp .ne 7, 3) := by decide +kernel
theorem dX7_part_56 : decode cX7_part 56 = .ok (.iconst 1, 1) := by decide +kernel
theorem dX7_part_57 : decode cX7_part 57 = .ok (.goto 4, 3) := by decide +kernel
theorem dX7_part_60 : decode cX7_part 60 = .ok (.iconst 0, 1) := by decide +kernel
theorem dX7_part_61 : decode cX7_part 61 = .ok (.iload_n 2, 1) := by decide +kernel
theorem dX7_part_62 : decode cX7_part 62 = .ok (.bipush 115, 2) := by decide +kernel
theorem dX7_part_64 : decode cX7_part 64 = .ok (.if_icmp .ne 14, 3) := by decide +kernel
theorem dX7_part_67 : decode cX7_part 67 = .ok (.aload_n 0, 1) := by decide +kernel
theorem dX7_part_68 : decode cX7_part 68 = .ok (.getfield 7, 3) := by decide +kernel
theorem dX7_part_71 : decode cX7_part 71 = .ok (.sipush 688, 3) := by decide +kernel
theorem dX7_part_74 : decode cX7_part 74 = .ok (.iaload, 1) := by decide +kernel
theorem dX7_part_75 : decode cX7_part 75 = .ok (.goto 16, 3) := by decide +kernel
theorem dX7_part_78 : decode cX7_part 78 = .ok (.iload_n 2, 1) := by decide +kernel
theorem dX7_part_79 : decode cX7_part 79 = .ok (.bipush 97, 2) := by decide +kernel
theorem dX7_part_81 : decode cX7_part 81 = .ok (.if_icmp .ne 8, 3) := by decide +kernel
theorem dX7_part_84 : decode cX7_part 84 = .ok (.bipush 8, 2) := by decide +kernel
theorem dX7_part_86 : decode cX7_part 86 = .ok (.goto 5, 3) := by decide +kernel
theorem dX7_part_89 : decode cX7_part 89 = .ok (.bipush 63, 2) := by decide +kernel
theorem dX7_part_91 : decode cX7_part 91 = .ok (.invokevirtual 176, 3) := by decide +kernel
theorem dX7_part_94 : decode cX7_part 94 = .ok (.istore_n 3, 1) := by decide +kernel
theorem dX7_part_95 : decode cX7_part 95 = .ok (.iconst 0, 1) := by decide +kernel
theorem dX7_part_96 : decode cX7_part 96 = .ok (.istore 4, 2) := by decide +kernel
theorem dX7_part_98 : decode cX7_part 98 = .ok (.iload_n 2, 1) := by decide +kernel
theorem dX7_part_99 : decode cX7_part 99 = .ok (.bipush 119, 2) := by decide +kernel
theorem dX7_part_101 : decode cX7_part 101 = .ok (.if_icmp .ne 40, 3) := by decide +kernel
theorem dX7_part_104 : decode cX7_part 104 = .ok (.aload_n 0, 1) := by decide +kernel
theorem dX7_part_105 : decode cX7_part 105 = .ok (.invokevirtual 165, 3) := by decide +kernel
theorem dX7_part_108 : decode cX7_part 108 = .ok (.bipush 61, 2) := by decide +kernel
theorem dX7_part_110 : decode cX7_part 110 = .ok (.if_icmp .eq 11, 3) := by decide +kernel
theorem dX7_part_113 : decode cX7_part 113 = .ok (.aload_n 0, 1) := by decide +kernel
theorem dX7_part_114 : decode cX7_part 114 = .ok (.aload_n 0, 1) := by decide +kernel
theorem dX7_part_115 : decode cX7_part 115 = .ok (.getfield 159, 3) := by decide +kernel
theorem dX7_part_118 : decode cX7_part 118 = .ok (.invokevirtual 172, 3) := by decide +kernel
theorem dX7_part_121 : decode cX7_part 121 = .ok (.aload_n 0, 1) := by decide +kernel
theorem dX7_part_122 : decode cX7_part 122 = .ok (.dup, 1) := by decide +kernel
theorem dX7_part_123 : decode cX7_part 123 = .ok (.getfield 159, 3) := by decide +kernel
theorem dX7_part_126 : decode cX7_part 126 = .ok (.iconst 1, 1) := by decide +kernel
theorem dX7_part_127 : decode cX7_part 127 = .ok (.iadd, 1) := by decide +kernel
theorem dX7_part_128 : decode cX7_part 128 = .ok (.putfield 159, 3) := by decide +kernel
theorem dX7_part_131 : decode cX7_part 131 = .ok (.aload_n 0, 1) := by decide +kernel
theorem dX7_part_132 : decode cX7_part 132 = .ok (.iconst 0, 1) := by decide +kernel
theorem dX7_part_133 : decode cX7_part 133 = .ok (.sipush 999, 3) := by decide +kernel
theorem dX7_part_136 : decode cX7_part 136 = .ok (.invokevirtual 176, 3) := by decide +kernel
theorem dX7_part_139 : decode cX7_part 139 = .ok (.istore 4, 2) := by decide +kernel
theorem dX7_part_141 : decode cX7_part 141 = .ok (.iload_n 1, 1) := by decide +kernel
theorem dX7_part_142 : decode cX7_part 142 = .ok (.ifCond .eq 10, 3) := by decide +kernel
theorem dX7_part_145 : decode cX7_part 145 = .ok (.aload_n 0, 1) := by decide +kernel
theorem dX7_part_146 : decode cX7_part 146 = .ok (.getfield 162, 3) := by decide +kernel
theorem dX7_part_149 : decode cX7_part 149 = .ok (.ifCond .lt 5, 3) := by decide +kernel
theorem dX7_part_152 : decode cX7_part 152 = .ok (.iconst 0, 1) := by decide +kernel
theorem dX7_part_153 : decode cX7_part 153 = .ok (.ireturn, 1) := by decide +kernel
theorem dX7_part_154 : decode cX7_part 154 = .ok (.iload_n 2, 1) := by decide +kernel
theorem dX7_part_155 : decode cX7_part 155 = .ok (.bipush 115, 2) := by decide +kernel
theorem dX7_part_157 : decode cX7_part 157 = .ok (.if_icmp .ne 14, 3) := by decide +kernel
theorem dX7_part_160 : decode cX7_part 160 = .ok (.aload_n 0, 1) := by decide +kernel
theorem dX7_part_161 : decode cX7_part 161 = .ok (.iload_n 3, 1) := by decide +kernel
theorem dX7_part_162 : decode cX7_part 162 = .ok (.iconst 1, 1) := by decide +kernel
theorem dX7_part_163 : decode cX7_part 163 = .ok (.isub, 1) := by decide +kernel
theorem dX7_part_164 : decode cX7_part 164 = .ok (.invokevirtual 116, 3) := by decide +kernel
theorem dX7_part_167 : decode cX7_part 167 = .ok (.pop, 1) := by decide +kernel
theorem dX7_part_168 : decode cX7_part 168 = .ok (.goto 44, 3) := by decide +kernel
theorem dX7_part_171 : decode cX7_part 171 = .ok (.iload_n 2, 1) := by decide +kernel
theorem dX7_part_172 : decode cX7_part 172 = .ok (.bipush 97, 2) := by decide +kernel
theorem dX7_part_174 : decode cX7_part 174 = .ok (.if_icmp .ne 15, 3) := by decide +kernel
theorem dX7_part_177 : decode cX7_part 177 = .ok (.aload_n 0, 1) := by decide +kernel
theorem dX7_part_178 : decode cX7_part 178 = .ok (.getfield 7, 3) := by decide +kernel
theorem dX7_part_181 : decode cX7_part 181 = .ok (.sipush 691, 3) := by decide +kernel
theorem dX7_part_184 : decode cX7_part 184 = .ok (.iload_n 3, 1) := by decide +kernel
theorem dX7_part_185 : decode cX7_part 185 = .ok (.iastore, 1) := by decide +kernel
theorem dX7_part_186 : decode cX7_part 186 = .ok (.goto 26, 3) := by decide +kernel
theorem dX7_part_189 : decode cX7_part 189 = .ok (.iload_n 2, 1) := by decide +kernel
theorem dX7_part_190 : decode cX7_part 190 = .ok (.bipush 114, 2) := by decide +kernel
theorem dX7_part_192 : decode cX7_part 192 = .ok (.if_icmp .ne 12, 3) := by decide +kernel
theorem dX7_part_195 : decode cX7_part 195 = .ok (.aload_n 0, 1) := by decide +kernel
theorem dX7_part_196 : decode cX7_part 196 = .ok (.iload_n 3, 1) := by decide +kernel
theorem dX7_part_197 : decode cX7_part 197 = .ok (.invokevirtual 141, 3) := by decide +kernel
theorem dX7_part_200 : decode cX7_part 200 = .ok (.pop, 1) := by decide +kernel
theorem dX7_part_201 : decode cX7_part 201 = .ok (.goto 11, 3) := by decide +kernel
theorem dX7_part_204 : decode cX7_part 204 = .ok (.aload_n 0, 1) := by decide +kernel
theorem dX7_part_205 : decode cX7_part 205 = .ok (.iload_n 3, 1) := by decide +kernel
theorem dX7_part_206 : decode cX7_part 206 = .ok (.iload 4, 2) := by decide +kernel
theorem dX7_part_208 : decode cX7_part 208 = .ok (.invokevirtual 144, 3) := by decide +kernel
theorem dX7_part_211 : decode cX7_part 211 = .ok (.pop, 1) := by decide +kernel
theorem dX7_part_212 : decode cX7_part 212 = .ok (.iload_n 2, 1) := by decide +kernel
theorem dX7_part_213 : decode cX7_part 213 = .ok (.bipush 114, 2) := by decide +kernel
theorem dX7_part_215 : decode cX7_part 215 = .ok (.if_icmp .eq 9, 3) := by decide +kernel
theorem dX7_part_218 : decode cX7_part 218 = .ok (.iload_n 2, 1) := by decide +kernel
theorem dX7_part_219 : decode cX7_part 219 = .ok (.bipush 119, 2) := by decide +kernel
theorem dX7_part_221 : decode cX7_part 221 = .ok (.if_icmp .ne 10, 3) := by decide +kernel
theorem dX7_part_224 : decode cX7_part 224 = .ok (.aload_n 0, 1) := by decide +kernel
theorem dX7_part_225 : decode cX7_part 225 = .ok (.getfield 94, 3) := by decide +kernel
theorem dX7_part_228 : decode cX7_part 228 = .ok (.goto 4, 3) := by decide +kernel
theorem dX7_part_231 : decode cX7_part 231 = .ok (.iconst 0, 1) := by decide +kernel
theorem dX7_part_232 : decode cX7_part 232 = .ok (.ireturn, 1) := by decide +kernel
theorem dX7_parts_0 : decode cX7_parts 0 = .ok (.aload_n 0, 1) := by decide +kernel
theorem dX7_parts_1 : decode cX7_parts 1 = .ok (.iconst 0, 1) := by decide +kernel
theorem dX7_parts_2 : decode cX7_parts 2 = .ok (.putfield 159, 3) := by decide +kernel
theorem dX7_parts_5 : decode cX7_parts 5 = .ok (.aload_n 0, 1) := by decide +kernel
theorem dX7_parts_6 : decode cX7_parts 6 = .ok (.iconst (-1), 1) := by decide +kernel
theorem dX7_parts_7 : decode cX7_parts 7 = .ok (.putfield 162, 3) := by decide +kernel
theorem dX7_parts_10 : decode cX7_parts 10 = .ok (.aload_n 0, 1) := by decide +kernel
theorem dX7_parts_11 : decode cX7_parts 11 = .ok (.iload_n 1, 1) := by decide +kernel
theorem dX7_parts_12 : decode cX7_parts 12 = .ok (.invokevirtual 179, 3) := by decide +kernel
theorem dX7_parts_15 : decode cX7_parts 15 = .ok (.istore_n 2, 1) := by decide +kernel
theorem dX7_parts_16 : decode cX7_parts 16 = .ok (.iconst 1, 1) := by decide +kernel
theorem dX7_parts_17 : decode cX7_parts 17 = .ok (.istore_n 3, 1) := by decide +kernel
theorem dX7_parts_18 : decode cX7_parts 18 = .ok (.aload_n 0, 1) := by decide +kernel
theorem dX7_parts_19 : decode cX7_parts 19 = .ok (.getfield 162, 3) := by decide +kernel
theorem dX7_parts_22 : decode cX7_parts 22 = .ok (.ifCond .ge 42, 3) := by decide +kernel
theorem dX7_parts_25 : decode cX7_parts 25 = .ok (.iload_n 3, 1) := by decide +kernel
theorem dX7_parts_26 : decode cX7_parts 26 = .ok (.bipush 30, 2) := by decide +kernel
theorem dX7_parts_28 : decode cX7_parts 28 = .ok (.if_icmp .ge 36, 3) := by decide +kernel
theorem dX7_parts_31 : decode cX7_parts 31 = .ok (.aload_n 0, 1) := by decide +kernel
theorem dX7_parts_32 : decode cX7_parts 32 = .ok (.invokevirtual 165, 3) := by decide +kernel
theorem dX7_parts_35 : decode cX7_parts 35 = .ok (.bipush 32, 2) := by decide +kernel
theorem dX7_parts_37 : decode cX7_parts 37 = .ok (.if_icmp .ne 27, 3) := by decide +kernel
theorem dX7_parts_40 : decode cX7_parts 40 = .ok (.aload_n 0, 1) := by decide +kernel
theorem dX7_parts_41 : decode cX7_parts 41 = .ok (.dup, 1) := by decide +kernel
theorem dX7_parts_42 : decode cX7_parts 42 = .ok (.getfield 159, 3) := by decide +kernel
theorem dX7_parts_45 : decode cX7_parts 45 = .ok (.iconst 1, 1) := by decide +kernel
theorem dX7_parts_46 : decode cX7_parts 46 = .ok (.iadd, 1) := by decide +kernel
theorem dX7_parts_47 : decode cX7_parts 47 = .ok (.putfield 159, 3) := by decide +kernel
theorem dX7_parts_50 : decode cX7_parts 50 = .ok (.iload_n 2, 1) := by decide +kernel
theorem dX7_parts_51 : decode cX7_parts 51 = .ok (.aload_n 0, 1) := by decide +kernel
theorem dX7_parts_52 : decode cX7_parts 52 = .ok (.iload_n 1, 1) := by decide +kernel
theorem dX7_parts_53 : decode cX7_parts 53 = .ok (.invokevirtual 179, 3) := by decide +kernel
theorem dX7_parts_56 : decode cX7_parts 56 = .ok (.iadd, 1) := by decide +kernel
theorem dX7_parts_57 : decode cX7_parts 57 = .ok (.istore_n 2, 1) := by decide +kernel
theorem dX7_parts_58 : decode cX7_parts 58 = .ok (.iinc 3 1, 3) := by decide +kernel
theorem dX7_parts_61 : decode cX7_parts 61 = .ok (.goto (-43), 3) := by decide +kernel
theorem dX7_parts_64 : decode cX7_parts 64 = .ok (.aload_n 0, 1) := by decide +kernel
theorem dX7_parts_65 : decode cX7_parts 65 = .ok (.getfield 159, 3) := by decide +kernel
theorem dX7_parts_68 : decode cX7_parts 68 = .ok (.aload_n 0, 1) := by decide +kernel
theorem dX7_parts_69 : decode cX7_parts 69 = .ok (.getfield 156, 3) := by decide +kernel
theorem dX7_parts_72 : decode cX7_parts 72 = .ok (.if_icmp .ge 11, 3) := by decide +kernel
theorem dX7_parts_75 : decode cX7_parts 75 = .ok (.aload_n 0, 1) := by decide +kernel
theorem dX7_parts_76 : decode cX7_parts 76 = .ok (.aload_n 0, 1) := by decide +kernel
theorem dX7_parts_77 : decode cX7_parts 77 = .ok (.getfield 159, 3) := by decide +kernel
theorem dX7_parts_80 : decode cX7_parts 80 = .ok (.invokevirtual 172, 3) := by decide +kernel
theorem dX7_parts_83 : decode cX7_parts 83 = .ok (.iload_n 2, 1) := by decide +kernel
theorem dX7_parts_84 : decode cX7_parts 84 = .ok (.ireturn, 1) := by decide +kernel
theorem dX7_traffic_0 : decode cX7_traffic 0 = .ok (.aload_n 0, 1) := by decide +kernel
theorem dX7_traffic_1 : decode cX7_traffic 1 = .ok (.iconst 0, 1) := by decide +kernel
theorem dX7_traffic_2 : decode cX7_traffic 2 = .ok (.invokevirtual 183, 3) := by decide +kernel
theorem dX7_traffic_5 : decode cX7_traffic 5 = .ok (.pop, 1) := by decide +kernel
theorem dX7_traffic_6 : decode cX7_traffic 6 = .ok (.aload_n 0, 1) := by decide +kernel
theorem dX7_traffic_7 : decode cX7_traffic 7 = .ok (.getfield 162, 3) := by decide +kernel
theorem dX7_traffic_10 : decode cX7_traffic 10 = .ok (.ifCond .lt 24, 3) := by decide +kernel
theorem dX7_traffic_13 : decode cX7_traffic 13 = .ok (.aload_n 0, 1) := by decide +kernel
theorem dX7_traffic_14 : decode cX7_traffic 14 = .ok (.iconst 0, 1) := by decide +kernel
theorem dX7_traffic_15 : decode cX7_traffic 15 = .ok (.putfield 156, 3) := by decide +kernel
theorem dX7_traffic_18 : decode cX7_traffic 18 = .ok (.aload_n 0, 1) := by decide +kernel
theorem dX7_traffic_19 : decode cX7_traffic 19 = .ok (.bipush (-52), 2) := by decide +kernel
theorem dX7_traffic_21 : decode cX7_traffic 21 = .ok (.invokevirtual 127, 3) := by decide +kernel
theorem dX7_traffic_24 : decode cX7_traffic 24 = .ok (.pop, 1) := by decide +kernel
theorem dX7_traffic_25 : decode cX7_traffic 25 = .ok (.sipush (-800), 3) := by decide +kernel
theorem dX7_traffic_28 : decode cX7_traffic 28 = .ok (.aload_n 0, 1) := by decide +kernel
theorem dX7_traffic_29 : decode cX7_traffic 29 = .ok (.getfield 162, 3) := by decide +kernel
theorem dX7_traffic_32 : decode cX7_traffic 32 = .ok (.isub, 1) := by decide +kernel
theorem dX7_traffic_33 : decode cX7_traffic 33 = .ok (.ireturn, 1) := by decide +kernel
theorem dX7_traffic_34 : decode cX7_traffic 34 = .ok (.aload_n 0, 1) := by decide +kernel
theorem dX7_traffic_35 : decode cX7_traffic 35 = .ok (.iconst 1, 1) := by decide +kernel
theorem dX7_traffic_36 : decode cX7_traffic 36 = .ok (.invokevirtual 183, 3) := by decide +kernel
theorem dX7_traffic_39 : decode cX7_traffic 39 = .ok (.istore_n 1, 1) := by decide +kernel
theorem dX7_traffic_40 : decode cX7_traffic 40 = .ok (.aload_n 0, 1) := by decide +kernel
theorem dX7_traffic_41 : decode cX7_traffic 41 = .ok (.iconst 0, 1) := by decide +kernel
theorem dX7_traffic_42 : decode cX7_traffic 42 = .ok (.putfield 156, 3) := by decide +kernel
theorem dX7_traffic_45 : decode cX7_traffic 45 = .ok (.iload_n 1, 1) := by decide +kernel
theorem dX7_traffic_46 : decode cX7_traffic 46 = .ok (.ireturn, 1) := by decide +kernel
theorem dX7_isShelf_0 : decode cX7_isShelf 0 = .ok (.iload_n 0, 1) := by decide +kernel
theorem dX7_isShelf_1 : decode cX7_isShelf 1 = .ok (.i2l, 1) := by decide +kernel
theorem dX7_isShelf_2 : decode cX7_isShelf 2 = .ok (.lconst 0, 1) := by decide +kernel
theorem dX7_isShelf_3 : decode cX7_isShelf 3 = .ok (.ldc2_w 186, 3) := by decide +kernel
theorem dX7_isShelf_6 : decode cX7_isShelf 6 = .ok (.invokestatic 47, 3) := by decide +kernel
theorem dX7_isShelf_9 : decode cX7_isShelf 9 = .ok (.ireturn, 1) := by decide +kernel
theorem dX7_row_0 : decode cX7_row 0 = .ok (.iload_n 1, 1) := by decide +kernel
theorem dX7_row_1 : decode cX7_row 1 = .ok (.invokestatic 188, 3) := by decide +kernel
theorem dX7_row_4 : decode cX7_row 4 = .ok (.ifCond .eq 27, 3) := by decide +kernel
theorem dX7_row_7 : decode cX7_row 7 = .ok (.iload_n 2, 1) := by decide +kernel
theorem dX7_row_8 : decode cX7_row 8 = .ok (.i2l, 1) := by decide +kernel
theorem dX7_row_9 : decode cX7_row 9 = .ok (.lconst 0, 1) := by decide +kernel
theorem dX7_row_10 : decode cX7_row 10 = .ok (.ldc2_w 191, 3) := by decide +kernel
theorem dX7_row_13 : decode cX7_row 13 = .ok (.invokestatic 47, 3) := by decide +kernel
theorem dX7_row_16 : decode cX7_row 16 = .ok (.ifCond .eq 15, 3) := by decide +kernel
theorem dX7_row_19 : decode cX7_row 19 = .ok (.iload_n 3, 1) := by decide +kernel
theorem dX7_row_20 : decode cX7_row 20 = .ok (.i2l, 1) := by decide +kernel
theorem dX7_row_21 : decode cX7_row 21 = .ok (.lconst 0, 1) := by decide +kernel
theorem dX7_row_22 : decode cX7_row 22 = .ok (.ldc2_w 193, 3) := by decide +kernel
theorem dX7_row_25 : decode cX7_row 25 = .ok (.invokestatic 47, 3) := by decide +kernel
theorem dX7_row_28 : decode cX7_row 28 = .ok (.ifCond .ne 10, 3) := by decide +kernel
theorem dX7_row_31 : decode cX7_row 31 = .ok (.aload_n 0, 1) := by decide +kernel
theorem dX7_row_32 : decode cX7_row 32 = .ok (.bipush (-52), 2) := by decide +kernel
theorem dX7_row_34 : decode cX7_row 34 = .ok (.invokevirtual 127, 3) := by decide +kernel
theorem dX7_row_37 : decode cX7_row 37 = .ok (.ireturn, 1) := by decide +kernel
theorem dX7_row_38 : decode cX7_row 38 = .ok (.aload_n 0, 1) := by decide +kernel
theorem dX7_row_39 : decode cX7_row 39 = .ok (.getfield 25, 3) := by decide +kernel
theorem dX7_row_42 : decode cX7_row 42 = .ok (.iload_n 1, 1) := by decide +kernel
theorem dX7_row_43 : decode cX7_row 43 = .ok (.iload_n 2, 1) := by decide +kernel
theorem dX7_row_44 : decode cX7_row 44 = .ok (.iastore, 1) := by decide +kernel
theorem dX7_row_45 : decode cX7_row 45 = .ok (.aload_n 0, 1) := by decide +kernel
theorem dX7_row_46 : decode cX7_row 46 = .ok (.getfield 28, 3) := by decide +kernel
theorem dX7_row_49 : decode cX7_row 49 = .ok (.iload_n 1, 1) := by decide +kernel
theorem dX7_row_50 : decode cX7_row 50 = .ok (.iload_n 3, 1) := by decide +kernel
theorem dX7_row_51 : decode cX7_row 51 = .ok (.iastore, 1) := by decide +kernel
theorem dX7_row_52 : decode cX7_row 52 = .ok (.iconst 0, 1) := by decide +kernel
theorem dX7_row_53 : decode cX7_row 53 = .ok (.istore 4, 2) := by decide +kernel
theorem dX7_row_55 : decode cX7_row 55 = .ok (.iload 4, 2) := by decide +kernel
theorem dX7_row_57 : decode cX7_row 57 = .ok (.bipush 40, 2) := by decide +kernel
theorem dX7_row_59 : decode cX7_row 59 = .ok (.if_icmp .ge 22, 3) := by decide +kernel
theorem dX7_row_62 : decode cX7_row 62 = .ok (.aload_n 0, 1) := by decide +kernel
theorem dX7_row_63 : decode cX7_row 63 = .ok (.getfield 31, 3) := by decide +kernel
theorem dX7_row_66 : decode cX7_row 66 = .ok (.bipush 40, 2) := by decide +kernel
theorem dX7_row_68 : decode cX7_row 68 = .ok (.iload_n 1, 1) := by decide +kernel
theorem dX7_row_69 : decode cX7_row 69 = .ok (.imul, 1) := by decide +kernel
theorem dX7_row_70 : decode cX7_row 70 = .ok (.iload 4, 2) := by decide +kernel
theorem dX7_row_72 : decode cX7_row 72 = .ok (.iadd, 1) := by decide +kernel
theorem dX7_row_73 : decode cX7_row 73 = .ok (.lconst 0, 1) := by decide +kernel
theorem dX7_row_74 : decode cX7_row 74 = .ok (.lastore, 1) := by decide +kernel
theorem dX7_row_75 : decode cX7_row 75 = .ok (.iinc 4 1, 3) := by decide +kernel
theorem dX7_row_78 : decode cX7_row 78 = .ok (.goto (-23), 3) := by decide +kernel
theorem dX7_row_81 : decode cX7_row 81 = .ok (.iconst 1, 1) := by decide +kernel
theorem dX7_row_82 : decode cX7_row 82 = .ok (.ireturn, 1) := by decide +kernel
theorem dX7_amiss_0 : decode cX7_amiss 0 = .ok (.aload_n 0, 1) := by decide +kernel
theorem dX7_amiss_1 : decode cX7_amiss 1 = .ok (.getfield 25, 3) := by decide +kernel
theorem dX7_amiss_4 : decode cX7_amiss 4 = .ok (.iload_n 1, 1) := by decide +kernel
theorem dX7_amiss_5 : decode cX7_amiss 5 = .ok (.iaload, 1) := by decide +kernel
theorem dX7_amiss_6 : decode cX7_amiss 6 = .ok (.ifCond .ge 8, 3) := by decide +kernel
theorem dX7_amiss_9 : decode cX7_amiss 9 = .ok (.bipush (-54), 2) := by decide +kernel
theorem dX7_amiss_11 : decode cX7_amiss 11 = .ok (.goto 20, 3) := by decide +kernel
theorem dX7_amiss_14 : decode cX7_amiss 14 = .ok (.aload_n 0, 1) := by decide +kernel
theorem dX7_amiss_15 : decode cX7_amiss 15 = .ok (.getfield 25, 3) := by decide +kernel
theorem dX7_amiss_18 : decode cX7_amiss 18 = .ok (.iload_n 1, 1) := by decide +kernel
theorem dX7_amiss_19 : decode cX7_amiss 19 = .ok (.iaload, 1) := by decide +kernel
theorem dX7_amiss_20 : decode cX7_amiss 20 = .ok (.bipush 9, 2) := by decide +kernel
theorem dX7_amiss_22 : decode cX7_amiss 22 = .ok (.if_icmp .le 8, 3) := by decide +kernel
theorem dX7_amiss_25 : decode cX7_amiss 25 = .ok (.bipush (-53), 2) := by decide +kernel
theorem dX7_amiss_27 : decode cX7_amiss 27 = .ok (.goto 4, 3) := by decide +kernel
theorem dX7_amiss_30 : decode cX7_amiss 30 = .ok (.iconst 0, 1) := by decide +kernel
theorem dX7_amiss_31 : decode cX7_amiss 31 = .ok (.ireturn, 1) := by decide +kernel
theorem dX7_set_0 : decode cX7_set 0 = .ok (.iload_n 1, 1) := by decide +kernel
theorem dX7_set_1 : decode cX7_set 1 = .ok (.invokestatic 188, 3) := by decide +kernel
theorem dX7_set_4 : decode cX7_set 4 = .ok (.ifCond .eq 11, 3) := by decide +kernel
theorem dX7_set_7 : decode cX7_set 7 = .ok (.aload_n 0, 1) := by decide +kernel
theorem dX7_set_8 : decode cX7_set 8 = .ok (.iload_n 1, 1) := by decide +kernel
theorem dX7_set_9 : decode cX7_set 9 = .ok (.invokevirtual 195, 3) := by decide +kernel
theorem dX7_set_12 : decode cX7_set 12 = .ok (.goto 5, 3) := by decide +kernel
theorem dX7_set_15 : decode cX7_set 15 = .ok (.bipush (-52), 2) := by decide +kernel
theorem dX7_set_17 : decode cX7_set 17 = .ok (.istore 5, 2) := by decide +kernel
theorem dX7_set_19 : decode cX7_set 19 = .ok (.iload 5, 2) := by decide +kernel
theorem dX7_set_21 : decode cX7_set 21 = .ok (.ifCond .ne 21, 3) := by decide +kernel
theorem dX7_set_24 : decode cX7_set 24 = .ok (.iload_n 2, 1) := by decide +kernel
theorem dX7_set_25 : decode cX7_set 25 = .ok (.i2l, 1) := by decide +kernel
theorem dX7_set_26 : decode cX7_set 26 = .ok (.lconst 0, 1) := by decide +kernel
theorem dX7_set_27 : decode cX7_set 27 = .ok (.aload_n 0, 1) := by decide +kernel
theorem dX7_set_28 : decode cX7_set 28 = .ok (.getfield 28, 3) := by decide +kernel
theorem dX7_set_31 : decode cX7_set 31 = .ok (.iload_n 1, 1) := by decide +kernel
theorem dX7_set_32 : decode cX7_set 32 = .ok (.iaload, 1) := by decide +kernel
theorem dX7_set_33 : decode cX7_set 33 = .ok (.iconst 1, 1) := by decide +kernel
theorem dX7_set_34 : decode cX7_set 34 = .ok (.isub, 1) := by decide +kernel
theorem dX7_set_35 : decode cX7_set 35 = .ok (.i2l, 1) := by decide +kernel
theorem dX7_set_36 : decode cX7_set 36 = .ok (.invokestatic 47, 3) := by decide +kernel
theorem dX7_set_39 : decode cX7_set 39 = .ok (.ifCond .ne 20, 3) := by decide +kernel
theorem dX7_set_42 : decode cX7_set 42 = .ok (.aload_n 0, 1) := by decide +kernel
theorem dX7_set_43 : decode cX7_set 43 = .ok (.iload 5, 2) := by decide +kernel
theorem dX7_set_45 : decode cX7_set 45 = .ok (.ifCond .eq 8, 3) := by decide +kernel
theorem dX7_set_48 : decode cX7_set 48 = .ok (.iload 5, 2) := by decide +kernel
theorem dX7_set_50 : decode cX7_set 50 = .ok (.goto 5, 3) := by decide +kernel
theorem dX7_set_53 : decode cX7_set 53 = .ok (.bipush (-52), 2) := by decide +kernel
theorem dX7_set_55 : decode cX7_set 55 = .ok (.invokevirtual 127, 3) := by decide +kernel
theorem dX7_set_58 : decode cX7_set 58 = .ok (.ireturn, 1) := by decide +kernel
theorem dX7_set_59 : decode cX7_set 59 = .ok (.aload_n 0, 1) := by decide +kernel
theorem dX7_set_60 : decode cX7_set 60 = .ok (.getfield 25, 3) := by decide +kernel
theorem dX7_set_63 : decode cX7_set 63 = .ok (.iload_n 1, 1) := by decide +kernel
theorem dX7_set_64 : decode cX7_set 64 = .ok (.iaload, 1) := by decide +kernel
theorem dX7_set_65 : decode cX7_set 65 = .ok (.istore 6, 2) := by decide +kernel
theorem dX7_set_67 : decode cX7_set 67 = .ok (.aload_n 0, 1) := by decide +kernel
theorem dX7_set_68 : decode cX7_set 68 = .ok (.getfield 31, 3) := by decide +kernel
theorem dX7_set_71 : decode cX7_set 71 = .ok (.bipush 40, 2) := by decide +kernel
theorem dX7_set_73 : decode cX7_set 73 = .ok (.iload_n 1, 1) := by decide +kernel
theorem dX7_set_74 : decode cX7_set 74 = .ok (.imul, 1) := by decide +kernel
theorem dX7_set_75 : decode cX7_set 75 = .ok (.iload_n 2, 1) := by decide +kernel
theorem dX7_set_76 : decode cX7_set 76 = .ok (.iadd, 1) := by decide +kernel
theorem dX7_set_77 : decode cX7_set 77 = .ok (.iload 6, 2) := by decide +kernel
theorem dX7_set_79 : decode cX7_set 79 = .ok (.ifCond .ne 10, 3) := by decide +kernel
theorem dX7_set_82 : decode cX7_set 82 = .ok (.lload_n 3, 1) := by decide +kernel
theorem dX7_set_83 : decode cX7_set 83 = .ok (.l2i, 1) := by decide +kernel
theorem dX7_set_84 : decode cX7_set 84 = .ok (.i2b, 1) := by decide +kernel
theorem dX7_set_85 : decode cX7_set 85 = .ok (.i2l, 1) := by decide +kernel
theorem dX7_set_86 : decode cX7_set 86 = .ok (.goto 49, 3) := by decide +kernel
theorem dX7_set_89 : decode cX7_set 89 = .ok (.iload 6, 2) := by decide +kernel
theorem dX7_set_91 : decode cX7_set 91 = .ok (.iconst 1, 1) := by decide +kernel
theorem dX7_set_92 : decode cX7_set 92 = .ok (.if_icmp .ne 10, 3) := by decide +kernel
theorem dX7_set_95 : decode cX7_set 95 = .ok (.lload_n 3, 1) := by decide +kernel
theorem dX7_set_96 : decode cX7_set 96 = .ok (.l2i, 1) := by decide +kernel
theorem dX7_set_97 : decode cX7_set 97 = .ok (.i2s, 1) := by decide +kernel
theorem dX7_set_98 : decode cX7_set 98 = .ok (.i2l, 1) := by decide +kernel
theorem dX7_set_99 : decode cX7_set 99 = .ok (.goto 36, 3) := by decide +kernel
theorem dX7_set_102 : decode cX7_set 102 = .ok (.iload 6, 2) := by decide +kernel
theorem dX7_set_104 : decode cX7_set 104 = .ok (.iconst 2, 1) := by decide +kernel
theorem dX7_set_105 : decode cX7_set 105 = .ok (.if_icmp .ne 9, 3) := by decide +kernel
theorem dX7_set_108 : decode cX7_set 108 = .ok (.lload_n 3, 1) := by decide +kernel
theorem dX7_set_109 : decode cX7_set 109 = .ok (.l2i, 1) := by decide +kernel
theorem dX7_set_110 : decode cX7_set 110 = .ok (.i2l, 1) := by decide +kernel
theorem dX7_set_111 : decode cX7_set 111 = .ok (.goto 24, 3) := by decide +kernel
theorem dX7_set_114 : decode cX7_set 114 = .ok (.iload 6, 2) := by decide +kernel
theorem dX7_set_116 : decode cX7_set 116 = .ok (.iconst 3, 1) := by decide +kernel
theorem dX7_set_117 : decode cX7_set 117 = .ok (.if_icmp .ne 7, 3) := by decide +kernel
theorem dX7_set_120 : decode cX7_set 120 = .ok (.lload_n 3, 1) := by decide +kernel
theorem dX7_set_121 : decode cX7_set 121 = .ok (.goto 14, 3) := by decide +kernel
theorem dX7_set_124 : decode cX7_set 124 = .ok (.lload_n 3, 1) := by decide +kernel
theorem dX7_set_125 : decode cX7_set 125 = .ok (.lconst 0, 1) := by decide +kernel
theorem dX7_set_126 : decode cX7_set 126 = .ok (.lcmp, 1) := by decide +kernel
theorem dX7_set_127 : decode cX7_set 127 = .ok (.ifCond .eq 7, 3) := by decide +kernel
theorem dX7_set_130 : decode cX7_set 130 = .ok (.lconst 1, 1) := by decide +kernel
theorem dX7_set_131 : decode cX7_set 131 = .ok (.goto 4, 3) := by decide +kernel
theorem dX7_set_134 : decode cX7_set 134 = .ok (.lconst 0, 1) := by decide +kernel
theorem dX7_set_135 : decode cX7_set 135 = .ok (.lastore, 1) := by decide +kernel
theorem dX7_set_136 : decode cX7_set 136 = .ok (.iconst 1, 1) := by decide +kernel
theorem dX7_set_137 : decode cX7_set 137 = .ok (.ireturn, 1) := by decide +kernel
theorem dX7_copy_0 : decode cX7_copy 0 = .ok (.iload_n 1, 1) := by decide +kernel
theorem dX7_copy_1 : decode cX7_copy 1 = .ok (.invokestatic 188, 3) := by decide +kernel
theorem dX7_copy_4 : decode cX7_copy 4 = .ok (.ifCond .eq 10, 3) := by decide +kernel
theorem dX7_copy_7 : decode cX7_copy 7 = .ok (.iload_n 2, 1) := by decide +kernel
theorem dX7_copy_8 : decode cX7_copy 8 = .ok (.invokestatic 188, 3) := by decide +kernel
theorem dX7_copy_11 : decode cX7_copy 11 = .ok (.ifCond .ne 10, 3) := by decide +kernel
theorem dX7_copy_14 : decode cX7_copy 14 = .ok (.aload_n 0, 1) := by decide +kernel
theorem dX7_copy_15 : decode cX7_copy 15 = .ok (.bipush (-52), 2) := by decide +kernel
theorem dX7_copy_17 : decode cX7_copy 17 = .ok (.invokevirtual 127, 3) := by decide +kernel
theorem dX7_copy_20 : decode cX7_copy 20 = .ok (.ireturn, 1) := by decide +kernel
theorem dX7_copy_21 : decode cX7_copy 21 = .ok (.aload_n 0, 1) := by decide +kernel
theorem dX7_copy_22 : decode cX7_copy 22 = .ok (.iload_n 1, 1) := by decide +kernel
theorem dX7_copy_23 : decode cX7_copy 23 = .ok (.invokevirtual 195, 3) := by decide +kernel
theorem dX7_copy_26 : decode cX7_copy 26 = .ok (.istore 6, 2) := by decide +kernel
theorem dX7_copy_28 : decode cX7_copy 28 = .ok (.aload_n 0, 1) := by decide +kernel
theorem dX7_copy_29 : decode cX7_copy 29 = .ok (.iload_n 2, 1) := by decide +kernel
theorem dX7_copy_30 : decode cX7_copy 30 = .ok (.invokevirtual 195, 3) := by decide +kernel
theorem dX7_copy_33 : decode cX7_copy 33 = .ok (.istore 7, 2) := by decide +kernel
theorem dX7_copy_35 : decode cX7_copy 35 = .ok (.iload 6, 2) := by decide +kernel
theorem dX7_copy_37 : decode cX7_copy 37 = .ok (.bipush (-53), 2) := by decide +kernel
theorem dX7_copy_39 : decode cX7_copy 39 = .ok (.if_icmp .eq 35, 3) := by decide +kernel
theorem dX7_copy_42 : decode cX7_copy 42 = .ok (.iload 7, 2) := by decide +kernel
theorem dX7_copy_44 : decode cX7_copy 44 = .ok (.bipush (-53), 2) := by decide +kernel
theorem dX7_copy_46 : decode cX7_copy 46 = .ok (.if_icmp .eq 28, 3) := by decide +kernel
theorem dX7_copy_49 : decode cX7_copy 49 = .ok (.iload 6, 2) := by decide +kernel
theorem dX7_copy_51 : decode cX7_copy 51 = .ok (.ifCond .ne 30, 3) := by decide +kernel
theorem dX7_copy_54 : decode cX7_copy 54 = .ok (.iload 7, 2) := by decide +kernel
theorem dX7_copy_56 : decode cX7_copy 56 = .ok (.ifCond .ne 25, 3) := by decide +kernel
theorem dX7_copy_59 : decode cX7_copy 59 = .ok (.aload_n 0, 1) := by decide +kernel
theorem dX7_copy_60 : decode cX7_copy 60 = .ok (.getfield 25, 3) := by decide +kernel
theorem dX7_copy_63 : decode cX7_copy 63 = .ok (.iload_n 1, 1) := by decide +kernel
theorem dX7_copy_64 : decode cX7_copy 64 = .ok (.iaload, 1) := by decide +kernel
theorem dX7_copy_65 : decode cX7_copy 65 = .ok (.aload_n 0, 1) := by decide +kernel
theorem dX7_copy_66 : decode cX7_copy 66 = .ok (.getfield 25, 3) := by decide +kernel
theorem dX7_copy_69 : decode cX7_copy 69 = .ok (.iload_n 2, 1) := by decide +kernel
theorem dX7_copy_70 : decode cX7_copy 70 = .ok (.iaload, 1) := by decide +kernel
theorem dX7_copy_71 : decode cX7_copy 71 = .ok (.if_icmp .eq 10, 3) := by decide +kernel
theorem dX7_copy_74 : decode cX7_copy 74 = .ok (.aload_n 0, 1) := by decide +kernel
theorem dX7_copy_75 : decode cX7_copy 75 = .ok (.bipush (-53), 2) := by decide +kernel
theorem dX7_copy_77 : decode cX7_copy 77 = .ok (.invokevirtual 127, 3) := by decide +kernel
theorem dX7_copy_80 : decode cX7_copy 80 = .ok (.ireturn, 1) := by decide +kernel
theorem dX7_copy_81 : decode cX7_copy 81 = .ok (.iload 6, 2) := by decide +kernel
theorem dX7_copy_83 : decode cX7_copy 83 = .ok (.ifCond .ne 8, 3) := by decide +kernel
theorem dX7_copy_86 : decode cX7_copy 86 = .ok (.iload 7, 2) := by decide +kernel
theorem dX7_copy_88 : decode cX7_copy 88 = .ok (.ifCond .eq 10, 3) := by decide +kernel
theorem dX7_copy_91 : decode cX7_copy 91 = .ok (.aload_n 0, 1) := by decide +kernel
theorem dX7_copy_92 : decode cX7_copy 92 = .ok (.bipush (-54), 2) := by decide +kernel
theorem dX7_copy_94 : decode cX7_copy 94 = .ok (.invokevirtual 127, 3) := by decide +kernel
theorem dX7_copy_97 : decode cX7_copy 97 = .ok (.ireturn, 1) := by decide +kernel
theorem dX7_copy_98 : decode cX7_copy 98 = .ok (.iload 5, 2) := by decide +kernel
theorem dX7_copy_100 : decode cX7_copy 100 = .ok (.ifCond .lt 39, 3) := by decide +kernel
theorem dX7_copy_103 : decode cX7_copy 103 = .ok (.iload_n 3, 1) := by decide +kernel
theorem dX7_copy_104 : decode cX7_copy 104 = .ok (.ifCond .lt 35, 3) := by decide +kernel
theorem dX7_copy_107 : decode cX7_copy 107 = .ok (.iload 4, 2) := by decide +kernel
theorem dX7_copy_109 : decode cX7_copy 109 = .ok (.ifCond .lt 30, 3) := by decide +kernel
theorem dX7_copy_112 : decode cX7_copy 112 = .ok (.iload 5, 2) := by decide +kernel
theorem dX7_copy_114 : decode cX7_copy 114 = .ok (.aload_n 0, 1) := by decide +kernel
theorem dX7_copy_115 : decode cX7_copy 115 = .ok (.getfield 28, 3) := by decide +kernel
theorem dX7_copy_118 : decode cX7_copy 118 = .ok (.iload_n 1, 1) := by decide +kernel
theorem dX7_copy_119 : decode cX7_copy 119 = .ok (.iaload, 1) := by decide +kernel
theorem dX7_copy_120 : decode cX7_copy 120 = .ok (.iload_n 3, 1) := by decide +kernel
theorem dX7_copy_121 : decode cX7_copy 121 = .ok (.isub, 1) := by decide +kernel
theorem dX7_copy_122 : decode cX7_copy 122 = .ok (.if_icmp .gt 17, 3) := by decide +kernel
theorem dX7_copy_125 : decode cX7_copy 125 = .ok (.iload 5, 2) := by decide +kernel
theorem dX7_copy_127 : decode cX7_copy 127 = .ok (.aload_n 0, 1) := by decide +kernel
theorem dX7_copy_128 : decode cX7_copy 128 = .ok (.getfield 28, 3) := by decide +kernel
theorem dX7_copy_131 : decode cX7_copy 131 = .ok (.iload_n 2, 1) := by decide +kernel
theorem dX7_copy_132 : decode cX7_copy 132 = .ok (.iaload, 1) := by decide +kernel
theorem dX7_copy_133 : decode cX7_copy 133 = .ok (.iload 4, 2) := by decide +kernel
theorem dX7_copy_135 : decode cX7_copy 135 = .ok (.isub, 1) := by decide +kernel
theorem dX7_copy_136 : decode cX7_copy 136 = .ok (.if_icmp .le 10, 3) := by decide +kernel
theorem dX7_copy_139 : decode cX7_copy 139 = .ok (.aload_n 0, 1) := by decide +kernel
theorem dX7_copy_140 : decode cX7_copy 140 = .ok (.bipush (-52), 2) := by decide +kernel
theorem dX7_copy_142 : decode cX7_copy 142 = .ok (.invokevirtual 127, 3) := by decide +kernel
theorem dX7_copy_145 : decode cX7_copy 145 = .ok (.ireturn, 1) := by decide +kernel
theorem dX7_copy_146 : decode cX7_copy 146 = .ok (.iconst 0, 1) := by decide +kernel
theorem dX7_copy_147 : decode cX7_copy 147 = .ok (.istore 8, 2) := by decide +kernel
theorem dX7_copy_149 : decode cX7_copy 149 = .ok (.iload 8, 2) := by decide +kernel
theorem dX7_copy_151 : decode cX7_copy 151 = .ok (.iload 5, 2) := by decide +kernel
theorem dX7_copy_153 : decode cX7_copy 153 = .ok (.if_icmp .ge 30, 3) := by decide +kernel
theorem dX7_copy_156 : decode cX7_copy 156 = .ok (.aload_n 0, 1) := by decide +kernel
theorem dX7_copy_157 : decode cX7_copy 157 = .ok (.getfield 35, 3) := by decide +kernel
theorem dX7_copy_160 : decode cX7_copy 160 = .ok (.iload 8, 2) := by decide +kernel
theorem dX7_copy_162 : decode cX7_copy 162 = .ok (.aload_n 0, 1) := by decide +kernel
theorem dX7_copy_163 : decode cX7_copy 163 = .ok (.getfield 31, 3) := by decide +kernel
theorem dX7_copy_166 : decode cX7_copy 166 = .ok (.bipush 40, 2) := by decide +kernel
theorem dX7_copy_168 : decode cX7_copy 168 = .ok (.iload_n 1, 1) := by decide +kernel
theorem dX7_copy_169 : decode cX7_copy 169 = .ok (.imul, 1) := by decide +kernel
theorem dX7_copy_170 : decode cX7_copy 170 = .ok (.iload_n 3, 1) := by decide +kernel
theorem dX7_copy_171 : decode cX7_copy 171 = .ok (.iadd, 1) := by decide +kernel
theorem dX7_copy_172 : decode cX7_copy 172 = .ok (.iload 8, 2) := by decide +kernel
theorem dX7_copy_174 : decode cX7_copy 174 = .ok (.iadd, 1) := by decide +kernel
theorem dX7_copy_175 : decode cX7_copy 175 = .ok (.laload, 1) := by decide +kernel
theorem dX7_copy_176 : decode cX7_copy 176 = .ok (.lastore, 1) := by decide +kernel
theorem dX7_copy_177 : decode cX7_copy 177 = .ok (.iinc 8 1, 3) := by decide +kernel
theorem dX7_copy_180 : decode cX7_copy 180 = .ok (.goto (-31), 3) := by decide +kernel
theorem dX7_copy_183 : decode cX7_copy 183 = .ok (.iconst 0, 1) := by decide +kernel
theorem dX7_copy_184 : decode cX7_copy 184 = .ok (.istore 8, 2) := by decide +kernel
theorem dX7_copy_186 : decode cX7_copy 186 = .ok (.iload 8, 2) := by decide +kernel
theorem dX7_copy_188 : decode cX7_copy 188 = .ok (.iload 5, 2) := by decide +kernel
theorem dX7_copy_190 : decode cX7_copy 190 = .ok (.if_icmp .ge 31, 3) := by decide +kernel
theorem dX7_copy_193 : decode cX7_copy 193 = .ok (.aload_n 0, 1) := by decide +kernel
theorem dX7_copy_194 : decode cX7_copy 194 = .ok (.getfield 31, 3) := by decide +kernel
theorem dX7_copy_197 : decode cX7_copy 197 = .ok (.bipush 40, 2) := by decide +kernel
theorem dX7_copy_199 : decode cX7_copy 199 = .ok (.iload_n 2, 1) := by decide +kernel
theorem dX7_copy_200 : decode cX7_copy 200 = .ok (.imul, 1) := by decide +kernel
theorem dX7_copy_201 : decode cX7_copy 201 = .ok (.iload 4, 2) := by decide +kernel
theorem dX7_copy_203 : decode cX7_copy 203 = .ok (.iadd, 1) := by decide +kernel
theorem dX7_copy_204 : decode cX7_copy 204 = .ok (.iload 8, 2) := by decide +kernel
theorem dX7_copy_206 : decode cX7_copy 206 = .ok (.iadd, 1) := by decide +kernel
theorem dX7_copy_207 : decode cX7_copy 207 = .ok (.aload_n 0, 1) := by decide +kernel
theorem dX7_copy_208 : decode cX7_copy 208 = .ok (.getfield 35, 3) := by decide +kernel
theorem dX7_copy_211 : decode cX7_copy 211 = .ok (.iload 8, 2) := by decide +kernel
theorem dX7_copy_213 : decode cX7_copy 213 = .ok (.laload, 1) := by decide +kernel
theorem dX7_copy_214 : decode cX7_copy 214 = .ok (.lastore, 1) := by decide +kernel
theorem dX7_copy_215 : decode cX7_copy 215 = .ok (.iinc 8 1, 3) := by decide +kernel
theorem dX7_copy_218 : decode cX7_copy 218 = .ok (.goto (-32), 3) := by decide +kernel
theorem dX7_copy_221 : decode cX7_copy 221 = .ok (.iload 5, 2) := by decide +kernel
theorem dX7_copy_223 : decode cX7_copy 223 = .ok (.ireturn, 1) := by decide +kernel
theorem dX7_element_0 : decode cX7_element 0 = .ok (.iload_n 1, 1) := by decide +kernel
theorem dX7_element_1 : decode cX7_element 1 = .ok (.invokestatic 188, 3) := by decide +kernel
theorem dX7_element_4 : decode cX7_element 4 = .ok (.ifCond .eq 43, 3) := by decide +kernel
theorem dX7_element_7 : decode cX7_element 7 = .ok (.aload_n 0, 1) := by decide +kernel
theorem dX7_element_8 : decode cX7_element 8 = .ok (.iload_n 1, 1) := by decide +kernel
theorem dX7_element_9 : decode cX7_element 9 = .ok (.invokevirtual 195, 3) := by decide +kernel
theorem dX7_element_12 : decode cX7_element 12 = .ok (.ifCond .ne 35, 3) := by decide +kernel
theorem dX7_element_15 : decode cX7_element 15 = .ok (.iload_n 2, 1) := by decide +kernel
theorem dX7_element_16 : decode cX7_element 16 = .ok (.i2l, 1) := by decide +kernel
theorem dX7_element_17 : decode cX7_element 17 = .ok (.lconst 0, 1) := by decide +kernel
theorem dX7_element_18 : decode cX7_element 18 = .ok (.aload_n 0, 1) := by decide +kernel
theorem dX7_element_19 : decode cX7_element 19 = .ok (.getfield 28, 3) := by decide +kernel
theorem dX7_element_22 : decode cX7_element 22 = .ok (.iload_n 1, 1) := by decide +kernel
theorem dX7_element_23 : decode cX7_element 23 = .ok (.iaload, 1) := by decide +kernel
theorem dX7_element_24 : decode cX7_element 24 = .ok (.iconst 1, 1) := by decide +kernel
theorem dX7_element_25 : decode cX7_element 25 = .ok (.isub, 1) := by decide +kernel
theorem dX7_element_26 : decode cX7_element 26 = .ok (.i2l, 1) := by decide +kernel
theorem dX7_element_27 : decode cX7_element 27 = .ok (.invokestatic 47, 3) := by decide +kernel
theorem dX7_element_30 : decode cX7_element 30 = .ok (.ifCond .eq 17, 3) := by decide +kernel
theorem dX7_element_33 : decode cX7_element 33 = .ok (.aload_n 0, 1) := by decide +kernel
theorem dX7_element_34 : decode cX7_element 34 = .ok (.getfield 31, 3) := by decide +kernel
theorem dX7_element_37 : decode cX7_element 37 = .ok (.bipush 40, 2) := by decide +kernel
theorem dX7_element_39 : decode cX7_element 39 = .ok (.iload_n 1, 1) := by decide +kernel
theorem dX7_element_40 : decode cX7_element 40 = .ok (.imul, 1) := by decide +kernel
theorem dX7_element_41 : decode cX7_element 41 = .ok (.iload_n 2, 1) := by decide +kernel
theorem dX7_element_42 : decode cX7_element 42 = .ok (.iadd, 1) := by decide +kernel
theorem dX7_element_43 : decode cX7_element 43 = .ok (.laload, 1) := by decide +kernel
theorem dX7_element_44 : decode cX7_element 44 = .ok (.goto 4, 3) := by decide +kernel
theorem dX7_element_47 : decode cX7_element 47 = .ok (.lconst 0, 1) := by decide +kernel
theorem dX7_element_48 : decode cX7_element 48 = .ok (.lreturn, 1) := by decide +kernel
theorem dX7_holds_0 : decode cX7_holds 0 = .ok (.iload_n 1, 1) := by decide +kernel
theorem dX7_holds_1 : decode cX7_holds 1 = .ok (.invokestatic 188, 3) := by decide +kernel
theorem dX7_holds_4 : decode cX7_holds 4 = .ok (.ifCond .eq 12, 3) := by decide +kernel
theorem dX7_holds_7 : decode cX7_holds 7 = .ok (.aload_n 0, 1) := by decide +kernel
theorem dX7_holds_8 : decode cX7_holds 8 = .ok (.getfield 25, 3) := by decide +kernel
theorem dX7_holds_11 : decode cX7_holds 11 = .ok (.iload_n 1, 1) := by decide +kernel
theorem dX7_holds_12 : decode cX7_holds 12 = .ok (.iaload, 1) := by decide +kernel
theorem dX7_holds_13 : decode cX7_holds 13 = .ok (.goto 4, 3) := by decide +kernel
theorem dX7_holds_16 : decode cX7_holds 16 = .ok (.iconst (-1), 1) := by decide +kernel
theorem dX7_holds_17 : decode cX7_holds 17 = .ok (.ireturn, 1) := by decide +kernel
theorem dX7_show_0 : decode cX7_show 0 = .ok (.iload_n 1, 1) := by decide +kernel
theorem dX7_show_1 : decode cX7_show 1 = .ok (.invokestatic 188, 3) := by decide +kernel
theorem dX7_show_4 : decode cX7_show 4 = .ok (.ifCond .eq 16, 3) := by decide +kernel
theorem dX7_show_7 : decode cX7_show 7 = .ok (.iload_n 2, 1) := by decide +kernel
theorem dX7_show_8 : decode cX7_show 8 = .ok (.iconst (-1), 1) := by decide +kernel
theorem dX7_show_9 : decode cX7_show 9 = .ok (.if_icmp .eq 18, 3) := by decide +kernel
theorem dX7_show_12 : decode cX7_show 12 = .ok (.aload_n 0, 1) := by decide +kernel
theorem dX7_show_13 : decode cX7_show 13 = .ok (.iload_n 2, 1) := by decide +kernel
theorem dX7_show_14 : decode cX7_show 14 = .ok (.invokevirtual 147, 3) := by decide +kernel
theorem dX7_show_17 : decode cX7_show 17 = .ok (.ifCond .ne 10, 3) := by decide +kernel
theorem dX7_show_20 : decode cX7_show 20 = .ok (.aload_n 0, 1) := by decide +kernel
theorem dX7_show_21 : decode cX7_show 21 = .ok (.bipush (-52), 2) := by decide +kernel
theorem dX7_show_23 : decode cX7_show 23 = .ok (.invokevirtual 127, 3) := by decide +kernel
theorem dX7_show_26 : decode cX7_show 26 = .ok (.ireturn, 1) := by decide +kernel
theorem dX7_show_27 : decode cX7_show 27 = .ok (.aload_n 0, 1) := by decide +kernel
theorem dX7_show_28 : decode cX7_show 28 = .ok (.getfield 25, 3) := by decide +kernel
theorem dX7_show_31 : decode cX7_show 31 = .ok (.iload_n 1, 1) := by decide +kernel
theorem dX7_show_32 : decode cX7_show 32 = .ok (.iload_n 2, 1) := by decide +kernel
theorem dX7_show_33 : decode cX7_show 33 = .ok (.iconst (-1), 1) := by decide +kernel
theorem dX7_show_34 : decode cX7_show 34 = .ok (.if_icmp .ne 7, 3) := by decide +kernel
theorem dX7_show_37 : decode cX7_show 37 = .ok (.iconst (-1), 1) := by decide +kernel
theorem dX7_show_38 : decode cX7_show 38 = .ok (.goto 7, 3) := by decide +kernel
theorem dX7_show_41 : decode cX7_show 41 = .ok (.bipush 10, 2) := by decide +kernel
theorem dX7_show_43 : decode cX7_show 43 = .ok (.iload_n 2, 1) := by decide +kernel
theorem dX7_show_44 : decode cX7_show 44 = .ok (.iadd, 1) := by decide +kernel
theorem dX7_show_45 : decode cX7_show 45 = .ok (.iastore, 1) := by decide +kernel
theorem dX7_show_46 : decode cX7_show 46 = .ok (.iconst 1, 1) := by decide +kernel
theorem dX7_show_47 : decode cX7_show 47 = .ok (.ireturn, 1) := by decide +kernel
theorem dX7_isUnder_0 : decode cX7_isUnder 0 = .ok (.iload_n 1, 1) := by decide +kernel
theorem dX7_isUnder_1 : decode cX7_isUnder 1 = .ok (.ifCond .eq 46, 3) := by decide +kernel
theorem dX7_isUnder_4 : decode cX7_isUnder 4 = .ok (.iload_n 1, 1) := by decide +kernel
theorem dX7_isUnder_5 : decode cX7_isUnder 5 = .ok (.iload_n 0, 1) := by decide +kernel
theorem dX7_isUnder_6 : decode cX7_isUnder 6 = .ok (.if_icmp .eq 41, 3) := by decide +kernel
theorem dX7_isUnder_9 : decode cX7_isUnder 9 = .ok (.iload_n 1, 1) := by decide +kernel
theorem dX7_isUnder_10 : decode cX7_isUnder 10 = .ok (.iconst 1, 1) := by decide +kernel
theorem dX7_isUnder_11 : decode cX7_isUnder 11 = .ok (.if_icmp .ne 9, 3) := by decide +kernel
theorem dX7_isUnder_14 : decode cX7_isUnder 14 = .ok (.iload_n 0, 1) := by decide +kernel
theorem dX7_isUnder_15 : decode cX7_isUnder 15 = .ok (.bipush 7, 2) := by decide +kernel
theorem dX7_isUnder_17 : decode cX7_isUnder 17 = .ok (.if_icmp .lt 30, 3) := by decide +kernel
theorem dX7_isUnder_20 : decode cX7_isUnder 20 = .ok (.iload_n 1, 1) := by decide +kernel
theorem dX7_isUnder_21 : decode cX7_isUnder 21 = .ok (.iconst 2, 1) := by decide +kernel
theorem dX7_isUnder_22 : decode cX7_isUnder 22 = .ok (.if_icmp .ne 9, 3) := by decide +kernel
theorem dX7_isUnder_25 : decode cX7_isUnder 25 = .ok (.iload_n 0, 1) := by decide +kernel
theorem dX7_isUnder_26 : decode cX7_isUnder 26 = .ok (.bipush 6, 2) := by decide +kernel
theorem dX7_isUnder_28 : decode cX7_isUnder 28 = .ok (.if_icmp .gt 19, 3) := by decide +kernel
theorem dX7_isUnder_31 : decode cX7_isUnder 31 = .ok (.iload_n 1, 1) := by decide +kernel
theorem dX7_isUnder_32 : decode cX7_isUnder 32 = .ok (.iconst 4, 1) := by decide +kernel
theorem dX7_isUnder_33 : decode cX7_isUnder 33 = .ok (.if_icmp .ne 18, 3) := by decide +kernel
theorem dX7_isUnder_36 : decode cX7_isUnder 36 = .ok (.iload_n 0, 1) := by decide +kernel
theorem dX7_isUnder_37 : decode cX7_isUnder 37 = .ok (.iconst 5, 1) := by decide +kernel
theorem dX7_isUnder_38 : decode cX7_isUnder 38 = .ok (.if_icmp .eq 9, 3) := by decide +kernel
theorem dX7_isUnder_41 : decode cX7_isUnder 41 = .ok (.iload_n 0, 1) := by decide +kernel
theorem dX7_isUnder_42 : decode cX7_isUnder 42 = .ok (.bipush 6, 2) := by decide +kernel
theorem dX7_isUnder_44 : decode cX7_isUnder 44 = .ok (.if_icmp .ne 7, 3) := by decide +kernel
theorem dX7_isUnder_47 : decode cX7_isUnder 47 = .ok (.iconst 1, 1) := by decide +kernel
theorem dX7_isUnder_48 : decode cX7_isUnder 48 = .ok (.goto 4, 3) := by decide +kernel
theorem dX7_isUnder_51 : decode cX7_isUnder 51 = .ok (.iconst 0, 1) := by decide +kernel
theorem dX7_isUnder_52 : decode cX7_isUnder 52 = .ok (.ireturn, 1) := by decide +kernel
theorem dX7_extreme_0 : decode cX7_extreme 0 = .ok (.iconst (-1), 1) := by decide +kernel
theorem dX7_extreme_1 : decode cX7_extreme 1 = .ok (.istore 4, 2) := by decide +kernel
theorem dX7_extreme_3 : decode cX7_extreme 3 = .ok (.iconst 0, 1) := by decide +kernel
theorem dX7_extreme_4 : decode cX7_extreme 4 = .ok (.istore 5, 2) := by decide +kernel
theorem dX7_extreme_6 : decode cX7_extreme 6 = .ok (.iload 5, 2) := by decide +kernel
theorem dX7_extreme_8 : decode cX7_extreme 8 = .ok (.aload_n 0, 1) := by decide +kernel
theorem dX7_extreme_9 : decode cX7_extreme 9 = .ok (.iload_n 1, 1) := by decide +kernel
theorem dX7_extreme_10 : decode cX7_extreme 10 = .ok (.iconst 0, 1) := by decide +kernel
theorem dX7_extreme_11 : decode cX7_extreme 11 = .ok (.invokevirtual 59, 3) := by decide +kernel
theorem dX7_extreme_14 : decode cX7_extreme 14 = .ok (.if_icmp .ge 54, 3) := by decide +kernel
theorem dX7_extreme_17 : decode cX7_extreme 17 = .ok (.aload_n 0, 1) := by decide +kernel
theorem dX7_extreme_18 : decode cX7_extreme 18 = .ok (.iload_n 1, 1) := by decide +kernel
theorem dX7_extreme_19 : decode cX7_extreme 19 = .ok (.iload 5, 2) := by decide +kernel
theorem dX7_extreme_21 : decode cX7_extreme 21 = .ok (.iconst 0, 1) := by decide +kernel
theorem dX7_extreme_22 : decode cX7_extreme 22 = .ok (.invokevirtual 62, 3) := by decide +kernel
theorem dX7_extreme_25 : decode cX7_extreme 25 = .ok (.ifCond .lt 37, 3) := by decide +kernel
theorem dX7_extreme_28 : decode cX7_extreme 28 = .ok (.aload_n 0, 1) := by decide +kernel
theorem dX7_extreme_29 : decode cX7_extreme 29 = .ok (.iload_n 1, 1) := by decide +kernel
theorem dX7_extreme_30 : decode cX7_extreme 30 = .ok (.iload 5, 2) := by decide +kernel
theorem dX7_extreme_32 : decode cX7_extreme 32 = .ok (.iload_n 2, 1) := by decide +kernel
theorem dX7_extreme_33 : decode cX7_extreme 33 = .ok (.invokevirtual 62, 3) := by decide +kernel
theorem dX7_extreme_36 : decode cX7_extreme 36 = .ok (.istore 6, 2) := by decide +kernel
theorem dX7_extreme_38 : decode cX7_extreme 38 = .ok (.iload 4, 2) := by decide +kernel
theorem dX7_extreme_40 : decode cX7_extreme 40 = .ok (.ifCond .lt 13, 3) := by decide +kernel
theorem dX7_extreme_43 : decode cX7_extreme 43 = .ok (.iload_n 3, 1) := by decide +kernel
theorem dX7_extreme_44 : decode cX7_extreme 44 = .ok (.iload 6, 2) := by decide +kernel
theorem dX7_extreme_46 : decode cX7_extreme 46 = .ok (.iload 4, 2) := by decide +kernel
theorem dX7_extreme_48 : decode cX7_extreme 48 = .ok (.isub, 1) := by decide +kernel
theorem dX7_extreme_49 : decode cX7_extreme 49 = .ok (.imul, 1) := by decide +kernel
theorem dX7_extreme_50 : decode cX7_extreme 50 = .ok (.ifCond .le 8, 3) := by decide +kernel
theorem dX7_extreme_53 : decode cX7_extreme 53 = .ok (.iload 6, 2) := by decide +kernel
theorem dX7_extreme_55 : decode cX7_extreme 55 = .ok (.goto 5, 3) := by decide +kernel
theorem dX7_extreme_58 : decode cX7_extreme 58 = .ok (.iload 4, 2) := by decide +kernel
theorem dX7_extreme_60 : decode cX7_extreme 60 = .ok (.istore 4, 2) := by decide +kernel
theorem dX7_extreme_62 : decode cX7_extreme 62 = .ok (.iinc 5 1, 3) := by decide +kernel
theorem dX7_extreme_65 : decode cX7_extreme 65 = .ok (.goto (-59), 3) := by decide +kernel
theorem dX7_extreme_68 : decode cX7_extreme 68 = .ok (.iload 4, 2) := by decide +kernel
theorem dX7_extreme_70 : decode cX7_extreme 70 = .ok (.ireturn, 1) := by decide +kernel
theorem dX7_says_0 : decode cX7_says 0 = .ok (.iload_n 1, 1) := by decide +kernel
theorem dX7_says_1 : decode cX7_says 1 = .ok (.invokestatic 188, 3) := by decide +kernel
theorem dX7_says_4 : decode cX7_says 4 = .ok (.ifCond .eq 15, 3) := by decide +kernel
theorem dX7_says_7 : decode cX7_says 7 = .ok (.iload_n 2, 1) := by decide +kernel
theorem dX7_says_8 : decode cX7_says 8 = .ok (.i2l, 1) := by decide +kernel
theorem dX7_says_9 : decode cX7_says 9 = .ok (.lconst 0, 1) := by decide +kernel
theorem dX7_says_10 : decode cX7_says 10 = .ok (.ldc2_w 125, 3) := by decide +kernel
theorem dX7_says_13 : decode cX7_says 13 = .ok (.invokestatic 47, 3) := by decide +kernel
theorem dX7_says_16 : decode cX7_says 16 = .ok (.ifCond .ne 10, 3) := by decide +kernel
theorem dX7_says_19 : decode cX7_says 19 = .ok (.aload_n 0, 1) := by decide +kernel
theorem dX7_says_20 : decode cX7_says 20 = .ok (.bipush (-52), 2) := by decide +kernel
theorem dX7_says_22 : decode cX7_says 22 = .ok (.invokevirtual 127, 3) := by decide +kernel
theorem dX7_says_25 : decode cX7_says 25 = .ok (.ireturn, 1) := by decide +kernel
theorem dX7_says_26 : decode cX7_says 26 = .ok (.aload_n 0, 1) := by decide +kernel
theorem dX7_says_27 : decode cX7_says 27 = .ok (.getfield 25, 3) := by decide +kernel
theorem dX7_says_30 : decode cX7_says 30 = .ok (.iload_n 1, 1) := by decide +kernel
theorem dX7_says_31 : decode cX7_says 31 = .ok (.iaload, 1) := by decide +kernel
theorem dX7_says_32 : decode cX7_says 32 = .ok (.i2l, 1) := by decide +kernel
theorem dX7_says_33 : decode cX7_says 33 = .ok (.lconst 0, 1) := by decide +kernel
theorem dX7_says_34 : decode cX7_says 34 = .ok (.ldc2_w 191, 3) := by decide +kernel
theorem dX7_says_37 : decode cX7_says 37 = .ok (.invokestatic 47, 3) := by decide +kernel
theorem dX7_says_40 : decode cX7_says 40 = .ok (.ifCond .eq 10, 3) := by decide +kernel
theorem dX7_says_43 : decode cX7_says 43 = .ok (.aload_n 0, 1) := by decide +kernel
theorem dX7_says_44 : decode cX7_says 44 = .ok (.bipush (-53), 2) := by decide +kernel
theorem dX7_says_46 : decode cX7_says 46 = .ok (.invokevirtual 127, 3) := by decide +kernel
theorem dX7_says_49 : decode cX7_says 49 = .ok (.ireturn, 1) := by decide +kernel
theorem dX7_says_50 : decode cX7_says 50 = .ok (.aload_n 0, 1) := by decide +kernel
theorem dX7_says_51 : decode cX7_says 51 = .ok (.getfield 25, 3) := by decide +kernel
theorem dX7_says_54 : decode cX7_says 54 = .ok (.iload_n 1, 1) := by decide +kernel
theorem dX7_says_55 : decode cX7_says 55 = .ok (.iaload, 1) := by decide +kernel
theorem dX7_says_56 : decode cX7_says 56 = .ok (.ifCond .ge 10, 3) := by decide +kernel
theorem dX7_says_59 : decode cX7_says 59 = .ok (.aload_n 0, 1) := by decide +kernel
theorem dX7_says_60 : decode cX7_says 60 = .ok (.bipush (-54), 2) := by decide +kernel
theorem dX7_says_62 : decode cX7_says 62 = .ok (.invokevirtual 127, 3) := by decide +kernel
theorem dX7_says_65 : decode cX7_says 65 = .ok (.ireturn, 1) := by decide +kernel
theorem dX7_says_66 : decode cX7_says 66 = .ok (.aload_n 0, 1) := by decide +kernel
theorem dX7_says_67 : decode cX7_says 67 = .ok (.getfield 25, 3) := by decide +kernel
theorem dX7_says_70 : decode cX7_says 70 = .ok (.iload_n 1, 1) := by decide +kernel
theorem dX7_says_71 : decode cX7_says 71 = .ok (.iaload, 1) := by decide +kernel
theorem dX7_says_72 : decode cX7_says 72 = .ok (.bipush 11, 2) := by decide +kernel
theorem dX7_says_74 : decode cX7_says 74 = .ok (.isub, 1) := by decide +kernel
theorem dX7_says_75 : decode cX7_says 75 = .ok (.istore_n 3, 1) := by decide +kernel
theorem dX7_says_76 : decode cX7_says 76 = .ok (.aload_n 0, 1) := by decide +kernel
theorem dX7_says_77 : decode cX7_says 77 = .ok (.iload_n 3, 1) := by decide +kernel
theorem dX7_says_78 : decode cX7_says 78 = .ok (.iconst 2, 1) := by decide +kernel
theorem dX7_says_79 : decode cX7_says 79 = .ok (.invokevirtual 59, 3) := by decide +kernel
theorem dX7_says_82 : decode cX7_says 82 = .ok (.iload_n 2, 1) := by decide +kernel
theorem dX7_says_83 : decode cX7_says 83 = .ok (.invokestatic 198, 3) := by decide +kernel
theorem dX7_says_86 : decode cX7_says 86 = .ok (.ifCond .ne 10, 3) := by decide +kernel
theorem dX7_says_89 : decode cX7_says 89 = .ok (.aload_n 0, 1) := by decide +kernel
theorem dX7_says_90 : decode cX7_says 90 = .ok (.bipush (-53), 2) := by decide +kernel
theorem dX7_says_92 : decode cX7_says 92 = .ok (.invokevirtual 127, 3) := by decide +kernel
theorem dX7_says_95 : decode cX7_says 95 = .ok (.ireturn, 1) := by decide +kernel
theorem dX7_says_96 : decode cX7_says 96 = .ok (.iload_n 2, 1) := by decide +kernel
theorem dX7_says_97 : decode cX7_says 97 = .ok (.tableswitch 106 0 7 #[47, 54, 60, 67, 75, 83, 91, 99], 47) := by decide +kernel
theorem dX7_says_144 : decode cX7_says 144 = .ok (.aload_n 0, 1) := by decide +kernel
theorem dX7_says_145 : decode cX7_says 145 = .ok (.iload_n 3, 1) := by decide +kernel
theorem dX7_says_146 : decode cX7_says 146 = .ok (.iconst 2, 1) := by decide +kernel
theorem dX7_says_147 : decode cX7_says 147 = .ok (.invokevirtual 59, 3) := by decide +kernel
theorem dX7_says_150 : decode cX7_says 150 = .ok (.ireturn, 1) := by decide +kernel
theorem dX7_says_151 : decode cX7_says 151 = .ok (.aload_n 0, 1) := by decide +kernel
theorem dX7_says_152 : decode cX7_says 152 = .ok (.iload_n 3, 1) := by decide +kernel
theorem dX7_says_153 : decode cX7_says 153 = .ok (.invokevirtual 66, 3) := by decide +kernel
theorem dX7_says_156 : decode cX7_says 156 = .ok (.ireturn, 1) := by decide +kernel
theorem dX7_says_157 : decode cX7_says 157 = .ok (.aload_n 0, 1) := by decide +kernel
theorem dX7_says_158 : decode cX7_says 158 = .ok (.iload_n 3, 1) := by decide +kernel
theorem dX7_says_159 : decode cX7_says 159 = .ok (.iconst 0, 1) := by decide +kernel
theorem dX7_says_160 : decode cX7_says 160 = .ok (.invokevirtual 59, 3) := by decide +kernel
theorem dX7_says_163 : decode cX7_says 163 = .ok (.ireturn, 1) := by decide +kernel
theorem dX7_says_164 : decode cX7_says 164 = .ok (.aload_n 0, 1) := by decide +kernel
theorem dX7_says_165 : decode cX7_says 165 = .ok (.iload_n 3, 1) := by decide +kernel
theorem dX7_says_166 : decode cX7_says 166 = .ok (.iconst 3, 1) := by decide +kernel
theorem dX7_says_167 : decode cX7_says 167 = .ok (.iconst 1, 1) := by decide +kernel
theorem dX7_says_168 : decode cX7_says 168 = .ok (.invokevirtual 202, 3) := by decide +kernel
theorem dX7_says_171 : decode cX7_says 171 = .ok (.ireturn, 1) := by decide +kernel
theorem dX7_says_172 : decode cX7_says 172 = .ok (.aload_n 0, 1) := by decide +kernel
theorem dX7_says_173 : decode cX7_says 173 = .ok (.iload_n 3, 1) := by decide +kernel
theorem dX7_says_174 : decode cX7_says 174 = .ok (.iconst 4, 1) := by decide +kernel
theorem dX7_says_175 : decode cX7_says 175 = .ok (.iconst (-1), 1) := by decide +kernel
theorem dX7_says_176 : decode cX7_says 176 = .ok (.invokevirtual 202, 3) := by decide +kernel
theorem dX7_says_179 : decode cX7_says 179 = .ok (.ireturn, 1) := by decide +kernel
theorem dX7_says_180 : decode cX7_says 180 = .ok (.aload_n 0, 1) := by decide +kernel
theorem dX7_says_181 : decode cX7_says 181 = .ok (.iload_n 3, 1) := by decide +kernel
theorem dX7_says_182 : decode cX7_says 182 = .ok (.iconst 4, 1) := by decide +kernel
theorem dX7_says_183 : decode cX7_says 183 = .ok (.iconst 1, 1) := by decide +kernel
theorem dX7_says_184 : decode cX7_says 184 = .ok (.invokevirtual 202, 3) := by decide +kernel
theorem dX7_says_187 : decode cX7_says 187 = .ok (.ireturn, 1) := by decide +kernel
theorem dX7_says_188 : decode cX7_says 188 = .ok (.aload_n 0, 1) := by decide +kernel
theorem dX7_says_189 : decode cX7_says 189 = .ok (.iload_n 3, 1) := by decide +kernel
theorem dX7_says_190 : decode cX7_says 190 = .ok (.iconst 5, 1) := by decide +kernel
theorem dX7_says_191 : decode cX7_says 191 = .ok (.iconst (-1), 1) := by decide +kernel
theorem dX7_says_192 : decode cX7_says 192 = .ok (.invokevirtual 202, 3) := by decide +kernel
theorem dX7_says_195 : decode cX7_says 195 = .ok (.ireturn, 1) := by decide +kernel
theorem dX7_says_196 : decode cX7_says 196 = .ok (.aload_n 0, 1) := by decide +kernel
theorem dX7_says_197 : decode cX7_says 197 = .ok (.iload_n 3, 1) := by decide +kernel
theorem dX7_says_198 : decode cX7_says 198 = .ok (.iconst 3, 1) := by decide +kernel
theorem dX7_says_199 : decode cX7_says 199 = .ok (.invokevirtual 59, 3) := by decide +kernel
theorem dX7_says_202 : decode cX7_says 202 = .ok (.ireturn, 1) := by decide +kernel
theorem dX7_says_203 : decode cX7_says 203 = .ok (.aload_n 0, 1) := by decide +kernel
theorem dX7_says_204 : decode cX7_says 204 = .ok (.iload_n 3, 1) := by decide +kernel
theorem dX7_says_205 : decode cX7_says 205 = .ok (.bipush 9, 2) := by decide +kernel
theorem dX7_says_207 : decode cX7_says 207 = .ok (.invokevirtual 59, 3) := by decide +kernel
theorem dX7_says_210 : decode cX7_says 210 = .ok (.ireturn, 1) := by decide +kernel
theorem dX7_levelOf_0 : decode cX7_levelOf 0 = .ok (.aload_n 0, 1) := by decide +kernel
theorem dX7_levelOf_1 : decode cX7_levelOf 1 = .ok (.iload_n 1, 1) := by decide +kernel
theorem dX7_levelOf_2 : decode cX7_levelOf 2 = .ok (.invokevirtual 147, 3) := by decide +kernel
theorem dX7_levelOf_5 : decode cX7_levelOf 5 = .ok (.ifCond .eq 15, 3) := by decide +kernel
theorem dX7_levelOf_8 : decode cX7_levelOf 8 = .ok (.iload_n 2, 1) := by decide +kernel
theorem dX7_levelOf_9 : decode cX7_levelOf 9 = .ok (.i2l, 1) := by decide +kernel
theorem dX7_levelOf_10 : decode cX7_levelOf 10 = .ok (.lconst 0, 1) := by decide +kernel
theorem dX7_levelOf_11 : decode cX7_levelOf 11 = .ok (.ldc2_w 205, 3) := by decide +kernel
theorem dX7_levelOf_14 : decode cX7_levelOf 14 = .ok (.invokestatic 47, 3) := by decide +kernel
theorem dX7_levelOf_17 : decode cX7_levelOf 17 = .ok (.ifCond .ne 10, 3) := by decide +kernel
theorem dX7_levelOf_20 : decode cX7_levelOf 20 = .ok (.aload_n 0, 1) := by decide +kernel
theorem dX7_levelOf_21 : decode cX7_levelOf 21 = .ok (.bipush (-52), 2) := by decide +kernel
theorem dX7_levelOf_23 : decode cX7_levelOf 23 = .ok (.invokevirtual 127, 3) := by decide +kernel
theorem dX7_levelOf_26 : decode cX7_levelOf 26 = .ok (.ireturn, 1) := by decide +kernel
theorem dX7_levelOf_27 : decode cX7_levelOf 27 = .ok (.iload_n 1, 1) := by decide +kernel
theorem dX7_levelOf_28 : decode cX7_levelOf 28 = .ok (.iconst 1, 1) := by decide +kernel
theorem dX7_levelOf_29 : decode cX7_levelOf 29 = .ok (.isub, 1) := by decide +kernel
theorem dX7_levelOf_30 : decode cX7_levelOf 30 = .ok (.istore_n 3, 1) := by decide +kernel
theorem dX7_levelOf_31 : decode cX7_levelOf 31 = .ok (.iconst 0, 1) := by decide +kernel
theorem dX7_levelOf_32 : decode cX7_levelOf 32 = .ok (.istore 4, 2) := by decide +kernel
theorem dX7_levelOf_34 : decode cX7_levelOf 34 = .ok (.iconst 0, 1) := by decide +kernel
theorem dX7_levelOf_35 : decode cX7_levelOf 35 = .ok (.istore 5, 2) := by decide +kernel
theorem dX7_levelOf_37 : decode cX7_levelOf 37 = .ok (.iconst 0, 1) := by decide +kernel
theorem dX7_levelOf_38 : decode cX7_levelOf 38 = .ok (.istore 6, 2) := by decide +kernel
theorem dX7_levelOf_40 : decode cX7_levelOf 40 = .ok (.iload 6, 2) := by decide +kernel
theorem dX7_levelOf_42 : decode cX7_levelOf 42 = .ok (.aload_n 0, 1) := by decide +kernel
theorem dX7_levelOf_43 : decode cX7_levelOf 43 = .ok (.iload_n 3, 1) := by decide +kernel
theorem dX7_levelOf_44 : decode cX7_levelOf 44 = .ok (.iconst 0, 1) := by decide +kernel
theorem dX7_levelOf_45 : decode cX7_levelOf 45 = .ok (.invokevirtual 59, 3) := by decide +kernel
theorem dX7_levelOf_48 : decode cX7_levelOf 48 = .ok (.if_icmp .ge 69, 3) := by decide +kernel
theorem dX7_levelOf_51 : decode cX7_levelOf 51 = .ok (.aload_n 0, 1) := by decide +kernel
theorem dX7_levelOf_52 : decode cX7_levelOf 52 = .ok (.iload_n 3, 1) := by decide +kernel
theorem dX7_levelOf_53 : decode cX7_levelOf 53 = .ok (.iload 6, 2) := by decide +kernel
theorem dX7_levelOf_55 : decode cX7_levelOf 55 = .ok (.iconst 0, 1) := by decide +kernel
theorem dX7_levelOf_56 : decode cX7_levelOf 56 = .ok (.invokevirtual 62, 3) := by decide +kernel
theorem dX7_levelOf_59 : decode cX7_levelOf 59 = .ok (.ifCond .lt 7, 3) := by decide +kernel
theorem dX7_levelOf_62 : decode cX7_levelOf 62 = .ok (.iconst 1, 1) := by decide +kernel
theorem dX7_levelOf_63 : decode cX7_levelOf 63 = .ok (.goto 4, 3) := by decide +kernel
theorem dX7_levelOf_66 : decode cX7_levelOf 66 = .ok (.iconst 0, 1) := by decide +kernel
theorem dX7_levelOf_67 : decode cX7_levelOf 67 = .ok (.istore 7, 2) := by decide +kernel
theorem dX7_levelOf_69 : decode cX7_levelOf 69 = .ok (.iload 4, 2) := by decide +kernel
theorem dX7_levelOf_71 : decode cX7_levelOf 71 = .ok (.iload 7, 2) := by decide +kernel
theorem dX7_levelOf_73 : decode cX7_levelOf 73 = .ok (.ifCond .eq 7, 3) := by decide +kernel
theorem dX7_levelOf_76 : decode cX7_levelOf 76 = .ok (.iconst 1, 1) := by decide +kernel
theorem dX7_levelOf_77 : decode cX7_levelOf 77 = .ok (.goto 4, 3) := by decide +kernel
theorem dX7_levelOf_80 : decode cX7_levelOf 80 = .ok (.iconst 0, 1) := by decide +kernel
theorem dX7_levelOf_81 : decode cX7_levelOf 81 = .ok (.iadd, 1) := by decide +kernel
theorem dX7_levelOf_82 : decode cX7_levelOf 82 = .ok (.istore 4, 2) := by decide +kernel
theorem dX7_levelOf_84 : decode cX7_levelOf 84 = .ok (.iload 5, 2) := by decide +kernel
theorem dX7_levelOf_86 : decode cX7_levelOf 86 = .ok (.iload 7, 2) := by decide +kernel
theorem dX7_levelOf_88 : decode cX7_levelOf 88 = .ok (.ifCond .eq 19, 3) := by decide +kernel
theorem dX7_levelOf_91 : decode cX7_levelOf 91 = .ok (.aload_n 0, 1) := by decide +kernel
theorem dX7_levelOf_92 : decode cX7_levelOf 92 = .ok (.iload_n 3, 1) := by decide +kernel
theorem dX7_levelOf_93 : decode cX7_levelOf 93 = .ok (.iload 6, 2) := by decide +kernel
theorem dX7_levelOf_95 : decode cX7_levelOf 95 = .ok (.iconst 2, 1) := by decide +kernel
theorem dX7_levelOf_96 : decode cX7_levelOf 96 = .ok (.invokevirtual 62, 3) := by decide +kernel
theorem dX7_levelOf_99 : decode cX7_levelOf 99 = .ok (.iconst 1, 1) := by decide +kernel
theorem dX7_levelOf_100 : decode cX7_levelOf 100 = .ok (.if_icmp .ne 7, 3) := by decide +kernel
theorem dX7_levelOf_103 : decode cX7_levelOf 103 = .ok (.iconst 1, 1) := by decide +kernel
theorem dX7_levelOf_104 : decode cX7_levelOf 104 = .ok (.goto 4, 3) := by decide +kernel
theorem dX7_levelOf_107 : decode cX7_levelOf 107 = .ok (.iconst 0, 1) := by decide +kernel
theorem dX7_levelOf_108 : decode cX7_levelOf 108 = .ok (.iadd, 1) := by decide +kernel
theorem dX7_levelOf_109 : decode cX7_levelOf 109 = .ok (.istore 5, 2) := by decide +kernel
theorem dX7_levelOf_111 : decode cX7_levelOf 111 = .ok (.iinc 6 1, 3) := by decide +kernel
theorem dX7_levelOf_114 : decode cX7_levelOf 114 = .ok (.goto (-74), 3) := by decide +kernel
theorem dX7_levelOf_117 : decode cX7_levelOf 117 = .ok (.iload_n 2, 1) := by decide +kernel
theorem dX7_levelOf_118 : decode cX7_levelOf 118 = .ok (.iconst 3, 1) := by decide +kernel
theorem dX7_levelOf_119 : decode cX7_levelOf 119 = .ok (.if_icmp .ge 12, 3) := by decide +kernel
theorem dX7_levelOf_122 : decode cX7_levelOf 122 = .ok (.aload_n 0, 1) := by decide +kernel
theorem dX7_levelOf_123 : decode cX7_levelOf 123 = .ok (.iload_n 3, 1) := by decide +kernel
theorem dX7_levelOf_124 : decode cX7_levelOf 124 = .ok (.iload_n 2, 1) := by decide +kernel
theorem dX7_levelOf_125 : decode cX7_levelOf 125 = .ok (.invokevirtual 59, 3) := by decide +kernel
theorem dX7_levelOf_128 : decode cX7_levelOf 128 = .ok (.goto 31, 3) := by decide +kernel
theorem dX7_levelOf_131 : decode cX7_levelOf 131 = .ok (.iload_n 2, 1) := by decide +kernel
theorem dX7_levelOf_132 : decode cX7_levelOf 132 = .ok (.iconst 3, 1) := by decide +kernel
theorem dX7_levelOf_133 : decode cX7_levelOf 133 = .ok (.if_icmp .ne 8, 3) := by decide +kernel
theorem dX7_levelOf_136 : decode cX7_levelOf 136 = .ok (.iload 4, 2) := by decide +kernel
theorem dX7_levelOf_138 : decode cX7_levelOf 138 = .ok (.goto 21, 3) := by decide +kernel
theorem dX7_levelOf_141 : decode cX7_levelOf 141 = .ok (.iload_n 2, 1) := by decide +kernel
theorem dX7_levelOf_142 : decode cX7_levelOf 142 = .ok (.iconst 4, 1) := by decide +kernel
theorem dX7_levelOf_143 : decode cX7_levelOf 143 = .ok (.if_icmp .ne 8, 3) := by decide +kernel
theorem dX7_levelOf_146 : decode cX7_levelOf 146 = .ok (.iload 5, 2) := by decide +kernel
theorem dX7_levelOf_148 : decode cX7_levelOf 148 = .ok (.goto 11, 3) := by decide +kernel
theorem dX7_levelOf_151 : decode cX7_levelOf 151 = .ok (.aload_n 0, 1) := by decide +kernel
theorem dX7_levelOf_152 : decode cX7_levelOf 152 = .ok (.iload_n 3, 1) := by decide +kernel
theorem dX7_levelOf_153 : decode cX7_levelOf 153 = .ok (.iload_n 2, 1) := by decide +kernel
theorem dX7_levelOf_154 : decode cX7_levelOf 154 = .ok (.iconst 1, 1) := by decide +kernel
theorem dX7_levelOf_155 : decode cX7_levelOf 155 = .ok (.isub, 1) := by decide +kernel
theorem dX7_levelOf_156 : decode cX7_levelOf 156 = .ok (.invokevirtual 59, 3) := by decide +kernel
theorem dX7_levelOf_159 : decode cX7_levelOf 159 = .ok (.ireturn, 1) := by decide +kernel
theorem dX7_slot_0 : decode cX7_slot 0 = .ok (.aload_n 0, 1) := by decide +kernel
theorem dX7_slot_1 : decode cX7_slot 1 = .ok (.iload_n 1, 1) := by decide +kernel
theorem dX7_slot_2 : decode cX7_slot 2 = .ok (.invokevirtual 147, 3) := by decide +kernel
theorem dX7_slot_5 : decode cX7_slot 5 = .ok (.ifCond .eq 35, 3) := by decide +kernel
theorem dX7_slot_8 : decode cX7_slot 8 = .ok (.iload_n 2, 1) := by decide +kernel
theorem dX7_slot_9 : decode cX7_slot 9 = .ok (.i2l, 1) := by decide +kernel
theorem dX7_slot_10 : decode cX7_slot 10 = .ok (.lconst 0, 1) := by decide +kernel
theorem dX7_slot_11 : decode cX7_slot 11 = .ok (.aload_n 0, 1) := by decide +kernel
theorem dX7_slot_12 : decode cX7_slot 12 = .ok (.iload_n 1, 1) := by decide +kernel
theorem dX7_slot_13 : decode cX7_slot 13 = .ok (.iconst 1, 1) := by decide +kernel
theorem dX7_slot_14 : decode cX7_slot 14 = .ok (.isub, 1) := by decide +kernel
theorem dX7_slot_15 : decode cX7_slot 15 = .ok (.iconst 0, 1) := by decide +kernel
theorem dX7_slot_16 : decode cX7_slot 16 = .ok (.invokevirtual 59, 3) := by decide +kernel
theorem dX7_slot_19 : decode cX7_slot 19 = .ok (.iconst 1, 1) := by decide +kernel
theorem dX7_slot_20 : decode cX7_slot 20 = .ok (.isub, 1) := by decide +kernel
theorem dX7_slot_21 : decode cX7_slot 21 = .ok (.i2l, 1) := by decide +kernel
theorem dX7_slot_22 : decode cX7_slot 22 = .ok (.invokestatic 47, 3) := by decide +kernel
theorem dX7_slot_25 : decode cX7_slot 25 = .ok (.ifCond .eq 15, 3) := by decide +kernel
theorem dX7_slot_28 : decode cX7_slot 28 = .ok (.iload_n 3, 1) := by decide +kernel
theorem dX7_slot_29 : decode cX7_slot 29 = .ok (.i2l, 1) := by decide +kernel
theorem dX7_slot_30 : decode cX7_slot 30 = .ok (.lconst 0, 1) := by decide +kernel
theorem dX7_slot_31 : decode cX7_slot 31 = .ok (.ldc2_w 207, 3) := by decide +kernel
theorem dX7_slot_34 : decode cX7_slot 34 = .ok (.invokestatic 47, 3) := by decide +kernel
theorem dX7_slot_37 : decode cX7_slot 37 = .ok (.ifCond .ne 10, 3) := by decide +kernel
theorem dX7_slot_40 : decode cX7_slot 40 = .ok (.aload_n 0, 1) := by decide +kernel
theorem dX7_slot_41 : decode cX7_slot 41 = .ok (.bipush (-52), 2) := by decide +kernel
theorem dX7_slot_43 : decode cX7_slot 43 = .ok (.invokevirtual 127, 3) := by decide +kernel
theorem dX7_slot_46 : decode cX7_slot 46 = .ok (.ireturn, 1) := by decide +kernel
theorem dX7_slot_47 : decode cX7_slot 47 = .ok (.iload_n 1, 1) := by decide +kernel
theorem dX7_slot_48 : decode cX7_slot 48 = .ok (.iconst 1, 1) := by decide +kernel
theorem dX7_slot_49 : decode cX7_slot 49 = .ok (.isub, 1) := by decide +kernel
theorem dX7_slot_50 : decode cX7_slot 50 = .ok (.istore 4, 2) := by decide +kernel
theorem dX7_slot_52 : decode cX7_slot 52 = .ok (.aload_n 0, 1) := by decide +kernel
theorem dX7_slot_53 : decode cX7_slot 53 = .ok (.iload 4, 2) := by decide +kernel
theorem dX7_slot_55 : decode cX7_slot 55 = .ok (.iload_n 2, 1) := by decide +kernel
theorem dX7_slot_56 : decode cX7_slot 56 = .ok (.iconst 0, 1) := by decide +kernel
theorem dX7_slot_57 : decode cX7_slot 57 = .ok (.invokevirtual 62, 3) := by decide +kernel
theorem dX7_slot_60 : decode cX7_slot 60 = .ok (.ifCond .ge 7, 3) := by decide +kernel
theorem dX7_slot_63 : decode cX7_slot 63 = .ok (.iconst (-1), 1) := by decide +kernel
theorem dX7_slot_64 : decode cX7_slot 64 = .ok (.goto 21, 3) := by decide +kernel
theorem dX7_slot_67 : decode cX7_slot 67 = .ok (.aload_n 0, 1) := by decide +kernel
theorem dX7_slot_68 : decode cX7_slot 68 = .ok (.iload 4, 2) := by decide +kernel
theorem dX7_slot_70 : decode cX7_slot 70 = .ok (.iload_n 2, 1) := by decide +kernel
theorem dX7_slot_71 : decode cX7_slot 71 = .ok (.iload_n 3, 1) := by decide +kernel
theorem dX7_slot_72 : decode cX7_slot 72 = .ok (.ifCond .ne 7, 3) := by decide +kernel
theorem dX7_slot_75 : decode cX7_slot 75 = .ok (.iconst 0, 1) := by decide +kernel
theorem dX7_slot_76 : decode cX7_slot 76 = .ok (.goto 6, 3) := by decide +kernel
theorem dX7_slot_79 : decode cX7_slot 79 = .ok (.iload_n 3, 1) := by decide +kernel
theorem dX7_slot_80 : decode cX7_slot 80 = .ok (.iconst 1, 1) := by decide +kernel
theorem dX7_slot_81 : decode cX7_slot 81 = .ok (.iadd, 1) := by decide +kernel
theorem dX7_slot_82 : decode cX7_slot 82 = .ok (.invokevirtual 62, 3) := by decide +kernel
theorem dX7_slot_85 : decode cX7_slot 85 = .ok (.ireturn, 1) := by decide +kernel
theorem dX7_value_0 : decode cX7_value 0 = .ok (.iload_n 1, 1) := by decide +kernel
theorem dX7_value_1 : decode cX7_value 1 = .ok (.ifCond .eq 11, 3) := by decide +kernel
theorem dX7_value_4 : decode cX7_value 4 = .ok (.aload_n 0, 1) := by decide +kernel
theorem dX7_value_5 : decode cX7_value 5 = .ok (.iload_n 1, 1) := by decide +kernel
theorem dX7_value_6 : decode cX7_value 6 = .ok (.invokevirtual 147, 3) := by decide +kernel
theorem dX7_value_9 : decode cX7_value 9 = .ok (.ifCond .eq 11, 3) := by decide +kernel
theorem dX7_value_12 : decode cX7_value 12 = .ok (.iload_n 2, 1) := by decide +kernel
theorem dX7_value_13 : decode cX7_value 13 = .ok (.i2l, 1) := by decide +kernel
theorem dX7_value_14 : decode cX7_value 14 = .ok (.invokestatic 137, 3) := by decide +kernel
theorem dX7_value_17 : decode cX7_value 17 = .ok (.ifCond .ne 10, 3) := by decide +kernel
theorem dX7_value_20 : decode cX7_value 20 = .ok (.aload_n 0, 1) := by decide +kernel
theorem dX7_value_21 : decode cX7_value 21 = .ok (.bipush (-52), 2) := by decide +kernel
theorem dX7_value_23 : decode cX7_value 23 = .ok (.invokevirtual 127, 3) := by decide +kernel
theorem dX7_value_26 : decode cX7_value 26 = .ok (.ireturn, 1) := by decide +kernel
theorem dX7_value_27 : decode cX7_value 27 = .ok (.iload_n 1, 1) := by decide +kernel
theorem dX7_value_28 : decode cX7_value 28 = .ok (.ifCond .ne 10, 3) := by decide +kernel
theorem dX7_value_31 : decode cX7_value 31 = .ok (.aload_n 0, 1) := by decide +kernel
theorem dX7_value_32 : decode cX7_value 32 = .ok (.getfield 7, 3) := by decide +kernel
theorem dX7_value_35 : decode cX7_value 35 = .ok (.iload_n 2, 1) := by decide +kernel
theorem dX7_value_36 : decode cX7_value 36 = .ok (.iaload, 1) := by decide +kernel
theorem dX7_value_37 : decode cX7_value 37 = .ok (.ireturn, 1) := by decide +kernel
theorem dX7_value_38 : decode cX7_value 38 = .ok (.aload_n 0, 1) := by decide +kernel
theorem dX7_value_39 : decode cX7_value 39 = .ok (.iload_n 1, 1) := by decide +kernel
theorem dX7_value_40 : decode cX7_value 40 = .ok (.iconst 1, 1) := by decide +kernel
theorem dX7_value_41 : decode cX7_value 41 = .ok (.isub, 1) := by decide +kernel
theorem dX7_value_42 : decode cX7_value 42 = .ok (.iload_n 2, 1) := by decide +kernel
theorem dX7_value_43 : decode cX7_value 43 = .ok (.invokevirtual 73, 3) := by decide +kernel
theorem dX7_value_46 : decode cX7_value 46 = .ok (.istore_n 3, 1) := by decide +kernel
theorem dX7_value_47 : decode cX7_value 47 = .ok (.iload_n 3, 1) := by decide +kernel
theorem dX7_value_48 : decode cX7_value 48 = .ok (.ifCond .ge 12, 3) := by decide +kernel
theorem dX7_value_51 : decode cX7_value 51 = .ok (.aload_n 0, 1) := by decide +kernel
theorem dX7_value_52 : decode cX7_value 52 = .ok (.bipush (-55), 2) := by decide +kernel
theorem dX7_value_54 : decode cX7_value 54 = .ok (.invokevirtual 127, 3) := by decide +kernel
theorem dX7_value_57 : decode cX7_value 57 = .ok (.goto 12, 3) := by decide +kernel
theorem dX7_value_60 : decode cX7_value 60 = .ok (.aload_n 0, 1) := by decide +kernel
theorem dX7_value_61 : decode cX7_value 61 = .ok (.iload_n 1, 1) := by decide +kernel
theorem dX7_value_62 : decode cX7_value 62 = .ok (.iconst 1, 1) := by decide +kernel
theorem dX7_value_63 : decode cX7_value 63 = .ok (.isub, 1) := by decide +kernel
theorem dX7_value_64 : decode cX7_value 64 = .ok (.iload_n 3, 1) := by decide +kernel
theorem dX7_value_65 : decode cX7_value 65 = .ok (.iconst 1, 1) := by decide +kernel
theorem dX7_value_66 : decode cX7_value 66 = .ok (.invokevirtual 62, 3) := by decide +kernel
theorem dX7_value_69 : decode cX7_value 69 = .ok (.ireturn, 1) := by decide +kernel
theorem dX7_where_0 : decode cX7_where 0 = .ok (.iload_n 1, 1) := by decide +kernel
theorem dX7_where_1 : decode cX7_where 1 = .ok (.i2l, 1) := by decide +kernel
theorem dX7_where_2 : decode cX7_where 2 = .ok (.invokestatic 137, 3) := by decide +kernel
theorem dX7_where_5 : decode cX7_where 5 = .ok (.ifCond .ne 10, 3) := by decide +kernel
theorem dX7_where_8 : decode cX7_where 8 = .ok (.aload_n 0, 1) := by decide +kernel
theorem dX7_where_9 : decode cX7_where 9 = .ok (.bipush (-52), 2) := by decide +kernel
theorem dX7_where_11 : decode cX7_where 11 = .ok (.invokevirtual 127, 3) := by decide +kernel
theorem dX7_where_14 : decode cX7_where 14 = .ok (.ireturn, 1) := by decide +kernel
theorem dX7_where_15 : decode cX7_where 15 = .ok (.iconst 0, 1) := by decide +kernel
theorem dX7_where_16 : decode cX7_where 16 = .ok (.istore_n 2, 1) := by decide +kernel
theorem dX7_where_17 : decode cX7_where 17 = .ok (.iconst 0, 1) := by decide +kernel
theorem dX7_where_18 : decode cX7_where 18 = .ok (.istore_n 3, 1) := by decide +kernel
theorem dX7_where_19 : decode cX7_where 19 = .ok (.iload_n 3, 1) := by decide +kernel
theorem dX7_where_20 : decode cX7_where 20 = .ok (.aload_n 0, 1) := by decide +kernel
theorem dX7_where_21 : decode cX7_where 21 = .ok (.getfield 7, 3) := by decide +kernel
theorem dX7_where_24 : decode cX7_where 24 = .ok (.sipush 688, 3) := by decide +kernel
theorem dX7_where_27 : decode cX7_where 27 = .ok (.iaload, 1) := by decide +kernel
theorem dX7_where_28 : decode cX7_where 28 = .ok (.if_icmp .ge 28, 3) := by decide +kernel
theorem dX7_where_31 : decode cX7_where 31 = .ok (.iload_n 2, 1) := by decide +kernel
theorem dX7_where_32 : decode cX7_where 32 = .ok (.aload_n 0, 1) := by decide +kernel
theorem dX7_where_33 : decode cX7_where 33 = .ok (.iload_n 3, 1) := by decide +kernel
theorem dX7_where_34 : decode cX7_where 34 = .ok (.iload_n 1, 1) := by decide +kernel
theorem dX7_where_35 : decode cX7_where 35 = .ok (.invokevirtual 73, 3) := by decide +kernel
theorem dX7_where_38 : decode cX7_where 38 = .ok (.ifCond .lt 9, 3) := by decide +kernel
theorem dX7_where_41 : decode cX7_where 41 = .ok (.iconst 1, 1) := by decide +kernel
theorem dX7_where_42 : decode cX7_where 42 = .ok (.iload_n 3, 1) := by decide +kernel
theorem dX7_where_43 : decode cX7_where 43 = .ok (.ishl, 1) := by decide +kernel
theorem dX7_where_44 : decode cX7_where 44 = .ok (.goto 4, 3) := by decide +kernel
theorem dX7_where_47 : decode cX7_where 47 = .ok (.iconst 0, 1) := by decide +kernel
theorem dX7_where_48 : decode cX7_where 48 = .ok (.ior, 1) := by decide +kernel
theorem dX7_where_49 : decode cX7_where 49 = .ok (.istore_n 2, 1) := by decide +kernel
theorem dX7_where_50 : decode cX7_where 50 = .ok (.iinc 3 1, 3) := by decide +kernel
theorem dX7_where_53 : decode cX7_where 53 = .ok (.goto (-34), 3) := by decide +kernel
theorem dX7_where_56 : decode cX7_where 56 = .ok (.iload_n 2, 1) := by decide +kernel
theorem dX7_where_57 : decode cX7_where 57 = .ok (.ireturn, 1) := by decide +kernel
theorem dX7_pages_0 : decode cX7_pages 0 = .ok (.iload_n 1, 1) := by decide +kernel
theorem dX7_pages_1 : decode cX7_pages 1 = .ok (.ifCond .eq 23, 3) := by decide +kernel
theorem dX7_pages_4 : decode cX7_pages 4 = .ok (.aload_n 0, 1) := by decide +kernel
theorem dX7_pages_5 : decode cX7_pages 5 = .ok (.iload_n 1, 1) := by decide +kernel
theorem dX7_pages_6 : decode cX7_pages 6 = .ok (.invokevirtual 147, 3) := by decide +kernel
theorem dX7_pages_9 : decode cX7_pages 9 = .ok (.ifCond .ne 15, 3) := by decide +kernel
theorem dX7_pages_12 : decode cX7_pages 12 = .ok (.aload_n 0, 1) := by decide +kernel
theorem dX7_pages_13 : decode cX7_pages 13 = .ok (.bipush (-52), 2) := by decide +kernel
theorem dX7_pages_15 : decode cX7_pages 15 = .ok (.invokevirtual 127, 3) := by decide +kernel
theorem dX7_pages_18 : decode cX7_pages 18 = .ok (.i2l, 1) := by decide +kernel
theorem dX7_pages_19 : decode cX7_pages 19 = .ok (.ldc2_w 209, 3) := by decide +kernel
theorem dX7_pages_22 : decode cX7_pages 22 = .ok (.lsub, 1) := by decide +kernel
theorem dX7_pages_23 : decode cX7_pages 23 = .ok (.lreturn, 1) := by decide +kernel
theorem dX7_pages_24 : decode cX7_pages 24 = .ok (.lconst 0, 1) := by decide +kernel
theorem dX7_pages_25 : decode cX7_pages 25 = .ok (.lstore_n 2, 1) := by decide +kernel
theorem dX7_pages_26 : decode cX7_pages 26 = .ok (.iconst 0, 1) := by decide +kernel
theorem dX7_pages_27 : decode cX7_pages 27 = .ok (.istore 4, 2) := by decide +kernel
theorem dX7_pages_29 : decode cX7_pages 29 = .ok (.iload 4, 2) := by decide +kernel
theorem dX7_pages_31 : decode cX7_pages 31 = .ok (.bipush 64, 2) := by decide +kernel
theorem dX7_pages_33 : decode cX7_pages 33 = .ok (.if_icmp .ge 57, 3) := by decide +kernel
theorem dX7_pages_36 : decode cX7_pages 36 = .ok (.iload_n 1, 1) := by decide +kernel
theorem dX7_pages_37 : decode cX7_pages 37 = .ok (.ifCond .ne 12, 3) := by decide +kernel
theorem dX7_pages_40 : decode cX7_pages 40 = .ok (.aload_n 0, 1) := by decide +kernel
theorem dX7_pages_41 : decode cX7_pages 41 = .ok (.iload 4, 2) := by decide +kernel
theorem dX7_pages_43 : decode cX7_pages 43 = .ok (.invokevirtual 101, 3) := by decide +kernel
theorem dX7_pages_46 : decode cX7_pages 46 = .ok (.goto 20, 3) := by decide +kernel
theorem dX7_pages_49 : decode cX7_pages 49 = .ok (.aload_n 0, 1) := by decide +kernel
theorem dX7_pages_50 : decode cX7_pages 50 = .ok (.iload_n 1, 1) := by decide +kernel
theorem dX7_pages_51 : decode cX7_pages 51 = .ok (.iconst 1, 1) := by decide +kernel
theorem dX7_pages_52 : decode cX7_pages 52 = .ok (.isub, 1) := by decide +kernel
theorem dX7_pages_53 : decode cX7_pages 53 = .ok (.iload 4, 2) := by decide +kernel
theorem dX7_pages_55 : decode cX7_pages 55 = .ok (.invokevirtual 73, 3) := by decide +kernel
theorem dX7_pages_58 : decode cX7_pages 58 = .ok (.ifCond .lt 7, 3) := by decide +kernel
theorem dX7_pages_61 : decode cX7_pages 61 = .ok (.iconst 1, 1) := by decide +kernel
theorem dX7_pages_62 : decode cX7_pages 62 = .ok (.goto 4, 3) := by decide +kernel
theorem dX7_pages_65 : decode cX7_pages 65 = .ok (.iconst 0, 1) := by decide +kernel
theorem dX7_pages_66 : decode cX7_pages 66 = .ok (.istore 5, 2) := by decide +kernel
theorem dX7_pages_68 : decode cX7_pages 68 = .ok (.lload_n 2, 1) := by decide +kernel
theorem dX7_pages_69 : decode cX7_pages 69 = .ok (.iload 5, 2) := by decide +kernel
theorem dX7_pages_71 : decode cX7_pages 71 = .ok (.ifCond .eq 10, 3) := by decide +kernel
theorem dX7_pages_74 : decode cX7_pages 74 = .ok (.lconst 1, 1) := by decide +kernel
theorem dX7_pages_75 : decode cX7_pages 75 = .ok (.iload 4, 2) := by decide +kernel
theorem dX7_pages_77 : decode cX7_pages 77 = .ok (.lshl, 1) := by decide +kernel
theorem dX7_pages_78 : decode cX7_pages 78 = .ok (.goto 4, 3) := by decide +kernel
theorem dX7_pages_81 : decode cX7_pages 81 = .ok (.lconst 0, 1) := by decide +kernel
theorem dX7_pages_82 : decode cX7_pages 82 = .ok (.lor, 1) := by decide +kernel
theorem dX7_pages_83 : decode cX7_pages 83 = .ok (.lstore_n 2, 1) := by decide +kernel
theorem dX7_pages_84 : decode cX7_pages 84 = .ok (.iinc 4 1, 3) := by decide +kernel
theorem dX7_pages_87 : decode cX7_pages 87 = .ok (.goto (-58), 3) := by decide +kernel
theorem dX7_pages_90 : decode cX7_pages 90 = .ok (.lload_n 2, 1) := by decide +kernel
theorem dX7_pages_91 : decode cX7_pages 91 = .ok (.lreturn, 1) := by decide +kernel
theorem dX7_in_0 : decode cX7_in 0 = .ok (.iconst 0, 1) := by decide +kernel
theorem dX7_in_1 : decode cX7_in 1 = .ok (.istore_n 2, 1) := by decide +kernel
theorem dX7_in_2 : decode cX7_in 2 = .ok (.iconst 0, 1) := by decide +kernel
theorem dX7_in_3 : decode cX7_in 3 = .ok (.istore_n 3, 1) := by decide +kernel
theorem dX7_in_4 : decode cX7_in 4 = .ok (.iload_n 3, 1) := by decide +kernel
theorem dX7_in_5 : decode cX7_in 5 = .ok (.aload_n 0, 1) := by decide +kernel
theorem dX7_in_6 : decode cX7_in 6 = .ok (.getfield 7, 3) := by decide +kernel
theorem dX7_in_9 : decode cX7_in 9 = .ok (.sipush 688, 3) := by decide +kernel
theorem dX7_in_12 : decode cX7_in 12 = .ok (.iaload, 1) := by decide +kernel
theorem dX7_in_13 : decode cX7_in 13 = .ok (.if_icmp .ge 26, 3) := by decide +kernel
theorem dX7_in_16 : decode cX7_in 16 = .ok (.iload_n 2, 1) := by decide +kernel
theorem dX7_in_17 : decode cX7_in 17 = .ok (.aload_n 0, 1) := by decide +kernel
theorem dX7_in_18 : decode cX7_in 18 = .ok (.iload_n 3, 1) := by decide +kernel
theorem dX7_in_19 : decode cX7_in 19 = .ok (.iload_n 1, 1) := by decide +kernel
theorem dX7_in_20 : decode cX7_in 20 = .ok (.invokevirtual 73, 3) := by decide +kernel
theorem dX7_in_23 : decode cX7_in 23 = .ok (.ifCond .lt 7, 3) := by decide +kernel
theorem dX7_in_26 : decode cX7_in 26 = .ok (.iconst 1, 1) := by decide +kernel
theorem dX7_in_27 : decode cX7_in 27 = .ok (.goto 4, 3) := by decide +kernel
theorem dX7_in_30 : decode cX7_in 30 = .ok (.iconst 0, 1) := by decide +kernel
theorem dX7_in_31 : decode cX7_in 31 = .ok (.iadd, 1) := by decide +kernel
theorem dX7_in_32 : decode cX7_in 32 = .ok (.istore_n 2, 1) := by decide +kernel
theorem dX7_in_33 : decode cX7_in 33 = .ok (.iinc 3 1, 3) := by decide +kernel
theorem dX7_in_36 : decode cX7_in 36 = .ok (.goto (-32), 3) := by decide +kernel
theorem dX7_in_39 : decode cX7_in 39 = .ok (.iload_n 2, 1) := by decide +kernel
theorem dX7_in_40 : decode cX7_in 40 = .ok (.ireturn, 1) := by decide +kernel
theorem dX7_isDiffering_0 : decode cX7_isDiffering 0 = .ok (.iload_n 2, 1) := by decide +kernel
theorem dX7_isDiffering_1 : decode cX7_isDiffering 1 = .ok (.iconst 2, 1) := by decide +kernel
theorem dX7_isDiffering_2 : decode cX7_isDiffering 2 = .ok (.if_icmp .ne 18, 3) := by decide +kernel
theorem dX7_isDiffering_5 : decode cX7_isDiffering 5 = .ok (.aload_n 0, 1) := by decide +kernel
theorem dX7_isDiffering_6 : decode cX7_isDiffering 6 = .ok (.iload_n 1, 1) := by decide +kernel
theorem dX7_isDiffering_7 : decode cX7_isDiffering 7 = .ok (.invokevirtual 211, 3) := by decide +kernel
theorem dX7_isDiffering_10 : decode cX7_isDiffering 10 = .ok (.iconst 1, 1) := by decide +kernel
theorem dX7_isDiffering_11 : decode cX7_isDiffering 11 = .ok (.if_icmp .le 7, 3) := by decide +kernel
theorem dX7_isDiffering_14 : decode cX7_isDiffering 14 = .ok (.iconst 1, 1) := by decide +kernel
theorem dX7_isDiffering_15 : decode cX7_isDiffering 15 = .ok (.goto 4, 3) := by decide +kernel
theorem dX7_isDiffering_18 : decode cX7_isDiffering 18 = .ok (.iconst 0, 1) := by decide +kernel
theorem dX7_isDiffering_19 : decode cX7_isDiffering 19 = .ok (.ireturn, 1) := by decide +kernel
theorem dX7_isDiffering_20 : decode cX7_isDiffering 20 = .ok (.iconst 0, 1) := by decide +kernel
theorem dX7_isDiffering_21 : decode cX7_isDiffering 21 = .ok (.istore_n 3, 1) := by decide +kernel
theorem dX7_isDiffering_22 : decode cX7_isDiffering 22 = .ok (.aload_n 0, 1) := by decide +kernel
theorem dX7_isDiffering_23 : decode cX7_isDiffering 23 = .ok (.getfield 7, 3) := by decide +kernel
theorem dX7_isDiffering_26 : decode cX7_isDiffering 26 = .ok (.iload_n 1, 1) := by decide +kernel
theorem dX7_isDiffering_27 : decode cX7_isDiffering 27 = .ok (.iaload, 1) := by decide +kernel
theorem dX7_isDiffering_28 : decode cX7_isDiffering 28 = .ok (.istore 4, 2) := by decide +kernel
theorem dX7_isDiffering_30 : decode cX7_isDiffering 30 = .ok (.aload_n 0, 1) := by decide +kernel
theorem dX7_isDiffering_31 : decode cX7_isDiffering 31 = .ok (.getfield 7, 3) := by decide +kernel
theorem dX7_isDiffering_34 : decode cX7_isDiffering 34 = .ok (.sipush 688, 3) := by decide +kernel
theorem dX7_isDiffering_37 : decode cX7_isDiffering 37 = .ok (.iaload, 1) := by decide +kernel
theorem dX7_isDiffering_38 : decode cX7_isDiffering 38 = .ok (.iconst 1, 1) := by decide +kernel
theorem dX7_isDiffering_39 : decode cX7_isDiffering 39 = .ok (.isub, 1) := by decide +kernel
theorem dX7_isDiffering_40 : decode cX7_isDiffering 40 = .ok (.istore 5, 2) := by decide +kernel
theorem dX7_isDiffering_42 : decode cX7_isDiffering 42 = .ok (.iload 5, 2) := by decide +kernel
theorem dX7_isDiffering_44 : decode cX7_isDiffering 44 = .ok (.ifCond .lt 57, 3) := by decide +kernel
theorem dX7_isDiffering_47 : decode cX7_isDiffering 47 = .ok (.aload_n 0, 1) := by decide +kernel
theorem dX7_isDiffering_48 : decode cX7_isDiffering 48 = .ok (.iload 5, 2) := by decide +kernel
theorem dX7_isDiffering_50 : decode cX7_isDiffering 50 = .ok (.iload_n 1, 1) := by decide +kernel
theorem dX7_isDiffering_51 : decode cX7_isDiffering 51 = .ok (.invokevirtual 73, 3) := by decide +kernel
theorem dX7_isDiffering_54 : decode cX7_isDiffering 54 = .ok (.istore 6, 2) := by decide +kernel
theorem dX7_isDiffering_56 : decode cX7_isDiffering 56 = .ok (.iload 6, 2) := by decide +kernel
theorem dX7_isDiffering_58 : decode cX7_isDiffering 58 = .ok (.ifCond .lt 37, 3) := by decide +kernel
theorem dX7_isDiffering_61 : decode cX7_isDiffering 61 = .ok (.aload_n 0, 1) := by decide +kernel
theorem dX7_isDiffering_62 : decode cX7_isDiffering 62 = .ok (.iload 5, 2) := by decide +kernel
theorem dX7_isDiffering_64 : decode cX7_isDiffering 64 = .ok (.iload 6, 2) := by decide +kernel
theorem dX7_isDiffering_66 : decode cX7_isDiffering 66 = .ok (.iconst 1, 1) := by decide +kernel
theorem dX7_isDiffering_67 : decode cX7_isDiffering 67 = .ok (.invokevirtual 62, 3) := by decide +kernel
theorem dX7_isDiffering_70 : decode cX7_isDiffering 70 = .ok (.istore 4, 2) := by decide +kernel
theorem dX7_isDiffering_72 : decode cX7_isDiffering 72 = .ok (.iload_n 3, 1) := by decide +kernel
theorem dX7_isDiffering_73 : decode cX7_isDiffering 73 = .ok (.ifCond .ne 16, 3) := by decide +kernel
theorem dX7_isDiffering_76 : decode cX7_isDiffering 76 = .ok (.aload_n 0, 1) := by decide +kernel
theorem dX7_isDiffering_77 : decode cX7_isDiffering 77 = .ok (.iload 5, 2) := by decide +kernel
theorem dX7_isDiffering_79 : decode cX7_isDiffering 79 = .ok (.iload 6, 2) := by decide +kernel
theorem dX7_isDiffering_81 : decode cX7_isDiffering 81 = .ok (.iconst 2, 1) := by decide +kernel
theorem dX7_isDiffering_82 : decode cX7_isDiffering 82 = .ok (.invokevirtual 62, 3) := by decide +kernel
theorem dX7_isDiffering_85 : decode cX7_isDiffering 85 = .ok (.iconst 1, 1) := by decide +kernel
theorem dX7_isDiffering_86 : decode cX7_isDiffering 86 = .ok (.if_icmp .ne 7, 3) := by decide +kernel
theorem dX7_isDiffering_89 : decode cX7_isDiffering 89 = .ok (.iconst 1, 1) := by decide +kernel
theorem dX7_isDiffering_90 : decode cX7_isDiffering 90 = .ok (.goto 4, 3) := by decide +kernel
theorem dX7_isDiffering_93 : decode cX7_isDiffering 93 = .ok (.iconst 0, 1) := by decide +kernel
theorem dX7_isDiffering_94 : decode cX7_isDiffering 94 = .ok (.istore_n 3, 1) := by decide +kernel
theorem dX7_isDiffering_95 : decode cX7_isDiffering 95 = .ok (.iinc 5 (-1), 3) := by decide +kernel
theorem dX7_isDiffering_98 : decode cX7_isDiffering 98 = .ok (.goto (-56), 3) := by decide +kernel
theorem dX7_isDiffering_101 : decode cX7_isDiffering 101 = .ok (.iload_n 2, 1) := by decide +kernel
theorem dX7_isDiffering_102 : decode cX7_isDiffering 102 = .ok (.ifCond .ne 22, 3) := by decide +kernel
theorem dX7_isDiffering_105 : decode cX7_isDiffering 105 = .ok (.iload 4, 2) := by decide +kernel
theorem dX7_isDiffering_107 : decode cX7_isDiffering 107 = .ok (.aload_n 0, 1) := by decide +kernel
theorem dX7_isDiffering_108 : decode cX7_isDiffering 108 = .ok (.getfield 7, 3) := by decide +kernel
theorem dX7_isDiffering_111 : decode cX7_isDiffering 111 = .ok (.iload_n 1, 1) := by decide +kernel
theorem dX7_isDiffering_112 : decode cX7_isDiffering 112 = .ok (.iaload, 1) := by decide +kernel
theorem dX7_isDiffering_113 : decode cX7_isDiffering 113 = .ok (.if_icmp .eq 7, 3) := by decide +kernel
theorem dX7_isDiffering_116 : decode cX7_isDiffering 116 = .ok (.iconst 1, 1) := by decide +kernel
theorem dX7_isDiffering_117 : decode cX7_isDiffering 117 = .ok (.goto 8, 3) := by decide +kernel
theorem dX7_isDiffering_120 : decode cX7_isDiffering 120 = .ok (.iconst 0, 1) := by decide +kernel
theorem dX7_isDiffering_121 : decode cX7_isDiffering 121 = .ok (.goto 4, 3) := by decide +kernel
theorem dX7_isDiffering_124 : decode cX7_isDiffering 124 = .ok (.iload_n 3, 1) := by decide +kernel
theorem dX7_isDiffering_125 : decode cX7_isDiffering 125 = .ok (.ireturn, 1) := by decide +kernel
theorem dX7_differ_0 : decode cX7_differ 0 = .ok (.iload_n 1, 1) := by decide +kernel
theorem dX7_differ_1 : decode cX7_differ 1 = .ok (.i2l, 1) := by decide +kernel
theorem dX7_differ_2 : decode cX7_differ 2 = .ok (.lconst 0, 1) := by decide +kernel
theorem dX7_differ_3 : decode cX7_differ 3 = .ok (.ldc2_w 133, 3) := by decide +kernel
theorem dX7_differ_6 : decode cX7_differ 6 = .ok (.invokestatic 47, 3) := by decide +kernel
theorem dX7_differ_9 : decode cX7_differ 9 = .ok (.ifCond .ne 15, 3) := by decide +kernel
theorem dX7_differ_12 : decode cX7_differ 12 = .ok (.aload_n 0, 1) := by decide +kernel
theorem dX7_differ_13 : decode cX7_differ 13 = .ok (.bipush (-52), 2) := by decide +kernel
theorem dX7_differ_15 : decode cX7_differ 15 = .ok (.invokevirtual 127, 3) := by decide +kernel
theorem dX7_differ_18 : decode cX7_differ 18 = .ok (.i2l, 1) := by decide +kernel
theorem dX7_differ_19 : decode cX7_differ 19 = .ok (.ldc2_w 209, 3) := by decide +kernel
theorem dX7_differ_22 : decode cX7_differ 22 = .ok (.lsub, 1) := by decide +kernel
theorem dX7_differ_23 : decode cX7_differ 23 = .ok (.lreturn, 1) := by decide +kernel
theorem dX7_differ_24 : decode cX7_differ 24 = .ok (.lconst 0, 1) := by decide +kernel
theorem dX7_differ_25 : decode cX7_differ 25 = .ok (.lstore_n 2, 1) := by decide +kernel
theorem dX7_differ_26 : decode cX7_differ 26 = .ok (.iconst 0, 1) := by decide +kernel
theorem dX7_differ_27 : decode cX7_differ 27 = .ok (.istore 4, 2) := by decide +kernel
theorem dX7_differ_29 : decode cX7_differ 29 = .ok (.iload 4, 2) := by decide +kernel
theorem dX7_differ_31 : decode cX7_differ 31 = .ok (.bipush 64, 2) := by decide +kernel
theorem dX7_differ_33 : decode cX7_differ 33 = .ok (.if_icmp .ge 30, 3) := by decide +kernel
theorem dX7_differ_36 : decode cX7_differ 36 = .ok (.lload_n 2, 1) := by decide +kernel
theorem dX7_differ_37 : decode cX7_differ 37 = .ok (.aload_n 0, 1) := by decide +kernel
theorem dX7_differ_38 : decode cX7_differ 38 = .ok (.iload 4, 2) := by decide +kernel
theorem dX7_differ_40 : decode cX7_differ 40 = .ok (.iload_n 1, 1) := by decide +kernel
theorem dX7_differ_41 : decode cX7_differ 41 = .ok (.invokevirtual 214, 3) := by decide +kernel
theorem dX7_differ_44 : decode cX7_differ 44 = .ok (.ifCond .eq 10, 3) := by decide +kernel
theorem dX7_differ_47 : decode cX7_differ 47 = .ok (.lconst 1, 1) := by decide +kernel
theorem dX7_differ_48 : decode cX7_differ 48 = .ok (.iload 4, 2) := by decide +kernel
theorem dX7_differ_50 : decode cX7_differ 50 = .ok (.lshl, 1) := by decide +kernel
theorem dX7_differ_51 : decode cX7_differ 51 = .ok (.goto 4, 3) := by decide +kernel
theorem dX7_differ_54 : decode cX7_differ 54 = .ok (.lconst 0, 1) := by decide +kernel
theorem dX7_differ_55 : decode cX7_differ 55 = .ok (.lor, 1) := by decide +kernel
theorem dX7_differ_56 : decode cX7_differ 56 = .ok (.lstore_n 2, 1) := by decide +kernel
theorem dX7_differ_57 : decode cX7_differ 57 = .ok (.iinc 4 1, 3) := by decide +kernel
theorem dX7_differ_60 : decode cX7_differ 60 = .ok (.goto (-31), 3) := by decide +kernel
theorem dX7_differ_63 : decode cX7_differ 63 = .ok (.lload_n 2, 1) := by decide +kernel
theorem dX7_differ_64 : decode cX7_differ 64 = .ok (.lreturn, 1) := by decide +kernel
theorem dX7_kept_0 : decode cX7_kept 0 = .ok (.iconst 1, 1) := by decide +kernel
theorem dX7_kept_1 : decode cX7_kept 1 = .ok (.istore_n 1, 1) := by decide +kernel
theorem dX7_kept_2 : decode cX7_kept 2 = .ok (.iconst 0, 1) := by decide +kernel
theorem dX7_kept_3 : decode cX7_kept 3 = .ok (.istore_n 2, 1) := by decide +kernel
theorem dX7_kept_4 : decode cX7_kept 4 = .ok (.iload_n 2, 1) := by decide +kernel
theorem dX7_kept_5 : decode cX7_kept 5 = .ok (.bipush 64, 2) := by decide +kernel
theorem dX7_kept_7 : decode cX7_kept 7 = .ok (.if_icmp .ge 104, 3) := by decide +kernel
theorem dX7_kept_10 : decode cX7_kept 10 = .ok (.aload_n 0, 1) := by decide +kernel
theorem dX7_kept_11 : decode cX7_kept 11 = .ok (.getfield 7, 3) := by decide +kernel
theorem dX7_kept_14 : decode cX7_kept 14 = .ok (.sipush 689, 3) := by decide +kernel
theorem dX7_kept_17 : decode cX7_kept 17 = .ok (.iaload, 1) := by decide +kernel
theorem dX7_kept_18 : decode cX7_kept 18 = .ok (.iconst 2, 1) := by decide +kernel
theorem dX7_kept_19 : decode cX7_kept 19 = .ok (.if_icmp .ne 22, 3) := by decide +kernel
theorem dX7_kept_22 : decode cX7_kept 22 = .ok (.iload_n 1, 1) := by decide +kernel
theorem dX7_kept_23 : decode cX7_kept 23 = .ok (.ifCond .eq 16, 3) := by decide +kernel
theorem dX7_kept_26 : decode cX7_kept 26 = .ok (.aload_n 0, 1) := by decide +kernel
theorem dX7_kept_27 : decode cX7_kept 27 = .ok (.iload_n 2, 1) := by decide +kernel
theorem dX7_kept_28 : decode cX7_kept 28 = .ok (.invokevirtual 211, 3) := by decide +kernel
theorem dX7_kept_31 : decode cX7_kept 31 = .ok (.iconst 2, 1) := by decide +kernel
theorem dX7_kept_32 : decode cX7_kept 32 = .ok (.if_icmp .ge 7, 3) := by decide +kernel
theorem dX7_kept_35 : decode cX7_kept 35 = .ok (.iconst 1, 1) := by decide +kernel
theorem dX7_kept_36 : decode cX7_kept 36 = .ok (.goto 4, 3) := by decide +kernel
theorem dX7_kept_39 : decode cX7_kept 39 = .ok (.iconst 0, 1) := by decide +kernel
theorem dX7_kept_40 : decode cX7_kept 40 = .ok (.istore_n 1, 1) := by decide +kernel
theorem dX7_kept_41 : decode cX7_kept 41 = .ok (.iconst 0, 1) := by decide +kernel
theorem dX7_kept_42 : decode cX7_kept 42 = .ok (.istore_n 3, 1) := by decide +kernel
theorem dX7_kept_43 : decode cX7_kept 43 = .ok (.iload_n 3, 1) := by decide +kernel
theorem dX7_kept_44 : decode cX7_kept 44 = .ok (.iconst 1, 1) := by decide +kernel
theorem dX7_kept_45 : decode cX7_kept 45 = .ok (.iadd, 1) := by decide +kernel
theorem dX7_kept_46 : decode cX7_kept 46 = .ok (.aload_n 0, 1) := by decide +kernel
theorem dX7_kept_47 : decode cX7_kept 47 = .ok (.getfield 7, 3) := by decide +kernel
theorem dX7_kept_50 : decode cX7_kept 50 = .ok (.sipush 688, 3) := by decide +kernel
theorem dX7_kept_53 : decode cX7_kept 53 = .ok (.iaload, 1) := by decide +kernel
theorem dX7_kept_54 : decode cX7_kept 54 = .ok (.if_icmp .ge 51, 3) := by decide +kernel
theorem dX7_kept_57 : decode cX7_kept 57 = .ok (.aload_n 0, 1) := by decide +kernel
theorem dX7_kept_58 : decode cX7_kept 58 = .ok (.getfield 7, 3) := by decide +kernel
theorem dX7_kept_61 : decode cX7_kept 61 = .ok (.sipush 689, 3) := by decide +kernel
theorem dX7_kept_64 : decode cX7_kept 64 = .ok (.iaload, 1) := by decide +kernel
theorem dX7_kept_65 : decode cX7_kept 65 = .ok (.iconst 1, 1) := by decide +kernel
theorem dX7_kept_66 : decode cX7_kept 66 = .ok (.if_icmp .ne 39, 3) := by decide +kernel
theorem dX7_kept_69 : decode cX7_kept 69 = .ok (.iload_n 1, 1) := by decide +kernel
theorem dX7_kept_70 : decode cX7_kept 70 = .ok (.ifCond .eq 27, 3) := by decide +kernel
theorem dX7_kept_73 : decode cX7_kept 73 = .ok (.aload_n 0, 1) := by decide +kernel
theorem dX7_kept_74 : decode cX7_kept 74 = .ok (.iload_n 3, 1) := by decide +kernel
theorem dX7_kept_75 : decode cX7_kept 75 = .ok (.iload_n 2, 1) := by decide +kernel
theorem dX7_kept_76 : decode cX7_kept 76 = .ok (.invokevirtual 73, 3) := by decide +kernel
theorem dX7_kept_79 : decode cX7_kept 79 = .ok (.ifCond .lt 14, 3) := by decide +kernel
theorem dX7_kept_82 : decode cX7_kept 82 = .ok (.aload_n 0, 1) := by decide +kernel
theorem dX7_kept_83 : decode cX7_kept 83 = .ok (.iload_n 3, 1) := by decide +kernel
theorem dX7_kept_84 : decode cX7_kept 84 = .ok (.iconst 1, 1) := by decide +kernel
theorem dX7_kept_85 : decode cX7_kept 85 = .ok (.iadd, 1) := by decide +kernel
theorem dX7_kept_86 : decode cX7_kept 86 = .ok (.iload_n 2, 1) := by decide +kernel
theorem dX7_kept_87 : decode cX7_kept 87 = .ok (.invokevirtual 73, 3) := by decide +kernel
theorem dX7_kept_90 : decode cX7_kept 90 = .ok (.ifCond .lt 7, 3) := by decide +kernel
theorem dX7_kept_93 : decode cX7_kept 93 = .ok (.iconst 1, 1) := by decide +kernel
theorem dX7_kept_94 : decode cX7_kept 94 = .ok (.goto 4, 3) := by decide +kernel
theorem dX7_kept_97 : decode cX7_kept 97 = .ok (.iconst 0, 1) := by decide +kernel
theorem dX7_kept_98 : decode cX7_kept 98 = .ok (.istore_n 1, 1) := by decide +kernel
theorem dX7_kept_99 : decode cX7_kept 99 = .ok (.iinc 3 1, 3) := by decide +kernel
theorem dX7_kept_102 : decode cX7_kept 102 = .ok (.goto (-59), 3) := by decide +kernel
theorem dX7_kept_105 : decode cX7_kept 105 = .ok (.iinc 2 1, 3) := by decide +kernel
theorem dX7_kept_108 : decode cX7_kept 108 = .ok (.goto (-104), 3) := by decide +kernel
theorem dX7_kept_111 : decode cX7_kept 111 = .ok (.iload_n 1, 1) := by decide +kernel
theorem dX7_kept_112 : decode cX7_kept 112 = .ok (.ifCond .eq 7, 3) := by decide +kernel
theorem dX7_kept_115 : decode cX7_kept 115 = .ok (.iconst 1, 1) := by decide +kernel
theorem dX7_kept_116 : decode cX7_kept 116 = .ok (.goto 4, 3) := by decide +kernel
theorem dX7_kept_119 : decode cX7_kept 119 = .ok (.iconst 0, 1) := by decide +kernel
theorem dX7_kept_120 : decode cX7_kept 120 = .ok (.ireturn, 1) := by decide +kernel
theorem dX7_flushedAll_0 : decode cX7_flushedAll 0 = .ok (.iconst 0, 1) := by decide +kernel
theorem dX7_flushedAll_1 : decode cX7_flushedAll 1 = .ok (.istore_n 1, 1) := by decide +kernel
theorem dX7_flushedAll_2 : decode cX7_flushedAll 2 = .ok (.iconst 0, 1) := by decide +kernel
theorem dX7_flushedAll_3 : decode cX7_flushedAll 3 = .ok (.istore_n 2, 1) := by decide +kernel
theorem dX7_flushedAll_4 : decode cX7_flushedAll 4 = .ok (.iload_n 2, 1) := by decide +kernel
theorem dX7_flushedAll_5 : decode cX7_flushedAll 5 = .ok (.aload_n 0, 1) := by decide +kernel
theorem dX7_flushedAll_6 : decode cX7_flushedAll 6 = .ok (.getfield 7, 3) := by decide +kernel
theorem dX7_flushedAll_9 : decode cX7_flushedAll 9 = .ok (.sipush 688, 3) := by decide +kernel
theorem dX7_flushedAll_12 : decode cX7_flushedAll 12 = .ok (.iaload, 1) := by decide +kernel
theorem dX7_flushedAll_13 : decode cX7_flushedAll 13 = .ok (.if_icmp .ge 19, 3) := by decide +kernel
theorem dX7_flushedAll_16 : decode cX7_flushedAll 16 = .ok (.iload_n 1, 1) := by decide +kernel
theorem dX7_flushedAll_17 : decode cX7_flushedAll 17 = .ok (.aload_n 0, 1) := by decide +kernel
theorem dX7_flushedAll_18 : decode cX7_flushedAll 18 = .ok (.iload_n 2, 1) := by decide +kernel
theorem dX7_flushedAll_19 : decode cX7_flushedAll 19 = .ok (.bipush 7, 2) := by decide +kernel
theorem dX7_flushedAll_21 : decode cX7_flushedAll 21 = .ok (.invokevirtual 59, 3) := by decide +kernel
theorem dX7_flushedAll_24 : decode cX7_flushedAll 24 = .ok (.iadd, 1) := by decide +kernel
theorem dX7_flushedAll_25 : decode cX7_flushedAll 25 = .ok (.istore_n 1, 1) := by decide +kernel
theorem dX7_flushedAll_26 : decode cX7_flushedAll 26 = .ok (.iinc 2 1, 3) := by decide +kernel
theorem dX7_flushedAll_29 : decode cX7_flushedAll 29 = .ok (.goto (-25), 3) := by decide +kernel
theorem dX7_flushedAll_32 : decode cX7_flushedAll 32 = .ok (.iload_n 1, 1) := by decide +kernel
theorem dX7_flushedAll_33 : decode cX7_flushedAll 33 = .ok (.ireturn, 1) := by decide +kernel
theorem dX7_would_0 : decode cX7_would 0 = .ok (.iload_n 1, 1) := by decide +kernel
theorem dX7_would_1 : decode cX7_would 1 = .ok (.i2l, 1) := by decide +kernel
theorem dX7_would_2 : decode cX7_would 2 = .ok (.invokestatic 137, 3) := by decide +kernel
theorem dX7_would_5 : decode cX7_would 5 = .ok (.ifCond .eq 15, 3) := by decide +kernel
theorem dX7_would_8 : decode cX7_would 8 = .ok (.iload_n 2, 1) := by decide +kernel
theorem dX7_would_9 : decode cX7_would 9 = .ok (.i2l, 1) := by decide +kernel
theorem dX7_would_10 : decode cX7_would 10 = .ok (.lconst 0, 1) := by decide +kernel
theorem dX7_would_11 : decode cX7_would 11 = .ok (.ldc2_w 123, 3) := by decide +kernel
theorem dX7_would_14 : decode cX7_would 14 = .ok (.invokestatic 47, 3) := by decide +kernel
theorem dX7_would_17 : decode cX7_would 17 = .ok (.ifCond .ne 10, 3) := by decide +kernel
theorem dX7_would_20 : decode cX7_would 20 = .ok (.aload_n 0, 1) := by decide +kernel
theorem dX7_would_21 : decode cX7_would 21 = .ok (.bipush (-52), 2) := by decide +kernel
theorem dX7_would_23 : decode cX7_would 23 = .ok (.invokevirtual 127, 3) := by decide +kernel
theorem dX7_would_26 : decode cX7_would 26 = .ok (.ireturn, 1) := by decide +kernel
theorem dX7_would_27 : decode cX7_would 27 = .ok (.aload_n 0, 1) := by decide +kernel
theorem dX7_would_28 : decode cX7_would 28 = .ok (.getfield 7, 3) := by decide +kernel
theorem dX7_would_31 : decode cX7_would 31 = .ok (.aload_n 0, 1) := by decide +kernel
theorem dX7_would_32 : decode cX7_would 32 = .ok (.getfield 16, 3) := by decide +kernel
theorem dX7_would_35 : decode cX7_would 35 = .ok (.invokestatic 217, 3) := by decide +kernel
theorem dX7_would_38 : decode cX7_would 38 = .ok (.iconst 0, 1) := by decide +kernel
theorem dX7_would_39 : decode cX7_would 39 = .ok (.istore_n 3, 1) := by decide +kernel
theorem dX7_would_40 : decode cX7_would 40 = .ok (.iload_n 3, 1) := by decide +kernel
theorem dX7_would_41 : decode cX7_would 41 = .ok (.bipush 64, 2) := by decide +kernel
theorem dX7_would_43 : decode cX7_would 43 = .ok (.if_icmp .ge 20, 3) := by decide +kernel
theorem dX7_would_46 : decode cX7_would 46 = .ok (.aload_n 0, 1) := by decide +kernel
theorem dX7_would_47 : decode cX7_would 47 = .ok (.getfield 38, 3) := by decide +kernel
theorem dX7_would_50 : decode cX7_would 50 = .ok (.iload_n 3, 1) := by decide +kernel
theorem dX7_would_51 : decode cX7_would 51 = .ok (.aload_n 0, 1) := by decide +kernel
theorem dX7_would_52 : decode cX7_would 52 = .ok (.iload_n 3, 1) := by decide +kernel
theorem dX7_would_53 : decode cX7_would 53 = .ok (.invokevirtual 101, 3) := by decide +kernel
theorem dX7_would_56 : decode cX7_would 56 = .ok (.bastore, 1) := by decide +kernel
theorem dX7_would_57 : decode cX7_would 57 = .ok (.iinc 3 1, 3) := by decide +kernel
theorem dX7_would_60 : decode cX7_would 60 = .ok (.goto (-20), 3) := by decide +kernel
theorem dX7_would_63 : decode cX7_would 63 = .ok (.aload_n 0, 1) := by decide +kernel
theorem dX7_would_64 : decode cX7_would 64 = .ok (.invokevirtual 221, 3) := by decide +kernel
theorem dX7_would_67 : decode cX7_would 67 = .ok (.istore_n 3, 1) := by decide +kernel
theorem dX7_would_68 : decode cX7_would 68 = .ok (.aload_n 0, 1) := by decide +kernel
theorem dX7_would_69 : decode cX7_would 69 = .ok (.getfield 7, 3) := by decide +kernel
theorem dX7_would_72 : decode cX7_would 72 = .ok (.sipush 696, 3) := by decide +kernel
theorem dX7_would_75 : decode cX7_would 75 = .ok (.iaload, 1) := by decide +kernel
theorem dX7_would_76 : decode cX7_would 76 = .ok (.istore 4, 2) := by decide +kernel
theorem dX7_would_78 : decode cX7_would 78 = .ok (.aload_n 0, 1) := by decide +kernel
theorem dX7_would_79 : decode cX7_would 79 = .ok (.iload_n 1, 1) := by decide +kernel
theorem dX7_would_80 : decode cX7_would 80 = .ok (.invokevirtual 141, 3) := by decide +kernel
theorem dX7_would_83 : decode cX7_would 83 = .ok (.pop, 1) := by decide +kernel
theorem dX7_would_84 : decode cX7_would 84 = .ok (.iconst 0, 1) := by decide +kernel
theorem dX7_would_85 : decode cX7_would 85 = .ok (.istore 5, 2) := by decide +kernel
theorem dX7_would_87 : decode cX7_would 87 = .ok (.iconst 0, 1) := by decide +kernel
theorem dX7_would_88 : decode cX7_would 88 = .ok (.istore 6, 2) := by decide +kernel
theorem dX7_would_90 : decode cX7_would 90 = .ok (.iload 6, 2) := by decide +kernel
theorem dX7_would_92 : decode cX7_would 92 = .ok (.bipush 64, 2) := by decide +kernel
theorem dX7_would_94 : decode cX7_would 94 = .ok (.if_icmp .ge 38, 3) := by decide +kernel
theorem dX7_would_97 : decode cX7_would 97 = .ok (.iload 5, 2) := by decide +kernel
theorem dX7_would_99 : decode cX7_would 99 = .ok (.aload_n 0, 1) := by decide +kernel
theorem dX7_would_100 : decode cX7_would 100 = .ok (.getfield 38, 3) := by decide +kernel
theorem dX7_would_103 : decode cX7_would 103 = .ok (.iload 6, 2) := by decide +kernel
theorem dX7_would_105 : decode cX7_would 105 = .ok (.baload, 1) := by decide +kernel
theorem dX7_would_106 : decode cX7_would 106 = .ok (.ifCond .eq 16, 3) := by decide +kernel
theorem dX7_would_109 : decode cX7_would 109 = .ok (.aload_n 0, 1) := by decide +kernel
theorem dX7_would_110 : decode cX7_would 110 = .ok (.iload 6, 2) := by decide +kernel
theorem dX7_would_112 : decode cX7_would 112 = .ok (.invokevirtual 101, 3) := by decide +kernel
theorem dX7_would_115 : decode cX7_would 115 = .ok (.ifCond .ne 7, 3) := by decide +kernel
theorem dX7_would_118 : decode cX7_would 118 = .ok (.iconst 1, 1) := by decide +kernel
theorem dX7_would_119 : decode cX7_would 119 = .ok (.goto 4, 3) := by decide +kernel
theorem dX7_would_122 : decode cX7_would 122 = .ok (.iconst 0, 1) := by decide +kernel
theorem dX7_would_123 : decode cX7_would 123 = .ok (.iadd, 1) := by decide +kernel
theorem dX7_would_124 : decode cX7_would 124 = .ok (.istore 5, 2) := by decide +kernel
theorem dX7_would_126 : decode cX7_would 126 = .ok (.iinc 6 1, 3) := by decide +kernel
theorem dX7_would_129 : decode cX7_would 129 = .ok (.goto (-39), 3) := by decide +kernel
theorem dX7_would_132 : decode cX7_would 132 = .ok (.iload_n 2, 1) := by decide +kernel
theorem dX7_would_133 : decode cX7_would 133 = .ok (.ifCond .ne 10, 3) := by decide +kernel
theorem dX7_would_136 : decode cX7_would 136 = .ok (.aload_n 0, 1) := by decide +kernel
theorem dX7_would_137 : decode cX7_would 137 = .ok (.getfield 94, 3) := by decide +kernel
theorem dX7_would_140 : decode cX7_would 140 = .ok (.goto 38, 3) := by decide +kernel
theorem dX7_would_143 : decode cX7_would 143 = .ok (.iload_n 2, 1) := by decide +kernel
theorem dX7_would_144 : decode cX7_would 144 = .ok (.iconst 1, 1) := by decide +kernel
theorem dX7_would_145 : decode cX7_would 145 = .ok (.if_icmp .ne 12, 3) := by decide +kernel
theorem dX7_would_148 : decode cX7_would 148 = .ok (.aload_n 0, 1) := by decide +kernel
theorem dX7_would_149 : decode cX7_would 149 = .ok (.invokevirtual 221, 3) := by decide +kernel
theorem dX7_would_152 : decode cX7_would 152 = .ok (.iload_n 3, 1) := by decide +kernel
theorem dX7_would_153 : decode cX7_would 153 = .ok (.isub, 1) := by decide +kernel
theorem dX7_would_154 : decode cX7_would 154 = .ok (.goto 24, 3) := by decide +kernel
theorem dX7_would_157 : decode cX7_would 157 = .ok (.iload_n 2, 1) := by decide +kernel
theorem dX7_would_158 : decode cX7_would 158 = .ok (.iconst 2, 1) := by decide +kernel
theorem dX7_would_159 : decode cX7_would 159 = .ok (.if_icmp .ne 17, 3) := by decide +kernel
theorem dX7_would_162 : decode cX7_would 162 = .ok (.aload_n 0, 1) := by decide +kernel
theorem dX7_would_163 : decode cX7_would 163 = .ok (.getfield 7, 3) := by decide +kernel
theorem dX7_would_166 : decode cX7_would 166 = .ok (.sipush 696, 3) := by decide +kernel
theorem dX7_would_169 : decode cX7_would 169 = .ok (.iaload, 1) := by decide +kernel
theorem dX7_would_170 : decode cX7_would 170 = .ok (.iload 4, 2) := by decide +kernel
theorem dX7_would_172 : decode cX7_would 172 = .ok (.isub, 1) := by decide +kernel
theorem dX7_would_173 : decode cX7_would 173 = .ok (.goto 5, 3) := by decide +kernel
theorem dX7_would_176 : decode cX7_would 176 = .ok (.iload 5, 2) := by decide +kernel
theorem dX7_would_178 : decode cX7_would 178 = .ok (.istore 6, 2) := by decide +kernel
theorem dX7_would_180 : decode cX7_would 180 = .ok (.aload_n 0, 1) := by decide +kernel
theorem dX7_would_181 : decode cX7_would 181 = .ok (.getfield 16, 3) := by decide +kernel
theorem dX7_would_184 : decode cX7_would 184 = .ok (.aload_n 0, 1) := by decide +kernel
theorem dX7_would_185 : decode cX7_would 185 = .ok (.getfield 7, 3) := by decide +kernel
theorem dX7_would_188 : decode cX7_would 188 = .ok (.invokestatic 217, 3) := by decide +kernel
theorem dX7_would_191 : decode cX7_would 191 = .ok (.iload 6, 2) := by decide +kernel
theorem dX7_would_193 : decode cX7_would 193 = .ok (.ireturn, 1) := by decide +kernel
theorem dX7_wrongRow_0 : decode cX7_wrongRow 0 = .ok (.iload_n 1, 1) := by decide +kernel
theorem dX7_wrongRow_1 : decode cX7_wrongRow 1 = .ok (.invokestatic 188, 3) := by decide +kernel
theorem dX7_wrongRow_4 : decode cX7_wrongRow 4 = .ok (.ifCond .eq 14, 3) := by decide +kernel
theorem dX7_wrongRow_7 : decode cX7_wrongRow 7 = .ok (.iload_n 2, 1) := by decide +kernel
theorem dX7_wrongRow_8 : decode cX7_wrongRow 8 = .ok (.i2l, 1) := by decide +kernel
theorem dX7_wrongRow_9 : decode cX7_wrongRow 9 = .ok (.lconst 0, 1) := by decide +kernel
theorem dX7_wrongRow_10 : decode cX7_wrongRow 10 = .ok (.iload_n 3, 1) := by decide +kernel
theorem dX7_wrongRow_11 : decode cX7_wrongRow 11 = .ok (.i2l, 1) := by decide +kernel
theorem dX7_wrongRow_12 : decode cX7_wrongRow 12 = .ok (.invokestatic 47, 3) := by decide +kernel
theorem dX7_wrongRow_15 : decode cX7_wrongRow 15 = .ok (.ifCond .ne 6, 3) := by decide +kernel
theorem dX7_wrongRow_18 : decode cX7_wrongRow 18 = .ok (.bipush (-52), 2) := by decide +kernel
theorem dX7_wrongRow_20 : decode cX7_wrongRow 20 = .ok (.ireturn, 1) := by decide +kernel
theorem dX7_wrongRow_21 : decode cX7_wrongRow 21 = .ok (.aload_n 0, 1) := by decide +kernel
theorem dX7_wrongRow_22 : decode cX7_wrongRow 22 = .ok (.iload_n 1, 1) := by decide +kernel
theorem dX7_wrongRow_23 : decode cX7_wrongRow 23 = .ok (.invokevirtual 195, 3) := by decide +kernel
theorem dX7_wrongRow_26 : decode cX7_wrongRow 26 = .ok (.istore 4, 2) := by decide +kernel
theorem dX7_wrongRow_28 : decode cX7_wrongRow 28 = .ok (.iload 4, 2) := by decide +kernel
theorem dX7_wrongRow_30 : decode cX7_wrongRow 30 = .ok (.ifCond .eq 6, 3) := by decide +kernel
theorem dX7_wrongRow_33 : decode cX7_wrongRow 33 = .ok (.iload 4, 2) := by decide +kernel
theorem dX7_wrongRow_35 : decode cX7_wrongRow 35 = .ok (.ireturn, 1) := by decide +kernel
theorem dX7_wrongRow_36 : decode cX7_wrongRow 36 = .ok (.iload_n 3, 1) := by decide +kernel
theorem dX7_wrongRow_37 : decode cX7_wrongRow 37 = .ok (.bipush 20, 2) := by decide +kernel
theorem dX7_wrongRow_39 : decode cX7_wrongRow 39 = .ok (.if_icmp .ne 7, 3) := by decide +kernel
theorem dX7_wrongRow_42 : decode cX7_wrongRow 42 = .ok (.iconst 2, 1) := by decide +kernel
theorem dX7_wrongRow_43 : decode cX7_wrongRow 43 = .ok (.goto 4, 3) := by decide +kernel
theorem dX7_wrongRow_46 : decode cX7_wrongRow 46 = .ok (.iconst 1, 1) := by decide +kernel
theorem dX7_wrongRow_47 : decode cX7_wrongRow 47 = .ok (.istore 5, 2) := by decide +kernel
theorem dX7_wrongRow_49 : decode cX7_wrongRow 49 = .ok (.iload 5, 2) := by decide +kernel
theorem dX7_wrongRow_51 : decode cX7_wrongRow 51 = .ok (.iload_n 2, 1) := by decide +kernel
theorem dX7_wrongRow_52 : decode cX7_wrongRow 52 = .ok (.imul, 1) := by decide +kernel
theorem dX7_wrongRow_53 : decode cX7_wrongRow 53 = .ok (.aload_n 0, 1) := by decide +kernel
theorem dX7_wrongRow_54 : decode cX7_wrongRow 54 = .ok (.getfield 28, 3) := by decide +kernel
theorem dX7_wrongRow_57 : decode cX7_wrongRow 57 = .ok (.iload_n 1, 1) := by decide +kernel
theorem dX7_wrongRow_58 : decode cX7_wrongRow 58 = .ok (.iaload, 1) := by decide +kernel
theorem dX7_wrongRow_59 : decode cX7_wrongRow 59 = .ok (.if_icmp .gt 7, 3) := by decide +kernel
theorem dX7_wrongRow_62 : decode cX7_wrongRow 62 = .ok (.iconst 1, 1) := by decide +kernel
theorem dX7_wrongRow_63 : decode cX7_wrongRow 63 = .ok (.goto 4, 3) := by decide +kernel
theorem dX7_wrongRow_66 : decode cX7_wrongRow 66 = .ok (.iconst 0, 1) := by decide +kernel
theorem dX7_wrongRow_67 : decode cX7_wrongRow 67 = .ok (.istore 6, 2) := by decide +kernel
theorem dX7_wrongRow_69 : decode cX7_wrongRow 69 = .ok (.iconst 0, 1) := by decide +kernel
theorem dX7_wrongRow_70 : decode cX7_wrongRow 70 = .ok (.istore 7, 2) := by decide +kernel
theorem dX7_wrongRow_72 : decode cX7_wrongRow 72 = .ok (.iload 7, 2) := by decide +kernel
theorem dX7_wrongRow_74 : decode cX7_wrongRow 74 = .ok (.iload_n 2, 1) := by decide +kernel
theorem dX7_wrongRow_75 : decode cX7_wrongRow 75 = .ok (.if_icmp .ge 34, 3) := by decide +kernel
theorem dX7_wrongRow_78 : decode cX7_wrongRow 78 = .ok (.iload 6, 2) := by decide +kernel
theorem dX7_wrongRow_80 : decode cX7_wrongRow 80 = .ok (.ifCond .eq 29, 3) := by decide +kernel
theorem dX7_wrongRow_83 : decode cX7_wrongRow 83 = .ok (.aload_n 0, 1) := by decide +kernel
theorem dX7_wrongRow_84 : decode cX7_wrongRow 84 = .ok (.getfield 31, 3) := by decide +kernel
theorem dX7_wrongRow_87 : decode cX7_wrongRow 87 = .ok (.bipush 40, 2) := by decide +kernel
theorem dX7_wrongRow_89 : decode cX7_wrongRow 89 = .ok (.iload_n 1, 1) := by decide +kernel
theorem dX7_wrongRow_90 : decode cX7_wrongRow 90 = .ok (.imul, 1) := by decide +kernel
theorem dX7_wrongRow_91 : decode cX7_wrongRow 91 = .ok (.iload 5, 2) := by decide +kernel
theorem dX7_wrongRow_93 : decode cX7_wrongRow 93 = .ok (.iload 7, 2) := by decide +kernel
theorem dX7_wrongRow_95 : decode cX7_wrongRow 95 = .ok (.imul, 1) := by decide +kernel
theorem dX7_wrongRow_96 : decode cX7_wrongRow 96 = .ok (.iadd, 1) := by decide +kernel
theorem dX7_wrongRow_97 : decode cX7_wrongRow 97 = .ok (.laload, 1) := by decide +kernel
theorem dX7_wrongRow_98 : decode cX7_wrongRow 98 = .ok (.invokestatic 137, 3) := by decide +kernel
theorem dX7_wrongRow_101 : decode cX7_wrongRow 101 = .ok (.istore 6, 2) := by decide +kernel
theorem dX7_wrongRow_103 : decode cX7_wrongRow 103 = .ok (.iinc 7 1, 3) := by decide +kernel
theorem dX7_wrongRow_106 : decode cX7_wrongRow 106 = .ok (.goto (-34), 3) := by decide +kernel
theorem dX7_wrongRow_109 : decode cX7_wrongRow 109 = .ok (.iload 6, 2) := by decide +kernel
theorem dX7_wrongRow_111 : decode cX7_wrongRow 111 = .ok (.ifCond .eq 7, 3) := by decide +kernel
theorem dX7_wrongRow_114 : decode cX7_wrongRow 114 = .ok (.iconst 0, 1) := by decide +kernel
theorem dX7_wrongRow_115 : decode cX7_wrongRow 115 = .ok (.goto 5, 3) := by decide +kernel
theorem dX7_wrongRow_118 : decode cX7_wrongRow 118 = .ok (.bipush (-52), 2) := by decide +kernel
theorem dX7_wrongRow_120 : decode cX7_wrongRow 120 = .ok (.ireturn, 1) := by decide +kernel
theorem dX7_readsRow_0 : decode cX7_readsRow 0 = .ok (.aload_n 0, 1) := by decide +kernel
theorem dX7_readsRow_1 : decode cX7_readsRow 1 = .ok (.iconst 0, 1) := by decide +kernel
theorem dX7_readsRow_2 : decode cX7_readsRow 2 = .ok (.putfield 224, 3) := by decide +kernel
theorem dX7_readsRow_5 : decode cX7_readsRow 5 = .ok (.aload_n 0, 1) := by decide +kernel
theorem dX7_readsRow_6 : decode cX7_readsRow 6 = .ok (.iconst 0, 1) := by decide +kernel
theorem dX7_readsRow_7 : decode cX7_readsRow 7 = .ok (.putfield 227, 3) := by decide +kernel
theorem dX7_readsRow_10 : decode cX7_readsRow 10 = .ok (.aload_n 0, 1) := by decide +kernel
theorem dX7_readsRow_11 : decode cX7_readsRow 11 = .ok (.iconst 0, 1) := by decide +kernel
theorem dX7_readsRow_12 : decode cX7_readsRow 12 = .ok (.putfield 230, 3) := by decide +kernel
theorem dX7_readsRow_15 : decode cX7_readsRow 15 = .ok (.iconst 0, 1) := by decide +kernel
theorem dX7_readsRow_16 : decode cX7_readsRow 16 = .ok (.istore_n 3, 1) := by decide +kernel
theorem dX7_readsRow_17 : decode cX7_readsRow 17 = .ok (.iload_n 3, 1) := by decide +kernel
theorem dX7_readsRow_18 : decode cX7_readsRow 18 = .ok (.iload_n 2, 1) := by decide +kernel
theorem dX7_readsRow_19 : decode cX7_readsRow 19 = .ok (.if_icmp .ge 82, 3) := by decide +kernel
theorem dX7_readsRow_22 : decode cX7_readsRow 22 = .ok (.aload_n 0, 1) := by decide +kernel
theorem dX7_readsRow_23 : decode cX7_readsRow 23 = .ok (.aload_n 0, 1) := by decide +kernel
theorem dX7_readsRow_24 : decode cX7_readsRow 24 = .ok (.getfield 31, 3) := by decide +kernel
theorem dX7_readsRow_27 : decode cX7_readsRow 27 = .ok (.bipush 40, 2) := by decide +kernel
theorem dX7_readsRow_29 : decode cX7_readsRow 29 = .ok (.iload_n 1, 1) := by decide +kernel
theorem dX7_readsRow_30 : decode cX7_readsRow 30 = .ok (.imul, 1) := by decide +kernel
theorem dX7_readsRow_31 : decode cX7_readsRow 31 = .ok (.iload_n 3, 1) := by decide +kernel
theorem dX7_readsRow_32 : decode cX7_readsRow 32 = .ok (.iadd, 1) := by decide +kernel
theorem dX7_readsRow_33 : decode cX7_readsRow 33 = .ok (.laload, 1) := by decide +kernel
theorem dX7_readsRow_34 : decode cX7_readsRow 34 = .ok (.l2i, 1) := by decide +kernel
theorem dX7_readsRow_35 : decode cX7_readsRow 35 = .ok (.invokevirtual 141, 3) := by decide +kernel
theorem dX7_readsRow_38 : decode cX7_readsRow 38 = .ok (.pop, 1) := by decide +kernel
theorem dX7_readsRow_39 : decode cX7_readsRow 39 = .ok (.aload_n 0, 1) := by decide +kernel
theorem dX7_readsRow_40 : decode cX7_readsRow 40 = .ok (.dup, 1) := by decide +kernel
theorem dX7_readsRow_41 : decode cX7_readsRow 41 = .ok (.getfield 224, 3) := by decide +kernel
theorem dX7_readsRow_44 : decode cX7_readsRow 44 = .ok (.aload_n 0, 1) := by decide +kernel
theorem dX7_readsRow_45 : decode cX7_readsRow 45 = .ok (.getfield 94, 3) := by decide +kernel
theorem dX7_readsRow_48 : decode cX7_readsRow 48 = .ok (.iadd, 1) := by decide +kernel
theorem dX7_readsRow_49 : decode cX7_readsRow 49 = .ok (.putfield 224, 3) := by decide +kernel
theorem dX7_readsRow_52 : decode cX7_readsRow 52 = .ok (.aload_n 0, 1) := by decide +kernel
theorem dX7_readsRow_53 : decode cX7_readsRow 53 = .ok (.dup, 1) := by decide +kernel
theorem dX7_readsRow_54 : decode cX7_readsRow 54 = .ok (.getfield 227, 3) := by decide +kernel
theorem dX7_readsRow_57 : decode cX7_readsRow 57 = .ok (.aload_n 0, 1) := by decide +kernel
theorem dX7_readsRow_58 : decode cX7_readsRow 58 = .ok (.getfield 98, 3) := by decide +kernel
theorem dX7_readsRow_61 : decode cX7_readsRow 61 = .ok (.iconst 1, 1) := by decide +kernel
theorem dX7_readsRow_62 : decode cX7_readsRow 62 = .ok (.if_icmp .ne 7, 3) := by decide +kernel
theorem dX7_readsRow_65 : decode cX7_readsRow 65 = .ok (.iconst 1, 1) := by decide +kernel
theorem dX7_readsRow_66 : decode cX7_readsRow 66 = .ok (.goto 4, 3) := by decide +kernel
theorem dX7_readsRow_69 : decode cX7_readsRow 69 = .ok (.iconst 0, 1) := by decide +kernel
theorem dX7_readsRow_70 : decode cX7_readsRow 70 = .ok (.iadd, 1) := by decide +kernel
theorem dX7_readsRow_71 : decode cX7_readsRow 71 = .ok (.putfield 227, 3) := by decide +kernel
theorem dX7_readsRow_74 : decode cX7_readsRow 74 = .ok (.aload_n 0, 1) := by decide +kernel
theorem dX7_readsRow_75 : decode cX7_readsRow 75 = .ok (.dup, 1) := by decide +kernel
theorem dX7_readsRow_76 : decode cX7_readsRow 76 = .ok (.getfield 230, 3) := by decide +kernel
theorem dX7_readsRow_79 : decode cX7_readsRow 79 = .ok (.aload_n 0, 1) := by decide +kernel
theorem dX7_readsRow_80 : decode cX7_readsRow 80 = .ok (.getfield 98, 3) := by decide +kernel
theorem dX7_readsRow_83 : decode cX7_readsRow 83 = .ok (.ifCond .ne 7, 3) := by decide +kernel
theorem dX7_readsRow_86 : decode cX7_readsRow 86 = .ok (.iconst 1, 1) := by decide +kernel
theorem dX7_readsRow_87 : decode cX7_readsRow 87 = .ok (.goto 4, 3) := by decide +kernel
theorem dX7_readsRow_90 : decode cX7_readsRow 90 = .ok (.iconst 0, 1) := by decide +kernel
theorem dX7_readsRow_91 : decode cX7_readsRow 91 = .ok (.iadd, 1) := by decide +kernel
theorem dX7_readsRow_92 : decode cX7_readsRow 92 = .ok (.putfield 230, 3) := by decide +kernel
theorem dX7_readsRow_95 : decode cX7_readsRow 95 = .ok (.iinc 3 1, 3) := by decide +kernel
theorem dX7_readsRow_98 : decode cX7_readsRow 98 = .ok (.goto (-81), 3) := by decide +kernel
theorem dX7_readsRow_101 : decode cX7_readsRow 101 = .ok (.return_, 1) := by decide +kernel
theorem dX7_plan_0 : decode cX7_plan 0 = .ok (.iload_n 3, 1) := by decide +kernel
theorem dX7_plan_1 : decode cX7_plan 1 = .ok (.i2l, 1) := by decide +kernel
theorem dX7_plan_2 : decode cX7_plan 2 = .ok (.lconst 0, 1) := by decide +kernel
theorem dX7_plan_3 : decode cX7_plan 3 = .ok (.ldc2_w 133, 3) := by decide +kernel
theorem dX7_plan_6 : decode cX7_plan 6 = .ok (.invokestatic 47, 3) := by decide +kernel
theorem dX7_plan_9 : decode cX7_plan 9 = .ok (.ifCond .eq 14, 3) := by decide +kernel
theorem dX7_plan_12 : decode cX7_plan 12 = .ok (.aload_n 0, 1) := by decide +kernel
theorem dX7_plan_13 : decode cX7_plan 13 = .ok (.iload_n 1, 1) := by decide +kernel
theorem dX7_plan_14 : decode cX7_plan 14 = .ok (.iload_n 2, 1) := by decide +kernel
theorem dX7_plan_15 : decode cX7_plan 15 = .ok (.bipush 40, 2) := by decide +kernel
theorem dX7_plan_17 : decode cX7_plan 17 = .ok (.invokevirtual 233, 3) := by decide +kernel
theorem dX7_plan_20 : decode cX7_plan 20 = .ok (.goto 5, 3) := by decide +kernel
theorem dX7_plan_23 : decode cX7_plan 23 = .ok (.bipush (-52), 2) := by decide +kernel
theorem dX7_plan_25 : decode cX7_plan 25 = .ok (.istore 4, 2) := by decide +kernel
theorem dX7_plan_27 : decode cX7_plan 27 = .ok (.iload 4, 2) := by decide +kernel
theorem dX7_plan_29 : decode cX7_plan 29 = .ok (.ifCond .eq 10, 3) := by decide +kernel
theorem dX7_plan_32 : decode cX7_plan 32 = .ok (.aload_n 0, 1) := by decide +kernel
theorem dX7_plan_33 : decode cX7_plan 33 = .ok (.iload 4, 2) := by decide +kernel
theorem dX7_plan_35 : decode cX7_plan 35 = .ok (.invokevirtual 127, 3) := by decide +kernel
theorem dX7_plan_38 : decode cX7_plan 38 = .ok (.ireturn, 1) := by decide +kernel
theorem dX7_plan_39 : decode cX7_plan 39 = .ok (.aload_n 0, 1) := by decide +kernel
theorem dX7_plan_40 : decode cX7_plan 40 = .ok (.getfield 7, 3) := by decide +kernel
theorem dX7_plan_43 : decode cX7_plan 43 = .ok (.aload_n 0, 1) := by decide +kernel
theorem dX7_plan_44 : decode cX7_plan 44 = .ok (.getfield 16, 3) := by decide +kernel
theorem dX7_plan_47 : decode cX7_plan 47 = .ok (.invokestatic 217, 3) := by decide +kernel
theorem dX7_plan_50 : decode cX7_plan 50 = .ok (.aload_n 0, 1) := by decide +kernel
theorem dX7_plan_51 : decode cX7_plan 51 = .ok (.iload_n 1, 1) := by decide +kernel
theorem dX7_plan_52 : decode cX7_plan 52 = .ok (.iload_n 2, 1) := by decide +kernel
theorem dX7_plan_53 : decode cX7_plan 53 = .ok (.invokevirtual 236, 3) := by decide +kernel
theorem dX7_plan_56 : decode cX7_plan 56 = .ok (.aload_n 0, 1) := by decide +kernel
theorem dX7_plan_57 : decode cX7_plan 57 = .ok (.getfield 16, 3) := by decide +kernel
theorem dX7_plan_60 : decode cX7_plan 60 = .ok (.aload_n 0, 1) := by decide +kernel
theorem dX7_plan_61 : decode cX7_plan 61 = .ok (.getfield 7, 3) := by decide +kernel
theorem dX7_plan_64 : decode cX7_plan 64 = .ok (.invokestatic 217, 3) := by decide +kernel
theorem dX7_plan_67 : decode cX7_plan 67 = .ok (.iload_n 3, 1) := by decide +kernel
theorem dX7_plan_68 : decode cX7_plan 68 = .ok (.ifCond .ne 10, 3) := by decide +kernel
theorem dX7_plan_71 : decode cX7_plan 71 = .ok (.aload_n 0, 1) := by decide +kernel
theorem dX7_plan_72 : decode cX7_plan 72 = .ok (.getfield 224, 3) := by decide +kernel
theorem dX7_plan_75 : decode cX7_plan 75 = .ok (.goto 19, 3) := by decide +kernel
theorem dX7_plan_78 : decode cX7_plan 78 = .ok (.iload_n 3, 1) := by decide +kernel
theorem dX7_plan_79 : decode cX7_plan 79 = .ok (.iconst 1, 1) := by decide +kernel
theorem dX7_plan_80 : decode cX7_plan 80 = .ok (.if_icmp .ne 10, 3) := by decide +kernel
theorem dX7_plan_83 : decode cX7_plan 83 = .ok (.aload_n 0, 1) := by decide +kernel
theorem dX7_plan_84 : decode cX7_plan 84 = .ok (.getfield 227, 3) := by decide +kernel
theorem dX7_plan_87 : decode cX7_plan 87 = .ok (.goto 7, 3) := by decide +kernel
theorem dX7_plan_90 : decode cX7_plan 90 = .ok (.aload_n 0, 1) := by decide +kernel
theorem dX7_plan_91 : decode cX7_plan 91 = .ok (.getfield 230, 3) := by decide +kernel
theorem dX7_plan_94 : decode cX7_plan 94 = .ok (.ireturn, 1) := by decide +kernel
theorem dX7_costWith_0 : decode cX7_costWith 0 = .ok (.aload_n 0, 1) := by decide +kernel
theorem dX7_costWith_1 : decode cX7_costWith 1 = .ok (.getfield 7, 3) := by decide +kernel
theorem dX7_costWith_4 : decode cX7_costWith 4 = .ok (.aload_n 0, 1) := by decide +kernel
theorem dX7_costWith_5 : decode cX7_costWith 5 = .ok (.getfield 16, 3) := by decide +kernel
theorem dX7_costWith_8 : decode cX7_costWith 8 = .ok (.invokestatic 217, 3) := by decide +kernel
theorem dX7_costWith_11 : decode cX7_costWith 11 = .ok (.aload_n 0, 1) := by decide +kernel
theorem dX7_costWith_12 : decode cX7_costWith 12 = .ok (.invokevirtual 130, 3) := by decide +kernel
theorem dX7_costWith_15 : decode cX7_costWith 15 = .ok (.aload_n 0, 1) := by decide +kernel
theorem dX7_costWith_16 : decode cX7_costWith 16 = .ok (.getfield 7, 3) := by decide +kernel
theorem dX7_costWith_19 : decode cX7_costWith 19 = .ok (.iload_n 3, 1) := by decide +kernel
theorem dX7_costWith_20 : decode cX7_costWith 20 = .ok (.iload 4, 2) := by decide +kernel
theorem dX7_costWith_22 : decode cX7_costWith 22 = .ok (.iastore, 1) := by decide +kernel
theorem dX7_costWith_23 : decode cX7_costWith 23 = .ok (.aload_n 0, 1) := by decide +kernel
theorem dX7_costWith_24 : decode cX7_costWith 24 = .ok (.iload_n 1, 1) := by decide +kernel
theorem dX7_costWith_25 : decode cX7_costWith 25 = .ok (.iload_n 2, 1) := by decide +kernel
theorem dX7_costWith_26 : decode cX7_costWith 26 = .ok (.invokevirtual 236, 3) := by decide +kernel
theorem dX7_costWith_29 : decode cX7_costWith 29 = .ok (.aload_n 0, 1) := by decide +kernel
theorem dX7_costWith_30 : decode cX7_costWith 30 = .ok (.getfield 16, 3) := by decide +kernel
theorem dX7_costWith_33 : decode cX7_costWith 33 = .ok (.aload_n 0, 1) := by decide +kernel
theorem dX7_costWith_34 : decode cX7_costWith 34 = .ok (.getfield 7, 3) := by decide +kernel
theorem dX7_costWith_37 : decode cX7_costWith 37 = .ok (.invokestatic 217, 3) := by decide +kernel
theorem dX7_costWith_40 : decode cX7_costWith 40 = .ok (.aload_n 0, 1) := by decide +kernel
theorem dX7_costWith_41 : decode cX7_costWith 41 = .ok (.getfield 224, 3) := by decide +kernel
theorem dX7_costWith_44 : decode cX7_costWith 44 = .ok (.ireturn, 1) := by decide +kernel
theorem dX7_rule_0 : decode cX7_rule 0 = .ok (.aload_n 0, 1) := by decide +kernel
theorem dX7_rule_1 : decode cX7_rule 1 = .ok (.iload_n 1, 1) := by decide +kernel
theorem dX7_rule_2 : decode cX7_rule 2 = .ok (.invokevirtual 147, 3) := by decide +kernel
theorem dX7_rule_5 : decode cX7_rule 5 = .ok (.ifCond .eq 14, 3) := by decide +kernel
theorem dX7_rule_8 : decode cX7_rule 8 = .ok (.aload_n 0, 1) := by decide +kernel
theorem dX7_rule_9 : decode cX7_rule 9 = .ok (.iload_n 2, 1) := by decide +kernel
theorem dX7_rule_10 : decode cX7_rule 10 = .ok (.iload_n 3, 1) := by decide +kernel
theorem dX7_rule_11 : decode cX7_rule 11 = .ok (.bipush 40, 2) := by decide +kernel
theorem dX7_rule_13 : decode cX7_rule 13 = .ok (.invokevirtual 233, 3) := by decide +kernel
theorem dX7_rule_16 : decode cX7_rule 16 = .ok (.goto 5, 3) := by decide +kernel
theorem dX7_rule_19 : decode cX7_rule 19 = .ok (.bipush (-52), 2) := by decide +kernel
theorem dX7_rule_21 : decode cX7_rule 21 = .ok (.istore 4, 2) := by decide +kernel
theorem dX7_rule_23 : decode cX7_rule 23 = .ok (.iload 4, 2) := by decide +kernel
theorem dX7_rule_25 : decode cX7_rule 25 = .ok (.ifCond .eq 10, 3) := by decide +kernel
theorem dX7_rule_28 : decode cX7_rule 28 = .ok (.aload_n 0, 1) := by decide +kernel
theorem dX7_rule_29 : decode cX7_rule 29 = .ok (.iload 4, 2) := by decide +kernel
theorem dX7_rule_31 : decode cX7_rule 31 = .ok (.invokevirtual 127, 3) := by decide +kernel
theorem dX7_rule_34 : decode cX7_rule 34 = .ok (.ireturn, 1) := by decide +kernel
theorem dX7_rule_35 : decode cX7_rule 35 = .ok (.iconst 3, 1) := by decide +kernel
theorem dX7_rule_36 : decode cX7_rule 36 = .ok (.istore 5, 2) := by decide +kernel
theorem dX7_rule_38 : decode cX7_rule 38 = .ok (.ldc 241, 2) := by decide +kernel
theorem dX7_rule_40 : decode cX7_rule 40 = .ok (.istore 6, 2) := by decide +kernel
theorem dX7_rule_42 : decode cX7_rule 42 = .ok (.iconst 3, 1) := by decide +kernel
theorem dX7_rule_43 : decode cX7_rule 43 = .ok (.istore 7, 2) := by decide +kernel
theorem dX7_rule_45 : decode cX7_rule 45 = .ok (.iload 7, 2) := by decide +kernel
theorem dX7_rule_47 : decode cX7_rule 47 = .ok (.bipush 9, 2) := by decide +kernel
theorem dX7_rule_49 : decode cX7_rule 49 = .ok (.if_icmp .ge 51, 3) := by decide +kernel
theorem dX7_rule_52 : decode cX7_rule 52 = .ok (.aload_n 0, 1) := by decide +kernel
theorem dX7_rule_53 : decode cX7_rule 53 = .ok (.iload_n 2, 1) := by decide +kernel
theorem dX7_rule_54 : decode cX7_rule 54 = .ok (.iload_n 3, 1) := by decide +kernel
theorem dX7_rule_55 : decode cX7_rule 55 = .ok (.iload_n 1, 1) := by decide +kernel
theorem dX7_rule_56 : decode cX7_rule 56 = .ok (.iconst 1, 1) := by decide +kernel
theorem dX7_rule_57 : decode cX7_rule 57 = .ok (.isub, 1) := by decide +kernel
theorem dX7_rule_58 : decode cX7_rule 58 = .ok (.iconst 2, 1) := by decide +kernel
theorem dX7_rule_59 : decode cX7_rule 59 = .ok (.invokestatic 51, 3) := by decide +kernel
theorem dX7_rule_62 : decode cX7_rule 62 = .ok (.iload 7, 2) := by decide +kernel
theorem dX7_rule_64 : decode cX7_rule 64 = .ok (.invokevirtual 242, 3) := by decide +kernel
theorem dX7_rule_67 : decode cX7_rule 67 = .ok (.istore 8, 2) := by decide +kernel
theorem dX7_rule_69 : decode cX7_rule 69 = .ok (.iload 8, 2) := by decide +kernel
theorem dX7_rule_71 : decode cX7_rule 71 = .ok (.iload 6, 2) := by decide +kernel
theorem dX7_rule_73 : decode cX7_rule 73 = .ok (.if_icmp .ge 8, 3) := by decide +kernel
theorem dX7_rule_76 : decode cX7_rule 76 = .ok (.iload 7, 2) := by decide +kernel
theorem dX7_rule_78 : decode cX7_rule 78 = .ok (.goto 5, 3) := by decide +kernel
theorem dX7_rule_81 : decode cX7_rule 81 = .ok (.iload 5, 2) := by decide +kernel
theorem dX7_rule_83 : decode cX7_rule 83 = .ok (.istore 5, 2) := by decide +kernel
theorem dX7_rule_85 : decode cX7_rule 85 = .ok (.iload 6, 2) := by decide +kernel
theorem dX7_rule_87 : decode cX7_rule 87 = .ok (.iload 8, 2) := by decide +kernel
theorem dX7_rule_89 : decode cX7_rule 89 = .ok (.invokestatic 105, 3) := by decide +kernel
theorem dX7_rule_92 : decode cX7_rule 92 = .ok (.istore 6, 2) := by decide +kernel
theorem dX7_rule_94 : decode cX7_rule 94 = .ok (.iinc 7 1, 3) := by decide +kernel
theorem dX7_rule_97 : decode cX7_rule 97 = .ok (.goto (-52), 3) := by decide +kernel
theorem dX7_rule_100 : decode cX7_rule 100 = .ok (.iload 5, 2) := by decide +kernel
theorem dX7_rule_102 : decode cX7_rule 102 = .ok (.ireturn, 1) := by decide +kernel
theorem dX7_size_0 : decode cX7_size 0 = .ok (.aload_n 0, 1) := by decide +kernel
theorem dX7_size_1 : decode cX7_size 1 = .ok (.iload_n 1, 1) := by decide +kernel
theorem dX7_size_2 : decode cX7_size 2 = .ok (.invokevirtual 147, 3) := by decide +kernel
theorem dX7_size_5 : decode cX7_size 5 = .ok (.ifCond .eq 19, 3) := by decide +kernel
theorem dX7_size_8 : decode cX7_size 8 = .ok (.iload 4, 2) := by decide +kernel
theorem dX7_size_10 : decode cX7_size 10 = .ok (.ifCond .lt 14, 3) := by decide +kernel
theorem dX7_size_13 : decode cX7_size 13 = .ok (.aload_n 0, 1) := by decide +kernel
theorem dX7_size_14 : decode cX7_size 14 = .ok (.iload_n 2, 1) := by decide +kernel
theorem dX7_size_15 : decode cX7_size 15 = .ok (.iload_n 3, 1) := by decide +kernel
theorem dX7_size_16 : decode cX7_size 16 = .ok (.bipush 40, 2) := by decide +kernel
theorem dX7_size_18 : decode cX7_size 18 = .ok (.invokevirtual 233, 3) := by decide +kernel
theorem dX7_size_21 : decode cX7_size 21 = .ok (.goto 5, 3) := by decide +kernel
theorem dX7_size_24 : decode cX7_size 24 = .ok (.bipush (-52), 2) := by decide +kernel
theorem dX7_size_26 : decode cX7_size 26 = .ok (.istore 5, 2) := by decide +kernel
theorem dX7_size_28 : decode cX7_size 28 = .ok (.iload 5, 2) := by decide +kernel
theorem dX7_size_30 : decode cX7_size 30 = .ok (.ifCond .eq 10, 3) := by decide +kernel
theorem dX7_size_33 : decode cX7_size 33 = .ok (.aload_n 0, 1) := by decide +kernel
theorem dX7_size_34 : decode cX7_size 34 = .ok (.iload 5, 2) := by decide +kernel
theorem dX7_size_36 : decode cX7_size 36 = .ok (.invokevirtual 127, 3) := by decide +kernel
theorem dX7_size_39 : decode cX7_size 39 = .ok (.ireturn, 1) := by decide +kernel
theorem dX7_size_40 : decode cX7_size 40 = .ok (.iconst 1, 1) := by decide +kernel
theorem dX7_size_41 : decode cX7_size 41 = .ok (.istore 6, 2) := by decide +kernel
theorem dX7_size_43 : decode cX7_size 43 = .ok (.iload 6, 2) := by decide +kernel
theorem dX7_size_45 : decode cX7_size 45 = .ok (.bipush 16, 2) := by decide +kernel
theorem dX7_size_47 : decode cX7_size 47 = .ok (.if_icmp .gt 32, 3) := by decide +kernel
theorem dX7_size_50 : decode cX7_size 50 = .ok (.aload_n 0, 1) := by decide +kernel
theorem dX7_size_51 : decode cX7_size 51 = .ok (.iload_n 2, 1) := by decide +kernel
theorem dX7_size_52 : decode cX7_size 52 = .ok (.iload_n 3, 1) := by decide +kernel
theorem dX7_size_53 : decode cX7_size 53 = .ok (.iload_n 1, 1) := by decide +kernel
theorem dX7_size_54 : decode cX7_size 54 = .ok (.iconst 1, 1) := by decide +kernel
theorem dX7_size_55 : decode cX7_size 55 = .ok (.isub, 1) := by decide +kernel
theorem dX7_size_56 : decode cX7_size 56 = .ok (.iconst 0, 1) := by decide +kernel
theorem dX7_size_57 : decode cX7_size 57 = .ok (.invokestatic 51, 3) := by decide +kernel
theorem dX7_size_60 : decode cX7_size 60 = .ok (.iload 6, 2) := by decide +kernel
theorem dX7_size_62 : decode cX7_size 62 = .ok (.invokevirtual 242, 3) := by decide +kernel
theorem dX7_size_65 : decode cX7_size 65 = .ok (.iload 4, 2) := by decide +kernel
theorem dX7_size_67 : decode cX7_size 67 = .ok (.if_icmp .gt 6, 3) := by decide +kernel
theorem dX7_size_70 : decode cX7_size 70 = .ok (.iload 6, 2) := by decide +kernel
theorem dX7_size_72 : decode cX7_size 72 = .ok (.ireturn, 1) := by decide +kernel
theorem dX7_size_73 : decode cX7_size 73 = .ok (.iinc 6 1, 3) := by decide +kernel
theorem dX7_size_76 : decode cX7_size 76 = .ok (.goto (-33), 3) := by decide +kernel
theorem dX7_size_79 : decode cX7_size 79 = .ok (.iconst (-1), 1) := by decide +kernel
theorem dX7_size_80 : decode cX7_size 80 = .ok (.ireturn, 1) := by decide +kernel
theorem dX7_modes_0 : decode cX7_modes 0 = .ok (.aload_n 0, 1) := by decide +kernel
theorem dX7_modes_1 : decode cX7_modes 1 = .ok (.iload_n 1, 1) := by decide +kernel
theorem dX7_modes_2 : decode cX7_modes 2 = .ok (.iload_n 2, 1) := by decide +kernel
theorem dX7_modes_3 : decode cX7_modes 3 = .ok (.bipush 40, 2) := by decide +kernel
theorem dX7_modes_5 : decode cX7_modes 5 = .ok (.invokevirtual 233, 3) := by decide +kernel
theorem dX7_modes_8 : decode cX7_modes 8 = .ok (.istore_n 3, 1) := by decide +kernel
theorem dX7_modes_9 : decode cX7_modes 9 = .ok (.iload_n 3, 1) := by decide +kernel
theorem dX7_modes_10 : decode cX7_modes 10 = .ok (.ifCond .eq 9, 3) := by decide +kernel
theorem dX7_modes_13 : decode cX7_modes 13 = .ok (.aload_n 0, 1) := by decide +kernel
theorem dX7_modes_14 : decode cX7_modes 14 = .ok (.iload_n 3, 1) := by decide +kernel
theorem dX7_modes_15 : decode cX7_modes 15 = .ok (.invokevirtual 127, 3) := by decide +kernel
theorem dX7_modes_18 : decode cX7_modes 18 = .ok (.ireturn, 1) := by decide +kernel
theorem dX7_modes_19 : decode cX7_modes 19 = .ok (.iconst 0, 1) := by decide +kernel
theorem dX7_modes_20 : decode cX7_modes 20 = .ok (.istore 4, 2) := by decide +kernel
theorem dX7_modes_22 : decode cX7_modes 22 = .ok (.ldc 241, 2) := by decide +kernel
theorem dX7_modes_24 : decode cX7_modes 24 = .ok (.istore 5, 2) := by decide +kernel
theorem dX7_modes_26 : decode cX7_modes 26 = .ok (.iconst 0, 1) := by decide +kernel
theorem dX7_modes_27 : decode cX7_modes 27 = .ok (.istore 6, 2) := by decide +kernel
theorem dX7_modes_29 : decode cX7_modes 29 = .ok (.iload 6, 2) := by decide +kernel
theorem dX7_modes_31 : decode cX7_modes 31 = .ok (.iconst 3, 1) := by decide +kernel
theorem dX7_modes_32 : decode cX7_modes 32 = .ok (.if_icmp .ge 66, 3) := by decide +kernel
theorem dX7_modes_35 : decode cX7_modes 35 = .ok (.aload_n 0, 1) := by decide +kernel
theorem dX7_modes_36 : decode cX7_modes 36 = .ok (.iload_n 1, 1) := by decide +kernel
theorem dX7_modes_37 : decode cX7_modes 37 = .ok (.iload_n 2, 1) := by decide +kernel
theorem dX7_modes_38 : decode cX7_modes 38 = .ok (.sipush 689, 3) := by decide +kernel
theorem dX7_modes_41 : decode cX7_modes 41 = .ok (.iload 6, 2) := by decide +kernel
theorem dX7_modes_43 : decode cX7_modes 43 = .ok (.invokevirtual 242, 3) := by decide +kernel
theorem dX7_modes_46 : decode cX7_modes 46 = .ok (.istore 7, 2) := by decide +kernel
theorem dX7_modes_48 : decode cX7_modes 48 = .ok (.iload 7, 2) := by decide +kernel
theorem dX7_modes_50 : decode cX7_modes 50 = .ok (.iload 5, 2) := by decide +kernel
theorem dX7_modes_52 : decode cX7_modes 52 = .ok (.if_icmp .ge 10, 3) := by decide +kernel
theorem dX7_modes_55 : decode cX7_modes 55 = .ok (.iconst 1, 1) := by decide +kernel
theorem dX7_modes_56 : decode cX7_modes 56 = .ok (.iload 6, 2) := by decide +kernel
theorem dX7_modes_58 : decode cX7_modes 58 = .ok (.ishl, 1) := by decide +kernel
theorem dX7_modes_59 : decode cX7_modes 59 = .ok (.goto 22, 3) := by decide +kernel
theorem dX7_modes_62 : decode cX7_modes 62 = .ok (.iload 7, 2) := by decide +kernel
theorem dX7_modes_64 : decode cX7_modes 64 = .ok (.iload 5, 2) := by decide +kernel
theorem dX7_modes_66 : decode cX7_modes 66 = .ok (.if_icmp .ne 13, 3) := by decide +kernel
theorem dX7_modes_69 : decode cX7_modes 69 = .ok (.iload 4, 2) := by decide +kernel
theorem dX7_modes_71 : decode cX7_modes 71 = .ok (.iconst 1, 1) := by decide +kernel
theorem dX7_modes_72 : decode cX7_modes 72 = .ok (.iload 6, 2) := by decide +kernel
theorem dX7_modes_74 : decode cX7_modes 74 = .ok (.ishl, 1) := by decide +kernel
theorem dX7_modes_75 : decode cX7_modes 75 = .ok (.ior, 1) := by decide +kernel
theorem dX7_modes_76 : decode cX7_modes 76 = .ok (.goto 5, 3) := by decide +kernel
theorem dX7_modes_79 : decode cX7_modes 79 = .ok (.iload 4, 2) := by decide +kernel
theorem dX7_modes_81 : decode cX7_modes 81 = .ok (.istore 4, 2) := by decide +kernel
theorem dX7_modes_83 : decode cX7_modes 83 = .ok (.iload 5, 2) := by decide +kernel
theorem dX7_modes_85 : decode cX7_modes 85 = .ok (.iload 7, 2) := by decide +kernel
theorem dX7_modes_87 : decode cX7_modes 87 = .ok (.invokestatic 105, 3) := by decide +kernel
theorem dX7_modes_90 : decode cX7_modes 90 = .ok (.istore 5, 2) := by decide +kernel
theorem dX7_modes_92 : decode cX7_modes 92 = .ok (.iinc 6 1, 3) := by decide +kernel
theorem dX7_modes_95 : decode cX7_modes 95 = .ok (.goto (-66), 3) := by decide +kernel
theorem dX7_modes_98 : decode cX7_modes 98 = .ok (.iload 4, 2) := by decide +kernel
theorem dX7_modes_100 : decode cX7_modes 100 = .ok (.ireturn, 1) := by decide +kernel
theorem dX7_nextRead_0 : decode cX7_nextRead 0 = .ok (.iload_n 3, 1) := by decide +kernel
theorem dX7_nextRead_1 : decode cX7_nextRead 1 = .ok (.istore 5, 2) := by decide +kernel
theorem dX7_nextRead_3 : decode cX7_nextRead 3 = .ok (.iload 5, 2) := by decide +kernel
theorem dX7_nextRead_5 : decode cX7_nextRead 5 = .ok (.iload_n 2, 1) := by decide +kernel
theorem dX7_nextRead_6 : decode cX7_nextRead 6 = .ok (.if_icmp .ge 28, 3) := by decide +kernel
theorem dX7_nextRead_9 : decode cX7_nextRead 9 = .ok (.aload_n 0, 1) := by decide +kernel
theorem dX7_nextRead_10 : decode cX7_nextRead 10 = .ok (.getfield 31, 3) := by decide +kernel
theorem dX7_nextRead_13 : decode cX7_nextRead 13 = .ok (.bipush 40, 2) := by decide +kernel
theorem dX7_nextRead_15 : decode cX7_nextRead 15 = .ok (.iload_n 1, 1) := by decide +kernel
theorem dX7_nextRead_16 : decode cX7_nextRead 16 = .ok (.imul, 1) := by decide +kernel
theorem dX7_nextRead_17 : decode cX7_nextRead 17 = .ok (.iload 5, 2) := by decide +kernel
theorem dX7_nextRead_19 : decode cX7_nextRead 19 = .ok (.iadd, 1) := by decide +kernel
theorem dX7_nextRead_20 : decode cX7_nextRead 20 = .ok (.laload, 1) := by decide +kernel
theorem dX7_nextRead_21 : decode cX7_nextRead 21 = .ok (.iload 4, 2) := by decide +kernel
theorem dX7_nextRead_23 : decode cX7_nextRead 23 = .ok (.i2l, 1) := by decide +kernel
theorem dX7_nextRead_24 : decode cX7_nextRead 24 = .ok (.lcmp, 1) := by decide +kernel
theorem dX7_nextRead_25 : decode cX7_nextRead 25 = .ok (.ifCond .eq 9, 3) := by decide +kernel
theorem dX7_nextRead_28 : decode cX7_nextRead 28 = .ok (.iinc 5 1, 3) := by decide +kernel
theorem dX7_nextRead_31 : decode cX7_nextRead 31 = .ok (.goto (-28), 3) := by decide +kernel
theorem dX7_nextRead_34 : decode cX7_nextRead 34 = .ok (.iload 5, 2) := by decide +kernel
theorem dX7_nextRead_36 : decode cX7_nextRead 36 = .ok (.ireturn, 1) := by decide +kernel
theorem dX7_foresight_0 : decode cX7_foresight 0 = .ok (.iload_n 3, 1) := by decide +kernel
theorem dX7_foresight_1 : decode cX7_foresight 1 = .ok (.i2l, 1) := by decide +kernel
theorem dX7_foresight_2 : decode cX7_foresight 2 = .ok (.lconst 1, 1) := by decide +kernel
theorem dX7_foresight_3 : decode cX7_foresight 3 = .ok (.ldc2_w 119, 3) := by decide +kernel
theorem dX7_foresight_6 : decode cX7_foresight 6 = .ok (.invokestatic 47, 3) := by decide +kernel
theorem dX7_foresight_9 : decode cX7_foresight 9 = .ok (.ifCond .eq 14, 3) := by decide +kernel
theorem dX7_foresight_12 : decode cX7_foresight 12 = .ok (.aload_n 0, 1) := by decide +kernel
theorem dX7_foresight_13 : decode cX7_foresight 13 = .ok (.iload_n 1, 1) := by decide +kernel
theorem dX7_foresight_14 : decode cX7_foresight 14 = .ok (.iload_n 2, 1) := by decide +kernel
theorem dX7_foresight_15 : decode cX7_foresight 15 = .ok (.bipush 40, 2) := by decide +kernel
theorem dX7_foresight_17 : decode cX7_foresight 17 = .ok (.invokevirtual 233, 3) := by decide +kernel
theorem dX7_foresight_20 : decode cX7_foresight 20 = .ok (.goto 5, 3) := by decide +kernel
theorem dX7_foresight_23 : decode cX7_foresight 23 = .ok (.bipush (-52), 2) := by decide +kernel
theorem dX7_foresight_25 : decode cX7_foresight 25 = .ok (.istore 4, 2) := by decide +kernel
theorem dX7_foresight_27 : decode cX7_foresight 27 = .ok (.iload 4, 2) := by decide +kernel
theorem dX7_foresight_29 : decode cX7_foresight 29 = .ok (.ifCond .eq 10, 3) := by decide +kernel
theorem dX7_foresight_32 : decode cX7_foresight 32 = .ok (.aload_n 0, 1) := by decide +kernel
theorem dX7_foresight_33 : decode cX7_foresight 33 = .ok (.iload 4, 2) := by decide +kernel
theorem dX7_foresight_35 : decode cX7_foresight 35 = .ok (.invokevirtual 127, 3) := by decide +kernel
theorem dX7_foresight_38 : decode cX7_foresight 38 = .ok (.ireturn, 1) := by decide +kernel
theorem dX7_foresight_39 : decode cX7_foresight 39 = .ok (.iconst 0, 1) := by decide +kernel
theorem dX7_foresight_40 : decode cX7_foresight 40 = .ok (.istore 5, 2) := by decide +kernel
theorem dX7_foresight_42 : decode cX7_foresight 42 = .ok (.iconst 0, 1) := by decide +kernel
theorem dX7_foresight_43 : decode cX7_foresight 43 = .ok (.istore 6, 2) := by decide +kernel
theorem dX7_foresight_45 : decode cX7_foresight 45 = .ok (.iconst 0, 1) := by decide +kernel
theorem dX7_foresight_46 : decode cX7_foresight 46 = .ok (.istore 7, 2) := by decide +kernel
theorem dX7_foresight_48 : decode cX7_foresight 48 = .ok (.iload 7, 2) := by decide +kernel
theorem dX7_foresight_50 : decode cX7_foresight 50 = .ok (.iload_n 2, 1) := by decide +kernel
theorem dX7_foresight_51 : decode cX7_foresight 51 = .ok (.if_icmp .ge 187, 3) := by decide +kernel
theorem dX7_foresight_54 : decode cX7_foresight 54 = .ok (.aload_n 0, 1) := by decide +kernel
theorem dX7_foresight_55 : decode cX7_foresight 55 = .ok (.getfield 31, 3) := by decide +kernel
theorem dX7_foresight_58 : decode cX7_foresight 58 = .ok (.bipush 40, 2) := by decide +kernel
theorem dX7_foresight_60 : decode cX7_foresight 60 = .ok (.iload_n 1, 1) := by decide +kernel
theorem dX7_foresight_61 : decode cX7_foresight 61 = .ok (.imul, 1) := by decide +kernel
theorem dX7_foresight_62 : decode cX7_foresight 62 = .ok (.iload 7, 2) := by decide +kernel
theorem dX7_foresight_64 : decode cX7_foresight 64 = .ok (.iadd, 1) := by decide +kernel
theorem dX7_foresight_65 : decode cX7_foresight 65 = .ok (.laload, 1) := by decide +kernel
theorem dX7_foresight_66 : decode cX7_foresight 66 = .ok (.l2i, 1) := by decide +kernel
theorem dX7_foresight_67 : decode cX7_foresight 67 = .ok (.istore 8, 2) := by decide +kernel
theorem dX7_foresight_69 : decode cX7_foresight 69 = .ok (.iconst 0, 1) := by decide +kernel
theorem dX7_foresight_70 : decode cX7_foresight 70 = .ok (.istore 9, 2) := by decide +kernel
theorem dX7_foresight_72 : decode cX7_foresight 72 = .ok (.iload 9, 2) := by decide +kernel
theorem dX7_foresight_74 : decode cX7_foresight 74 = .ok (.iload 5, 2) := by decide +kernel
theorem dX7_foresight_76 : decode cX7_foresight 76 = .ok (.if_icmp .ge 21, 3) := by decide +kernel
theorem dX7_foresight_79 : decode cX7_foresight 79 = .ok (.aload_n 0, 1) := by decide +kernel
theorem dX7_foresight_80 : decode cX7_foresight 80 = .ok (.getfield 42, 3) := by decide +kernel
theorem dX7_foresight_83 : decode cX7_foresight 83 = .ok (.iload 9, 2) := by decide +kernel
theorem dX7_foresight_85 : decode cX7_foresight 85 = .ok (.iaload, 1) := by decide +kernel
theorem dX7_foresight_86 : decode cX7_foresight 86 = .ok (.iload 8, 2) := by decide +kernel
theorem dX7_foresight_88 : decode cX7_foresight 88 = .ok (.if_icmp .eq 9, 3) := by decide +kernel
theorem dX7_foresight_91 : decode cX7_foresight 91 = .ok (.iinc 9 1, 3) := by decide +kernel
theorem dX7_foresight_94 : decode cX7_foresight 94 = .ok (.goto (-22), 3) := by decide +kernel
theorem dX7_foresight_97 : decode cX7_foresight 97 = .ok (.iload 9, 2) := by decide +kernel
theorem dX7_foresight_99 : decode cX7_foresight 99 = .ok (.iload 5, 2) := by decide +kernel
theorem dX7_foresight_101 : decode cX7_foresight 101 = .ok (.if_icmp .ge 9, 3) := by decide +kernel
theorem dX7_foresight_104 : decode cX7_foresight 104 = .ok (.iinc 6 1, 3) := by decide +kernel
theorem dX7_foresight_107 : decode cX7_foresight 107 = .ok (.goto 125, 3) := by decide +kernel
theorem dX7_foresight_110 : decode cX7_foresight 110 = .ok (.iload 5, 2) := by decide +kernel
theorem dX7_foresight_112 : decode cX7_foresight 112 = .ok (.iload_n 3, 1) := by decide +kernel
theorem dX7_foresight_113 : decode cX7_foresight 113 = .ok (.if_icmp .ge 18, 3) := by decide +kernel
theorem dX7_foresight_116 : decode cX7_foresight 116 = .ok (.aload_n 0, 1) := by decide +kernel
theorem dX7_foresight_117 : decode cX7_foresight 117 = .ok (.getfield 42, 3) := by decide +kernel
theorem dX7_foresight_120 : decode cX7_foresight 120 = .ok (.iload 5, 2) := by decide +kernel
theorem dX7_foresight_122 : decode cX7_foresight 122 = .ok (.iload 8, 2) := by decide +kernel
theorem dX7_foresight_124 : decode cX7_foresight 124 = .ok (.iastore, 1) := by decide +kernel
theorem dX7_foresight_125 : decode cX7_foresight 125 = .ok (.iinc 5 1, 3) := by decide +kernel
theorem dX7_foresight_128 : decode cX7_foresight 128 = .ok (.goto 104, 3) := by decide +kernel
theorem dX7_foresight_131 : decode cX7_foresight 131 = .ok (.iconst 0, 1) := by decide +kernel
theorem dX7_foresight_132 : decode cX7_foresight 132 = .ok (.istore 10, 2) := by decide +kernel
theorem dX7_foresight_134 : decode cX7_foresight 134 = .ok (.iconst 1, 1) := by decide +kernel
theorem dX7_foresight_135 : decode cX7_foresight 135 = .ok (.istore 11, 2) := by decide +kernel
theorem dX7_foresight_137 : decode cX7_foresight 137 = .ok (.iload 11, 2) := by decide +kernel
theorem dX7_foresight_139 : decode cX7_foresight 139 = .ok (.iload 5, 2) := by decide +kernel
theorem dX7_foresight_141 : decode cX7_foresight 141 = .ok (.if_icmp .ge 82, 3) := by decide +kernel
theorem dX7_foresight_144 : decode cX7_foresight 144 = .ok (.aload_n 0, 1) := by decide +kernel
theorem dX7_foresight_145 : decode cX7_foresight 145 = .ok (.iload_n 1, 1) := by decide +kernel
theorem dX7_foresight_146 : decode cX7_foresight 146 = .ok (.iload_n 2, 1) := by decide +kernel
theorem dX7_foresight_147 : decode cX7_foresight 147 = .ok (.iload 7, 2) := by decide +kernel
theorem dX7_foresight_149 : decode cX7_foresight 149 = .ok (.iconst 1, 1) := by decide +kernel
theorem dX7_foresight_150 : decode cX7_foresight 150 = .ok (.iadd, 1) := by decide +kernel
theorem dX7_foresight_151 : decode cX7_foresight 151 = .ok (.aload_n 0, 1) := by decide +kernel
theorem dX7_foresight_152 : decode cX7_foresight 152 = .ok (.getfield 42, 3) := by decide +kernel
theorem dX7_foresight_155 : decode cX7_foresight 155 = .ok (.iload 11, 2) := by decide +kernel
theorem dX7_foresight_157 : decode cX7_foresight 157 = .ok (.iaload, 1) := by decide +kernel
theorem dX7_foresight_158 : decode cX7_foresight 158 = .ok (.invokevirtual 246, 3) := by decide +kernel
theorem dX7_foresight_161 : decode cX7_foresight 161 = .ok (.aload_n 0, 1) := by decide +kernel
theorem dX7_foresight_162 : decode cX7_foresight 162 = .ok (.iload_n 1, 1) := by decide +kernel
theorem dX7_foresight_163 : decode cX7_foresight 163 = .ok (.iload_n 2, 1) := by decide +kernel
theorem dX7_foresight_164 : decode cX7_foresight 164 = .ok (.iload 7, 2) := by decide +kernel
theorem dX7_foresight_166 : decode cX7_foresight 166 = .ok (.iconst 1, 1) := by decide +kernel
theorem dX7_foresight_167 : decode cX7_foresight 167 = .ok (.iadd, 1) := by decide +kernel
theorem dX7_foresight_168 : decode cX7_foresight 168 = .ok (.aload_n 0, 1) := by decide +kernel
theorem dX7_foresight_169 : decode cX7_foresight 169 = .ok (.getfield 42, 3) := by decide +kernel
theorem dX7_foresight_172 : decode cX7_foresight 172 = .ok (.iload 10, 2) := by decide +kernel
theorem dX7_foresight_174 : decode cX7_foresight 174 = .ok (.iaload, 1) := by decide +kernel
theorem dX7_foresight_175 : decode cX7_foresight 175 = .ok (.invokevirtual 246, 3) := by decide +kernel
theorem dX7_foresight_178 : decode cX7_foresight 178 = .ok (.isub, 1) := by decide +kernel
theorem dX7_foresight_179 : decode cX7_foresight 179 = .ok (.istore 12, 2) := by decide +kernel
theorem dX7_foresight_181 : decode cX7_foresight 181 = .ok (.iload 12, 2) := by decide +kernel
theorem dX7_foresight_183 : decode cX7_foresight 183 = .ok (.ifCond .gt 25, 3) := by decide +kernel
theorem dX7_foresight_186 : decode cX7_foresight 186 = .ok (.iload 12, 2) := by decide +kernel
theorem dX7_foresight_188 : decode cX7_foresight 188 = .ok (.ifCond .ne 25, 3) := by decide +kernel
theorem dX7_foresight_191 : decode cX7_foresight 191 = .ok (.aload_n 0, 1) := by decide +kernel
theorem dX7_foresight_192 : decode cX7_foresight 192 = .ok (.getfield 42, 3) := by decide +kernel
theorem dX7_foresight_195 : decode cX7_foresight 195 = .ok (.iload 11, 2) := by decide +kernel
theorem dX7_foresight_197 : decode cX7_foresight 197 = .ok (.iaload, 1) := by decide +kernel
theorem dX7_foresight_198 : decode cX7_foresight 198 = .ok (.aload_n 0, 1) := by decide +kernel
theorem dX7_foresight_199 : decode cX7_foresight 199 = .ok (.getfield 42, 3) := by decide +kernel
theorem dX7_foresight_202 : decode cX7_foresight 202 = .ok (.iload 10, 2) := by decide +kernel
theorem dX7_foresight_204 : decode cX7_foresight 204 = .ok (.iaload, 1) := by decide +kernel
theorem dX7_foresight_205 : decode cX7_foresight 205 = .ok (.if_icmp .ge 8, 3) := by decide +kernel
theorem dX7_foresight_208 : decode cX7_foresight 208 = .ok (.iload 11, 2) := by decide +kernel
theorem dX7_foresight_210 : decode cX7_foresight 210 = .ok (.goto 5, 3) := by decide +kernel
theorem dX7_foresight_213 : decode cX7_foresight 213 = .ok (.iload 10, 2) := by decide +kernel
theorem dX7_foresight_215 : decode cX7_foresight 215 = .ok (.istore 10, 2) := by decide +kernel
theorem dX7_foresight_217 : decode cX7_foresight 217 = .ok (.iinc 11 1, 3) := by decide +kernel
theorem dX7_foresight_220 : decode cX7_foresight 220 = .ok (.goto (-83), 3) := by decide +kernel
theorem dX7_foresight_223 : decode cX7_foresight 223 = .ok (.aload_n 0, 1) := by decide +kernel
theorem dX7_foresight_224 : decode cX7_foresight 224 = .ok (.getfield 42, 3) := by decide +kernel
theorem dX7_foresight_227 : decode cX7_foresight 227 = .ok (.iload 10, 2) := by decide +kernel
theorem dX7_foresight_229 : decode cX7_foresight 229 = .ok (.iload 8, 2) := by decide +kernel
theorem dX7_foresight_231 : decode cX7_foresight 231 = .ok (.iastore, 1) := by decide +kernel
theorem dX7_foresight_232 : decode cX7_foresight 232 = .ok (.iinc 7 1, 3) := by decide +kernel
theorem dX7_foresight_235 : decode cX7_foresight 235 = .ok (.goto (-187), 3) := by decide +kernel
theorem dX7_foresight_238 : decode cX7_foresight 238 = .ok (.iload 6, 2) := by decide +kernel
theorem dX7_foresight_240 : decode cX7_foresight 240 = .ok (.ireturn, 1) := by decide +kernel
theorem dX7_reused_0 : decode cX7_reused 0 = .ok (.aload_n 0, 1) := by decide +kernel
theorem dX7_reused_1 : decode cX7_reused 1 = .ok (.getfield 31, 3) := by decide +kernel
theorem dX7_reused_4 : decode cX7_reused 4 = .ok (.bipush 40, 2) := by decide +kernel
theorem dX7_reused_6 : decode cX7_reused 6 = .ok (.iload_n 1, 1) := by decide +kernel
theorem dX7_reused_7 : decode cX7_reused 7 = .ok (.imul, 1) := by decide +kernel
theorem dX7_reused_8 : decode cX7_reused 8 = .ok (.iload_n 2, 1) := by decide +kernel
theorem dX7_reused_9 : decode cX7_reused 9 = .ok (.iadd, 1) := by decide +kernel
theorem dX7_reused_10 : decode cX7_reused 10 = .ok (.laload, 1) := by decide +kernel
theorem dX7_reused_11 : decode cX7_reused 11 = .ok (.l2i, 1) := by decide +kernel
theorem dX7_reused_12 : decode cX7_reused 12 = .ok (.istore_n 3, 1) := by decide +kernel
theorem dX7_reused_13 : decode cX7_reused 13 = .ok (.iload_n 2, 1) := by decide +kernel
theorem dX7_reused_14 : decode cX7_reused 14 = .ok (.iconst 1, 1) := by decide +kernel
theorem dX7_reused_15 : decode cX7_reused 15 = .ok (.isub, 1) := by decide +kernel
theorem dX7_reused_16 : decode cX7_reused 16 = .ok (.istore 4, 2) := by decide +kernel
theorem dX7_reused_18 : decode cX7_reused 18 = .ok (.iload 4, 2) := by decide +kernel
theorem dX7_reused_20 : decode cX7_reused 20 = .ok (.ifCond .lt 27, 3) := by decide +kernel
theorem dX7_reused_23 : decode cX7_reused 23 = .ok (.aload_n 0, 1) := by decide +kernel
theorem dX7_reused_24 : decode cX7_reused 24 = .ok (.getfield 31, 3) := by decide +kernel
theorem dX7_reused_27 : decode cX7_reused 27 = .ok (.bipush 40, 2) := by decide +kernel
theorem dX7_reused_29 : decode cX7_reused 29 = .ok (.iload_n 1, 1) := by decide +kernel
theorem dX7_reused_30 : decode cX7_reused 30 = .ok (.imul, 1) := by decide +kernel
theorem dX7_reused_31 : decode cX7_reused 31 = .ok (.iload 4, 2) := by decide +kernel
theorem dX7_reused_33 : decode cX7_reused 33 = .ok (.iadd, 1) := by decide +kernel
theorem dX7_reused_34 : decode cX7_reused 34 = .ok (.laload, 1) := by decide +kernel
theorem dX7_reused_35 : decode cX7_reused 35 = .ok (.iload_n 3, 1) := by decide +kernel
theorem dX7_reused_36 : decode cX7_reused 36 = .ok (.i2l, 1) := by decide +kernel
theorem dX7_reused_37 : decode cX7_reused 37 = .ok (.lcmp, 1) := by decide +kernel
theorem dX7_reused_38 : decode cX7_reused 38 = .ok (.ifCond .eq 9, 3) := by decide +kernel
theorem dX7_reused_41 : decode cX7_reused 41 = .ok (.iinc 4 (-1), 3) := by decide +kernel
theorem dX7_reused_44 : decode cX7_reused 44 = .ok (.goto (-26), 3) := by decide +kernel
theorem dX7_reused_47 : decode cX7_reused 47 = .ok (.iload 4, 2) := by decide +kernel
theorem dX7_reused_49 : decode cX7_reused 49 = .ok (.ifCond .ge 5, 3) := by decide +kernel
theorem dX7_reused_52 : decode cX7_reused 52 = .ok (.iconst (-1), 1) := by decide +kernel
theorem dX7_reused_53 : decode cX7_reused 53 = .ok (.ireturn, 1) := by decide +kernel
theorem dX7_reused_54 : decode cX7_reused 54 = .ok (.aload_n 0, 1) := by decide +kernel
theorem dX7_reused_55 : decode cX7_reused 55 = .ok (.iload_n 1, 1) := by decide +kernel
theorem dX7_reused_56 : decode cX7_reused 56 = .ok (.iload 4, 2) := by decide +kernel
theorem dX7_reused_58 : decode cX7_reused 58 = .ok (.iconst 1, 1) := by decide +kernel
theorem dX7_reused_59 : decode cX7_reused 59 = .ok (.iadd, 1) := by decide +kernel
theorem dX7_reused_60 : decode cX7_reused 60 = .ok (.iload_n 2, 1) := by decide +kernel
theorem dX7_reused_61 : decode cX7_reused 61 = .ok (.invokevirtual 249, 3) := by decide +kernel
theorem dX7_reused_64 : decode cX7_reused 64 = .ok (.ireturn, 1) := by decide +kernel
theorem dX7_unlike_0 : decode cX7_unlike 0 = .ok (.iconst 0, 1) := by decide +kernel
theorem dX7_unlike_1 : decode cX7_unlike 1 = .ok (.istore 4, 2) := by decide +kernel
theorem dX7_unlike_3 : decode cX7_unlike 3 = .ok (.iload_n 2, 1) := by decide +kernel
theorem dX7_unlike_4 : decode cX7_unlike 4 = .ok (.istore 5, 2) := by decide +kernel
theorem dX7_unlike_6 : decode cX7_unlike 6 = .ok (.iload 5, 2) := by decide +kernel
theorem dX7_unlike_8 : decode cX7_unlike 8 = .ok (.iload_n 3, 1) := by decide +kernel
theorem dX7_unlike_9 : decode cX7_unlike 9 = .ok (.if_icmp .ge 83, 3) := by decide +kernel
theorem dX7_unlike_12 : decode cX7_unlike 12 = .ok (.iconst 1, 1) := by decide +kernel
theorem dX7_unlike_13 : decode cX7_unlike 13 = .ok (.istore 6, 2) := by decide +kernel
theorem dX7_unlike_15 : decode cX7_unlike 15 = .ok (.iload_n 2, 1) := by decide +kernel
theorem dX7_unlike_16 : decode cX7_unlike 16 = .ok (.istore 7, 2) := by decide +kernel
theorem dX7_unlike_18 : decode cX7_unlike 18 = .ok (.iload 7, 2) := by decide +kernel
theorem dX7_unlike_20 : decode cX7_unlike 20 = .ok (.iload 5, 2) := by decide +kernel
theorem dX7_unlike_22 : decode cX7_unlike 22 = .ok (.if_icmp .ge 49, 3) := by decide +kernel
theorem dX7_unlike_25 : decode cX7_unlike 25 = .ok (.iload 6, 2) := by decide +kernel
theorem dX7_unlike_27 : decode cX7_unlike 27 = .ok (.ifCond .eq 35, 3) := by decide +kernel
theorem dX7_unlike_30 : decode cX7_unlike 30 = .ok (.aload_n 0, 1) := by decide +kernel
theorem dX7_unlike_31 : decode cX7_unlike 31 = .ok (.getfield 31, 3) := by decide +kernel
theorem dX7_unlike_34 : decode cX7_unlike 34 = .ok (.bipush 40, 2) := by decide +kernel
theorem dX7_unlike_36 : decode cX7_unlike 36 = .ok (.iload_n 1, 1) := by decide +kernel
theorem dX7_unlike_37 : decode cX7_unlike 37 = .ok (.imul, 1) := by decide +kernel
theorem dX7_unlike_38 : decode cX7_unlike 38 = .ok (.iload 7, 2) := by decide +kernel
theorem dX7_unlike_40 : decode cX7_unlike 40 = .ok (.iadd, 1) := by decide +kernel
theorem dX7_unlike_41 : decode cX7_unlike 41 = .ok (.laload, 1) := by decide +kernel
theorem dX7_unlike_42 : decode cX7_unlike 42 = .ok (.aload_n 0, 1) := by decide +kernel
theorem dX7_unlike_43 : decode cX7_unlike 43 = .ok (.getfield 31, 3) := by decide +kernel
theorem dX7_unlike_46 : decode cX7_unlike 46 = .ok (.bipush 40, 2) := by decide +kernel
theorem dX7_unlike_48 : decode cX7_unlike 48 = .ok (.iload_n 1, 1) := by decide +kernel
theorem dX7_unlike_49 : decode cX7_unlike 49 = .ok (.imul, 1) := by decide +kernel
theorem dX7_unlike_50 : decode cX7_unlike 50 = .ok (.iload 5, 2) := by decide +kernel
theorem dX7_unlike_52 : decode cX7_unlike 52 = .ok (.iadd, 1) := by decide +kernel
theorem dX7_unlike_53 : decode cX7_unlike 53 = .ok (.laload, 1) := by decide +kernel
theorem dX7_unlike_54 : decode cX7_unlike 54 = .ok (.lcmp, 1) := by decide +kernel
theorem dX7_unlike_55 : decode cX7_unlike 55 = .ok (.ifCond .eq 7, 3) := by decide +kernel
theorem dX7_unlike_58 : decode cX7_unlike 58 = .ok (.iconst 1, 1) := by decide +kernel
theorem dX7_unlike_59 : decode cX7_unlike 59 = .ok (.goto 4, 3) := by decide +kernel
theorem dX7_unlike_62 : decode cX7_unlike 62 = .ok (.iconst 0, 1) := by decide +kernel
theorem dX7_unlike_63 : decode cX7_unlike 63 = .ok (.istore 6, 2) := by decide +kernel
theorem dX7_unlike_65 : decode cX7_unlike 65 = .ok (.iinc 7 1, 3) := by decide +kernel
theorem dX7_unlike_68 : decode cX7_unlike 68 = .ok (.goto (-50), 3) := by decide +kernel
theorem dX7_unlike_71 : decode cX7_unlike 71 = .ok (.iload 4, 2) := by decide +kernel
theorem dX7_unlike_73 : decode cX7_unlike 73 = .ok (.iload 6, 2) := by decide +kernel
theorem dX7_unlike_75 : decode cX7_unlike 75 = .ok (.ifCond .eq 7, 3) := by decide +kernel
theorem dX7_unlike_78 : decode cX7_unlike 78 = .ok (.iconst 1, 1) := by decide +kernel
theorem dX7_unlike_79 : decode cX7_unlike 79 = .ok (.goto 4, 3) := by decide +kernel
theorem dX7_unlike_82 : decode cX7_unlike 82 = .ok (.iconst 0, 1) := by decide +kernel
theorem dX7_unlike_83 : decode cX7_unlike 83 = .ok (.iadd, 1) := by decide +kernel
theorem dX7_unlike_84 : decode cX7_unlike 84 = .ok (.istore 4, 2) := by decide +kernel
theorem dX7_unlike_86 : decode cX7_unlike 86 = .ok (.iinc 5 1, 3) := by decide +kernel
theorem dX7_unlike_89 : decode cX7_unlike 89 = .ok (.goto (-83), 3) := by decide +kernel
theorem dX7_unlike_92 : decode cX7_unlike 92 = .ok (.iload 4, 2) := by decide +kernel
theorem dX7_unlike_94 : decode cX7_unlike 94 = .ok (.ireturn, 1) := by decide +kernel
theorem dX7_reuse_0 : decode cX7_reuse 0 = .ok (.aload_n 0, 1) := by decide +kernel
theorem dX7_reuse_1 : decode cX7_reuse 1 = .ok (.iload_n 1, 1) := by decide +kernel
theorem dX7_reuse_2 : decode cX7_reuse 2 = .ok (.iload_n 2, 1) := by decide +kernel
theorem dX7_reuse_3 : decode cX7_reuse 3 = .ok (.bipush 40, 2) := by decide +kernel
theorem dX7_reuse_5 : decode cX7_reuse 5 = .ok (.invokevirtual 233, 3) := by decide +kernel
theorem dX7_reuse_8 : decode cX7_reuse 8 = .ok (.istore 4, 2) := by decide +kernel
theorem dX7_reuse_10 : decode cX7_reuse 10 = .ok (.iload 4, 2) := by decide +kernel
theorem dX7_reuse_12 : decode cX7_reuse 12 = .ok (.ifCond .ne 16, 3) := by decide +kernel
theorem dX7_reuse_15 : decode cX7_reuse 15 = .ok (.iload_n 3, 1) := by decide +kernel
theorem dX7_reuse_16 : decode cX7_reuse 16 = .ok (.i2l, 1) := by decide +kernel
theorem dX7_reuse_17 : decode cX7_reuse 17 = .ok (.lconst 0, 1) := by decide +kernel
theorem dX7_reuse_18 : decode cX7_reuse 18 = .ok (.iload_n 2, 1) := by decide +kernel
theorem dX7_reuse_19 : decode cX7_reuse 19 = .ok (.iconst 1, 1) := by decide +kernel
theorem dX7_reuse_20 : decode cX7_reuse 20 = .ok (.isub, 1) := by decide +kernel
theorem dX7_reuse_21 : decode cX7_reuse 21 = .ok (.i2l, 1) := by decide +kernel
theorem dX7_reuse_22 : decode cX7_reuse 22 = .ok (.invokestatic 47, 3) := by decide +kernel
theorem dX7_reuse_25 : decode cX7_reuse 25 = .ok (.ifCond .ne 20, 3) := by decide +kernel
theorem dX7_reuse_28 : decode cX7_reuse 28 = .ok (.aload_n 0, 1) := by decide +kernel
theorem dX7_reuse_29 : decode cX7_reuse 29 = .ok (.iload 4, 2) := by decide +kernel
theorem dX7_reuse_31 : decode cX7_reuse 31 = .ok (.ifCond .eq 8, 3) := by decide +kernel
theorem dX7_reuse_34 : decode cX7_reuse 34 = .ok (.iload 4, 2) := by decide +kernel
theorem dX7_reuse_36 : decode cX7_reuse 36 = .ok (.goto 5, 3) := by decide +kernel
theorem dX7_reuse_39 : decode cX7_reuse 39 = .ok (.bipush (-52), 2) := by decide +kernel
theorem dX7_reuse_41 : decode cX7_reuse 41 = .ok (.invokevirtual 127, 3) := by decide +kernel
theorem dX7_reuse_44 : decode cX7_reuse 44 = .ok (.ireturn, 1) := by decide +kernel
theorem dX7_reuse_45 : decode cX7_reuse 45 = .ok (.aload_n 0, 1) := by decide +kernel
theorem dX7_reuse_46 : decode cX7_reuse 46 = .ok (.iload_n 1, 1) := by decide +kernel
theorem dX7_reuse_47 : decode cX7_reuse 47 = .ok (.iload_n 3, 1) := by decide +kernel
theorem dX7_reuse_48 : decode cX7_reuse 48 = .ok (.invokevirtual 252, 3) := by decide +kernel
theorem dX7_reuse_51 : decode cX7_reuse 51 = .ok (.ireturn, 1) := by decide +kernel
theorem dX7_rowOf_0 : decode cX7_rowOf 0 = .ok (.iload_n 3, 1) := by decide +kernel
theorem dX7_rowOf_1 : decode cX7_rowOf 1 = .ok (.i2l, 1) := by decide +kernel
theorem dX7_rowOf_2 : decode cX7_rowOf 2 = .ok (.lconst 0, 1) := by decide +kernel
theorem dX7_rowOf_3 : decode cX7_rowOf 3 = .ok (.ldc2_w 133, 3) := by decide +kernel
theorem dX7_rowOf_6 : decode cX7_rowOf 6 = .ok (.invokestatic 47, 3) := by decide +kernel
theorem dX7_rowOf_9 : decode cX7_rowOf 9 = .ok (.ifCond .eq 14, 3) := by decide +kernel
theorem dX7_rowOf_12 : decode cX7_rowOf 12 = .ok (.aload_n 0, 1) := by decide +kernel
theorem dX7_rowOf_13 : decode cX7_rowOf 13 = .ok (.iload_n 1, 1) := by decide +kernel
theorem dX7_rowOf_14 : decode cX7_rowOf 14 = .ok (.iload_n 2, 1) := by decide +kernel
theorem dX7_rowOf_15 : decode cX7_rowOf 15 = .ok (.bipush 40, 2) := by decide +kernel
theorem dX7_rowOf_17 : decode cX7_rowOf 17 = .ok (.invokevirtual 233, 3) := by decide +kernel
theorem dX7_rowOf_20 : decode cX7_rowOf 20 = .ok (.goto 5, 3) := by decide +kernel
theorem dX7_rowOf_23 : decode cX7_rowOf 23 = .ok (.bipush (-52), 2) := by decide +kernel
theorem dX7_rowOf_25 : decode cX7_rowOf 25 = .ok (.istore 4, 2) := by decide +kernel
theorem dX7_rowOf_27 : decode cX7_rowOf 27 = .ok (.iload 4, 2) := by decide +kernel
theorem dX7_rowOf_29 : decode cX7_rowOf 29 = .ok (.ifCond .eq 10, 3) := by decide +kernel
theorem dX7_rowOf_32 : decode cX7_rowOf 32 = .ok (.aload_n 0, 1) := by decide +kernel
theorem dX7_rowOf_33 : decode cX7_rowOf 33 = .ok (.iload 4, 2) := by decide +kernel
theorem dX7_rowOf_35 : decode cX7_rowOf 35 = .ok (.invokevirtual 127, 3) := by decide +kernel
theorem dX7_rowOf_38 : decode cX7_rowOf 38 = .ok (.ireturn, 1) := by decide +kernel
theorem dX7_rowOf_39 : decode cX7_rowOf 39 = .ok (.iload_n 3, 1) := by decide +kernel
theorem dX7_rowOf_40 : decode cX7_rowOf 40 = .ok (.ifCond .ne 11, 3) := by decide +kernel
theorem dX7_rowOf_43 : decode cX7_rowOf 43 = .ok (.aload_n 0, 1) := by decide +kernel
theorem dX7_rowOf_44 : decode cX7_rowOf 44 = .ok (.iload_n 1, 1) := by decide +kernel
theorem dX7_rowOf_45 : decode cX7_rowOf 45 = .ok (.iconst 0, 1) := by decide +kernel
theorem dX7_rowOf_46 : decode cX7_rowOf 46 = .ok (.iload_n 2, 1) := by decide +kernel
theorem dX7_rowOf_47 : decode cX7_rowOf 47 = .ok (.invokevirtual 249, 3) := by decide +kernel
theorem dX7_rowOf_50 : decode cX7_rowOf 50 = .ok (.ireturn, 1) := by decide +kernel
theorem dX7_rowOf_51 : decode cX7_rowOf 51 = .ok (.iconst (-1), 1) := by decide +kernel
theorem dX7_rowOf_52 : decode cX7_rowOf 52 = .ok (.istore 5, 2) := by decide +kernel
theorem dX7_rowOf_54 : decode cX7_rowOf 54 = .ok (.iload_n 3, 1) := by decide +kernel
theorem dX7_rowOf_55 : decode cX7_rowOf 55 = .ok (.iconst 1, 1) := by decide +kernel
theorem dX7_rowOf_56 : decode cX7_rowOf 56 = .ok (.if_icmp .ne 7, 3) := by decide +kernel
theorem dX7_rowOf_59 : decode cX7_rowOf 59 = .ok (.iconst (-1), 1) := by decide +kernel
theorem dX7_rowOf_60 : decode cX7_rowOf 60 = .ok (.goto 4, 3) := by decide +kernel
theorem dX7_rowOf_63 : decode cX7_rowOf 63 = .ok (.iconst 0, 1) := by decide +kernel
theorem dX7_rowOf_64 : decode cX7_rowOf 64 = .ok (.istore 6, 2) := by decide +kernel
theorem dX7_rowOf_66 : decode cX7_rowOf 66 = .ok (.iconst 0, 1) := by decide +kernel
theorem dX7_rowOf_67 : decode cX7_rowOf 67 = .ok (.istore 7, 2) := by decide +kernel
theorem dX7_rowOf_69 : decode cX7_rowOf 69 = .ok (.iload 7, 2) := by decide +kernel
theorem dX7_rowOf_71 : decode cX7_rowOf 71 = .ok (.iload_n 2, 1) := by decide +kernel
theorem dX7_rowOf_72 : decode cX7_rowOf 72 = .ok (.if_icmp .ge 28, 3) := by decide +kernel
theorem dX7_rowOf_75 : decode cX7_rowOf 75 = .ok (.iload_n 3, 1) := by decide +kernel
theorem dX7_rowOf_76 : decode cX7_rowOf 76 = .ok (.iconst 1, 1) := by decide +kernel
theorem dX7_rowOf_77 : decode cX7_rowOf 77 = .ok (.if_icmp .ne 23, 3) := by decide +kernel
theorem dX7_rowOf_80 : decode cX7_rowOf 80 = .ok (.iload 6, 2) := by decide +kernel
theorem dX7_rowOf_82 : decode cX7_rowOf 82 = .ok (.aload_n 0, 1) := by decide +kernel
theorem dX7_rowOf_83 : decode cX7_rowOf 83 = .ok (.iload_n 1, 1) := by decide +kernel
theorem dX7_rowOf_84 : decode cX7_rowOf 84 = .ok (.iload 7, 2) := by decide +kernel
theorem dX7_rowOf_86 : decode cX7_rowOf 86 = .ok (.invokevirtual 252, 3) := by decide +kernel
theorem dX7_rowOf_89 : decode cX7_rowOf 89 = .ok (.invokestatic 255, 3) := by decide +kernel
theorem dX7_rowOf_92 : decode cX7_rowOf 92 = .ok (.istore 6, 2) := by decide +kernel
theorem dX7_rowOf_94 : decode cX7_rowOf 94 = .ok (.iinc 7 1, 3) := by decide +kernel
theorem dX7_rowOf_97 : decode cX7_rowOf 97 = .ok (.goto (-28), 3) := by decide +kernel
theorem dX7_rowOf_100 : decode cX7_rowOf 100 = .ok (.iconst 0, 1) := by decide +kernel
theorem dX7_rowOf_101 : decode cX7_rowOf 101 = .ok (.istore 7, 2) := by decide +kernel
theorem dX7_rowOf_103 : decode cX7_rowOf 103 = .ok (.iload 7, 2) := by decide +kernel
theorem dX7_rowOf_105 : decode cX7_rowOf 105 = .ok (.bipush 64, 2) := by decide +kernel
theorem dX7_rowOf_107 : decode cX7_rowOf 107 = .ok (.if_icmp .ge 86, 3) := by decide +kernel
theorem dX7_rowOf_110 : decode cX7_rowOf 110 = .ok (.iload_n 3, 1) := by decide +kernel
theorem dX7_rowOf_111 : decode cX7_rowOf 111 = .ok (.iconst 2, 1) := by decide +kernel
theorem dX7_rowOf_112 : decode cX7_rowOf 112 = .ok (.if_icmp .ne 81, 3) := by decide +kernel
theorem dX7_rowOf_115 : decode cX7_rowOf 115 = .ok (.iconst 0, 1) := by decide +kernel
theorem dX7_rowOf_116 : decode cX7_rowOf 116 = .ok (.istore 8, 2) := by decide +kernel
theorem dX7_rowOf_118 : decode cX7_rowOf 118 = .ok (.iconst 0, 1) := by decide +kernel
theorem dX7_rowOf_119 : decode cX7_rowOf 119 = .ok (.istore 9, 2) := by decide +kernel
theorem dX7_rowOf_121 : decode cX7_rowOf 121 = .ok (.iload 9, 2) := by decide +kernel
theorem dX7_rowOf_123 : decode cX7_rowOf 123 = .ok (.iload_n 2, 1) := by decide +kernel
theorem dX7_rowOf_124 : decode cX7_rowOf 124 = .ok (.if_icmp .ge 38, 3) := by decide +kernel
theorem dX7_rowOf_127 : decode cX7_rowOf 127 = .ok (.iload 8, 2) := by decide +kernel
theorem dX7_rowOf_129 : decode cX7_rowOf 129 = .ok (.aload_n 0, 1) := by decide +kernel
theorem dX7_rowOf_130 : decode cX7_rowOf 130 = .ok (.getfield 31, 3) := by decide +kernel
theorem dX7_rowOf_133 : decode cX7_rowOf 133 = .ok (.bipush 40, 2) := by decide +kernel
theorem dX7_rowOf_135 : decode cX7_rowOf 135 = .ok (.iload_n 1, 1) := by decide +kernel
theorem dX7_rowOf_136 : decode cX7_rowOf 136 = .ok (.imul, 1) := by decide +kernel
theorem dX7_rowOf_137 : decode cX7_rowOf 137 = .ok (.iload 9, 2) := by decide +kernel
theorem dX7_rowOf_139 : decode cX7_rowOf 139 = .ok (.iadd, 1) := by decide +kernel
theorem dX7_rowOf_140 : decode cX7_rowOf 140 = .ok (.laload, 1) := by decide +kernel
theorem dX7_rowOf_141 : decode cX7_rowOf 141 = .ok (.iload 7, 2) := by decide +kernel
theorem dX7_rowOf_143 : decode cX7_rowOf 143 = .ok (.i2l, 1) := by decide +kernel
theorem dX7_rowOf_144 : decode cX7_rowOf 144 = .ok (.lcmp, 1) := by decide +kernel
theorem dX7_rowOf_145 : decode cX7_rowOf 145 = .ok (.ifCond .ne 7, 3) := by decide +kernel
theorem dX7_rowOf_148 : decode cX7_rowOf 148 = .ok (.iconst 1, 1) := by decide +kernel
theorem dX7_rowOf_149 : decode cX7_rowOf 149 = .ok (.goto 4, 3) := by decide +kernel
theorem dX7_rowOf_152 : decode cX7_rowOf 152 = .ok (.iconst 0, 1) := by decide +kernel
theorem dX7_rowOf_153 : decode cX7_rowOf 153 = .ok (.iadd, 1) := by decide +kernel
theorem dX7_rowOf_154 : decode cX7_rowOf 154 = .ok (.istore 8, 2) := by decide +kernel
theorem dX7_rowOf_156 : decode cX7_rowOf 156 = .ok (.iinc 9 1, 3) := by decide +kernel
theorem dX7_rowOf_159 : decode cX7_rowOf 159 = .ok (.goto (-38), 3) := by decide +kernel
theorem dX7_rowOf_162 : decode cX7_rowOf 162 = .ok (.iload 8, 2) := by decide +kernel
theorem dX7_rowOf_164 : decode cX7_rowOf 164 = .ok (.iload 6, 2) := by decide +kernel
theorem dX7_rowOf_166 : decode cX7_rowOf 166 = .ok (.if_icmp .le 8, 3) := by decide +kernel
theorem dX7_rowOf_169 : decode cX7_rowOf 169 = .ok (.iload 7, 2) := by decide +kernel
theorem dX7_rowOf_171 : decode cX7_rowOf 171 = .ok (.goto 5, 3) := by decide +kernel
theorem dX7_rowOf_174 : decode cX7_rowOf 174 = .ok (.iload 5, 2) := by decide +kernel
theorem dX7_rowOf_176 : decode cX7_rowOf 176 = .ok (.istore 5, 2) := by decide +kernel
theorem dX7_rowOf_178 : decode cX7_rowOf 178 = .ok (.iload 6, 2) := by decide +kernel
theorem dX7_rowOf_180 : decode cX7_rowOf 180 = .ok (.iload 8, 2) := by decide +kernel
theorem dX7_rowOf_182 : decode cX7_rowOf 182 = .ok (.invokestatic 255, 3) := by decide +kernel
theorem dX7_rowOf_185 : decode cX7_rowOf 185 = .ok (.istore 6, 2) := by decide +kernel
theorem dX7_rowOf_187 : decode cX7_rowOf 187 = .ok (.iinc 7 1, 3) := by decide +kernel
theorem dX7_rowOf_190 : decode cX7_rowOf 190 = .ok (.goto (-87), 3) := by decide +kernel
theorem dX7_rowOf_193 : decode cX7_rowOf 193 = .ok (.iload_n 3, 1) := by decide +kernel
theorem dX7_rowOf_194 : decode cX7_rowOf 194 = .ok (.iconst 1, 1) := by decide +kernel
theorem dX7_rowOf_195 : decode cX7_rowOf 195 = .ok (.if_icmp .ne 8, 3) := by decide +kernel
theorem dX7_rowOf_198 : decode cX7_rowOf 198 = .ok (.iload 6, 2) := by decide +kernel
theorem dX7_rowOf_200 : decode cX7_rowOf 200 = .ok (.goto 5, 3) := by decide +kernel
theorem dX7_rowOf_203 : decode cX7_rowOf 203 = .ok (.iload 5, 2) := by decide +kernel
theorem dX7_rowOf_205 : decode cX7_rowOf 205 = .ok (.ireturn, 1) := by decide +kernel
theorem dX7_judge_0 : decode cX7_judge 0 = .ok (.aload_n 0, 1) := by decide +kernel
theorem dX7_judge_1 : decode cX7_judge 1 = .ok (.iload_n 1, 1) := by decide +kernel
theorem dX7_judge_2 : decode cX7_judge 2 = .ok (.iload_n 2, 1) := by decide +kernel
theorem dX7_judge_3 : decode cX7_judge 3 = .ok (.bipush 20, 2) := by decide +kernel
theorem dX7_judge_5 : decode cX7_judge 5 = .ok (.invokevirtual 233, 3) := by decide +kernel
theorem dX7_judge_8 : decode cX7_judge 8 = .ok (.istore_n 3, 1) := by decide +kernel
theorem dX7_judge_9 : decode cX7_judge 9 = .ok (.iload_n 3, 1) := by decide +kernel
theorem dX7_judge_10 : decode cX7_judge 10 = .ok (.ifCond .eq 9, 3) := by decide +kernel
theorem dX7_judge_13 : decode cX7_judge 13 = .ok (.aload_n 0, 1) := by decide +kernel
theorem dX7_judge_14 : decode cX7_judge 14 = .ok (.iload_n 3, 1) := by decide +kernel
theorem dX7_judge_15 : decode cX7_judge 15 = .ok (.invokevirtual 127, 3) := by decide +kernel
theorem dX7_judge_18 : decode cX7_judge 18 = .ok (.ireturn, 1) := by decide +kernel
theorem dX7_judge_19 : decode cX7_judge 19 = .ok (.aload_n 0, 1) := by decide +kernel
theorem dX7_judge_20 : decode cX7_judge 20 = .ok (.getfield 7, 3) := by decide +kernel
theorem dX7_judge_23 : decode cX7_judge 23 = .ok (.aload_n 0, 1) := by decide +kernel
theorem dX7_judge_24 : decode cX7_judge 24 = .ok (.getfield 16, 3) := by decide +kernel
theorem dX7_judge_27 : decode cX7_judge 27 = .ok (.invokestatic 217, 3) := by decide +kernel
theorem dX7_judge_30 : decode cX7_judge 30 = .ok (.iconst (-1), 1) := by decide +kernel
theorem dX7_judge_31 : decode cX7_judge 31 = .ok (.istore 4, 2) := by decide +kernel
theorem dX7_judge_33 : decode cX7_judge 33 = .ok (.iconst 0, 1) := by decide +kernel
theorem dX7_judge_34 : decode cX7_judge 34 = .ok (.istore 5, 2) := by decide +kernel
theorem dX7_judge_36 : decode cX7_judge 36 = .ok (.iload 5, 2) := by decide +kernel
theorem dX7_judge_38 : decode cX7_judge 38 = .ok (.iload_n 2, 1) := by decide +kernel
theorem dX7_judge_39 : decode cX7_judge 39 = .ok (.if_icmp .ge 68, 3) := by decide +kernel
theorem dX7_judge_42 : decode cX7_judge 42 = .ok (.iload 4, 2) := by decide +kernel
theorem dX7_judge_44 : decode cX7_judge 44 = .ok (.ifCond .ge 63, 3) := by decide +kernel
theorem dX7_judge_47 : decode cX7_judge 47 = .ok (.aload_n 0, 1) := by decide +kernel
theorem dX7_judge_48 : decode cX7_judge 48 = .ok (.aload_n 0, 1) := by decide +kernel
theorem dX7_judge_49 : decode cX7_judge 49 = .ok (.getfield 31, 3) := by decide +kernel
theorem dX7_judge_52 : decode cX7_judge 52 = .ok (.bipush 40, 2) := by decide +kernel
theorem dX7_judge_54 : decode cX7_judge 54 = .ok (.iload_n 1, 1) := by decide +kernel
theorem dX7_judge_55 : decode cX7_judge 55 = .ok (.imul, 1) := by decide +kernel
theorem dX7_judge_56 : decode cX7_judge 56 = .ok (.iconst 2, 1) := by decide +kernel
theorem dX7_judge_57 : decode cX7_judge 57 = .ok (.iload 5, 2) := by decide +kernel
theorem dX7_judge_59 : decode cX7_judge 59 = .ok (.imul, 1) := by decide +kernel
theorem dX7_judge_60 : decode cX7_judge 60 = .ok (.iadd, 1) := by decide +kernel
theorem dX7_judge_61 : decode cX7_judge 61 = .ok (.laload, 1) := by decide +kernel
theorem dX7_judge_62 : decode cX7_judge 62 = .ok (.l2i, 1) := by decide +kernel
theorem dX7_judge_63 : decode cX7_judge 63 = .ok (.invokevirtual 141, 3) := by decide +kernel
theorem dX7_judge_66 : decode cX7_judge 66 = .ok (.pop, 1) := by decide +kernel
theorem dX7_judge_67 : decode cX7_judge 67 = .ok (.aload_n 0, 1) := by decide +kernel
theorem dX7_judge_68 : decode cX7_judge 68 = .ok (.getfield 31, 3) := by decide +kernel
theorem dX7_judge_71 : decode cX7_judge 71 = .ok (.bipush 40, 2) := by decide +kernel
theorem dX7_judge_73 : decode cX7_judge 73 = .ok (.iload_n 1, 1) := by decide +kernel
theorem dX7_judge_74 : decode cX7_judge 74 = .ok (.imul, 1) := by decide +kernel
theorem dX7_judge_75 : decode cX7_judge 75 = .ok (.iconst 2, 1) := by decide +kernel
theorem dX7_judge_76 : decode cX7_judge 76 = .ok (.iload 5, 2) := by decide +kernel
theorem dX7_judge_78 : decode cX7_judge 78 = .ok (.imul, 1) := by decide +kernel
theorem dX7_judge_79 : decode cX7_judge 79 = .ok (.iadd, 1) := by decide +kernel
theorem dX7_judge_80 : decode cX7_judge 80 = .ok (.iconst 1, 1) := by decide +kernel
theorem dX7_judge_81 : decode cX7_judge 81 = .ok (.iadd, 1) := by decide +kernel
theorem dX7_judge_82 : decode cX7_judge 82 = .ok (.laload, 1) := by decide +kernel
theorem dX7_judge_83 : decode cX7_judge 83 = .ok (.aload_n 0, 1) := by decide +kernel
theorem dX7_judge_84 : decode cX7_judge 84 = .ok (.getfield 98, 3) := by decide +kernel
theorem dX7_judge_87 : decode cX7_judge 87 = .ok (.i2l, 1) := by decide +kernel
theorem dX7_judge_88 : decode cX7_judge 88 = .ok (.lcmp, 1) := by decide +kernel
theorem dX7_judge_89 : decode cX7_judge 89 = .ok (.ifCond .ne 8, 3) := by decide +kernel
theorem dX7_judge_92 : decode cX7_judge 92 = .ok (.iload 4, 2) := by decide +kernel
theorem dX7_judge_94 : decode cX7_judge 94 = .ok (.goto 5, 3) := by decide +kernel
theorem dX7_judge_97 : decode cX7_judge 97 = .ok (.iload 5, 2) := by decide +kernel
theorem dX7_judge_99 : decode cX7_judge 99 = .ok (.istore 4, 2) := by decide +kernel
theorem dX7_judge_101 : decode cX7_judge 101 = .ok (.iinc 5 1, 3) := by decide +kernel
theorem dX7_judge_104 : decode cX7_judge 104 = .ok (.goto (-68), 3) := by decide +kernel
theorem dX7_judge_107 : decode cX7_judge 107 = .ok (.aload_n 0, 1) := by decide +kernel
theorem dX7_judge_108 : decode cX7_judge 108 = .ok (.getfield 16, 3) := by decide +kernel
theorem dX7_judge_111 : decode cX7_judge 111 = .ok (.aload_n 0, 1) := by decide +kernel
theorem dX7_judge_112 : decode cX7_judge 112 = .ok (.getfield 7, 3) := by decide +kernel
theorem dX7_judge_115 : decode cX7_judge 115 = .ok (.invokestatic 217, 3) := by decide +kernel
theorem dX7_judge_118 : decode cX7_judge 118 = .ok (.iload 4, 2) := by decide +kernel
theorem dX7_judge_120 : decode cX7_judge 120 = .ok (.ireturn, 1) := by decide +kernel
theorem dX7_past_0 : decode cX7_past 0 = .ok (.iload_n 1, 1) := by decide +kernel
theorem dX7_past_1 : decode cX7_past 1 = .ok (.i2l, 1) := by decide +kernel
theorem dX7_past_2 : decode cX7_past 2 = .ok (.lconst 0, 1) := by decide +kernel
theorem dX7_past_3 : decode cX7_past 3 = .ok (.aload_n 0, 1) := by decide +kernel
theorem dX7_past_4 : decode cX7_past 4 = .ok (.getfield 7, 3) := by decide +kernel
theorem dX7_past_7 : decode cX7_past 7 = .ok (.sipush 702, 3) := by decide +kernel
theorem dX7_past_10 : decode cX7_past 10 = .ok (.iaload, 1) := by decide +kernel
theorem dX7_past_11 : decode cX7_past 11 = .ok (.iconst 1, 1) := by decide +kernel
theorem dX7_past_12 : decode cX7_past 12 = .ok (.isub, 1) := by decide +kernel
theorem dX7_past_13 : decode cX7_past 13 = .ok (.i2l, 1) := by decide +kernel
theorem dX7_past_14 : decode cX7_past 14 = .ok (.invokestatic 47, 3) := by decide +kernel
theorem dX7_past_17 : decode cX7_past 17 = .ok (.ifCond .eq 32, 3) := by decide +kernel
theorem dX7_past_20 : decode cX7_past 20 = .ok (.iload_n 2, 1) := by decide +kernel
theorem dX7_past_21 : decode cX7_past 21 = .ok (.i2l, 1) := by decide +kernel
theorem dX7_past_22 : decode cX7_past 22 = .ok (.lconst 0, 1) := by decide +kernel
theorem dX7_past_23 : decode cX7_past 23 = .ok (.ldc2_w 123, 3) := by decide +kernel
theorem dX7_past_26 : decode cX7_past 26 = .ok (.invokestatic 47, 3) := by decide +kernel
theorem dX7_past_29 : decode cX7_past 29 = .ok (.ifCond .eq 20, 3) := by decide +kernel
theorem dX7_past_32 : decode cX7_past 32 = .ok (.aload_n 0, 1) := by decide +kernel
theorem dX7_past_33 : decode cX7_past 33 = .ok (.getfield 7, 3) := by decide +kernel
theorem dX7_past_36 : decode cX7_past 36 = .ok (.sipush 704, 3) := by decide +kernel
theorem dX7_past_39 : decode cX7_past 39 = .ok (.iconst 4, 1) := by decide +kernel
theorem dX7_past_40 : decode cX7_past 40 = .ok (.iload_n 1, 1) := by decide +kernel
theorem dX7_past_41 : decode cX7_past 41 = .ok (.imul, 1) := by decide +kernel
theorem dX7_past_42 : decode cX7_past 42 = .ok (.iadd, 1) := by decide +kernel
theorem dX7_past_43 : decode cX7_past 43 = .ok (.iload_n 2, 1) := by decide +kernel
theorem dX7_past_44 : decode cX7_past 44 = .ok (.iadd, 1) := by decide +kernel
theorem dX7_past_45 : decode cX7_past 45 = .ok (.iaload, 1) := by decide +kernel
theorem dX7_past_46 : decode cX7_past 46 = .ok (.goto 9, 3) := by decide +kernel
theorem dX7_past_49 : decode cX7_past 49 = .ok (.aload_n 0, 1) := by decide +kernel
theorem dX7_past_50 : decode cX7_past 50 = .ok (.bipush (-52), 2) := by decide +kernel
theorem dX7_past_52 : decode cX7_past 52 = .ok (.invokevirtual 127, 3) := by decide +kernel
theorem dX7_past_55 : decode cX7_past 55 = .ok (.ireturn, 1) := by decide +kernel
theorem dX7_often_0 : decode cX7_often 0 = .ok (.iload_n 1, 1) := by decide +kernel
theorem dX7_often_1 : decode cX7_often 1 = .ok (.i2l, 1) := by decide +kernel
theorem dX7_often_2 : decode cX7_often 2 = .ok (.invokestatic 137, 3) := by decide +kernel
theorem dX7_often_5 : decode cX7_often 5 = .ok (.ifCond .eq 15, 3) := by decide +kernel
theorem dX7_often_8 : decode cX7_often 8 = .ok (.aload_n 0, 1) := by decide +kernel
theorem dX7_often_9 : decode cX7_often 9 = .ok (.getfield 7, 3) := by decide +kernel
theorem dX7_often_12 : decode cX7_often 12 = .ok (.bipush 64, 2) := by decide +kernel
theorem dX7_often_14 : decode cX7_often 14 = .ok (.iload_n 1, 1) := by decide +kernel
theorem dX7_often_15 : decode cX7_often 15 = .ok (.iadd, 1) := by decide +kernel
theorem dX7_often_16 : decode cX7_often 16 = .ok (.iaload, 1) := by decide +kernel
theorem dX7_often_17 : decode cX7_often 17 = .ok (.goto 9, 3) := by decide +kernel
theorem dX7_often_20 : decode cX7_often 20 = .ok (.aload_n 0, 1) := by decide +kernel
theorem dX7_often_21 : decode cX7_often 21 = .ok (.bipush (-52), 2) := by decide +kernel
theorem dX7_often_23 : decode cX7_often 23 = .ok (.invokevirtual 127, 3) := by decide +kernel
theorem dX7_often_26 : decode cX7_often 26 = .ok (.ireturn, 1) := by decide +kernel
theorem dX7_days_0 : decode cX7_days 0 = .ok (.iload_n 1, 1) := by decide +kernel
theorem dX7_days_1 : decode cX7_days 1 = .ok (.i2l, 1) := by decide +kernel
theorem dX7_days_2 : decode cX7_days 2 = .ok (.lconst 1, 1) := by decide +kernel
theorem dX7_days_3 : decode cX7_days 3 = .ok (.ldc2_w 258, 3) := by decide +kernel
theorem dX7_days_6 : decode cX7_days 6 = .ok (.invokestatic 47, 3) := by decide +kernel
theorem dX7_days_9 : decode cX7_days 9 = .ok (.ifCond .ne 10, 3) := by decide +kernel
theorem dX7_days_12 : decode cX7_days 12 = .ok (.aload_n 0, 1) := by decide +kernel
theorem dX7_days_13 : decode cX7_days 13 = .ok (.bipush (-52), 2) := by decide +kernel
theorem dX7_days_15 : decode cX7_days 15 = .ok (.invokevirtual 127, 3) := by decide +kernel
theorem dX7_days_18 : decode cX7_days 18 = .ok (.ireturn, 1) := by decide +kernel
theorem dX7_days_19 : decode cX7_days 19 = .ok (.iconst 0, 1) := by decide +kernel
theorem dX7_days_20 : decode cX7_days 20 = .ok (.istore_n 2, 1) := by decide +kernel
theorem dX7_days_21 : decode cX7_days 21 = .ok (.iconst 0, 1) := by decide +kernel
theorem dX7_days_22 : decode cX7_days 22 = .ok (.istore_n 3, 1) := by decide +kernel
theorem dX7_days_23 : decode cX7_days 23 = .ok (.iload_n 3, 1) := by decide +kernel
theorem dX7_days_24 : decode cX7_days 24 = .ok (.iload_n 1, 1) := by decide +kernel
theorem dX7_days_25 : decode cX7_days 25 = .ok (.if_icmp .ge 117, 3) := by decide +kernel
theorem dX7_days_28 : decode cX7_days 28 = .ok (.aload_n 0, 1) := by decide +kernel
theorem dX7_days_29 : decode cX7_days 29 = .ok (.iconst 4, 1) := by decide +kernel
theorem dX7_days_30 : decode cX7_days 30 = .ok (.invokevirtual 70, 3) := by decide +kernel
theorem dX7_days_33 : decode cX7_days 33 = .ok (.ifCond .ne 7, 3) := by decide +kernel
theorem dX7_days_36 : decode cX7_days 36 = .ok (.iconst 1, 1) := by decide +kernel
theorem dX7_days_37 : decode cX7_days 37 = .ok (.goto 4, 3) := by decide +kernel
theorem dX7_days_40 : decode cX7_days 40 = .ok (.iconst 0, 1) := by decide +kernel
theorem dX7_days_41 : decode cX7_days 41 = .ok (.istore 4, 2) := by decide +kernel
theorem dX7_days_43 : decode cX7_days 43 = .ok (.aload_n 0, 1) := by decide +kernel
theorem dX7_days_44 : decode cX7_days 44 = .ok (.iconst 3, 1) := by decide +kernel
theorem dX7_days_45 : decode cX7_days 45 = .ok (.invokevirtual 70, 3) := by decide +kernel
theorem dX7_days_48 : decode cX7_days 48 = .ok (.ifCond .ne 12, 3) := by decide +kernel
theorem dX7_days_51 : decode cX7_days 51 = .ok (.aload_n 0, 1) := by decide +kernel
theorem dX7_days_52 : decode cX7_days 52 = .ok (.bipush 64, 2) := by decide +kernel
theorem dX7_days_54 : decode cX7_days 54 = .ok (.invokevirtual 70, 3) := by decide +kernel
theorem dX7_days_57 : decode cX7_days 57 = .ok (.goto 32, 3) := by decide +kernel
theorem dX7_days_60 : decode cX7_days 60 = .ok (.aload_n 0, 1) := by decide +kernel
theorem dX7_days_61 : decode cX7_days 61 = .ok (.getfield 7, 3) := by decide +kernel
theorem dX7_days_64 : decode cX7_days 64 = .ok (.sipush 701, 3) := by decide +kernel
theorem dX7_days_67 : decode cX7_days 67 = .ok (.iaload, 1) := by decide +kernel
theorem dX7_days_68 : decode cX7_days 68 = .ok (.iconst (-1), 1) := by decide +kernel
theorem dX7_days_69 : decode cX7_days 69 = .ok (.if_icmp .ne 7, 3) := by decide +kernel
theorem dX7_days_72 : decode cX7_days 72 = .ok (.iconst 1, 1) := by decide +kernel
theorem dX7_days_73 : decode cX7_days 73 = .ok (.goto 16, 3) := by decide +kernel
theorem dX7_days_76 : decode cX7_days 76 = .ok (.aload_n 0, 1) := by decide +kernel
theorem dX7_days_77 : decode cX7_days 77 = .ok (.getfield 7, 3) := by decide +kernel
theorem dX7_days_80 : decode cX7_days 80 = .ok (.sipush 701, 3) := by decide +kernel
theorem dX7_days_83 : decode cX7_days 83 = .ok (.iaload, 1) := by decide +kernel
theorem dX7_days_84 : decode cX7_days 84 = .ok (.iconst 1, 1) := by decide +kernel
theorem dX7_days_85 : decode cX7_days 85 = .ok (.iadd, 1) := by decide +kernel
theorem dX7_days_86 : decode cX7_days 86 = .ok (.bipush 64, 2) := by decide +kernel
theorem dX7_days_88 : decode cX7_days 88 = .ok (.irem, 1) := by decide +kernel
theorem dX7_days_89 : decode cX7_days 89 = .ok (.istore 5, 2) := by decide +kernel
theorem dX7_days_91 : decode cX7_days 91 = .ok (.aload_n 0, 1) := by decide +kernel
theorem dX7_days_92 : decode cX7_days 92 = .ok (.getfield 7, 3) := by decide +kernel
theorem dX7_days_95 : decode cX7_days 95 = .ok (.sipush 701, 3) := by decide +kernel
theorem dX7_days_98 : decode cX7_days 98 = .ok (.iload 5, 2) := by decide +kernel
theorem dX7_days_100 : decode cX7_days 100 = .ok (.iastore, 1) := by decide +kernel
theorem dX7_days_101 : decode cX7_days 101 = .ok (.iload 4, 2) := by decide +kernel
theorem dX7_days_103 : decode cX7_days 103 = .ok (.ifCond .eq 19, 3) := by decide +kernel
theorem dX7_days_106 : decode cX7_days 106 = .ok (.aload_n 0, 1) := by decide +kernel
theorem dX7_days_107 : decode cX7_days 107 = .ok (.iload 5, 2) := by decide +kernel
theorem dX7_days_109 : decode cX7_days 109 = .ok (.aload_n 0, 1) := by decide +kernel
theorem dX7_days_110 : decode cX7_days 110 = .ok (.bipush 100, 2) := by decide +kernel
theorem dX7_days_112 : decode cX7_days 112 = .ok (.invokevirtual 70, 3) := by decide +kernel
theorem dX7_days_115 : decode cX7_days 115 = .ok (.invokevirtual 144, 3) := by decide +kernel
theorem dX7_days_118 : decode cX7_days 118 = .ok (.pop, 1) := by decide +kernel
theorem dX7_days_119 : decode cX7_days 119 = .ok (.goto 10, 3) := by decide +kernel
theorem dX7_days_122 : decode cX7_days 122 = .ok (.aload_n 0, 1) := by decide +kernel
theorem dX7_days_123 : decode cX7_days 123 = .ok (.iload 5, 2) := by decide +kernel
theorem dX7_days_125 : decode cX7_days 125 = .ok (.invokevirtual 141, 3) := by decide +kernel
theorem dX7_days_128 : decode cX7_days 128 = .ok (.pop, 1) := by decide +kernel
theorem dX7_days_129 : decode cX7_days 129 = .ok (.iload_n 2, 1) := by decide +kernel
theorem dX7_days_130 : decode cX7_days 130 = .ok (.aload_n 0, 1) := by decide +kernel
theorem dX7_days_131 : decode cX7_days 131 = .ok (.getfield 94, 3) := by decide +kernel
theorem dX7_days_134 : decode cX7_days 134 = .ok (.iadd, 1) := by decide +kernel
theorem dX7_days_135 : decode cX7_days 135 = .ok (.istore_n 2, 1) := by decide +kernel
theorem dX7_days_136 : decode cX7_days 136 = .ok (.iinc 3 1, 3) := by decide +kernel
theorem dX7_days_139 : decode cX7_days 139 = .ok (.goto (-116), 3) := by decide +kernel
theorem dX7_days_142 : decode cX7_days 142 = .ok (.iload_n 2, 1) := by decide +kernel
theorem dX7_days_143 : decode cX7_days 143 = .ok (.ireturn, 1) := by decide +kernel
theorem dX7_seed_0 : decode cX7_seed 0 = .ok (.aload_n 0, 1) := by decide +kernel
theorem dX7_seed_1 : decode cX7_seed 1 = .ok (.getfield 7, 3) := by decide +kernel
theorem dX7_seed_4 : decode cX7_seed 4 = .ok (.sipush 699, 3) := by decide +kernel
theorem dX7_seed_7 : decode cX7_seed 7 = .ok (.iaload, 1) := by decide +kernel
theorem dX7_seed_8 : decode cX7_seed 8 = .ok (.istore_n 2, 1) := by decide +kernel
theorem dX7_seed_9 : decode cX7_seed 9 = .ok (.aload_n 0, 1) := by decide +kernel
theorem dX7_seed_10 : decode cX7_seed 10 = .ok (.getfield 7, 3) := by decide +kernel
theorem dX7_seed_13 : decode cX7_seed 13 = .ok (.sipush 699, 3) := by decide +kernel
theorem dX7_seed_16 : decode cX7_seed 16 = .ok (.iload_n 1, 1) := by decide +kernel
theorem dX7_seed_17 : decode cX7_seed 17 = .ok (.iastore, 1) := by decide +kernel
theorem dX7_seed_18 : decode cX7_seed 18 = .ok (.iload_n 2, 1) := by decide +kernel
theorem dX7_seed_19 : decode cX7_seed 19 = .ok (.ireturn, 1) := by decide +kernel
theorem dX7_image_0 : decode cX7_image 0 = .ok (.aload_n 0, 1) := by decide +kernel
theorem dX7_image_1 : decode cX7_image 1 = .ok (.getfield 7, 3) := by decide +kernel
theorem dX7_image_4 : decode cX7_image 4 = .ok (.aload_n 0, 1) := by decide +kernel
theorem dX7_image_5 : decode cX7_image 5 = .ok (.getfield 13, 3) := by decide +kernel
theorem dX7_image_8 : decode cX7_image 8 = .ok (.invokestatic 217, 3) := by decide +kernel
theorem dX7_image_11 : decode cX7_image 11 = .ok (.aload_n 0, 1) := by decide +kernel
theorem dX7_image_12 : decode cX7_image 12 = .ok (.iconst 1, 1) := by decide +kernel
theorem dX7_image_13 : decode cX7_image 13 = .ok (.putfield 260, 3) := by decide +kernel
theorem dX7_image_16 : decode cX7_image 16 = .ok (.iconst 1, 1) := by decide +kernel
theorem dX7_image_17 : decode cX7_image 17 = .ok (.ireturn, 1) := by decide +kernel
theorem dX7_back_0 : decode cX7_back 0 = .ok (.aload_n 0, 1) := by decide +kernel
theorem dX7_back_1 : decode cX7_back 1 = .ok (.getfield 260, 3) := by decide +kernel
theorem dX7_back_4 : decode cX7_back 4 = .ok (.ifCond .ne 10, 3) := by decide +kernel
theorem dX7_back_7 : decode cX7_back 7 = .ok (.aload_n 0, 1) := by decide +kernel
theorem dX7_back_8 : decode cX7_back 8 = .ok (.bipush (-55), 2) := by decide +kernel
theorem dX7_back_10 : decode cX7_back 10 = .ok (.invokevirtual 127, 3) := by decide +kernel
theorem dX7_back_13 : decode cX7_back 13 = .ok (.ireturn, 1) := by decide +kernel
theorem dX7_back_14 : decode cX7_back 14 = .ok (.aload_n 0, 1) := by decide +kernel
theorem dX7_back_15 : decode cX7_back 15 = .ok (.getfield 13, 3) := by decide +kernel
theorem dX7_back_18 : decode cX7_back 18 = .ok (.aload_n 0, 1) := by decide +kernel
theorem dX7_back_19 : decode cX7_back 19 = .ok (.getfield 7, 3) := by decide +kernel
theorem dX7_back_22 : decode cX7_back 22 = .ok (.invokestatic 217, 3) := by decide +kernel
theorem dX7_back_25 : decode cX7_back 25 = .ok (.iconst 0, 1) := by decide +kernel
theorem dX7_back_26 : decode cX7_back 26 = .ok (.istore_n 1, 1) := by decide +kernel
theorem dX7_back_27 : decode cX7_back 27 = .ok (.iload_n 1, 1) := by decide +kernel
theorem dX7_back_28 : decode cX7_back 28 = .ok (.bipush 8, 2) := by decide +kernel
theorem dX7_back_30 : decode cX7_back 30 = .ok (.if_icmp .ge 68, 3) := by decide +kernel
theorem dX7_back_33 : decode cX7_back 33 = .ok (.aload_n 0, 1) := by decide +kernel
theorem dX7_back_34 : decode cX7_back 34 = .ok (.getfield 25, 3) := by decide +kernel
theorem dX7_back_37 : decode cX7_back 37 = .ok (.iload_n 1, 1) := by decide +kernel
theorem dX7_back_38 : decode cX7_back 38 = .ok (.iaload, 1) := by decide +kernel
theorem dX7_back_39 : decode cX7_back 39 = .ok (.bipush 9, 2) := by decide +kernel
theorem dX7_back_41 : decode cX7_back 41 = .ok (.if_icmp .le 51, 3) := by decide +kernel
theorem dX7_back_44 : decode cX7_back 44 = .ok (.aload_n 0, 1) := by decide +kernel
theorem dX7_back_45 : decode cX7_back 45 = .ok (.getfield 25, 3) := by decide +kernel
theorem dX7_back_48 : decode cX7_back 48 = .ok (.iload_n 1, 1) := by decide +kernel
theorem dX7_back_49 : decode cX7_back 49 = .ok (.iaload, 1) := by decide +kernel
theorem dX7_back_50 : decode cX7_back 50 = .ok (.bipush 11, 2) := by decide +kernel
theorem dX7_back_52 : decode cX7_back 52 = .ok (.isub, 1) := by decide +kernel
theorem dX7_back_53 : decode cX7_back 53 = .ok (.istore_n 2, 1) := by decide +kernel
theorem dX7_back_54 : decode cX7_back 54 = .ok (.iload_n 2, 1) := by decide +kernel
theorem dX7_back_55 : decode cX7_back 55 = .ok (.aload_n 0, 1) := by decide +kernel
theorem dX7_back_56 : decode cX7_back 56 = .ok (.getfield 7, 3) := by decide +kernel
theorem dX7_back_59 : decode cX7_back 59 = .ok (.sipush 688, 3) := by decide +kernel
theorem dX7_back_62 : decode cX7_back 62 = .ok (.iaload, 1) := by decide +kernel
theorem dX7_back_63 : decode cX7_back 63 = .ok (.if_icmp .ge 7, 3) := by decide +kernel
theorem dX7_back_66 : decode cX7_back 66 = .ok (.iconst 1, 1) := by decide +kernel
theorem dX7_back_67 : decode cX7_back 67 = .ok (.goto 4, 3) := by decide +kernel
theorem dX7_back_70 : decode cX7_back 70 = .ok (.iconst 0, 1) := by decide +kernel
theorem dX7_back_71 : decode cX7_back 71 = .ok (.istore_n 3, 1) := by decide +kernel
theorem dX7_back_72 : decode cX7_back 72 = .ok (.aload_n 0, 1) := by decide +kernel
theorem dX7_back_73 : decode cX7_back 73 = .ok (.getfield 25, 3) := by decide +kernel
theorem dX7_back_76 : decode cX7_back 76 = .ok (.iload_n 1, 1) := by decide +kernel
theorem dX7_back_77 : decode cX7_back 77 = .ok (.iload_n 3, 1) := by decide +kernel
theorem dX7_back_78 : decode cX7_back 78 = .ok (.ifCond .eq 12, 3) := by decide +kernel
theorem dX7_back_81 : decode cX7_back 81 = .ok (.aload_n 0, 1) := by decide +kernel
theorem dX7_back_82 : decode cX7_back 82 = .ok (.getfield 25, 3) := by decide +kernel
theorem dX7_back_85 : decode cX7_back 85 = .ok (.iload_n 1, 1) := by decide +kernel
theorem dX7_back_86 : decode cX7_back 86 = .ok (.iaload, 1) := by decide +kernel
theorem dX7_back_87 : decode cX7_back 87 = .ok (.goto 4, 3) := by decide +kernel
theorem dX7_back_90 : decode cX7_back 90 = .ok (.iconst (-1), 1) := by decide +kernel
theorem dX7_back_91 : decode cX7_back 91 = .ok (.iastore, 1) := by decide +kernel
theorem dX7_back_92 : decode cX7_back 92 = .ok (.iinc 1 1, 3) := by decide +kernel
theorem dX7_back_95 : decode cX7_back 95 = .ok (.goto (-68), 3) := by decide +kernel
theorem dX7_back_98 : decode cX7_back 98 = .ok (.iconst 1, 1) := by decide +kernel
theorem dX7_back_99 : decode cX7_back 99 = .ok (.ireturn, 1) := by decide +kernel
theorem dX7_status_0 : decode cX7_status 0 = .ok (.iload_n 1, 1) := by decide +kernel
theorem dX7_status_1 : decode cX7_status 1 = .ok (.i2l, 1) := by decide +kernel
theorem dX7_status_2 : decode cX7_status 2 = .ok (.ldc2_w 264, 3) := by decide +kernel
theorem dX7_status_5 : decode cX7_status 5 = .ok (.ldc2_w 119, 3) := by decide +kernel
theorem dX7_status_8 : decode cX7_status 8 = .ok (.invokestatic 47, 3) := by decide +kernel
theorem dX7_status_11 : decode cX7_status 11 = .ok (.ifCond .eq 13, 3) := by decide +kernel
theorem dX7_status_14 : decode cX7_status 14 = .ok (.aload_n 0, 1) := by decide +kernel
theorem dX7_status_15 : decode cX7_status 15 = .ok (.getfield 19, 3) := by decide +kernel
theorem dX7_status_18 : decode cX7_status 18 = .ok (.iload_n 1, 1) := by decide +kernel
theorem dX7_status_19 : decode cX7_status 19 = .ok (.bipush 12, 2) := by decide +kernel
theorem dX7_status_21 : decode cX7_status 21 = .ok (.isub, 1) := by decide +kernel
theorem dX7_status_22 : decode cX7_status 22 = .ok (.iaload, 1) := by decide +kernel
theorem dX7_status_23 : decode cX7_status 23 = .ok (.ireturn, 1) := by decide +kernel
theorem dX7_status_24 : decode cX7_status 24 = .ok (.iconst 0, 1) := by decide +kernel
theorem dX7_status_25 : decode cX7_status 25 = .ok (.istore_n 2, 1) := by decide +kernel
theorem dX7_status_26 : decode cX7_status 26 = .ok (.iconst 0, 1) := by decide +kernel
theorem dX7_status_27 : decode cX7_status 27 = .ok (.istore_n 3, 1) := by decide +kernel
theorem dX7_status_28 : decode cX7_status 28 = .ok (.iload_n 3, 1) := by decide +kernel
theorem dX7_status_29 : decode cX7_status 29 = .ok (.bipush 8, 2) := by decide +kernel
theorem dX7_status_31 : decode cX7_status 31 = .ok (.if_icmp .ge 26, 3) := by decide +kernel
theorem dX7_status_34 : decode cX7_status 34 = .ok (.iload_n 2, 1) := by decide +kernel
theorem dX7_status_35 : decode cX7_status 35 = .ok (.aload_n 0, 1) := by decide +kernel
theorem dX7_status_36 : decode cX7_status 36 = .ok (.getfield 25, 3) := by decide +kernel
theorem dX7_status_39 : decode cX7_status 39 = .ok (.iload_n 3, 1) := by decide +kernel
theorem dX7_status_40 : decode cX7_status 40 = .ok (.iaload, 1) := by decide +kernel
theorem dX7_status_41 : decode cX7_status 41 = .ok (.ifCond .ge 7, 3) := by decide +kernel
theorem dX7_status_44 : decode cX7_status 44 = .ok (.iconst 0, 1) := by decide +kernel
theorem dX7_status_45 : decode cX7_status 45 = .ok (.goto 4, 3) := by decide +kernel
theorem dX7_status_48 : decode cX7_status 48 = .ok (.iconst 1, 1) := by decide +kernel
theorem dX7_status_49 : decode cX7_status 49 = .ok (.iadd, 1) := by decide +kernel
theorem dX7_status_50 : decode cX7_status 50 = .ok (.istore_n 2, 1) := by decide +kernel
theorem dX7_status_51 : decode cX7_status 51 = .ok (.iinc 3 1, 3) := by decide +kernel
theorem dX7_status_54 : decode cX7_status 54 = .ok (.goto (-26), 3) := by decide +kernel
theorem dX7_status_57 : decode cX7_status 57 = .ok (.iload_n 1, 1) := by decide +kernel
theorem dX7_status_58 : decode cX7_status 58 = .ok (.tableswitch 192 0 17 #[86, 95, 104, 113, 122, 131, 140, 149, 158, 167, 176, 181, 192, 192, 192, 192, 192, 190], 86) := by decide +kernel
theorem dX7_status_144 : decode cX7_status 144 = .ok (.aload_n 0, 1) := by decide +kernel
theorem dX7_status_145 : decode cX7_status 145 = .ok (.getfield 7, 3) := by decide +kernel
theorem dX7_status_148 : decode cX7_status 148 = .ok (.sipush 688, 3) := by decide +kernel
theorem dX7_status_151 : decode cX7_status 151 = .ok (.iaload, 1) := by decide +kernel
theorem dX7_status_152 : decode cX7_status 152 = .ok (.ireturn, 1) := by decide +kernel
theorem dX7_status_153 : decode cX7_status 153 = .ok (.aload_n 0, 1) := by decide +kernel
theorem dX7_status_154 : decode cX7_status 154 = .ok (.getfield 7, 3) := by decide +kernel
theorem dX7_status_157 : decode cX7_status 157 = .ok (.sipush 689, 3) := by decide +kernel
theorem dX7_status_160 : decode cX7_status 160 = .ok (.iaload, 1) := by decide +kernel
theorem dX7_status_161 : decode cX7_status 161 = .ok (.ireturn, 1) := by decide +kernel
theorem dX7_status_162 : decode cX7_status 162 = .ok (.aload_n 0, 1) := by decide +kernel
theorem dX7_status_163 : decode cX7_status 163 = .ok (.getfield 7, 3) := by decide +kernel
theorem dX7_status_166 : decode cX7_status 166 = .ok (.sipush 690, 3) := by decide +kernel
theorem dX7_status_169 : decode cX7_status 169 = .ok (.iaload, 1) := by decide +kernel
theorem dX7_status_170 : decode cX7_status 170 = .ok (.ireturn, 1) := by decide +kernel
theorem dX7_status_171 : decode cX7_status 171 = .ok (.aload_n 0, 1) := by decide +kernel
theorem dX7_status_172 : decode cX7_status 172 = .ok (.getfield 7, 3) := by decide +kernel
theorem dX7_status_175 : decode cX7_status 175 = .ok (.sipush 691, 3) := by decide +kernel
theorem dX7_status_178 : decode cX7_status 178 = .ok (.iaload, 1) := by decide +kernel
theorem dX7_status_179 : decode cX7_status 179 = .ok (.ireturn, 1) := by decide +kernel
theorem dX7_status_180 : decode cX7_status 180 = .ok (.aload_n 0, 1) := by decide +kernel
theorem dX7_status_181 : decode cX7_status 181 = .ok (.getfield 7, 3) := by decide +kernel
theorem dX7_status_184 : decode cX7_status 184 = .ok (.sipush 692, 3) := by decide +kernel
theorem dX7_status_187 : decode cX7_status 187 = .ok (.iaload, 1) := by decide +kernel
theorem dX7_status_188 : decode cX7_status 188 = .ok (.ireturn, 1) := by decide +kernel
theorem dX7_status_189 : decode cX7_status 189 = .ok (.aload_n 0, 1) := by decide +kernel
theorem dX7_status_190 : decode cX7_status 190 = .ok (.getfield 7, 3) := by decide +kernel
theorem dX7_status_193 : decode cX7_status 193 = .ok (.sipush 693, 3) := by decide +kernel
theorem dX7_status_196 : decode cX7_status 196 = .ok (.iaload, 1) := by decide +kernel
theorem dX7_status_197 : decode cX7_status 197 = .ok (.ireturn, 1) := by decide +kernel
theorem dX7_status_198 : decode cX7_status 198 = .ok (.aload_n 0, 1) := by decide +kernel
theorem dX7_status_199 : decode cX7_status 199 = .ok (.getfield 7, 3) := by decide +kernel
theorem dX7_status_202 : decode cX7_status 202 = .ok (.sipush 694, 3) := by decide +kernel
theorem dX7_status_205 : decode cX7_status 205 = .ok (.iaload, 1) := by decide +kernel
theorem dX7_status_206 : decode cX7_status 206 = .ok (.ireturn, 1) := by decide +kernel
theorem dX7_status_207 : decode cX7_status 207 = .ok (.aload_n 0, 1) := by decide +kernel
theorem dX7_status_208 : decode cX7_status 208 = .ok (.getfield 7, 3) := by decide +kernel
theorem dX7_status_211 : decode cX7_status 211 = .ok (.sipush 696, 3) := by decide +kernel
theorem dX7_status_214 : decode cX7_status 214 = .ok (.iaload, 1) := by decide +kernel
theorem dX7_status_215 : decode cX7_status 215 = .ok (.ireturn, 1) := by decide +kernel
theorem dX7_status_216 : decode cX7_status 216 = .ok (.aload_n 0, 1) := by decide +kernel
theorem dX7_status_217 : decode cX7_status 217 = .ok (.getfield 7, 3) := by decide +kernel
theorem dX7_status_220 : decode cX7_status 220 = .ok (.sipush 697, 3) := by decide +kernel
theorem dX7_status_223 : decode cX7_status 223 = .ok (.iaload, 1) := by decide +kernel
theorem dX7_status_224 : decode cX7_status 224 = .ok (.ireturn, 1) := by decide +kernel
theorem dX7_status_225 : decode cX7_status 225 = .ok (.aload_n 0, 1) := by decide +kernel
theorem dX7_status_226 : decode cX7_status 226 = .ok (.getfield 7, 3) := by decide +kernel
theorem dX7_status_229 : decode cX7_status 229 = .ok (.sipush 698, 3) := by decide +kernel
theorem dX7_status_232 : decode cX7_status 232 = .ok (.iaload, 1) := by decide +kernel
theorem dX7_status_233 : decode cX7_status 233 = .ok (.ireturn, 1) := by decide +kernel
theorem dX7_status_234 : decode cX7_status 234 = .ok (.aload_n 0, 1) := by decide +kernel
theorem dX7_status_235 : decode cX7_status 235 = .ok (.getfield 156, 3) := by decide +kernel
theorem dX7_status_238 : decode cX7_status 238 = .ok (.ireturn, 1) := by decide +kernel
theorem dX7_status_239 : decode cX7_status 239 = .ok (.aload_n 0, 1) := by decide +kernel
theorem dX7_status_240 : decode cX7_status 240 = .ok (.getfield 7, 3) := by decide +kernel
theorem dX7_status_243 : decode cX7_status 243 = .ok (.sipush 699, 3) := by decide +kernel
theorem dX7_status_246 : decode cX7_status 246 = .ok (.iaload, 1) := by decide +kernel
theorem dX7_status_247 : decode cX7_status 247 = .ok (.ireturn, 1) := by decide +kernel
theorem dX7_status_248 : decode cX7_status 248 = .ok (.iload_n 2, 1) := by decide +kernel
theorem dX7_status_249 : decode cX7_status 249 = .ok (.ireturn, 1) := by decide +kernel
theorem dX7_status_250 : decode cX7_status 250 = .ok (.iconst (-1), 1) := by decide +kernel
theorem dX7_status_251 : decode cX7_status 251 = .ok (.ireturn, 1) := by decide +kernel
theorem dJ6_bitCount_0f7a4_0 : decode cJ6_bitCount_0f7a4 0 = .ok (.iload_n 0, 1) := by decide +kernel
theorem dJ6_bitCount_0f7a4_1 : decode cJ6_bitCount_0f7a4 1 = .ok (.iload_n 0, 1) := by decide +kernel
theorem dJ6_bitCount_0f7a4_2 : decode cJ6_bitCount_0f7a4 2 = .ok (.iconst 1, 1) := by decide +kernel
theorem dJ6_bitCount_0f7a4_3 : decode cJ6_bitCount_0f7a4 3 = .ok (.iushr, 1) := by decide +kernel
theorem dJ6_bitCount_0f7a4_4 : decode cJ6_bitCount_0f7a4 4 = .ok (.ldc_w 265, 3) := by decide +kernel
theorem dJ6_bitCount_0f7a4_7 : decode cJ6_bitCount_0f7a4 7 = .ok (.iand, 1) := by decide +kernel
theorem dJ6_bitCount_0f7a4_8 : decode cJ6_bitCount_0f7a4 8 = .ok (.isub, 1) := by decide +kernel
theorem dJ6_bitCount_0f7a4_9 : decode cJ6_bitCount_0f7a4 9 = .ok (.istore_n 0, 1) := by decide +kernel
theorem dJ6_bitCount_0f7a4_10 : decode cJ6_bitCount_0f7a4 10 = .ok (.iload_n 0, 1) := by decide +kernel
theorem dJ6_bitCount_0f7a4_11 : decode cJ6_bitCount_0f7a4 11 = .ok (.ldc_w 266, 3) := by decide +kernel
theorem dJ6_bitCount_0f7a4_14 : decode cJ6_bitCount_0f7a4 14 = .ok (.iand, 1) := by decide +kernel
theorem dJ6_bitCount_0f7a4_15 : decode cJ6_bitCount_0f7a4 15 = .ok (.iload_n 0, 1) := by decide +kernel
theorem dJ6_bitCount_0f7a4_16 : decode cJ6_bitCount_0f7a4 16 = .ok (.iconst 2, 1) := by decide +kernel
theorem dJ6_bitCount_0f7a4_17 : decode cJ6_bitCount_0f7a4 17 = .ok (.iushr, 1) := by decide +kernel
theorem dJ6_bitCount_0f7a4_18 : decode cJ6_bitCount_0f7a4 18 = .ok (.ldc_w 266, 3) := by decide +kernel
theorem dJ6_bitCount_0f7a4_21 : decode cJ6_bitCount_0f7a4 21 = .ok (.iand, 1) := by decide +kernel
theorem dJ6_bitCount_0f7a4_22 : decode cJ6_bitCount_0f7a4 22 = .ok (.iadd, 1) := by decide +kernel
theorem dJ6_bitCount_0f7a4_23 : decode cJ6_bitCount_0f7a4 23 = .ok (.istore_n 0, 1) := by decide +kernel
theorem dJ6_bitCount_0f7a4_24 : decode cJ6_bitCount_0f7a4 24 = .ok (.iload_n 0, 1) := by decide +kernel
theorem dJ6_bitCount_0f7a4_25 : decode cJ6_bitCount_0f7a4 25 = .ok (.iload_n 0, 1) := by decide +kernel
theorem dJ6_bitCount_0f7a4_26 : decode cJ6_bitCount_0f7a4 26 = .ok (.iconst 4, 1) := by decide +kernel
theorem dJ6_bitCount_0f7a4_27 : decode cJ6_bitCount_0f7a4 27 = .ok (.iushr, 1) := by decide +kernel
theorem dJ6_bitCount_0f7a4_28 : decode cJ6_bitCount_0f7a4 28 = .ok (.iadd, 1) := by decide +kernel
theorem dJ6_bitCount_0f7a4_29 : decode cJ6_bitCount_0f7a4 29 = .ok (.ldc_w 267, 3) := by decide +kernel
theorem dJ6_bitCount_0f7a4_32 : decode cJ6_bitCount_0f7a4 32 = .ok (.iand, 1) := by decide +kernel
theorem dJ6_bitCount_0f7a4_33 : decode cJ6_bitCount_0f7a4 33 = .ok (.istore_n 0, 1) := by decide +kernel
theorem dJ6_bitCount_0f7a4_34 : decode cJ6_bitCount_0f7a4 34 = .ok (.iload_n 0, 1) := by decide +kernel
theorem dJ6_bitCount_0f7a4_35 : decode cJ6_bitCount_0f7a4 35 = .ok (.iload_n 0, 1) := by decide +kernel
theorem dJ6_bitCount_0f7a4_36 : decode cJ6_bitCount_0f7a4 36 = .ok (.bipush 8, 2) := by decide +kernel
theorem dJ6_bitCount_0f7a4_38 : decode cJ6_bitCount_0f7a4 38 = .ok (.iushr, 1) := by decide +kernel
theorem dJ6_bitCount_0f7a4_39 : decode cJ6_bitCount_0f7a4 39 = .ok (.iadd, 1) := by decide +kernel
theorem dJ6_bitCount_0f7a4_40 : decode cJ6_bitCount_0f7a4 40 = .ok (.istore_n 0, 1) := by decide +kernel
theorem dJ6_bitCount_0f7a4_41 : decode cJ6_bitCount_0f7a4 41 = .ok (.iload_n 0, 1) := by decide +kernel
theorem dJ6_bitCount_0f7a4_42 : decode cJ6_bitCount_0f7a4 42 = .ok (.iload_n 0, 1) := by decide +kernel
theorem dJ6_bitCount_0f7a4_43 : decode cJ6_bitCount_0f7a4 43 = .ok (.bipush 16, 2) := by decide +kernel
theorem dJ6_bitCount_0f7a4_45 : decode cJ6_bitCount_0f7a4 45 = .ok (.iushr, 1) := by decide +kernel
theorem dJ6_bitCount_0f7a4_46 : decode cJ6_bitCount_0f7a4 46 = .ok (.iadd, 1) := by decide +kernel
theorem dJ6_bitCount_0f7a4_47 : decode cJ6_bitCount_0f7a4 47 = .ok (.istore_n 0, 1) := by decide +kernel
theorem dJ6_bitCount_0f7a4_48 : decode cJ6_bitCount_0f7a4 48 = .ok (.iload_n 0, 1) := by decide +kernel
theorem dJ6_bitCount_0f7a4_49 : decode cJ6_bitCount_0f7a4 49 = .ok (.bipush 63, 2) := by decide +kernel
theorem dJ6_bitCount_0f7a4_51 : decode cJ6_bitCount_0f7a4 51 = .ok (.iand, 1) := by decide +kernel
theorem dJ6_bitCount_0f7a4_52 : decode cJ6_bitCount_0f7a4 52 = .ok (.ireturn, 1) := by decide +kernel
theorem dJ13_bitCount_95d88_0 : decode cJ13_bitCount_95d88 0 = .ok (.lload_n 0, 1) := by decide +kernel
theorem dJ13_bitCount_95d88_1 : decode cJ13_bitCount_95d88 1 = .ok (.lload_n 0, 1) := by decide +kernel
theorem dJ13_bitCount_95d88_2 : decode cJ13_bitCount_95d88 2 = .ok (.iconst 1, 1) := by decide +kernel
theorem dJ13_bitCount_95d88_3 : decode cJ13_bitCount_95d88 3 = .ok (.lushr, 1) := by decide +kernel
theorem dJ13_bitCount_95d88_4 : decode cJ13_bitCount_95d88 4 = .ok (.ldc2_w 314, 3) := by decide +kernel
theorem dJ13_bitCount_95d88_7 : decode cJ13_bitCount_95d88 7 = .ok (.land, 1) := by decide +kernel
theorem dJ13_bitCount_95d88_8 : decode cJ13_bitCount_95d88 8 = .ok (.lsub, 1) := by decide +kernel
theorem dJ13_bitCount_95d88_9 : decode cJ13_bitCount_95d88 9 = .ok (.lstore_n 0, 1) := by decide +kernel
theorem dJ13_bitCount_95d88_10 : decode cJ13_bitCount_95d88 10 = .ok (.lload_n 0, 1) := by decide +kernel
theorem dJ13_bitCount_95d88_11 : decode cJ13_bitCount_95d88 11 = .ok (.ldc2_w 316, 3) := by decide +kernel
theorem dJ13_bitCount_95d88_14 : decode cJ13_bitCount_95d88 14 = .ok (.land, 1) := by decide +kernel
theorem dJ13_bitCount_95d88_15 : decode cJ13_bitCount_95d88 15 = .ok (.lload_n 0, 1) := by decide +kernel
theorem dJ13_bitCount_95d88_16 : decode cJ13_bitCount_95d88 16 = .ok (.iconst 2, 1) := by decide +kernel
theorem dJ13_bitCount_95d88_17 : decode cJ13_bitCount_95d88 17 = .ok (.lushr, 1) := by decide +kernel
theorem dJ13_bitCount_95d88_18 : decode cJ13_bitCount_95d88 18 = .ok (.ldc2_w 316, 3) := by decide +kernel
theorem dJ13_bitCount_95d88_21 : decode cJ13_bitCount_95d88 21 = .ok (.land, 1) := by decide +kernel
theorem dJ13_bitCount_95d88_22 : decode cJ13_bitCount_95d88 22 = .ok (.ladd, 1) := by decide +kernel
theorem dJ13_bitCount_95d88_23 : decode cJ13_bitCount_95d88 23 = .ok (.lstore_n 0, 1) := by decide +kernel
theorem dJ13_bitCount_95d88_24 : decode cJ13_bitCount_95d88 24 = .ok (.lload_n 0, 1) := by decide +kernel
theorem dJ13_bitCount_95d88_25 : decode cJ13_bitCount_95d88 25 = .ok (.lload_n 0, 1) := by decide +kernel
theorem dJ13_bitCount_95d88_26 : decode cJ13_bitCount_95d88 26 = .ok (.iconst 4, 1) := by decide +kernel
theorem dJ13_bitCount_95d88_27 : decode cJ13_bitCount_95d88 27 = .ok (.lushr, 1) := by decide +kernel
theorem dJ13_bitCount_95d88_28 : decode cJ13_bitCount_95d88 28 = .ok (.ladd, 1) := by decide +kernel
theorem dJ13_bitCount_95d88_29 : decode cJ13_bitCount_95d88 29 = .ok (.ldc2_w 318, 3) := by decide +kernel
theorem dJ13_bitCount_95d88_32 : decode cJ13_bitCount_95d88 32 = .ok (.land, 1) := by decide +kernel
theorem dJ13_bitCount_95d88_33 : decode cJ13_bitCount_95d88 33 = .ok (.lstore_n 0, 1) := by decide +kernel
theorem dJ13_bitCount_95d88_34 : decode cJ13_bitCount_95d88 34 = .ok (.lload_n 0, 1) := by decide +kernel
theorem dJ13_bitCount_95d88_35 : decode cJ13_bitCount_95d88 35 = .ok (.lload_n 0, 1) := by decide +kernel
theorem dJ13_bitCount_95d88_36 : decode cJ13_bitCount_95d88 36 = .ok (.bipush 8, 2) := by decide +kernel
theorem dJ13_bitCount_95d88_38 : decode cJ13_bitCount_95d88 38 = .ok (.lushr, 1) := by decide +kernel
theorem dJ13_bitCount_95d88_39 : decode cJ13_bitCount_95d88 39 = .ok (.ladd, 1) := by decide +kernel
theorem dJ13_bitCount_95d88_40 : decode cJ13_bitCount_95d88 40 = .ok (.lstore_n 0, 1) := by decide +kernel
theorem dJ13_bitCount_95d88_41 : decode cJ13_bitCount_95d88 41 = .ok (.lload_n 0, 1) := by decide +kernel
theorem dJ13_bitCount_95d88_42 : decode cJ13_bitCount_95d88 42 = .ok (.lload_n 0, 1) := by decide +kernel
theorem dJ13_bitCount_95d88_43 : decode cJ13_bitCount_95d88 43 = .ok (.bipush 16, 2) := by decide +kernel
theorem dJ13_bitCount_95d88_45 : decode cJ13_bitCount_95d88 45 = .ok (.lushr, 1) := by decide +kernel
theorem dJ13_bitCount_95d88_46 : decode cJ13_bitCount_95d88 46 = .ok (.ladd, 1) := by decide +kernel
theorem dJ13_bitCount_95d88_47 : decode cJ13_bitCount_95d88 47 = .ok (.lstore_n 0, 1) := by decide +kernel
theorem dJ13_bitCount_95d88_48 : decode cJ13_bitCount_95d88 48 = .ok (.lload_n 0, 1) := by decide +kernel
theorem dJ13_bitCount_95d88_49 : decode cJ13_bitCount_95d88 49 = .ok (.lload_n 0, 1) := by decide +kernel
theorem dJ13_bitCount_95d88_50 : decode cJ13_bitCount_95d88 50 = .ok (.bipush 32, 2) := by decide +kernel
theorem dJ13_bitCount_95d88_52 : decode cJ13_bitCount_95d88 52 = .ok (.lushr, 1) := by decide +kernel
theorem dJ13_bitCount_95d88_53 : decode cJ13_bitCount_95d88 53 = .ok (.ladd, 1) := by decide +kernel
theorem dJ13_bitCount_95d88_54 : decode cJ13_bitCount_95d88 54 = .ok (.lstore_n 0, 1) := by decide +kernel
theorem dJ13_bitCount_95d88_55 : decode cJ13_bitCount_95d88 55 = .ok (.lload_n 0, 1) := by decide +kernel
theorem dJ13_bitCount_95d88_56 : decode cJ13_bitCount_95d88 56 = .ok (.l2i, 1) := by decide +kernel
theorem dJ13_bitCount_95d88_57 : decode cJ13_bitCount_95d88 57 = .ok (.bipush 127, 2) := by decide +kernel
theorem dJ13_bitCount_95d88_59 : decode cJ13_bitCount_95d88 59 = .ok (.iand, 1) := by decide +kernel
theorem dJ13_bitCount_95d88_60 : decode cJ13_bitCount_95d88 60 = .ok (.ireturn, 1) := by decide +kernel
theorem dJ9_floorMod_7cf53_0 : decode cJ9_floorMod_7cf53 0 = .ok (.iload_n 0, 1) := by decide +kernel
theorem dJ9_floorMod_7cf53_1 : decode cJ9_floorMod_7cf53 1 = .ok (.iload_n 1, 1) := by decide +kernel
theorem dJ9_floorMod_7cf53_2 : decode cJ9_floorMod_7cf53 2 = .ok (.irem, 1) := by decide +kernel
theorem dJ9_floorMod_7cf53_3 : decode cJ9_floorMod_7cf53 3 = .ok (.istore_n 2, 1) := by decide +kernel
theorem dJ9_floorMod_7cf53_4 : decode cJ9_floorMod_7cf53 4 = .ok (.iload_n 0, 1) := by decide +kernel
theorem dJ9_floorMod_7cf53_5 : decode cJ9_floorMod_7cf53 5 = .ok (.iload_n 1, 1) := by decide +kernel
theorem dJ9_floorMod_7cf53_6 : decode cJ9_floorMod_7cf53 6 = .ok (.ixor, 1) := by decide +kernel
theorem dJ9_floorMod_7cf53_7 : decode cJ9_floorMod_7cf53 7 = .ok (.ifCond .ge 11, 3) := by decide +kernel
theorem dJ9_floorMod_7cf53_10 : decode cJ9_floorMod_7cf53 10 = .ok (.iload_n 2, 1) := by decide +kernel
theorem dJ9_floorMod_7cf53_11 : decode cJ9_floorMod_7cf53 11 = .ok (.ifCond .eq 7, 3) := by decide +kernel
theorem dJ9_floorMod_7cf53_14 : decode cJ9_floorMod_7cf53 14 = .ok (.iload_n 2, 1) := by decide +kernel
theorem dJ9_floorMod_7cf53_15 : decode cJ9_floorMod_7cf53 15 = .ok (.iload_n 1, 1) := by decide +kernel
theorem dJ9_floorMod_7cf53_16 : decode cJ9_floorMod_7cf53 16 = .ok (.iadd, 1) := by decide +kernel
theorem dJ9_floorMod_7cf53_17 : decode cJ9_floorMod_7cf53 17 = .ok (.ireturn, 1) := by decide +kernel
theorem dJ9_floorMod_7cf53_18 : decode cJ9_floorMod_7cf53 18 = .ok (.iload_n 2, 1) := by decide +kernel
theorem dJ9_floorMod_7cf53_19 : decode cJ9_floorMod_7cf53 19 = .ok (.ireturn, 1) := by decide +kernel
theorem dJ9_max_7cf53_0 : decode cJ9_max_7cf53 0 = .ok (.iload_n 0, 1) := by decide +kernel
theorem dJ9_max_7cf53_1 : decode cJ9_max_7cf53 1 = .ok (.iload_n 1, 1) := by decide +kernel
theorem dJ9_max_7cf53_2 : decode cJ9_max_7cf53 2 = .ok (.if_icmp .lt 7, 3) := by decide +kernel
theorem dJ9_max_7cf53_5 : decode cJ9_max_7cf53 5 = .ok (.iload_n 0, 1) := by decide +kernel
theorem dJ9_max_7cf53_6 : decode cJ9_max_7cf53 6 = .ok (.goto 4, 3) := by decide +kernel
theorem dJ9_max_7cf53_9 : decode cJ9_max_7cf53 9 = .ok (.iload_n 1, 1) := by decide +kernel
theorem dJ9_max_7cf53_10 : decode cJ9_max_7cf53 10 = .ok (.ireturn, 1) := by decide +kernel
theorem dJ9_min_7cf53_0 : decode cJ9_min_7cf53 0 = .ok (.iload_n 0, 1) := by decide +kernel
theorem dJ9_min_7cf53_1 : decode cJ9_min_7cf53 1 = .ok (.iload_n 1, 1) := by decide +kernel
theorem dJ9_min_7cf53_2 : decode cJ9_min_7cf53 2 = .ok (.if_icmp .gt 7, 3) := by decide +kernel
theorem dJ9_min_7cf53_5 : decode cJ9_min_7cf53 5 = .ok (.iload_n 0, 1) := by decide +kernel
theorem dJ9_min_7cf53_6 : decode cJ9_min_7cf53 6 = .ok (.goto 4, 3) := by decide +kernel
theorem dJ9_min_7cf53_9 : decode cJ9_min_7cf53 9 = .ok (.iload_n 1, 1) := by decide +kernel
theorem dJ9_min_7cf53_10 : decode cJ9_min_7cf53 10 = .ok (.ireturn, 1) := by decide +kernel
theorem dL_law_0 : decode cL_law 0 = .ok (.new 7, 3) := by decide +kernel
theorem dL_law_3 : decode cL_law 3 = .ok (.dup, 1) := by decide +kernel
theorem dL_law_4 : decode cL_law 4 = .ok (.invokespecial 9, 3) := by decide +kernel
theorem dL_law_7 : decode cL_law 7 = .ok (.astore_n 1, 1) := by decide +kernel
theorem dL_law_8 : decode cL_law 8 = .ok (.new 10, 3) := by decide +kernel
theorem dL_law_11 : decode cL_law 11 = .ok (.dup, 1) := by decide +kernel
theorem dL_law_12 : decode cL_law 12 = .ok (.invokespecial 12, 3) := by decide +kernel
theorem dL_law_15 : decode cL_law 15 = .ok (.astore_n 2, 1) := by decide +kernel
theorem dL_law_16 : decode cL_law 16 = .ok (.iconst 0, 1) := by decide +kernel
theorem dL_law_17 : decode cL_law 17 = .ok (.istore_n 3, 1) := by decide +kernel
theorem dL_law_18 : decode cL_law 18 = .ok (.iload_n 3, 1) := by decide +kernel
theorem dL_law_19 : decode cL_law 19 = .ok (.aload_n 0, 1) := by decide +kernel
theorem dL_law_20 : decode cL_law 20 = .ok (.arraylength, 1) := by decide +kernel
theorem dL_law_21 : decode cL_law 21 = .ok (.bipush 6, 2) := by decide +kernel
theorem dL_law_23 : decode cL_law 23 = .ok (.isub, 1) := by decide +kernel
theorem dL_law_24 : decode cL_law 24 = .ok (.if_icmp .gt 1470, 3) := by decide +kernel
theorem dL_law_27 : decode cL_law 27 = .ok (.aload_n 0, 1) := by decide +kernel
theorem dL_law_28 : decode cL_law 28 = .ok (.iload_n 3, 1) := by decide +kernel
theorem dL_law_29 : decode cL_law 29 = .ok (.iaload, 1) := by decide +kernel
theorem dL_law_30 : decode cL_law 30 = .ok (.bipush 63, 2) := by decide +kernel
theorem dL_law_32 : decode cL_law 32 = .ok (.iand, 1) := by decide +kernel
theorem dL_law_33 : decode cL_law 33 = .ok (.tableswitch 1455 0 40 #[179, 222, 295, 358, 392, 415, 448, 481, 504, 517, 530, 573, 586, 619, 652, 675, 708, 731, 744, 777, 820, 853, 876, 900, 924, 937, 970, 1013, 1056, 1109, 1142, 1185, 1228, 1271, 1304, 1337, 1360, 1383, 1406, 1419, 1432], 179) := by decide +kernel
theorem dL_law_212 : decode cL_law 212 = .ok (.aload_n 1, 1) := by decide +kernel
theorem dL_law_213 : decode cL_law 213 = .ok (.aload_n 0, 1) := by decide +kernel
theorem dL_law_214 : decode cL_law 214 = .ok (.iload_n 3, 1) := by decide +kernel
theorem dL_law_215 : decode cL_law 215 = .ok (.iconst 1, 1) := by decide +kernel
theorem dL_law_216 : decode cL_law 216 = .ok (.iadd, 1) := by decide +kernel
theorem dL_law_217 : decode cL_law 217 = .ok (.iaload, 1) := by decide +kernel
theorem dL_law_218 : decode cL_law 218 = .ok (.aload_n 0, 1) := by decide +kernel
theorem dL_law_219 : decode cL_law 219 = .ok (.iload_n 3, 1) := by decide +kernel
theorem dL_law_220 : decode cL_law 220 = .ok (.iconst 2, 1) := by decide +kernel
theorem dL_law_221 : decode cL_law 221 = .ok (.iadd, 1) := by decide +kernel
theorem dL_law_222 : decode cL_law 222 = .ok (.iaload, 1) := by decide +kernel
theorem dL_law_223 : decode cL_law 223 = .ok (.aload_n 0, 1) := by decide +kernel
theorem dL_law_224 : decode cL_law 224 = .ok (.iload_n 3, 1) := by decide +kernel
theorem dL_law_225 : decode cL_law 225 = .ok (.iconst 3, 1) := by decide +kernel
theorem dL_law_226 : decode cL_law 226 = .ok (.iadd, 1) := by decide +kernel
theorem dL_law_227 : decode cL_law 227 = .ok (.iaload, 1) := by decide +kernel
theorem dL_law_228 : decode cL_law 228 = .ok (.invokevirtual 13, 3) := by decide +kernel
theorem dL_law_231 : decode cL_law 231 = .ok (.aload_n 2, 1) := by decide +kernel
theorem dL_law_232 : decode cL_law 232 = .ok (.aload_n 0, 1) := by decide +kernel
theorem dL_law_233 : decode cL_law 233 = .ok (.iload_n 3, 1) := by decide +kernel
theorem dL_law_234 : decode cL_law 234 = .ok (.iconst 1, 1) := by decide +kernel
theorem dL_law_235 : decode cL_law 235 = .ok (.iadd, 1) := by decide +kernel
theorem dL_law_236 : decode cL_law 236 = .ok (.iaload, 1) := by decide +kernel
theorem dL_law_237 : decode cL_law 237 = .ok (.aload_n 0, 1) := by decide +kernel
theorem dL_law_238 : decode cL_law 238 = .ok (.iload_n 3, 1) := by decide +kernel
theorem dL_law_239 : decode cL_law 239 = .ok (.iconst 2, 1) := by decide +kernel
theorem dL_law_240 : decode cL_law 240 = .ok (.iadd, 1) := by decide +kernel
theorem dL_law_241 : decode cL_law 241 = .ok (.iaload, 1) := by decide +kernel
theorem dL_law_242 : decode cL_law 242 = .ok (.aload_n 0, 1) := by decide +kernel
theorem dL_law_243 : decode cL_law 243 = .ok (.iload_n 3, 1) := by decide +kernel
theorem dL_law_244 : decode cL_law 244 = .ok (.iconst 3, 1) := by decide +kernel
theorem dL_law_245 : decode cL_law 245 = .ok (.iadd, 1) := by decide +kernel
theorem dL_law_246 : decode cL_law 246 = .ok (.iaload, 1) := by decide +kernel
theorem dL_law_247 : decode cL_law 247 = .ok (.invokevirtual 17, 3) := by decide +kernel
theorem dL_law_250 : decode cL_law 250 = .ok (.if_icmp .eq 1238, 3) := by decide +kernel
theorem dL_law_253 : decode cL_law 253 = .ok (.iconst 0, 1) := by decide +kernel
theorem dL_law_254 : decode cL_law 254 = .ok (.ireturn, 1) := by decide +kernel
theorem dL_law_255 : decode cL_law 255 = .ok (.aload_n 1, 1) := by decide +kernel
theorem dL_law_256 : decode cL_law 256 = .ok (.aload_n 0, 1) := by decide +kernel
theorem dL_law_257 : decode cL_law 257 = .ok (.iload_n 3, 1) := by decide +kernel
theorem dL_law_258 : decode cL_law 258 = .ok (.iconst 1, 1) := by decide +kernel
theorem dL_law_259 : decode cL_law 259 = .ok (.iadd, 1) := by decide +kernel
theorem dL_law_260 : decode cL_law 260 = .ok (.iaload, 1) := by decide +kernel
theorem dL_law_261 : decode cL_law 261 = .ok (.aload_n 0, 1) := by decide +kernel
theorem dL_law_262 : decode cL_law 262 = .ok (.iload_n 3, 1) := by decide +kernel
theorem dL_law_263 : decode cL_law 263 = .ok (.iconst 2, 1) := by decide +kernel
theorem dL_law_264 : decode cL_law 264 = .ok (.iadd, 1) := by decide +kernel
theorem dL_law_265 : decode cL_law 265 = .ok (.iaload, 1) := by decide +kernel
theorem dL_law_266 : decode cL_law 266 = .ok (.aload_n 0, 1) := by decide +kernel
theorem dL_law_267 : decode cL_law 267 = .ok (.iload_n 3, 1) := by decide +kernel
theorem dL_law_268 : decode cL_law 268 = .ok (.iconst 3, 1) := by decide +kernel
theorem dL_law_269 : decode cL_law 269 = .ok (.iadd, 1) := by decide +kernel
theorem dL_law_270 : decode cL_law 270 = .ok (.iaload, 1) := by decide +kernel
theorem dL_law_271 : decode cL_law 271 = .ok (.i2l, 1) := by decide +kernel
theorem dL_law_272 : decode cL_law 272 = .ok (.bipush 32, 2) := by decide +kernel
theorem dL_law_274 : decode cL_law 274 = .ok (.lshl, 1) := by decide +kernel
theorem dL_law_275 : decode cL_law 275 = .ok (.aload_n 0, 1) := by decide +kernel
theorem dL_law_276 : decode cL_law 276 = .ok (.iload_n 3, 1) := by decide +kernel
theorem dL_law_277 : decode cL_law 277 = .ok (.iconst 4, 1) := by decide +kernel
theorem dL_law_278 : decode cL_law 278 = .ok (.iadd, 1) := by decide +kernel
theorem dL_law_279 : decode cL_law 279 = .ok (.iaload, 1) := by decide +kernel
theorem dL_law_280 : decode cL_law 280 = .ok (.i2l, 1) := by decide +kernel
theorem dL_law_281 : decode cL_law 281 = .ok (.ldc2_w 18, 3) := by decide +kernel
theorem dL_law_284 : decode cL_law 284 = .ok (.land, 1) := by decide +kernel
theorem dL_law_285 : decode cL_law 285 = .ok (.lor, 1) := by decide +kernel
theorem dL_law_286 : decode cL_law 286 = .ok (.invokevirtual 20, 3) := by decide +kernel
theorem dL_law_289 : decode cL_law 289 = .ok (.aload_n 2, 1) := by decide +kernel
theorem dL_law_290 : decode cL_law 290 = .ok (.aload_n 0, 1) := by decide +kernel
theorem dL_law_291 : decode cL_law 291 = .ok (.iload_n 3, 1) := by decide +kernel
theorem dL_law_292 : decode cL_law 292 = .ok (.iconst 1, 1) := by decide +kernel
theorem dL_law_293 : decode cL_law 293 = .ok (.iadd, 1) := by decide +kernel
theorem dL_law_294 : decode cL_law 294 = .ok (.iaload, 1) := by decide +kernel
theorem dL_law_295 : decode cL_law 295 = .ok (.aload_n 0, 1) := by decide +kernel
theorem dL_law_296 : decode cL_law 296 = .ok (.iload_n 3, 1) := by decide +kernel
theorem dL_law_297 : decode cL_law 297 = .ok (.iconst 2, 1) := by decide +kernel
theorem dL_law_298 : decode cL_law 298 = .ok (.iadd, 1) := by decide +kernel
theorem dL_law_299 : decode cL_law 299 = .ok (.iaload, 1) := by decide +kernel
theorem dL_law_300 : decode cL_law 300 = .ok (.aload_n 0, 1) := by decide +kernel
theorem dL_law_301 : decode cL_law 301 = .ok (.iload_n 3, 1) := by decide +kernel
theorem dL_law_302 : decode cL_law 302 = .ok (.iconst 3, 1) := by decide +kernel
theorem dL_law_303 : decode cL_law 303 = .ok (.iadd, 1) := by decide +kernel
theorem dL_law_304 : decode cL_law 304 = .ok (.iaload, 1) := by decide +kernel
theorem dL_law_305 : decode cL_law 305 = .ok (.i2l, 1) := by decide +kernel
theorem dL_law_306 : decode cL_law 306 = .ok (.bipush 32, 2) := by decide +kernel
theorem dL_law_308 : decode cL_law 308 = .ok (.lshl, 1) := by decide +kernel
theorem dL_law_309 : decode cL_law 309 = .ok (.aload_n 0, 1) := by decide +kernel
theorem dL_law_310 : decode cL_law 310 = .ok (.iload_n 3, 1) := by decide +kernel
theorem dL_law_311 : decode cL_law 311 = .ok (.iconst 4, 1) := by decide +kernel
theorem dL_law_312 : decode cL_law 312 = .ok (.iadd, 1) := by decide +kernel
theorem dL_law_313 : decode cL_law 313 = .ok (.iaload, 1) := by decide +kernel
theorem dL_law_314 : decode cL_law 314 = .ok (.i2l, 1) := by decide +kernel
theorem dL_law_315 : decode cL_law 315 = .ok (.ldc2_w 18, 3) := by decide +kernel
theorem dL_law_318 : decode cL_law 318 = .ok (.land, 1) := by decide +kernel
theorem dL_law_319 : decode cL_law 319 = .ok (.lor, 1) := by decide +kernel
theorem dL_law_320 : decode cL_law 320 = .ok (.invokevirtual 24, 3) := by decide +kernel
theorem dL_law_323 : decode cL_law 323 = .ok (.if_icmp .eq 1165, 3) := by decide +kernel
theorem dL_law_326 : decode cL_law 326 = .ok (.iconst 0, 1) := by decide +kernel
theorem dL_law_327 : decode cL_law 327 = .ok (.ireturn, 1) := by decide +kernel
theorem dL_law_328 : decode cL_law 328 = .ok (.aload_n 1, 1) := by decide +kernel
theorem dL_law_329 : decode cL_law 329 = .ok (.aload_n 0, 1) := by decide +kernel
theorem dL_law_330 : decode cL_law 330 = .ok (.iload_n 3, 1) := by decide +kernel
theorem dL_law_331 : decode cL_law 331 = .ok (.iconst 1, 1) := by decide +kernel
theorem dL_law_332 : decode cL_law 332 = .ok (.iadd, 1) := by decide +kernel
theorem dL_law_333 : decode cL_law 333 = .ok (.iaload, 1) := by decide +kernel
theorem dL_law_334 : decode cL_law 334 = .ok (.aload_n 0, 1) := by decide +kernel
theorem dL_law_335 : decode cL_law 335 = .ok (.iload_n 3, 1) := by decide +kernel
theorem dL_law_336 : decode cL_law 336 = .ok (.iconst 2, 1) := by decide +kernel
theorem dL_law_337 : decode cL_law 337 = .ok (.iadd, 1) := by decide +kernel
theorem dL_law_338 : decode cL_law 338 = .ok (.iaload, 1) := by decide +kernel
theorem dL_law_339 : decode cL_law 339 = .ok (.aload_n 0, 1) := by decide +kernel
theorem dL_law_340 : decode cL_law 340 = .ok (.iload_n 3, 1) := by decide +kernel
theorem dL_law_341 : decode cL_law 341 = .ok (.iconst 3, 1) := by decide +kernel
theorem dL_law_342 : decode cL_law 342 = .ok (.iadd, 1) := by decide +kernel
theorem dL_law_343 : decode cL_law 343 = .ok (.iaload, 1) := by decide +kernel
theorem dL_law_344 : decode cL_law 344 = .ok (.aload_n 0, 1) := by decide +kernel
theorem dL_law_345 : decode cL_law 345 = .ok (.iload_n 3, 1) := by decide +kernel
theorem dL_law_346 : decode cL_law 346 = .ok (.iconst 4, 1) := by decide +kernel
theorem dL_law_347 : decode cL_law 347 = .ok (.iadd, 1) := by decide +kernel
theorem dL_law_348 : decode cL_law 348 = .ok (.iaload, 1) := by decide +kernel
theorem dL_law_349 : decode cL_law 349 = .ok (.aload_n 0, 1) := by decide +kernel
theorem dL_law_350 : decode cL_law 350 = .ok (.iload_n 3, 1) := by decide +kernel
theorem dL_law_351 : decode cL_law 351 = .ok (.iconst 5, 1) := by decide +kernel
theorem dL_law_352 : decode cL_law 352 = .ok (.iadd, 1) := by decide +kernel
theorem dL_law_353 : decode cL_law 353 = .ok (.iaload, 1) := by decide +kernel
theorem dL_law_354 : decode cL_law 354 = .ok (.invokevirtual 25, 3) := by decide +kernel
theorem dL_law_357 : decode cL_law 357 = .ok (.aload_n 2, 1) := by decide +kernel
theorem dL_law_358 : decode cL_law 358 = .ok (.aload_n 0, 1) := by decide +kernel
theorem dL_law_359 : decode cL_law 359 = .ok (.iload_n 3, 1) := by decide +kernel
theorem dL_law_360 : decode cL_law 360 = .ok (.iconst 1, 1) := by decide +kernel
theorem dL_law_361 : decode cL_law 361 = .ok (.iadd, 1) := by decide +kernel
theorem dL_law_362 : decode cL_law 362 = .ok (.iaload, 1) := by decide +kernel
theorem dL_law_363 : decode cL_law 363 = .ok (.aload_n 0, 1) := by decide +kernel
theorem dL_law_364 : decode cL_law 364 = .ok (.iload_n 3, 1) := by decide +kernel
theorem dL_law_365 : decode cL_law 365 = .ok (.iconst 2, 1) := by decide +kernel
theorem dL_law_366 : decode cL_law 366 = .ok (.iadd, 1) := by decide +kernel
theorem dL_law_367 : decode cL_law 367 = .ok (.iaload, 1) := by decide +kernel
theorem dL_law_368 : decode cL_law 368 = .ok (.aload_n 0, 1) := by decide +kernel
theorem dL_law_369 : decode cL_law 369 = .ok (.iload_n 3, 1) := by decide +kernel
theorem dL_law_370 : decode cL_law 370 = .ok (.iconst 3, 1) := by decide +kernel
theorem dL_law_371 : decode cL_law 371 = .ok (.iadd, 1) := by decide +kernel
theorem dL_law_372 : decode cL_law 372 = .ok (.iaload, 1) := by decide +kernel
theorem dL_law_373 : decode cL_law 373 = .ok (.aload_n 0, 1) := by decide +kernel
theorem dL_law_374 : decode cL_law 374 = .ok (.iload_n 3, 1) := by decide +kernel
theorem dL_law_375 : decode cL_law 375 = .ok (.iconst 4, 1) := by decide +kernel
theorem dL_law_376 : decode cL_law 376 = .ok (.iadd, 1) := by decide +kernel
theorem dL_law_377 : decode cL_law 377 = .ok (.iaload, 1) := by decide +kernel
theorem dL_law_378 : decode cL_law 378 = .ok (.aload_n 0, 1) := by decide +kernel
theorem dL_law_379 : decode cL_law 379 = .ok (.iload_n 3, 1) := by decide +kernel
theorem dL_law_380 : decode cL_law 380 = .ok (.iconst 5, 1) := by decide +kernel
theorem dL_law_381 : decode cL_law 381 = .ok (.iadd, 1) := by decide +kernel
theorem dL_law_382 : decode cL_law 382 = .ok (.iaload, 1) := by decide +kernel
theorem dL_law_383 : decode cL_law 383 = .ok (.invokevirtual 29, 3) := by decide +kernel
theorem dL_law_386 : decode cL_law 386 = .ok (.if_icmp .eq 1102, 3) := by decide +kernel
theorem dL_law_389 : decode cL_law 389 = .ok (.iconst 0, 1) := by decide +kernel
theorem dL_law_390 : decode cL_law 390 = .ok (.ireturn, 1) := by decide +kernel
theorem dL_law_391 : decode cL_law 391 = .ok (.aload_n 1, 1) := by decide +kernel
theorem dL_law_392 : decode cL_law 392 = .ok (.aload_n 0, 1) := by decide +kernel
theorem dL_law_393 : decode cL_law 393 = .ok (.iload_n 3, 1) := by decide +kernel
theorem dL_law_394 : decode cL_law 394 = .ok (.iconst 1, 1) := by decide +kernel
theorem dL_law_395 : decode cL_law 395 = .ok (.iadd, 1) := by decide +kernel
theorem dL_law_396 : decode cL_law 396 = .ok (.iaload, 1) := by decide +kernel
theorem dL_law_397 : decode cL_law 397 = .ok (.aload_n 0, 1) := by decide +kernel
theorem dL_law_398 : decode cL_law 398 = .ok (.iload_n 3, 1) := by decide +kernel
theorem dL_law_399 : decode cL_law 399 = .ok (.iconst 2, 1) := by decide +kernel
theorem dL_law_400 : decode cL_law 400 = .ok (.iadd, 1) := by decide +kernel
theorem dL_law_401 : decode cL_law 401 = .ok (.iaload, 1) := by decide +kernel
theorem dL_law_402 : decode cL_law 402 = .ok (.invokevirtual 30, 3) := by decide +kernel
theorem dL_law_405 : decode cL_law 405 = .ok (.aload_n 2, 1) := by decide +kernel
theorem dL_law_406 : decode cL_law 406 = .ok (.aload_n 0, 1) := by decide +kernel
theorem dL_law_407 : decode cL_law 407 = .ok (.iload_n 3, 1) := by decide +kernel
theorem dL_law_408 : decode cL_law 408 = .ok (.iconst 1, 1) := by decide +kernel
theorem dL_law_409 : decode cL_law 409 = .ok (.iadd, 1) := by decide +kernel
theorem dL_law_410 : decode cL_law 410 = .ok (.iaload, 1) := by decide +kernel
theorem dL_law_411 : decode cL_law 411 = .ok (.aload_n 0, 1) := by decide +kernel
theorem dL_law_412 : decode cL_law 412 = .ok (.iload_n 3, 1) := by decide +kernel
theorem dL_law_413 : decode cL_law 413 = .ok (.iconst 2, 1) := by decide +kernel
theorem dL_law_414 : decode cL_law 414 = .ok (.iadd, 1) := by decide +kernel
theorem dL_law_415 : decode cL_law 415 = .ok (.iaload, 1) := by decide +kernel
theorem dL_law_416 : decode cL_law 416 = .ok (.invokevirtual 34, 3) := by decide +kernel
theorem dL_law_419 : decode cL_law 419 = .ok (.lcmp, 1) := by decide +kernel
theorem dL_law_420 : decode cL_law 420 = .ok (.ifCond .eq 1068, 3) := by decide +kernel
theorem dL_law_423 : decode cL_law 423 = .ok (.iconst 0, 1) := by decide +kernel
theorem dL_law_424 : decode cL_law 424 = .ok (.ireturn, 1) := by decide +kernel
theorem dL_law_425 : decode cL_law 425 = .ok (.aload_n 1, 1) := by decide +kernel
theorem dL_law_426 : decode cL_law 426 = .ok (.aload_n 0, 1) := by decide +kernel
theorem dL_law_427 : decode cL_law 427 = .ok (.iload_n 3, 1) := by decide +kernel
theorem dL_law_428 : decode cL_law 428 = .ok (.iconst 1, 1) := by decide +kernel
theorem dL_law_429 : decode cL_law 429 = .ok (.iadd, 1) := by decide +kernel
theorem dL_law_430 : decode cL_law 430 = .ok (.iaload, 1) := by decide +kernel
theorem dL_law_431 : decode cL_law 431 = .ok (.invokevirtual 35, 3) := by decide +kernel
theorem dL_law_434 : decode cL_law 434 = .ok (.aload_n 2, 1) := by decide +kernel
theorem dL_law_435 : decode cL_law 435 = .ok (.aload_n 0, 1) := by decide +kernel
theorem dL_law_436 : decode cL_law 436 = .ok (.iload_n 3, 1) := by decide +kernel
theorem dL_law_437 : decode cL_law 437 = .ok (.iconst 1, 1) := by decide +kernel
theorem dL_law_438 : decode cL_law 438 = .ok (.iadd, 1) := by decide +kernel
theorem dL_law_439 : decode cL_law 439 = .ok (.iaload, 1) := by decide +kernel
theorem dL_law_440 : decode cL_law 440 = .ok (.invokevirtual 39, 3) := by decide +kernel
theorem dL_law_443 : decode cL_law 443 = .ok (.if_icmp .eq 1045, 3) := by decide +kernel
theorem dL_law_446 : decode cL_law 446 = .ok (.iconst 0, 1) := by decide +kernel
theorem dL_law_447 : decode cL_law 447 = .ok (.ireturn, 1) := by decide +kernel
theorem dL_law_448 : decode cL_law 448 = .ok (.aload_n 1, 1) := by decide +kernel
theorem dL_law_449 : decode cL_law 449 = .ok (.aload_n 0, 1) := by decide +kernel
theorem dL_law_450 : decode cL_law 450 = .ok (.iload_n 3, 1) := by decide +kernel
theorem dL_law_451 : decode cL_law 451 = .ok (.iconst 1, 1) := by decide +kernel
theorem dL_law_452 : decode cL_law 452 = .ok (.iadd, 1) := by decide +kernel
theorem dL_law_453 : decode cL_law 453 = .ok (.iaload, 1) := by decide +kernel
theorem dL_law_454 : decode cL_law 454 = .ok (.aload_n 0, 1) := by decide +kernel
theorem dL_law_455 : decode cL_law 455 = .ok (.iload_n 3, 1) := by decide +kernel
theorem dL_law_456 : decode cL_law 456 = .ok (.iconst 2, 1) := by decide +kernel
theorem dL_law_457 : decode cL_law 457 = .ok (.iadd, 1) := by decide +kernel
theorem dL_law_458 : decode cL_law 458 = .ok (.iaload, 1) := by decide +kernel
theorem dL_law_459 : decode cL_law 459 = .ok (.invokevirtual 40, 3) := by decide +kernel
theorem dL_law_462 : decode cL_law 462 = .ok (.aload_n 2, 1) := by decide +kernel
theorem dL_law_463 : decode cL_law 463 = .ok (.aload_n 0, 1) := by decide +kernel
theorem dL_law_464 : decode cL_law 464 = .ok (.iload_n 3, 1) := by decide +kernel
theorem dL_law_465 : decode cL_law 465 = .ok (.iconst 1, 1) := by decide +kernel
theorem dL_law_466 : decode cL_law 466 = .ok (.iadd, 1) := by decide +kernel
theorem dL_law_467 : decode cL_law 467 = .ok (.iaload, 1) := by decide +kernel
theorem dL_law_468 : decode cL_law 468 = .ok (.aload_n 0, 1) := by decide +kernel
theorem dL_law_469 : decode cL_law 469 = .ok (.iload_n 3, 1) := by decide +kernel
theorem dL_law_470 : decode cL_law 470 = .ok (.iconst 2, 1) := by decide +kernel
theorem dL_law_471 : decode cL_law 471 = .ok (.iadd, 1) := by decide +kernel
theorem dL_law_472 : decode cL_law 472 = .ok (.iaload, 1) := by decide +kernel
theorem dL_law_473 : decode cL_law 473 = .ok (.invokevirtual 44, 3) := by decide +kernel
theorem dL_law_476 : decode cL_law 476 = .ok (.if_icmp .eq 1012, 3) := by decide +kernel
theorem dL_law_479 : decode cL_law 479 = .ok (.iconst 0, 1) := by decide +kernel
theorem dL_law_480 : decode cL_law 480 = .ok (.ireturn, 1) := by decide +kernel
theorem dL_law_481 : decode cL_law 481 = .ok (.aload_n 1, 1) := by decide +kernel
theorem dL_law_482 : decode cL_law 482 = .ok (.aload_n 0, 1) := by decide +kernel
theorem dL_law_483 : decode cL_law 483 = .ok (.iload_n 3, 1) := by decide +kernel
theorem dL_law_484 : decode cL_law 484 = .ok (.iconst 1, 1) := by decide +kernel
theorem dL_law_485 : decode cL_law 485 = .ok (.iadd, 1) := by decide +kernel
theorem dL_law_486 : decode cL_law 486 = .ok (.iaload, 1) := by decide +kernel
theorem dL_law_487 : decode cL_law 487 = .ok (.aload_n 0, 1) := by decide +kernel
theorem dL_law_488 : decode cL_law 488 = .ok (.iload_n 3, 1) := by decide +kernel
theorem dL_law_489 : decode cL_law 489 = .ok (.iconst 2, 1) := by decide +kernel
theorem dL_law_490 : decode cL_law 490 = .ok (.iadd, 1) := by decide +kernel
theorem dL_law_491 : decode cL_law 491 = .ok (.iaload, 1) := by decide +kernel
theorem dL_law_492 : decode cL_law 492 = .ok (.invokevirtual 45, 3) := by decide +kernel
theorem dL_law_495 : decode cL_law 495 = .ok (.aload_n 2, 1) := by decide +kernel
theorem dL_law_496 : decode cL_law 496 = .ok (.aload_n 0, 1) := by decide +kernel
theorem dL_law_497 : decode cL_law 497 = .ok (.iload_n 3, 1) := by decide +kernel
theorem dL_law_498 : decode cL_law 498 = .ok (.iconst 1, 1) := by decide +kernel
theorem dL_law_499 : decode cL_law 499 = .ok (.iadd, 1) := by decide +kernel
theorem dL_law_500 : decode cL_law 500 = .ok (.iaload, 1) := by decide +kernel
theorem dL_law_501 : decode cL_law 501 = .ok (.aload_n 0, 1) := by decide +kernel
theorem dL_law_502 : decode cL_law 502 = .ok (.iload_n 3, 1) := by decide +kernel
theorem dL_law_503 : decode cL_law 503 = .ok (.iconst 2, 1) := by decide +kernel
theorem dL_law_504 : decode cL_law 504 = .ok (.iadd, 1) := by decide +kernel
theorem dL_law_505 : decode cL_law 505 = .ok (.iaload, 1) := by decide +kernel
theorem dL_law_506 : decode cL_law 506 = .ok (.invokevirtual 48, 3) := by decide +kernel
theorem dL_law_509 : decode cL_law 509 = .ok (.if_icmp .eq 979, 3) := by decide +kernel
theorem dL_law_512 : decode cL_law 512 = .ok (.iconst 0, 1) := by decide +kernel
theorem dL_law_513 : decode cL_law 513 = .ok (.ireturn, 1) := by decide +kernel
theorem dL_law_514 : decode cL_law 514 = .ok (.aload_n 1, 1) := by decide +kernel
theorem dL_law_515 : decode cL_law 515 = .ok (.aload_n 0, 1) := by decide +kernel
theorem dL_law_516 : decode cL_law 516 = .ok (.iload_n 3, 1) := by decide +kernel
theorem dL_law_517 : decode cL_law 517 = .ok (.iconst 1, 1) := by decide +kernel
theorem dL_law_518 : decode cL_law 518 = .ok (.iadd, 1) := by decide +kernel
theorem dL_law_519 : decode cL_law 519 = .ok (.iaload, 1) := by decide +kernel
theorem dL_law_520 : decode cL_law 520 = .ok (.invokevirtual 49, 3) := by decide +kernel
theorem dL_law_523 : decode cL_law 523 = .ok (.aload_n 2, 1) := by decide +kernel
theorem dL_law_524 : decode cL_law 524 = .ok (.aload_n 0, 1) := by decide +kernel
theorem dL_law_525 : decode cL_law 525 = .ok (.iload_n 3, 1) := by decide +kernel
theorem dL_law_526 : decode cL_law 526 = .ok (.iconst 1, 1) := by decide +kernel
theorem dL_law_527 : decode cL_law 527 = .ok (.iadd, 1) := by decide +kernel
theorem dL_law_528 : decode cL_law 528 = .ok (.iaload, 1) := by decide +kernel
theorem dL_law_529 : decode cL_law 529 = .ok (.invokevirtual 52, 3) := by decide +kernel
theorem dL_law_532 : decode cL_law 532 = .ok (.if_icmp .eq 956, 3) := by decide +kernel
theorem dL_law_535 : decode cL_law 535 = .ok (.iconst 0, 1) := by decide +kernel
theorem dL_law_536 : decode cL_law 536 = .ok (.ireturn, 1) := by decide +kernel
theorem dL_law_537 : decode cL_law 537 = .ok (.aload_n 1, 1) := by decide +kernel
theorem dL_law_538 : decode cL_law 538 = .ok (.invokevirtual 53, 3) := by decide +kernel
theorem dL_law_541 : decode cL_law 541 = .ok (.aload_n 2, 1) := by decide +kernel
theorem dL_law_542 : decode cL_law 542 = .ok (.invokevirtual 57, 3) := by decide +kernel
theorem dL_law_545 : decode cL_law 545 = .ok (.if_icmp .eq 943, 3) := by decide +kernel
theorem dL_law_548 : decode cL_law 548 = .ok (.iconst 0, 1) := by decide +kernel
theorem dL_law_549 : decode cL_law 549 = .ok (.ireturn, 1) := by decide +kernel
theorem dL_law_550 : decode cL_law 550 = .ok (.aload_n 1, 1) := by decide +kernel
theorem dL_law_551 : decode cL_law 551 = .ok (.invokevirtual 58, 3) := by decide +kernel
theorem dL_law_554 : decode cL_law 554 = .ok (.aload_n 2, 1) := by decide +kernel
theorem dL_law_555 : decode cL_law 555 = .ok (.invokevirtual 61, 3) := by decide +kernel
theorem dL_law_558 : decode cL_law 558 = .ok (.if_icmp .eq 930, 3) := by decide +kernel
theorem dL_law_561 : decode cL_law 561 = .ok (.iconst 0, 1) := by decide +kernel
theorem dL_law_562 : decode cL_law 562 = .ok (.ireturn, 1) := by decide +kernel
theorem dL_law_563 : decode cL_law 563 = .ok (.aload_n 1, 1) := by decide +kernel
theorem dL_law_564 : decode cL_law 564 = .ok (.aload_n 0, 1) := by decide +kernel
theorem dL_law_565 : decode cL_law 565 = .ok (.iload_n 3, 1) := by decide +kernel
theorem dL_law_566 : decode cL_law 566 = .ok (.iconst 1, 1) := by decide +kernel
theorem dL_law_567 : decode cL_law 567 = .ok (.iadd, 1) := by decide +kernel
theorem dL_law_568 : decode cL_law 568 = .ok (.iaload, 1) := by decide +kernel
theorem dL_law_569 : decode cL_law 569 = .ok (.aload_n 0, 1) := by decide +kernel
theorem dL_law_570 : decode cL_law 570 = .ok (.iload_n 3, 1) := by decide +kernel
theorem dL_law_571 : decode cL_law 571 = .ok (.iconst 2, 1) := by decide +kernel
theorem dL_law_572 : decode cL_law 572 = .ok (.iadd, 1) := by decide +kernel
theorem dL_law_573 : decode cL_law 573 = .ok (.iaload, 1) := by decide +kernel
theorem dL_law_574 : decode cL_law 574 = .ok (.aload_n 0, 1) := by decide +kernel
theorem dL_law_575 : decode cL_law 575 = .ok (.iload_n 3, 1) := by decide +kernel
theorem dL_law_576 : decode cL_law 576 = .ok (.iconst 3, 1) := by decide +kernel
theorem dL_law_577 : decode cL_law 577 = .ok (.iadd, 1) := by decide +kernel
theorem dL_law_578 : decode cL_law 578 = .ok (.iaload, 1) := by decide +kernel
theorem dL_law_579 : decode cL_law 579 = .ok (.invokevirtual 62, 3) := by decide +kernel
theorem dL_law_582 : decode cL_law 582 = .ok (.aload_n 2, 1) := by decide +kernel
theorem dL_law_583 : decode cL_law 583 = .ok (.aload_n 0, 1) := by decide +kernel
theorem dL_law_584 : decode cL_law 584 = .ok (.iload_n 3, 1) := by decide +kernel
theorem dL_law_585 : decode cL_law 585 = .ok (.iconst 1, 1) := by decide +kernel
theorem dL_law_586 : decode cL_law 586 = .ok (.iadd, 1) := by decide +kernel
theorem dL_law_587 : decode cL_law 587 = .ok (.iaload, 1) := by decide +kernel
theorem dL_law_588 : decode cL_law 588 = .ok (.aload_n 0, 1) := by decide +kernel
theorem dL_law_589 : decode cL_law 589 = .ok (.iload_n 3, 1) := by decide +kernel
theorem dL_law_590 : decode cL_law 590 = .ok (.iconst 2, 1) := by decide +kernel
theorem dL_law_591 : decode cL_law 591 = .ok (.iadd, 1) := by decide +kernel
theorem dL_law_592 : decode cL_law 592 = .ok (.iaload, 1) := by decide +kernel
theorem dL_law_593 : decode cL_law 593 = .ok (.aload_n 0, 1) := by decide +kernel
theorem dL_law_594 : decode cL_law 594 = .ok (.iload_n 3, 1) := by decide +kernel
theorem dL_law_595 : decode cL_law 595 = .ok (.iconst 3, 1) := by decide +kernel
theorem dL_law_596 : decode cL_law 596 = .ok (.iadd, 1) := by decide +kernel
theorem dL_law_597 : decode cL_law 597 = .ok (.iaload, 1) := by decide +kernel
theorem dL_law_598 : decode cL_law 598 = .ok (.invokevirtual 65, 3) := by decide +kernel
theorem dL_law_601 : decode cL_law 601 = .ok (.if_icmp .eq 887, 3) := by decide +kernel
theorem dL_law_604 : decode cL_law 604 = .ok (.iconst 0, 1) := by decide +kernel
theorem dL_law_605 : decode cL_law 605 = .ok (.ireturn, 1) := by decide +kernel
