theorem dX11_init_15 : decode cX11_init 15 = .ok (.aload_n 0, 1) := by decide +kernel
theorem dX11_init_16 : decode cX11_init 16 = .ok (.new 7, 3) := by decide +kernel
theorem dX11_init_19 : decode cX11_init 19 = .ok (.dup, 1) := by decide +kernel
theorem dX11_init_20 : decode cX11_init 20 = .ok (.invokespecial 9, 3) := by decide +kernel
theorem dX11_init_23 : decode cX11_init 23 = .ok (.putfield 16, 3) := by decide +kernel
theorem dX11_init_26 : decode cX11_init 26 = .ok (.aload_n 0, 1) := by decide +kernel
theorem dX11_init_27 : decode cX11_init 27 = .ok (.new 7, 3) := by decide +kernel
theorem dX11_init_30 : decode cX11_init 30 = .ok (.dup, 1) := by decide +kernel
theorem dX11_init_31 : decode cX11_init 31 = .ok (.invokespecial 9, 3) := by decide +kernel
theorem dX11_init_34 : decode cX11_init 34 = .ok (.putfield 19, 3) := by decide +kernel
theorem dX11_init_37 : decode cX11_init 37 = .ok (.aload_n 0, 1) := by decide +kernel
theorem dX11_init_38 : decode cX11_init 38 = .ok (.new 22, 3) := by decide +kernel
theorem dX11_init_41 : decode cX11_init 41 = .ok (.dup, 1) := by decide +kernel
theorem dX11_init_42 : decode cX11_init 42 = .ok (.invokespecial 24, 3) := by decide +kernel
theorem dX11_init_45 : decode cX11_init 45 = .ok (.putfield 25, 3) := by decide +kernel
theorem dX11_init_48 : decode cX11_init 48 = .ok (.aload_n 0, 1) := by decide +kernel
theorem dX11_init_49 : decode cX11_init 49 = .ok (.new 29, 3) := by decide +kernel
theorem dX11_init_52 : decode cX11_init 52 = .ok (.dup, 1) := by decide +kernel
theorem dX11_init_53 : decode cX11_init 53 = .ok (.invokespecial 31, 3) := by decide +kernel
theorem dX11_init_56 : decode cX11_init 56 = .ok (.putfield 32, 3) := by decide +kernel
theorem dX11_init_59 : decode cX11_init 59 = .ok (.aload_n 0, 1) := by decide +kernel
theorem dX11_init_60 : decode cX11_init 60 = .ok (.new 36, 3) := by decide +kernel
theorem dX11_init_63 : decode cX11_init 63 = .ok (.dup, 1) := by decide +kernel
theorem dX11_init_64 : decode cX11_init 64 = .ok (.invokespecial 38, 3) := by decide +kernel
theorem dX11_init_67 : decode cX11_init 67 = .ok (.putfield 39, 3) := by decide +kernel
theorem dX11_init_70 : decode cX11_init 70 = .ok (.aload_n 0, 1) := by decide +kernel
theorem dX11_init_71 : decode cX11_init 71 = .ok (.new 43, 3) := by decide +kernel
theorem dX11_init_74 : decode cX11_init 74 = .ok (.dup, 1) := by decide +kernel
theorem dX11_init_75 : decode cX11_init 75 = .ok (.invokespecial 45, 3) := by decide +kernel
theorem dX11_init_78 : decode cX11_init 78 = .ok (.putfield 46, 3) := by decide +kernel
theorem dX11_init_81 : decode cX11_init 81 = .ok (.aload_n 0, 1) := by decide +kernel
theorem dX11_init_82 : decode cX11_init 82 = .ok (.new 50, 3) := by decide +kernel
theorem dX11_init_85 : decode cX11_init 85 = .ok (.dup, 1) := by decide +kernel
theorem dX11_init_86 : decode cX11_init 86 = .ok (.invokespecial 52, 3) := by decide +kernel
theorem dX11_init_89 : decode cX11_init 89 = .ok (.putfield 53, 3) := by decide +kernel
theorem dX11_init_92 : decode cX11_init 92 = .ok (.aload_n 0, 1) := by decide +kernel
theorem dX11_init_93 : decode cX11_init 93 = .ok (.new 57, 3) := by decide +kernel
theorem dX11_init_96 : decode cX11_init 96 = .ok (.dup, 1) := by decide +kernel
theorem dX11_init_97 : decode cX11_init 97 = .ok (.invokespecial 59, 3) := by decide +kernel
theorem dX11_init_100 : decode cX11_init 100 = .ok (.putfield 60, 3) := by decide +kernel
theorem dX11_init_103 : decode cX11_init 103 = .ok (.aload_n 0, 1) := by decide +kernel
theorem dX11_init_104 : decode cX11_init 104 = .ok (.new 57, 3) := by decide +kernel
theorem dX11_init_107 : decode cX11_init 107 = .ok (.dup, 1) := by decide +kernel
theorem dX11_init_108 : decode cX11_init 108 = .ok (.invokespecial 59, 3) := by decide +kernel
theorem dX11_init_111 : decode cX11_init 111 = .ok (.putfield 64, 3) := by decide +kernel
theorem dX11_init_114 : decode cX11_init 114 = .ok (.aload_n 0, 1) := by decide +kernel
theorem dX11_init_115 : decode cX11_init 115 = .ok (.new 67, 3) := by decide +kernel
theorem dX11_init_118 : decode cX11_init 118 = .ok (.dup, 1) := by decide +kernel
theorem dX11_init_119 : decode cX11_init 119 = .ok (.invokespecial 69, 3) := by decide +kernel
theorem dX11_init_122 : decode cX11_init 122 = .ok (.putfield 70, 3) := by decide +kernel
theorem dX11_init_125 : decode cX11_init 125 = .ok (.aload_n 0, 1) := by decide +kernel
theorem dX11_init_126 : decode cX11_init 126 = .ok (.new 74, 3) := by decide +kernel
theorem dX11_init_129 : decode cX11_init 129 = .ok (.dup, 1) := by decide +kernel
theorem dX11_init_130 : decode cX11_init 130 = .ok (.invokespecial 76, 3) := by decide +kernel
theorem dX11_init_133 : decode cX11_init 133 = .ok (.putfield 77, 3) := by decide +kernel
theorem dX11_init_136 : decode cX11_init 136 = .ok (.aload_n 0, 1) := by decide +kernel
theorem dX11_init_137 : decode cX11_init 137 = .ok (.new 81, 3) := by decide +kernel
theorem dX11_init_140 : decode cX11_init 140 = .ok (.dup, 1) := by decide +kernel
theorem dX11_init_141 : decode cX11_init 141 = .ok (.invokespecial 83, 3) := by decide +kernel
theorem dX11_init_144 : decode cX11_init 144 = .ok (.putfield 84, 3) := by decide +kernel
theorem dX11_init_147 : decode cX11_init 147 = .ok (.aload_n 0, 1) := by decide +kernel
theorem dX11_init_148 : decode cX11_init 148 = .ok (.bipush 7, 2) := by decide +kernel
theorem dX11_init_150 : decode cX11_init 150 = .ok (.newarray .int, 2) := by decide +kernel
theorem dX11_init_152 : decode cX11_init 152 = .ok (.putfield 88, 3) := by decide +kernel
theorem dX11_init_155 : decode cX11_init 155 = .ok (.aload_n 0, 1) := by decide +kernel
theorem dX11_init_156 : decode cX11_init 156 = .ok (.getfield 16, 3) := by decide +kernel
theorem dX11_init_159 : decode cX11_init 159 = .ok (.bipush 97, 2) := by decide +kernel
theorem dX11_init_161 : decode cX11_init 161 = .ok (.invokevirtual 92, 3) := by decide +kernel
theorem dX11_init_164 : decode cX11_init 164 = .ok (.aload_n 0, 1) := by decide +kernel
theorem dX11_init_165 : decode cX11_init 165 = .ok (.getfield 25, 3) := by decide +kernel
theorem dX11_init_168 : decode cX11_init 168 = .ok (.aload_n 0, 1) := by decide +kernel
theorem dX11_init_169 : decode cX11_init 169 = .ok (.getfield 16, 3) := by decide +kernel
theorem dX11_init_172 : decode cX11_init 172 = .ok (.invokevirtual 96, 3) := by decide +kernel
theorem dX11_init_175 : decode cX11_init 175 = .ok (.return_, 1) := by decide +kernel
theorem dX11_feed_0 : decode cX11_feed 0 = .ok (.iload_n 1, 1) := by decide +kernel
theorem dX11_feed_1 : decode cX11_feed 1 = .ok (.iconst 1, 1) := by decide +kernel
theorem dX11_feed_2 : decode cX11_feed 2 = .ok (.if_icmp .ge 10, 3) := by decide +kernel
theorem dX11_feed_5 : decode cX11_feed 5 = .ok (.aload_n 0, 1) := by decide +kernel
theorem dX11_feed_6 : decode cX11_feed 6 = .ok (.bipush (-4), 2) := by decide +kernel
theorem dX11_feed_8 : decode cX11_feed 8 = .ok (.invokevirtual 100, 3) := by decide +kernel
theorem dX11_feed_11 : decode cX11_feed 11 = .ok (.ireturn, 1) := by decide +kernel
theorem dX11_feed_12 : decode cX11_feed 12 = .ok (.iload_n 1, 1) := by decide +kernel
theorem dX11_feed_13 : decode cX11_feed 13 = .ok (.bipush 8, 2) := by decide +kernel
theorem dX11_feed_15 : decode cX11_feed 15 = .ok (.if_icmp .gt 17, 3) := by decide +kernel
theorem dX11_feed_18 : decode cX11_feed 18 = .ok (.aload_n 0, 1) := by decide +kernel
theorem dX11_feed_19 : decode cX11_feed 19 = .ok (.getfield 10, 3) := by decide +kernel
theorem dX11_feed_22 : decode cX11_feed 22 = .ok (.invokevirtual 104, 3) := by decide +kernel
theorem dX11_feed_25 : decode cX11_feed 25 = .ok (.iload_n 1, 1) := by decide +kernel
theorem dX11_feed_26 : decode cX11_feed 26 = .ok (.iadd, 1) := by decide +kernel
theorem dX11_feed_27 : decode cX11_feed 27 = .ok (.bipush 21, 2) := by decide +kernel
theorem dX11_feed_29 : decode cX11_feed 29 = .ok (.if_icmp .le 10, 3) := by decide +kernel
theorem dX11_feed_32 : decode cX11_feed 32 = .ok (.aload_n 0, 1) := by decide +kernel
theorem dX11_feed_33 : decode cX11_feed 33 = .ok (.bipush (-6), 2) := by decide +kernel
theorem dX11_feed_35 : decode cX11_feed 35 = .ok (.invokevirtual 100, 3) := by decide +kernel
theorem dX11_feed_38 : decode cX11_feed 38 = .ok (.ireturn, 1) := by decide +kernel
theorem dX11_feed_39 : decode cX11_feed 39 = .ok (.iconst 0, 1) := by decide +kernel
theorem dX11_feed_40 : decode cX11_feed 40 = .ok (.istore 4, 2) := by decide +kernel
theorem dX11_feed_42 : decode cX11_feed 42 = .ok (.iload 4, 2) := by decide +kernel
theorem dX11_feed_44 : decode cX11_feed 44 = .ok (.iload_n 1, 1) := by decide +kernel
theorem dX11_feed_45 : decode cX11_feed 45 = .ok (.if_icmp .ge 28, 3) := by decide +kernel
theorem dX11_feed_48 : decode cX11_feed 48 = .ok (.aload_n 0, 1) := by decide +kernel
theorem dX11_feed_49 : decode cX11_feed 49 = .ok (.getfield 10, 3) := by decide +kernel
theorem dX11_feed_52 : decode cX11_feed 52 = .ok (.lload_n 2, 1) := by decide +kernel
theorem dX11_feed_53 : decode cX11_feed 53 = .ok (.bipush 8, 2) := by decide +kernel
theorem dX11_feed_55 : decode cX11_feed 55 = .ok (.iload 4, 2) := by decide +kernel
theorem dX11_feed_57 : decode cX11_feed 57 = .ok (.imul, 1) := by decide +kernel
theorem dX11_feed_58 : decode cX11_feed 58 = .ok (.lushr, 1) := by decide +kernel
theorem dX11_feed_59 : decode cX11_feed 59 = .ok (.ldc2_w 108, 3) := by decide +kernel
theorem dX11_feed_62 : decode cX11_feed 62 = .ok (.land, 1) := by decide +kernel
theorem dX11_feed_63 : decode cX11_feed 63 = .ok (.l2i, 1) := by decide +kernel
theorem dX11_feed_64 : decode cX11_feed 64 = .ok (.invokevirtual 92, 3) := by decide +kernel
theorem dX11_feed_67 : decode cX11_feed 67 = .ok (.iinc 4 1, 3) := by decide +kernel
theorem dX11_feed_70 : decode cX11_feed 70 = .ok (.goto (-28), 3) := by decide +kernel
theorem dX11_feed_73 : decode cX11_feed 73 = .ok (.aload_n 0, 1) := by decide +kernel
theorem dX11_feed_74 : decode cX11_feed 74 = .ok (.getfield 10, 3) := by decide +kernel
theorem dX11_feed_77 : decode cX11_feed 77 = .ok (.invokevirtual 104, 3) := by decide +kernel
theorem dX11_feed_80 : decode cX11_feed 80 = .ok (.ireturn, 1) := by decide +kernel
theorem dX11_read_0 : decode cX11_read 0 = .ok (.aload_n 0, 1) := by decide +kernel
theorem dX11_read_1 : decode cX11_read 1 = .ok (.getfield 10, 3) := by decide +kernel
theorem dX11_read_4 : decode cX11_read 4 = .ok (.invokevirtual 110, 3) := by decide +kernel
theorem dX11_read_7 : decode cX11_read 7 = .ok (.istore_n 1, 1) := by decide +kernel
theorem dX11_read_8 : decode cX11_read 8 = .ok (.iload_n 1, 1) := by decide +kernel
theorem dX11_read_9 : decode cX11_read 9 = .ok (.iconst (-1), 1) := by decide +kernel
theorem dX11_read_10 : decode cX11_read 10 = .ok (.if_icmp .ne 11, 3) := by decide +kernel
theorem dX11_read_13 : decode cX11_read 13 = .ok (.aload_n 0, 1) := by decide +kernel
theorem dX11_read_14 : decode cX11_read 14 = .ok (.aload_n 0, 1) := by decide +kernel
theorem dX11_read_15 : decode cX11_read 15 = .ok (.getfield 10, 3) := by decide +kernel
theorem dX11_read_18 : decode cX11_read 18 = .ok (.invokevirtual 113, 3) := by decide +kernel
theorem dX11_read_21 : decode cX11_read 21 = .ok (.aload_n 0, 1) := by decide +kernel
theorem dX11_read_22 : decode cX11_read 22 = .ok (.getfield 10, 3) := by decide +kernel
theorem dX11_read_25 : decode cX11_read 25 = .ok (.invokevirtual 116, 3) := by decide +kernel
theorem dX11_read_28 : decode cX11_read 28 = .ok (.iload_n 1, 1) := by decide +kernel
theorem dX11_read_29 : decode cX11_read 29 = .ok (.iconst (-1), 1) := by decide +kernel
theorem dX11_read_30 : decode cX11_read 30 = .ok (.if_icmp .ne 13, 3) := by decide +kernel
theorem dX11_read_33 : decode cX11_read 33 = .ok (.aload_n 0, 1) := by decide +kernel
theorem dX11_read_34 : decode cX11_read 34 = .ok (.getfield 16, 3) := by decide +kernel
theorem dX11_read_37 : decode cX11_read 37 = .ok (.invokevirtual 104, 3) := by decide +kernel
theorem dX11_read_40 : decode cX11_read 40 = .ok (.goto 7, 3) := by decide +kernel
theorem dX11_read_43 : decode cX11_read 43 = .ok (.bipush (-20), 2) := by decide +kernel
theorem dX11_read_45 : decode cX11_read 45 = .ok (.iload_n 1, 1) := by decide +kernel
theorem dX11_read_46 : decode cX11_read 46 = .ok (.isub, 1) := by decide +kernel
theorem dX11_read_47 : decode cX11_read 47 = .ok (.ireturn, 1) := by decide +kernel
theorem dX11_wordAt_0 : decode cX11_wordAt 0 = .ok (.iload_n 1, 1) := by decide +kernel
theorem dX11_wordAt_1 : decode cX11_wordAt 1 = .ok (.ifCond .lt 25, 3) := by decide +kernel
theorem dX11_wordAt_4 : decode cX11_wordAt 4 = .ok (.iload_n 1, 1) := by decide +kernel
theorem dX11_wordAt_5 : decode cX11_wordAt 5 = .ok (.aload_n 0, 1) := by decide +kernel
theorem dX11_wordAt_6 : decode cX11_wordAt 6 = .ok (.getfield 16, 3) := by decide +kernel
theorem dX11_wordAt_9 : decode cX11_wordAt 9 = .ok (.invokevirtual 104, 3) := by decide +kernel
theorem dX11_wordAt_12 : decode cX11_wordAt 12 = .ok (.if_icmp .ge 14, 3) := by decide +kernel
theorem dX11_wordAt_15 : decode cX11_wordAt 15 = .ok (.aload_n 0, 1) := by decide +kernel
theorem dX11_wordAt_16 : decode cX11_wordAt 16 = .ok (.getfield 16, 3) := by decide +kernel
theorem dX11_wordAt_19 : decode cX11_wordAt 19 = .ok (.iload_n 1, 1) := by decide +kernel
theorem dX11_wordAt_20 : decode cX11_wordAt 20 = .ok (.invokevirtual 119, 3) := by decide +kernel
theorem dX11_wordAt_23 : decode cX11_wordAt 23 = .ok (.goto 5, 3) := by decide +kernel
theorem dX11_wordAt_26 : decode cX11_wordAt 26 = .ok (.bipush (-9), 2) := by decide +kernel
theorem dX11_wordAt_28 : decode cX11_wordAt 28 = .ok (.ireturn, 1) := by decide +kernel
theorem dX11_readings_0 : decode cX11_readings 0 = .ok (.aload_n 0, 1) := by decide +kernel
theorem dX11_readings_1 : decode cX11_readings 1 = .ok (.getfield 25, 3) := by decide +kernel
theorem dX11_readings_4 : decode cX11_readings 4 = .ok (.iconst 0, 1) := by decide +kernel
theorem dX11_readings_5 : decode cX11_readings 5 = .ok (.aload_n 0, 1) := by decide +kernel
theorem dX11_readings_6 : decode cX11_readings 6 = .ok (.getfield 16, 3) := by decide +kernel
theorem dX11_readings_9 : decode cX11_readings 9 = .ok (.invokevirtual 104, 3) := by decide +kernel
theorem dX11_readings_12 : decode cX11_readings 12 = .ok (.invokevirtual 122, 3) := by decide +kernel
theorem dX11_readings_15 : decode cX11_readings 15 = .ok (.lreturn, 1) := by decide +kernel
theorem dX11_means_0 : decode cX11_means 0 = .ok (.aload_n 0, 1) := by decide +kernel
theorem dX11_means_1 : decode cX11_means 1 = .ok (.invokevirtual 126, 3) := by decide +kernel
theorem dX11_means_4 : decode cX11_means 4 = .ok (.ifCond .eq 11, 3) := by decide +kernel
theorem dX11_means_7 : decode cX11_means 7 = .ok (.aload_n 0, 1) := by decide +kernel
theorem dX11_means_8 : decode cX11_means 8 = .ok (.bipush (-5), 2) := by decide +kernel
theorem dX11_means_10 : decode cX11_means 10 = .ok (.invokevirtual 100, 3) := by decide +kernel
theorem dX11_means_13 : decode cX11_means 13 = .ok (.i2l, 1) := by decide +kernel
theorem dX11_means_14 : decode cX11_means 14 = .ok (.lreturn, 1) := by decide +kernel
theorem dX11_means_15 : decode cX11_means 15 = .ok (.aload_n 0, 1) := by decide +kernel
theorem dX11_means_16 : decode cX11_means 16 = .ok (.iload_n 1, 1) := by decide +kernel
theorem dX11_means_17 : decode cX11_means 17 = .ok (.invokevirtual 130, 3) := by decide +kernel
theorem dX11_means_20 : decode cX11_means 20 = .ok (.ifCond .eq 12, 3) := by decide +kernel
theorem dX11_means_23 : decode cX11_means 23 = .ok (.aload_n 0, 1) := by decide +kernel
theorem dX11_means_24 : decode cX11_means 24 = .ok (.iconst (-1), 1) := by decide +kernel
theorem dX11_means_25 : decode cX11_means 25 = .ok (.invokevirtual 100, 3) := by decide +kernel
theorem dX11_means_28 : decode cX11_means 28 = .ok (.i2l, 1) := by decide +kernel
theorem dX11_means_29 : decode cX11_means 29 = .ok (.goto 11, 3) := by decide +kernel
theorem dX11_means_32 : decode cX11_means 32 = .ok (.aload_n 0, 1) := by decide +kernel
theorem dX11_means_33 : decode cX11_means 33 = .ok (.getfield 39, 3) := by decide +kernel
theorem dX11_means_36 : decode cX11_means 36 = .ok (.iload_n 1, 1) := by decide +kernel
theorem dX11_means_37 : decode cX11_means 37 = .ok (.invokevirtual 148, 3) := by decide +kernel
theorem dX11_means_40 : decode cX11_means 40 = .ok (.lreturn, 1) := by decide +kernel
theorem dX11_all_0 : decode cX11_all 0 = .ok (.aload_n 0, 1) := by decide +kernel
theorem dX11_all_1 : decode cX11_all 1 = .ok (.invokevirtual 126, 3) := by decide +kernel
theorem dX11_all_4 : decode cX11_all 4 = .ok (.ifCond .eq 11, 3) := by decide +kernel
theorem dX11_all_7 : decode cX11_all 7 = .ok (.aload_n 0, 1) := by decide +kernel
theorem dX11_all_8 : decode cX11_all 8 = .ok (.bipush (-5), 2) := by decide +kernel
theorem dX11_all_10 : decode cX11_all 10 = .ok (.invokevirtual 100, 3) := by decide +kernel
theorem dX11_all_13 : decode cX11_all 13 = .ok (.i2l, 1) := by decide +kernel
theorem dX11_all_14 : decode cX11_all 14 = .ok (.lreturn, 1) := by decide +kernel
theorem dX11_all_15 : decode cX11_all 15 = .ok (.iload_n 1, 1) := by decide +kernel
theorem dX11_all_16 : decode cX11_all 16 = .ok (.ifCond .eq 13, 3) := by decide +kernel
theorem dX11_all_19 : decode cX11_all 19 = .ok (.aload_n 0, 1) := by decide +kernel
theorem dX11_all_20 : decode cX11_all 20 = .ok (.getfield 39, 3) := by decide +kernel
theorem dX11_all_23 : decode cX11_all 23 = .ok (.invokevirtual 162, 3) := by decide +kernel
theorem dX11_all_26 : decode cX11_all 26 = .ok (.goto 10, 3) := by decide +kernel
theorem dX11_all_29 : decode cX11_all 29 = .ok (.aload_n 0, 1) := by decide +kernel
theorem dX11_all_30 : decode cX11_all 30 = .ok (.getfield 39, 3) := by decide +kernel
theorem dX11_all_33 : decode cX11_all 33 = .ok (.invokevirtual 166, 3) := by decide +kernel
theorem dX11_all_36 : decode cX11_all 36 = .ok (.lreturn, 1) := by decide +kernel
theorem dX11_same_0 : decode cX11_same 0 = .ok (.aload_n 0, 1) := by decide +kernel
theorem dX11_same_1 : decode cX11_same 1 = .ok (.invokevirtual 126, 3) := by decide +kernel
theorem dX11_same_4 : decode cX11_same 4 = .ok (.ifCond .eq 10, 3) := by decide +kernel
theorem dX11_same_7 : decode cX11_same 7 = .ok (.aload_n 0, 1) := by decide +kernel
theorem dX11_same_8 : decode cX11_same 8 = .ok (.bipush (-5), 2) := by decide +kernel
theorem dX11_same_10 : decode cX11_same 10 = .ok (.invokevirtual 100, 3) := by decide +kernel
theorem dX11_same_13 : decode cX11_same 13 = .ok (.ireturn, 1) := by decide +kernel
theorem dX11_same_14 : decode cX11_same 14 = .ok (.aload_n 0, 1) := by decide +kernel
theorem dX11_same_15 : decode cX11_same 15 = .ok (.iload_n 1, 1) := by decide +kernel
theorem dX11_same_16 : decode cX11_same 16 = .ok (.invokevirtual 130, 3) := by decide +kernel
theorem dX11_same_19 : decode cX11_same 19 = .ok (.ifCond .ne 11, 3) := by decide +kernel
theorem dX11_same_22 : decode cX11_same 22 = .ok (.aload_n 0, 1) := by decide +kernel
theorem dX11_same_23 : decode cX11_same 23 = .ok (.iload_n 2, 1) := by decide +kernel
theorem dX11_same_24 : decode cX11_same 24 = .ok (.invokevirtual 130, 3) := by decide +kernel
theorem dX11_same_27 : decode cX11_same 27 = .ok (.ifCond .eq 9, 3) := by decide +kernel
theorem dX11_same_30 : decode cX11_same 30 = .ok (.aload_n 0, 1) := by decide +kernel
theorem dX11_same_31 : decode cX11_same 31 = .ok (.iconst (-1), 1) := by decide +kernel
theorem dX11_same_32 : decode cX11_same 32 = .ok (.invokevirtual 100, 3) := by decide +kernel
theorem dX11_same_35 : decode cX11_same 35 = .ok (.ireturn, 1) := by decide +kernel
theorem dX11_same_36 : decode cX11_same 36 = .ok (.aload_n 0, 1) := by decide +kernel
theorem dX11_same_37 : decode cX11_same 37 = .ok (.getfield 39, 3) := by decide +kernel
theorem dX11_same_40 : decode cX11_same 40 = .ok (.iload_n 1, 1) := by decide +kernel
theorem dX11_same_41 : decode cX11_same 41 = .ok (.invokevirtual 148, 3) := by decide +kernel
theorem dX11_same_44 : decode cX11_same 44 = .ok (.aload_n 0, 1) := by decide +kernel
theorem dX11_same_45 : decode cX11_same 45 = .ok (.getfield 39, 3) := by decide +kernel
theorem dX11_same_48 : decode cX11_same 48 = .ok (.iload_n 2, 1) := by decide +kernel
theorem dX11_same_49 : decode cX11_same 49 = .ok (.invokevirtual 148, 3) := by decide +kernel
theorem dX11_same_52 : decode cX11_same 52 = .ok (.lcmp, 1) := by decide +kernel
theorem dX11_same_53 : decode cX11_same 53 = .ok (.ifCond .ne 7, 3) := by decide +kernel
theorem dX11_same_56 : decode cX11_same 56 = .ok (.iconst 1, 1) := by decide +kernel
theorem dX11_same_57 : decode cX11_same 57 = .ok (.goto 4, 3) := by decide +kernel
theorem dX11_same_60 : decode cX11_same 60 = .ok (.iconst 0, 1) := by decide +kernel
theorem dX11_same_61 : decode cX11_same 61 = .ok (.ireturn, 1) := by decide +kernel
theorem dX11_unlike_0 : decode cX11_unlike 0 = .ok (.aload_n 0, 1) := by decide +kernel
theorem dX11_unlike_1 : decode cX11_unlike 1 = .ok (.invokevirtual 126, 3) := by decide +kernel
theorem dX11_unlike_4 : decode cX11_unlike 4 = .ok (.ifCond .eq 10, 3) := by decide +kernel
theorem dX11_unlike_7 : decode cX11_unlike 7 = .ok (.aload_n 0, 1) := by decide +kernel
theorem dX11_unlike_8 : decode cX11_unlike 8 = .ok (.bipush (-5), 2) := by decide +kernel
theorem dX11_unlike_10 : decode cX11_unlike 10 = .ok (.invokevirtual 100, 3) := by decide +kernel
theorem dX11_unlike_13 : decode cX11_unlike 13 = .ok (.ireturn, 1) := by decide +kernel
theorem dX11_unlike_14 : decode cX11_unlike 14 = .ok (.aload_n 0, 1) := by decide +kernel
theorem dX11_unlike_15 : decode cX11_unlike 15 = .ok (.getfield 46, 3) := by decide +kernel
theorem dX11_unlike_18 : decode cX11_unlike 18 = .ok (.aload_n 0, 1) := by decide +kernel
theorem dX11_unlike_19 : decode cX11_unlike 19 = .ok (.getfield 39, 3) := by decide +kernel
theorem dX11_unlike_22 : decode cX11_unlike 22 = .ok (.invokevirtual 169, 3) := by decide +kernel
theorem dX11_unlike_25 : decode cX11_unlike 25 = .ok (.aload_n 0, 1) := by decide +kernel
theorem dX11_unlike_26 : decode cX11_unlike 26 = .ok (.getfield 46, 3) := by decide +kernel
theorem dX11_unlike_29 : decode cX11_unlike 29 = .ok (.invokevirtual 173, 3) := by decide +kernel
theorem dX11_unlike_32 : decode cX11_unlike 32 = .ok (.ireturn, 1) := by decide +kernel
theorem dX11_part_0 : decode cX11_part 0 = .ok (.aload_n 0, 1) := by decide +kernel
theorem dX11_part_1 : decode cX11_part 1 = .ok (.invokevirtual 126, 3) := by decide +kernel
theorem dX11_part_4 : decode cX11_part 4 = .ok (.ifCond .eq 10, 3) := by decide +kernel
theorem dX11_part_7 : decode cX11_part 7 = .ok (.aload_n 0, 1) := by decide +kernel
theorem dX11_part_8 : decode cX11_part 8 = .ok (.bipush (-5), 2) := by decide +kernel
theorem dX11_part_10 : decode cX11_part 10 = .ok (.invokevirtual 100, 3) := by decide +kernel
theorem dX11_part_13 : decode cX11_part 13 = .ok (.ireturn, 1) := by decide +kernel
theorem dX11_part_14 : decode cX11_part 14 = .ok (.aload_n 0, 1) := by decide +kernel
theorem dX11_part_15 : decode cX11_part 15 = .ok (.iload_n 1, 1) := by decide +kernel
theorem dX11_part_16 : decode cX11_part 16 = .ok (.invokevirtual 130, 3) := by decide +kernel
theorem dX11_part_19 : decode cX11_part 19 = .ok (.ifCond .ne 11, 3) := by decide +kernel
theorem dX11_part_22 : decode cX11_part 22 = .ok (.aload_n 0, 1) := by decide +kernel
theorem dX11_part_23 : decode cX11_part 23 = .ok (.iload_n 2, 1) := by decide +kernel
theorem dX11_part_24 : decode cX11_part 24 = .ok (.invokevirtual 130, 3) := by decide +kernel
theorem dX11_part_27 : decode cX11_part 27 = .ok (.ifCond .eq 9, 3) := by decide +kernel
theorem dX11_part_30 : decode cX11_part 30 = .ok (.aload_n 0, 1) := by decide +kernel
theorem dX11_part_31 : decode cX11_part 31 = .ok (.iconst (-1), 1) := by decide +kernel
theorem dX11_part_32 : decode cX11_part 32 = .ok (.invokevirtual 100, 3) := by decide +kernel
theorem dX11_part_35 : decode cX11_part 35 = .ok (.ireturn, 1) := by decide +kernel
theorem dX11_part_36 : decode cX11_part 36 = .ok (.aload_n 0, 1) := by decide +kernel
theorem dX11_part_37 : decode cX11_part 37 = .ok (.getfield 39, 3) := by decide +kernel
theorem dX11_part_40 : decode cX11_part 40 = .ok (.iload_n 1, 1) := by decide +kernel
theorem dX11_part_41 : decode cX11_part 41 = .ok (.invokevirtual 148, 3) := by decide +kernel
theorem dX11_part_44 : decode cX11_part 44 = .ok (.aload_n 0, 1) := by decide +kernel
theorem dX11_part_45 : decode cX11_part 45 = .ok (.getfield 39, 3) := by decide +kernel
theorem dX11_part_48 : decode cX11_part 48 = .ok (.iload_n 2, 1) := by decide +kernel
theorem dX11_part_49 : decode cX11_part 49 = .ok (.invokevirtual 148, 3) := by decide +kernel
theorem dX11_part_52 : decode cX11_part 52 = .ok (.lxor, 1) := by decide +kernel
theorem dX11_part_53 : decode cX11_part 53 = .ok (.invokestatic 174, 3) := by decide +kernel
theorem dX11_part_56 : decode cX11_part 56 = .ok (.ireturn, 1) := by decide +kernel
theorem dX11_idle_0 : decode cX11_idle 0 = .ok (.aload_n 0, 1) := by decide +kernel
theorem dX11_idle_1 : decode cX11_idle 1 = .ok (.invokevirtual 126, 3) := by decide +kernel
theorem dX11_idle_4 : decode cX11_idle 4 = .ok (.ifCond .eq 10, 3) := by decide +kernel
theorem dX11_idle_7 : decode cX11_idle 7 = .ok (.aload_n 0, 1) := by decide +kernel
theorem dX11_idle_8 : decode cX11_idle 8 = .ok (.bipush (-5), 2) := by decide +kernel
theorem dX11_idle_10 : decode cX11_idle 10 = .ok (.invokevirtual 100, 3) := by decide +kernel
theorem dX11_idle_13 : decode cX11_idle 13 = .ok (.ireturn, 1) := by decide +kernel
theorem dX11_idle_14 : decode cX11_idle 14 = .ok (.aload_n 0, 1) := by decide +kernel
theorem dX11_idle_15 : decode cX11_idle 15 = .ok (.iload_n 1, 1) := by decide +kernel
theorem dX11_idle_16 : decode cX11_idle 16 = .ok (.invokevirtual 130, 3) := by decide +kernel
theorem dX11_idle_19 : decode cX11_idle 19 = .ok (.ifCond .eq 11, 3) := by decide +kernel
theorem dX11_idle_22 : decode cX11_idle 22 = .ok (.aload_n 0, 1) := by decide +kernel
theorem dX11_idle_23 : decode cX11_idle 23 = .ok (.iconst (-1), 1) := by decide +kernel
theorem dX11_idle_24 : decode cX11_idle 24 = .ok (.invokevirtual 100, 3) := by decide +kernel
theorem dX11_idle_27 : decode cX11_idle 27 = .ok (.goto 11, 3) := by decide +kernel
theorem dX11_idle_30 : decode cX11_idle 30 = .ok (.aload_n 0, 1) := by decide +kernel
theorem dX11_idle_31 : decode cX11_idle 31 = .ok (.getfield 39, 3) := by decide +kernel
theorem dX11_idle_34 : decode cX11_idle 34 = .ok (.iload_n 1, 1) := by decide +kernel
theorem dX11_idle_35 : decode cX11_idle 35 = .ok (.invokevirtual 178, 3) := by decide +kernel
theorem dX11_idle_38 : decode cX11_idle 38 = .ok (.ireturn, 1) := by decide +kernel
theorem dX11_needless_0 : decode cX11_needless 0 = .ok (.aload_n 0, 1) := by decide +kernel
theorem dX11_needless_1 : decode cX11_needless 1 = .ok (.invokevirtual 126, 3) := by decide +kernel
theorem dX11_needless_4 : decode cX11_needless 4 = .ok (.ifCond .eq 12, 3) := by decide +kernel
theorem dX11_needless_7 : decode cX11_needless 7 = .ok (.aload_n 0, 1) := by decide +kernel
theorem dX11_needless_8 : decode cX11_needless 8 = .ok (.bipush (-5), 2) := by decide +kernel
theorem dX11_needless_10 : decode cX11_needless 10 = .ok (.invokevirtual 100, 3) := by decide +kernel
theorem dX11_needless_13 : decode cX11_needless 13 = .ok (.goto 10, 3) := by decide +kernel
theorem dX11_needless_16 : decode cX11_needless 16 = .ok (.aload_n 0, 1) := by decide +kernel
theorem dX11_needless_17 : decode cX11_needless 17 = .ok (.getfield 39, 3) := by decide +kernel
theorem dX11_needless_20 : decode cX11_needless 20 = .ok (.invokevirtual 181, 3) := by decide +kernel
theorem dX11_needless_23 : decode cX11_needless 23 = .ok (.ireturn, 1) := by decide +kernel
theorem dX11_choose_0 : decode cX11_choose 0 = .ok (.iload_n 1, 1) := by decide +kernel
theorem dX11_choose_1 : decode cX11_choose 1 = .ok (.invokestatic 184, 3) := by decide +kernel
theorem dX11_choose_4 : decode cX11_choose 4 = .ok (.ifCond .eq 9, 3) := by decide +kernel
theorem dX11_choose_7 : decode cX11_choose 7 = .ok (.aload_n 0, 1) := by decide +kernel
theorem dX11_choose_8 : decode cX11_choose 8 = .ok (.iconst (-1), 1) := by decide +kernel
theorem dX11_choose_9 : decode cX11_choose 9 = .ok (.invokevirtual 100, 3) := by decide +kernel
theorem dX11_choose_12 : decode cX11_choose 12 = .ok (.ireturn, 1) := by decide +kernel
theorem dX11_choose_13 : decode cX11_choose 13 = .ok (.aload_n 0, 1) := by decide +kernel
theorem dX11_choose_14 : decode cX11_choose 14 = .ok (.getfield 53, 3) := by decide +kernel
theorem dX11_choose_17 : decode cX11_choose 17 = .ok (.iload_n 1, 1) := by decide +kernel
theorem dX11_choose_18 : decode cX11_choose 18 = .ok (.invokevirtual 191, 3) := by decide +kernel
theorem dX11_choose_21 : decode cX11_choose 21 = .ok (.ifCond .eq 10, 3) := by decide +kernel
theorem dX11_choose_24 : decode cX11_choose 24 = .ok (.aload_n 0, 1) := by decide +kernel
theorem dX11_choose_25 : decode cX11_choose 25 = .ok (.bipush (-3), 2) := by decide +kernel
theorem dX11_choose_27 : decode cX11_choose 27 = .ok (.invokevirtual 100, 3) := by decide +kernel
theorem dX11_choose_30 : decode cX11_choose 30 = .ok (.ireturn, 1) := by decide +kernel
theorem dX11_choose_31 : decode cX11_choose 31 = .ok (.aload_n 0, 1) := by decide +kernel
theorem dX11_choose_32 : decode cX11_choose 32 = .ok (.getfield 53, 3) := by decide +kernel
theorem dX11_choose_35 : decode cX11_choose 35 = .ok (.iload_n 1, 1) := by decide +kernel
theorem dX11_choose_36 : decode cX11_choose 36 = .ok (.invokevirtual 194, 3) := by decide +kernel
theorem dX11_choose_39 : decode cX11_choose 39 = .ok (.aload_n 0, 1) := by decide +kernel
theorem dX11_choose_40 : decode cX11_choose 40 = .ok (.getfield 53, 3) := by decide +kernel
theorem dX11_choose_43 : decode cX11_choose 43 = .ok (.invokevirtual 195, 3) := by decide +kernel
theorem dX11_choose_46 : decode cX11_choose 46 = .ok (.ireturn, 1) := by decide +kernel
theorem dX11_unchoose_0 : decode cX11_unchoose 0 = .ok (.aload_n 0, 1) := by decide +kernel
theorem dX11_unchoose_1 : decode cX11_unchoose 1 = .ok (.getfield 53, 3) := by decide +kernel
theorem dX11_unchoose_4 : decode cX11_unchoose 4 = .ok (.invokevirtual 195, 3) := by decide +kernel
theorem dX11_unchoose_7 : decode cX11_unchoose 7 = .ok (.istore_n 1, 1) := by decide +kernel
theorem dX11_unchoose_8 : decode cX11_unchoose 8 = .ok (.aload_n 0, 1) := by decide +kernel
theorem dX11_unchoose_9 : decode cX11_unchoose 9 = .ok (.getfield 53, 3) := by decide +kernel
theorem dX11_unchoose_12 : decode cX11_unchoose 12 = .ok (.invokevirtual 196, 3) := by decide +kernel
theorem dX11_unchoose_15 : decode cX11_unchoose 15 = .ok (.iload_n 1, 1) := by decide +kernel
theorem dX11_unchoose_16 : decode cX11_unchoose 16 = .ok (.ireturn, 1) := by decide +kernel
theorem dX11_leftOver_0 : decode cX11_leftOver 0 = .ok (.aload_n 0, 1) := by decide +kernel
theorem dX11_leftOver_1 : decode cX11_leftOver 1 = .ok (.invokevirtual 126, 3) := by decide +kernel
theorem dX11_leftOver_4 : decode cX11_leftOver 4 = .ok (.ifCond .eq 10, 3) := by decide +kernel
theorem dX11_leftOver_7 : decode cX11_leftOver 7 = .ok (.aload_n 0, 1) := by decide +kernel
theorem dX11_leftOver_8 : decode cX11_leftOver 8 = .ok (.bipush (-5), 2) := by decide +kernel
theorem dX11_leftOver_10 : decode cX11_leftOver 10 = .ok (.invokevirtual 100, 3) := by decide +kernel
theorem dX11_leftOver_13 : decode cX11_leftOver 13 = .ok (.ireturn, 1) := by decide +kernel
theorem dX11_leftOver_14 : decode cX11_leftOver 14 = .ok (.iload_n 1, 1) := by decide +kernel
theorem dX11_leftOver_15 : decode cX11_leftOver 15 = .ok (.iconst (-1), 1) := by decide +kernel
theorem dX11_leftOver_16 : decode cX11_leftOver 16 = .ok (.if_icmp .ge 9, 3) := by decide +kernel
theorem dX11_leftOver_19 : decode cX11_leftOver 19 = .ok (.aload_n 0, 1) := by decide +kernel
theorem dX11_leftOver_20 : decode cX11_leftOver 20 = .ok (.iconst (-1), 1) := by decide +kernel
theorem dX11_leftOver_21 : decode cX11_leftOver 21 = .ok (.invokevirtual 100, 3) := by decide +kernel
theorem dX11_leftOver_24 : decode cX11_leftOver 24 = .ok (.ireturn, 1) := by decide +kernel
theorem dX11_leftOver_25 : decode cX11_leftOver 25 = .ok (.aload_n 0, 1) := by decide +kernel
theorem dX11_leftOver_26 : decode cX11_leftOver 26 = .ok (.getfield 60, 3) := by decide +kernel
theorem dX11_leftOver_29 : decode cX11_leftOver 29 = .ok (.aload_n 0, 1) := by decide +kernel
theorem dX11_leftOver_30 : decode cX11_leftOver 30 = .ok (.getfield 39, 3) := by decide +kernel
theorem dX11_leftOver_33 : decode cX11_leftOver 33 = .ok (.aload_n 0, 1) := by decide +kernel
theorem dX11_leftOver_34 : decode cX11_leftOver 34 = .ok (.getfield 53, 3) := by decide +kernel
theorem dX11_leftOver_37 : decode cX11_leftOver 37 = .ok (.iconst (-1), 1) := by decide +kernel
theorem dX11_leftOver_38 : decode cX11_leftOver 38 = .ok (.invokevirtual 197, 3) := by decide +kernel
theorem dX11_leftOver_41 : decode cX11_leftOver 41 = .ok (.iload_n 1, 1) := by decide +kernel
theorem dX11_leftOver_42 : decode cX11_leftOver 42 = .ok (.iconst (-1), 1) := by decide +kernel
theorem dX11_leftOver_43 : decode cX11_leftOver 43 = .ok (.if_icmp .ne 11, 3) := by decide +kernel
theorem dX11_leftOver_46 : decode cX11_leftOver 46 = .ok (.aload_n 0, 1) := by decide +kernel
theorem dX11_leftOver_47 : decode cX11_leftOver 47 = .ok (.getfield 60, 3) := by decide +kernel
theorem dX11_leftOver_50 : decode cX11_leftOver 50 = .ok (.invokevirtual 201, 3) := by decide +kernel
theorem dX11_leftOver_53 : decode cX11_leftOver 53 = .ok (.ireturn, 1) := by decide +kernel
theorem dX11_leftOver_54 : decode cX11_leftOver 54 = .ok (.iload_n 1, 1) := by decide +kernel
theorem dX11_leftOver_55 : decode cX11_leftOver 55 = .ok (.aload_n 0, 1) := by decide +kernel
theorem dX11_leftOver_56 : decode cX11_leftOver 56 = .ok (.getfield 60, 3) := by decide +kernel
theorem dX11_leftOver_59 : decode cX11_leftOver 59 = .ok (.invokevirtual 201, 3) := by decide +kernel
theorem dX11_leftOver_62 : decode cX11_leftOver 62 = .ok (.if_icmp .ge 14, 3) := by decide +kernel
theorem dX11_leftOver_65 : decode cX11_leftOver 65 = .ok (.aload_n 0, 1) := by decide +kernel
theorem dX11_leftOver_66 : decode cX11_leftOver 66 = .ok (.getfield 60, 3) := by decide +kernel
theorem dX11_leftOver_69 : decode cX11_leftOver 69 = .ok (.iload_n 1, 1) := by decide +kernel
theorem dX11_leftOver_70 : decode cX11_leftOver 70 = .ok (.invokevirtual 202, 3) := by decide +kernel
theorem dX11_leftOver_73 : decode cX11_leftOver 73 = .ok (.goto 5, 3) := by decide +kernel
theorem dX11_leftOver_76 : decode cX11_leftOver 76 = .ok (.bipush (-9), 2) := by decide +kernel
theorem dX11_leftOver_78 : decode cX11_leftOver 78 = .ok (.ireturn, 1) := by decide +kernel
theorem dX11_passedOver_0 : decode cX11_passedOver 0 = .ok (.aload_n 0, 1) := by decide +kernel
theorem dX11_passedOver_1 : decode cX11_passedOver 1 = .ok (.invokevirtual 126, 3) := by decide +kernel
theorem dX11_passedOver_4 : decode cX11_passedOver 4 = .ok (.ifCond .eq 10, 3) := by decide +kernel
theorem dX11_passedOver_7 : decode cX11_passedOver 7 = .ok (.aload_n 0, 1) := by decide +kernel
theorem dX11_passedOver_8 : decode cX11_passedOver 8 = .ok (.bipush (-5), 2) := by decide +kernel
theorem dX11_passedOver_10 : decode cX11_passedOver 10 = .ok (.invokevirtual 100, 3) := by decide +kernel
theorem dX11_passedOver_13 : decode cX11_passedOver 13 = .ok (.ireturn, 1) := by decide +kernel
theorem dX11_passedOver_14 : decode cX11_passedOver 14 = .ok (.aload_n 0, 1) := by decide +kernel
theorem dX11_passedOver_15 : decode cX11_passedOver 15 = .ok (.getfield 60, 3) := by decide +kernel
theorem dX11_passedOver_18 : decode cX11_passedOver 18 = .ok (.aload_n 0, 1) := by decide +kernel
theorem dX11_passedOver_19 : decode cX11_passedOver 19 = .ok (.getfield 39, 3) := by decide +kernel
theorem dX11_passedOver_22 : decode cX11_passedOver 22 = .ok (.aload_n 0, 1) := by decide +kernel
theorem dX11_passedOver_23 : decode cX11_passedOver 23 = .ok (.getfield 53, 3) := by decide +kernel
theorem dX11_passedOver_26 : decode cX11_passedOver 26 = .ok (.iconst (-1), 1) := by decide +kernel
theorem dX11_passedOver_27 : decode cX11_passedOver 27 = .ok (.invokevirtual 197, 3) := by decide +kernel
theorem dX11_passedOver_30 : decode cX11_passedOver 30 = .ok (.aload_n 0, 1) := by decide +kernel
theorem dX11_passedOver_31 : decode cX11_passedOver 31 = .ok (.getfield 60, 3) := by decide +kernel
theorem dX11_passedOver_34 : decode cX11_passedOver 34 = .ok (.invokevirtual 203, 3) := by decide +kernel
theorem dX11_passedOver_37 : decode cX11_passedOver 37 = .ok (.ireturn, 1) := by decide +kernel
theorem dX11_hangs_0 : decode cX11_hangs 0 = .ok (.aload_n 0, 1) := by decide +kernel
theorem dX11_hangs_1 : decode cX11_hangs 1 = .ok (.invokevirtual 126, 3) := by decide +kernel
theorem dX11_hangs_4 : decode cX11_hangs 4 = .ok (.ifCond .eq 10, 3) := by decide +kernel
theorem dX11_hangs_7 : decode cX11_hangs 7 = .ok (.aload_n 0, 1) := by decide +kernel
theorem dX11_hangs_8 : decode cX11_hangs 8 = .ok (.bipush (-5), 2) := by decide +kernel
theorem dX11_hangs_10 : decode cX11_hangs 10 = .ok (.invokevirtual 100, 3) := by decide +kernel
theorem dX11_hangs_13 : decode cX11_hangs 13 = .ok (.ireturn, 1) := by decide +kernel
theorem dX11_hangs_14 : decode cX11_hangs 14 = .ok (.aload_n 0, 1) := by decide +kernel
theorem dX11_hangs_15 : decode cX11_hangs 15 = .ok (.getfield 60, 3) := by decide +kernel
theorem dX11_hangs_18 : decode cX11_hangs 18 = .ok (.aload_n 0, 1) := by decide +kernel
theorem dX11_hangs_19 : decode cX11_hangs 19 = .ok (.getfield 39, 3) := by decide +kernel
theorem dX11_hangs_22 : decode cX11_hangs 22 = .ok (.aload_n 0, 1) := by decide +kernel
theorem dX11_hangs_23 : decode cX11_hangs 23 = .ok (.getfield 53, 3) := by decide +kernel
theorem dX11_hangs_26 : decode cX11_hangs 26 = .ok (.iconst (-1), 1) := by decide +kernel
theorem dX11_hangs_27 : decode cX11_hangs 27 = .ok (.invokevirtual 197, 3) := by decide +kernel
theorem dX11_hangs_30 : decode cX11_hangs 30 = .ok (.iconst 0, 1) := by decide +kernel
theorem dX11_hangs_31 : decode cX11_hangs 31 = .ok (.istore_n 1, 1) := by decide +kernel
theorem dX11_hangs_32 : decode cX11_hangs 32 = .ok (.iconst 0, 1) := by decide +kernel
theorem dX11_hangs_33 : decode cX11_hangs 33 = .ok (.istore_n 2, 1) := by decide +kernel
theorem dX11_hangs_34 : decode cX11_hangs 34 = .ok (.iload_n 2, 1) := by decide +kernel
theorem dX11_hangs_35 : decode cX11_hangs 35 = .ok (.bipush 6, 2) := by decide +kernel
theorem dX11_hangs_37 : decode cX11_hangs 37 = .ok (.if_icmp .ge 56, 3) := by decide +kernel
theorem dX11_hangs_40 : decode cX11_hangs 40 = .ok (.aload_n 0, 1) := by decide +kernel
theorem dX11_hangs_41 : decode cX11_hangs 41 = .ok (.getfield 53, 3) := by decide +kernel
theorem dX11_hangs_44 : decode cX11_hangs 44 = .ok (.iload_n 2, 1) := by decide +kernel
theorem dX11_hangs_45 : decode cX11_hangs 45 = .ok (.invokevirtual 191, 3) := by decide +kernel
theorem dX11_hangs_48 : decode cX11_hangs 48 = .ok (.ifCond .eq 39, 3) := by decide +kernel
theorem dX11_hangs_51 : decode cX11_hangs 51 = .ok (.aload_n 0, 1) := by decide +kernel
theorem dX11_hangs_52 : decode cX11_hangs 52 = .ok (.getfield 64, 3) := by decide +kernel
theorem dX11_hangs_55 : decode cX11_hangs 55 = .ok (.aload_n 0, 1) := by decide +kernel
theorem dX11_hangs_56 : decode cX11_hangs 56 = .ok (.getfield 39, 3) := by decide +kernel
theorem dX11_hangs_59 : decode cX11_hangs 59 = .ok (.aload_n 0, 1) := by decide +kernel
theorem dX11_hangs_60 : decode cX11_hangs 60 = .ok (.getfield 53, 3) := by decide +kernel
theorem dX11_hangs_63 : decode cX11_hangs 63 = .ok (.iload_n 2, 1) := by decide +kernel
theorem dX11_hangs_64 : decode cX11_hangs 64 = .ok (.invokevirtual 197, 3) := by decide +kernel
theorem dX11_hangs_67 : decode cX11_hangs 67 = .ok (.aload_n 0, 1) := by decide +kernel
theorem dX11_hangs_68 : decode cX11_hangs 68 = .ok (.getfield 60, 3) := by decide +kernel
theorem dX11_hangs_71 : decode cX11_hangs 71 = .ok (.aload_n 0, 1) := by decide +kernel
theorem dX11_hangs_72 : decode cX11_hangs 72 = .ok (.getfield 64, 3) := by decide +kernel
theorem dX11_hangs_75 : decode cX11_hangs 75 = .ok (.invokevirtual 209, 3) := by decide +kernel
theorem dX11_hangs_78 : decode cX11_hangs 78 = .ok (.ifCond .ne 9, 3) := by decide +kernel
theorem dX11_hangs_81 : decode cX11_hangs 81 = .ok (.iload_n 1, 1) := by decide +kernel
theorem dX11_hangs_82 : decode cX11_hangs 82 = .ok (.iconst 1, 1) := by decide +kernel
theorem dX11_hangs_83 : decode cX11_hangs 83 = .ok (.iload_n 2, 1) := by decide +kernel
theorem dX11_hangs_84 : decode cX11_hangs 84 = .ok (.ishl, 1) := by decide +kernel
theorem dX11_hangs_85 : decode cX11_hangs 85 = .ok (.ior, 1) := by decide +kernel
theorem dX11_hangs_86 : decode cX11_hangs 86 = .ok (.istore_n 1, 1) := by decide +kernel
theorem dX11_hangs_87 : decode cX11_hangs 87 = .ok (.iinc 2 1, 3) := by decide +kernel
theorem dX11_hangs_90 : decode cX11_hangs 90 = .ok (.goto (-56), 3) := by decide +kernel
theorem dX11_hangs_93 : decode cX11_hangs 93 = .ok (.iload_n 1, 1) := by decide +kernel
theorem dX11_hangs_94 : decode cX11_hangs 94 = .ok (.ireturn, 1) := by decide +kernel
theorem dX11_test_0 : decode cX11_test 0 = .ok (.aload_n 0, 1) := by decide +kernel
theorem dX11_test_1 : decode cX11_test 1 = .ok (.invokevirtual 126, 3) := by decide +kernel
theorem dX11_test_4 : decode cX11_test 4 = .ok (.ifCond .eq 12, 3) := by decide +kernel
theorem dX11_test_7 : decode cX11_test 7 = .ok (.aload_n 0, 1) := by decide +kernel
theorem dX11_test_8 : decode cX11_test 8 = .ok (.bipush (-5), 2) := by decide +kernel
theorem dX11_test_10 : decode cX11_test 10 = .ok (.invokevirtual 100, 3) := by decide +kernel
theorem dX11_test_13 : decode cX11_test 13 = .ok (.goto 10, 3) := by decide +kernel
theorem dX11_test_16 : decode cX11_test 16 = .ok (.aload_n 0, 1) := by decide +kernel
theorem dX11_test_17 : decode cX11_test 17 = .ok (.getfield 39, 3) := by decide +kernel
theorem dX11_test_20 : decode cX11_test 20 = .ok (.invokevirtual 213, 3) := by decide +kernel
theorem dX11_test_23 : decode cX11_test 23 = .ok (.ireturn, 1) := by decide +kernel
theorem dX11_fewest_0 : decode cX11_fewest 0 = .ok (.aload_n 0, 1) := by decide +kernel
theorem dX11_fewest_1 : decode cX11_fewest 1 = .ok (.invokevirtual 126, 3) := by decide +kernel
theorem dX11_fewest_4 : decode cX11_fewest 4 = .ok (.ifCond .eq 10, 3) := by decide +kernel
theorem dX11_fewest_7 : decode cX11_fewest 7 = .ok (.aload_n 0, 1) := by decide +kernel
theorem dX11_fewest_8 : decode cX11_fewest 8 = .ok (.bipush (-5), 2) := by decide +kernel
theorem dX11_fewest_10 : decode cX11_fewest 10 = .ok (.invokevirtual 100, 3) := by decide +kernel
theorem dX11_fewest_13 : decode cX11_fewest 13 = .ok (.ireturn, 1) := by decide +kernel
theorem dX11_fewest_14 : decode cX11_fewest 14 = .ok (.aload_n 0, 1) := by decide +kernel
theorem dX11_fewest_15 : decode cX11_fewest 15 = .ok (.getfield 46, 3) := by decide +kernel
theorem dX11_fewest_18 : decode cX11_fewest 18 = .ok (.aload_n 0, 1) := by decide +kernel
theorem dX11_fewest_19 : decode cX11_fewest 19 = .ok (.getfield 39, 3) := by decide +kernel
theorem dX11_fewest_22 : decode cX11_fewest 22 = .ok (.invokevirtual 169, 3) := by decide +kernel
theorem dX11_fewest_25 : decode cX11_fewest 25 = .ok (.aload_n 0, 1) := by decide +kernel
theorem dX11_fewest_26 : decode cX11_fewest 26 = .ok (.getfield 46, 3) := by decide +kernel
theorem dX11_fewest_29 : decode cX11_fewest 29 = .ok (.invokevirtual 216, 3) := by decide +kernel
theorem dX11_fewest_32 : decode cX11_fewest 32 = .ok (.ireturn, 1) := by decide +kernel
theorem dX11_bracket_0 : decode cX11_bracket 0 = .ok (.iload_n 1, 1) := by decide +kernel
theorem dX11_bracket_1 : decode cX11_bracket 1 = .ok (.ifCond .lt 19, 3) := by decide +kernel
theorem dX11_bracket_4 : decode cX11_bracket 4 = .ok (.iload_n 2, 1) := by decide +kernel
theorem dX11_bracket_5 : decode cX11_bracket 5 = .ok (.iload_n 1, 1) := by decide +kernel
theorem dX11_bracket_6 : decode cX11_bracket 6 = .ok (.if_icmp .lt 14, 3) := by decide +kernel
theorem dX11_bracket_9 : decode cX11_bracket 9 = .ok (.iload_n 2, 1) := by decide +kernel
theorem dX11_bracket_10 : decode cX11_bracket 10 = .ok (.aload_n 0, 1) := by decide +kernel
theorem dX11_bracket_11 : decode cX11_bracket 11 = .ok (.getfield 16, 3) := by decide +kernel
theorem dX11_bracket_14 : decode cX11_bracket 14 = .ok (.invokevirtual 104, 3) := by decide +kernel
theorem dX11_bracket_17 : decode cX11_bracket 17 = .ok (.if_icmp .lt 9, 3) := by decide +kernel
theorem dX11_bracket_20 : decode cX11_bracket 20 = .ok (.aload_n 0, 1) := by decide +kernel
theorem dX11_bracket_21 : decode cX11_bracket 21 = .ok (.iconst (-1), 1) := by decide +kernel
theorem dX11_bracket_22 : decode cX11_bracket 22 = .ok (.invokevirtual 100, 3) := by decide +kernel
theorem dX11_bracket_25 : decode cX11_bracket 25 = .ok (.ireturn, 1) := by decide +kernel
theorem dX11_bracket_26 : decode cX11_bracket 26 = .ok (.aload_n 0, 1) := by decide +kernel
theorem dX11_bracket_27 : decode cX11_bracket 27 = .ok (.getfield 16, 3) := by decide +kernel
theorem dX11_bracket_30 : decode cX11_bracket 30 = .ok (.invokevirtual 104, 3) := by decide +kernel
theorem dX11_bracket_33 : decode cX11_bracket 33 = .ok (.iconst 2, 1) := by decide +kernel
theorem dX11_bracket_34 : decode cX11_bracket 34 = .ok (.iadd, 1) := by decide +kernel
theorem dX11_bracket_35 : decode cX11_bracket 35 = .ok (.bipush 21, 2) := by decide +kernel
theorem dX11_bracket_37 : decode cX11_bracket 37 = .ok (.if_icmp .le 10, 3) := by decide +kernel
theorem dX11_bracket_40 : decode cX11_bracket 40 = .ok (.aload_n 0, 1) := by decide +kernel
theorem dX11_bracket_41 : decode cX11_bracket 41 = .ok (.bipush (-6), 2) := by decide +kernel
theorem dX11_bracket_43 : decode cX11_bracket 43 = .ok (.invokevirtual 100, 3) := by decide +kernel
theorem dX11_bracket_46 : decode cX11_bracket 46 = .ok (.ireturn, 1) := by decide +kernel
theorem dX11_bracket_47 : decode cX11_bracket 47 = .ok (.aload_n 0, 1) := by decide +kernel
theorem dX11_bracket_48 : decode cX11_bracket 48 = .ok (.getfield 19, 3) := by decide +kernel
theorem dX11_bracket_51 : decode cX11_bracket 51 = .ok (.aload_n 0, 1) := by decide +kernel
theorem dX11_bracket_52 : decode cX11_bracket 52 = .ok (.getfield 16, 3) := by decide +kernel
theorem dX11_bracket_55 : decode cX11_bracket 55 = .ok (.iload_n 1, 1) := by decide +kernel
theorem dX11_bracket_56 : decode cX11_bracket 56 = .ok (.iload_n 2, 1) := by decide +kernel
theorem dX11_bracket_57 : decode cX11_bracket 57 = .ok (.invokevirtual 219, 3) := by decide +kernel
theorem dX11_bracket_60 : decode cX11_bracket 60 = .ok (.aload_n 0, 1) := by decide +kernel
theorem dX11_bracket_61 : decode cX11_bracket 61 = .ok (.getfield 19, 3) := by decide +kernel
theorem dX11_bracket_64 : decode cX11_bracket 64 = .ok (.invokevirtual 223, 3) := by decide +kernel
theorem dX11_bracket_67 : decode cX11_bracket 67 = .ok (.iconst 4, 1) := by decide +kernel
theorem dX11_bracket_68 : decode cX11_bracket 68 = .ok (.if_icmp .le 10, 3) := by decide +kernel
theorem dX11_bracket_71 : decode cX11_bracket 71 = .ok (.aload_n 0, 1) := by decide +kernel
theorem dX11_bracket_72 : decode cX11_bracket 72 = .ok (.bipush (-6), 2) := by decide +kernel
theorem dX11_bracket_74 : decode cX11_bracket 74 = .ok (.invokevirtual 100, 3) := by decide +kernel
theorem dX11_bracket_77 : decode cX11_bracket 77 = .ok (.ireturn, 1) := by decide +kernel
theorem dX11_bracket_78 : decode cX11_bracket 78 = .ok (.aload_n 0, 1) := by decide +kernel
theorem dX11_bracket_79 : decode cX11_bracket 79 = .ok (.getfield 19, 3) := by decide +kernel
theorem dX11_bracket_82 : decode cX11_bracket 82 = .ok (.invokevirtual 110, 3) := by decide +kernel
theorem dX11_bracket_85 : decode cX11_bracket 85 = .ok (.iconst (-1), 1) := by decide +kernel
theorem dX11_bracket_86 : decode cX11_bracket 86 = .ok (.if_icmp .eq 10, 3) := by decide +kernel
theorem dX11_bracket_89 : decode cX11_bracket 89 = .ok (.aload_n 0, 1) := by decide +kernel
theorem dX11_bracket_90 : decode cX11_bracket 90 = .ok (.bipush (-3), 2) := by decide +kernel
theorem dX11_bracket_92 : decode cX11_bracket 92 = .ok (.invokevirtual 100, 3) := by decide +kernel
theorem dX11_bracket_95 : decode cX11_bracket 95 = .ok (.ireturn, 1) := by decide +kernel
theorem dX11_bracket_96 : decode cX11_bracket 96 = .ok (.aload_n 0, 1) := by decide +kernel
theorem dX11_bracket_97 : decode cX11_bracket 97 = .ok (.aload_n 0, 1) := by decide +kernel
theorem dX11_bracket_98 : decode cX11_bracket 98 = .ok (.getfield 19, 3) := by decide +kernel
theorem dX11_bracket_101 : decode cX11_bracket 101 = .ok (.invokevirtual 113, 3) := by decide +kernel
theorem dX11_bracket_104 : decode cX11_bracket 104 = .ok (.aload_n 0, 1) := by decide +kernel
theorem dX11_bracket_105 : decode cX11_bracket 105 = .ok (.getfield 16, 3) := by decide +kernel
theorem dX11_bracket_108 : decode cX11_bracket 108 = .ok (.invokevirtual 104, 3) := by decide +kernel
theorem dX11_bracket_111 : decode cX11_bracket 111 = .ok (.ireturn, 1) := by decide +kernel
theorem dX11_aim_0 : decode cX11_aim 0 = .ok (.iload_n 1, 1) := by decide +kernel
theorem dX11_aim_1 : decode cX11_aim 1 = .ok (.invokestatic 152, 3) := by decide +kernel
theorem dX11_aim_4 : decode cX11_aim 4 = .ok (.ifCond .eq 9, 3) := by decide +kernel
theorem dX11_aim_7 : decode cX11_aim 7 = .ok (.aload_n 0, 1) := by decide +kernel
theorem dX11_aim_8 : decode cX11_aim 8 = .ok (.iconst (-1), 1) := by decide +kernel
theorem dX11_aim_9 : decode cX11_aim 9 = .ok (.invokevirtual 100, 3) := by decide +kernel
theorem dX11_aim_12 : decode cX11_aim 12 = .ok (.ireturn, 1) := by decide +kernel
theorem dX11_aim_13 : decode cX11_aim 13 = .ok (.iload_n 2, 1) := by decide +kernel
theorem dX11_aim_14 : decode cX11_aim 14 = .ok (.bipush (-99), 2) := by decide +kernel
theorem dX11_aim_16 : decode cX11_aim 16 = .ok (.if_icmp .ge 10, 3) := by decide +kernel
theorem dX11_aim_19 : decode cX11_aim 19 = .ok (.aload_n 0, 1) := by decide +kernel
theorem dX11_aim_20 : decode cX11_aim 20 = .ok (.bipush (-4), 2) := by decide +kernel
theorem dX11_aim_22 : decode cX11_aim 22 = .ok (.invokevirtual 100, 3) := by decide +kernel
theorem dX11_aim_25 : decode cX11_aim 25 = .ok (.ireturn, 1) := by decide +kernel
theorem dX11_aim_26 : decode cX11_aim 26 = .ok (.iload_n 2, 1) := by decide +kernel
theorem dX11_aim_27 : decode cX11_aim 27 = .ok (.bipush 99, 2) := by decide +kernel
theorem dX11_aim_29 : decode cX11_aim 29 = .ok (.if_icmp .gt 15, 3) := by decide +kernel
theorem dX11_aim_32 : decode cX11_aim 32 = .ok (.aload_n 0, 1) := by decide +kernel
theorem dX11_aim_33 : decode cX11_aim 33 = .ok (.getfield 77, 3) := by decide +kernel
theorem dX11_aim_36 : decode cX11_aim 36 = .ok (.invokevirtual 237, 3) := by decide +kernel
theorem dX11_aim_39 : decode cX11_aim 39 = .ok (.bipush 8, 2) := by decide +kernel
theorem dX11_aim_41 : decode cX11_aim 41 = .ok (.if_icmp .lt 10, 3) := by decide +kernel
theorem dX11_aim_44 : decode cX11_aim 44 = .ok (.aload_n 0, 1) := by decide +kernel
theorem dX11_aim_45 : decode cX11_aim 45 = .ok (.bipush (-6), 2) := by decide +kernel
theorem dX11_aim_47 : decode cX11_aim 47 = .ok (.invokevirtual 100, 3) := by decide +kernel
theorem dX11_aim_50 : decode cX11_aim 50 = .ok (.ireturn, 1) := by decide +kernel
theorem dX11_aim_51 : decode cX11_aim 51 = .ok (.aload_n 0, 1) := by decide +kernel
theorem dX11_aim_52 : decode cX11_aim 52 = .ok (.getfield 77, 3) := by decide +kernel
theorem dX11_aim_55 : decode cX11_aim 55 = .ok (.iload_n 1, 1) := by decide +kernel
theorem dX11_aim_56 : decode cX11_aim 56 = .ok (.iload_n 2, 1) := by decide +kernel
theorem dX11_aim_57 : decode cX11_aim 57 = .ok (.invokevirtual 238, 3) := by decide +kernel
theorem dX11_aim_60 : decode cX11_aim 60 = .ok (.aload_n 0, 1) := by decide +kernel
theorem dX11_aim_61 : decode cX11_aim 61 = .ok (.getfield 77, 3) := by decide +kernel
theorem dX11_aim_64 : decode cX11_aim 64 = .ok (.invokevirtual 237, 3) := by decide +kernel
theorem dX11_aim_67 : decode cX11_aim 67 = .ok (.ireturn, 1) := by decide +kernel
theorem dX11_serves_0 : decode cX11_serves 0 = .ok (.aload_n 0, 1) := by decide +kernel
theorem dX11_serves_1 : decode cX11_serves 1 = .ok (.invokevirtual 126, 3) := by decide +kernel
theorem dX11_serves_4 : decode cX11_serves 4 = .ok (.ifCond .eq 13, 3) := by decide +kernel
theorem dX11_serves_7 : decode cX11_serves 7 = .ok (.ldc 241, 2) := by decide +kernel
theorem dX11_serves_9 : decode cX11_serves 9 = .ok (.aload_n 0, 1) := by decide +kernel
theorem dX11_serves_10 : decode cX11_serves 10 = .ok (.bipush (-5), 2) := by decide +kernel
theorem dX11_serves_12 : decode cX11_serves 12 = .ok (.invokevirtual 100, 3) := by decide +kernel
theorem dX11_serves_15 : decode cX11_serves 15 = .ok (.isub, 1) := by decide +kernel
theorem dX11_serves_16 : decode cX11_serves 16 = .ok (.ireturn, 1) := by decide +kernel
theorem dX11_serves_17 : decode cX11_serves 17 = .ok (.aload_n 0, 1) := by decide +kernel
theorem dX11_serves_18 : decode cX11_serves 18 = .ok (.iload_n 1, 1) := by decide +kernel
theorem dX11_serves_19 : decode cX11_serves 19 = .ok (.invokevirtual 130, 3) := by decide +kernel
theorem dX11_serves_22 : decode cX11_serves 22 = .ok (.ifCond .eq 12, 3) := by decide +kernel
theorem dX11_serves_25 : decode cX11_serves 25 = .ok (.ldc 241, 2) := by decide +kernel
theorem dX11_serves_27 : decode cX11_serves 27 = .ok (.aload_n 0, 1) := by decide +kernel
theorem dX11_serves_28 : decode cX11_serves 28 = .ok (.iconst (-1), 1) := by decide +kernel
theorem dX11_serves_29 : decode cX11_serves 29 = .ok (.invokevirtual 100, 3) := by decide +kernel
theorem dX11_serves_32 : decode cX11_serves 32 = .ok (.isub, 1) := by decide +kernel
theorem dX11_serves_33 : decode cX11_serves 33 = .ok (.ireturn, 1) := by decide +kernel
theorem dX11_serves_34 : decode cX11_serves 34 = .ok (.aload_n 0, 1) := by decide +kernel
theorem dX11_serves_35 : decode cX11_serves 35 = .ok (.getfield 77, 3) := by decide +kernel
theorem dX11_serves_38 : decode cX11_serves 38 = .ok (.aload_n 0, 1) := by decide +kernel
theorem dX11_serves_39 : decode cX11_serves 39 = .ok (.getfield 39, 3) := by decide +kernel
theorem dX11_serves_42 : decode cX11_serves 42 = .ok (.iload_n 1, 1) := by decide +kernel
theorem dX11_serves_43 : decode cX11_serves 43 = .ok (.invokevirtual 148, 3) := by decide +kernel
theorem dX11_serves_46 : decode cX11_serves 46 = .ok (.invokevirtual 242, 3) := by decide +kernel
theorem dX11_serves_49 : decode cX11_serves 49 = .ok (.ireturn, 1) := by decide +kernel
theorem dX11_best_0 : decode cX11_best 0 = .ok (.aload_n 0, 1) := by decide +kernel
theorem dX11_best_1 : decode cX11_best 1 = .ok (.invokevirtual 126, 3) := by decide +kernel
theorem dX11_best_4 : decode cX11_best 4 = .ok (.ifCond .eq 10, 3) := by decide +kernel
theorem dX11_best_7 : decode cX11_best 7 = .ok (.aload_n 0, 1) := by decide +kernel
theorem dX11_best_8 : decode cX11_best 8 = .ok (.bipush (-5), 2) := by decide +kernel
theorem dX11_best_10 : decode cX11_best 10 = .ok (.invokevirtual 100, 3) := by decide +kernel
theorem dX11_best_13 : decode cX11_best 13 = .ok (.ireturn, 1) := by decide +kernel
theorem dX11_best_14 : decode cX11_best 14 = .ok (.iconst 0, 1) := by decide +kernel
theorem dX11_best_15 : decode cX11_best 15 = .ok (.istore_n 1, 1) := by decide +kernel
theorem dX11_best_16 : decode cX11_best 16 = .ok (.iconst 1, 1) := by decide +kernel
theorem dX11_best_17 : decode cX11_best 17 = .ok (.istore_n 2, 1) := by decide +kernel
theorem dX11_best_18 : decode cX11_best 18 = .ok (.iload_n 2, 1) := by decide +kernel
theorem dX11_best_19 : decode cX11_best 19 = .ok (.aload_n 0, 1) := by decide +kernel
theorem dX11_best_20 : decode cX11_best 20 = .ok (.getfield 39, 3) := by decide +kernel
theorem dX11_best_23 : decode cX11_best 23 = .ok (.invokevirtual 230, 3) := by decide +kernel
theorem dX11_best_26 : decode cX11_best 26 = .ok (.if_icmp .ge 44, 3) := by decide +kernel
theorem dX11_best_29 : decode cX11_best 29 = .ok (.aload_n 0, 1) := by decide +kernel
theorem dX11_best_30 : decode cX11_best 30 = .ok (.getfield 77, 3) := by decide +kernel
theorem dX11_best_33 : decode cX11_best 33 = .ok (.aload_n 0, 1) := by decide +kernel
theorem dX11_best_34 : decode cX11_best 34 = .ok (.getfield 39, 3) := by decide +kernel
theorem dX11_best_37 : decode cX11_best 37 = .ok (.iload_n 2, 1) := by decide +kernel
theorem dX11_best_38 : decode cX11_best 38 = .ok (.invokevirtual 148, 3) := by decide +kernel
theorem dX11_best_41 : decode cX11_best 41 = .ok (.invokevirtual 242, 3) := by decide +kernel
theorem dX11_best_44 : decode cX11_best 44 = .ok (.aload_n 0, 1) := by decide +kernel
theorem dX11_best_45 : decode cX11_best 45 = .ok (.getfield 77, 3) := by decide +kernel
theorem dX11_best_48 : decode cX11_best 48 = .ok (.aload_n 0, 1) := by decide +kernel
theorem dX11_best_49 : decode cX11_best 49 = .ok (.getfield 39, 3) := by decide +kernel
theorem dX11_best_52 : decode cX11_best 52 = .ok (.iload_n 1, 1) := by decide +kernel
theorem dX11_best_53 : decode cX11_best 53 = .ok (.invokevirtual 148, 3) := by decide +kernel
theorem dX11_best_56 : decode cX11_best 56 = .ok (.invokevirtual 242, 3) := by decide +kernel
theorem dX11_best_59 : decode cX11_best 59 = .ok (.if_icmp .le 5, 3) := by decide +kernel
theorem dX11_best_62 : decode cX11_best 62 = .ok (.iload_n 2, 1) := by decide +kernel
theorem dX11_best_63 : decode cX11_best 63 = .ok (.istore_n 1, 1) := by decide +kernel
theorem dX11_best_64 : decode cX11_best 64 = .ok (.iinc 2 1, 3) := by decide +kernel
theorem dX11_best_67 : decode cX11_best 67 = .ok (.goto (-49), 3) := by decide +kernel
theorem dX11_best_70 : decode cX11_best 70 = .ok (.iload_n 1, 1) := by decide +kernel
theorem dX11_best_71 : decode cX11_best 71 = .ok (.ireturn, 1) := by decide +kernel
theorem dX11_image_0 : decode cX11_image 0 = .ok (.aload_n 0, 1) := by decide +kernel
theorem dX11_image_1 : decode cX11_image 1 = .ok (.getfield 84, 3) := by decide +kernel
theorem dX11_image_4 : decode cX11_image 4 = .ok (.aload_n 0, 1) := by decide +kernel
theorem dX11_image_5 : decode cX11_image 5 = .ok (.getfield 16, 3) := by decide +kernel
theorem dX11_image_8 : decode cX11_image 8 = .ok (.aload_n 0, 1) := by decide +kernel
theorem dX11_image_9 : decode cX11_image 9 = .ok (.getfield 53, 3) := by decide +kernel
theorem dX11_image_12 : decode cX11_image 12 = .ok (.aload_n 0, 1) := by decide +kernel
theorem dX11_image_13 : decode cX11_image 13 = .ok (.getfield 77, 3) := by decide +kernel
theorem dX11_image_16 : decode cX11_image 16 = .ok (.invokevirtual 245, 3) := by decide +kernel
theorem dX11_image_19 : decode cX11_image 19 = .ok (.aload_n 0, 1) := by decide +kernel
theorem dX11_image_20 : decode cX11_image 20 = .ok (.getfield 16, 3) := by decide +kernel
theorem dX11_image_23 : decode cX11_image 23 = .ok (.invokevirtual 104, 3) := by decide +kernel
theorem dX11_image_26 : decode cX11_image 26 = .ok (.ireturn, 1) := by decide +kernel
theorem dX11_on_0 : decode cX11_on 0 = .ok (.aload_n 0, 1) := by decide +kernel
theorem dX11_on_1 : decode cX11_on 1 = .ok (.getfield 84, 3) := by decide +kernel
theorem dX11_on_4 : decode cX11_on 4 = .ok (.invokevirtual 249, 3) := by decide +kernel
theorem dX11_on_7 : decode cX11_on 7 = .ok (.ifCond .ne 10, 3) := by decide +kernel
theorem dX11_on_10 : decode cX11_on 10 = .ok (.aload_n 0, 1) := by decide +kernel
theorem dX11_on_11 : decode cX11_on 11 = .ok (.bipush (-3), 2) := by decide +kernel
theorem dX11_on_13 : decode cX11_on 13 = .ok (.invokevirtual 100, 3) := by decide +kernel
theorem dX11_on_16 : decode cX11_on 16 = .ok (.ireturn, 1) := by decide +kernel
theorem dX11_on_17 : decode cX11_on 17 = .ok (.aload_n 0, 1) := by decide +kernel
theorem dX11_on_18 : decode cX11_on 18 = .ok (.aload_n 0, 1) := by decide +kernel
theorem dX11_on_19 : decode cX11_on 19 = .ok (.getfield 84, 3) := by decide +kernel
theorem dX11_on_22 : decode cX11_on 22 = .ok (.invokevirtual 252, 3) := by decide +kernel
theorem dX11_on_25 : decode cX11_on 25 = .ok (.invokevirtual 113, 3) := by decide +kernel
theorem dX11_on_28 : decode cX11_on 28 = .ok (.aload_n 0, 1) := by decide +kernel
theorem dX11_on_29 : decode cX11_on 29 = .ok (.getfield 53, 3) := by decide +kernel
theorem dX11_on_32 : decode cX11_on 32 = .ok (.aload_n 0, 1) := by decide +kernel
theorem dX11_on_33 : decode cX11_on 33 = .ok (.getfield 84, 3) := by decide +kernel
theorem dX11_on_36 : decode cX11_on 36 = .ok (.invokevirtual 256, 3) := by decide +kernel
theorem dX11_on_39 : decode cX11_on 39 = .ok (.invokevirtual 259, 3) := by decide +kernel
theorem dX11_on_42 : decode cX11_on 42 = .ok (.aload_n 0, 1) := by decide +kernel
theorem dX11_on_43 : decode cX11_on 43 = .ok (.getfield 77, 3) := by decide +kernel
theorem dX11_on_46 : decode cX11_on 46 = .ok (.aload_n 0, 1) := by decide +kernel
theorem dX11_on_47 : decode cX11_on 47 = .ok (.getfield 84, 3) := by decide +kernel
theorem dX11_on_50 : decode cX11_on 50 = .ok (.invokevirtual 263, 3) := by decide +kernel
theorem dX11_on_53 : decode cX11_on 53 = .ok (.invokevirtual 266, 3) := by decide +kernel
theorem dX11_on_56 : decode cX11_on 56 = .ok (.aload_n 0, 1) := by decide +kernel
theorem dX11_on_57 : decode cX11_on 57 = .ok (.getfield 16, 3) := by decide +kernel
theorem dX11_on_60 : decode cX11_on 60 = .ok (.invokevirtual 104, 3) := by decide +kernel
theorem dX11_on_63 : decode cX11_on 63 = .ok (.ireturn, 1) := by decide +kernel
theorem dX11_count_0 : decode cX11_count 0 = .ok (.iload_n 1, 1) := by decide +kernel
theorem dX11_count_1 : decode cX11_count 1 = .ok (.tableswitch 75 0 4 #[35, 43, 51, 59, 67], 35) := by decide +kernel
theorem dX11_count_36 : decode cX11_count 36 = .ok (.aload_n 0, 1) := by decide +kernel
theorem dX11_count_37 : decode cX11_count 37 = .ok (.getfield 16, 3) := by decide +kernel
theorem dX11_count_40 : decode cX11_count 40 = .ok (.invokevirtual 104, 3) := by decide +kernel
theorem dX11_count_43 : decode cX11_count 43 = .ok (.ireturn, 1) := by decide +kernel
theorem dX11_count_44 : decode cX11_count 44 = .ok (.aload_n 0, 1) := by decide +kernel
theorem dX11_count_45 : decode cX11_count 45 = .ok (.getfield 53, 3) := by decide +kernel
theorem dX11_count_48 : decode cX11_count 48 = .ok (.invokevirtual 195, 3) := by decide +kernel
theorem dX11_count_51 : decode cX11_count 51 = .ok (.ireturn, 1) := by decide +kernel
theorem dX11_count_52 : decode cX11_count 52 = .ok (.aload_n 0, 1) := by decide +kernel
theorem dX11_count_53 : decode cX11_count 53 = .ok (.getfield 77, 3) := by decide +kernel
theorem dX11_count_56 : decode cX11_count 56 = .ok (.invokevirtual 237, 3) := by decide +kernel
theorem dX11_count_59 : decode cX11_count 59 = .ok (.ireturn, 1) := by decide +kernel
theorem dX11_count_60 : decode cX11_count 60 = .ok (.aload_n 0, 1) := by decide +kernel
theorem dX11_count_61 : decode cX11_count 61 = .ok (.getfield 10, 3) := by decide +kernel
theorem dX11_count_64 : decode cX11_count 64 = .ok (.invokevirtual 104, 3) := by decide +kernel
theorem dX11_count_67 : decode cX11_count 67 = .ok (.ireturn, 1) := by decide +kernel
theorem dX11_count_68 : decode cX11_count 68 = .ok (.aload_n 0, 1) := by decide +kernel
theorem dX11_count_69 : decode cX11_count 69 = .ok (.getfield 16, 3) := by decide +kernel
theorem dX11_count_72 : decode cX11_count 72 = .ok (.invokevirtual 269, 3) := by decide +kernel
theorem dX11_count_75 : decode cX11_count 75 = .ok (.ireturn, 1) := by decide +kernel
theorem dX11_count_76 : decode cX11_count 76 = .ok (.iload_n 1, 1) := by decide +kernel
theorem dX11_count_77 : decode cX11_count 77 = .ok (.bipush 11, 2) := by decide +kernel
theorem dX11_count_79 : decode cX11_count 79 = .ok (.if_icmp .lt 23, 3) := by decide +kernel
theorem dX11_count_82 : decode cX11_count 82 = .ok (.iload_n 1, 1) := by decide +kernel
theorem dX11_count_83 : decode cX11_count 83 = .ok (.bipush 16, 2) := by decide +kernel
theorem dX11_count_85 : decode cX11_count 85 = .ok (.if_icmp .gt 17, 3) := by decide +kernel
theorem dX11_count_88 : decode cX11_count 88 = .ok (.aload_n 0, 1) := by decide +kernel
theorem dX11_count_89 : decode cX11_count 89 = .ok (.getfield 88, 3) := by decide +kernel
theorem dX11_count_92 : decode cX11_count 92 = .ok (.iload_n 1, 1) := by decide +kernel
theorem dX11_count_93 : decode cX11_count 93 = .ok (.bipush 10, 2) := by decide +kernel
theorem dX11_count_95 : decode cX11_count 95 = .ok (.isub, 1) := by decide +kernel
theorem dX11_count_96 : decode cX11_count 96 = .ok (.invokestatic 272, 3) := by decide +kernel
theorem dX11_count_99 : decode cX11_count 99 = .ok (.goto 5, 3) := by decide +kernel
theorem dX11_count_102 : decode cX11_count 102 = .ok (.bipush (-9), 2) := by decide +kernel
theorem dX11_count_104 : decode cX11_count 104 = .ok (.ireturn, 1) := by decide +kernel
theorem dX11_refuse_0 : decode cX11_refuse 0 = .ok (.aload_n 0, 1) := by decide +kernel
theorem dX11_refuse_1 : decode cX11_refuse 1 = .ok (.getfield 88, 3) := by decide +kernel
theorem dX11_refuse_4 : decode cX11_refuse 4 = .ok (.iload_n 1, 1) := by decide +kernel
theorem dX11_refuse_5 : decode cX11_refuse 5 = .ok (.ineg, 1) := by decide +kernel
theorem dX11_refuse_6 : decode cX11_refuse 6 = .ok (.aload_n 0, 1) := by decide +kernel
theorem dX11_refuse_7 : decode cX11_refuse 7 = .ok (.getfield 88, 3) := by decide +kernel
theorem dX11_refuse_10 : decode cX11_refuse 10 = .ok (.iload_n 1, 1) := by decide +kernel
theorem dX11_refuse_11 : decode cX11_refuse 11 = .ok (.ineg, 1) := by decide +kernel
theorem dX11_refuse_12 : decode cX11_refuse 12 = .ok (.invokestatic 272, 3) := by decide +kernel
theorem dX11_refuse_15 : decode cX11_refuse 15 = .ok (.iconst 1, 1) := by decide +kernel
theorem dX11_refuse_16 : decode cX11_refuse 16 = .ok (.iadd, 1) := by decide +kernel
theorem dX11_refuse_17 : decode cX11_refuse 17 = .ok (.invokestatic 276, 3) := by decide +kernel
theorem dX11_refuse_20 : decode cX11_refuse 20 = .ok (.iload_n 1, 1) := by decide +kernel
theorem dX11_refuse_21 : decode cX11_refuse 21 = .ok (.ireturn, 1) := by decide +kernel
theorem dX11_takeSentence_0 : decode cX11_takeSentence 0 = .ok (.aload_n 0, 1) := by decide +kernel
theorem dX11_takeSentence_1 : decode cX11_takeSentence 1 = .ok (.getfield 16, 3) := by decide +kernel
theorem dX11_takeSentence_4 : decode cX11_takeSentence 4 = .ok (.aload_n 1, 1) := by decide +kernel
theorem dX11_takeSentence_5 : decode cX11_takeSentence 5 = .ok (.invokevirtual 280, 3) := by decide +kernel
theorem dX11_takeSentence_8 : decode cX11_takeSentence 8 = .ok (.aload_n 0, 1) := by decide +kernel
theorem dX11_takeSentence_9 : decode cX11_takeSentence 9 = .ok (.getfield 25, 3) := by decide +kernel
theorem dX11_takeSentence_12 : decode cX11_takeSentence 12 = .ok (.aload_n 0, 1) := by decide +kernel
theorem dX11_takeSentence_13 : decode cX11_takeSentence 13 = .ok (.getfield 16, 3) := by decide +kernel
theorem dX11_takeSentence_16 : decode cX11_takeSentence 16 = .ok (.invokevirtual 96, 3) := by decide +kernel
theorem dX11_takeSentence_19 : decode cX11_takeSentence 19 = .ok (.aload_n 0, 1) := by decide +kernel
theorem dX11_takeSentence_20 : decode cX11_takeSentence 20 = .ok (.getfield 39, 3) := by decide +kernel
theorem dX11_takeSentence_23 : decode cX11_takeSentence 23 = .ok (.invokevirtual 282, 3) := by decide +kernel
theorem dX11_takeSentence_26 : decode cX11_takeSentence 26 = .ok (.return_, 1) := by decide +kernel
theorem dX11_spent_0 : decode cX11_spent 0 = .ok (.aload_n 0, 1) := by decide +kernel
theorem dX11_spent_1 : decode cX11_spent 1 = .ok (.invokevirtual 285, 3) := by decide +kernel
theorem dX11_spent_4 : decode cX11_spent 4 = .ok (.lstore_n 1, 1) := by decide +kernel
theorem dX11_spent_5 : decode cX11_spent 5 = .ok (.lload_n 1, 1) := by decide +kernel
theorem dX11_spent_6 : decode cX11_spent 6 = .ok (.ldc2_w 288, 3) := by decide +kernel
theorem dX11_spent_9 : decode cX11_spent 9 = .ok (.lcmp, 1) := by decide +kernel
theorem dX11_spent_10 : decode cX11_spent 10 = .ok (.ifCond .le 5, 3) := by decide +kernel
theorem dX11_spent_13 : decode cX11_spent 13 = .ok (.iconst 1, 1) := by decide +kernel
theorem dX11_spent_14 : decode cX11_spent 14 = .ok (.ireturn, 1) := by decide +kernel
theorem dX11_spent_15 : decode cX11_spent 15 = .ok (.aload_n 0, 1) := by decide +kernel
theorem dX11_spent_16 : decode cX11_spent 16 = .ok (.getfield 39, 3) := by decide +kernel
theorem dX11_spent_19 : decode cX11_spent 19 = .ok (.invokevirtual 290, 3) := by decide +kernel
theorem dX11_spent_22 : decode cX11_spent 22 = .ok (.ifCond .ne 24, 3) := by decide +kernel
theorem dX11_spent_25 : decode cX11_spent 25 = .ok (.aload_n 0, 1) := by decide +kernel
theorem dX11_spent_26 : decode cX11_spent 26 = .ok (.getfield 39, 3) := by decide +kernel
theorem dX11_spent_29 : decode cX11_spent 29 = .ok (.aload_n 0, 1) := by decide +kernel
theorem dX11_spent_30 : decode cX11_spent 30 = .ok (.getfield 16, 3) := by decide +kernel
theorem dX11_spent_33 : decode cX11_spent 33 = .ok (.aload_n 0, 1) := by decide +kernel
theorem dX11_spent_34 : decode cX11_spent 34 = .ok (.getfield 25, 3) := by decide +kernel
theorem dX11_spent_37 : decode cX11_spent 37 = .ok (.aload_n 0, 1) := by decide +kernel
theorem dX11_spent_38 : decode cX11_spent 38 = .ok (.getfield 32, 3) := by decide +kernel
theorem dX11_spent_41 : decode cX11_spent 41 = .ok (.lload_n 1, 1) := by decide +kernel
theorem dX11_spent_42 : decode cX11_spent 42 = .ok (.l2i, 1) := by decide +kernel
theorem dX11_spent_43 : decode cX11_spent 43 = .ok (.invokevirtual 293, 3) := by decide +kernel
theorem dX11_spent_46 : decode cX11_spent 46 = .ok (.iconst 0, 1) := by decide +kernel
theorem dX11_spent_47 : decode cX11_spent 47 = .ok (.ireturn, 1) := by decide +kernel
theorem dX11_noReading_0 : decode cX11_noReading 0 = .ok (.iload_n 1, 1) := by decide +kernel
theorem dX11_noReading_1 : decode cX11_noReading 1 = .ok (.ifCond .lt 14, 3) := by decide +kernel
theorem dX11_noReading_4 : decode cX11_noReading 4 = .ok (.iload_n 1, 1) := by decide +kernel
theorem dX11_noReading_5 : decode cX11_noReading 5 = .ok (.aload_n 0, 1) := by decide +kernel
theorem dX11_noReading_6 : decode cX11_noReading 6 = .ok (.getfield 39, 3) := by decide +kernel
theorem dX11_noReading_9 : decode cX11_noReading 9 = .ok (.invokevirtual 230, 3) := by decide +kernel
theorem dX11_noReading_12 : decode cX11_noReading 12 = .ok (.if_icmp .lt 7, 3) := by decide +kernel
theorem dX11_noReading_15 : decode cX11_noReading 15 = .ok (.iconst 1, 1) := by decide +kernel
theorem dX11_noReading_16 : decode cX11_noReading 16 = .ok (.goto 4, 3) := by decide +kernel
theorem dX11_noReading_19 : decode cX11_noReading 19 = .ok (.iconst 0, 1) := by decide +kernel
theorem dX11_noReading_20 : decode cX11_noReading 20 = .ok (.ireturn, 1) := by decide +kernel
theorem dX11_noCase_0 : decode cX11_noCase 0 = .ok (.iload_n 0, 1) := by decide +kernel
theorem dX11_noCase_1 : decode cX11_noCase 1 = .ok (.ifCond .lt 9, 3) := by decide +kernel
theorem dX11_noCase_4 : decode cX11_noCase 4 = .ok (.iload_n 0, 1) := by decide +kernel
theorem dX11_noCase_5 : decode cX11_noCase 5 = .ok (.bipush 32, 2) := by decide +kernel
theorem dX11_noCase_7 : decode cX11_noCase 7 = .ok (.if_icmp .lt 7, 3) := by decide +kernel
theorem dX11_noCase_10 : decode cX11_noCase 10 = .ok (.iconst 1, 1) := by decide +kernel
theorem dX11_noCase_11 : decode cX11_noCase 11 = .ok (.goto 4, 3) := by decide +kernel
theorem dX11_noCase_14 : decode cX11_noCase 14 = .ok (.iconst 0, 1) := by decide +kernel
theorem dX11_noCase_15 : decode cX11_noCase 15 = .ok (.ireturn, 1) := by decide +kernel
theorem dX11_noRule_0 : decode cX11_noRule 0 = .ok (.iload_n 0, 1) := by decide +kernel
theorem dX11_noRule_1 : decode cX11_noRule 1 = .ok (.ifCond .lt 9, 3) := by decide +kernel
theorem dX11_noRule_4 : decode cX11_noRule 4 = .ok (.iload_n 0, 1) := by decide +kernel
theorem dX11_noRule_5 : decode cX11_noRule 5 = .ok (.bipush 6, 2) := by decide +kernel
theorem dX11_noRule_7 : decode cX11_noRule 7 = .ok (.if_icmp .lt 7, 3) := by decide +kernel
theorem dX11_noRule_10 : decode cX11_noRule 10 = .ok (.iconst 1, 1) := by decide +kernel
theorem dX11_noRule_11 : decode cX11_noRule 11 = .ok (.goto 4, 3) := by decide +kernel
theorem dX11_noRule_14 : decode cX11_noRule 14 = .ok (.iconst 0, 1) := by decide +kernel
theorem dX11_noRule_15 : decode cX11_noRule 15 = .ok (.ireturn, 1) := by decide +kernel
theorem dX11_kindOf_0 : decode cX11_kindOf 0 = .ok (.iload_n 0, 1) := by decide +kernel
theorem dX11_kindOf_1 : decode cX11_kindOf 1 = .ok (.lookupswitch 114 #[(33, 101), (38, 105), (40, 103), (45, 111), (62, 109), (97, 99), (98, 99), (99, 99), (100, 99), (101, 99), (124, 107)], 99) := by decide +kernel
theorem dX11_kindOf_100 : decode cX11_kindOf 100 = .ok (.iconst 0, 1) := by decide +kernel
theorem dX11_kindOf_101 : decode cX11_kindOf 101 = .ok (.ireturn, 1) := by decide +kernel
theorem dX11_kindOf_102 : decode cX11_kindOf 102 = .ok (.iconst 1, 1) := by decide +kernel
theorem dX11_kindOf_103 : decode cX11_kindOf 103 = .ok (.ireturn, 1) := by decide +kernel
theorem dX11_kindOf_104 : decode cX11_kindOf 104 = .ok (.iconst 2, 1) := by decide +kernel
theorem dX11_kindOf_105 : decode cX11_kindOf 105 = .ok (.ireturn, 1) := by decide +kernel
theorem dX11_kindOf_106 : decode cX11_kindOf 106 = .ok (.iconst 3, 1) := by decide +kernel
theorem dX11_kindOf_107 : decode cX11_kindOf 107 = .ok (.ireturn, 1) := by decide +kernel
theorem dX11_kindOf_108 : decode cX11_kindOf 108 = .ok (.iconst 4, 1) := by decide +kernel
theorem dX11_kindOf_109 : decode cX11_kindOf 109 = .ok (.ireturn, 1) := by decide +kernel
theorem dX11_kindOf_110 : decode cX11_kindOf 110 = .ok (.iconst 5, 1) := by decide +kernel
theorem dX11_kindOf_111 : decode cX11_kindOf 111 = .ok (.ireturn, 1) := by decide +kernel
theorem dX11_kindOf_112 : decode cX11_kindOf 112 = .ok (.bipush 6, 2) := by decide +kernel
theorem dX11_kindOf_114 : decode cX11_kindOf 114 = .ok (.ireturn, 1) := by decide +kernel
theorem dX11_kindOf_115 : decode cX11_kindOf 115 = .ok (.iconst (-1), 1) := by decide +kernel
theorem dX11_kindOf_116 : decode cX11_kindOf 116 = .ok (.ireturn, 1) := by decide +kernel
theorem dX11_casesOf_0 : decode cX11_casesOf 0 = .ok (.getstatic 297, 3) := by decide +kernel
theorem dX11_casesOf_3 : decode cX11_casesOf 3 = .ok (.iload_n 0, 1) := by decide +kernel
theorem dX11_casesOf_4 : decode cX11_casesOf 4 = .ok (.bipush 97, 2) := by decide +kernel
theorem dX11_casesOf_6 : decode cX11_casesOf 6 = .ok (.isub, 1) := by decide +kernel
theorem dX11_casesOf_7 : decode cX11_casesOf 7 = .ok (.invokestatic 301, 3) := by decide +kernel
theorem dX11_casesOf_10 : decode cX11_casesOf 10 = .ok (.lreturn, 1) := by decide +kernel
theorem dX11_isJoin_0 : decode cX11_isJoin 0 = .ok (.iload_n 0, 1) := by decide +kernel
theorem dX11_isJoin_1 : decode cX11_isJoin 1 = .ok (.iconst 3, 1) := by decide +kernel
theorem dX11_isJoin_2 : decode cX11_isJoin 2 = .ok (.if_icmp .lt 7, 3) := by decide +kernel
theorem dX11_isJoin_5 : decode cX11_isJoin 5 = .ok (.iconst 1, 1) := by decide +kernel
theorem dX11_isJoin_6 : decode cX11_isJoin 6 = .ok (.goto 4, 3) := by decide +kernel
theorem dX11_isJoin_9 : decode cX11_isJoin 9 = .ok (.iconst 0, 1) := by decide +kernel
theorem dX11_isJoin_10 : decode cX11_isJoin 10 = .ok (.ireturn, 1) := by decide +kernel
theorem dX11_bit_0 : decode cX11_bit 0 = .ok (.lload_n 0, 1) := by decide +kernel
theorem dX11_bit_1 : decode cX11_bit 1 = .ok (.iload_n 2, 1) := by decide +kernel
theorem dX11_bit_2 : decode cX11_bit 2 = .ok (.lushr, 1) := by decide +kernel
theorem dX11_bit_3 : decode cX11_bit 3 = .ok (.lconst 1, 1) := by decide +kernel
theorem dX11_bit_4 : decode cX11_bit 4 = .ok (.land, 1) := by decide +kernel
theorem dX11_bit_5 : decode cX11_bit 5 = .ok (.l2i, 1) := by decide +kernel
theorem dX11_bit_6 : decode cX11_bit 6 = .ok (.ireturn, 1) := by decide +kernel
theorem dX11_leastCase_0 : decode cX11_leastCase 0 = .ok (.iconst 0, 1) := by decide +kernel
theorem dX11_leastCase_1 : decode cX11_leastCase 1 = .ok (.istore_n 2, 1) := by decide +kernel
theorem dX11_leastCase_2 : decode cX11_leastCase 2 = .ok (.iload_n 2, 1) := by decide +kernel
theorem dX11_leastCase_3 : decode cX11_leastCase 3 = .ok (.bipush 32, 2) := by decide +kernel
theorem dX11_leastCase_5 : decode cX11_leastCase 5 = .ok (.if_icmp .ge 20, 3) := by decide +kernel
theorem dX11_leastCase_8 : decode cX11_leastCase 8 = .ok (.lload_n 0, 1) := by decide +kernel
theorem dX11_leastCase_9 : decode cX11_leastCase 9 = .ok (.iload_n 2, 1) := by decide +kernel
theorem dX11_leastCase_10 : decode cX11_leastCase 10 = .ok (.invokestatic 155, 3) := by decide +kernel
theorem dX11_leastCase_13 : decode cX11_leastCase 13 = .ok (.iconst 1, 1) := by decide +kernel
theorem dX11_leastCase_14 : decode cX11_leastCase 14 = .ok (.if_icmp .ne 5, 3) := by decide +kernel
theorem dX11_leastCase_17 : decode cX11_leastCase 17 = .ok (.iload_n 2, 1) := by decide +kernel
theorem dX11_leastCase_18 : decode cX11_leastCase 18 = .ok (.ireturn, 1) := by decide +kernel
theorem dX11_leastCase_19 : decode cX11_leastCase 19 = .ok (.iinc 2 1, 3) := by decide +kernel
theorem dX11_leastCase_22 : decode cX11_leastCase 22 = .ok (.goto (-20), 3) := by decide +kernel
theorem dX11_leastCase_25 : decode cX11_leastCase 25 = .ok (.bipush (-9), 2) := by decide +kernel
theorem dX11_leastCase_27 : decode cX11_leastCase 27 = .ok (.ireturn, 1) := by decide +kernel
theorem dX11_look_0 : decode cX11_look 0 = .ok (.iload_n 1, 1) := by decide +kernel
theorem dX11_look_1 : decode cX11_look 1 = .ok (.ifCond .lt 15, 3) := by decide +kernel
theorem dX11_look_4 : decode cX11_look 4 = .ok (.iload_n 1, 1) := by decide +kernel
theorem dX11_look_5 : decode cX11_look 5 = .ok (.aload_n 0, 1) := by decide +kernel
theorem dX11_look_6 : decode cX11_look 6 = .ok (.arraylength, 1) := by decide +kernel
theorem dX11_look_7 : decode cX11_look 7 = .ok (.if_icmp .ge 9, 3) := by decide +kernel
theorem dX11_look_10 : decode cX11_look 10 = .ok (.aload_n 0, 1) := by decide +kernel
theorem dX11_look_11 : decode cX11_look 11 = .ok (.iload_n 1, 1) := by decide +kernel
theorem dX11_look_12 : decode cX11_look 12 = .ok (.iaload, 1) := by decide +kernel
theorem dX11_look_13 : decode cX11_look 13 = .ok (.goto 4, 3) := by decide +kernel
theorem dX11_look_16 : decode cX11_look 16 = .ok (.iconst 0, 1) := by decide +kernel
theorem dX11_look_17 : decode cX11_look 17 = .ok (.ireturn, 1) := by decide +kernel
theorem dX11_look__0 : decode cX11_look_ 0 = .ok (.iload_n 1, 1) := by decide +kernel
theorem dX11_look__1 : decode cX11_look_ 1 = .ok (.ifCond .lt 15, 3) := by decide +kernel
theorem dX11_look__4 : decode cX11_look_ 4 = .ok (.iload_n 1, 1) := by decide +kernel
theorem dX11_look__5 : decode cX11_look_ 5 = .ok (.aload_n 0, 1) := by decide +kernel
theorem dX11_look__6 : decode cX11_look_ 6 = .ok (.arraylength, 1) := by decide +kernel
theorem dX11_look__7 : decode cX11_look_ 7 = .ok (.if_icmp .ge 9, 3) := by decide +kernel
theorem dX11_look__10 : decode cX11_look_ 10 = .ok (.aload_n 0, 1) := by decide +kernel
theorem dX11_look__11 : decode cX11_look_ 11 = .ok (.iload_n 1, 1) := by decide +kernel
theorem dX11_look__12 : decode cX11_look_ 12 = .ok (.laload, 1) := by decide +kernel
theorem dX11_look__13 : decode cX11_look_ 13 = .ok (.goto 4, 3) := by decide +kernel
theorem dX11_look__16 : decode cX11_look_ 16 = .ok (.lconst 0, 1) := by decide +kernel
theorem dX11_look__17 : decode cX11_look_ 17 = .ok (.lreturn, 1) := by decide +kernel
theorem dX11_put_0 : decode cX11_put 0 = .ok (.iload_n 1, 1) := by decide +kernel
theorem dX11_put_1 : decode cX11_put 1 = .ok (.ifCond .lt 13, 3) := by decide +kernel
theorem dX11_put_4 : decode cX11_put 4 = .ok (.iload_n 1, 1) := by decide +kernel
theorem dX11_put_5 : decode cX11_put 5 = .ok (.aload_n 0, 1) := by decide +kernel
theorem dX11_put_6 : decode cX11_put 6 = .ok (.arraylength, 1) := by decide +kernel
theorem dX11_put_7 : decode cX11_put 7 = .ok (.if_icmp .ge 7, 3) := by decide +kernel
theorem dX11_put_10 : decode cX11_put 10 = .ok (.aload_n 0, 1) := by decide +kernel
theorem dX11_put_11 : decode cX11_put 11 = .ok (.iload_n 1, 1) := by decide +kernel
theorem dX11_put_12 : decode cX11_put 12 = .ok (.iload_n 2, 1) := by decide +kernel
theorem dX11_put_13 : decode cX11_put 13 = .ok (.iastore, 1) := by decide +kernel
theorem dX11_put_14 : decode cX11_put 14 = .ok (.return_, 1) := by decide +kernel
theorem dX11_put__0 : decode cX11_put_ 0 = .ok (.iload_n 1, 1) := by decide +kernel
theorem dX11_put__1 : decode cX11_put_ 1 = .ok (.ifCond .lt 13, 3) := by decide +kernel
theorem dX11_put__4 : decode cX11_put_ 4 = .ok (.iload_n 1, 1) := by decide +kernel
theorem dX11_put__5 : decode cX11_put_ 5 = .ok (.aload_n 0, 1) := by decide +kernel
theorem dX11_put__6 : decode cX11_put_ 6 = .ok (.arraylength, 1) := by decide +kernel
theorem dX11_put__7 : decode cX11_put_ 7 = .ok (.if_icmp .ge 7, 3) := by decide +kernel
theorem dX11_put__10 : decode cX11_put_ 10 = .ok (.aload_n 0, 1) := by decide +kernel
theorem dX11_put__11 : decode cX11_put_ 11 = .ok (.iload_n 1, 1) := by decide +kernel
