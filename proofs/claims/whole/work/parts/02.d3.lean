theorem dX11_fewest_32 : decode cX11_fewest 32 = .ok (.ireturn, 1) := by decide +kernel
theorem dX11_bracket_0 : decode cX11_bracket 0 = .ok (.iload_n 1, 1) := by decide +kernel
theorem dX11_bracket_1 : decode cX11_bracket 1 = .ok (.ifCond .lt 19, 3) := by decide +kernel
theorem dX11_bracket_4 : decode cX11_bracket 4 = .ok (.iload_n 2, 1) := by decide +kernel
theorem dX11_bracket_5 : decode cX11_bracket 5 = .ok (.iload_n 1, 1) := by decide +kernel
theorem dX11_bracket_6 : decode cX11_bracket 6 = .ok (.if_icmp .lt 14, 3) := by decide +kernel
theorem dX11_bracket_9 : decode cX11_bracket 9 = .ok (.iload_n 2, 1) := by decide +kernel
theorem dX11_bracket_10 : decode cX11_bracket 10 = .ok (.aload_n 0, 1) := by decide +kernel
theorem dX11_bracket_11 : decode cX11_bracket 11 = .ok (.getfield 16, 3) := by decide +kernel
theorem dX11_bracket_14 : decode cX11_bracket 14 = .ok (.invokevirtual 104, 3) := by decide +kernel
theorem dX11_bracket_17 : decode cX11_bracket 17 = .ok (.if_icmp .lt 9, 3) := by decide +kernel
theorem dX11_bracket_20 : decode cX11_bracket 20 = .ok (.aload_n 0, 1) := by decide +kernel
theorem dX11_bracket_21 : decode cX11_bracket 21 = .ok (.iconst (-1), 1) := by decide +kernel
theorem dX11_bracket_22 : decode cX11_bracket 22 = .ok (.invokevirtual 100, 3) := by decide +kernel
theorem dX11_bracket_25 : decode cX11_bracket 25 = .ok (.ireturn, 1) := by decide +kernel
theorem dX11_bracket_26 : decode cX11_bracket 26 = .ok (.aload_n 0, 1) := by decide +kernel
theorem dX11_bracket_27 : decode cX11_bracket 27 = .ok (.getfield 16, 3) := by decide +kernel
theorem dX11_bracket_30 : decode cX11_bracket 30 = .ok (.invokevirtual 104, 3) := by decide +kernel
theorem dX11_bracket_33 : decode cX11_bracket 33 = .ok (.iconst 2, 1) := by decide +kernel
theorem dX11_bracket_34 : decode cX11_bracket 34 = .ok (.iadd, 1) := by decide +kernel
theorem dX11_bracket_35 : decode cX11_bracket 35 = .ok (.bipush 21, 2) := by decide +kernel
theorem dX11_bracket_37 : decode cX11_bracket 37 = .ok (.if_icmp .le 10, 3) := by decide +kernel
theorem dX11_bracket_40 : decode cX11_bracket 40 = .ok (.aload_n 0, 1) := by decide +kernel
theorem dX11_bracket_41 : decode cX11_bracket 41 = .ok (.bipush (-6), 2) := by decide +kernel
theorem dX11_bracket_43 : decode cX11_bracket 43 = .ok (.invokevirtual 100, 3) := by decide +kernel
theorem dX11_bracket_46 : decode cX11_bracket 46 = .ok (.ireturn, 1) := by decide +kernel
theorem dX11_bracket_47 : decode cX11_bracket 47 = .ok (.aload_n 0, 1) := by decide +kernel
theorem dX11_bracket_48 : decode cX11_bracket 48 = .ok (.getfield 19, 3) := by decide +kernel
theorem dX11_bracket_51 : decode cX11_bracket 51 = .ok (.aload_n 0, 1) := by decide +kernel
theorem dX11_bracket_52 : decode cX11_bracket 52 = .ok (.getfield 16, 3) := by decide +kernel
theorem dX11_bracket_55 : decode cX11_bracket 55 = .ok (.iload_n 1, 1) := by decide +kernel
theorem dX11_bracket_56 : decode cX11_bracket 56 = .ok (.iload_n 2, 1) := by decide +kernel
theorem dX11_bracket_57 : decode cX11_bracket 57 = .ok (.invokevirtual 219, 3) := by decide +kernel
theorem dX11_bracket_60 : decode cX11_bracket 60 = .ok (.aload_n 0, 1) := by decide +kernel
theorem dX11_bracket_61 : decode cX11_bracket 61 = .ok (.getfield 19, 3) := by decide +kernel
theorem dX11_bracket_64 : decode cX11_bracket 64 = .ok (.invokevirtual 223, 3) := by decide +kernel
theorem dX11_bracket_67 : decode cX11_bracket 67 = .ok (.iconst 4, 1) := by decide +kernel
theorem dX11_bracket_68 : decode cX11_bracket 68 = .ok (.if_icmp .le 10, 3) := by decide +kernel
theorem dX11_bracket_71 : decode cX11_bracket 71 = .ok (.aload_n 0, 1) := by decide +kernel
theorem dX11_bracket_72 : decode cX11_bracket 72 = .ok (.bipush (-6), 2) := by decide +kernel
theorem dX11_bracket_74 : decode cX11_bracket 74 = .ok (.invokevirtual 100, 3) := by decide +kernel
theorem dX11_bracket_77 : decode cX11_bracket 77 = .ok (.ireturn, 1) := by decide +kernel
theorem dX11_bracket_78 : decode cX11_bracket 78 = .ok (.aload_n 0, 1) := by decide +kernel
theorem dX11_bracket_79 : decode cX11_bracket 79 = .ok (.getfield 19, 3) := by decide +kernel
theorem dX11_bracket_82 : decode cX11_bracket 82 = .ok (.invokevirtual 110, 3) := by decide +kernel
theorem dX11_bracket_85 : decode cX11_bracket 85 = .ok (.iconst (-1), 1) := by decide +kernel
theorem dX11_bracket_86 : decode cX11_bracket 86 = .ok (.if_icmp .eq 10, 3) := by decide +kernel
theorem dX11_bracket_89 : decode cX11_bracket 89 = .ok (.aload_n 0, 1) := by decide +kernel
theorem dX11_bracket_90 : decode cX11_bracket 90 = .ok (.bipush (-3), 2) := by decide +kernel
theorem dX11_bracket_92 : decode cX11_bracket 92 = .ok (.invokevirtual 100, 3) := by decide +kernel
theorem dX11_bracket_95 : decode cX11_bracket 95 = .ok (.ireturn, 1) := by decide +kernel
theorem dX11_bracket_96 : decode cX11_bracket 96 = .ok (.aload_n 0, 1) := by decide +kernel
theorem dX11_bracket_97 : decode cX11_bracket 97 = .ok (.aload_n 0, 1) := by decide +kernel
theorem dX11_bracket_98 : decode cX11_bracket 98 = .ok (.getfield 19, 3) := by decide +kernel
theorem dX11_bracket_101 : decode cX11_bracket 101 = .ok (.invokevirtual 113, 3) := by decide +kernel
theorem dX11_bracket_104 : decode cX11_bracket 104 = .ok (.aload_n 0, 1) := by decide +kernel
theorem dX11_bracket_105 : decode cX11_bracket 105 = .ok (.getfield 16, 3) := by decide +kernel
theorem dX11_bracket_108 : decode cX11_bracket 108 = .ok (.invokevirtual 104, 3) := by decide +kernel
theorem dX11_bracket_111 : decode cX11_bracket 111 = .ok (.ireturn, 1) := by decide +kernel
theorem dX11_mend_0 : decode cX11_mend 0 = .ok (.aload_n 0, 1) := by decide +kernel
theorem dX11_mend_1 : decode cX11_mend 1 = .ok (.invokevirtual 126, 3) := by decide +kernel
theorem dX11_mend_4 : decode cX11_mend 4 = .ok (.ifCond .eq 10, 3) := by decide +kernel
theorem dX11_mend_7 : decode cX11_mend 7 = .ok (.aload_n 0, 1) := by decide +kernel
theorem dX11_mend_8 : decode cX11_mend 8 = .ok (.bipush (-5), 2) := by decide +kernel
theorem dX11_mend_10 : decode cX11_mend 10 = .ok (.invokevirtual 100, 3) := by decide +kernel
theorem dX11_mend_13 : decode cX11_mend 13 = .ok (.ireturn, 1) := by decide +kernel
theorem dX11_mend_14 : decode cX11_mend 14 = .ok (.aload_n 0, 1) := by decide +kernel
theorem dX11_mend_15 : decode cX11_mend 15 = .ok (.iload_n 1, 1) := by decide +kernel
theorem dX11_mend_16 : decode cX11_mend 16 = .ok (.invokevirtual 130, 3) := by decide +kernel
theorem dX11_mend_19 : decode cX11_mend 19 = .ok (.ifCond .eq 9, 3) := by decide +kernel
theorem dX11_mend_22 : decode cX11_mend 22 = .ok (.aload_n 0, 1) := by decide +kernel
theorem dX11_mend_23 : decode cX11_mend 23 = .ok (.iconst (-1), 1) := by decide +kernel
theorem dX11_mend_24 : decode cX11_mend 24 = .ok (.invokevirtual 100, 3) := by decide +kernel
theorem dX11_mend_27 : decode cX11_mend 27 = .ok (.ireturn, 1) := by decide +kernel
theorem dX11_mend_28 : decode cX11_mend 28 = .ok (.aload_n 0, 1) := by decide +kernel
theorem dX11_mend_29 : decode cX11_mend 29 = .ok (.getfield 32, 3) := by decide +kernel
theorem dX11_mend_32 : decode cX11_mend 32 = .ok (.aload_n 0, 1) := by decide +kernel
theorem dX11_mend_33 : decode cX11_mend 33 = .ok (.getfield 16, 3) := by decide +kernel
theorem dX11_mend_36 : decode cX11_mend 36 = .ok (.aload_n 0, 1) := by decide +kernel
theorem dX11_mend_37 : decode cX11_mend 37 = .ok (.getfield 25, 3) := by decide +kernel
theorem dX11_mend_40 : decode cX11_mend 40 = .ok (.iload_n 1, 1) := by decide +kernel
theorem dX11_mend_41 : decode cX11_mend 41 = .ok (.i2l, 1) := by decide +kernel
theorem dX11_mend_42 : decode cX11_mend 42 = .ok (.invokevirtual 134, 3) := by decide +kernel
theorem dX11_mend_45 : decode cX11_mend 45 = .ok (.aload_n 0, 1) := by decide +kernel
theorem dX11_mend_46 : decode cX11_mend 46 = .ok (.getfield 70, 3) := by decide +kernel
theorem dX11_mend_49 : decode cX11_mend 49 = .ok (.aload_n 0, 1) := by decide +kernel
theorem dX11_mend_50 : decode cX11_mend 50 = .ok (.getfield 32, 3) := by decide +kernel
theorem dX11_mend_53 : decode cX11_mend 53 = .ok (.invokevirtual 226, 3) := by decide +kernel
theorem dX11_mend_56 : decode cX11_mend 56 = .ok (.iconst 0, 1) := by decide +kernel
theorem dX11_mend_57 : decode cX11_mend 57 = .ok (.istore_n 2, 1) := by decide +kernel
theorem dX11_mend_58 : decode cX11_mend 58 = .ok (.iload_n 2, 1) := by decide +kernel
theorem dX11_mend_59 : decode cX11_mend 59 = .ok (.aload_n 0, 1) := by decide +kernel
theorem dX11_mend_60 : decode cX11_mend 60 = .ok (.getfield 39, 3) := by decide +kernel
theorem dX11_mend_63 : decode cX11_mend 63 = .ok (.invokevirtual 230, 3) := by decide +kernel
theorem dX11_mend_66 : decode cX11_mend 66 = .ok (.if_icmp .ge 57, 3) := by decide +kernel
theorem dX11_mend_69 : decode cX11_mend 69 = .ok (.aload_n 0, 1) := by decide +kernel
theorem dX11_mend_70 : decode cX11_mend 70 = .ok (.getfield 39, 3) := by decide +kernel
theorem dX11_mend_73 : decode cX11_mend 73 = .ok (.iload_n 2, 1) := by decide +kernel
theorem dX11_mend_74 : decode cX11_mend 74 = .ok (.invokevirtual 148, 3) := by decide +kernel
theorem dX11_mend_77 : decode cX11_mend 77 = .ok (.aload_n 0, 1) := by decide +kernel
theorem dX11_mend_78 : decode cX11_mend 78 = .ok (.getfield 39, 3) := by decide +kernel
theorem dX11_mend_81 : decode cX11_mend 81 = .ok (.iload_n 1, 1) := by decide +kernel
theorem dX11_mend_82 : decode cX11_mend 82 = .ok (.invokevirtual 148, 3) := by decide +kernel
theorem dX11_mend_85 : decode cX11_mend 85 = .ok (.lcmp, 1) := by decide +kernel
theorem dX11_mend_86 : decode cX11_mend 86 = .ok (.ifCond .eq 31, 3) := by decide +kernel
theorem dX11_mend_89 : decode cX11_mend 89 = .ok (.aload_n 0, 1) := by decide +kernel
theorem dX11_mend_90 : decode cX11_mend 90 = .ok (.getfield 32, 3) := by decide +kernel
theorem dX11_mend_93 : decode cX11_mend 93 = .ok (.aload_n 0, 1) := by decide +kernel
theorem dX11_mend_94 : decode cX11_mend 94 = .ok (.getfield 16, 3) := by decide +kernel
theorem dX11_mend_97 : decode cX11_mend 97 = .ok (.aload_n 0, 1) := by decide +kernel
theorem dX11_mend_98 : decode cX11_mend 98 = .ok (.getfield 25, 3) := by decide +kernel
theorem dX11_mend_101 : decode cX11_mend 101 = .ok (.iload_n 2, 1) := by decide +kernel
theorem dX11_mend_102 : decode cX11_mend 102 = .ok (.i2l, 1) := by decide +kernel
theorem dX11_mend_103 : decode cX11_mend 103 = .ok (.invokevirtual 134, 3) := by decide +kernel
theorem dX11_mend_106 : decode cX11_mend 106 = .ok (.aload_n 0, 1) := by decide +kernel
theorem dX11_mend_107 : decode cX11_mend 107 = .ok (.getfield 70, 3) := by decide +kernel
theorem dX11_mend_110 : decode cX11_mend 110 = .ok (.aload_n 0, 1) := by decide +kernel
theorem dX11_mend_111 : decode cX11_mend 111 = .ok (.getfield 32, 3) := by decide +kernel
theorem dX11_mend_114 : decode cX11_mend 114 = .ok (.invokevirtual 231, 3) := by decide +kernel
theorem dX11_mend_117 : decode cX11_mend 117 = .ok (.iinc 2 1, 3) := by decide +kernel
theorem dX11_mend_120 : decode cX11_mend 120 = .ok (.goto (-62), 3) := by decide +kernel
theorem dX11_mend_123 : decode cX11_mend 123 = .ok (.aload_n 0, 1) := by decide +kernel
theorem dX11_mend_124 : decode cX11_mend 124 = .ok (.getfield 70, 3) := by decide +kernel
theorem dX11_mend_127 : decode cX11_mend 127 = .ok (.invokevirtual 234, 3) := by decide +kernel
theorem dX11_mend_130 : decode cX11_mend 130 = .ok (.ireturn, 1) := by decide +kernel
theorem dX11_aim_0 : decode cX11_aim 0 = .ok (.iload_n 1, 1) := by decide +kernel
theorem dX11_aim_1 : decode cX11_aim 1 = .ok (.invokestatic 152, 3) := by decide +kernel
theorem dX11_aim_4 : decode cX11_aim 4 = .ok (.ifCond .eq 9, 3) := by decide +kernel
theorem dX11_aim_7 : decode cX11_aim 7 = .ok (.aload_n 0, 1) := by decide +kernel
theorem dX11_aim_8 : decode cX11_aim 8 = .ok (.iconst (-1), 1) := by decide +kernel
theorem dX11_aim_9 : decode cX11_aim 9 = .ok (.invokevirtual 100, 3) := by decide +kernel
theorem dX11_aim_12 : decode cX11_aim 12 = .ok (.ireturn, 1) := by decide +kernel
theorem dX11_aim_13 : decode cX11_aim 13 = .ok (.iload_n 2, 1) := by decide +kernel
theorem dX11_aim_14 : decode cX11_aim 14 = .ok (.bipush (-99), 2) := by decide +kernel
theorem dX11_aim_16 : decode cX11_aim 16 = .ok (.if_icmp .ge 10, 3) := by decide +kernel
theorem dX11_aim_19 : decode cX11_aim 19 = .ok (.aload_n 0, 1) := by decide +kernel
theorem dX11_aim_20 : decode cX11_aim 20 = .ok (.bipush (-4), 2) := by decide +kernel
theorem dX11_aim_22 : decode cX11_aim 22 = .ok (.invokevirtual 100, 3) := by decide +kernel
theorem dX11_aim_25 : decode cX11_aim 25 = .ok (.ireturn, 1) := by decide +kernel
theorem dX11_aim_26 : decode cX11_aim 26 = .ok (.iload_n 2, 1) := by decide +kernel
theorem dX11_aim_27 : decode cX11_aim 27 = .ok (.bipush 99, 2) := by decide +kernel
theorem dX11_aim_29 : decode cX11_aim 29 = .ok (.if_icmp .gt 15, 3) := by decide +kernel
theorem dX11_aim_32 : decode cX11_aim 32 = .ok (.aload_n 0, 1) := by decide +kernel
theorem dX11_aim_33 : decode cX11_aim 33 = .ok (.getfield 77, 3) := by decide +kernel
theorem dX11_aim_36 : decode cX11_aim 36 = .ok (.invokevirtual 237, 3) := by decide +kernel
theorem dX11_aim_39 : decode cX11_aim 39 = .ok (.bipush 8, 2) := by decide +kernel
theorem dX11_aim_41 : decode cX11_aim 41 = .ok (.if_icmp .lt 10, 3) := by decide +kernel
theorem dX11_aim_44 : decode cX11_aim 44 = .ok (.aload_n 0, 1) := by decide +kernel
theorem dX11_aim_45 : decode cX11_aim 45 = .ok (.bipush (-6), 2) := by decide +kernel
theorem dX11_aim_47 : decode cX11_aim 47 = .ok (.invokevirtual 100, 3) := by decide +kernel
theorem dX11_aim_50 : decode cX11_aim 50 = .ok (.ireturn, 1) := by decide +kernel
theorem dX11_aim_51 : decode cX11_aim 51 = .ok (.aload_n 0, 1) := by decide +kernel
theorem dX11_aim_52 : decode cX11_aim 52 = .ok (.getfield 77, 3) := by decide +kernel
theorem dX11_aim_55 : decode cX11_aim 55 = .ok (.iload_n 1, 1) := by decide +kernel
theorem dX11_aim_56 : decode cX11_aim 56 = .ok (.iload_n 2, 1) := by decide +kernel
theorem dX11_aim_57 : decode cX11_aim 57 = .ok (.invokevirtual 238, 3) := by decide +kernel
theorem dX11_aim_60 : decode cX11_aim 60 = .ok (.aload_n 0, 1) := by decide +kernel
theorem dX11_aim_61 : decode cX11_aim 61 = .ok (.getfield 77, 3) := by decide +kernel
theorem dX11_aim_64 : decode cX11_aim 64 = .ok (.invokevirtual 237, 3) := by decide +kernel
theorem dX11_aim_67 : decode cX11_aim 67 = .ok (.ireturn, 1) := by decide +kernel
theorem dX11_serves_0 : decode cX11_serves 0 = .ok (.aload_n 0, 1) := by decide +kernel
theorem dX11_serves_1 : decode cX11_serves 1 = .ok (.invokevirtual 126, 3) := by decide +kernel
theorem dX11_serves_4 : decode cX11_serves 4 = .ok (.ifCond .eq 13, 3) := by decide +kernel
theorem dX11_serves_7 : decode cX11_serves 7 = .ok (.ldc 241, 2) := by decide +kernel
theorem dX11_serves_9 : decode cX11_serves 9 = .ok (.aload_n 0, 1) := by decide +kernel
theorem dX11_serves_10 : decode cX11_serves 10 = .ok (.bipush (-5), 2) := by decide +kernel
theorem dX11_serves_12 : decode cX11_serves 12 = .ok (.invokevirtual 100, 3) := by decide +kernel
theorem dX11_serves_15 : decode cX11_serves 15 = .ok (.isub, 1) := by decide +kernel
theorem dX11_serves_16 : decode cX11_serves 16 = .ok (.ireturn, 1) := by decide +kernel
theorem dX11_serves_17 : decode cX11_serves 17 = .ok (.aload_n 0, 1) := by decide +kernel
theorem dX11_serves_18 : decode cX11_serves 18 = .ok (.iload_n 1, 1) := by decide +kernel
theorem dX11_serves_19 : decode cX11_serves 19 = .ok (.invokevirtual 130, 3) := by decide +kernel
theorem dX11_serves_22 : decode cX11_serves 22 = .ok (.ifCond .eq 12, 3) := by decide +kernel
theorem dX11_serves_25 : decode cX11_serves 25 = .ok (.ldc 241, 2) := by decide +kernel
theorem dX11_serves_27 : decode cX11_serves 27 = .ok (.aload_n 0, 1) := by decide +kernel
theorem dX11_serves_28 : decode cX11_serves 28 = .ok (.iconst (-1), 1) := by decide +kernel
theorem dX11_serves_29 : decode cX11_serves 29 = .ok (.invokevirtual 100, 3) := by decide +kernel
theorem dX11_serves_32 : decode cX11_serves 32 = .ok (.isub, 1) := by decide +kernel
theorem dX11_serves_33 : decode cX11_serves 33 = .ok (.ireturn, 1) := by decide +kernel
theorem dX11_serves_34 : decode cX11_serves 34 = .ok (.aload_n 0, 1) := by decide +kernel
theorem dX11_serves_35 : decode cX11_serves 35 = .ok (.getfield 77, 3) := by decide +kernel
theorem dX11_serves_38 : decode cX11_serves 38 = .ok (.aload_n 0, 1) := by decide +kernel
theorem dX11_serves_39 : decode cX11_serves 39 = .ok (.getfield 39, 3) := by decide +kernel
theorem dX11_serves_42 : decode cX11_serves 42 = .ok (.iload_n 1, 1) := by decide +kernel
theorem dX11_serves_43 : decode cX11_serves 43 = .ok (.invokevirtual 148, 3) := by decide +kernel
theorem dX11_serves_46 : decode cX11_serves 46 = .ok (.invokevirtual 242, 3) := by decide +kernel
theorem dX11_serves_49 : decode cX11_serves 49 = .ok (.ireturn, 1) := by decide +kernel
theorem dX11_best_0 : decode cX11_best 0 = .ok (.aload_n 0, 1) := by decide +kernel
theorem dX11_best_1 : decode cX11_best 1 = .ok (.invokevirtual 126, 3) := by decide +kernel
theorem dX11_best_4 : decode cX11_best 4 = .ok (.ifCond .eq 10, 3) := by decide +kernel
theorem dX11_best_7 : decode cX11_best 7 = .ok (.aload_n 0, 1) := by decide +kernel
theorem dX11_best_8 : decode cX11_best 8 = .ok (.bipush (-5), 2) := by decide +kernel
theorem dX11_best_10 : decode cX11_best 10 = .ok (.invokevirtual 100, 3) := by decide +kernel
theorem dX11_best_13 : decode cX11_best 13 = .ok (.ireturn, 1) := by decide +kernel
theorem dX11_best_14 : decode cX11_best 14 = .ok (.iconst 0, 1) := by decide +kernel
theorem dX11_best_15 : decode cX11_best 15 = .ok (.istore_n 1, 1) := by decide +kernel
theorem dX11_best_16 : decode cX11_best 16 = .ok (.iconst 1, 1) := by decide +kernel
theorem dX11_best_17 : decode cX11_best 17 = .ok (.istore_n 2, 1) := by decide +kernel
theorem dX11_best_18 : decode cX11_best 18 = .ok (.iload_n 2, 1) := by decide +kernel
theorem dX11_best_19 : decode cX11_best 19 = .ok (.aload_n 0, 1) := by decide +kernel
theorem dX11_best_20 : decode cX11_best 20 = .ok (.getfield 39, 3) := by decide +kernel
theorem dX11_best_23 : decode cX11_best 23 = .ok (.invokevirtual 230, 3) := by decide +kernel
theorem dX11_best_26 : decode cX11_best 26 = .ok (.if_icmp .ge 44, 3) := by decide +kernel
theorem dX11_best_29 : decode cX11_best 29 = .ok (.aload_n 0, 1) := by decide +kernel
theorem dX11_best_30 : decode cX11_best 30 = .ok (.getfield 77, 3) := by decide +kernel
theorem dX11_best_33 : decode cX11_best 33 = .ok (.aload_n 0, 1) := by decide +kernel
theorem dX11_best_34 : decode cX11_best 34 = .ok (.getfield 39, 3) := by decide +kernel
theorem dX11_best_37 : decode cX11_best 37 = .ok (.iload_n 2, 1) := by decide +kernel
theorem dX11_best_38 : decode cX11_best 38 = .ok (.invokevirtual 148, 3) := by decide +kernel
theorem dX11_best_41 : decode cX11_best 41 = .ok (.invokevirtual 242, 3) := by decide +kernel
theorem dX11_best_44 : decode cX11_best 44 = .ok (.aload_n 0, 1) := by decide +kernel
theorem dX11_best_45 : decode cX11_best 45 = .ok (.getfield 77, 3) := by decide +kernel
theorem dX11_best_48 : decode cX11_best 48 = .ok (.aload_n 0, 1) := by decide +kernel
theorem dX11_best_49 : decode cX11_best 49 = .ok (.getfield 39, 3) := by decide +kernel
theorem dX11_best_52 : decode cX11_best 52 = .ok (.iload_n 1, 1) := by decide +kernel
theorem dX11_best_53 : decode cX11_best 53 = .ok (.invokevirtual 148, 3) := by decide +kernel
theorem dX11_best_56 : decode cX11_best 56 = .ok (.invokevirtual 242, 3) := by decide +kernel
theorem dX11_best_59 : decode cX11_best 59 = .ok (.if_icmp .le 5, 3) := by decide +kernel
theorem dX11_best_62 : decode cX11_best 62 = .ok (.iload_n 2, 1) := by decide +kernel
theorem dX11_best_63 : decode cX11_best 63 = .ok (.istore_n 1, 1) := by decide +kernel
theorem dX11_best_64 : decode cX11_best 64 = .ok (.iinc 2 1, 3) := by decide +kernel
theorem dX11_best_67 : decode cX11_best 67 = .ok (.goto (-49), 3) := by decide +kernel
theorem dX11_best_70 : decode cX11_best 70 = .ok (.iload_n 1, 1) := by decide +kernel
theorem dX11_best_71 : decode cX11_best 71 = .ok (.ireturn, 1) := by decide +kernel
theorem dX11_image_0 : decode cX11_image 0 = .ok (.aload_n 0, 1) := by decide +kernel
theorem dX11_image_1 : decode cX11_image 1 = .ok (.getfield 84, 3) := by decide +kernel
theorem dX11_image_4 : decode cX11_image 4 = .ok (.aload_n 0, 1) := by decide +kernel
theorem dX11_image_5 : decode cX11_image 5 = .ok (.getfield 16, 3) := by decide +kernel
theorem dX11_image_8 : decode cX11_image 8 = .ok (.aload_n 0, 1) := by decide +kernel
theorem dX11_image_9 : decode cX11_image 9 = .ok (.getfield 53, 3) := by decide +kernel
theorem dX11_image_12 : decode cX11_image 12 = .ok (.aload_n 0, 1) := by decide +kernel
theorem dX11_image_13 : decode cX11_image 13 = .ok (.getfield 77, 3) := by decide +kernel
theorem dX11_image_16 : decode cX11_image 16 = .ok (.invokevirtual 245, 3) := by decide +kernel
theorem dX11_image_19 : decode cX11_image 19 = .ok (.aload_n 0, 1) := by decide +kernel
theorem dX11_image_20 : decode cX11_image 20 = .ok (.getfield 16, 3) := by decide +kernel
theorem dX11_image_23 : decode cX11_image 23 = .ok (.invokevirtual 104, 3) := by decide +kernel
theorem dX11_image_26 : decode cX11_image 26 = .ok (.ireturn, 1) := by decide +kernel
theorem dX11_on_0 : decode cX11_on 0 = .ok (.aload_n 0, 1) := by decide +kernel
theorem dX11_on_1 : decode cX11_on 1 = .ok (.getfield 84, 3) := by decide +kernel
theorem dX11_on_4 : decode cX11_on 4 = .ok (.invokevirtual 249, 3) := by decide +kernel
theorem dX11_on_7 : decode cX11_on 7 = .ok (.ifCond .ne 10, 3) := by decide +kernel
theorem dX11_on_10 : decode cX11_on 10 = .ok (.aload_n 0, 1) := by decide +kernel
theorem dX11_on_11 : decode cX11_on 11 = .ok (.bipush (-3), 2) := by decide +kernel
theorem dX11_on_13 : decode cX11_on 13 = .ok (.invokevirtual 100, 3) := by decide +kernel
theorem dX11_on_16 : decode cX11_on 16 = .ok (.ireturn, 1) := by decide +kernel
theorem dX11_on_17 : decode cX11_on 17 = .ok (.aload_n 0, 1) := by decide +kernel
theorem dX11_on_18 : decode cX11_on 18 = .ok (.aload_n 0, 1) := by decide +kernel
theorem dX11_on_19 : decode cX11_on 19 = .ok (.getfield 84, 3) := by decide +kernel
theorem dX11_on_22 : decode cX11_on 22 = .ok (.invokevirtual 252, 3) := by decide +kernel
theorem dX11_on_25 : decode cX11_on 25 = .ok (.invokevirtual 113, 3) := by decide +kernel
theorem dX11_on_28 : decode cX11_on 28 = .ok (.aload_n 0, 1) := by decide +kernel
theorem dX11_on_29 : decode cX11_on 29 = .ok (.getfield 53, 3) := by decide +kernel
theorem dX11_on_32 : decode cX11_on 32 = .ok (.aload_n 0, 1) := by decide +kernel
theorem dX11_on_33 : decode cX11_on 33 = .ok (.getfield 84, 3) := by decide +kernel
theorem dX11_on_36 : decode cX11_on 36 = .ok (.invokevirtual 256, 3) := by decide +kernel
theorem dX11_on_39 : decode cX11_on 39 = .ok (.invokevirtual 259, 3) := by decide +kernel
theorem dX11_on_42 : decode cX11_on 42 = .ok (.aload_n 0, 1) := by decide +kernel
theorem dX11_on_43 : decode cX11_on 43 = .ok (.getfield 77, 3) := by decide +kernel
theorem dX11_on_46 : decode cX11_on 46 = .ok (.aload_n 0, 1) := by decide +kernel
theorem dX11_on_47 : decode cX11_on 47 = .ok (.getfield 84, 3) := by decide +kernel
theorem dX11_on_50 : decode cX11_on 50 = .ok (.invokevirtual 263, 3) := by decide +kernel
theorem dX11_on_53 : decode cX11_on 53 = .ok (.invokevirtual 266, 3) := by decide +kernel
theorem dX11_on_56 : decode cX11_on 56 = .ok (.aload_n 0, 1) := by decide +kernel
theorem dX11_on_57 : decode cX11_on 57 = .ok (.getfield 16, 3) := by decide +kernel
theorem dX11_on_60 : decode cX11_on 60 = .ok (.invokevirtual 104, 3) := by decide +kernel
theorem dX11_on_63 : decode cX11_on 63 = .ok (.ireturn, 1) := by decide +kernel
theorem dX11_count_0 : decode cX11_count 0 = .ok (.iload_n 1, 1) := by decide +kernel
theorem dX11_count_1 : decode cX11_count 1 = .ok (.tableswitch 75 0 4 #[35, 43, 51, 59, 67], 35) := by decide +kernel
theorem dX11_count_36 : decode cX11_count 36 = .ok (.aload_n 0, 1) := by decide +kernel
theorem dX11_count_37 : decode cX11_count 37 = .ok (.getfield 16, 3) := by decide +kernel
theorem dX11_count_40 : decode cX11_count 40 = .ok (.invokevirtual 104, 3) := by decide +kernel
theorem dX11_count_43 : decode cX11_count 43 = .ok (.ireturn, 1) := by decide +kernel
theorem dX11_count_44 : decode cX11_count 44 = .ok (.aload_n 0, 1) := by decide +kernel
theorem dX11_count_45 : decode cX11_count 45 = .ok (.getfield 53, 3) := by decide +kernel
theorem dX11_count_48 : decode cX11_count 48 = .ok (.invokevirtual 195, 3) := by decide +kernel
theorem dX11_count_51 : decode cX11_count 51 = .ok (.ireturn, 1) := by decide +kernel
theorem dX11_count_52 : decode cX11_count 52 = .ok (.aload_n 0, 1) := by decide +kernel
theorem dX11_count_53 : decode cX11_count 53 = .ok (.getfield 77, 3) := by decide +kernel
theorem dX11_count_56 : decode cX11_count 56 = .ok (.invokevirtual 237, 3) := by decide +kernel
theorem dX11_count_59 : decode cX11_count 59 = .ok (.ireturn, 1) := by decide +kernel
theorem dX11_count_60 : decode cX11_count 60 = .ok (.aload_n 0, 1) := by decide +kernel
theorem dX11_count_61 : decode cX11_count 61 = .ok (.getfield 10, 3) := by decide +kernel
theorem dX11_count_64 : decode cX11_count 64 = .ok (.invokevirtual 104, 3) := by decide +kernel
theorem dX11_count_67 : decode cX11_count 67 = .ok (.ireturn, 1) := by decide +kernel
theorem dX11_count_68 : decode cX11_count 68 = .ok (.aload_n 0, 1) := by decide +kernel
theorem dX11_count_69 : decode cX11_count 69 = .ok (.getfield 16, 3) := by decide +kernel
theorem dX11_count_72 : decode cX11_count 72 = .ok (.invokevirtual 269, 3) := by decide +kernel
theorem dX11_count_75 : decode cX11_count 75 = .ok (.ireturn, 1) := by decide +kernel
theorem dX11_count_76 : decode cX11_count 76 = .ok (.iload_n 1, 1) := by decide +kernel
theorem dX11_count_77 : decode cX11_count 77 = .ok (.bipush 11, 2) := by decide +kernel
theorem dX11_count_79 : decode cX11_count 79 = .ok (.if_icmp .lt 23, 3) := by decide +kernel
theorem dX11_count_82 : decode cX11_count 82 = .ok (.iload_n 1, 1) := by decide +kernel
theorem dX11_count_83 : decode cX11_count 83 = .ok (.bipush 16, 2) := by decide +kernel
theorem dX11_count_85 : decode cX11_count 85 = .ok (.if_icmp .gt 17, 3) := by decide +kernel
theorem dX11_count_88 : decode cX11_count 88 = .ok (.aload_n 0, 1) := by decide +kernel
theorem dX11_count_89 : decode cX11_count 89 = .ok (.getfield 88, 3) := by decide +kernel
theorem dX11_count_92 : decode cX11_count 92 = .ok (.iload_n 1, 1) := by decide +kernel
theorem dX11_count_93 : decode cX11_count 93 = .ok (.bipush 10, 2) := by decide +kernel
theorem dX11_count_95 : decode cX11_count 95 = .ok (.isub, 1) := by decide +kernel
theorem dX11_count_96 : decode cX11_count 96 = .ok (.invokestatic 272, 3) := by decide +kernel
theorem dX11_count_99 : decode cX11_count 99 = .ok (.goto 5, 3) := by decide +kernel
theorem dX11_count_102 : decode cX11_count 102 = .ok (.bipush (-9), 2) := by decide +kernel
theorem dX11_count_104 : decode cX11_count 104 = .ok (.ireturn, 1) := by decide +kernel
theorem dX11_refuse_0 : decode cX11_refuse 0 = .ok (.aload_n 0, 1) := by decide +kernel
theorem dX11_refuse_1 : decode cX11_refuse 1 = .ok (.getfield 88, 3) := by decide +kernel
theorem dX11_refuse_4 : decode cX11_refuse 4 = .ok (.iload_n 1, 1) := by decide +kernel
theorem dX11_refuse_5 : decode cX11_refuse 5 = .ok (.ineg, 1) := by decide +kernel
theorem dX11_refuse_6 : decode cX11_refuse 6 = .ok (.aload_n 0, 1) := by decide +kernel
theorem dX11_refuse_7 : decode cX11_refuse 7 = .ok (.getfield 88, 3) := by decide +kernel
theorem dX11_refuse_10 : decode cX11_refuse 10 = .ok (.iload_n 1, 1) := by decide +kernel
theorem dX11_refuse_11 : decode cX11_refuse 11 = .ok (.ineg, 1) := by decide +kernel
theorem dX11_refuse_12 : decode cX11_refuse 12 = .ok (.invokestatic 272, 3) := by decide +kernel
theorem dX11_refuse_15 : decode cX11_refuse 15 = .ok (.iconst 1, 1) := by decide +kernel
theorem dX11_refuse_16 : decode cX11_refuse 16 = .ok (.iadd, 1) := by decide +kernel
theorem dX11_refuse_17 : decode cX11_refuse 17 = .ok (.invokestatic 276, 3) := by decide +kernel
theorem dX11_refuse_20 : decode cX11_refuse 20 = .ok (.iload_n 1, 1) := by decide +kernel
theorem dX11_refuse_21 : decode cX11_refuse 21 = .ok (.ireturn, 1) := by decide +kernel
theorem dX11_takeSentence_0 : decode cX11_takeSentence 0 = .ok (.aload_n 0, 1) := by decide +kernel
theorem dX11_takeSentence_1 : decode cX11_takeSentence 1 = .ok (.getfield 16, 3) := by decide +kernel
theorem dX11_takeSentence_4 : decode cX11_takeSentence 4 = .ok (.aload_n 1, 1) := by decide +kernel
theorem dX11_takeSentence_5 : decode cX11_takeSentence 5 = .ok (.invokevirtual 280, 3) := by decide +kernel
theorem dX11_takeSentence_8 : decode cX11_takeSentence 8 = .ok (.aload_n 0, 1) := by decide +kernel
theorem dX11_takeSentence_9 : decode cX11_takeSentence 9 = .ok (.getfield 25, 3) := by decide +kernel
theorem dX11_takeSentence_12 : decode cX11_takeSentence 12 = .ok (.aload_n 0, 1) := by decide +kernel
theorem dX11_takeSentence_13 : decode cX11_takeSentence 13 = .ok (.getfield 16, 3) := by decide +kernel
theorem dX11_takeSentence_16 : decode cX11_takeSentence 16 = .ok (.invokevirtual 96, 3) := by decide +kernel
theorem dX11_takeSentence_19 : decode cX11_takeSentence 19 = .ok (.aload_n 0, 1) := by decide +kernel
theorem dX11_takeSentence_20 : decode cX11_takeSentence 20 = .ok (.getfield 39, 3) := by decide +kernel
theorem dX11_takeSentence_23 : decode cX11_takeSentence 23 = .ok (.invokevirtual 282, 3) := by decide +kernel
theorem dX11_takeSentence_26 : decode cX11_takeSentence 26 = .ok (.return_, 1) := by decide +kernel
theorem dX11_spent_0 : decode cX11_spent 0 = .ok (.aload_n 0, 1) := by decide +kernel
theorem dX11_spent_1 : decode cX11_spent 1 = .ok (.invokevirtual 285, 3) := by decide +kernel
theorem dX11_spent_4 : decode cX11_spent 4 = .ok (.lstore_n 1, 1) := by decide +kernel
theorem dX11_spent_5 : decode cX11_spent 5 = .ok (.lload_n 1, 1) := by decide +kernel
theorem dX11_spent_6 : decode cX11_spent 6 = .ok (.ldc2_w 288, 3) := by decide +kernel
theorem dX11_spent_9 : decode cX11_spent 9 = .ok (.lcmp, 1) := by decide +kernel
theorem dX11_spent_10 : decode cX11_spent 10 = .ok (.ifCond .le 5, 3) := by decide +kernel
theorem dX11_spent_13 : decode cX11_spent 13 = .ok (.iconst 1, 1) := by decide +kernel
theorem dX11_spent_14 : decode cX11_spent 14 = .ok (.ireturn, 1) := by decide +kernel
theorem dX11_spent_15 : decode cX11_spent 15 = .ok (.aload_n 0, 1) := by decide +kernel
theorem dX11_spent_16 : decode cX11_spent 16 = .ok (.getfield 39, 3) := by decide +kernel
theorem dX11_spent_19 : decode cX11_spent 19 = .ok (.invokevirtual 290, 3) := by decide +kernel
theorem dX11_spent_22 : decode cX11_spent 22 = .ok (.ifCond .ne 24, 3) := by decide +kernel
theorem dX11_spent_25 : decode cX11_spent 25 = .ok (.aload_n 0, 1) := by decide +kernel
theorem dX11_spent_26 : decode cX11_spent 26 = .ok (.getfield 39, 3) := by decide +kernel
theorem dX11_spent_29 : decode cX11_spent 29 = .ok (.aload_n 0, 1) := by decide +kernel
theorem dX11_spent_30 : decode cX11_spent 30 = .ok (.getfield 16, 3) := by decide +kernel
theorem dX11_spent_33 : decode cX11_spent 33 = .ok (.aload_n 0, 1) := by decide +kernel
theorem dX11_spent_34 : decode cX11_spent 34 = .ok (.getfield 25, 3) := by decide +kernel
theorem dX11_spent_37 : decode cX11_spent 37 = .ok (.aload_n 0, 1) := by decide +kernel
theorem dX11_spent_38 : decode cX11_spent 38 = .ok (.getfield 32, 3) := by decide +kernel
theorem dX11_spent_41 : decode cX11_spent 41 = .ok (.lload_n 1, 1) := by decide +kernel
theorem dX11_spent_42 : decode cX11_spent 42 = .ok (.l2i, 1) := by decide +kernel
theorem dX11_spent_43 : decode cX11_spent 43 = .ok (.invokevirtual 293, 3) := by decide +kernel
theorem dX11_spent_46 : decode cX11_spent 46 = .ok (.iconst 0, 1) := by decide +kernel
theorem dX11_spent_47 : decode cX11_spent 47 = .ok (.ireturn, 1) := by decide +kernel
theorem dX11_noReading_0 : decode cX11_noReading 0 = .ok (.iload_n 1, 1) := by decide +kernel
theorem dX11_noReading_1 : decode cX11_noReading 1 = .ok (.ifCond .lt 14, 3) := by decide +kernel
theorem dX11_noReading_4 : decode cX11_noReading 4 = .ok (.iload_n 1, 1) := by decide +kernel
theorem dX11_noReading_5 : decode cX11_noReading 5 = .ok (.aload_n 0, 1) := by decide +kernel
theorem dX11_noReading_6 : decode cX11_noReading 6 = .ok (.getfield 39, 3) := by decide +kernel
theorem dX11_noReading_9 : decode cX11_noReading 9 = .ok (.invokevirtual 230, 3) := by decide +kernel
theorem dX11_noReading_12 : decode cX11_noReading 12 = .ok (.if_icmp .lt 7, 3) := by decide +kernel
theorem dX11_noReading_15 : decode cX11_noReading 15 = .ok (.iconst 1, 1) := by decide +kernel
theorem dX11_noReading_16 : decode cX11_noReading 16 = .ok (.goto 4, 3) := by decide +kernel
theorem dX11_noReading_19 : decode cX11_noReading 19 = .ok (.iconst 0, 1) := by decide +kernel
theorem dX11_noReading_20 : decode cX11_noReading 20 = .ok (.ireturn, 1) := by decide +kernel
theorem dX11_noCase_0 : decode cX11_noCase 0 = .ok (.iload_n 0, 1) := by decide +kernel
theorem dX11_noCase_1 : decode cX11_noCase 1 = .ok (.ifCond .lt 9, 3) := by decide +kernel
theorem dX11_noCase_4 : decode cX11_noCase 4 = .ok (.iload_n 0, 1) := by decide +kernel
theorem dX11_noCase_5 : decode cX11_noCase 5 = .ok (.bipush 32, 2) := by decide +kernel
theorem dX11_noCase_7 : decode cX11_noCase 7 = .ok (.if_icmp .lt 7, 3) := by decide +kernel
theorem dX11_noCase_10 : decode cX11_noCase 10 = .ok (.iconst 1, 1) := by decide +kernel
theorem dX11_noCase_11 : decode cX11_noCase 11 = .ok (.goto 4, 3) := by decide +kernel
theorem dX11_noCase_14 : decode cX11_noCase 14 = .ok (.iconst 0, 1) := by decide +kernel
theorem dX11_noCase_15 : decode cX11_noCase 15 = .ok (.ireturn, 1) := by decide +kernel
theorem dX11_noRule_0 : decode cX11_noRule 0 = .ok (.iload_n 0, 1) := by decide +kernel
theorem dX11_noRule_1 : decode cX11_noRule 1 = .ok (.ifCond .lt 9, 3) := by decide +kernel
theorem dX11_noRule_4 : decode cX11_noRule 4 = .ok (.iload_n 0, 1) := by decide +kernel
theorem dX11_noRule_5 : decode cX11_noRule 5 = .ok (.bipush 6, 2) := by decide +kernel
theorem dX11_noRule_7 : decode cX11_noRule 7 = .ok (.if_icmp .lt 7, 3) := by decide +kernel
theorem dX11_noRule_10 : decode cX11_noRule 10 = .ok (.iconst 1, 1) := by decide +kernel
theorem dX11_noRule_11 : decode cX11_noRule 11 = .ok (.goto 4, 3) := by decide +kernel
theorem dX11_noRule_14 : decode cX11_noRule 14 = .ok (.iconst 0, 1) := by decide +kernel
theorem dX11_noRule_15 : decode cX11_noRule 15 = .ok (.ireturn, 1) := by decide +kernel
theorem dX11_kindOf_0 : decode cX11_kindOf 0 = .ok (.iload_n 0, 1) := by decide +kernel
theorem dX11_kindOf_1 : decode cX11_kindOf 1 = .ok (.lookupswitch 114 #[(33, 101), (38, 105), (40, 103), (45, 111), (62, 109), (97, 99), (98, 99), (99, 99), (100, 99), (101, 99), (124, 107)], 99) := by decide +kernel
theorem dX11_kindOf_100 : decode cX11_kindOf 100 = .ok (.iconst 0, 1) := by decide +kernel
theorem dX11_kindOf_101 : decode cX11_kindOf 101 = .ok (.ireturn, 1) := by decide +kernel
theorem dX11_kindOf_102 : decode cX11_kindOf 102 = .ok (.iconst 1, 1) := by decide +kernel
theorem dX11_kindOf_103 : decode cX11_kindOf 103 = .ok (.ireturn, 1) := by decide +kernel
theorem dX11_kindOf_104 : decode cX11_kindOf 104 = .ok (.iconst 2, 1) := by decide +kernel
theorem dX11_kindOf_105 : decode cX11_kindOf 105 = .ok (.ireturn, 1) := by decide +kernel
theorem dX11_kindOf_106 : decode cX11_kindOf 106 = .ok (.iconst 3, 1) := by decide +kernel
theorem dX11_kindOf_107 : decode cX11_kindOf 107 = .ok (.ireturn, 1) := by decide +kernel
theorem dX11_kindOf_108 : decode cX11_kindOf 108 = .ok (.iconst 4, 1) := by decide +kernel
theorem dX11_kindOf_109 : decode cX11_kindOf 109 = .ok (.ireturn, 1) := by decide +kernel
theorem dX11_kindOf_110 : decode cX11_kindOf 110 = .ok (.iconst 5, 1) := by decide +kernel
theorem dX11_kindOf_111 : decode cX11_kindOf 111 = .ok (.ireturn, 1) := by decide +kernel
theorem dX11_kindOf_112 : decode cX11_kindOf 112 = .ok (.bipush 6, 2) := by decide +kernel
theorem dX11_kindOf_114 : decode cX11_kindOf 114 = .ok (.ireturn, 1) := by decide +kernel
theorem dX11_kindOf_115 : decode cX11_kindOf 115 = .ok (.iconst (-1), 1) := by decide +kernel
theorem dX11_kindOf_116 : decode cX11_kindOf 116 = .ok (.ireturn, 1) := by decide +kernel
theorem dX11_casesOf_0 : decode cX11_casesOf 0 = .ok (.getstatic 297, 3) := by decide +kernel
theorem dX11_casesOf_3 : decode cX11_casesOf 3 = .ok (.iload_n 0, 1) := by decide +kernel
theorem dX11_casesOf_4 : decode cX11_casesOf 4 = .ok (.bipush 97, 2) := by decide +kernel
theorem dX11_casesOf_6 : decode cX11_casesOf 6 = .ok (.isub, 1) := by decide +kernel
theorem dX11_casesOf_7 : decode cX11_casesOf 7 = .ok (.invokestatic 301, 3) := by decide +kernel
theorem dX11_casesOf_10 : decode cX11_casesOf 10 = .ok (.lreturn, 1) := by decide +kernel
theorem dX11_isJoin_0 : decode cX11_isJoin 0 = .ok (.iload_n 0, 1) := by decide +kernel
theorem dX11_isJoin_1 : decode cX11_isJoin 1 = .ok (.iconst 3, 1) := by decide +kernel
theorem dX11_isJoin_2 : decode cX11_isJoin 2 = .ok (.if_icmp .lt 7, 3) := by decide +kernel
theorem dX11_isJoin_5 : decode cX11_isJoin 5 = .ok (.iconst 1, 1) := by decide +kernel
theorem dX11_isJoin_6 : decode cX11_isJoin 6 = .ok (.goto 4, 3) := by decide +kernel
theorem dX11_isJoin_9 : decode cX11_isJoin 9 = .ok (.iconst 0, 1) := by decide +kernel
theorem dX11_isJoin_10 : decode cX11_isJoin 10 = .ok (.ireturn, 1) := by decide +kernel
theorem dX11_bit_0 : decode cX11_bit 0 = .ok (.lload_n 0, 1) := by decide +kernel
theorem dX11_bit_1 : decode cX11_bit 1 = .ok (.iload_n 2, 1) := by decide +kernel
theorem dX11_bit_2 : decode cX11_bit 2 = .ok (.lushr, 1) := by decide +kernel
theorem dX11_bit_3 : decode cX11_bit 3 = .ok (.lconst 1, 1) := by decide +kernel
theorem dX11_bit_4 : decode cX11_bit 4 = .ok (.land, 1) := by decide +kernel
theorem dX11_bit_5 : decode cX11_bit 5 = .ok (.l2i, 1) := by decide +kernel
theorem dX11_bit_6 : decode cX11_bit 6 = .ok (.ireturn, 1) := by decide +kernel
theorem dX11_leastCase_0 : decode cX11_leastCase 0 = .ok (.iconst 0, 1) := by decide +kernel
theorem dX11_leastCase_1 : decode cX11_leastCase 1 = .ok (.istore_n 2, 1) := by decide +kernel
theorem dX11_leastCase_2 : decode cX11_leastCase 2 = .ok (.iload_n 2, 1) := by decide +kernel
theorem dX11_leastCase_3 : decode cX11_leastCase 3 = .ok (.bipush 32, 2) := by decide +kernel
theorem dX11_leastCase_5 : decode cX11_leastCase 5 = .ok (.if_icmp .ge 20, 3) := by decide +kernel
theorem dX11_leastCase_8 : decode cX11_leastCase 8 = .ok (.lload_n 0, 1) := by decide +kernel
theorem dX11_leastCase_9 : decode cX11_leastCase 9 = .ok (.iload_n 2, 1) := by decide +kernel
theorem dX11_leastCase_10 : decode cX11_leastCase 10 = .ok (.invokestatic 155, 3) := by decide +kernel
theorem dX11_leastCase_13 : decode cX11_leastCase 13 = .ok (.iconst 1, 1) := by decide +kernel
theorem dX11_leastCase_14 : decode cX11_leastCase 14 = .ok (.if_icmp .ne 5, 3) := by decide +kernel
theorem dX11_leastCase_17 : decode cX11_leastCase 17 = .ok (.iload_n 2, 1) := by decide +kernel
theorem dX11_leastCase_18 : decode cX11_leastCase 18 = .ok (.ireturn, 1) := by decide +kernel
theorem dX11_leastCase_19 : decode cX11_leastCase 19 = .ok (.iinc 2 1, 3) := by decide +kernel
theorem dX11_leastCase_22 : decode cX11_leastCase 22 = .ok (.goto (-20), 3) := by decide +kernel
theorem dX11_leastCase_25 : decode cX11_leastCase 25 = .ok (.bipush (-9), 2) := by decide +kernel
theorem dX11_leastCase_27 : decode cX11_leastCase 27 = .ok (.ireturn, 1) := by decide +kernel
theorem dX11_look_0 : decode cX11_look 0 = .ok (.iload_n 1, 1) := by decide +kernel
theorem dX11_look_1 : decode cX11_look 1 = .ok (.ifCond .lt 15, 3) := by decide +kernel
theorem dX11_look_4 : decode cX11_look 4 = .ok (.iload_n 1, 1) := by decide +kernel
theorem dX11_look_5 : decode cX11_look 5 = .ok (.aload_n 0, 1) := by decide +kernel
theorem dX11_look_6 : decode cX11_look 6 = .ok (.arraylength, 1) := by decide +kernel
theorem dX11_look_7 : decode cX11_look 7 = .ok (.if_icmp .ge 9, 3) := by decide +kernel
theorem dX11_look_10 : decode cX11_look 10 = .ok (.aload_n 0, 1) := by decide +kernel
theorem dX11_look_11 : decode cX11_look 11 = .ok (.iload_n 1, 1) := by decide +kernel
theorem dX11_look_12 : decode cX11_look 12 = .ok (.iaload, 1) := by decide +kernel
theorem dX11_look_13 : decode cX11_look 13 = .ok (.goto 4, 3) := by decide +kernel
theorem dX11_look_16 : decode cX11_look 16 = .ok (.iconst 0, 1) := by decide +kernel
theorem dX11_look_17 : decode cX11_look 17 = .ok (.ireturn, 1) := by decide +kernel
theorem dX11_look__0 : decode cX11_look_ 0 = .ok (.iload_n 1, 1) := by decide +kernel
theorem dX11_look__1 : decode cX11_look_ 1 = .ok (.ifCond .lt 15, 3) := by decide +kernel
theorem dX11_look__4 : decode cX11_look_ 4 = .ok (.iload_n 1, 1) := by decide +kernel
theorem dX11_look__5 : decode cX11_look_ 5 = .ok (.aload_n 0, 1) := by decide +kernel
theorem dX11_look__6 : decode cX11_look_ 6 = .ok (.arraylength, 1) := by decide +kernel
theorem dX11_look__7 : decode cX11_look_ 7 = .ok (.if_icmp .ge 9, 3) := by decide +kernel
theorem dX11_look__10 : decode cX11_look_ 10 = .ok (.aload_n 0, 1) := by decide +kernel
theorem dX11_look__11 : decode cX11_look_ 11 = .ok (.iload_n 1, 1) := by decide +kernel
theorem dX11_look__12 : decode cX11_look_ 12 = .ok (.laload, 1) := by decide +kernel
theorem dX11_look__13 : decode cX11_look_ 13 = .ok (.goto 4, 3) := by decide +kernel
theorem dX11_look__16 : decode cX11_look_ 16 = .ok (.lconst 0, 1) := by decide +kernel
theorem dX11_look__17 : decode cX11_look_ 17 = .ok (.lreturn, 1) := by decide +kernel
theorem dX11_put_0 : decode cX11_put 0 = .ok (.iload_n 1, 1) := by decide +kernel
theorem dX11_put_1 : decode cX11_put 1 = .ok (.ifCond .lt 13, 3) := by decide +kernel
theorem dX11_put_4 : decode cX11_put 4 = .ok (.iload_n 1, 1) := by decide +kernel
theorem dX11_put_5 : decode cX11_put 5 = .ok (.aload_n 0, 1) := by decide +kernel
theorem dX11_put_6 : decode cX11_put 6 = .ok (.arraylength, 1) := by decide +kernel
theorem dX11_put_7 : decode cX11_put 7 = .ok (.if_icmp .ge 7, 3) := by decide +kernel
theorem dX11_put_10 : decode cX11_put 10 = .ok (.aload_n 0, 1) := by decide +kernel
theorem dX11_put_11 : decode cX11_put 11 = .ok (.iload_n 1, 1) := by decide +kernel
theorem dX11_put_12 : decode cX11_put 12 = .ok (.iload_n 2, 1) := by decide +kernel
theorem dX11_put_13 : decode cX11_put 13 = .ok (.iastore, 1) := by decide +kernel
theorem dX11_put_14 : decode cX11_put 14 = .ok (.return_, 1) := by decide +kernel
theorem dX11_put__0 : decode cX11_put_ 0 = .ok (.iload_n 1, 1) := by decide +kernel
theorem dX11_put__1 : decode cX11_put_ 1 = .ok (.ifCond .lt 13, 3) := by decide +kernel
theorem dX11_put__4 : decode cX11_put_ 4 = .ok (.iload_n 1, 1) := by decide +kernel
theorem dX11_put__5 : decode cX11_put_ 5 = .ok (.aload_n 0, 1) := by decide +kernel
theorem dX11_put__6 : decode cX11_put_ 6 = .ok (.arraylength, 1) := by decide +kernel
theorem dX11_put__7 : decode cX11_put_ 7 = .ok (.if_icmp .ge 7, 3) := by decide +kernel
theorem dX11_put__10 : decode cX11_put_ 10 = .ok (.aload_n 0, 1) := by decide +kernel
theorem dX11_put__11 : decode cX11_put_ 11 = .ok (.iload_n 1, 1) := by decide +kernel
theorem dX11_put__12 : decode cX11_put_ 12 = .ok (.lload_n 2, 1) := by decide +kernel
theorem dX11_put__13 : decode cX11_put_ 13 = .ok (.lastore, 1) := by decide +kernel
theorem dX11_put__14 : decode cX11_put_ 14 = .ok (.return_, 1) := by decide +kernel
theorem dX12_init_0 : decode cX12_init 0 = .ok (.aload_n 0, 1) := by decide +kernel
theorem dX12_init_1 : decode cX12_init 1 = .ok (.invokespecial 1, 3) := by decide +kernel
theorem dX12_init_4 : decode cX12_init 4 = .ok (.aload_n 0, 1) := by decide +kernel
theorem dX12_init_5 : decode cX12_init 5 = .ok (.bipush 7, 2) := by decide +kernel
theorem dX12_init_7 : decode cX12_init 7 = .ok (.newarray .int, 2) := by decide +kernel
theorem dX12_init_9 : decode cX12_init 9 = .ok (.putfield 7, 3) := by decide +kernel
theorem dX12_init_12 : decode cX12_init 12 = .ok (.aload_n 0, 1) := by decide +kernel
theorem dX12_init_13 : decode cX12_init 13 = .ok (.bipush 21, 2) := by decide +kernel
theorem dX12_init_15 : decode cX12_init 15 = .ok (.newarray .int, 2) := by decide +kernel
theorem dX12_init_17 : decode cX12_init 17 = .ok (.putfield 13, 3) := by decide +kernel
theorem dX12_init_20 : decode cX12_init 20 = .ok (.aload_n 0, 1) := by decide +kernel
theorem dX12_init_21 : decode cX12_init 21 = .ok (.bipush 21, 2) := by decide +kernel
theorem dX12_init_23 : decode cX12_init 23 = .ok (.newarray .int, 2) := by decide +kernel
theorem dX12_init_25 : decode cX12_init 25 = .ok (.putfield 16, 3) := by decide +kernel
theorem dX12_init_28 : decode cX12_init 28 = .ok (.aload_n 0, 1) := by decide +kernel
theorem dX12_init_29 : decode cX12_init 29 = .ok (.bipush 6, 2) := by decide +kernel
theorem dX12_init_31 : decode cX12_init 31 = .ok (.newarray .int, 2) := by decide +kernel
theorem dX12_init_33 : decode cX12_init 33 = .ok (.putfield 19, 3) := by decide +kernel
theorem dX12_init_36 : decode cX12_init 36 = .ok (.aload_n 0, 1) := by decide +kernel
theorem dX12_init_37 : decode cX12_init 37 = .ok (.bipush 8, 2) := by decide +kernel
theorem dX12_init_39 : decode cX12_init 39 = .ok (.newarray .int, 2) := by decide +kernel
theorem dX12_init_41 : decode cX12_init 41 = .ok (.putfield 22, 3) := by decide +kernel
theorem dX12_init_44 : decode cX12_init 44 = .ok (.aload_n 0, 1) := by decide +kernel
theorem dX12_init_45 : decode cX12_init 45 = .ok (.bipush 8, 2) := by decide +kernel
theorem dX12_init_47 : decode cX12_init 47 = .ok (.newarray .int, 2) := by decide +kernel
theorem dX12_init_49 : decode cX12_init 49 = .ok (.putfield 25, 3) := by decide +kernel
theorem dX12_init_52 : decode cX12_init 52 = .ok (.aload_n 0, 1) := by decide +kernel
theorem dX12_init_53 : decode cX12_init 53 = .ok (.bipush 21, 2) := by decide +kernel
theorem dX12_init_55 : decode cX12_init 55 = .ok (.newarray .int, 2) := by decide +kernel
theorem dX12_init_57 : decode cX12_init 57 = .ok (.putfield 28, 3) := by decide +kernel
theorem dX12_init_60 : decode cX12_init 60 = .ok (.aload_n 0, 1) := by decide +kernel
theorem dX12_init_61 : decode cX12_init 61 = .ok (.bipush 6, 2) := by decide +kernel
theorem dX12_init_63 : decode cX12_init 63 = .ok (.newarray .int, 2) := by decide +kernel
theorem dX12_init_65 : decode cX12_init 65 = .ok (.putfield 31, 3) := by decide +kernel
theorem dX12_init_68 : decode cX12_init 68 = .ok (.aload_n 0, 1) := by decide +kernel
theorem dX12_init_69 : decode cX12_init 69 = .ok (.bipush 8, 2) := by decide +kernel
theorem dX12_init_71 : decode cX12_init 71 = .ok (.newarray .int, 2) := by decide +kernel
theorem dX12_init_73 : decode cX12_init 73 = .ok (.putfield 34, 3) := by decide +kernel
theorem dX12_init_76 : decode cX12_init 76 = .ok (.aload_n 0, 1) := by decide +kernel
theorem dX12_init_77 : decode cX12_init 77 = .ok (.bipush 8, 2) := by decide +kernel
theorem dX12_init_79 : decode cX12_init 79 = .ok (.newarray .int, 2) := by decide +kernel
theorem dX12_init_81 : decode cX12_init 81 = .ok (.putfield 37, 3) := by decide +kernel
theorem dX12_init_84 : decode cX12_init 84 = .ok (.aload_n 0, 1) := by decide +kernel
theorem dX12_init_85 : decode cX12_init 85 = .ok (.sipush 484, 3) := by decide +kernel
theorem dX12_init_88 : decode cX12_init 88 = .ok (.newarray .long, 2) := by decide +kernel
theorem dX12_init_90 : decode cX12_init 90 = .ok (.putfield 40, 3) := by decide +kernel
theorem dX12_init_93 : decode cX12_init 93 = .ok (.aload_n 0, 1) := by decide +kernel
theorem dX12_init_94 : decode cX12_init 94 = .ok (.sipush 4200, 3) := by decide +kernel
theorem dX12_init_97 : decode cX12_init 97 = .ok (.newarray .int, 2) := by decide +kernel
theorem dX12_init_99 : decode cX12_init 99 = .ok (.putfield 44, 3) := by decide +kernel
theorem dX12_init_102 : decode cX12_init 102 = .ok (.aload_n 0, 1) := by decide +kernel
theorem dX12_init_103 : decode cX12_init 103 = .ok (.sipush 4200, 3) := by decide +kernel
theorem dX12_init_106 : decode cX12_init 106 = .ok (.newarray .int, 2) := by decide +kernel
theorem dX12_init_108 : decode cX12_init 108 = .ok (.putfield 47, 3) := by decide +kernel
theorem dX12_init_111 : decode cX12_init 111 = .ok (.aload_n 0, 1) := by decide +kernel
theorem dX12_init_112 : decode cX12_init 112 = .ok (.sipush 4200, 3) := by decide +kernel
theorem dX12_init_115 : decode cX12_init 115 = .ok (.newarray .int, 2) := by decide +kernel
theorem dX12_init_117 : decode cX12_init 117 = .ok (.putfield 50, 3) := by decide +kernel
theorem dX12_init_120 : decode cX12_init 120 = .ok (.aload_n 0, 1) := by decide +kernel
theorem dX12_init_121 : decode cX12_init 121 = .ok (.sipush 200, 3) := by decide +kernel
theorem dX12_init_124 : decode cX12_init 124 = .ok (.newarray .int, 2) := by decide +kernel
theorem dX12_init_126 : decode cX12_init 126 = .ok (.putfield 53, 3) := by decide +kernel
theorem dX12_init_129 : decode cX12_init 129 = .ok (.aload_n 0, 1) := by decide +kernel
theorem dX12_init_130 : decode cX12_init 130 = .ok (.sipush 200, 3) := by decide +kernel
theorem dX12_init_133 : decode cX12_init 133 = .ok (.newarray .int, 2) := by decide +kernel
theorem dX12_init_135 : decode cX12_init 135 = .ok (.putfield 56, 3) := by decide +kernel
theorem dX12_init_138 : decode cX12_init 138 = .ok (.aload_n 0, 1) := by decide +kernel
theorem dX12_init_139 : decode cX12_init 139 = .ok (.sipush 200, 3) := by decide +kernel
theorem dX12_init_142 : decode cX12_init 142 = .ok (.newarray .int, 2) := by decide +kernel
theorem dX12_init_144 : decode cX12_init 144 = .ok (.putfield 59, 3) := by decide +kernel
theorem dX12_init_147 : decode cX12_init 147 = .ok (.aload_n 0, 1) := by decide +kernel
theorem dX12_init_148 : decode cX12_init 148 = .ok (.sipush 200, 3) := by decide +kernel
theorem dX12_init_151 : decode cX12_init 151 = .ok (.newarray .long, 2) := by decide +kernel
theorem dX12_init_153 : decode cX12_init 153 = .ok (.putfield 62, 3) := by decide +kernel
theorem dX12_init_156 : decode cX12_init 156 = .ok (.aload_n 0, 1) := by decide +kernel
theorem dX12_init_157 : decode cX12_init 157 = .ok (.bipush (-9), 2) := by decide +kernel
theorem dX12_init_159 : decode cX12_init 159 = .ok (.putfield 65, 3) := by decide +kernel
theorem dX12_init_162 : decode cX12_init 162 = .ok (.aload_n 0, 1) := by decide +kernel
theorem dX12_init_163 : decode cX12_init 163 = .ok (.iconst 5, 1) := by decide +kernel
theorem dX12_init_164 : decode cX12_init 164 = .ok (.newarray .long, 2) := by decide +kernel
theorem dX12_init_166 : decode cX12_init 166 = .ok (.putfield 69, 3) := by decide +kernel
theorem dX12_init_169 : decode cX12_init 169 = .ok (.aload_n 0, 1) := by decide +kernel
theorem dX12_init_170 : decode cX12_init 170 = .ok (.sipush 200, 3) := by decide +kernel
theorem dX12_init_173 : decode cX12_init 173 = .ok (.newarray .long, 2) := by decide +kernel
theorem dX12_init_175 : decode cX12_init 175 = .ok (.putfield 72, 3) := by decide +kernel
theorem dX12_init_178 : decode cX12_init 178 = .ok (.aload_n 0, 1) := by decide +kernel
theorem dX12_init_179 : decode cX12_init 179 = .ok (.sipush 200, 3) := by decide +kernel
theorem dX12_init_182 : decode cX12_init 182 = .ok (.newarray .boolean, 2) := by decide +kernel
theorem dX12_init_184 : decode cX12_init 184 = .ok (.putfield 75, 3) := by decide +kernel
theorem dX12_init_187 : decode cX12_init 187 = .ok (.aload_n 0, 1) := by decide +kernel
theorem dX12_init_188 : decode cX12_init 188 = .ok (.sipush 200, 3) := by decide +kernel
theorem dX12_init_191 : decode cX12_init 191 = .ok (.newarray .boolean, 2) := by decide +kernel
theorem dX12_init_193 : decode cX12_init 193 = .ok (.putfield 79, 3) := by decide +kernel
theorem dX12_init_196 : decode cX12_init 196 = .ok (.aload_n 0, 1) := by decide +kernel
theorem dX12_init_197 : decode cX12_init 197 = .ok (.bipush 23, 2) := by decide +kernel
theorem dX12_init_199 : decode cX12_init 199 = .ok (.newarray .int, 2) := by decide +kernel
theorem dX12_init_201 : decode cX12_init 201 = .ok (.putfield 82, 3) := by decide +kernel
theorem dX12_init_204 : decode cX12_init 204 = .ok (.aload_n 0, 1) := by decide +kernel
theorem dX12_init_205 : decode cX12_init 205 = .ok (.getfield 13, 3) := by decide +kernel
theorem dX12_init_208 : decode cX12_init 208 = .ok (.iconst 0, 1) := by decide +kernel
theorem dX12_init_209 : decode cX12_init 209 = .ok (.bipush 97, 2) := by decide +kernel
theorem dX12_init_211 : decode cX12_init 211 = .ok (.iastore, 1) := by decide +kernel
theorem dX12_init_212 : decode cX12_init 212 = .ok (.aload_n 0, 1) := by decide +kernel
theorem dX12_init_213 : decode cX12_init 213 = .ok (.iconst 1, 1) := by decide +kernel
theorem dX12_init_214 : decode cX12_init 214 = .ok (.putfield 85, 3) := by decide +kernel
theorem dX12_init_217 : decode cX12_init 217 = .ok (.aload_n 0, 1) := by decide +kernel
theorem dX12_init_218 : decode cX12_init 218 = .ok (.invokevirtual 88, 3) := by decide +kernel
theorem dX12_init_221 : decode cX12_init 221 = .ok (.return_, 1) := by decide +kernel
theorem dX12_refuse_0 : decode cX12_refuse 0 = .ok (.aload_n 0, 1) := by decide +kernel
theorem dX12_refuse_1 : decode cX12_refuse 1 = .ok (.getfield 7, 3) := by decide +kernel
theorem dX12_refuse_4 : decode cX12_refuse 4 = .ok (.iload_n 1, 1) := by decide +kernel
theorem dX12_refuse_5 : decode cX12_refuse 5 = .ok (.ineg, 1) := by decide +kernel
theorem dX12_refuse_6 : decode cX12_refuse 6 = .ok (.dup2, 1) := by decide +kernel
theorem dX12_refuse_7 : decode cX12_refuse 7 = .ok (.iaload, 1) := by decide +kernel
theorem dX12_refuse_8 : decode cX12_refuse 8 = .ok (.iconst 1, 1) := by decide +kernel
theorem dX12_refuse_9 : decode cX12_refuse 9 = .ok (.iadd, 1) := by decide +kernel
theorem dX12_refuse_10 : decode cX12_refuse 10 = .ok (.iastore, 1) := by decide +kernel
theorem dX12_refuse_11 : decode cX12_refuse 11 = .ok (.iload_n 1, 1) := by decide +kernel
theorem dX12_refuse_12 : decode cX12_refuse 12 = .ok (.ireturn, 1) := by decide +kernel
theorem dX12_isIn_0 : decode cX12_isIn 0 = .ok (.iload_n 0, 1) := by decide +kernel
theorem dX12_isIn_1 : decode cX12_isIn 1 = .ok (.ifCond .lt 12, 3) := by decide +kernel
theorem dX12_isIn_4 : decode cX12_isIn 4 = .ok (.iload_n 0, 1) := by decide +kernel
theorem dX12_isIn_5 : decode cX12_isIn 5 = .ok (.iload_n 1, 1) := by decide +kernel
theorem dX12_isIn_6 : decode cX12_isIn 6 = .ok (.if_icmp .ge 7, 3) := by decide +kernel
theorem dX12_isIn_9 : decode cX12_isIn 9 = .ok (.iconst 1, 1) := by decide +kernel
theorem dX12_isIn_10 : decode cX12_isIn 10 = .ok (.goto 4, 3) := by decide +kernel
theorem dX12_isIn_13 : decode cX12_isIn 13 = .ok (.iconst 0, 1) := by decide +kernel
theorem dX12_isIn_14 : decode cX12_isIn 14 = .ok (.ireturn, 1) := by decide +kernel
theorem dX12_within_0 : decode cX12_within 0 = .ok (.iload_n 0, 1) := by decide +kernel
theorem dX12_within_1 : decode cX12_within 1 = .ok (.iload_n 1, 1) := by decide +kernel
theorem dX12_within_2 : decode cX12_within 2 = .ok (.if_icmp .ge 8, 3) := by decide +kernel
theorem dX12_within_5 : decode cX12_within 5 = .ok (.bipush (-4), 2) := by decide +kernel
theorem dX12_within_7 : decode cX12_within 7 = .ok (.goto 14, 3) := by decide +kernel
theorem dX12_within_10 : decode cX12_within 10 = .ok (.iload_n 0, 1) := by decide +kernel
theorem dX12_within_11 : decode cX12_within 11 = .ok (.iload_n 2, 1) := by decide +kernel
theorem dX12_within_12 : decode cX12_within 12 = .ok (.if_icmp .le 8, 3) := by decide +kernel
theorem dX12_within_15 : decode cX12_within 15 = .ok (.bipush (-6), 2) := by decide +kernel
theorem dX12_within_17 : decode cX12_within 17 = .ok (.goto 4, 3) := by decide +kernel
theorem dX12_within_20 : decode cX12_within 20 = .ok (.iconst 0, 1) := by decide +kernel
theorem dX12_within_21 : decode cX12_within 21 = .ok (.ireturn, 1) := by decide +kernel
theorem dX12_feed_0 : decode cX12_feed 0 = .ok (.iload_n 1, 1) := by decide +kernel
theorem dX12_feed_1 : decode cX12_feed 1 = .ok (.iconst 1, 1) := by decide +kernel
theorem dX12_feed_2 : decode cX12_feed 2 = .ok (.if_icmp .ge 10, 3) := by decide +kernel
theorem dX12_feed_5 : decode cX12_feed 5 = .ok (.aload_n 0, 1) := by decide +kernel
theorem dX12_feed_6 : decode cX12_feed 6 = .ok (.bipush (-4), 2) := by decide +kernel
theorem dX12_feed_8 : decode cX12_feed 8 = .ok (.invokevirtual 91, 3) := by decide +kernel
theorem dX12_feed_11 : decode cX12_feed 11 = .ok (.ireturn, 1) := by decide +kernel
theorem dX12_feed_12 : decode cX12_feed 12 = .ok (.iload_n 1, 1) := by decide +kernel
theorem dX12_feed_13 : decode cX12_feed 13 = .ok (.bipush 8, 2) := by decide +kernel
theorem dX12_feed_15 : decode cX12_feed 15 = .ok (.if_icmp .gt 14, 3) := by decide +kernel
theorem dX12_feed_18 : decode cX12_feed 18 = .ok (.aload_n 0, 1) := by decide +kernel
theorem dX12_feed_19 : decode cX12_feed 19 = .ok (.getfield 95, 3) := by decide +kernel
theorem dX12_feed_22 : decode cX12_feed 22 = .ok (.iload_n 1, 1) := by decide +kernel
theorem dX12_feed_23 : decode cX12_feed 23 = .ok (.iadd, 1) := by decide +kernel
theorem dX12_feed_24 : decode cX12_feed 24 = .ok (.bipush 21, 2) := by decide +kernel
theorem dX12_feed_26 : decode cX12_feed 26 = .ok (.if_icmp .le 10, 3) := by decide +kernel
theorem dX12_feed_29 : decode cX12_feed 29 = .ok (.aload_n 0, 1) := by decide +kernel
theorem dX12_feed_30 : decode cX12_feed 30 = .ok (.bipush (-6), 2) := by decide +kernel
theorem dX12_feed_32 : decode cX12_feed 32 = .ok (.invokevirtual 91, 3) := by decide +kernel
theorem dX12_feed_35 : decode cX12_feed 35 = .ok (.ireturn, 1) := by decide +kernel
theorem dX12_feed_36 : decode cX12_feed 36 = .ok (.iconst 0, 1) := by decide +kernel
theorem dX12_feed_37 : decode cX12_feed 37 = .ok (.istore 4, 2) := by decide +kernel
theorem dX12_feed_39 : decode cX12_feed 39 = .ok (.iload 4, 2) := by decide +kernel
theorem dX12_feed_41 : decode cX12_feed 41 = .ok (.iload_n 1, 1) := by decide +kernel
theorem dX12_feed_42 : decode cX12_feed 42 = .ok (.if_icmp .ge 40, 3) := by decide +kernel
theorem dX12_feed_45 : decode cX12_feed 45 = .ok (.aload_n 0, 1) := by decide +kernel
theorem dX12_feed_46 : decode cX12_feed 46 = .ok (.getfield 16, 3) := by decide +kernel
theorem dX12_feed_49 : decode cX12_feed 49 = .ok (.aload_n 0, 1) := by decide +kernel
theorem dX12_feed_50 : decode cX12_feed 50 = .ok (.getfield 95, 3) := by decide +kernel
theorem dX12_feed_53 : decode cX12_feed 53 = .ok (.lload_n 2, 1) := by decide +kernel
theorem dX12_feed_54 : decode cX12_feed 54 = .ok (.bipush 8, 2) := by decide +kernel
theorem dX12_feed_56 : decode cX12_feed 56 = .ok (.iload 4, 2) := by decide +kernel
theorem dX12_feed_58 : decode cX12_feed 58 = .ok (.imul, 1) := by decide +kernel
theorem dX12_feed_59 : decode cX12_feed 59 = .ok (.lshr, 1) := by decide +kernel
theorem dX12_feed_60 : decode cX12_feed 60 = .ok (.ldc2_w 98, 3) := by decide +kernel
theorem dX12_feed_63 : decode cX12_feed 63 = .ok (.land, 1) := by decide +kernel
theorem dX12_feed_64 : decode cX12_feed 64 = .ok (.l2i, 1) := by decide +kernel
theorem dX12_feed_65 : decode cX12_feed 65 = .ok (.iastore, 1) := by decide +kernel
theorem dX12_feed_66 : decode cX12_feed 66 = .ok (.aload_n 0, 1) := by decide +kernel
theorem dX12_feed_67 : decode cX12_feed 67 = .ok (.dup, 1) := by decide +kernel
theorem dX12_feed_68 : decode cX12_feed 68 = .ok (.getfield 95, 3) := by decide +kernel
theorem dX12_feed_71 : decode cX12_feed 71 = .ok (.iconst 1, 1) := by decide +kernel
theorem dX12_feed_72 : decode cX12_feed 72 = .ok (.iadd, 1) := by decide +kernel
theorem dX12_feed_73 : decode cX12_feed 73 = .ok (.putfield 95, 3) := by decide +kernel
theorem dX12_feed_76 : decode cX12_feed 76 = .ok (.iinc 4 1, 3) := by decide +kernel
theorem dX12_feed_79 : decode cX12_feed 79 = .ok (.goto (-40), 3) := by decide +kernel
theorem dX12_feed_82 : decode cX12_feed 82 = .ok (.aload_n 0, 1) := by decide +kernel
theorem dX12_feed_83 : decode cX12_feed 83 = .ok (.getfield 95, 3) := by decide +kernel
theorem dX12_feed_86 : decode cX12_feed 86 = .ok (.ireturn, 1) := by decide +kernel
theorem dX12_isLetter_0 : decode cX12_isLetter 0 = .ok (.iload_n 0, 1) := by decide +kernel
theorem dX12_isLetter_1 : decode cX12_isLetter 1 = .ok (.bipush 97, 2) := by decide +kernel
theorem dX12_isLetter_3 : decode cX12_isLetter 3 = .ok (.if_icmp .lt 13, 3) := by decide +kernel
theorem dX12_isLetter_6 : decode cX12_isLetter 6 = .ok (.iload_n 0, 1) := by decide +kernel
theorem dX12_isLetter_7 : decode cX12_isLetter 7 = .ok (.bipush 101, 2) := by decide +kernel
theorem dX12_isLetter_9 : decode cX12_isLetter 9 = .ok (.if_icmp .gt 7, 3) := by decide +kernel
theorem dX12_isLetter_12 : decode cX12_isLetter 12 = .ok (.iconst 1, 1) := by decide +kernel
theorem dX12_isLetter_13 : decode cX12_isLetter 13 = .ok (.goto 4, 3) := by decide +kernel
theorem dX12_isLetter_16 : decode cX12_isLetter 16 = .ok (.iconst 0, 1) := by decide +kernel
theorem dX12_isLetter_17 : decode cX12_isLetter 17 = .ok (.ireturn, 1) := by decide +kernel
theorem dX12_kindOf_0 : decode cX12_kindOf 0 = .ok (.iload_n 0, 1) := by decide +kernel
theorem dX12_kindOf_1 : decode cX12_kindOf 1 = .ok (.bipush 38, 2) := by decide +kernel
theorem dX12_kindOf_3 : decode cX12_kindOf 3 = .ok (.if_icmp .ne 7, 3) := by decide +kernel
theorem dX12_kindOf_6 : decode cX12_kindOf 6 = .ok (.iconst 3, 1) := by decide +kernel
theorem dX12_kindOf_7 : decode cX12_kindOf 7 = .ok (.goto 36, 3) := by decide +kernel
theorem dX12_kindOf_10 : decode cX12_kindOf 10 = .ok (.iload_n 0, 1) := by decide +kernel
theorem dX12_kindOf_11 : decode cX12_kindOf 11 = .ok (.bipush 124, 2) := by decide +kernel
theorem dX12_kindOf_13 : decode cX12_kindOf 13 = .ok (.if_icmp .ne 7, 3) := by decide +kernel
theorem dX12_kindOf_16 : decode cX12_kindOf 16 = .ok (.iconst 4, 1) := by decide +kernel
theorem dX12_kindOf_17 : decode cX12_kindOf 17 = .ok (.goto 26, 3) := by decide +kernel
theorem dX12_kindOf_20 : decode cX12_kindOf 20 = .ok (.iload_n 0, 1) := by decide +kernel
theorem dX12_kindOf_21 : decode cX12_kindOf 21 = .ok (.bipush 62, 2) := by decide +kernel
theorem dX12_kindOf_23 : decode cX12_kindOf 23 = .ok (.if_icmp .ne 7, 3) := by decide +kernel
theorem dX12_kindOf_26 : decode cX12_kindOf 26 = .ok (.iconst 5, 1) := by decide +kernel
theorem dX12_kindOf_27 : decode cX12_kindOf 27 = .ok (.goto 16, 3) := by decide +kernel
theorem dX12_kindOf_30 : decode cX12_kindOf 30 = .ok (.iload_n 0, 1) := by decide +kernel
theorem dX12_kindOf_31 : decode cX12_kindOf 31 = .ok (.bipush 45, 2) := by decide +kernel
theorem dX12_kindOf_33 : decode cX12_kindOf 33 = .ok (.if_icmp .ne 8, 3) := by decide +kernel
theorem dX12_kindOf_36 : decode cX12_kindOf 36 = .ok (.bipush 6, 2) := by decide +kernel
theorem dX12_kindOf_38 : decode cX12_kindOf 38 = .ok (.goto 5, 3) := by decide +kernel
theorem dX12_kindOf_41 : decode cX12_kindOf 41 = .ok (.bipush (-9), 2) := by decide +kernel
theorem dX12_kindOf_43 : decode cX12_kindOf 43 = .ok (.ireturn, 1) := by decide +kernel
theorem dX12_fault_0 : decode cX12_fault 0 = .ok (.iconst 0, 1) := by decide +kernel
theorem dX12_fault_1 : decode cX12_fault 1 = .ok (.istore_n 2, 1) := by decide +kernel
theorem dX12_fault_2 : decode cX12_fault 2 = .ok (.iconst 0, 1) := by decide +kernel
theorem dX12_fault_3 : decode cX12_fault 3 = .ok (.istore_n 3, 1) := by decide +kernel
theorem dX12_fault_4 : decode cX12_fault 4 = .ok (.iconst 0, 1) := by decide +kernel
theorem dX12_fault_5 : decode cX12_fault 5 = .ok (.istore 4, 2) := by decide +kernel
theorem dX12_fault_7 : decode cX12_fault 7 = .ok (.iload 4, 2) := by decide +kernel
theorem dX12_fault_9 : decode cX12_fault 9 = .ok (.iload_n 1, 1) := by decide +kernel
theorem dX12_fault_10 : decode cX12_fault 10 = .ok (.if_icmp .ge 96, 3) := by decide +kernel
theorem dX12_fault_13 : decode cX12_fault 13 = .ok (.aload_n 0, 1) := by decide +kernel
theorem dX12_fault_14 : decode cX12_fault 14 = .ok (.iload 4, 2) := by decide +kernel
theorem dX12_fault_16 : decode cX12_fault 16 = .ok (.iaload, 1) := by decide +kernel
theorem dX12_fault_17 : decode cX12_fault 17 = .ok (.istore 5, 2) := by decide +kernel
theorem dX12_fault_19 : decode cX12_fault 19 = .ok (.iload_n 3, 1) := by decide +kernel
theorem dX12_fault_20 : decode cX12_fault 20 = .ok (.ifCond .eq 36, 3) := by decide +kernel
theorem dX12_fault_23 : decode cX12_fault 23 = .ok (.iload 5, 2) := by decide +kernel
theorem dX12_fault_25 : decode cX12_fault 25 = .ok (.bipush 41, 2) := by decide +kernel
theorem dX12_fault_27 : decode cX12_fault 27 = .ok (.if_icmp .ne 13, 3) := by decide +kernel
theorem dX12_fault_30 : decode cX12_fault 30 = .ok (.iload_n 2, 1) := by decide +kernel
theorem dX12_fault_31 : decode cX12_fault 31 = .ok (.ifCond .le 9, 3) := by decide +kernel
theorem dX12_fault_34 : decode cX12_fault 34 = .ok (.iinc 2 (-1), 3) := by decide +kernel
theorem dX12_fault_37 : decode cX12_fault 37 = .ok (.goto 63, 3) := by decide +kernel
theorem dX12_fault_40 : decode cX12_fault 40 = .ok (.iload 5, 2) := by decide +kernel
theorem dX12_fault_42 : decode cX12_fault 42 = .ok (.invokestatic 100, 3) := by decide +kernel
theorem dX12_fault_45 : decode cX12_fault 45 = .ok (.ifCond .le 8, 3) := by decide +kernel
theorem dX12_fault_48 : decode cX12_fault 48 = .ok (.iconst 0, 1) := by decide +kernel
theorem dX12_fault_49 : decode cX12_fault 49 = .ok (.istore_n 3, 1) := by decide +kernel
theorem dX12_fault_50 : decode cX12_fault 50 = .ok (.goto 50, 3) := by decide +kernel
theorem dX12_fault_53 : decode cX12_fault 53 = .ok (.iload 4, 2) := by decide +kernel
theorem dX12_fault_55 : decode cX12_fault 55 = .ok (.ireturn, 1) := by decide +kernel
theorem dX12_fault_56 : decode cX12_fault 56 = .ok (.iload 5, 2) := by decide +kernel
theorem dX12_fault_58 : decode cX12_fault 58 = .ok (.invokestatic 103, 3) := by decide +kernel
theorem dX12_fault_61 : decode cX12_fault 61 = .ok (.ifCond .eq 8, 3) := by decide +kernel
theorem dX12_fault_64 : decode cX12_fault 64 = .ok (.iconst 1, 1) := by decide +kernel
theorem dX12_fault_65 : decode cX12_fault 65 = .ok (.istore_n 3, 1) := by decide +kernel
theorem dX12_fault_66 : decode cX12_fault 66 = .ok (.goto 34, 3) := by decide +kernel
theorem dX12_fault_69 : decode cX12_fault 69 = .ok (.iload 5, 2) := by decide +kernel
theorem dX12_fault_71 : decode cX12_fault 71 = .ok (.bipush 40, 2) := by decide +kernel
theorem dX12_fault_73 : decode cX12_fault 73 = .ok (.if_icmp .ne 17, 3) := by decide +kernel
theorem dX12_fault_76 : decode cX12_fault 76 = .ok (.iload_n 2, 1) := by decide +kernel
theorem dX12_fault_77 : decode cX12_fault 77 = .ok (.iconst 4, 1) := by decide +kernel
theorem dX12_fault_78 : decode cX12_fault 78 = .ok (.if_icmp .ne 6, 3) := by decide +kernel
theorem dX12_fault_81 : decode cX12_fault 81 = .ok (.iload 4, 2) := by decide +kernel
theorem dX12_fault_83 : decode cX12_fault 83 = .ok (.ireturn, 1) := by decide +kernel
theorem dX12_fault_84 : decode cX12_fault 84 = .ok (.iinc 2 1, 3) := by decide +kernel
theorem dX12_fault_87 : decode cX12_fault 87 = .ok (.goto 13, 3) := by decide +kernel
theorem dX12_fault_90 : decode cX12_fault 90 = .ok (.iload 5, 2) := by decide +kernel
theorem dX12_fault_92 : decode cX12_fault 92 = .ok (.bipush 33, 2) := by decide +kernel
theorem dX12_fault_94 : decode cX12_fault 94 = .ok (.if_icmp .eq 6, 3) := by decide +kernel
theorem dX12_fault_97 : decode cX12_fault 97 = .ok (.iload 4, 2) := by decide +kernel
theorem dX12_fault_99 : decode cX12_fault 99 = .ok (.ireturn, 1) := by decide +kernel
theorem dX12_fault_100 : decode cX12_fault 100 = .ok (.iinc 4 1, 3) := by decide +kernel
theorem dX12_fault_103 : decode cX12_fault 103 = .ok (.goto (-96), 3) := by decide +kernel
theorem dX12_fault_106 : decode cX12_fault 106 = .ok (.iload_n 3, 1) := by decide +kernel
theorem dX12_fault_107 : decode cX12_fault 107 = .ok (.ifCond .eq 12, 3) := by decide +kernel
theorem dX12_fault_110 : decode cX12_fault 110 = .ok (.iload_n 2, 1) := by decide +kernel
theorem dX12_fault_111 : decode cX12_fault 111 = .ok (.ifCond .ne 8, 3) := by decide +kernel
theorem dX12_fault_114 : decode cX12_fault 114 = .ok (.bipush (-9), 2) := by decide +kernel
theorem dX12_fault_116 : decode cX12_fault 116 = .ok (.goto 4, 3) := by decide +kernel
theorem dX12_fault_119 : decode cX12_fault 119 = .ok (.iload_n 1, 1) := by decide +kernel
theorem dX12_fault_120 : decode cX12_fault 120 = .ok (.ireturn, 1) := by decide +kernel
theorem dX12_read_0 : decode cX12_read 0 = .ok (.aload_n 0, 1) := by decide +kernel
theorem dX12_read_1 : decode cX12_read 1 = .ok (.getfield 16, 3) := by decide +kernel
theorem dX12_read_4 : decode cX12_read 4 = .ok (.aload_n 0, 1) := by decide +kernel
theorem dX12_read_5 : decode cX12_read 5 = .ok (.getfield 95, 3) := by decide +kernel
theorem dX12_read_8 : decode cX12_read 8 = .ok (.invokestatic 107, 3) := by decide +kernel
theorem dX12_read_11 : decode cX12_read 11 = .ok (.istore_n 1, 1) := by decide +kernel
theorem dX12_read_12 : decode cX12_read 12 = .ok (.aload_n 0, 1) := by decide +kernel
theorem dX12_read_13 : decode cX12_read 13 = .ok (.getfield 95, 3) := by decide +kernel
theorem dX12_read_16 : decode cX12_read 16 = .ok (.istore_n 2, 1) := by decide +kernel
theorem dX12_read_17 : decode cX12_read 17 = .ok (.aload_n 0, 1) := by decide +kernel
theorem dX12_read_18 : decode cX12_read 18 = .ok (.iconst 0, 1) := by decide +kernel
theorem dX12_read_19 : decode cX12_read 19 = .ok (.putfield 95, 3) := by decide +kernel
theorem dX12_read_22 : decode cX12_read 22 = .ok (.iload_n 1, 1) := by decide +kernel
theorem dX12_read_23 : decode cX12_read 23 = .ok (.ifCond .lt 8, 3) := by decide +kernel
theorem dX12_read_26 : decode cX12_read 26 = .ok (.bipush (-20), 2) := by decide +kernel
theorem dX12_read_28 : decode cX12_read 28 = .ok (.iload_n 1, 1) := by decide +kernel
theorem dX12_read_29 : decode cX12_read 29 = .ok (.isub, 1) := by decide +kernel
theorem dX12_read_30 : decode cX12_read 30 = .ok (.ireturn, 1) := by decide +kernel
theorem dX12_read_31 : decode cX12_read 31 = .ok (.iconst 0, 1) := by decide +kernel
theorem dX12_read_32 : decode cX12_read 32 = .ok (.istore_n 3, 1) := by decide +kernel
theorem dX12_read_33 : decode cX12_read 33 = .ok (.iload_n 3, 1) := by decide +kernel
theorem dX12_read_34 : decode cX12_read 34 = .ok (.iload_n 2, 1) := by decide +kernel
theorem dX12_read_35 : decode cX12_read 35 = .ok (.if_icmp .ge 21, 3) := by decide +kernel
theorem dX12_read_38 : decode cX12_read 38 = .ok (.aload_n 0, 1) := by decide +kernel
theorem dX12_read_39 : decode cX12_read 39 = .ok (.getfield 13, 3) := by decide +kernel
theorem dX12_read_42 : decode cX12_read 42 = .ok (.iload_n 3, 1) := by decide +kernel
theorem dX12_read_43 : decode cX12_read 43 = .ok (.aload_n 0, 1) := by decide +kernel
theorem dX12_read_44 : decode cX12_read 44 = .ok (.getfield 16, 3) := by decide +kernel
theorem dX12_read_47 : decode cX12_read 47 = .ok (.iload_n 3, 1) := by decide +kernel
theorem dX12_read_48 : decode cX12_read 48 = .ok (.iaload, 1) := by decide +kernel
theorem dX12_read_49 : decode cX12_read 49 = .ok (.iastore, 1) := by decide +kernel
theorem dX12_read_50 : decode cX12_read 50 = .ok (.iinc 3 1, 3) := by decide +kernel
theorem dX12_read_53 : decode cX12_read 53 = .ok (.goto (-20), 3) := by decide +kernel
theorem dX12_read_56 : decode cX12_read 56 = .ok (.aload_n 0, 1) := by decide +kernel
theorem dX12_read_57 : decode cX12_read 57 = .ok (.iload_n 2, 1) := by decide +kernel
theorem dX12_read_58 : decode cX12_read 58 = .ok (.putfield 85, 3) := by decide +kernel
theorem dX12_read_61 : decode cX12_read 61 = .ok (.aload_n 0, 1) := by decide +kernel
theorem dX12_read_62 : decode cX12_read 62 = .ok (.invokevirtual 88, 3) := by decide +kernel
theorem dX12_read_65 : decode cX12_read 65 = .ok (.aload_n 0, 1) := by decide +kernel
theorem dX12_read_66 : decode cX12_read 66 = .ok (.getfield 85, 3) := by decide +kernel
theorem dX12_read_69 : decode cX12_read 69 = .ok (.ireturn, 1) := by decide +kernel
theorem dX12_wordAt_0 : decode cX12_wordAt 0 = .ok (.iload_n 1, 1) := by decide +kernel
theorem dX12_wordAt_1 : decode cX12_wordAt 1 = .ok (.aload_n 0, 1) := by decide +kernel
theorem dX12_wordAt_2 : decode cX12_wordAt 2 = .ok (.getfield 85, 3) := by decide +kernel
theorem dX12_wordAt_5 : decode cX12_wordAt 5 = .ok (.invokestatic 111, 3) := by decide +kernel
theorem dX12_wordAt_8 : decode cX12_wordAt 8 = .ok (.ifCond .eq 12, 3) := by decide +kernel
theorem dX12_wordAt_11 : decode cX12_wordAt 11 = .ok (.aload_n 0, 1) := by decide +kernel
theorem dX12_wordAt_12 : decode cX12_wordAt 12 = .ok (.getfield 13, 3) := by decide +kernel
theorem dX12_wordAt_15 : decode cX12_wordAt 15 = .ok (.iload_n 1, 1) := by decide +kernel
theorem dX12_wordAt_16 : decode cX12_wordAt 16 = .ok (.iaload, 1) := by decide +kernel
theorem dX12_wordAt_17 : decode cX12_wordAt 17 = .ok (.goto 5, 3) := by decide +kernel
theorem dX12_wordAt_20 : decode cX12_wordAt 20 = .ok (.bipush (-9), 2) := by decide +kernel
theorem dX12_wordAt_22 : decode cX12_wordAt 22 = .ok (.ireturn, 1) := by decide +kernel
theorem dX12_waysOf_0 : decode cX12_waysOf 0 = .ok (.aload_n 0, 1) := by decide +kernel
theorem dX12_waysOf_1 : decode cX12_waysOf 1 = .ok (.getfield 40, 3) := by decide +kernel
theorem dX12_waysOf_4 : decode cX12_waysOf 4 = .ok (.bipush 22, 2) := by decide +kernel
theorem dX12_waysOf_6 : decode cX12_waysOf 6 = .ok (.iload_n 1, 1) := by decide +kernel
theorem dX12_waysOf_7 : decode cX12_waysOf 7 = .ok (.imul, 1) := by decide +kernel
theorem dX12_waysOf_8 : decode cX12_waysOf 8 = .ok (.iload_n 2, 1) := by decide +kernel
theorem dX12_waysOf_9 : decode cX12_waysOf 9 = .ok (.iadd, 1) := by decide +kernel
theorem dX12_waysOf_10 : decode cX12_waysOf 10 = .ok (.laload, 1) := by decide +kernel
theorem dX12_waysOf_11 : decode cX12_waysOf 11 = .ok (.lreturn, 1) := by decide +kernel
theorem dX12_isBracketed_0 : decode cX12_isBracketed 0 = .ok (.aload_n 0, 1) := by decide +kernel
theorem dX12_isBracketed_1 : decode cX12_isBracketed 1 = .ok (.getfield 13, 3) := by decide +kernel
theorem dX12_isBracketed_4 : decode cX12_isBracketed 4 = .ok (.iload_n 1, 1) := by decide +kernel
theorem dX12_isBracketed_5 : decode cX12_isBracketed 5 = .ok (.iaload, 1) := by decide +kernel
theorem dX12_isBracketed_6 : decode cX12_isBracketed 6 = .ok (.bipush 40, 2) := by decide +kernel
theorem dX12_isBracketed_8 : decode cX12_isBracketed 8 = .ok (.if_icmp .ne 27, 3) := by decide +kernel
theorem dX12_isBracketed_11 : decode cX12_isBracketed 11 = .ok (.aload_n 0, 1) := by decide +kernel
theorem dX12_isBracketed_12 : decode cX12_isBracketed 12 = .ok (.getfield 13, 3) := by decide +kernel
theorem dX12_isBracketed_15 : decode cX12_isBracketed 15 = .ok (.iload_n 2, 1) := by decide +kernel
theorem dX12_isBracketed_16 : decode cX12_isBracketed 16 = .ok (.iconst 1, 1) := by decide +kernel
theorem dX12_isBracketed_17 : decode cX12_isBracketed 17 = .ok (.isub, 1) := by decide +kernel
theorem dX12_isBracketed_18 : decode cX12_isBracketed 18 = .ok (.iaload, 1) := by decide +kernel
theorem dX12_isBracketed_19 : decode cX12_isBracketed 19 = .ok (.bipush 41, 2) := by decide +kernel
theorem dX12_isBracketed_21 : decode cX12_isBracketed 21 = .ok (.if_icmp .ne 14, 3) := by decide +kernel
theorem dX12_isBracketed_24 : decode cX12_isBracketed 24 = .ok (.iload_n 2, 1) := by decide +kernel
theorem dX12_isBracketed_25 : decode cX12_isBracketed 25 = .ok (.iload_n 1, 1) := by decide +kernel
theorem dX12_isBracketed_26 : decode cX12_isBracketed 26 = .ok (.isub, 1) := by decide +kernel
theorem dX12_isBracketed_27 : decode cX12_isBracketed 27 = .ok (.iconst 2, 1) := by decide +kernel
theorem dX12_isBracketed_28 : decode cX12_isBracketed 28 = .ok (.if_icmp .le 7, 3) := by decide +kernel
theorem dX12_isBracketed_31 : decode cX12_isBracketed 31 = .ok (.iconst 1, 1) := by decide +kernel
theorem dX12_isBracketed_32 : decode cX12_isBracketed 32 = .ok (.goto 4, 3) := by decide +kernel
theorem dX12_isBracketed_35 : decode cX12_isBracketed 35 = .ok (.iconst 0, 1) := by decide +kernel
theorem dX12_isBracketed_36 : decode cX12_isBracketed 36 = .ok (.ireturn, 1) := by decide +kernel
theorem dX12_firstWays_0 : decode cX12_firstWays 0 = .ok (.iload_n 2, 1) := by decide +kernel
theorem dX12_firstWays_1 : decode cX12_firstWays 1 = .ok (.iload_n 1, 1) := by decide +kernel
theorem dX12_firstWays_2 : decode cX12_firstWays 2 = .ok (.isub, 1) := by decide +kernel
theorem dX12_firstWays_3 : decode cX12_firstWays 3 = .ok (.iconst 1, 1) := by decide +kernel
theorem dX12_firstWays_4 : decode cX12_firstWays 4 = .ok (.if_icmp .ne 21, 3) := by decide +kernel
theorem dX12_firstWays_7 : decode cX12_firstWays 7 = .ok (.aload_n 0, 1) := by decide +kernel
theorem dX12_firstWays_8 : decode cX12_firstWays 8 = .ok (.getfield 13, 3) := by decide +kernel
theorem dX12_firstWays_11 : decode cX12_firstWays 11 = .ok (.iload_n 1, 1) := by decide +kernel
theorem dX12_firstWays_12 : decode cX12_firstWays 12 = .ok (.iaload, 1) := by decide +kernel
theorem dX12_firstWays_13 : decode cX12_firstWays 13 = .ok (.invokestatic 103, 3) := by decide +kernel
theorem dX12_firstWays_16 : decode cX12_firstWays 16 = .ok (.ifCond .eq 7, 3) := by decide +kernel
theorem dX12_firstWays_19 : decode cX12_firstWays 19 = .ok (.lconst 1, 1) := by decide +kernel
theorem dX12_firstWays_20 : decode cX12_firstWays 20 = .ok (.goto 4, 3) := by decide +kernel
theorem dX12_firstWays_23 : decode cX12_firstWays 23 = .ok (.lconst 0, 1) := by decide +kernel
theorem dX12_firstWays_24 : decode cX12_firstWays 24 = .ok (.lreturn, 1) := by decide +kernel
theorem dX12_firstWays_25 : decode cX12_firstWays 25 = .ok (.aload_n 0, 1) := by decide +kernel
theorem dX12_firstWays_26 : decode cX12_firstWays 26 = .ok (.getfield 13, 3) := by decide +kernel
theorem dX12_firstWays_29 : decode cX12_firstWays 29 = .ok (.iload_n 1, 1) := by decide +kernel
theorem dX12_firstWays_30 : decode cX12_firstWays 30 = .ok (.iaload, 1) := by decide +kernel
theorem dX12_firstWays_31 : decode cX12_firstWays 31 = .ok (.bipush 33, 2) := by decide +kernel
theorem dX12_firstWays_33 : decode cX12_firstWays 33 = .ok (.if_icmp .ne 12, 3) := by decide +kernel
theorem dX12_firstWays_36 : decode cX12_firstWays 36 = .ok (.aload_n 0, 1) := by decide +kernel
theorem dX12_firstWays_37 : decode cX12_firstWays 37 = .ok (.iload_n 1, 1) := by decide +kernel
theorem dX12_firstWays_38 : decode cX12_firstWays 38 = .ok (.iconst 1, 1) := by decide +kernel
theorem dX12_firstWays_39 : decode cX12_firstWays 39 = .ok (.iadd, 1) := by decide +kernel
theorem dX12_firstWays_40 : decode cX12_firstWays 40 = .ok (.iload_n 2, 1) := by decide +kernel
theorem dX12_firstWays_41 : decode cX12_firstWays 41 = .ok (.invokevirtual 115, 3) := by decide +kernel
theorem dX12_firstWays_44 : decode cX12_firstWays 44 = .ok (.lreturn, 1) := by decide +kernel
theorem dX12_firstWays_45 : decode cX12_firstWays 45 = .ok (.aload_n 0, 1) := by decide +kernel
theorem dX12_firstWays_46 : decode cX12_firstWays 46 = .ok (.iload_n 1, 1) := by decide +kernel
theorem dX12_firstWays_47 : decode cX12_firstWays 47 = .ok (.iload_n 2, 1) := by decide +kernel
theorem dX12_firstWays_48 : decode cX12_firstWays 48 = .ok (.invokevirtual 119, 3) := by decide +kernel
theorem dX12_firstWays_51 : decode cX12_firstWays 51 = .ok (.ifCond .eq 16, 3) := by decide +kernel
theorem dX12_firstWays_54 : decode cX12_firstWays 54 = .ok (.aload_n 0, 1) := by decide +kernel
theorem dX12_firstWays_55 : decode cX12_firstWays 55 = .ok (.iload_n 1, 1) := by decide +kernel
theorem dX12_firstWays_56 : decode cX12_firstWays 56 = .ok (.iconst 1, 1) := by decide +kernel
theorem dX12_firstWays_57 : decode cX12_firstWays 57 = .ok (.iadd, 1) := by decide +kernel
theorem dX12_firstWays_58 : decode cX12_firstWays 58 = .ok (.iload_n 2, 1) := by decide +kernel
theorem dX12_firstWays_59 : decode cX12_firstWays 59 = .ok (.iconst 1, 1) := by decide +kernel
theorem dX12_firstWays_60 : decode cX12_firstWays 60 = .ok (.isub, 1) := by decide +kernel
theorem dX12_firstWays_61 : decode cX12_firstWays 61 = .ok (.invokevirtual 115, 3) := by decide +kernel
theorem dX12_firstWays_64 : decode cX12_firstWays 64 = .ok (.goto 4, 3) := by decide +kernel
theorem dX12_firstWays_67 : decode cX12_firstWays 67 = .ok (.lconst 0, 1) := by decide +kernel
theorem dX12_firstWays_68 : decode cX12_firstWays 68 = .ok (.lreturn, 1) := by decide +kernel
theorem dX12_findWays_0 : decode cX12_findWays 0 = .ok (.iconst 1, 1) := by decide +kernel
theorem dX12_findWays_1 : decode cX12_findWays 1 = .ok (.istore_n 1, 1) := by decide +kernel
theorem dX12_findWays_2 : decode cX12_findWays 2 = .ok (.iload_n 1, 1) := by decide +kernel
theorem dX12_findWays_3 : decode cX12_findWays 3 = .ok (.aload_n 0, 1) := by decide +kernel
