theorem dX12_isMended_54 : decode cX12_isMended 54 = .ok (.bipush 21, 2) := by decide +kernel
theorem dX12_isMended_56 : decode cX12_isMended 56 = .ok (.iload_n 1, 1) := by decide +kernel
theorem dX12_isMended_57 : decode cX12_isMended 57 = .ok (.imul, 1) := by decide +kernel
theorem dX12_isMended_58 : decode cX12_isMended 58 = .ok (.iload_n 2, 1) := by decide +kernel
theorem dX12_isMended_59 : decode cX12_isMended 59 = .ok (.iadd, 1) := by decide +kernel
theorem dX12_isMended_60 : decode cX12_isMended 60 = .ok (.iaload, 1) := by decide +kernel
theorem dX12_isMended_61 : decode cX12_isMended 61 = .ok (.invokevirtual 209, 3) := by decide +kernel
theorem dX12_isMended_64 : decode cX12_isMended 64 = .ok (.ifCond .eq 7, 3) := by decide +kernel
theorem dX12_isMended_67 : decode cX12_isMended 67 = .ok (.iconst 1, 1) := by decide +kernel
theorem dX12_isMended_68 : decode cX12_isMended 68 = .ok (.goto 4, 3) := by decide +kernel
theorem dX12_isMended_71 : decode cX12_isMended 71 = .ok (.iconst 0, 1) := by decide +kernel
theorem dX12_isMended_72 : decode cX12_isMended 72 = .ok (.istore 5, 2) := by decide +kernel
theorem dX12_isMended_74 : decode cX12_isMended 74 = .ok (.iload_n 3, 1) := by decide +kernel
theorem dX12_isMended_75 : decode cX12_isMended 75 = .ok (.ifCond .lt 34, 3) := by decide +kernel
theorem dX12_isMended_78 : decode cX12_isMended 78 = .ok (.aload_n 0, 1) := by decide +kernel
theorem dX12_isMended_79 : decode cX12_isMended 79 = .ok (.iload 4, 2) := by decide +kernel
theorem dX12_isMended_81 : decode cX12_isMended 81 = .ok (.aload_n 0, 1) := by decide +kernel
theorem dX12_isMended_82 : decode cX12_isMended 82 = .ok (.getfield 47, 3) := by decide +kernel
theorem dX12_isMended_85 : decode cX12_isMended 85 = .ok (.bipush 21, 2) := by decide +kernel
theorem dX12_isMended_87 : decode cX12_isMended 87 = .ok (.iload_n 1, 1) := by decide +kernel
theorem dX12_isMended_88 : decode cX12_isMended 88 = .ok (.imul, 1) := by decide +kernel
theorem dX12_isMended_89 : decode cX12_isMended 89 = .ok (.iload_n 3, 1) := by decide +kernel
theorem dX12_isMended_90 : decode cX12_isMended 90 = .ok (.iadd, 1) := by decide +kernel
theorem dX12_isMended_91 : decode cX12_isMended 91 = .ok (.iaload, 1) := by decide +kernel
theorem dX12_isMended_92 : decode cX12_isMended 92 = .ok (.aload_n 0, 1) := by decide +kernel
theorem dX12_isMended_93 : decode cX12_isMended 93 = .ok (.getfield 50, 3) := by decide +kernel
theorem dX12_isMended_96 : decode cX12_isMended 96 = .ok (.bipush 21, 2) := by decide +kernel
theorem dX12_isMended_98 : decode cX12_isMended 98 = .ok (.iload_n 1, 1) := by decide +kernel
theorem dX12_isMended_99 : decode cX12_isMended 99 = .ok (.imul, 1) := by decide +kernel
theorem dX12_isMended_100 : decode cX12_isMended 100 = .ok (.iload_n 3, 1) := by decide +kernel
theorem dX12_isMended_101 : decode cX12_isMended 101 = .ok (.iadd, 1) := by decide +kernel
theorem dX12_isMended_102 : decode cX12_isMended 102 = .ok (.iaload, 1) := by decide +kernel
theorem dX12_isMended_103 : decode cX12_isMended 103 = .ok (.invokevirtual 209, 3) := by decide +kernel
theorem dX12_isMended_106 : decode cX12_isMended 106 = .ok (.ifCond .eq 7, 3) := by decide +kernel
theorem dX12_isMended_109 : decode cX12_isMended 109 = .ok (.iconst 1, 1) := by decide +kernel
theorem dX12_isMended_110 : decode cX12_isMended 110 = .ok (.goto 4, 3) := by decide +kernel
theorem dX12_isMended_113 : decode cX12_isMended 113 = .ok (.iconst 0, 1) := by decide +kernel
theorem dX12_isMended_114 : decode cX12_isMended 114 = .ok (.istore 6, 2) := by decide +kernel
theorem dX12_isMended_116 : decode cX12_isMended 116 = .ok (.iload 5, 2) := by decide +kernel
theorem dX12_isMended_118 : decode cX12_isMended 118 = .ok (.ifCond .eq 10, 3) := by decide +kernel
theorem dX12_isMended_121 : decode cX12_isMended 121 = .ok (.iload 6, 2) := by decide +kernel
theorem dX12_isMended_123 : decode cX12_isMended 123 = .ok (.ifCond .eq 5, 3) := by decide +kernel
theorem dX12_isMended_126 : decode cX12_isMended 126 = .ok (.iconst 0, 1) := by decide +kernel
theorem dX12_isMended_127 : decode cX12_isMended 127 = .ok (.ireturn, 1) := by decide +kernel
theorem dX12_isMended_128 : decode cX12_isMended 128 = .ok (.iinc 4 1, 3) := by decide +kernel
theorem dX12_isMended_131 : decode cX12_isMended 131 = .ok (.goto (-128), 3) := by decide +kernel
theorem dX12_isMended_134 : decode cX12_isMended 134 = .ok (.iconst 1, 1) := by decide +kernel
theorem dX12_isMended_135 : decode cX12_isMended 135 = .ok (.ireturn, 1) := by decide +kernel
theorem dX12_mend_0 : decode cX12_mend 0 = .ok (.aload_n 0, 1) := by decide +kernel
theorem dX12_mend_1 : decode cX12_mend 1 = .ok (.iload_n 1, 1) := by decide +kernel
theorem dX12_mend_2 : decode cX12_mend 2 = .ok (.invokevirtual 176, 3) := by decide +kernel
theorem dX12_mend_5 : decode cX12_mend 5 = .ok (.istore_n 2, 1) := by decide +kernel
theorem dX12_mend_6 : decode cX12_mend 6 = .ok (.iload_n 2, 1) := by decide +kernel
theorem dX12_mend_7 : decode cX12_mend 7 = .ok (.ifCond .eq 9, 3) := by decide +kernel
theorem dX12_mend_10 : decode cX12_mend 10 = .ok (.aload_n 0, 1) := by decide +kernel
theorem dX12_mend_11 : decode cX12_mend 11 = .ok (.iload_n 2, 1) := by decide +kernel
theorem dX12_mend_12 : decode cX12_mend 12 = .ok (.invokevirtual 91, 3) := by decide +kernel
theorem dX12_mend_15 : decode cX12_mend 15 = .ok (.ireturn, 1) := by decide +kernel
theorem dX12_mend_16 : decode cX12_mend 16 = .ok (.aload_n 0, 1) := by decide +kernel
theorem dX12_mend_17 : decode cX12_mend 17 = .ok (.iload_n 1, 1) := by decide +kernel
theorem dX12_mend_18 : decode cX12_mend 18 = .ok (.bipush (-9), 2) := by decide +kernel
theorem dX12_mend_20 : decode cX12_mend 20 = .ok (.bipush (-9), 2) := by decide +kernel
theorem dX12_mend_22 : decode cX12_mend 22 = .ok (.invokevirtual 213, 3) := by decide +kernel
theorem dX12_mend_25 : decode cX12_mend 25 = .ok (.ifCond .eq 5, 3) := by decide +kernel
theorem dX12_mend_28 : decode cX12_mend 28 = .ok (.iconst 0, 1) := by decide +kernel
theorem dX12_mend_29 : decode cX12_mend 29 = .ok (.ireturn, 1) := by decide +kernel
theorem dX12_mend_30 : decode cX12_mend 30 = .ok (.iconst 0, 1) := by decide +kernel
theorem dX12_mend_31 : decode cX12_mend 31 = .ok (.istore_n 3, 1) := by decide +kernel
theorem dX12_mend_32 : decode cX12_mend 32 = .ok (.iload_n 3, 1) := by decide +kernel
theorem dX12_mend_33 : decode cX12_mend 33 = .ok (.aload_n 0, 1) := by decide +kernel
theorem dX12_mend_34 : decode cX12_mend 34 = .ok (.getfield 53, 3) := by decide +kernel
theorem dX12_mend_37 : decode cX12_mend 37 = .ok (.iload_n 1, 1) := by decide +kernel
theorem dX12_mend_38 : decode cX12_mend 38 = .ok (.iaload, 1) := by decide +kernel
theorem dX12_mend_39 : decode cX12_mend 39 = .ok (.if_icmp .ge 31, 3) := by decide +kernel
theorem dX12_mend_42 : decode cX12_mend 42 = .ok (.aload_n 0, 1) := by decide +kernel
theorem dX12_mend_43 : decode cX12_mend 43 = .ok (.iload_n 1, 1) := by decide +kernel
theorem dX12_mend_44 : decode cX12_mend 44 = .ok (.iload_n 3, 1) := by decide +kernel
theorem dX12_mend_45 : decode cX12_mend 45 = .ok (.invokevirtual 216, 3) := by decide +kernel
theorem dX12_mend_48 : decode cX12_mend 48 = .ok (.ifCond .eq 16, 3) := by decide +kernel
theorem dX12_mend_51 : decode cX12_mend 51 = .ok (.aload_n 0, 1) := by decide +kernel
theorem dX12_mend_52 : decode cX12_mend 52 = .ok (.iload_n 1, 1) := by decide +kernel
theorem dX12_mend_53 : decode cX12_mend 53 = .ok (.iload_n 3, 1) := by decide +kernel
theorem dX12_mend_54 : decode cX12_mend 54 = .ok (.bipush (-9), 2) := by decide +kernel
theorem dX12_mend_56 : decode cX12_mend 56 = .ok (.invokevirtual 213, 3) := by decide +kernel
theorem dX12_mend_59 : decode cX12_mend 59 = .ok (.ifCond .eq 5, 3) := by decide +kernel
theorem dX12_mend_62 : decode cX12_mend 62 = .ok (.iconst 1, 1) := by decide +kernel
theorem dX12_mend_63 : decode cX12_mend 63 = .ok (.ireturn, 1) := by decide +kernel
theorem dX12_mend_64 : decode cX12_mend 64 = .ok (.iinc 3 1, 3) := by decide +kernel
theorem dX12_mend_67 : decode cX12_mend 67 = .ok (.goto (-35), 3) := by decide +kernel
theorem dX12_mend_70 : decode cX12_mend 70 = .ok (.iconst 0, 1) := by decide +kernel
theorem dX12_mend_71 : decode cX12_mend 71 = .ok (.istore_n 3, 1) := by decide +kernel
theorem dX12_mend_72 : decode cX12_mend 72 = .ok (.iload_n 3, 1) := by decide +kernel
theorem dX12_mend_73 : decode cX12_mend 73 = .ok (.aload_n 0, 1) := by decide +kernel
theorem dX12_mend_74 : decode cX12_mend 74 = .ok (.getfield 53, 3) := by decide +kernel
theorem dX12_mend_77 : decode cX12_mend 77 = .ok (.iload_n 1, 1) := by decide +kernel
theorem dX12_mend_78 : decode cX12_mend 78 = .ok (.iaload, 1) := by decide +kernel
theorem dX12_mend_79 : decode cX12_mend 79 = .ok (.if_icmp .ge 56, 3) := by decide +kernel
theorem dX12_mend_82 : decode cX12_mend 82 = .ok (.iconst 0, 1) := by decide +kernel
theorem dX12_mend_83 : decode cX12_mend 83 = .ok (.istore 4, 2) := by decide +kernel
theorem dX12_mend_85 : decode cX12_mend 85 = .ok (.iload 4, 2) := by decide +kernel
theorem dX12_mend_87 : decode cX12_mend 87 = .ok (.iload_n 3, 1) := by decide +kernel
theorem dX12_mend_88 : decode cX12_mend 88 = .ok (.if_icmp .ge 41, 3) := by decide +kernel
theorem dX12_mend_91 : decode cX12_mend 91 = .ok (.aload_n 0, 1) := by decide +kernel
theorem dX12_mend_92 : decode cX12_mend 92 = .ok (.iload_n 1, 1) := by decide +kernel
theorem dX12_mend_93 : decode cX12_mend 93 = .ok (.iload_n 3, 1) := by decide +kernel
theorem dX12_mend_94 : decode cX12_mend 94 = .ok (.invokevirtual 216, 3) := by decide +kernel
theorem dX12_mend_97 : decode cX12_mend 97 = .ok (.ifCond .eq 26, 3) := by decide +kernel
theorem dX12_mend_100 : decode cX12_mend 100 = .ok (.aload_n 0, 1) := by decide +kernel
theorem dX12_mend_101 : decode cX12_mend 101 = .ok (.iload_n 1, 1) := by decide +kernel
theorem dX12_mend_102 : decode cX12_mend 102 = .ok (.iload 4, 2) := by decide +kernel
theorem dX12_mend_104 : decode cX12_mend 104 = .ok (.invokevirtual 216, 3) := by decide +kernel
theorem dX12_mend_107 : decode cX12_mend 107 = .ok (.ifCond .eq 16, 3) := by decide +kernel
theorem dX12_mend_110 : decode cX12_mend 110 = .ok (.aload_n 0, 1) := by decide +kernel
theorem dX12_mend_111 : decode cX12_mend 111 = .ok (.iload_n 1, 1) := by decide +kernel
theorem dX12_mend_112 : decode cX12_mend 112 = .ok (.iload_n 3, 1) := by decide +kernel
theorem dX12_mend_113 : decode cX12_mend 113 = .ok (.iload 4, 2) := by decide +kernel
theorem dX12_mend_115 : decode cX12_mend 115 = .ok (.invokevirtual 213, 3) := by decide +kernel
theorem dX12_mend_118 : decode cX12_mend 118 = .ok (.ifCond .eq 5, 3) := by decide +kernel
theorem dX12_mend_121 : decode cX12_mend 121 = .ok (.iconst 2, 1) := by decide +kernel
theorem dX12_mend_122 : decode cX12_mend 122 = .ok (.ireturn, 1) := by decide +kernel
theorem dX12_mend_123 : decode cX12_mend 123 = .ok (.iinc 4 1, 3) := by decide +kernel
theorem dX12_mend_126 : decode cX12_mend 126 = .ok (.goto (-41), 3) := by decide +kernel
theorem dX12_mend_129 : decode cX12_mend 129 = .ok (.iinc 3 1, 3) := by decide +kernel
theorem dX12_mend_132 : decode cX12_mend 132 = .ok (.goto (-60), 3) := by decide +kernel
theorem dX12_mend_135 : decode cX12_mend 135 = .ok (.bipush (-9), 2) := by decide +kernel
theorem dX12_mend_137 : decode cX12_mend 137 = .ok (.ireturn, 1) := by decide +kernel
theorem dX12_aim_0 : decode cX12_aim 0 = .ok (.iload_n 1, 1) := by decide +kernel
theorem dX12_aim_1 : decode cX12_aim 1 = .ok (.bipush 32, 2) := by decide +kernel
theorem dX12_aim_3 : decode cX12_aim 3 = .ok (.invokestatic 111, 3) := by decide +kernel
theorem dX12_aim_6 : decode cX12_aim 6 = .ok (.ifCond .eq 14, 3) := by decide +kernel
theorem dX12_aim_9 : decode cX12_aim 9 = .ok (.iload_n 2, 1) := by decide +kernel
theorem dX12_aim_10 : decode cX12_aim 10 = .ok (.bipush (-99), 2) := by decide +kernel
theorem dX12_aim_12 : decode cX12_aim 12 = .ok (.bipush 99, 2) := by decide +kernel
theorem dX12_aim_14 : decode cX12_aim 14 = .ok (.invokestatic 219, 3) := by decide +kernel
theorem dX12_aim_17 : decode cX12_aim 17 = .ok (.goto 4, 3) := by decide +kernel
theorem dX12_aim_20 : decode cX12_aim 20 = .ok (.iconst (-1), 1) := by decide +kernel
theorem dX12_aim_21 : decode cX12_aim 21 = .ok (.istore_n 3, 1) := by decide +kernel
theorem dX12_aim_22 : decode cX12_aim 22 = .ok (.iload_n 3, 1) := by decide +kernel
theorem dX12_aim_23 : decode cX12_aim 23 = .ok (.ifCond .ne 15, 3) := by decide +kernel
theorem dX12_aim_26 : decode cX12_aim 26 = .ok (.aload_n 0, 1) := by decide +kernel
theorem dX12_aim_27 : decode cX12_aim 27 = .ok (.getfield 223, 3) := by decide +kernel
theorem dX12_aim_30 : decode cX12_aim 30 = .ok (.bipush 8, 2) := by decide +kernel
theorem dX12_aim_32 : decode cX12_aim 32 = .ok (.if_icmp .ne 6, 3) := by decide +kernel
theorem dX12_aim_35 : decode cX12_aim 35 = .ok (.bipush (-6), 2) := by decide +kernel
theorem dX12_aim_37 : decode cX12_aim 37 = .ok (.istore_n 3, 1) := by decide +kernel
theorem dX12_aim_38 : decode cX12_aim 38 = .ok (.iload_n 3, 1) := by decide +kernel
theorem dX12_aim_39 : decode cX12_aim 39 = .ok (.ifCond .eq 9, 3) := by decide +kernel
theorem dX12_aim_42 : decode cX12_aim 42 = .ok (.aload_n 0, 1) := by decide +kernel
theorem dX12_aim_43 : decode cX12_aim 43 = .ok (.iload_n 3, 1) := by decide +kernel
theorem dX12_aim_44 : decode cX12_aim 44 = .ok (.invokevirtual 91, 3) := by decide +kernel
theorem dX12_aim_47 : decode cX12_aim 47 = .ok (.ireturn, 1) := by decide +kernel
theorem dX12_aim_48 : decode cX12_aim 48 = .ok (.aload_n 0, 1) := by decide +kernel
theorem dX12_aim_49 : decode cX12_aim 49 = .ok (.getfield 22, 3) := by decide +kernel
theorem dX12_aim_52 : decode cX12_aim 52 = .ok (.aload_n 0, 1) := by decide +kernel
theorem dX12_aim_53 : decode cX12_aim 53 = .ok (.getfield 223, 3) := by decide +kernel
theorem dX12_aim_56 : decode cX12_aim 56 = .ok (.iload_n 1, 1) := by decide +kernel
theorem dX12_aim_57 : decode cX12_aim 57 = .ok (.iastore, 1) := by decide +kernel
theorem dX12_aim_58 : decode cX12_aim 58 = .ok (.aload_n 0, 1) := by decide +kernel
theorem dX12_aim_59 : decode cX12_aim 59 = .ok (.getfield 25, 3) := by decide +kernel
theorem dX12_aim_62 : decode cX12_aim 62 = .ok (.aload_n 0, 1) := by decide +kernel
theorem dX12_aim_63 : decode cX12_aim 63 = .ok (.getfield 223, 3) := by decide +kernel
theorem dX12_aim_66 : decode cX12_aim 66 = .ok (.iload_n 2, 1) := by decide +kernel
theorem dX12_aim_67 : decode cX12_aim 67 = .ok (.iastore, 1) := by decide +kernel
theorem dX12_aim_68 : decode cX12_aim 68 = .ok (.aload_n 0, 1) := by decide +kernel
theorem dX12_aim_69 : decode cX12_aim 69 = .ok (.dup, 1) := by decide +kernel
theorem dX12_aim_70 : decode cX12_aim 70 = .ok (.getfield 223, 3) := by decide +kernel
theorem dX12_aim_73 : decode cX12_aim 73 = .ok (.iconst 1, 1) := by decide +kernel
theorem dX12_aim_74 : decode cX12_aim 74 = .ok (.iadd, 1) := by decide +kernel
theorem dX12_aim_75 : decode cX12_aim 75 = .ok (.putfield 223, 3) := by decide +kernel
theorem dX12_aim_78 : decode cX12_aim 78 = .ok (.aload_n 0, 1) := by decide +kernel
theorem dX12_aim_79 : decode cX12_aim 79 = .ok (.getfield 223, 3) := by decide +kernel
theorem dX12_aim_82 : decode cX12_aim 82 = .ok (.ireturn, 1) := by decide +kernel
theorem dX12_servesBy_0 : decode cX12_servesBy 0 = .ok (.iconst 0, 1) := by decide +kernel
theorem dX12_servesBy_1 : decode cX12_servesBy 1 = .ok (.istore_n 2, 1) := by decide +kernel
theorem dX12_servesBy_2 : decode cX12_servesBy 2 = .ok (.iconst 0, 1) := by decide +kernel
theorem dX12_servesBy_3 : decode cX12_servesBy 3 = .ok (.istore_n 3, 1) := by decide +kernel
theorem dX12_servesBy_4 : decode cX12_servesBy 4 = .ok (.iload_n 3, 1) := by decide +kernel
theorem dX12_servesBy_5 : decode cX12_servesBy 5 = .ok (.aload_n 0, 1) := by decide +kernel
theorem dX12_servesBy_6 : decode cX12_servesBy 6 = .ok (.getfield 223, 3) := by decide +kernel
theorem dX12_servesBy_9 : decode cX12_servesBy 9 = .ok (.if_icmp .ge 36, 3) := by decide +kernel
theorem dX12_servesBy_12 : decode cX12_servesBy 12 = .ok (.iload_n 2, 1) := by decide +kernel
theorem dX12_servesBy_13 : decode cX12_servesBy 13 = .ok (.aload_n 0, 1) := by decide +kernel
theorem dX12_servesBy_14 : decode cX12_servesBy 14 = .ok (.iload_n 1, 1) := by decide +kernel
theorem dX12_servesBy_15 : decode cX12_servesBy 15 = .ok (.aload_n 0, 1) := by decide +kernel
theorem dX12_servesBy_16 : decode cX12_servesBy 16 = .ok (.getfield 22, 3) := by decide +kernel
theorem dX12_servesBy_19 : decode cX12_servesBy 19 = .ok (.iload_n 3, 1) := by decide +kernel
theorem dX12_servesBy_20 : decode cX12_servesBy 20 = .ok (.iaload, 1) := by decide +kernel
theorem dX12_servesBy_21 : decode cX12_servesBy 21 = .ok (.invokevirtual 179, 3) := by decide +kernel
theorem dX12_servesBy_24 : decode cX12_servesBy 24 = .ok (.ifCond .eq 12, 3) := by decide +kernel
theorem dX12_servesBy_27 : decode cX12_servesBy 27 = .ok (.aload_n 0, 1) := by decide +kernel
theorem dX12_servesBy_28 : decode cX12_servesBy 28 = .ok (.getfield 25, 3) := by decide +kernel
theorem dX12_servesBy_31 : decode cX12_servesBy 31 = .ok (.iload_n 3, 1) := by decide +kernel
theorem dX12_servesBy_32 : decode cX12_servesBy 32 = .ok (.iaload, 1) := by decide +kernel
theorem dX12_servesBy_33 : decode cX12_servesBy 33 = .ok (.goto 4, 3) := by decide +kernel
theorem dX12_servesBy_36 : decode cX12_servesBy 36 = .ok (.iconst 0, 1) := by decide +kernel
theorem dX12_servesBy_37 : decode cX12_servesBy 37 = .ok (.iadd, 1) := by decide +kernel
theorem dX12_servesBy_38 : decode cX12_servesBy 38 = .ok (.istore_n 2, 1) := by decide +kernel
theorem dX12_servesBy_39 : decode cX12_servesBy 39 = .ok (.iinc 3 1, 3) := by decide +kernel
theorem dX12_servesBy_42 : decode cX12_servesBy 42 = .ok (.goto (-38), 3) := by decide +kernel
theorem dX12_servesBy_45 : decode cX12_servesBy 45 = .ok (.iload_n 2, 1) := by decide +kernel
theorem dX12_servesBy_46 : decode cX12_servesBy 46 = .ok (.ireturn, 1) := by decide +kernel
theorem dX12_serves_0 : decode cX12_serves 0 = .ok (.aload_n 0, 1) := by decide +kernel
theorem dX12_serves_1 : decode cX12_serves 1 = .ok (.iload_n 1, 1) := by decide +kernel
theorem dX12_serves_2 : decode cX12_serves 2 = .ok (.invokevirtual 176, 3) := by decide +kernel
theorem dX12_serves_5 : decode cX12_serves 5 = .ok (.istore_n 2, 1) := by decide +kernel
theorem dX12_serves_6 : decode cX12_serves 6 = .ok (.iload_n 2, 1) := by decide +kernel
theorem dX12_serves_7 : decode cX12_serves 7 = .ok (.ifCond .eq 14, 3) := by decide +kernel
theorem dX12_serves_10 : decode cX12_serves 10 = .ok (.ldc 226, 2) := by decide +kernel
theorem dX12_serves_12 : decode cX12_serves 12 = .ok (.aload_n 0, 1) := by decide +kernel
theorem dX12_serves_13 : decode cX12_serves 13 = .ok (.iload_n 2, 1) := by decide +kernel
theorem dX12_serves_14 : decode cX12_serves 14 = .ok (.invokevirtual 91, 3) := by decide +kernel
theorem dX12_serves_17 : decode cX12_serves 17 = .ok (.isub, 1) := by decide +kernel
theorem dX12_serves_18 : decode cX12_serves 18 = .ok (.goto 8, 3) := by decide +kernel
theorem dX12_serves_21 : decode cX12_serves 21 = .ok (.aload_n 0, 1) := by decide +kernel
theorem dX12_serves_22 : decode cX12_serves 22 = .ok (.iload_n 1, 1) := by decide +kernel
theorem dX12_serves_23 : decode cX12_serves 23 = .ok (.invokevirtual 227, 3) := by decide +kernel
theorem dX12_serves_26 : decode cX12_serves 26 = .ok (.ireturn, 1) := by decide +kernel
theorem dX12_best_0 : decode cX12_best 0 = .ok (.aload_n 0, 1) := by decide +kernel
theorem dX12_best_1 : decode cX12_best 1 = .ok (.getfield 170, 3) := by decide +kernel
theorem dX12_best_4 : decode cX12_best 4 = .ok (.ifCond .ne 10, 3) := by decide +kernel
theorem dX12_best_7 : decode cX12_best 7 = .ok (.aload_n 0, 1) := by decide +kernel
theorem dX12_best_8 : decode cX12_best 8 = .ok (.bipush (-5), 2) := by decide +kernel
theorem dX12_best_10 : decode cX12_best 10 = .ok (.invokevirtual 91, 3) := by decide +kernel
theorem dX12_best_13 : decode cX12_best 13 = .ok (.ireturn, 1) := by decide +kernel
theorem dX12_best_14 : decode cX12_best 14 = .ok (.iconst 0, 1) := by decide +kernel
theorem dX12_best_15 : decode cX12_best 15 = .ok (.istore_n 1, 1) := by decide +kernel
theorem dX12_best_16 : decode cX12_best 16 = .ok (.iconst 1, 1) := by decide +kernel
theorem dX12_best_17 : decode cX12_best 17 = .ok (.istore_n 2, 1) := by decide +kernel
theorem dX12_best_18 : decode cX12_best 18 = .ok (.iload_n 2, 1) := by decide +kernel
theorem dX12_best_19 : decode cX12_best 19 = .ok (.aload_n 0, 1) := by decide +kernel
theorem dX12_best_20 : decode cX12_best 20 = .ok (.getfield 129, 3) := by decide +kernel
theorem dX12_best_23 : decode cX12_best 23 = .ok (.if_icmp .ge 28, 3) := by decide +kernel
theorem dX12_best_26 : decode cX12_best 26 = .ok (.aload_n 0, 1) := by decide +kernel
theorem dX12_best_27 : decode cX12_best 27 = .ok (.iload_n 2, 1) := by decide +kernel
theorem dX12_best_28 : decode cX12_best 28 = .ok (.invokevirtual 227, 3) := by decide +kernel
theorem dX12_best_31 : decode cX12_best 31 = .ok (.aload_n 0, 1) := by decide +kernel
theorem dX12_best_32 : decode cX12_best 32 = .ok (.iload_n 1, 1) := by decide +kernel
theorem dX12_best_33 : decode cX12_best 33 = .ok (.invokevirtual 227, 3) := by decide +kernel
theorem dX12_best_36 : decode cX12_best 36 = .ok (.if_icmp .le 7, 3) := by decide +kernel
theorem dX12_best_39 : decode cX12_best 39 = .ok (.iload_n 2, 1) := by decide +kernel
theorem dX12_best_40 : decode cX12_best 40 = .ok (.goto 4, 3) := by decide +kernel
theorem dX12_best_43 : decode cX12_best 43 = .ok (.iload_n 1, 1) := by decide +kernel
theorem dX12_best_44 : decode cX12_best 44 = .ok (.istore_n 1, 1) := by decide +kernel
theorem dX12_best_45 : decode cX12_best 45 = .ok (.iinc 2 1, 3) := by decide +kernel
theorem dX12_best_48 : decode cX12_best 48 = .ok (.goto (-30), 3) := by decide +kernel
theorem dX12_best_51 : decode cX12_best 51 = .ok (.iload_n 1, 1) := by decide +kernel
theorem dX12_best_52 : decode cX12_best 52 = .ok (.ireturn, 1) := by decide +kernel
theorem dX12_image_0 : decode cX12_image 0 = .ok (.iconst 0, 1) := by decide +kernel
theorem dX12_image_1 : decode cX12_image 1 = .ok (.istore_n 1, 1) := by decide +kernel
theorem dX12_image_2 : decode cX12_image 2 = .ok (.iload_n 1, 1) := by decide +kernel
theorem dX12_image_3 : decode cX12_image 3 = .ok (.bipush 21, 2) := by decide +kernel
theorem dX12_image_5 : decode cX12_image 5 = .ok (.if_icmp .ge 21, 3) := by decide +kernel
theorem dX12_image_8 : decode cX12_image 8 = .ok (.aload_n 0, 1) := by decide +kernel
theorem dX12_image_9 : decode cX12_image 9 = .ok (.getfield 28, 3) := by decide +kernel
theorem dX12_image_12 : decode cX12_image 12 = .ok (.iload_n 1, 1) := by decide +kernel
theorem dX12_image_13 : decode cX12_image 13 = .ok (.aload_n 0, 1) := by decide +kernel
theorem dX12_image_14 : decode cX12_image 14 = .ok (.getfield 13, 3) := by decide +kernel
theorem dX12_image_17 : decode cX12_image 17 = .ok (.iload_n 1, 1) := by decide +kernel
theorem dX12_image_18 : decode cX12_image 18 = .ok (.iaload, 1) := by decide +kernel
theorem dX12_image_19 : decode cX12_image 19 = .ok (.iastore, 1) := by decide +kernel
theorem dX12_image_20 : decode cX12_image 20 = .ok (.iinc 1 1, 3) := by decide +kernel
theorem dX12_image_23 : decode cX12_image 23 = .ok (.goto (-21), 3) := by decide +kernel
theorem dX12_image_26 : decode cX12_image 26 = .ok (.iconst 0, 1) := by decide +kernel
theorem dX12_image_27 : decode cX12_image 27 = .ok (.istore_n 1, 1) := by decide +kernel
theorem dX12_image_28 : decode cX12_image 28 = .ok (.iload_n 1, 1) := by decide +kernel
theorem dX12_image_29 : decode cX12_image 29 = .ok (.bipush 6, 2) := by decide +kernel
theorem dX12_image_31 : decode cX12_image 31 = .ok (.if_icmp .ge 21, 3) := by decide +kernel
theorem dX12_image_34 : decode cX12_image 34 = .ok (.aload_n 0, 1) := by decide +kernel
theorem dX12_image_35 : decode cX12_image 35 = .ok (.getfield 31, 3) := by decide +kernel
theorem dX12_image_38 : decode cX12_image 38 = .ok (.iload_n 1, 1) := by decide +kernel
theorem dX12_image_39 : decode cX12_image 39 = .ok (.aload_n 0, 1) := by decide +kernel
theorem dX12_image_40 : decode cX12_image 40 = .ok (.getfield 19, 3) := by decide +kernel
theorem dX12_image_43 : decode cX12_image 43 = .ok (.iload_n 1, 1) := by decide +kernel
theorem dX12_image_44 : decode cX12_image 44 = .ok (.iaload, 1) := by decide +kernel
theorem dX12_image_45 : decode cX12_image 45 = .ok (.iastore, 1) := by decide +kernel
theorem dX12_image_46 : decode cX12_image 46 = .ok (.iinc 1 1, 3) := by decide +kernel
theorem dX12_image_49 : decode cX12_image 49 = .ok (.goto (-21), 3) := by decide +kernel
theorem dX12_image_52 : decode cX12_image 52 = .ok (.iconst 0, 1) := by decide +kernel
theorem dX12_image_53 : decode cX12_image 53 = .ok (.istore_n 1, 1) := by decide +kernel
theorem dX12_image_54 : decode cX12_image 54 = .ok (.iload_n 1, 1) := by decide +kernel
theorem dX12_image_55 : decode cX12_image 55 = .ok (.bipush 8, 2) := by decide +kernel
theorem dX12_image_57 : decode cX12_image 57 = .ok (.if_icmp .ge 33, 3) := by decide +kernel
theorem dX12_image_60 : decode cX12_image 60 = .ok (.aload_n 0, 1) := by decide +kernel
theorem dX12_image_61 : decode cX12_image 61 = .ok (.getfield 34, 3) := by decide +kernel
theorem dX12_image_64 : decode cX12_image 64 = .ok (.iload_n 1, 1) := by decide +kernel
theorem dX12_image_65 : decode cX12_image 65 = .ok (.aload_n 0, 1) := by decide +kernel
theorem dX12_image_66 : decode cX12_image 66 = .ok (.getfield 22, 3) := by decide +kernel
theorem dX12_image_69 : decode cX12_image 69 = .ok (.iload_n 1, 1) := by decide +kernel
theorem dX12_image_70 : decode cX12_image 70 = .ok (.iaload, 1) := by decide +kernel
theorem dX12_image_71 : decode cX12_image 71 = .ok (.iastore, 1) := by decide +kernel
theorem dX12_image_72 : decode cX12_image 72 = .ok (.aload_n 0, 1) := by decide +kernel
theorem dX12_image_73 : decode cX12_image 73 = .ok (.getfield 37, 3) := by decide +kernel
theorem dX12_image_76 : decode cX12_image 76 = .ok (.iload_n 1, 1) := by decide +kernel
theorem dX12_image_77 : decode cX12_image 77 = .ok (.aload_n 0, 1) := by decide +kernel
theorem dX12_image_78 : decode cX12_image 78 = .ok (.getfield 25, 3) := by decide +kernel
theorem dX12_image_81 : decode cX12_image 81 = .ok (.iload_n 1, 1) := by decide +kernel
theorem dX12_image_82 : decode cX12_image 82 = .ok (.iaload, 1) := by decide +kernel
theorem dX12_image_83 : decode cX12_image 83 = .ok (.iastore, 1) := by decide +kernel
theorem dX12_image_84 : decode cX12_image 84 = .ok (.iinc 1 1, 3) := by decide +kernel
theorem dX12_image_87 : decode cX12_image 87 = .ok (.goto (-33), 3) := by decide +kernel
theorem dX12_image_90 : decode cX12_image 90 = .ok (.aload_n 0, 1) := by decide +kernel
theorem dX12_image_91 : decode cX12_image 91 = .ok (.aload_n 0, 1) := by decide +kernel
theorem dX12_image_92 : decode cX12_image 92 = .ok (.getfield 85, 3) := by decide +kernel
theorem dX12_image_95 : decode cX12_image 95 = .ok (.putfield 230, 3) := by decide +kernel
theorem dX12_image_98 : decode cX12_image 98 = .ok (.aload_n 0, 1) := by decide +kernel
theorem dX12_image_99 : decode cX12_image 99 = .ok (.aload_n 0, 1) := by decide +kernel
theorem dX12_image_100 : decode cX12_image 100 = .ok (.getfield 191, 3) := by decide +kernel
theorem dX12_image_103 : decode cX12_image 103 = .ok (.putfield 233, 3) := by decide +kernel
theorem dX12_image_106 : decode cX12_image 106 = .ok (.aload_n 0, 1) := by decide +kernel
theorem dX12_image_107 : decode cX12_image 107 = .ok (.aload_n 0, 1) := by decide +kernel
theorem dX12_image_108 : decode cX12_image 108 = .ok (.getfield 223, 3) := by decide +kernel
theorem dX12_image_111 : decode cX12_image 111 = .ok (.putfield 236, 3) := by decide +kernel
theorem dX12_image_114 : decode cX12_image 114 = .ok (.aload_n 0, 1) := by decide +kernel
theorem dX12_image_115 : decode cX12_image 115 = .ok (.iconst 1, 1) := by decide +kernel
theorem dX12_image_116 : decode cX12_image 116 = .ok (.putfield 239, 3) := by decide +kernel
theorem dX12_image_119 : decode cX12_image 119 = .ok (.aload_n 0, 1) := by decide +kernel
theorem dX12_image_120 : decode cX12_image 120 = .ok (.getfield 85, 3) := by decide +kernel
theorem dX12_image_123 : decode cX12_image 123 = .ok (.ireturn, 1) := by decide +kernel
theorem dX12_on_0 : decode cX12_on 0 = .ok (.aload_n 0, 1) := by decide +kernel
theorem dX12_on_1 : decode cX12_on 1 = .ok (.getfield 239, 3) := by decide +kernel
theorem dX12_on_4 : decode cX12_on 4 = .ok (.ifCond .ne 10, 3) := by decide +kernel
theorem dX12_on_7 : decode cX12_on 7 = .ok (.aload_n 0, 1) := by decide +kernel
theorem dX12_on_8 : decode cX12_on 8 = .ok (.bipush (-3), 2) := by decide +kernel
theorem dX12_on_10 : decode cX12_on 10 = .ok (.invokevirtual 91, 3) := by decide +kernel
theorem dX12_on_13 : decode cX12_on 13 = .ok (.ireturn, 1) := by decide +kernel
theorem dX12_on_14 : decode cX12_on 14 = .ok (.iconst 0, 1) := by decide +kernel
theorem dX12_on_15 : decode cX12_on 15 = .ok (.istore_n 1, 1) := by decide +kernel
theorem dX12_on_16 : decode cX12_on 16 = .ok (.iload_n 1, 1) := by decide +kernel
theorem dX12_on_17 : decode cX12_on 17 = .ok (.bipush 21, 2) := by decide +kernel
theorem dX12_on_19 : decode cX12_on 19 = .ok (.if_icmp .ge 21, 3) := by decide +kernel
theorem dX12_on_22 : decode cX12_on 22 = .ok (.aload_n 0, 1) := by decide +kernel
theorem dX12_on_23 : decode cX12_on 23 = .ok (.getfield 13, 3) := by decide +kernel
theorem dX12_on_26 : decode cX12_on 26 = .ok (.iload_n 1, 1) := by decide +kernel
theorem dX12_on_27 : decode cX12_on 27 = .ok (.aload_n 0, 1) := by decide +kernel
theorem dX12_on_28 : decode cX12_on 28 = .ok (.getfield 28, 3) := by decide +kernel
theorem dX12_on_31 : decode cX12_on 31 = .ok (.iload_n 1, 1) := by decide +kernel
theorem dX12_on_32 : decode cX12_on 32 = .ok (.iaload, 1) := by decide +kernel
theorem dX12_on_33 : decode cX12_on 33 = .ok (.iastore, 1) := by decide +kernel
theorem dX12_on_34 : decode cX12_on 34 = .ok (.iinc 1 1, 3) := by decide +kernel
theorem dX12_on_37 : decode cX12_on 37 = .ok (.goto (-21), 3) := by decide +kernel
theorem dX12_on_40 : decode cX12_on 40 = .ok (.iconst 0, 1) := by decide +kernel
theorem dX12_on_41 : decode cX12_on 41 = .ok (.istore_n 1, 1) := by decide +kernel
theorem dX12_on_42 : decode cX12_on 42 = .ok (.iload_n 1, 1) := by decide +kernel
theorem dX12_on_43 : decode cX12_on 43 = .ok (.bipush 6, 2) := by decide +kernel
theorem dX12_on_45 : decode cX12_on 45 = .ok (.if_icmp .ge 21, 3) := by decide +kernel
theorem dX12_on_48 : decode cX12_on 48 = .ok (.aload_n 0, 1) := by decide +kernel
theorem dX12_on_49 : decode cX12_on 49 = .ok (.getfield 19, 3) := by decide +kernel
theorem dX12_on_52 : decode cX12_on 52 = .ok (.iload_n 1, 1) := by decide +kernel
theorem dX12_on_53 : decode cX12_on 53 = .ok (.aload_n 0, 1) := by decide +kernel
theorem dX12_on_54 : decode cX12_on 54 = .ok (.getfield 31, 3) := by decide +kernel
theorem dX12_on_57 : decode cX12_on 57 = .ok (.iload_n 1, 1) := by decide +kernel
theorem dX12_on_58 : decode cX12_on 58 = .ok (.iaload, 1) := by decide +kernel
theorem dX12_on_59 : decode cX12_on 59 = .ok (.iastore, 1) := by decide +kernel
theorem dX12_on_60 : decode cX12_on 60 = .ok (.iinc 1 1, 3) := by decide +kernel
theorem dX12_on_63 : decode cX12_on 63 = .ok (.goto (-21), 3) := by decide +kernel
theorem dX12_on_66 : decode cX12_on 66 = .ok (.iconst 0, 1) := by decide +kernel
theorem dX12_on_67 : decode cX12_on 67 = .ok (.istore_n 1, 1) := by decide +kernel
theorem dX12_on_68 : decode cX12_on 68 = .ok (.iload_n 1, 1) := by decide +kernel
theorem dX12_on_69 : decode cX12_on 69 = .ok (.bipush 8, 2) := by decide +kernel
theorem dX12_on_71 : decode cX12_on 71 = .ok (.if_icmp .ge 33, 3) := by decide +kernel
theorem dX12_on_74 : decode cX12_on 74 = .ok (.aload_n 0, 1) := by decide +kernel
theorem dX12_on_75 : decode cX12_on 75 = .ok (.getfield 22, 3) := by decide +kernel
theorem dX12_on_78 : decode cX12_on 78 = .ok (.iload_n 1, 1) := by decide +kernel
theorem dX12_on_79 : decode cX12_on 79 = .ok (.aload_n 0, 1) := by decide +kernel
theorem dX12_on_80 : decode cX12_on 80 = .ok (.getfield 34, 3) := by decide +kernel
theorem dX12_on_83 : decode cX12_on 83 = .ok (.iload_n 1, 1) := by decide +kernel
theorem dX12_on_84 : decode cX12_on 84 = .ok (.iaload, 1) := by decide +kernel
theorem dX12_on_85 : decode cX12_on 85 = .ok (.iastore, 1) := by decide +kernel
theorem dX12_on_86 : decode cX12_on 86 = .ok (.aload_n 0, 1) := by decide +kernel
theorem dX12_on_87 : decode cX12_on 87 = .ok (.getfield 25, 3) := by decide +kernel
theorem dX12_on_90 : decode cX12_on 90 = .ok (.iload_n 1, 1) := by decide +kernel
theorem dX12_on_91 : decode cX12_on 91 = .ok (.aload_n 0, 1) := by decide +kernel
theorem dX12_on_92 : decode cX12_on 92 = .ok (.getfield 37, 3) := by decide +kernel
theorem dX12_on_95 : decode cX12_on 95 = .ok (.iload_n 1, 1) := by decide +kernel
theorem dX12_on_96 : decode cX12_on 96 = .ok (.iaload, 1) := by decide +kernel
theorem dX12_on_97 : decode cX12_on 97 = .ok (.iastore, 1) := by decide +kernel
theorem dX12_on_98 : decode cX12_on 98 = .ok (.iinc 1 1, 3) := by decide +kernel
theorem dX12_on_101 : decode cX12_on 101 = .ok (.goto (-33), 3) := by decide +kernel
theorem dX12_on_104 : decode cX12_on 104 = .ok (.aload_n 0, 1) := by decide +kernel
theorem dX12_on_105 : decode cX12_on 105 = .ok (.aload_n 0, 1) := by decide +kernel
theorem dX12_on_106 : decode cX12_on 106 = .ok (.getfield 230, 3) := by decide +kernel
theorem dX12_on_109 : decode cX12_on 109 = .ok (.putfield 85, 3) := by decide +kernel
theorem dX12_on_112 : decode cX12_on 112 = .ok (.aload_n 0, 1) := by decide +kernel
theorem dX12_on_113 : decode cX12_on 113 = .ok (.aload_n 0, 1) := by decide +kernel
theorem dX12_on_114 : decode cX12_on 114 = .ok (.getfield 233, 3) := by decide +kernel
theorem dX12_on_117 : decode cX12_on 117 = .ok (.putfield 191, 3) := by decide +kernel
theorem dX12_on_120 : decode cX12_on 120 = .ok (.aload_n 0, 1) := by decide +kernel
theorem dX12_on_121 : decode cX12_on 121 = .ok (.aload_n 0, 1) := by decide +kernel
theorem dX12_on_122 : decode cX12_on 122 = .ok (.getfield 236, 3) := by decide +kernel
theorem dX12_on_125 : decode cX12_on 125 = .ok (.putfield 223, 3) := by decide +kernel
theorem dX12_on_128 : decode cX12_on 128 = .ok (.aload_n 0, 1) := by decide +kernel
theorem dX12_on_129 : decode cX12_on 129 = .ok (.invokevirtual 88, 3) := by decide +kernel
theorem dX12_on_132 : decode cX12_on 132 = .ok (.aload_n 0, 1) := by decide +kernel
theorem dX12_on_133 : decode cX12_on 133 = .ok (.getfield 85, 3) := by decide +kernel
theorem dX12_on_136 : decode cX12_on 136 = .ok (.ireturn, 1) := by decide +kernel
theorem dX12_count_0 : decode cX12_count 0 = .ok (.iload_n 1, 1) := by decide +kernel
theorem dX12_count_1 : decode cX12_count 1 = .ok (.bipush 10, 2) := by decide +kernel
theorem dX12_count_3 : decode cX12_count 3 = .ok (.if_icmp .le 19, 3) := by decide +kernel
theorem dX12_count_6 : decode cX12_count 6 = .ok (.iload_n 1, 1) := by decide +kernel
theorem dX12_count_7 : decode cX12_count 7 = .ok (.bipush 17, 2) := by decide +kernel
theorem dX12_count_9 : decode cX12_count 9 = .ok (.if_icmp .ge 13, 3) := by decide +kernel
theorem dX12_count_12 : decode cX12_count 12 = .ok (.aload_n 0, 1) := by decide +kernel
theorem dX12_count_13 : decode cX12_count 13 = .ok (.getfield 7, 3) := by decide +kernel
theorem dX12_count_16 : decode cX12_count 16 = .ok (.iload_n 1, 1) := by decide +kernel
theorem dX12_count_17 : decode cX12_count 17 = .ok (.bipush 10, 2) := by decide +kernel
theorem dX12_count_19 : decode cX12_count 19 = .ok (.isub, 1) := by decide +kernel
theorem dX12_count_20 : decode cX12_count 20 = .ok (.iaload, 1) := by decide +kernel
theorem dX12_count_21 : decode cX12_count 21 = .ok (.ireturn, 1) := by decide +kernel
theorem dX12_count_22 : decode cX12_count 22 = .ok (.iconst 0, 1) := by decide +kernel
theorem dX12_count_23 : decode cX12_count 23 = .ok (.istore_n 2, 1) := by decide +kernel
theorem dX12_count_24 : decode cX12_count 24 = .ok (.iload_n 1, 1) := by decide +kernel
theorem dX12_count_25 : decode cX12_count 25 = .ok (.tableswitch 93 0 4 #[35, 40, 45, 50, 55], 35) := by decide +kernel
theorem dX12_count_60 : decode cX12_count 60 = .ok (.aload_n 0, 1) := by decide +kernel
theorem dX12_count_61 : decode cX12_count 61 = .ok (.getfield 85, 3) := by decide +kernel
theorem dX12_count_64 : decode cX12_count 64 = .ok (.ireturn, 1) := by decide +kernel
theorem dX12_count_65 : decode cX12_count 65 = .ok (.aload_n 0, 1) := by decide +kernel
theorem dX12_count_66 : decode cX12_count 66 = .ok (.getfield 191, 3) := by decide +kernel
theorem dX12_count_69 : decode cX12_count 69 = .ok (.ireturn, 1) := by decide +kernel
theorem dX12_count_70 : decode cX12_count 70 = .ok (.aload_n 0, 1) := by decide +kernel
theorem dX12_count_71 : decode cX12_count 71 = .ok (.getfield 223, 3) := by decide +kernel
theorem dX12_count_74 : decode cX12_count 74 = .ok (.ireturn, 1) := by decide +kernel
theorem dX12_count_75 : decode cX12_count 75 = .ok (.aload_n 0, 1) := by decide +kernel
theorem dX12_count_76 : decode cX12_count 76 = .ok (.getfield 95, 3) := by decide +kernel
theorem dX12_count_79 : decode cX12_count 79 = .ok (.ireturn, 1) := by decide +kernel
theorem dX12_count_80 : decode cX12_count 80 = .ok (.iconst 0, 1) := by decide +kernel
theorem dX12_count_81 : decode cX12_count 81 = .ok (.istore_n 3, 1) := by decide +kernel
theorem dX12_count_82 : decode cX12_count 82 = .ok (.iload_n 3, 1) := by decide +kernel
theorem dX12_count_83 : decode cX12_count 83 = .ok (.aload_n 0, 1) := by decide +kernel
theorem dX12_count_84 : decode cX12_count 84 = .ok (.getfield 85, 3) := by decide +kernel
theorem dX12_count_87 : decode cX12_count 87 = .ok (.if_icmp .ge 29, 3) := by decide +kernel
theorem dX12_count_90 : decode cX12_count 90 = .ok (.iload_n 2, 1) := by decide +kernel
theorem dX12_count_91 : decode cX12_count 91 = .ok (.aload_n 0, 1) := by decide +kernel
theorem dX12_count_92 : decode cX12_count 92 = .ok (.getfield 13, 3) := by decide +kernel
theorem dX12_count_95 : decode cX12_count 95 = .ok (.iload_n 3, 1) := by decide +kernel
theorem dX12_count_96 : decode cX12_count 96 = .ok (.iaload, 1) := by decide +kernel
theorem dX12_count_97 : decode cX12_count 97 = .ok (.invokestatic 103, 3) := by decide +kernel
theorem dX12_count_100 : decode cX12_count 100 = .ok (.ifCond .eq 7, 3) := by decide +kernel
theorem dX12_count_103 : decode cX12_count 103 = .ok (.iconst 1, 1) := by decide +kernel
theorem dX12_count_104 : decode cX12_count 104 = .ok (.goto 4, 3) := by decide +kernel
theorem dX12_count_107 : decode cX12_count 107 = .ok (.iconst 0, 1) := by decide +kernel
theorem dX12_count_108 : decode cX12_count 108 = .ok (.iadd, 1) := by decide +kernel
theorem dX12_count_109 : decode cX12_count 109 = .ok (.istore_n 2, 1) := by decide +kernel
theorem dX12_count_110 : decode cX12_count 110 = .ok (.iinc 3 1, 3) := by decide +kernel
theorem dX12_count_113 : decode cX12_count 113 = .ok (.goto (-31), 3) := by decide +kernel
theorem dX12_count_116 : decode cX12_count 116 = .ok (.iload_n 2, 1) := by decide +kernel
theorem dX12_count_117 : decode cX12_count 117 = .ok (.ireturn, 1) := by decide +kernel
theorem dX12_count_118 : decode cX12_count 118 = .ok (.bipush (-9), 2) := by decide +kernel
theorem dX12_count_120 : decode cX12_count 120 = .ok (.ireturn, 1) := by decide +kernel
theorem dL_law_0 : decode cL_law 0 = .ok (.new 7, 3) := by decide +kernel
theorem dL_law_3 : decode cL_law 3 = .ok (.dup, 1) := by decide +kernel
theorem dL_law_4 : decode cL_law 4 = .ok (.invokespecial 9, 3) := by decide +kernel
theorem dL_law_7 : decode cL_law 7 = .ok (.astore_n 1, 1) := by decide +kernel
theorem dL_law_8 : decode cL_law 8 = .ok (.new 10, 3) := by decide +kernel
theorem dL_law_11 : decode cL_law 11 = .ok (.dup, 1) := by decide +kernel
theorem dL_law_12 : decode cL_law 12 = .ok (.invokespecial 12, 3) := by decide +kernel
theorem dL_law_15 : decode cL_law 15 = .ok (.astore_n 2, 1) := by decide +kernel
theorem dL_law_16 : decode cL_law 16 = .ok (.iconst 0, 1) := by decide +kernel
theorem dL_law_17 : decode cL_law 17 = .ok (.istore_n 3, 1) := by decide +kernel
theorem dL_law_18 : decode cL_law 18 = .ok (.iload_n 3, 1) := by decide +kernel
theorem dL_law_19 : decode cL_law 19 = .ok (.aload_n 0, 1) := by decide +kernel
theorem dL_law_20 : decode cL_law 20 = .ok (.arraylength, 1) := by decide +kernel
theorem dL_law_21 : decode cL_law 21 = .ok (.iconst 4, 1) := by decide +kernel
theorem dL_law_22 : decode cL_law 22 = .ok (.isub, 1) := by decide +kernel
theorem dL_law_23 : decode cL_law 23 = .ok (.if_icmp .gt 924, 3) := by decide +kernel
theorem dL_law_26 : decode cL_law 26 = .ok (.aload_n 0, 1) := by decide +kernel
theorem dL_law_27 : decode cL_law 27 = .ok (.iload_n 3, 1) := by decide +kernel
theorem dL_law_28 : decode cL_law 28 = .ok (.iaload, 1) := by decide +kernel
theorem dL_law_29 : decode cL_law 29 = .ok (.bipush 31, 2) := by decide +kernel
theorem dL_law_31 : decode cL_law 31 = .ok (.iand, 1) := by decide +kernel
theorem dL_law_32 : decode cL_law 32 = .ok (.tableswitch 909 0 31 #[144, 207, 220, 243, 257, 280, 323, 347, 380, 403, 443, 476, 489, 522, 545, 558, 591, 614, 627, 650, 663, 696, 709, 722, 735, 768, 791, 824, 847, 860, 873, 886], 144) := by decide +kernel
theorem dL_law_176 : decode cL_law 176 = .ok (.aload_n 1, 1) := by decide +kernel
theorem dL_law_177 : decode cL_law 177 = .ok (.aload_n 0, 1) := by decide +kernel
theorem dL_law_178 : decode cL_law 178 = .ok (.iload_n 3, 1) := by decide +kernel
theorem dL_law_179 : decode cL_law 179 = .ok (.iconst 1, 1) := by decide +kernel
theorem dL_law_180 : decode cL_law 180 = .ok (.iadd, 1) := by decide +kernel
theorem dL_law_181 : decode cL_law 181 = .ok (.iaload, 1) := by decide +kernel
theorem dL_law_182 : decode cL_law 182 = .ok (.aload_n 0, 1) := by decide +kernel
theorem dL_law_183 : decode cL_law 183 = .ok (.iload_n 3, 1) := by decide +kernel
theorem dL_law_184 : decode cL_law 184 = .ok (.iconst 2, 1) := by decide +kernel
theorem dL_law_185 : decode cL_law 185 = .ok (.iadd, 1) := by decide +kernel
theorem dL_law_186 : decode cL_law 186 = .ok (.iaload, 1) := by decide +kernel
theorem dL_law_187 : decode cL_law 187 = .ok (.i2l, 1) := by decide +kernel
theorem dL_law_188 : decode cL_law 188 = .ok (.bipush 32, 2) := by decide +kernel
theorem dL_law_190 : decode cL_law 190 = .ok (.lshl, 1) := by decide +kernel
theorem dL_law_191 : decode cL_law 191 = .ok (.aload_n 0, 1) := by decide +kernel
theorem dL_law_192 : decode cL_law 192 = .ok (.iload_n 3, 1) := by decide +kernel
theorem dL_law_193 : decode cL_law 193 = .ok (.iconst 3, 1) := by decide +kernel
theorem dL_law_194 : decode cL_law 194 = .ok (.iadd, 1) := by decide +kernel
theorem dL_law_195 : decode cL_law 195 = .ok (.iaload, 1) := by decide +kernel
theorem dL_law_196 : decode cL_law 196 = .ok (.i2l, 1) := by decide +kernel
theorem dL_law_197 : decode cL_law 197 = .ok (.ldc2_w 13, 3) := by decide +kernel
theorem dL_law_200 : decode cL_law 200 = .ok (.land, 1) := by decide +kernel
theorem dL_law_201 : decode cL_law 201 = .ok (.lor, 1) := by decide +kernel
theorem dL_law_202 : decode cL_law 202 = .ok (.invokevirtual 15, 3) := by decide +kernel
theorem dL_law_205 : decode cL_law 205 = .ok (.aload_n 2, 1) := by decide +kernel
theorem dL_law_206 : decode cL_law 206 = .ok (.aload_n 0, 1) := by decide +kernel
theorem dL_law_207 : decode cL_law 207 = .ok (.iload_n 3, 1) := by decide +kernel
theorem dL_law_208 : decode cL_law 208 = .ok (.iconst 1, 1) := by decide +kernel
theorem dL_law_209 : decode cL_law 209 = .ok (.iadd, 1) := by decide +kernel
theorem dL_law_210 : decode cL_law 210 = .ok (.iaload, 1) := by decide +kernel
theorem dL_law_211 : decode cL_law 211 = .ok (.aload_n 0, 1) := by decide +kernel
theorem dL_law_212 : decode cL_law 212 = .ok (.iload_n 3, 1) := by decide +kernel
theorem dL_law_213 : decode cL_law 213 = .ok (.iconst 2, 1) := by decide +kernel
theorem dL_law_214 : decode cL_law 214 = .ok (.iadd, 1) := by decide +kernel
theorem dL_law_215 : decode cL_law 215 = .ok (.iaload, 1) := by decide +kernel
theorem dL_law_216 : decode cL_law 216 = .ok (.i2l, 1) := by decide +kernel
theorem dL_law_217 : decode cL_law 217 = .ok (.bipush 32, 2) := by decide +kernel
theorem dL_law_219 : decode cL_law 219 = .ok (.lshl, 1) := by decide +kernel
theorem dL_law_220 : decode cL_law 220 = .ok (.aload_n 0, 1) := by decide +kernel
theorem dL_law_221 : decode cL_law 221 = .ok (.iload_n 3, 1) := by decide +kernel
theorem dL_law_222 : decode cL_law 222 = .ok (.iconst 3, 1) := by decide +kernel
theorem dL_law_223 : decode cL_law 223 = .ok (.iadd, 1) := by decide +kernel
theorem dL_law_224 : decode cL_law 224 = .ok (.iaload, 1) := by decide +kernel
theorem dL_law_225 : decode cL_law 225 = .ok (.i2l, 1) := by decide +kernel
theorem dL_law_226 : decode cL_law 226 = .ok (.ldc2_w 13, 3) := by decide +kernel
theorem dL_law_229 : decode cL_law 229 = .ok (.land, 1) := by decide +kernel
theorem dL_law_230 : decode cL_law 230 = .ok (.lor, 1) := by decide +kernel
theorem dL_law_231 : decode cL_law 231 = .ok (.invokevirtual 19, 3) := by decide +kernel
theorem dL_law_234 : decode cL_law 234 = .ok (.if_icmp .eq 707, 3) := by decide +kernel
theorem dL_law_237 : decode cL_law 237 = .ok (.iconst 0, 1) := by decide +kernel
theorem dL_law_238 : decode cL_law 238 = .ok (.ireturn, 1) := by decide +kernel
theorem dL_law_239 : decode cL_law 239 = .ok (.aload_n 1, 1) := by decide +kernel
theorem dL_law_240 : decode cL_law 240 = .ok (.invokevirtual 20, 3) := by decide +kernel
theorem dL_law_243 : decode cL_law 243 = .ok (.aload_n 2, 1) := by decide +kernel
theorem dL_law_244 : decode cL_law 244 = .ok (.invokevirtual 24, 3) := by decide +kernel
theorem dL_law_247 : decode cL_law 247 = .ok (.if_icmp .eq 694, 3) := by decide +kernel
theorem dL_law_250 : decode cL_law 250 = .ok (.iconst 0, 1) := by decide +kernel
theorem dL_law_251 : decode cL_law 251 = .ok (.ireturn, 1) := by decide +kernel
theorem dL_law_252 : decode cL_law 252 = .ok (.aload_n 1, 1) := by decide +kernel
theorem dL_law_253 : decode cL_law 253 = .ok (.aload_n 0, 1) := by decide +kernel
theorem dL_law_254 : decode cL_law 254 = .ok (.iload_n 3, 1) := by decide +kernel
theorem dL_law_255 : decode cL_law 255 = .ok (.iconst 1, 1) := by decide +kernel
theorem dL_law_256 : decode cL_law 256 = .ok (.iadd, 1) := by decide +kernel
theorem dL_law_257 : decode cL_law 257 = .ok (.iaload, 1) := by decide +kernel
theorem dL_law_258 : decode cL_law 258 = .ok (.invokevirtual 25, 3) := by decide +kernel
theorem dL_law_261 : decode cL_law 261 = .ok (.aload_n 2, 1) := by decide +kernel
theorem dL_law_262 : decode cL_law 262 = .ok (.aload_n 0, 1) := by decide +kernel
theorem dL_law_263 : decode cL_law 263 = .ok (.iload_n 3, 1) := by decide +kernel
theorem dL_law_264 : decode cL_law 264 = .ok (.iconst 1, 1) := by decide +kernel
theorem dL_law_265 : decode cL_law 265 = .ok (.iadd, 1) := by decide +kernel
theorem dL_law_266 : decode cL_law 266 = .ok (.iaload, 1) := by decide +kernel
theorem dL_law_267 : decode cL_law 267 = .ok (.invokevirtual 29, 3) := by decide +kernel
theorem dL_law_270 : decode cL_law 270 = .ok (.if_icmp .eq 671, 3) := by decide +kernel
theorem dL_law_273 : decode cL_law 273 = .ok (.iconst 0, 1) := by decide +kernel
theorem dL_law_274 : decode cL_law 274 = .ok (.ireturn, 1) := by decide +kernel
theorem dL_law_275 : decode cL_law 275 = .ok (.aload_n 1, 1) := by decide +kernel
theorem dL_law_276 : decode cL_law 276 = .ok (.invokevirtual 30, 3) := by decide +kernel
theorem dL_law_279 : decode cL_law 279 = .ok (.aload_n 2, 1) := by decide +kernel
theorem dL_law_280 : decode cL_law 280 = .ok (.invokevirtual 34, 3) := by decide +kernel
theorem dL_law_283 : decode cL_law 283 = .ok (.lcmp, 1) := by decide +kernel
theorem dL_law_284 : decode cL_law 284 = .ok (.ifCond .eq 657, 3) := by decide +kernel
theorem dL_law_287 : decode cL_law 287 = .ok (.iconst 0, 1) := by decide +kernel
theorem dL_law_288 : decode cL_law 288 = .ok (.ireturn, 1) := by decide +kernel
theorem dL_law_289 : decode cL_law 289 = .ok (.aload_n 1, 1) := by decide +kernel
theorem dL_law_290 : decode cL_law 290 = .ok (.aload_n 0, 1) := by decide +kernel
theorem dL_law_291 : decode cL_law 291 = .ok (.iload_n 3, 1) := by decide +kernel
theorem dL_law_292 : decode cL_law 292 = .ok (.iconst 1, 1) := by decide +kernel
theorem dL_law_293 : decode cL_law 293 = .ok (.iadd, 1) := by decide +kernel
theorem dL_law_294 : decode cL_law 294 = .ok (.iaload, 1) := by decide +kernel
theorem dL_law_295 : decode cL_law 295 = .ok (.invokevirtual 35, 3) := by decide +kernel
theorem dL_law_298 : decode cL_law 298 = .ok (.aload_n 2, 1) := by decide +kernel
theorem dL_law_299 : decode cL_law 299 = .ok (.aload_n 0, 1) := by decide +kernel
theorem dL_law_300 : decode cL_law 300 = .ok (.iload_n 3, 1) := by decide +kernel
theorem dL_law_301 : decode cL_law 301 = .ok (.iconst 1, 1) := by decide +kernel
theorem dL_law_302 : decode cL_law 302 = .ok (.iadd, 1) := by decide +kernel
theorem dL_law_303 : decode cL_law 303 = .ok (.iaload, 1) := by decide +kernel
theorem dL_law_304 : decode cL_law 304 = .ok (.invokevirtual 38, 3) := by decide +kernel
theorem dL_law_307 : decode cL_law 307 = .ok (.if_icmp .eq 634, 3) := by decide +kernel
theorem dL_law_310 : decode cL_law 310 = .ok (.iconst 0, 1) := by decide +kernel
theorem dL_law_311 : decode cL_law 311 = .ok (.ireturn, 1) := by decide +kernel
theorem dL_law_312 : decode cL_law 312 = .ok (.aload_n 1, 1) := by decide +kernel
theorem dL_law_313 : decode cL_law 313 = .ok (.aload_n 0, 1) := by decide +kernel
theorem dL_law_314 : decode cL_law 314 = .ok (.iload_n 3, 1) := by decide +kernel
theorem dL_law_315 : decode cL_law 315 = .ok (.iconst 1, 1) := by decide +kernel
theorem dL_law_316 : decode cL_law 316 = .ok (.iadd, 1) := by decide +kernel
theorem dL_law_317 : decode cL_law 317 = .ok (.iaload, 1) := by decide +kernel
theorem dL_law_318 : decode cL_law 318 = .ok (.aload_n 0, 1) := by decide +kernel
theorem dL_law_319 : decode cL_law 319 = .ok (.iload_n 3, 1) := by decide +kernel
theorem dL_law_320 : decode cL_law 320 = .ok (.iconst 2, 1) := by decide +kernel
theorem dL_law_321 : decode cL_law 321 = .ok (.iadd, 1) := by decide +kernel
theorem dL_law_322 : decode cL_law 322 = .ok (.iaload, 1) := by decide +kernel
theorem dL_law_323 : decode cL_law 323 = .ok (.aload_n 0, 1) := by decide +kernel
theorem dL_law_324 : decode cL_law 324 = .ok (.iload_n 3, 1) := by decide +kernel
theorem dL_law_325 : decode cL_law 325 = .ok (.iconst 3, 1) := by decide +kernel
theorem dL_law_326 : decode cL_law 326 = .ok (.iadd, 1) := by decide +kernel
theorem dL_law_327 : decode cL_law 327 = .ok (.iaload, 1) := by decide +kernel
theorem dL_law_328 : decode cL_law 328 = .ok (.invokevirtual 39, 3) := by decide +kernel
theorem dL_law_331 : decode cL_law 331 = .ok (.aload_n 2, 1) := by decide +kernel
theorem dL_law_332 : decode cL_law 332 = .ok (.aload_n 0, 1) := by decide +kernel
theorem dL_law_333 : decode cL_law 333 = .ok (.iload_n 3, 1) := by decide +kernel
theorem dL_law_334 : decode cL_law 334 = .ok (.iconst 1, 1) := by decide +kernel
theorem dL_law_335 : decode cL_law 335 = .ok (.iadd, 1) := by decide +kernel
theorem dL_law_336 : decode cL_law 336 = .ok (.iaload, 1) := by decide +kernel
theorem dL_law_337 : decode cL_law 337 = .ok (.aload_n 0, 1) := by decide +kernel
theorem dL_law_338 : decode cL_law 338 = .ok (.iload_n 3, 1) := by decide +kernel
theorem dL_law_339 : decode cL_law 339 = .ok (.iconst 2, 1) := by decide +kernel
theorem dL_law_340 : decode cL_law 340 = .ok (.iadd, 1) := by decide +kernel
theorem dL_law_341 : decode cL_law 341 = .ok (.iaload, 1) := by decide +kernel
theorem dL_law_342 : decode cL_law 342 = .ok (.aload_n 0, 1) := by decide +kernel
theorem dL_law_343 : decode cL_law 343 = .ok (.iload_n 3, 1) := by decide +kernel
theorem dL_law_344 : decode cL_law 344 = .ok (.iconst 3, 1) := by decide +kernel
theorem dL_law_345 : decode cL_law 345 = .ok (.iadd, 1) := by decide +kernel
theorem dL_law_346 : decode cL_law 346 = .ok (.iaload, 1) := by decide +kernel
theorem dL_law_347 : decode cL_law 347 = .ok (.invokevirtual 43, 3) := by decide +kernel
theorem dL_law_350 : decode cL_law 350 = .ok (.if_icmp .eq 591, 3) := by decide +kernel
theorem dL_law_353 : decode cL_law 353 = .ok (.iconst 0, 1) := by decide +kernel
theorem dL_law_354 : decode cL_law 354 = .ok (.ireturn, 1) := by decide +kernel
theorem dL_law_355 : decode cL_law 355 = .ok (.aload_n 1, 1) := by decide +kernel
theorem dL_law_356 : decode cL_law 356 = .ok (.aload_n 0, 1) := by decide +kernel
theorem dL_law_357 : decode cL_law 357 = .ok (.iload_n 3, 1) := by decide +kernel
theorem dL_law_358 : decode cL_law 358 = .ok (.iconst 1, 1) := by decide +kernel
theorem dL_law_359 : decode cL_law 359 = .ok (.iadd, 1) := by decide +kernel
theorem dL_law_360 : decode cL_law 360 = .ok (.iaload, 1) := by decide +kernel
theorem dL_law_361 : decode cL_law 361 = .ok (.invokevirtual 44, 3) := by decide +kernel
theorem dL_law_364 : decode cL_law 364 = .ok (.aload_n 2, 1) := by decide +kernel
theorem dL_law_365 : decode cL_law 365 = .ok (.aload_n 0, 1) := by decide +kernel
theorem dL_law_366 : decode cL_law 366 = .ok (.iload_n 3, 1) := by decide +kernel
theorem dL_law_367 : decode cL_law 367 = .ok (.iconst 1, 1) := by decide +kernel
theorem dL_law_368 : decode cL_law 368 = .ok (.iadd, 1) := by decide +kernel
theorem dL_law_369 : decode cL_law 369 = .ok (.iaload, 1) := by decide +kernel
theorem dL_law_370 : decode cL_law 370 = .ok (.invokevirtual 48, 3) := by decide +kernel
theorem dL_law_373 : decode cL_law 373 = .ok (.lcmp, 1) := by decide +kernel
theorem dL_law_374 : decode cL_law 374 = .ok (.ifCond .eq 567, 3) := by decide +kernel
theorem dL_law_377 : decode cL_law 377 = .ok (.iconst 0, 1) := by decide +kernel
theorem dL_law_378 : decode cL_law 378 = .ok (.ireturn, 1) := by decide +kernel
theorem dL_law_379 : decode cL_law 379 = .ok (.aload_n 1, 1) := by decide +kernel
theorem dL_law_380 : decode cL_law 380 = .ok (.aload_n 0, 1) := by decide +kernel
theorem dL_law_381 : decode cL_law 381 = .ok (.iload_n 3, 1) := by decide +kernel
theorem dL_law_382 : decode cL_law 382 = .ok (.iconst 1, 1) := by decide +kernel
theorem dL_law_383 : decode cL_law 383 = .ok (.iadd, 1) := by decide +kernel
theorem dL_law_384 : decode cL_law 384 = .ok (.iaload, 1) := by decide +kernel
theorem dL_law_385 : decode cL_law 385 = .ok (.aload_n 0, 1) := by decide +kernel
theorem dL_law_386 : decode cL_law 386 = .ok (.iload_n 3, 1) := by decide +kernel
theorem dL_law_387 : decode cL_law 387 = .ok (.iconst 2, 1) := by decide +kernel
theorem dL_law_388 : decode cL_law 388 = .ok (.iadd, 1) := by decide +kernel
theorem dL_law_389 : decode cL_law 389 = .ok (.iaload, 1) := by decide +kernel
theorem dL_law_390 : decode cL_law 390 = .ok (.invokevirtual 49, 3) := by decide +kernel
theorem dL_law_393 : decode cL_law 393 = .ok (.aload_n 2, 1) := by decide +kernel
theorem dL_law_394 : decode cL_law 394 = .ok (.aload_n 0, 1) := by decide +kernel
theorem dL_law_395 : decode cL_law 395 = .ok (.iload_n 3, 1) := by decide +kernel
theorem dL_law_396 : decode cL_law 396 = .ok (.iconst 1, 1) := by decide +kernel
theorem dL_law_397 : decode cL_law 397 = .ok (.iadd, 1) := by decide +kernel
theorem dL_law_398 : decode cL_law 398 = .ok (.iaload, 1) := by decide +kernel
theorem dL_law_399 : decode cL_law 399 = .ok (.aload_n 0, 1) := by decide +kernel
theorem dL_law_400 : decode cL_law 400 = .ok (.iload_n 3, 1) := by decide +kernel
theorem dL_law_401 : decode cL_law 401 = .ok (.iconst 2, 1) := by decide +kernel
theorem dL_law_402 : decode cL_law 402 = .ok (.iadd, 1) := by decide +kernel
theorem dL_law_403 : decode cL_law 403 = .ok (.iaload, 1) := by decide +kernel
theorem dL_law_404 : decode cL_law 404 = .ok (.invokevirtual 53, 3) := by decide +kernel
theorem dL_law_407 : decode cL_law 407 = .ok (.if_icmp .eq 534, 3) := by decide +kernel
theorem dL_law_410 : decode cL_law 410 = .ok (.iconst 0, 1) := by decide +kernel
theorem dL_law_411 : decode cL_law 411 = .ok (.ireturn, 1) := by decide +kernel
theorem dL_law_412 : decode cL_law 412 = .ok (.aload_n 1, 1) := by decide +kernel
theorem dL_law_413 : decode cL_law 413 = .ok (.aload_n 0, 1) := by decide +kernel
theorem dL_law_414 : decode cL_law 414 = .ok (.iload_n 3, 1) := by decide +kernel
theorem dL_law_415 : decode cL_law 415 = .ok (.iconst 1, 1) := by decide +kernel
theorem dL_law_416 : decode cL_law 416 = .ok (.iadd, 1) := by decide +kernel
theorem dL_law_417 : decode cL_law 417 = .ok (.iaload, 1) := by decide +kernel
theorem dL_law_418 : decode cL_law 418 = .ok (.invokevirtual 54, 3) := by decide +kernel
theorem dL_law_421 : decode cL_law 421 = .ok (.aload_n 2, 1) := by decide +kernel
theorem dL_law_422 : decode cL_law 422 = .ok (.aload_n 0, 1) := by decide +kernel
theorem dL_law_423 : decode cL_law 423 = .ok (.iload_n 3, 1) := by decide +kernel
theorem dL_law_424 : decode cL_law 424 = .ok (.iconst 1, 1) := by decide +kernel
theorem dL_law_425 : decode cL_law 425 = .ok (.iadd, 1) := by decide +kernel
theorem dL_law_426 : decode cL_law 426 = .ok (.iaload, 1) := by decide +kernel
theorem dL_law_427 : decode cL_law 427 = .ok (.invokevirtual 57, 3) := by decide +kernel
theorem dL_law_430 : decode cL_law 430 = .ok (.if_icmp .eq 511, 3) := by decide +kernel
theorem dL_law_433 : decode cL_law 433 = .ok (.iconst 0, 1) := by decide +kernel
theorem dL_law_434 : decode cL_law 434 = .ok (.ireturn, 1) := by decide +kernel
theorem dL_law_435 : decode cL_law 435 = .ok (.aload_n 1, 1) := by decide +kernel
theorem dL_law_436 : decode cL_law 436 = .ok (.aload_n 0, 1) := by decide +kernel
theorem dL_law_437 : decode cL_law 437 = .ok (.iload_n 3, 1) := by decide +kernel
theorem dL_law_438 : decode cL_law 438 = .ok (.iconst 1, 1) := by decide +kernel
theorem dL_law_439 : decode cL_law 439 = .ok (.iadd, 1) := by decide +kernel
theorem dL_law_440 : decode cL_law 440 = .ok (.iaload, 1) := by decide +kernel
theorem dL_law_441 : decode cL_law 441 = .ok (.ifCond .eq 7, 3) := by decide +kernel
theorem dL_law_444 : decode cL_law 444 = .ok (.iconst 1, 1) := by decide +kernel
theorem dL_law_445 : decode cL_law 445 = .ok (.goto 4, 3) := by decide +kernel
theorem dL_law_448 : decode cL_law 448 = .ok (.iconst 0, 1) := by decide +kernel
theorem dL_law_449 : decode cL_law 449 = .ok (.invokevirtual 58, 3) := by decide +kernel
theorem dL_law_452 : decode cL_law 452 = .ok (.aload_n 2, 1) := by decide +kernel
theorem dL_law_453 : decode cL_law 453 = .ok (.aload_n 0, 1) := by decide +kernel
theorem dL_law_454 : decode cL_law 454 = .ok (.iload_n 3, 1) := by decide +kernel
theorem dL_law_455 : decode cL_law 455 = .ok (.iconst 1, 1) := by decide +kernel
theorem dL_law_456 : decode cL_law 456 = .ok (.iadd, 1) := by decide +kernel
theorem dL_law_457 : decode cL_law 457 = .ok (.iaload, 1) := by decide +kernel
theorem dL_law_458 : decode cL_law 458 = .ok (.ifCond .eq 7, 3) := by decide +kernel
theorem dL_law_461 : decode cL_law 461 = .ok (.iconst 1, 1) := by decide +kernel
theorem dL_law_462 : decode cL_law 462 = .ok (.goto 4, 3) := by decide +kernel
theorem dL_law_465 : decode cL_law 465 = .ok (.iconst 0, 1) := by decide +kernel
theorem dL_law_466 : decode cL_law 466 = .ok (.invokevirtual 62, 3) := by decide +kernel
theorem dL_law_469 : decode cL_law 469 = .ok (.lcmp, 1) := by decide +kernel
theorem dL_law_470 : decode cL_law 470 = .ok (.ifCond .eq 471, 3) := by decide +kernel
theorem dL_law_473 : decode cL_law 473 = .ok (.iconst 0, 1) := by decide +kernel
theorem dL_law_474 : decode cL_law 474 = .ok (.ireturn, 1) := by decide +kernel
theorem dL_law_475 : decode cL_law 475 = .ok (.aload_n 1, 1) := by decide +kernel
theorem dL_law_476 : decode cL_law 476 = .ok (.aload_n 0, 1) := by decide +kernel
theorem dL_law_477 : decode cL_law 477 = .ok (.iload_n 3, 1) := by decide +kernel
theorem dL_law_478 : decode cL_law 478 = .ok (.iconst 1, 1) := by decide +kernel
theorem dL_law_479 : decode cL_law 479 = .ok (.iadd, 1) := by decide +kernel
theorem dL_law_480 : decode cL_law 480 = .ok (.iaload, 1) := by decide +kernel
theorem dL_law_481 : decode cL_law 481 = .ok (.aload_n 0, 1) := by decide +kernel
theorem dL_law_482 : decode cL_law 482 = .ok (.iload_n 3, 1) := by decide +kernel
theorem dL_law_483 : decode cL_law 483 = .ok (.iconst 2, 1) := by decide +kernel
theorem dL_law_484 : decode cL_law 484 = .ok (.iadd, 1) := by decide +kernel
theorem dL_law_485 : decode cL_law 485 = .ok (.iaload, 1) := by decide +kernel
theorem dL_law_486 : decode cL_law 486 = .ok (.invokevirtual 63, 3) := by decide +kernel
theorem dL_law_489 : decode cL_law 489 = .ok (.aload_n 2, 1) := by decide +kernel
theorem dL_law_490 : decode cL_law 490 = .ok (.aload_n 0, 1) := by decide +kernel
theorem dL_law_491 : decode cL_law 491 = .ok (.iload_n 3, 1) := by decide +kernel
theorem dL_law_492 : decode cL_law 492 = .ok (.iconst 1, 1) := by decide +kernel
theorem dL_law_493 : decode cL_law 493 = .ok (.iadd, 1) := by decide +kernel
theorem dL_law_494 : decode cL_law 494 = .ok (.iaload, 1) := by decide +kernel
theorem dL_law_495 : decode cL_law 495 = .ok (.aload_n 0, 1) := by decide +kernel
theorem dL_law_496 : decode cL_law 496 = .ok (.iload_n 3, 1) := by decide +kernel
theorem dL_law_497 : decode cL_law 497 = .ok (.iconst 2, 1) := by decide +kernel
theorem dL_law_498 : decode cL_law 498 = .ok (.iadd, 1) := by decide +kernel
theorem dL_law_499 : decode cL_law 499 = .ok (.iaload, 1) := by decide +kernel
theorem dL_law_500 : decode cL_law 500 = .ok (.invokevirtual 66, 3) := by decide +kernel
theorem dL_law_503 : decode cL_law 503 = .ok (.if_icmp .eq 438, 3) := by decide +kernel
theorem dL_law_506 : decode cL_law 506 = .ok (.iconst 0, 1) := by decide +kernel
theorem dL_law_507 : decode cL_law 507 = .ok (.ireturn, 1) := by decide +kernel
theorem dL_law_508 : decode cL_law 508 = .ok (.aload_n 1, 1) := by decide +kernel
theorem dL_law_509 : decode cL_law 509 = .ok (.invokevirtual 67, 3) := by decide +kernel
theorem dL_law_512 : decode cL_law 512 = .ok (.aload_n 2, 1) := by decide +kernel
theorem dL_law_513 : decode cL_law 513 = .ok (.invokevirtual 70, 3) := by decide +kernel
theorem dL_law_516 : decode cL_law 516 = .ok (.if_icmp .eq 425, 3) := by decide +kernel
theorem dL_law_519 : decode cL_law 519 = .ok (.iconst 0, 1) := by decide +kernel
theorem dL_law_520 : decode cL_law 520 = .ok (.ireturn, 1) := by decide +kernel
theorem dL_law_521 : decode cL_law 521 = .ok (.aload_n 1, 1) := by decide +kernel
theorem dL_law_522 : decode cL_law 522 = .ok (.aload_n 0, 1) := by decide +kernel
theorem dL_law_523 : decode cL_law 523 = .ok (.iload_n 3, 1) := by decide +kernel
theorem dL_law_524 : decode cL_law 524 = .ok (.iconst 1, 1) := by decide +kernel
theorem dL_law_525 : decode cL_law 525 = .ok (.iadd, 1) := by decide +kernel
theorem dL_law_526 : decode cL_law 526 = .ok (.iaload, 1) := by decide +kernel
theorem dL_law_527 : decode cL_law 527 = .ok (.aload_n 0, 1) := by decide +kernel
theorem dL_law_528 : decode cL_law 528 = .ok (.iload_n 3, 1) := by decide +kernel
theorem dL_law_529 : decode cL_law 529 = .ok (.iconst 2, 1) := by decide +kernel
theorem dL_law_530 : decode cL_law 530 = .ok (.iadd, 1) := by decide +kernel
theorem dL_law_531 : decode cL_law 531 = .ok (.iaload, 1) := by decide +kernel
theorem dL_law_532 : decode cL_law 532 = .ok (.invokevirtual 71, 3) := by decide +kernel
theorem dL_law_535 : decode cL_law 535 = .ok (.aload_n 2, 1) := by decide +kernel
theorem dL_law_536 : decode cL_law 536 = .ok (.aload_n 0, 1) := by decide +kernel
theorem dL_law_537 : decode cL_law 537 = .ok (.iload_n 3, 1) := by decide +kernel
theorem dL_law_538 : decode cL_law 538 = .ok (.iconst 1, 1) := by decide +kernel
theorem dL_law_539 : decode cL_law 539 = .ok (.iadd, 1) := by decide +kernel
theorem dL_law_540 : decode cL_law 540 = .ok (.iaload, 1) := by decide +kernel
theorem dL_law_541 : decode cL_law 541 = .ok (.aload_n 0, 1) := by decide +kernel
theorem dL_law_542 : decode cL_law 542 = .ok (.iload_n 3, 1) := by decide +kernel
theorem dL_law_543 : decode cL_law 543 = .ok (.iconst 2, 1) := by decide +kernel
theorem dL_law_544 : decode cL_law 544 = .ok (.iadd, 1) := by decide +kernel
theorem dL_law_545 : decode cL_law 545 = .ok (.iaload, 1) := by decide +kernel
theorem dL_law_546 : decode cL_law 546 = .ok (.invokevirtual 74, 3) := by decide +kernel
theorem dL_law_549 : decode cL_law 549 = .ok (.if_icmp .eq 392, 3) := by decide +kernel
theorem dL_law_552 : decode cL_law 552 = .ok (.iconst 0, 1) := by decide +kernel
theorem dL_law_553 : decode cL_law 553 = .ok (.ireturn, 1) := by decide +kernel
theorem dL_law_554 : decode cL_law 554 = .ok (.aload_n 1, 1) := by decide +kernel
theorem dL_law_555 : decode cL_law 555 = .ok (.aload_n 0, 1) := by decide +kernel
theorem dL_law_556 : decode cL_law 556 = .ok (.iload_n 3, 1) := by decide +kernel
theorem dL_law_557 : decode cL_law 557 = .ok (.iconst 1, 1) := by decide +kernel
theorem dL_law_558 : decode cL_law 558 = .ok (.iadd, 1) := by decide +kernel
theorem dL_law_559 : decode cL_law 559 = .ok (.iaload, 1) := by decide +kernel
theorem dL_law_560 : decode cL_law 560 = .ok (.invokevirtual 75, 3) := by decide +kernel
theorem dL_law_563 : decode cL_law 563 = .ok (.aload_n 2, 1) := by decide +kernel
theorem dL_law_564 : decode cL_law 564 = .ok (.aload_n 0, 1) := by decide +kernel
theorem dL_law_565 : decode cL_law 565 = .ok (.iload_n 3, 1) := by decide +kernel
theorem dL_law_566 : decode cL_law 566 = .ok (.iconst 1, 1) := by decide +kernel
theorem dL_law_567 : decode cL_law 567 = .ok (.iadd, 1) := by decide +kernel
theorem dL_law_568 : decode cL_law 568 = .ok (.iaload, 1) := by decide +kernel
theorem dL_law_569 : decode cL_law 569 = .ok (.invokevirtual 78, 3) := by decide +kernel
theorem dL_law_572 : decode cL_law 572 = .ok (.if_icmp .eq 369, 3) := by decide +kernel
theorem dL_law_575 : decode cL_law 575 = .ok (.iconst 0, 1) := by decide +kernel
theorem dL_law_576 : decode cL_law 576 = .ok (.ireturn, 1) := by decide +kernel
theorem dL_law_577 : decode cL_law 577 = .ok (.aload_n 1, 1) := by decide +kernel
theorem dL_law_578 : decode cL_law 578 = .ok (.invokevirtual 79, 3) := by decide +kernel
theorem dL_law_581 : decode cL_law 581 = .ok (.aload_n 2, 1) := by decide +kernel
theorem dL_law_582 : decode cL_law 582 = .ok (.invokevirtual 82, 3) := by decide +kernel
theorem dL_law_585 : decode cL_law 585 = .ok (.if_icmp .eq 356, 3) := by decide +kernel
theorem dL_law_588 : decode cL_law 588 = .ok (.iconst 0, 1) := by decide +kernel
theorem dL_law_589 : decode cL_law 589 = .ok (.ireturn, 1) := by decide +kernel
theorem dL_law_590 : decode cL_law 590 = .ok (.aload_n 1, 1) := by decide +kernel
theorem dL_law_591 : decode cL_law 591 = .ok (.aload_n 0, 1) := by decide +kernel
theorem dL_law_592 : decode cL_law 592 = .ok (.iload_n 3, 1) := by decide +kernel
theorem dL_law_593 : decode cL_law 593 = .ok (.iconst 1, 1) := by decide +kernel
theorem dL_law_594 : decode cL_law 594 = .ok (.iadd, 1) := by decide +kernel
theorem dL_law_595 : decode cL_law 595 = .ok (.iaload, 1) := by decide +kernel
theorem dL_law_596 : decode cL_law 596 = .ok (.aload_n 0, 1) := by decide +kernel
theorem dL_law_597 : decode cL_law 597 = .ok (.iload_n 3, 1) := by decide +kernel
theorem dL_law_598 : decode cL_law 598 = .ok (.iconst 2, 1) := by decide +kernel
theorem dL_law_599 : decode cL_law 599 = .ok (.iadd, 1) := by decide +kernel
theorem dL_law_600 : decode cL_law 600 = .ok (.iaload, 1) := by decide +kernel
theorem dL_law_601 : decode cL_law 601 = .ok (.invokevirtual 83, 3) := by decide +kernel
theorem dL_law_604 : decode cL_law 604 = .ok (.aload_n 2, 1) := by decide +kernel
theorem dL_law_605 : decode cL_law 605 = .ok (.aload_n 0, 1) := by decide +kernel
theorem dL_law_606 : decode cL_law 606 = .ok (.iload_n 3, 1) := by decide +kernel
theorem dL_law_607 : decode cL_law 607 = .ok (.iconst 1, 1) := by decide +kernel
theorem dL_law_608 : decode cL_law 608 = .ok (.iadd, 1) := by decide +kernel
theorem dL_law_609 : decode cL_law 609 = .ok (.iaload, 1) := by decide +kernel
theorem dL_law_610 : decode cL_law 610 = .ok (.aload_n 0, 1) := by decide +kernel
theorem dL_law_611 : decode cL_law 611 = .ok (.iload_n 3, 1) := by decide +kernel
theorem dL_law_612 : decode cL_law 612 = .ok (.iconst 2, 1) := by decide +kernel
theorem dL_law_613 : decode cL_law 613 = .ok (.iadd, 1) := by decide +kernel
theorem dL_law_614 : decode cL_law 614 = .ok (.iaload, 1) := by decide +kernel
theorem dL_law_615 : decode cL_law 615 = .ok (.invokevirtual 86, 3) := by decide +kernel
theorem dL_law_618 : decode cL_law 618 = .ok (.if_icmp .eq 323, 3) := by decide +kernel
theorem dL_law_621 : decode cL_law 621 = .ok (.iconst 0, 1) := by decide +kernel
theorem dL_law_622 : decode cL_law 622 = .ok (.ireturn, 1) := by decide +kernel
theorem dL_law_623 : decode cL_law 623 = .ok (.aload_n 1, 1) := by decide +kernel
theorem dL_law_624 : decode cL_law 624 = .ok (.aload_n 0, 1) := by decide +kernel
theorem dL_law_625 : decode cL_law 625 = .ok (.iload_n 3, 1) := by decide +kernel
theorem dL_law_626 : decode cL_law 626 = .ok (.iconst 1, 1) := by decide +kernel
theorem dL_law_627 : decode cL_law 627 = .ok (.iadd, 1) := by decide +kernel
theorem dL_law_628 : decode cL_law 628 = .ok (.iaload, 1) := by decide +kernel
theorem dL_law_629 : decode cL_law 629 = .ok (.invokevirtual 87, 3) := by decide +kernel
theorem dL_law_632 : decode cL_law 632 = .ok (.aload_n 2, 1) := by decide +kernel
theorem dL_law_633 : decode cL_law 633 = .ok (.aload_n 0, 1) := by decide +kernel
theorem dL_law_634 : decode cL_law 634 = .ok (.iload_n 3, 1) := by decide +kernel
theorem dL_law_635 : decode cL_law 635 = .ok (.iconst 1, 1) := by decide +kernel
theorem dL_law_636 : decode cL_law 636 = .ok (.iadd, 1) := by decide +kernel
theorem dL_law_637 : decode cL_law 637 = .ok (.iaload, 1) := by decide +kernel
theorem dL_law_638 : decode cL_law 638 = .ok (.invokevirtual 90, 3) := by decide +kernel
theorem dL_law_641 : decode cL_law 641 = .ok (.if_icmp .eq 300, 3) := by decide +kernel
theorem dL_law_644 : decode cL_law 644 = .ok (.iconst 0, 1) := by decide +kernel
theorem dL_law_645 : decode cL_law 645 = .ok (.ireturn, 1) := by decide +kernel
theorem dL_law_646 : decode cL_law 646 = .ok (.aload_n 1, 1) := by decide +kernel
theorem dL_law_647 : decode cL_law 647 = .ok (.invokevirtual 91, 3) := by decide +kernel
theorem dL_law_650 : decode cL_law 650 = .ok (.aload_n 2, 1) := by decide +kernel
theorem dL_law_651 : decode cL_law 651 = .ok (.invokevirtual 94, 3) := by decide +kernel
theorem dL_law_654 : decode cL_law 654 = .ok (.if_icmp .eq 287, 3) := by decide +kernel
theorem dL_law_657 : decode cL_law 657 = .ok (.iconst 0, 1) := by decide +kernel
theorem dL_law_658 : decode cL_law 658 = .ok (.ireturn, 1) := by decide +kernel
theorem dL_law_659 : decode cL_law 659 = .ok (.aload_n 1, 1) := by decide +kernel
theorem dL_law_660 : decode cL_law 660 = .ok (.aload_n 0, 1) := by decide +kernel
theorem dL_law_661 : decode cL_law 661 = .ok (.iload_n 3, 1) := by decide +kernel
theorem dL_law_662 : decode cL_law 662 = .ok (.iconst 1, 1) := by decide +kernel
theorem dL_law_663 : decode cL_law 663 = .ok (.iadd, 1) := by decide +kernel
theorem dL_law_664 : decode cL_law 664 = .ok (.iaload, 1) := by decide +kernel
theorem dL_law_665 : decode cL_law 665 = .ok (.invokevirtual 95, 3) := by decide +kernel
theorem dL_law_668 : decode cL_law 668 = .ok (.aload_n 2, 1) := by decide +kernel
theorem dL_law_669 : decode cL_law 669 = .ok (.aload_n 0, 1) := by decide +kernel
theorem dL_law_670 : decode cL_law 670 = .ok (.iload_n 3, 1) := by decide +kernel
theorem dL_law_671 : decode cL_law 671 = .ok (.iconst 1, 1) := by decide +kernel
theorem dL_law_672 : decode cL_law 672 = .ok (.iadd, 1) := by decide +kernel
theorem dL_law_673 : decode cL_law 673 = .ok (.iaload, 1) := by decide +kernel
theorem dL_law_674 : decode cL_law 674 = .ok (.invokevirtual 98, 3) := by decide +kernel
theorem dL_law_677 : decode cL_law 677 = .ok (.if_icmp .eq 264, 3) := by decide +kernel
theorem dL_law_680 : decode cL_law 680 = .ok (.iconst 0, 1) := by decide +kernel
theorem dL_law_681 : decode cL_law 681 = .ok (.ireturn, 1) := by decide +kernel
theorem dL_law_682 : decode cL_law 682 = .ok (.aload_n 1, 1) := by decide +kernel
theorem dL_law_683 : decode cL_law 683 = .ok (.invokevirtual 99, 3) := by decide +kernel
theorem dL_law_686 : decode cL_law 686 = .ok (.aload_n 2, 1) := by decide +kernel
theorem dL_law_687 : decode cL_law 687 = .ok (.invokevirtual 102, 3) := by decide +kernel
theorem dL_law_690 : decode cL_law 690 = .ok (.if_icmp .eq 251, 3) := by decide +kernel
theorem dL_law_693 : decode cL_law 693 = .ok (.iconst 0, 1) := by decide +kernel
theorem dL_law_694 : decode cL_law 694 = .ok (.ireturn, 1) := by decide +kernel
theorem dL_law_695 : decode cL_law 695 = .ok (.aload_n 1, 1) := by decide +kernel
theorem dL_law_696 : decode cL_law 696 = .ok (.aload_n 0, 1) := by decide +kernel
theorem dL_law_697 : decode cL_law 697 = .ok (.iload_n 3, 1) := by decide +kernel
theorem dL_law_698 : decode cL_law 698 = .ok (.iconst 1, 1) := by decide +kernel
theorem dL_law_699 : decode cL_law 699 = .ok (.iadd, 1) := by decide +kernel
theorem dL_law_700 : decode cL_law 700 = .ok (.iaload, 1) := by decide +kernel
theorem dL_law_701 : decode cL_law 701 = .ok (.aload_n 0, 1) := by decide +kernel
theorem dL_law_702 : decode cL_law 702 = .ok (.iload_n 3, 1) := by decide +kernel
theorem dL_law_703 : decode cL_law 703 = .ok (.iconst 2, 1) := by decide +kernel
theorem dL_law_704 : decode cL_law 704 = .ok (.iadd, 1) := by decide +kernel
theorem dL_law_705 : decode cL_law 705 = .ok (.iaload, 1) := by decide +kernel
theorem dL_law_706 : decode cL_law 706 = .ok (.invokevirtual 103, 3) := by decide +kernel
theorem dL_law_709 : decode cL_law 709 = .ok (.aload_n 2, 1) := by decide +kernel
theorem dL_law_710 : decode cL_law 710 = .ok (.aload_n 0, 1) := by decide +kernel
theorem dL_law_711 : decode cL_law 711 = .ok (.iload_n 3, 1) := by decide +kernel
theorem dL_law_712 : decode cL_law 712 = .ok (.iconst 1, 1) := by decide +kernel
theorem dL_law_713 : decode cL_law 713 = .ok (.iadd, 1) := by decide +kernel
theorem dL_law_714 : decode cL_law 714 = .ok (.iaload, 1) := by decide +kernel
theorem dL_law_715 : decode cL_law 715 = .ok (.aload_n 0, 1) := by decide +kernel
theorem dL_law_716 : decode cL_law 716 = .ok (.iload_n 3, 1) := by decide +kernel
theorem dL_law_717 : decode cL_law 717 = .ok (.iconst 2, 1) := by decide +kernel
theorem dL_law_718 : decode cL_law 718 = .ok (.iadd, 1) := by decide +kernel
theorem dL_law_719 : decode cL_law 719 = .ok (.iaload, 1) := by decide +kernel
theorem dL_law_720 : decode cL_law 720 = .ok (.invokevirtual 106, 3) := by decide +kernel
theorem dL_law_723 : decode cL_law 723 = .ok (.if_icmp .eq 218, 3) := by decide +kernel
theorem dL_law_726 : decode cL_law 726 = .ok (.iconst 0, 1) := by decide +kernel
theorem dL_law_727 : decode cL_law 727 = .ok (.ireturn, 1) := by decide +kernel
theorem dL_law_728 : decode cL_law 728 = .ok (.aload_n 1, 1) := by decide +kernel
theorem dL_law_729 : decode cL_law 729 = .ok (.invokevirtual 107, 3) := by decide +kernel
theorem dL_law_732 : decode cL_law 732 = .ok (.aload_n 2, 1) := by decide +kernel
theorem dL_law_733 : decode cL_law 733 = .ok (.invokevirtual 110, 3) := by decide +kernel
theorem dL_law_736 : decode cL_law 736 = .ok (.if_icmp .eq 205, 3) := by decide +kernel
theorem dL_law_739 : decode cL_law 739 = .ok (.iconst 0, 1) := by decide +kernel
theorem dL_law_740 : decode cL_law 740 = .ok (.ireturn, 1) := by decide +kernel
theorem dL_law_741 : decode cL_law 741 = .ok (.aload_n 1, 1) := by decide +kernel
theorem dL_law_742 : decode cL_law 742 = .ok (.invokevirtual 111, 3) := by decide +kernel
theorem dL_law_745 : decode cL_law 745 = .ok (.aload_n 2, 1) := by decide +kernel
theorem dL_law_746 : decode cL_law 746 = .ok (.invokevirtual 114, 3) := by decide +kernel
theorem dL_law_749 : decode cL_law 749 = .ok (.if_icmp .eq 192, 3) := by decide +kernel
theorem dL_law_752 : decode cL_law 752 = .ok (.iconst 0, 1) := by decide +kernel
theorem dL_law_753 : decode cL_law 753 = .ok (.ireturn, 1) := by decide +kernel
theorem dL_law_754 : decode cL_law 754 = .ok (.aload_n 1, 1) := by decide +kernel
theorem dL_law_755 : decode cL_law 755 = .ok (.invokevirtual 115, 3) := by decide +kernel
theorem dL_law_758 : decode cL_law 758 = .ok (.aload_n 2, 1) := by decide +kernel
theorem dL_law_759 : decode cL_law 759 = .ok (.invokevirtual 118, 3) := by decide +kernel
