theorem dX6_keepsAs_39 : decode cX6_keepsAs 39 = .ok (.if_icmp .ne 7, 3) := by decide +kernel
theorem dX6_keepsAs_42 : decode cX6_keepsAs 42 = .ok (.iconst 1, 1) := by decide +kernel
theorem dX6_keepsAs_43 : decode cX6_keepsAs 43 = .ok (.goto 4, 3) := by decide +kernel
theorem dX6_keepsAs_46 : decode cX6_keepsAs 46 = .ok (.iconst 0, 1) := by decide +kernel
theorem dX6_keepsAs_47 : decode cX6_keepsAs 47 = .ok (.ireturn, 1) := by decide +kernel
theorem dX7_init_0 : decode cX7_init 0 = .ok (.aload_n 0, 1) := by decide +kernel
theorem dX7_init_1 : decode cX7_init 1 = .ok (.invokespecial 3, 3) := by decide +kernel
theorem dX7_init_4 : decode cX7_init 4 = .ok (.aload_n 0, 1) := by decide +kernel
theorem dX7_init_5 : decode cX7_init 5 = .ok (.bipush 21, 2) := by decide +kernel
theorem dX7_init_7 : decode cX7_init 7 = .ok (.newarray .int, 2) := by decide +kernel
theorem dX7_init_9 : decode cX7_init 9 = .ok (.putfield 9, 3) := by decide +kernel
theorem dX7_init_12 : decode cX7_init 12 = .ok (.aload_n 0, 1) := by decide +kernel
theorem dX7_init_13 : decode cX7_init 13 = .ok (.bipush 21, 2) := by decide +kernel
theorem dX7_init_15 : decode cX7_init 15 = .ok (.newarray .int, 2) := by decide +kernel
theorem dX7_init_17 : decode cX7_init 17 = .ok (.putfield 15, 3) := by decide +kernel
theorem dX7_init_20 : decode cX7_init 20 = .ok (.aload_n 0, 1) := by decide +kernel
theorem dX7_init_21 : decode cX7_init 21 = .ok (.bipush 21, 2) := by decide +kernel
theorem dX7_init_23 : decode cX7_init 23 = .ok (.newarray .int, 2) := by decide +kernel
theorem dX7_init_25 : decode cX7_init 25 = .ok (.putfield 18, 3) := by decide +kernel
theorem dX7_init_28 : decode cX7_init 28 = .ok (.aload_n 0, 1) := by decide +kernel
theorem dX7_init_29 : decode cX7_init 29 = .ok (.bipush 21, 2) := by decide +kernel
theorem dX7_init_31 : decode cX7_init 31 = .ok (.newarray .int, 2) := by decide +kernel
theorem dX7_init_33 : decode cX7_init 33 = .ok (.putfield 21, 3) := by decide +kernel
theorem dX7_init_36 : decode cX7_init 36 = .ok (.aload_n 0, 1) := by decide +kernel
theorem dX7_init_37 : decode cX7_init 37 = .ok (.bipush 21, 2) := by decide +kernel
theorem dX7_init_39 : decode cX7_init 39 = .ok (.newarray .int, 2) := by decide +kernel
theorem dX7_init_41 : decode cX7_init 41 = .ok (.putfield 24, 3) := by decide +kernel
theorem dX7_init_44 : decode cX7_init 44 = .ok (.aload_n 0, 1) := by decide +kernel
theorem dX7_init_45 : decode cX7_init 45 = .ok (.bipush 21, 2) := by decide +kernel
theorem dX7_init_47 : decode cX7_init 47 = .ok (.newarray .int, 2) := by decide +kernel
theorem dX7_init_49 : decode cX7_init 49 = .ok (.putfield 27, 3) := by decide +kernel
theorem dX7_init_52 : decode cX7_init 52 = .ok (.aload_n 0, 1) := by decide +kernel
theorem dX7_init_53 : decode cX7_init 53 = .ok (.bipush 21, 2) := by decide +kernel
theorem dX7_init_55 : decode cX7_init 55 = .ok (.newarray .long, 2) := by decide +kernel
theorem dX7_init_57 : decode cX7_init 57 = .ok (.putfield 30, 3) := by decide +kernel
theorem dX7_init_60 : decode cX7_init 60 = .ok (.aload_n 0, 1) := by decide +kernel
theorem dX7_init_61 : decode cX7_init 61 = .ok (.bipush 21, 2) := by decide +kernel
theorem dX7_init_63 : decode cX7_init 63 = .ok (.newarray .int, 2) := by decide +kernel
theorem dX7_init_65 : decode cX7_init 65 = .ok (.putfield 34, 3) := by decide +kernel
theorem dX7_init_68 : decode cX7_init 68 = .ok (.return_, 1) := by decide +kernel
theorem dX7_size_0 : decode cX7_size 0 = .ok (.aload_n 0, 1) := by decide +kernel
theorem dX7_size_1 : decode cX7_size 1 = .ok (.getfield 37, 3) := by decide +kernel
theorem dX7_size_4 : decode cX7_size 4 = .ok (.ireturn, 1) := by decide +kernel
theorem dX7_kind_0 : decode cX7_kind 0 = .ok (.aload_n 0, 1) := by decide +kernel
theorem dX7_kind_1 : decode cX7_kind 1 = .ok (.getfield 9, 3) := by decide +kernel
theorem dX7_kind_4 : decode cX7_kind 4 = .ok (.iload_n 1, 1) := by decide +kernel
theorem dX7_kind_5 : decode cX7_kind 5 = .ok (.invokestatic 41, 3) := by decide +kernel
theorem dX7_kind_8 : decode cX7_kind 8 = .ok (.ireturn, 1) := by decide +kernel
theorem dX7_from_0 : decode cX7_from 0 = .ok (.aload_n 0, 1) := by decide +kernel
theorem dX7_from_1 : decode cX7_from 1 = .ok (.getfield 15, 3) := by decide +kernel
theorem dX7_from_4 : decode cX7_from 4 = .ok (.iload_n 1, 1) := by decide +kernel
theorem dX7_from_5 : decode cX7_from 5 = .ok (.invokestatic 41, 3) := by decide +kernel
theorem dX7_from_8 : decode cX7_from 8 = .ok (.ireturn, 1) := by decide +kernel
theorem dX7_end_0 : decode cX7_end 0 = .ok (.aload_n 0, 1) := by decide +kernel
theorem dX7_end_1 : decode cX7_end 1 = .ok (.getfield 18, 3) := by decide +kernel
theorem dX7_end_4 : decode cX7_end 4 = .ok (.iload_n 1, 1) := by decide +kernel
theorem dX7_end_5 : decode cX7_end 5 = .ok (.invokestatic 41, 3) := by decide +kernel
theorem dX7_end_8 : decode cX7_end 8 = .ok (.ireturn, 1) := by decide +kernel
theorem dX7_inner_0 : decode cX7_inner 0 = .ok (.iload_n 1, 1) := by decide +kernel
theorem dX7_inner_1 : decode cX7_inner 1 = .ok (.iconst 1, 1) := by decide +kernel
theorem dX7_inner_2 : decode cX7_inner 2 = .ok (.iadd, 1) := by decide +kernel
theorem dX7_inner_3 : decode cX7_inner 3 = .ok (.ireturn, 1) := by decide +kernel
theorem dX7_behind_0 : decode cX7_behind 0 = .ok (.aload_n 0, 1) := by decide +kernel
theorem dX7_behind_1 : decode cX7_behind 1 = .ok (.getfield 21, 3) := by decide +kernel
theorem dX7_behind_4 : decode cX7_behind 4 = .ok (.iload_n 1, 1) := by decide +kernel
theorem dX7_behind_5 : decode cX7_behind 5 = .ok (.invokestatic 41, 3) := by decide +kernel
theorem dX7_behind_8 : decode cX7_behind 8 = .ok (.ireturn, 1) := by decide +kernel
theorem dX7_grow_0 : decode cX7_grow 0 = .ok (.aload_n 0, 1) := by decide +kernel
theorem dX7_grow_1 : decode cX7_grow 1 = .ok (.iconst 0, 1) := by decide +kernel
theorem dX7_grow_2 : decode cX7_grow 2 = .ok (.putfield 37, 3) := by decide +kernel
theorem dX7_grow_5 : decode cX7_grow 5 = .ok (.aload_n 0, 1) := by decide +kernel
theorem dX7_grow_6 : decode cX7_grow 6 = .ok (.iconst 0, 1) := by decide +kernel
theorem dX7_grow_7 : decode cX7_grow 7 = .ok (.putfield 45, 3) := by decide +kernel
theorem dX7_grow_10 : decode cX7_grow 10 = .ok (.aload_n 0, 1) := by decide +kernel
theorem dX7_grow_11 : decode cX7_grow 11 = .ok (.iconst 0, 1) := by decide +kernel
theorem dX7_grow_12 : decode cX7_grow 12 = .ok (.aload_n 1, 1) := by decide +kernel
theorem dX7_grow_13 : decode cX7_grow 13 = .ok (.invokevirtual 48, 3) := by decide +kernel
theorem dX7_grow_16 : decode cX7_grow 16 = .ok (.lload_n 3, 1) := by decide +kernel
theorem dX7_grow_17 : decode cX7_grow 17 = .ok (.bipush (-9), 2) := by decide +kernel
theorem dX7_grow_19 : decode cX7_grow 19 = .ok (.invokevirtual 53, 3) := by decide +kernel
theorem dX7_grow_22 : decode cX7_grow 22 = .ok (.iconst 0, 1) := by decide +kernel
theorem dX7_grow_23 : decode cX7_grow 23 = .ok (.istore 5, 2) := by decide +kernel
theorem dX7_grow_25 : decode cX7_grow 25 = .ok (.iload 5, 2) := by decide +kernel
theorem dX7_grow_27 : decode cX7_grow 27 = .ok (.bipush 21, 2) := by decide +kernel
theorem dX7_grow_29 : decode cX7_grow 29 = .ok (.if_icmp .ge 134, 3) := by decide +kernel
theorem dX7_grow_32 : decode cX7_grow 32 = .ok (.aload_n 0, 1) := by decide +kernel
theorem dX7_grow_33 : decode cX7_grow 33 = .ok (.getfield 45, 3) := by decide +kernel
theorem dX7_grow_36 : decode cX7_grow 36 = .ok (.ifCond .le 127, 3) := by decide +kernel
theorem dX7_grow_39 : decode cX7_grow 39 = .ok (.aload_n 0, 1) := by decide +kernel
theorem dX7_grow_40 : decode cX7_grow 40 = .ok (.dup, 1) := by decide +kernel
theorem dX7_grow_41 : decode cX7_grow 41 = .ok (.getfield 45, 3) := by decide +kernel
theorem dX7_grow_44 : decode cX7_grow 44 = .ok (.iconst 1, 1) := by decide +kernel
theorem dX7_grow_45 : decode cX7_grow 45 = .ok (.isub, 1) := by decide +kernel
theorem dX7_grow_46 : decode cX7_grow 46 = .ok (.putfield 45, 3) := by decide +kernel
theorem dX7_grow_49 : decode cX7_grow 49 = .ok (.aload_n 0, 1) := by decide +kernel
theorem dX7_grow_50 : decode cX7_grow 50 = .ok (.getfield 24, 3) := by decide +kernel
theorem dX7_grow_53 : decode cX7_grow 53 = .ok (.aload_n 0, 1) := by decide +kernel
theorem dX7_grow_54 : decode cX7_grow 54 = .ok (.getfield 45, 3) := by decide +kernel
theorem dX7_grow_57 : decode cX7_grow 57 = .ok (.invokestatic 41, 3) := by decide +kernel
theorem dX7_grow_60 : decode cX7_grow 60 = .ok (.istore 6, 2) := by decide +kernel
theorem dX7_grow_62 : decode cX7_grow 62 = .ok (.aload_n 0, 1) := by decide +kernel
theorem dX7_grow_63 : decode cX7_grow 63 = .ok (.getfield 27, 3) := by decide +kernel
theorem dX7_grow_66 : decode cX7_grow 66 = .ok (.aload_n 0, 1) := by decide +kernel
theorem dX7_grow_67 : decode cX7_grow 67 = .ok (.getfield 45, 3) := by decide +kernel
theorem dX7_grow_70 : decode cX7_grow 70 = .ok (.invokestatic 41, 3) := by decide +kernel
theorem dX7_grow_73 : decode cX7_grow 73 = .ok (.istore 7, 2) := by decide +kernel
theorem dX7_grow_75 : decode cX7_grow 75 = .ok (.aload_n 0, 1) := by decide +kernel
theorem dX7_grow_76 : decode cX7_grow 76 = .ok (.getfield 30, 3) := by decide +kernel
theorem dX7_grow_79 : decode cX7_grow 79 = .ok (.aload_n 0, 1) := by decide +kernel
theorem dX7_grow_80 : decode cX7_grow 80 = .ok (.getfield 45, 3) := by decide +kernel
theorem dX7_grow_83 : decode cX7_grow 83 = .ok (.invokestatic 57, 3) := by decide +kernel
theorem dX7_grow_86 : decode cX7_grow 86 = .ok (.lstore 8, 2) := by decide +kernel
theorem dX7_grow_88 : decode cX7_grow 88 = .ok (.aload_n 2, 1) := by decide +kernel
theorem dX7_grow_89 : decode cX7_grow 89 = .ok (.iload 6, 2) := by decide +kernel
theorem dX7_grow_91 : decode cX7_grow 91 = .ok (.iload 7, 2) := by decide +kernel
theorem dX7_grow_93 : decode cX7_grow 93 = .ok (.invokevirtual 60, 3) := by decide +kernel
theorem dX7_grow_96 : decode cX7_grow 96 = .ok (.lstore 10, 2) := by decide +kernel
theorem dX7_grow_98 : decode cX7_grow 98 = .ok (.aload_n 0, 1) := by decide +kernel
theorem dX7_grow_99 : decode cX7_grow 99 = .ok (.getfield 21, 3) := by decide +kernel
theorem dX7_grow_102 : decode cX7_grow 102 = .ok (.aload_n 0, 1) := by decide +kernel
theorem dX7_grow_103 : decode cX7_grow 103 = .ok (.getfield 34, 3) := by decide +kernel
theorem dX7_grow_106 : decode cX7_grow 106 = .ok (.aload_n 0, 1) := by decide +kernel
theorem dX7_grow_107 : decode cX7_grow 107 = .ok (.getfield 45, 3) := by decide +kernel
theorem dX7_grow_110 : decode cX7_grow 110 = .ok (.invokestatic 41, 3) := by decide +kernel
theorem dX7_grow_113 : decode cX7_grow 113 = .ok (.aload_n 0, 1) := by decide +kernel
theorem dX7_grow_114 : decode cX7_grow 114 = .ok (.getfield 37, 3) := by decide +kernel
theorem dX7_grow_117 : decode cX7_grow 117 = .ok (.invokestatic 66, 3) := by decide +kernel
theorem dX7_grow_120 : decode cX7_grow 120 = .ok (.lload 8, 2) := by decide +kernel
theorem dX7_grow_122 : decode cX7_grow 122 = .ok (.lload 10, 2) := by decide +kernel
theorem dX7_grow_124 : decode cX7_grow 124 = .ok (.lcmp, 1) := by decide +kernel
theorem dX7_grow_125 : decode cX7_grow 125 = .ok (.ifCond .ge 17, 3) := by decide +kernel
theorem dX7_grow_128 : decode cX7_grow 128 = .ok (.aload_n 0, 1) := by decide +kernel
theorem dX7_grow_129 : decode cX7_grow 129 = .ok (.aload_n 1, 1) := by decide +kernel
theorem dX7_grow_130 : decode cX7_grow 130 = .ok (.iload 6, 2) := by decide +kernel
theorem dX7_grow_132 : decode cX7_grow 132 = .ok (.iload 7, 2) := by decide +kernel
theorem dX7_grow_134 : decode cX7_grow 134 = .ok (.lload 8, 2) := by decide +kernel
theorem dX7_grow_136 : decode cX7_grow 136 = .ok (.invokevirtual 70, 3) := by decide +kernel
theorem dX7_grow_139 : decode cX7_grow 139 = .ok (.goto 18, 3) := by decide +kernel
theorem dX7_grow_142 : decode cX7_grow 142 = .ok (.aload_n 0, 1) := by decide +kernel
theorem dX7_grow_143 : decode cX7_grow 143 = .ok (.aload_n 1, 1) := by decide +kernel
theorem dX7_grow_144 : decode cX7_grow 144 = .ok (.aload_n 2, 1) := by decide +kernel
theorem dX7_grow_145 : decode cX7_grow 145 = .ok (.iload 6, 2) := by decide +kernel
theorem dX7_grow_147 : decode cX7_grow 147 = .ok (.iload 7, 2) := by decide +kernel
theorem dX7_grow_149 : decode cX7_grow 149 = .ok (.lload 8, 2) := by decide +kernel
theorem dX7_grow_151 : decode cX7_grow 151 = .ok (.lload 10, 2) := by decide +kernel
theorem dX7_grow_153 : decode cX7_grow 153 = .ok (.lsub, 1) := by decide +kernel
theorem dX7_grow_154 : decode cX7_grow 154 = .ok (.invokevirtual 74, 3) := by decide +kernel
theorem dX7_grow_157 : decode cX7_grow 157 = .ok (.iinc 5 1, 3) := by decide +kernel
theorem dX7_grow_160 : decode cX7_grow 160 = .ok (.goto (-135), 3) := by decide +kernel
theorem dX7_grow_163 : decode cX7_grow 163 = .ok (.return_, 1) := by decide +kernel
theorem dX7_await_0 : decode cX7_await 0 = .ok (.aload_n 0, 1) := by decide +kernel
theorem dX7_await_1 : decode cX7_await 1 = .ok (.getfield 24, 3) := by decide +kernel
theorem dX7_await_4 : decode cX7_await 4 = .ok (.aload_n 0, 1) := by decide +kernel
theorem dX7_await_5 : decode cX7_await 5 = .ok (.getfield 45, 3) := by decide +kernel
theorem dX7_await_8 : decode cX7_await 8 = .ok (.iload_n 1, 1) := by decide +kernel
theorem dX7_await_9 : decode cX7_await 9 = .ok (.invokestatic 66, 3) := by decide +kernel
theorem dX7_await_12 : decode cX7_await 12 = .ok (.aload_n 0, 1) := by decide +kernel
theorem dX7_await_13 : decode cX7_await 13 = .ok (.getfield 27, 3) := by decide +kernel
theorem dX7_await_16 : decode cX7_await 16 = .ok (.aload_n 0, 1) := by decide +kernel
theorem dX7_await_17 : decode cX7_await 17 = .ok (.getfield 45, 3) := by decide +kernel
theorem dX7_await_20 : decode cX7_await 20 = .ok (.iload_n 2, 1) := by decide +kernel
theorem dX7_await_21 : decode cX7_await 21 = .ok (.invokestatic 66, 3) := by decide +kernel
theorem dX7_await_24 : decode cX7_await 24 = .ok (.aload_n 0, 1) := by decide +kernel
theorem dX7_await_25 : decode cX7_await 25 = .ok (.getfield 30, 3) := by decide +kernel
theorem dX7_await_28 : decode cX7_await 28 = .ok (.aload_n 0, 1) := by decide +kernel
theorem dX7_await_29 : decode cX7_await 29 = .ok (.getfield 45, 3) := by decide +kernel
theorem dX7_await_32 : decode cX7_await 32 = .ok (.lload_n 3, 1) := by decide +kernel
theorem dX7_await_33 : decode cX7_await 33 = .ok (.invokestatic 78, 3) := by decide +kernel
theorem dX7_await_36 : decode cX7_await 36 = .ok (.aload_n 0, 1) := by decide +kernel
theorem dX7_await_37 : decode cX7_await 37 = .ok (.getfield 34, 3) := by decide +kernel
theorem dX7_await_40 : decode cX7_await 40 = .ok (.aload_n 0, 1) := by decide +kernel
theorem dX7_await_41 : decode cX7_await 41 = .ok (.getfield 45, 3) := by decide +kernel
theorem dX7_await_44 : decode cX7_await 44 = .ok (.iload 5, 2) := by decide +kernel
theorem dX7_await_46 : decode cX7_await 46 = .ok (.invokestatic 66, 3) := by decide +kernel
theorem dX7_await_49 : decode cX7_await 49 = .ok (.aload_n 0, 1) := by decide +kernel
theorem dX7_await_50 : decode cX7_await 50 = .ok (.dup, 1) := by decide +kernel
theorem dX7_await_51 : decode cX7_await 51 = .ok (.getfield 45, 3) := by decide +kernel
theorem dX7_await_54 : decode cX7_await 54 = .ok (.iconst 1, 1) := by decide +kernel
theorem dX7_await_55 : decode cX7_await 55 = .ok (.iadd, 1) := by decide +kernel
theorem dX7_await_56 : decode cX7_await 56 = .ok (.putfield 45, 3) := by decide +kernel
theorem dX7_await_59 : decode cX7_await 59 = .ok (.return_, 1) := by decide +kernel
theorem dX7_growFront_0 : decode cX7_growFront 0 = .ok (.aload_n 1, 1) := by decide +kernel
theorem dX7_growFront_1 : decode cX7_growFront 1 = .ok (.iload_n 2, 1) := by decide +kernel
theorem dX7_growFront_2 : decode cX7_growFront 2 = .ok (.invokevirtual 81, 3) := by decide +kernel
theorem dX7_growFront_5 : decode cX7_growFront 5 = .ok (.invokestatic 85, 3) := by decide +kernel
theorem dX7_growFront_8 : decode cX7_growFront 8 = .ok (.istore 6, 2) := by decide +kernel
theorem dX7_growFront_10 : decode cX7_growFront 10 = .ok (.aload_n 0, 1) := by decide +kernel
theorem dX7_growFront_11 : decode cX7_growFront 11 = .ok (.iload 6, 2) := by decide +kernel
theorem dX7_growFront_13 : decode cX7_growFront 13 = .ok (.iload_n 2, 1) := by decide +kernel
theorem dX7_growFront_14 : decode cX7_growFront 14 = .ok (.iload_n 3, 1) := by decide +kernel
theorem dX7_growFront_15 : decode cX7_growFront 15 = .ok (.invokevirtual 88, 3) := by decide +kernel
theorem dX7_growFront_18 : decode cX7_growFront 18 = .ok (.iload 6, 2) := by decide +kernel
theorem dX7_growFront_20 : decode cX7_growFront 20 = .ok (.iconst 1, 1) := by decide +kernel
theorem dX7_growFront_21 : decode cX7_growFront 21 = .ok (.if_icmp .ne 18, 3) := by decide +kernel
theorem dX7_growFront_24 : decode cX7_growFront 24 = .ok (.aload_n 0, 1) := by decide +kernel
theorem dX7_growFront_25 : decode cX7_growFront 25 = .ok (.iload_n 2, 1) := by decide +kernel
theorem dX7_growFront_26 : decode cX7_growFront 26 = .ok (.iconst 1, 1) := by decide +kernel
theorem dX7_growFront_27 : decode cX7_growFront 27 = .ok (.iadd, 1) := by decide +kernel
theorem dX7_growFront_28 : decode cX7_growFront 28 = .ok (.iload_n 3, 1) := by decide +kernel
theorem dX7_growFront_29 : decode cX7_growFront 29 = .ok (.lload 4, 2) := by decide +kernel
theorem dX7_growFront_31 : decode cX7_growFront 31 = .ok (.bipush (-9), 2) := by decide +kernel
theorem dX7_growFront_33 : decode cX7_growFront 33 = .ok (.invokevirtual 53, 3) := by decide +kernel
theorem dX7_growFront_36 : decode cX7_growFront 36 = .ok (.goto 23, 3) := by decide +kernel
theorem dX7_growFront_39 : decode cX7_growFront 39 = .ok (.iload 6, 2) := by decide +kernel
theorem dX7_growFront_41 : decode cX7_growFront 41 = .ok (.iconst 2, 1) := by decide +kernel
theorem dX7_growFront_42 : decode cX7_growFront 42 = .ok (.if_icmp .ne 17, 3) := by decide +kernel
theorem dX7_growFront_45 : decode cX7_growFront 45 = .ok (.aload_n 0, 1) := by decide +kernel
theorem dX7_growFront_46 : decode cX7_growFront 46 = .ok (.iload_n 2, 1) := by decide +kernel
theorem dX7_growFront_47 : decode cX7_growFront 47 = .ok (.iconst 1, 1) := by decide +kernel
theorem dX7_growFront_48 : decode cX7_growFront 48 = .ok (.iadd, 1) := by decide +kernel
theorem dX7_growFront_49 : decode cX7_growFront 49 = .ok (.iload_n 3, 1) := by decide +kernel
theorem dX7_growFront_50 : decode cX7_growFront 50 = .ok (.iconst 1, 1) := by decide +kernel
theorem dX7_growFront_51 : decode cX7_growFront 51 = .ok (.isub, 1) := by decide +kernel
theorem dX7_growFront_52 : decode cX7_growFront 52 = .ok (.lload 4, 2) := by decide +kernel
theorem dX7_growFront_54 : decode cX7_growFront 54 = .ok (.bipush (-9), 2) := by decide +kernel
theorem dX7_growFront_56 : decode cX7_growFront 56 = .ok (.invokevirtual 53, 3) := by decide +kernel
theorem dX7_growFront_59 : decode cX7_growFront 59 = .ok (.return_, 1) := by decide +kernel
theorem dX7_growJoin_0 : decode cX7_growJoin 0 = .ok (.lload 5, 2) := by decide +kernel
theorem dX7_growJoin_2 : decode cX7_growJoin 2 = .ok (.lstore 7, 2) := by decide +kernel
theorem dX7_growJoin_4 : decode cX7_growJoin 4 = .ok (.iload_n 3, 1) := by decide +kernel
theorem dX7_growJoin_5 : decode cX7_growJoin 5 = .ok (.iconst 1, 1) := by decide +kernel
theorem dX7_growJoin_6 : decode cX7_growJoin 6 = .ok (.iadd, 1) := by decide +kernel
theorem dX7_growJoin_7 : decode cX7_growJoin 7 = .ok (.istore 9, 2) := by decide +kernel
theorem dX7_growJoin_9 : decode cX7_growJoin 9 = .ok (.iload 9, 2) := by decide +kernel
theorem dX7_growJoin_11 : decode cX7_growJoin 11 = .ok (.iload 4, 2) := by decide +kernel
theorem dX7_growJoin_13 : decode cX7_growJoin 13 = .ok (.iconst 1, 1) := by decide +kernel
theorem dX7_growJoin_14 : decode cX7_growJoin 14 = .ok (.isub, 1) := by decide +kernel
theorem dX7_growJoin_15 : decode cX7_growJoin 15 = .ok (.if_icmp .ge 120, 3) := by decide +kernel
theorem dX7_growJoin_18 : decode cX7_growJoin 18 = .ok (.aload_n 1, 1) := by decide +kernel
theorem dX7_growJoin_19 : decode cX7_growJoin 19 = .ok (.iload 9, 2) := by decide +kernel
theorem dX7_growJoin_21 : decode cX7_growJoin 21 = .ok (.invokevirtual 81, 3) := by decide +kernel
theorem dX7_growJoin_24 : decode cX7_growJoin 24 = .ok (.invokestatic 85, 3) := by decide +kernel
theorem dX7_growJoin_27 : decode cX7_growJoin 27 = .ok (.istore 10, 2) := by decide +kernel
theorem dX7_growJoin_29 : decode cX7_growJoin 29 = .ok (.iload 10, 2) := by decide +kernel
theorem dX7_growJoin_31 : decode cX7_growJoin 31 = .ok (.invokestatic 92, 3) := by decide +kernel
theorem dX7_growJoin_34 : decode cX7_growJoin 34 = .ok (.ifCond .ne 6, 3) := by decide +kernel
theorem dX7_growJoin_37 : decode cX7_growJoin 37 = .ok (.goto 92, 3) := by decide +kernel
theorem dX7_growJoin_40 : decode cX7_growJoin 40 = .ok (.aload_n 2, 1) := by decide +kernel
theorem dX7_growJoin_41 : decode cX7_growJoin 41 = .ok (.iload 9, 2) := by decide +kernel
theorem dX7_growJoin_43 : decode cX7_growJoin 43 = .ok (.iconst 1, 1) := by decide +kernel
theorem dX7_growJoin_44 : decode cX7_growJoin 44 = .ok (.iadd, 1) := by decide +kernel
theorem dX7_growJoin_45 : decode cX7_growJoin 45 = .ok (.iload 4, 2) := by decide +kernel
theorem dX7_growJoin_47 : decode cX7_growJoin 47 = .ok (.invokevirtual 96, 3) := by decide +kernel
theorem dX7_growJoin_50 : decode cX7_growJoin 50 = .ok (.lstore 11, 2) := by decide +kernel
theorem dX7_growJoin_52 : decode cX7_growJoin 52 = .ok (.aload_n 2, 1) := by decide +kernel
theorem dX7_growJoin_53 : decode cX7_growJoin 53 = .ok (.iload_n 3, 1) := by decide +kernel
theorem dX7_growJoin_54 : decode cX7_growJoin 54 = .ok (.iload 9, 2) := by decide +kernel
theorem dX7_growJoin_56 : decode cX7_growJoin 56 = .ok (.invokevirtual 96, 3) := by decide +kernel
theorem dX7_growJoin_59 : decode cX7_growJoin 59 = .ok (.lload 11, 2) := by decide +kernel
theorem dX7_growJoin_61 : decode cX7_growJoin 61 = .ok (.lmul, 1) := by decide +kernel
theorem dX7_growJoin_62 : decode cX7_growJoin 62 = .ok (.lstore 13, 2) := by decide +kernel
theorem dX7_growJoin_64 : decode cX7_growJoin 64 = .ok (.lload 7, 2) := by decide +kernel
theorem dX7_growJoin_66 : decode cX7_growJoin 66 = .ok (.lload 13, 2) := by decide +kernel
theorem dX7_growJoin_68 : decode cX7_growJoin 68 = .ok (.lcmp, 1) := by decide +kernel
theorem dX7_growJoin_69 : decode cX7_growJoin 69 = .ok (.ifCond .ge 53, 3) := by decide +kernel
theorem dX7_growJoin_72 : decode cX7_growJoin 72 = .ok (.lload 11, 2) := by decide +kernel
theorem dX7_growJoin_74 : decode cX7_growJoin 74 = .ok (.lconst 0, 1) := by decide +kernel
theorem dX7_growJoin_75 : decode cX7_growJoin 75 = .ok (.lcmp, 1) := by decide +kernel
theorem dX7_growJoin_76 : decode cX7_growJoin 76 = .ok (.ifCond .le 46, 3) := by decide +kernel
theorem dX7_growJoin_79 : decode cX7_growJoin 79 = .ok (.aload_n 0, 1) := by decide +kernel
theorem dX7_growJoin_80 : decode cX7_growJoin 80 = .ok (.iload 9, 2) := by decide +kernel
theorem dX7_growJoin_82 : decode cX7_growJoin 82 = .ok (.iconst 1, 1) := by decide +kernel
theorem dX7_growJoin_83 : decode cX7_growJoin 83 = .ok (.iadd, 1) := by decide +kernel
theorem dX7_growJoin_84 : decode cX7_growJoin 84 = .ok (.iload 4, 2) := by decide +kernel
theorem dX7_growJoin_86 : decode cX7_growJoin 86 = .ok (.lload 7, 2) := by decide +kernel
theorem dX7_growJoin_88 : decode cX7_growJoin 88 = .ok (.lload 11, 2) := by decide +kernel
theorem dX7_growJoin_90 : decode cX7_growJoin 90 = .ok (.lrem, 1) := by decide +kernel
theorem dX7_growJoin_91 : decode cX7_growJoin 91 = .ok (.aload_n 0, 1) := by decide +kernel
theorem dX7_growJoin_92 : decode cX7_growJoin 92 = .ok (.getfield 37, 3) := by decide +kernel
theorem dX7_growJoin_95 : decode cX7_growJoin 95 = .ok (.invokevirtual 53, 3) := by decide +kernel
theorem dX7_growJoin_98 : decode cX7_growJoin 98 = .ok (.aload_n 0, 1) := by decide +kernel
theorem dX7_growJoin_99 : decode cX7_growJoin 99 = .ok (.iload_n 3, 1) := by decide +kernel
theorem dX7_growJoin_100 : decode cX7_growJoin 100 = .ok (.iload 9, 2) := by decide +kernel
theorem dX7_growJoin_102 : decode cX7_growJoin 102 = .ok (.lload 7, 2) := by decide +kernel
theorem dX7_growJoin_104 : decode cX7_growJoin 104 = .ok (.lload 11, 2) := by decide +kernel
theorem dX7_growJoin_106 : decode cX7_growJoin 106 = .ok (.ldiv, 1) := by decide +kernel
theorem dX7_growJoin_107 : decode cX7_growJoin 107 = .ok (.bipush (-9), 2) := by decide +kernel
theorem dX7_growJoin_109 : decode cX7_growJoin 109 = .ok (.invokevirtual 53, 3) := by decide +kernel
theorem dX7_growJoin_112 : decode cX7_growJoin 112 = .ok (.aload_n 0, 1) := by decide +kernel
theorem dX7_growJoin_113 : decode cX7_growJoin 113 = .ok (.iload 10, 2) := by decide +kernel
theorem dX7_growJoin_115 : decode cX7_growJoin 115 = .ok (.iload_n 3, 1) := by decide +kernel
theorem dX7_growJoin_116 : decode cX7_growJoin 116 = .ok (.iload 4, 2) := by decide +kernel
theorem dX7_growJoin_118 : decode cX7_growJoin 118 = .ok (.invokevirtual 88, 3) := by decide +kernel
theorem dX7_growJoin_121 : decode cX7_growJoin 121 = .ok (.return_, 1) := by decide +kernel
theorem dX7_growJoin_122 : decode cX7_growJoin 122 = .ok (.lload 7, 2) := by decide +kernel
theorem dX7_growJoin_124 : decode cX7_growJoin 124 = .ok (.lload 13, 2) := by decide +kernel
theorem dX7_growJoin_126 : decode cX7_growJoin 126 = .ok (.lsub, 1) := by decide +kernel
theorem dX7_growJoin_127 : decode cX7_growJoin 127 = .ok (.lstore 7, 2) := by decide +kernel
theorem dX7_growJoin_129 : decode cX7_growJoin 129 = .ok (.iinc 9 1, 3) := by decide +kernel
theorem dX7_growJoin_132 : decode cX7_growJoin 132 = .ok (.goto (-123), 3) := by decide +kernel
theorem dX7_growJoin_135 : decode cX7_growJoin 135 = .ok (.return_, 1) := by decide +kernel
theorem dX7_addNode_0 : decode cX7_addNode 0 = .ok (.aload_n 0, 1) := by decide +kernel
theorem dX7_addNode_1 : decode cX7_addNode 1 = .ok (.getfield 9, 3) := by decide +kernel
theorem dX7_addNode_4 : decode cX7_addNode 4 = .ok (.aload_n 0, 1) := by decide +kernel
theorem dX7_addNode_5 : decode cX7_addNode 5 = .ok (.getfield 37, 3) := by decide +kernel
theorem dX7_addNode_8 : decode cX7_addNode 8 = .ok (.iload_n 1, 1) := by decide +kernel
theorem dX7_addNode_9 : decode cX7_addNode 9 = .ok (.invokestatic 66, 3) := by decide +kernel
theorem dX7_addNode_12 : decode cX7_addNode 12 = .ok (.aload_n 0, 1) := by decide +kernel
theorem dX7_addNode_13 : decode cX7_addNode 13 = .ok (.getfield 15, 3) := by decide +kernel
theorem dX7_addNode_16 : decode cX7_addNode 16 = .ok (.aload_n 0, 1) := by decide +kernel
theorem dX7_addNode_17 : decode cX7_addNode 17 = .ok (.getfield 37, 3) := by decide +kernel
theorem dX7_addNode_20 : decode cX7_addNode 20 = .ok (.iload_n 2, 1) := by decide +kernel
theorem dX7_addNode_21 : decode cX7_addNode 21 = .ok (.invokestatic 66, 3) := by decide +kernel
theorem dX7_addNode_24 : decode cX7_addNode 24 = .ok (.aload_n 0, 1) := by decide +kernel
theorem dX7_addNode_25 : decode cX7_addNode 25 = .ok (.getfield 18, 3) := by decide +kernel
theorem dX7_addNode_28 : decode cX7_addNode 28 = .ok (.aload_n 0, 1) := by decide +kernel
theorem dX7_addNode_29 : decode cX7_addNode 29 = .ok (.getfield 37, 3) := by decide +kernel
theorem dX7_addNode_32 : decode cX7_addNode 32 = .ok (.iload_n 3, 1) := by decide +kernel
theorem dX7_addNode_33 : decode cX7_addNode 33 = .ok (.invokestatic 66, 3) := by decide +kernel
theorem dX7_addNode_36 : decode cX7_addNode 36 = .ok (.aload_n 0, 1) := by decide +kernel
theorem dX7_addNode_37 : decode cX7_addNode 37 = .ok (.dup, 1) := by decide +kernel
theorem dX7_addNode_38 : decode cX7_addNode 38 = .ok (.getfield 37, 3) := by decide +kernel
theorem dX7_addNode_41 : decode cX7_addNode 41 = .ok (.iconst 1, 1) := by decide +kernel
theorem dX7_addNode_42 : decode cX7_addNode 42 = .ok (.iadd, 1) := by decide +kernel
theorem dX7_addNode_43 : decode cX7_addNode 43 = .ok (.putfield 37, 3) := by decide +kernel
theorem dX7_addNode_46 : decode cX7_addNode 46 = .ok (.return_, 1) := by decide +kernel
theorem dX8_init_0 : decode cX8_init 0 = .ok (.aload_n 0, 1) := by decide +kernel
theorem dX8_init_1 : decode cX8_init 1 = .ok (.invokespecial 3, 3) := by decide +kernel
theorem dX8_init_4 : decode cX8_init 4 = .ok (.aload_n 0, 1) := by decide +kernel
theorem dX8_init_5 : decode cX8_init 5 = .ok (.sipush 200, 3) := by decide +kernel
theorem dX8_init_8 : decode cX8_init 8 = .ok (.newarray .long, 2) := by decide +kernel
theorem dX8_init_10 : decode cX8_init 10 = .ok (.putfield 9, 3) := by decide +kernel
theorem dX8_init_13 : decode cX8_init 13 = .ok (.return_, 1) := by decide +kernel
theorem dX8_size_0 : decode cX8_size 0 = .ok (.aload_n 0, 1) := by decide +kernel
theorem dX8_size_1 : decode cX8_size 1 = .ok (.getfield 15, 3) := by decide +kernel
theorem dX8_size_4 : decode cX8_size 4 = .ok (.ireturn, 1) := by decide +kernel
theorem dX8_gather_0 : decode cX8_gather 0 = .ok (.aload_n 0, 1) := by decide +kernel
theorem dX8_gather_1 : decode cX8_gather 1 = .ok (.iconst 0, 1) := by decide +kernel
theorem dX8_gather_2 : decode cX8_gather 2 = .ok (.putfield 15, 3) := by decide +kernel
theorem dX8_gather_5 : decode cX8_gather 5 = .ok (.iconst 0, 1) := by decide +kernel
theorem dX8_gather_6 : decode cX8_gather 6 = .ok (.istore_n 2, 1) := by decide +kernel
theorem dX8_gather_7 : decode cX8_gather 7 = .ok (.iload_n 2, 1) := by decide +kernel
theorem dX8_gather_8 : decode cX8_gather 8 = .ok (.aload_n 1, 1) := by decide +kernel
theorem dX8_gather_9 : decode cX8_gather 9 = .ok (.invokevirtual 19, 3) := by decide +kernel
theorem dX8_gather_12 : decode cX8_gather 12 = .ok (.if_icmp .ge 47, 3) := by decide +kernel
theorem dX8_gather_15 : decode cX8_gather 15 = .ok (.aload_n 0, 1) := by decide +kernel
theorem dX8_gather_16 : decode cX8_gather 16 = .ok (.aload_n 1, 1) := by decide +kernel
theorem dX8_gather_17 : decode cX8_gather 17 = .ok (.iload_n 2, 1) := by decide +kernel
theorem dX8_gather_18 : decode cX8_gather 18 = .ok (.invokevirtual 24, 3) := by decide +kernel
theorem dX8_gather_21 : decode cX8_gather 21 = .ok (.invokevirtual 28, 3) := by decide +kernel
theorem dX8_gather_24 : decode cX8_gather 24 = .ok (.ifCond .ne 29, 3) := by decide +kernel
theorem dX8_gather_27 : decode cX8_gather 27 = .ok (.aload_n 0, 1) := by decide +kernel
theorem dX8_gather_28 : decode cX8_gather 28 = .ok (.getfield 9, 3) := by decide +kernel
theorem dX8_gather_31 : decode cX8_gather 31 = .ok (.aload_n 0, 1) := by decide +kernel
theorem dX8_gather_32 : decode cX8_gather 32 = .ok (.getfield 15, 3) := by decide +kernel
theorem dX8_gather_35 : decode cX8_gather 35 = .ok (.aload_n 1, 1) := by decide +kernel
theorem dX8_gather_36 : decode cX8_gather 36 = .ok (.iload_n 2, 1) := by decide +kernel
theorem dX8_gather_37 : decode cX8_gather 37 = .ok (.invokevirtual 24, 3) := by decide +kernel
theorem dX8_gather_40 : decode cX8_gather 40 = .ok (.invokestatic 32, 3) := by decide +kernel
theorem dX8_gather_43 : decode cX8_gather 43 = .ok (.aload_n 0, 1) := by decide +kernel
theorem dX8_gather_44 : decode cX8_gather 44 = .ok (.dup, 1) := by decide +kernel
theorem dX8_gather_45 : decode cX8_gather 45 = .ok (.getfield 15, 3) := by decide +kernel
theorem dX8_gather_48 : decode cX8_gather 48 = .ok (.iconst 1, 1) := by decide +kernel
theorem dX8_gather_49 : decode cX8_gather 49 = .ok (.iadd, 1) := by decide +kernel
theorem dX8_gather_50 : decode cX8_gather 50 = .ok (.putfield 15, 3) := by decide +kernel
theorem dX8_gather_53 : decode cX8_gather 53 = .ok (.iinc 2 1, 3) := by decide +kernel
theorem dX8_gather_56 : decode cX8_gather 56 = .ok (.goto (-49), 3) := by decide +kernel
theorem dX8_gather_59 : decode cX8_gather 59 = .ok (.return_, 1) := by decide +kernel
theorem dX8_has_0 : decode cX8_has 0 = .ok (.iconst 0, 1) := by decide +kernel
theorem dX8_has_1 : decode cX8_has 1 = .ok (.istore_n 3, 1) := by decide +kernel
theorem dX8_has_2 : decode cX8_has 2 = .ok (.iload_n 3, 1) := by decide +kernel
theorem dX8_has_3 : decode cX8_has 3 = .ok (.aload_n 0, 1) := by decide +kernel
theorem dX8_has_4 : decode cX8_has 4 = .ok (.getfield 15, 3) := by decide +kernel
theorem dX8_has_7 : decode cX8_has 7 = .ok (.if_icmp .ge 24, 3) := by decide +kernel
theorem dX8_has_10 : decode cX8_has 10 = .ok (.aload_n 0, 1) := by decide +kernel
theorem dX8_has_11 : decode cX8_has 11 = .ok (.getfield 9, 3) := by decide +kernel
theorem dX8_has_14 : decode cX8_has 14 = .ok (.iload_n 3, 1) := by decide +kernel
theorem dX8_has_15 : decode cX8_has 15 = .ok (.invokestatic 36, 3) := by decide +kernel
theorem dX8_has_18 : decode cX8_has 18 = .ok (.lload_n 1, 1) := by decide +kernel
theorem dX8_has_19 : decode cX8_has 19 = .ok (.lcmp, 1) := by decide +kernel
theorem dX8_has_20 : decode cX8_has 20 = .ok (.ifCond .ne 5, 3) := by decide +kernel
theorem dX8_has_23 : decode cX8_has 23 = .ok (.iconst 1, 1) := by decide +kernel
theorem dX8_has_24 : decode cX8_has 24 = .ok (.ireturn, 1) := by decide +kernel
theorem dX8_has_25 : decode cX8_has 25 = .ok (.iinc 3 1, 3) := by decide +kernel
theorem dX8_has_28 : decode cX8_has 28 = .ok (.goto (-26), 3) := by decide +kernel
theorem dX8_has_31 : decode cX8_has 31 = .ok (.iconst 0, 1) := by decide +kernel
theorem dX8_has_32 : decode cX8_has 32 = .ok (.ireturn, 1) := by decide +kernel
theorem dX8_fewestCases_0 : decode cX8_fewestCases 0 = .ok (.aload_n 0, 1) := by decide +kernel
theorem dX8_fewestCases_1 : decode cX8_fewestCases 1 = .ok (.getfield 15, 3) := by decide +kernel
theorem dX8_fewestCases_4 : decode cX8_fewestCases 4 = .ok (.iconst 1, 1) := by decide +kernel
theorem dX8_fewestCases_5 : decode cX8_fewestCases 5 = .ok (.if_icmp .gt 5, 3) := by decide +kernel
theorem dX8_fewestCases_8 : decode cX8_fewestCases 8 = .ok (.iconst 0, 1) := by decide +kernel
theorem dX8_fewestCases_9 : decode cX8_fewestCases 9 = .ok (.ireturn, 1) := by decide +kernel
theorem dX8_fewestCases_10 : decode cX8_fewestCases 10 = .ok (.aload_n 0, 1) := by decide +kernel
theorem dX8_fewestCases_11 : decode cX8_fewestCases 11 = .ok (.getfield 15, 3) := by decide +kernel
theorem dX8_fewestCases_14 : decode cX8_fewestCases 14 = .ok (.bipush 8, 2) := by decide +kernel
theorem dX8_fewestCases_16 : decode cX8_fewestCases 16 = .ok (.if_icmp .le 6, 3) := by decide +kernel
theorem dX8_fewestCases_19 : decode cX8_fewestCases 19 = .ok (.bipush (-9), 2) := by decide +kernel
theorem dX8_fewestCases_21 : decode cX8_fewestCases 21 = .ok (.ireturn, 1) := by decide +kernel
theorem dX8_fewestCases_22 : decode cX8_fewestCases 22 = .ok (.bipush (-9), 2) := by decide +kernel
theorem dX8_fewestCases_24 : decode cX8_fewestCases 24 = .ok (.istore_n 1, 1) := by decide +kernel
theorem dX8_fewestCases_25 : decode cX8_fewestCases 25 = .ok (.iconst 0, 1) := by decide +kernel
theorem dX8_fewestCases_26 : decode cX8_fewestCases 26 = .ok (.istore_n 2, 1) := by decide +kernel
theorem dX8_fewestCases_27 : decode cX8_fewestCases 27 = .ok (.iload_n 2, 1) := by decide +kernel
theorem dX8_fewestCases_28 : decode cX8_fewestCases 28 = .ok (.bipush 32, 2) := by decide +kernel
theorem dX8_fewestCases_30 : decode cX8_fewestCases 30 = .ok (.if_icmp .ge 74, 3) := by decide +kernel
theorem dX8_fewestCases_33 : decode cX8_fewestCases 33 = .ok (.aload_n 0, 1) := by decide +kernel
theorem dX8_fewestCases_34 : decode cX8_fewestCases 34 = .ok (.iload_n 2, 1) := by decide +kernel
theorem dX8_fewestCases_35 : decode cX8_fewestCases 35 = .ok (.iload_n 2, 1) := by decide +kernel
theorem dX8_fewestCases_36 : decode cX8_fewestCases 36 = .ok (.iload_n 2, 1) := by decide +kernel
theorem dX8_fewestCases_37 : decode cX8_fewestCases 37 = .ok (.invokevirtual 40, 3) := by decide +kernel
theorem dX8_fewestCases_40 : decode cX8_fewestCases 40 = .ok (.ifCond .eq 5, 3) := by decide +kernel
theorem dX8_fewestCases_43 : decode cX8_fewestCases 43 = .ok (.iconst 1, 1) := by decide +kernel
theorem dX8_fewestCases_44 : decode cX8_fewestCases 44 = .ok (.ireturn, 1) := by decide +kernel
theorem dX8_fewestCases_45 : decode cX8_fewestCases 45 = .ok (.iload_n 2, 1) := by decide +kernel
theorem dX8_fewestCases_46 : decode cX8_fewestCases 46 = .ok (.iconst 1, 1) := by decide +kernel
theorem dX8_fewestCases_47 : decode cX8_fewestCases 47 = .ok (.iadd, 1) := by decide +kernel
theorem dX8_fewestCases_48 : decode cX8_fewestCases 48 = .ok (.istore_n 3, 1) := by decide +kernel
theorem dX8_fewestCases_49 : decode cX8_fewestCases 49 = .ok (.iload_n 3, 1) := by decide +kernel
theorem dX8_fewestCases_50 : decode cX8_fewestCases 50 = .ok (.bipush 32, 2) := by decide +kernel
theorem dX8_fewestCases_52 : decode cX8_fewestCases 52 = .ok (.if_icmp .ge 46, 3) := by decide +kernel
theorem dX8_fewestCases_55 : decode cX8_fewestCases 55 = .ok (.iload_n 1, 1) := by decide +kernel
theorem dX8_fewestCases_56 : decode cX8_fewestCases 56 = .ok (.iconst 2, 1) := by decide +kernel
theorem dX8_fewestCases_57 : decode cX8_fewestCases 57 = .ok (.if_icmp .eq 41, 3) := by decide +kernel
theorem dX8_fewestCases_60 : decode cX8_fewestCases 60 = .ok (.aload_n 0, 1) := by decide +kernel
theorem dX8_fewestCases_61 : decode cX8_fewestCases 61 = .ok (.iload_n 2, 1) := by decide +kernel
theorem dX8_fewestCases_62 : decode cX8_fewestCases 62 = .ok (.iload_n 3, 1) := by decide +kernel
theorem dX8_fewestCases_63 : decode cX8_fewestCases 63 = .ok (.iload_n 3, 1) := by decide +kernel
theorem dX8_fewestCases_64 : decode cX8_fewestCases 64 = .ok (.invokevirtual 40, 3) := by decide +kernel
theorem dX8_fewestCases_67 : decode cX8_fewestCases 67 = .ok (.ifCond .eq 8, 3) := by decide +kernel
theorem dX8_fewestCases_70 : decode cX8_fewestCases 70 = .ok (.iconst 2, 1) := by decide +kernel
theorem dX8_fewestCases_71 : decode cX8_fewestCases 71 = .ok (.istore_n 1, 1) := by decide +kernel
theorem dX8_fewestCases_72 : decode cX8_fewestCases 72 = .ok (.goto 20, 3) := by decide +kernel
theorem dX8_fewestCases_75 : decode cX8_fewestCases 75 = .ok (.iload_n 1, 1) := by decide +kernel
theorem dX8_fewestCases_76 : decode cX8_fewestCases 76 = .ok (.bipush (-9), 2) := by decide +kernel
theorem dX8_fewestCases_78 : decode cX8_fewestCases 78 = .ok (.if_icmp .ne 14, 3) := by decide +kernel
theorem dX8_fewestCases_81 : decode cX8_fewestCases 81 = .ok (.aload_n 0, 1) := by decide +kernel
theorem dX8_fewestCases_82 : decode cX8_fewestCases 82 = .ok (.iload_n 2, 1) := by decide +kernel
theorem dX8_fewestCases_83 : decode cX8_fewestCases 83 = .ok (.iload_n 3, 1) := by decide +kernel
theorem dX8_fewestCases_84 : decode cX8_fewestCases 84 = .ok (.invokevirtual 44, 3) := by decide +kernel
theorem dX8_fewestCases_87 : decode cX8_fewestCases 87 = .ok (.ifCond .eq 5, 3) := by decide +kernel
theorem dX8_fewestCases_90 : decode cX8_fewestCases 90 = .ok (.iconst 3, 1) := by decide +kernel
theorem dX8_fewestCases_91 : decode cX8_fewestCases 91 = .ok (.istore_n 1, 1) := by decide +kernel
theorem dX8_fewestCases_92 : decode cX8_fewestCases 92 = .ok (.iinc 3 1, 3) := by decide +kernel
theorem dX8_fewestCases_95 : decode cX8_fewestCases 95 = .ok (.goto (-46), 3) := by decide +kernel
theorem dX8_fewestCases_98 : decode cX8_fewestCases 98 = .ok (.iinc 2 1, 3) := by decide +kernel
theorem dX8_fewestCases_101 : decode cX8_fewestCases 101 = .ok (.goto (-74), 3) := by decide +kernel
theorem dX8_fewestCases_104 : decode cX8_fewestCases 104 = .ok (.iload_n 1, 1) := by decide +kernel
theorem dX8_fewestCases_105 : decode cX8_fewestCases 105 = .ok (.ireturn, 1) := by decide +kernel
theorem dX8_isThirdFor_0 : decode cX8_isThirdFor 0 = .ok (.iload_n 2, 1) := by decide +kernel
theorem dX8_isThirdFor_1 : decode cX8_isThirdFor 1 = .ok (.iconst 1, 1) := by decide +kernel
theorem dX8_isThirdFor_2 : decode cX8_isThirdFor 2 = .ok (.iadd, 1) := by decide +kernel
theorem dX8_isThirdFor_3 : decode cX8_isThirdFor 3 = .ok (.istore_n 3, 1) := by decide +kernel
theorem dX8_isThirdFor_4 : decode cX8_isThirdFor 4 = .ok (.iload_n 3, 1) := by decide +kernel
theorem dX8_isThirdFor_5 : decode cX8_isThirdFor 5 = .ok (.bipush 32, 2) := by decide +kernel
theorem dX8_isThirdFor_7 : decode cX8_isThirdFor 7 = .ok (.if_icmp .ge 21, 3) := by decide +kernel
theorem dX8_isThirdFor_10 : decode cX8_isThirdFor 10 = .ok (.aload_n 0, 1) := by decide +kernel
theorem dX8_isThirdFor_11 : decode cX8_isThirdFor 11 = .ok (.iload_n 1, 1) := by decide +kernel
theorem dX8_isThirdFor_12 : decode cX8_isThirdFor 12 = .ok (.iload_n 2, 1) := by decide +kernel
theorem dX8_isThirdFor_13 : decode cX8_isThirdFor 13 = .ok (.iload_n 3, 1) := by decide +kernel
theorem dX8_isThirdFor_14 : decode cX8_isThirdFor 14 = .ok (.invokevirtual 40, 3) := by decide +kernel
theorem dX8_isThirdFor_17 : decode cX8_isThirdFor 17 = .ok (.ifCond .eq 5, 3) := by decide +kernel
theorem dX8_isThirdFor_20 : decode cX8_isThirdFor 20 = .ok (.iconst 1, 1) := by decide +kernel
theorem dX8_isThirdFor_21 : decode cX8_isThirdFor 21 = .ok (.ireturn, 1) := by decide +kernel
theorem dX8_isThirdFor_22 : decode cX8_isThirdFor 22 = .ok (.iinc 3 1, 3) := by decide +kernel
theorem dX8_isThirdFor_25 : decode cX8_isThirdFor 25 = .ok (.goto (-21), 3) := by decide +kernel
theorem dX8_isThirdFor_28 : decode cX8_isThirdFor 28 = .ok (.iconst 0, 1) := by decide +kernel
theorem dX8_isThirdFor_29 : decode cX8_isThirdFor 29 = .ok (.ireturn, 1) := by decide +kernel
theorem dX8_arePartedBy_0 : decode cX8_arePartedBy 0 = .ok (.iconst 0, 1) := by decide +kernel
theorem dX8_arePartedBy_1 : decode cX8_arePartedBy 1 = .ok (.istore 4, 2) := by decide +kernel
theorem dX8_arePartedBy_3 : decode cX8_arePartedBy 3 = .ok (.iconst 0, 1) := by decide +kernel
theorem dX8_arePartedBy_4 : decode cX8_arePartedBy 4 = .ok (.istore 5, 2) := by decide +kernel
theorem dX8_arePartedBy_6 : decode cX8_arePartedBy 6 = .ok (.iload 5, 2) := by decide +kernel
theorem dX8_arePartedBy_8 : decode cX8_arePartedBy 8 = .ok (.aload_n 0, 1) := by decide +kernel
theorem dX8_arePartedBy_9 : decode cX8_arePartedBy 9 = .ok (.getfield 15, 3) := by decide +kernel
theorem dX8_arePartedBy_12 : decode cX8_arePartedBy 12 = .ok (.if_icmp .ge 65, 3) := by decide +kernel
theorem dX8_arePartedBy_15 : decode cX8_arePartedBy 15 = .ok (.aload_n 0, 1) := by decide +kernel
theorem dX8_arePartedBy_16 : decode cX8_arePartedBy 16 = .ok (.getfield 9, 3) := by decide +kernel
theorem dX8_arePartedBy_19 : decode cX8_arePartedBy 19 = .ok (.iload 5, 2) := by decide +kernel
theorem dX8_arePartedBy_21 : decode cX8_arePartedBy 21 = .ok (.invokestatic 36, 3) := by decide +kernel
theorem dX8_arePartedBy_24 : decode cX8_arePartedBy 24 = .ok (.lstore 6, 2) := by decide +kernel
theorem dX8_arePartedBy_26 : decode cX8_arePartedBy 26 = .ok (.iconst 1, 1) := by decide +kernel
theorem dX8_arePartedBy_27 : decode cX8_arePartedBy 27 = .ok (.lload 6, 2) := by decide +kernel
theorem dX8_arePartedBy_29 : decode cX8_arePartedBy 29 = .ok (.iload_n 1, 1) := by decide +kernel
theorem dX8_arePartedBy_30 : decode cX8_arePartedBy 30 = .ok (.invokestatic 48, 3) := by decide +kernel
theorem dX8_arePartedBy_33 : decode cX8_arePartedBy 33 = .ok (.iconst 2, 1) := by decide +kernel
theorem dX8_arePartedBy_34 : decode cX8_arePartedBy 34 = .ok (.lload 6, 2) := by decide +kernel
theorem dX8_arePartedBy_36 : decode cX8_arePartedBy 36 = .ok (.iload_n 2, 1) := by decide +kernel
theorem dX8_arePartedBy_37 : decode cX8_arePartedBy 37 = .ok (.invokestatic 48, 3) := by decide +kernel
theorem dX8_arePartedBy_40 : decode cX8_arePartedBy 40 = .ok (.imul, 1) := by decide +kernel
theorem dX8_arePartedBy_41 : decode cX8_arePartedBy 41 = .ok (.iadd, 1) := by decide +kernel
theorem dX8_arePartedBy_42 : decode cX8_arePartedBy 42 = .ok (.iconst 4, 1) := by decide +kernel
theorem dX8_arePartedBy_43 : decode cX8_arePartedBy 43 = .ok (.lload 6, 2) := by decide +kernel
theorem dX8_arePartedBy_45 : decode cX8_arePartedBy 45 = .ok (.iload_n 3, 1) := by decide +kernel
theorem dX8_arePartedBy_46 : decode cX8_arePartedBy 46 = .ok (.invokestatic 48, 3) := by decide +kernel
theorem dX8_arePartedBy_49 : decode cX8_arePartedBy 49 = .ok (.imul, 1) := by decide +kernel
theorem dX8_arePartedBy_50 : decode cX8_arePartedBy 50 = .ok (.iadd, 1) := by decide +kernel
theorem dX8_arePartedBy_51 : decode cX8_arePartedBy 51 = .ok (.ishl, 1) := by decide +kernel
theorem dX8_arePartedBy_52 : decode cX8_arePartedBy 52 = .ok (.istore 8, 2) := by decide +kernel
theorem dX8_arePartedBy_54 : decode cX8_arePartedBy 54 = .ok (.iload 4, 2) := by decide +kernel
theorem dX8_arePartedBy_56 : decode cX8_arePartedBy 56 = .ok (.iload 8, 2) := by decide +kernel
theorem dX8_arePartedBy_58 : decode cX8_arePartedBy 58 = .ok (.iand, 1) := by decide +kernel
theorem dX8_arePartedBy_59 : decode cX8_arePartedBy 59 = .ok (.ifCond .eq 5, 3) := by decide +kernel
theorem dX8_arePartedBy_62 : decode cX8_arePartedBy 62 = .ok (.iconst 0, 1) := by decide +kernel
theorem dX8_arePartedBy_63 : decode cX8_arePartedBy 63 = .ok (.ireturn, 1) := by decide +kernel
theorem dX8_arePartedBy_64 : decode cX8_arePartedBy 64 = .ok (.iload 4, 2) := by decide +kernel
theorem dX8_arePartedBy_66 : decode cX8_arePartedBy 66 = .ok (.iload 8, 2) := by decide +kernel
theorem dX8_arePartedBy_68 : decode cX8_arePartedBy 68 = .ok (.ior, 1) := by decide +kernel
theorem dX8_arePartedBy_69 : decode cX8_arePartedBy 69 = .ok (.istore 4, 2) := by decide +kernel
theorem dX8_arePartedBy_71 : decode cX8_arePartedBy 71 = .ok (.iinc 5 1, 3) := by decide +kernel
theorem dX8_arePartedBy_74 : decode cX8_arePartedBy 74 = .ok (.goto (-68), 3) := by decide +kernel
theorem dX8_arePartedBy_77 : decode cX8_arePartedBy 77 = .ok (.iconst 1, 1) := by decide +kernel
theorem dX8_arePartedBy_78 : decode cX8_arePartedBy 78 = .ok (.ireturn, 1) := by decide +kernel
theorem dX9_init_0 : decode cX9_init 0 = .ok (.aload_n 0, 1) := by decide +kernel
theorem dX9_init_1 : decode cX9_init 1 = .ok (.invokespecial 3, 3) := by decide +kernel
theorem dX9_init_4 : decode cX9_init 4 = .ok (.aload_n 0, 1) := by decide +kernel
theorem dX9_init_5 : decode cX9_init 5 = .ok (.sipush 484, 3) := by decide +kernel
theorem dX9_init_8 : decode cX9_init 8 = .ok (.newarray .long, 2) := by decide +kernel
theorem dX9_init_10 : decode cX9_init 10 = .ok (.putfield 11, 3) := by decide +kernel
theorem dX9_init_13 : decode cX9_init 13 = .ok (.aload_n 0, 1) := by decide +kernel
theorem dX9_init_14 : decode cX9_init 14 = .ok (.sipush 484, 3) := by decide +kernel
theorem dX9_init_17 : decode cX9_init 17 = .ok (.newarray .long, 2) := by decide +kernel
theorem dX9_init_19 : decode cX9_init 19 = .ok (.putfield 15, 3) := by decide +kernel
theorem dX9_init_22 : decode cX9_init 22 = .ok (.return_, 1) := by decide +kernel
theorem dX9_number_0 : decode cX9_number 0 = .ok (.aload_n 0, 1) := by decide +kernel
theorem dX9_number_1 : decode cX9_number 1 = .ok (.getfield 11, 3) := by decide +kernel
theorem dX9_number_4 : decode cX9_number 4 = .ok (.iload_n 1, 1) := by decide +kernel
theorem dX9_number_5 : decode cX9_number 5 = .ok (.bipush 22, 2) := by decide +kernel
theorem dX9_number_7 : decode cX9_number 7 = .ok (.imul, 1) := by decide +kernel
theorem dX9_number_8 : decode cX9_number 8 = .ok (.iload_n 2, 1) := by decide +kernel
theorem dX9_number_9 : decode cX9_number 9 = .ok (.iadd, 1) := by decide +kernel
theorem dX9_number_10 : decode cX9_number 10 = .ok (.invokestatic 18, 3) := by decide +kernel
theorem dX9_number_13 : decode cX9_number 13 = .ok (.lreturn, 1) := by decide +kernel
theorem dX9_frontNumber_0 : decode cX9_frontNumber 0 = .ok (.aload_n 0, 1) := by decide +kernel
theorem dX9_frontNumber_1 : decode cX9_frontNumber 1 = .ok (.getfield 15, 3) := by decide +kernel
theorem dX9_frontNumber_4 : decode cX9_frontNumber 4 = .ok (.iload_n 1, 1) := by decide +kernel
theorem dX9_frontNumber_5 : decode cX9_frontNumber 5 = .ok (.bipush 22, 2) := by decide +kernel
theorem dX9_frontNumber_7 : decode cX9_frontNumber 7 = .ok (.imul, 1) := by decide +kernel
theorem dX9_frontNumber_8 : decode cX9_frontNumber 8 = .ok (.iload_n 2, 1) := by decide +kernel
theorem dX9_frontNumber_9 : decode cX9_frontNumber 9 = .ok (.iadd, 1) := by decide +kernel
theorem dX9_frontNumber_10 : decode cX9_frontNumber 10 = .ok (.invokestatic 18, 3) := by decide +kernel
theorem dX9_frontNumber_13 : decode cX9_frontNumber 13 = .ok (.lreturn, 1) := by decide +kernel
theorem dX9_reckon_0 : decode cX9_reckon 0 = .ok (.aload_n 1, 1) := by decide +kernel
theorem dX9_reckon_1 : decode cX9_reckon 1 = .ok (.invokevirtual 22, 3) := by decide +kernel
theorem dX9_reckon_4 : decode cX9_reckon 4 = .ok (.iconst 1, 1) := by decide +kernel
theorem dX9_reckon_5 : decode cX9_reckon 5 = .ok (.isub, 1) := by decide +kernel
theorem dX9_reckon_6 : decode cX9_reckon 6 = .ok (.istore_n 2, 1) := by decide +kernel
theorem dX9_reckon_7 : decode cX9_reckon 7 = .ok (.iload_n 2, 1) := by decide +kernel
theorem dX9_reckon_8 : decode cX9_reckon 8 = .ok (.ifCond .lt 96, 3) := by decide +kernel
theorem dX9_reckon_11 : decode cX9_reckon 11 = .ok (.aload_n 1, 1) := by decide +kernel
theorem dX9_reckon_12 : decode cX9_reckon 12 = .ok (.iload_n 2, 1) := by decide +kernel
theorem dX9_reckon_13 : decode cX9_reckon 13 = .ok (.iconst 1, 1) := by decide +kernel
theorem dX9_reckon_14 : decode cX9_reckon 14 = .ok (.iadd, 1) := by decide +kernel
theorem dX9_reckon_15 : decode cX9_reckon 15 = .ok (.invokevirtual 28, 3) := by decide +kernel
theorem dX9_reckon_18 : decode cX9_reckon 18 = .ok (.istore_n 3, 1) := by decide +kernel
theorem dX9_reckon_19 : decode cX9_reckon 19 = .ok (.iload_n 2, 1) := by decide +kernel
theorem dX9_reckon_20 : decode cX9_reckon 20 = .ok (.iconst 1, 1) := by decide +kernel
theorem dX9_reckon_21 : decode cX9_reckon 21 = .ok (.iadd, 1) := by decide +kernel
theorem dX9_reckon_22 : decode cX9_reckon 22 = .ok (.istore 4, 2) := by decide +kernel
theorem dX9_reckon_24 : decode cX9_reckon 24 = .ok (.iload 4, 2) := by decide +kernel
theorem dX9_reckon_26 : decode cX9_reckon 26 = .ok (.aload_n 1, 1) := by decide +kernel
theorem dX9_reckon_27 : decode cX9_reckon 27 = .ok (.invokevirtual 22, 3) := by decide +kernel
theorem dX9_reckon_30 : decode cX9_reckon 30 = .ok (.if_icmp .gt 68, 3) := by decide +kernel
theorem dX9_reckon_33 : decode cX9_reckon 33 = .ok (.aload_n 0, 1) := by decide +kernel
theorem dX9_reckon_34 : decode cX9_reckon 34 = .ok (.aload_n 1, 1) := by decide +kernel
theorem dX9_reckon_35 : decode cX9_reckon 35 = .ok (.iload_n 2, 1) := by decide +kernel
theorem dX9_reckon_36 : decode cX9_reckon 36 = .ok (.invokevirtual 32, 3) := by decide +kernel
theorem dX9_reckon_39 : decode cX9_reckon 39 = .ok (.invokestatic 35, 3) := by decide +kernel
theorem dX9_reckon_42 : decode cX9_reckon 42 = .ok (.iload_n 2, 1) := by decide +kernel
theorem dX9_reckon_43 : decode cX9_reckon 43 = .ok (.iload 4, 2) := by decide +kernel
theorem dX9_reckon_45 : decode cX9_reckon 45 = .ok (.iload_n 3, 1) := by decide +kernel
theorem dX9_reckon_46 : decode cX9_reckon 46 = .ok (.invokevirtual 38, 3) := by decide +kernel
theorem dX9_reckon_49 : decode cX9_reckon 49 = .ok (.lstore 5, 2) := by decide +kernel
theorem dX9_reckon_51 : decode cX9_reckon 51 = .ok (.aload_n 0, 1) := by decide +kernel
theorem dX9_reckon_52 : decode cX9_reckon 52 = .ok (.getfield 15, 3) := by decide +kernel
theorem dX9_reckon_55 : decode cX9_reckon 55 = .ok (.iload_n 2, 1) := by decide +kernel
theorem dX9_reckon_56 : decode cX9_reckon 56 = .ok (.bipush 22, 2) := by decide +kernel
theorem dX9_reckon_58 : decode cX9_reckon 58 = .ok (.imul, 1) := by decide +kernel
theorem dX9_reckon_59 : decode cX9_reckon 59 = .ok (.iload 4, 2) := by decide +kernel
theorem dX9_reckon_61 : decode cX9_reckon 61 = .ok (.iadd, 1) := by decide +kernel
theorem dX9_reckon_62 : decode cX9_reckon 62 = .ok (.lload 5, 2) := by decide +kernel
theorem dX9_reckon_64 : decode cX9_reckon 64 = .ok (.invokestatic 42, 3) := by decide +kernel
theorem dX9_reckon_67 : decode cX9_reckon 67 = .ok (.aload_n 0, 1) := by decide +kernel
theorem dX9_reckon_68 : decode cX9_reckon 68 = .ok (.getfield 11, 3) := by decide +kernel
theorem dX9_reckon_71 : decode cX9_reckon 71 = .ok (.iload_n 2, 1) := by decide +kernel
theorem dX9_reckon_72 : decode cX9_reckon 72 = .ok (.bipush 22, 2) := by decide +kernel
theorem dX9_reckon_74 : decode cX9_reckon 74 = .ok (.imul, 1) := by decide +kernel
theorem dX9_reckon_75 : decode cX9_reckon 75 = .ok (.iload 4, 2) := by decide +kernel
theorem dX9_reckon_77 : decode cX9_reckon 77 = .ok (.iadd, 1) := by decide +kernel
theorem dX9_reckon_78 : decode cX9_reckon 78 = .ok (.lload 5, 2) := by decide +kernel
theorem dX9_reckon_80 : decode cX9_reckon 80 = .ok (.aload_n 0, 1) := by decide +kernel
theorem dX9_reckon_81 : decode cX9_reckon 81 = .ok (.aload_n 1, 1) := by decide +kernel
theorem dX9_reckon_82 : decode cX9_reckon 82 = .ok (.iload_n 2, 1) := by decide +kernel
theorem dX9_reckon_83 : decode cX9_reckon 83 = .ok (.iload 4, 2) := by decide +kernel
theorem dX9_reckon_85 : decode cX9_reckon 85 = .ok (.invokevirtual 46, 3) := by decide +kernel
theorem dX9_reckon_88 : decode cX9_reckon 88 = .ok (.ladd, 1) := by decide +kernel
theorem dX9_reckon_89 : decode cX9_reckon 89 = .ok (.invokestatic 42, 3) := by decide +kernel
theorem dX9_reckon_92 : decode cX9_reckon 92 = .ok (.iinc 4 1, 3) := by decide +kernel
theorem dX9_reckon_95 : decode cX9_reckon 95 = .ok (.goto (-71), 3) := by decide +kernel
theorem dX9_reckon_98 : decode cX9_reckon 98 = .ok (.iinc 2 (-1), 3) := by decide +kernel
theorem dX9_reckon_101 : decode cX9_reckon 101 = .ok (.goto (-94), 3) := by decide +kernel
theorem dX9_reckon_104 : decode cX9_reckon 104 = .ok (.return_, 1) := by decide +kernel
theorem dX9_fronted_0 : decode cX9_fronted 0 = .ok (.iload_n 1, 1) := by decide +kernel
theorem dX9_fronted_1 : decode cX9_fronted 1 = .ok (.ifCond .ne 16, 3) := by decide +kernel
theorem dX9_fronted_4 : decode cX9_fronted 4 = .ok (.iload_n 3, 1) := by decide +kernel
theorem dX9_fronted_5 : decode cX9_fronted 5 = .ok (.iload_n 2, 1) := by decide +kernel
theorem dX9_fronted_6 : decode cX9_fronted 6 = .ok (.iconst 1, 1) := by decide +kernel
theorem dX9_fronted_7 : decode cX9_fronted 7 = .ok (.iadd, 1) := by decide +kernel
theorem dX9_fronted_8 : decode cX9_fronted 8 = .ok (.if_icmp .ne 7, 3) := by decide +kernel
theorem dX9_fronted_11 : decode cX9_fronted 11 = .ok (.lconst 1, 1) := by decide +kernel
theorem dX9_fronted_12 : decode cX9_fronted 12 = .ok (.goto 4, 3) := by decide +kernel
theorem dX9_fronted_15 : decode cX9_fronted 15 = .ok (.lconst 0, 1) := by decide +kernel
theorem dX9_fronted_16 : decode cX9_fronted 16 = .ok (.lreturn, 1) := by decide +kernel
theorem dX9_fronted_17 : decode cX9_fronted 17 = .ok (.iload_n 1, 1) := by decide +kernel
theorem dX9_fronted_18 : decode cX9_fronted 18 = .ok (.iconst 1, 1) := by decide +kernel
theorem dX9_fronted_19 : decode cX9_fronted 19 = .ok (.if_icmp .ne 12, 3) := by decide +kernel
theorem dX9_fronted_22 : decode cX9_fronted 22 = .ok (.aload_n 0, 1) := by decide +kernel
theorem dX9_fronted_23 : decode cX9_fronted 23 = .ok (.iload_n 2, 1) := by decide +kernel
theorem dX9_fronted_24 : decode cX9_fronted 24 = .ok (.iconst 1, 1) := by decide +kernel
theorem dX9_fronted_25 : decode cX9_fronted 25 = .ok (.iadd, 1) := by decide +kernel
theorem dX9_fronted_26 : decode cX9_fronted 26 = .ok (.iload_n 3, 1) := by decide +kernel
theorem dX9_fronted_27 : decode cX9_fronted 27 = .ok (.invokevirtual 50, 3) := by decide +kernel
theorem dX9_fronted_30 : decode cX9_fronted 30 = .ok (.lreturn, 1) := by decide +kernel
theorem dX9_fronted_31 : decode cX9_fronted 31 = .ok (.iload_n 1, 1) := by decide +kernel
theorem dX9_fronted_32 : decode cX9_fronted 32 = .ok (.iconst 2, 1) := by decide +kernel
theorem dX9_fronted_33 : decode cX9_fronted 33 = .ok (.if_icmp .ne 23, 3) := by decide +kernel
theorem dX9_fronted_36 : decode cX9_fronted 36 = .ok (.iload 4, 2) := by decide +kernel
theorem dX9_fronted_38 : decode cX9_fronted 38 = .ok (.iload_n 3, 1) := by decide +kernel
theorem dX9_fronted_39 : decode cX9_fronted 39 = .ok (.iconst 1, 1) := by decide +kernel
theorem dX9_fronted_40 : decode cX9_fronted 40 = .ok (.isub, 1) := by decide +kernel
theorem dX9_fronted_41 : decode cX9_fronted 41 = .ok (.if_icmp .ne 15, 3) := by decide +kernel
theorem dX9_fronted_44 : decode cX9_fronted 44 = .ok (.aload_n 0, 1) := by decide +kernel
theorem dX9_fronted_45 : decode cX9_fronted 45 = .ok (.iload_n 2, 1) := by decide +kernel
theorem dX9_fronted_46 : decode cX9_fronted 46 = .ok (.iconst 1, 1) := by decide +kernel
theorem dX9_fronted_47 : decode cX9_fronted 47 = .ok (.iadd, 1) := by decide +kernel
theorem dX9_fronted_48 : decode cX9_fronted 48 = .ok (.iload 4, 2) := by decide +kernel
theorem dX9_fronted_50 : decode cX9_fronted 50 = .ok (.invokevirtual 50, 3) := by decide +kernel
theorem dX9_fronted_53 : decode cX9_fronted 53 = .ok (.goto 4, 3) := by decide +kernel
theorem dX9_fronted_56 : decode cX9_fronted 56 = .ok (.lconst 0, 1) := by decide +kernel
theorem dX9_fronted_57 : decode cX9_fronted 57 = .ok (.lreturn, 1) := by decide +kernel
theorem dX9_parted_0 : decode cX9_parted 0 = .ok (.lconst 0, 1) := by decide +kernel
theorem dX9_parted_1 : decode cX9_parted 1 = .ok (.lstore 4, 2) := by decide +kernel
theorem dX9_parted_3 : decode cX9_parted 3 = .ok (.iload_n 2, 1) := by decide +kernel
theorem dX9_parted_4 : decode cX9_parted 4 = .ok (.iconst 1, 1) := by decide +kernel
theorem dX9_parted_5 : decode cX9_parted 5 = .ok (.iadd, 1) := by decide +kernel
theorem dX9_parted_6 : decode cX9_parted 6 = .ok (.istore 6, 2) := by decide +kernel
theorem dX9_parted_8 : decode cX9_parted 8 = .ok (.iload 6, 2) := by decide +kernel
theorem dX9_parted_10 : decode cX9_parted 10 = .ok (.iload_n 3, 1) := by decide +kernel
theorem dX9_parted_11 : decode cX9_parted 11 = .ok (.iconst 1, 1) := by decide +kernel
theorem dX9_parted_12 : decode cX9_parted 12 = .ok (.isub, 1) := by decide +kernel
theorem dX9_parted_13 : decode cX9_parted 13 = .ok (.if_icmp .ge 46, 3) := by decide +kernel
theorem dX9_parted_16 : decode cX9_parted 16 = .ok (.aload_n 1, 1) := by decide +kernel
theorem dX9_parted_17 : decode cX9_parted 17 = .ok (.iload 6, 2) := by decide +kernel
theorem dX9_parted_19 : decode cX9_parted 19 = .ok (.invokevirtual 32, 3) := by decide +kernel
theorem dX9_parted_22 : decode cX9_parted 22 = .ok (.invokestatic 35, 3) := by decide +kernel
theorem dX9_parted_25 : decode cX9_parted 25 = .ok (.invokestatic 54, 3) := by decide +kernel
theorem dX9_parted_28 : decode cX9_parted 28 = .ok (.ifCond .eq 25, 3) := by decide +kernel
theorem dX9_parted_31 : decode cX9_parted 31 = .ok (.lload 4, 2) := by decide +kernel
theorem dX9_parted_33 : decode cX9_parted 33 = .ok (.aload_n 0, 1) := by decide +kernel
theorem dX9_parted_34 : decode cX9_parted 34 = .ok (.iload_n 2, 1) := by decide +kernel
theorem dX9_parted_35 : decode cX9_parted 35 = .ok (.iload 6, 2) := by decide +kernel
theorem dX9_parted_37 : decode cX9_parted 37 = .ok (.invokevirtual 50, 3) := by decide +kernel
theorem dX9_parted_40 : decode cX9_parted 40 = .ok (.aload_n 0, 1) := by decide +kernel
theorem dX9_parted_41 : decode cX9_parted 41 = .ok (.iload 6, 2) := by decide +kernel
theorem dX9_parted_43 : decode cX9_parted 43 = .ok (.iconst 1, 1) := by decide +kernel
theorem dX9_parted_44 : decode cX9_parted 44 = .ok (.iadd, 1) := by decide +kernel
theorem dX9_parted_45 : decode cX9_parted 45 = .ok (.iload_n 3, 1) := by decide +kernel
theorem dX9_parted_46 : decode cX9_parted 46 = .ok (.invokevirtual 50, 3) := by decide +kernel
theorem dX9_parted_49 : decode cX9_parted 49 = .ok (.lmul, 1) := by decide +kernel
theorem dX9_parted_50 : decode cX9_parted 50 = .ok (.ladd, 1) := by decide +kernel
theorem dX9_parted_51 : decode cX9_parted 51 = .ok (.lstore 4, 2) := by decide +kernel
theorem dX9_parted_53 : decode cX9_parted 53 = .ok (.iinc 6 1, 3) := by decide +kernel
theorem dX9_parted_56 : decode cX9_parted 56 = .ok (.goto (-48), 3) := by decide +kernel
theorem dX9_parted_59 : decode cX9_parted 59 = .ok (.lload 4, 2) := by decide +kernel
theorem dX9_parted_61 : decode cX9_parted 61 = .ok (.lreturn, 1) := by decide +kernel
theorem dX10_init_0 : decode cX10_init 0 = .ok (.aload_n 0, 1) := by decide +kernel
theorem dX10_init_1 : decode cX10_init 1 = .ok (.invokespecial 3, 3) := by decide +kernel
theorem dX10_init_4 : decode cX10_init 4 = .ok (.aload_n 0, 1) := by decide +kernel
theorem dX10_init_5 : decode cX10_init 5 = .ok (.bipush 21, 2) := by decide +kernel
theorem dX10_init_7 : decode cX10_init 7 = .ok (.newarray .int, 2) := by decide +kernel
theorem dX10_init_9 : decode cX10_init 9 = .ok (.putfield 9, 3) := by decide +kernel
theorem dX10_init_12 : decode cX10_init 12 = .ok (.return_, 1) := by decide +kernel
theorem dX10_size_0 : decode cX10_size 0 = .ok (.aload_n 0, 1) := by decide +kernel
theorem dX10_size_1 : decode cX10_size 1 = .ok (.getfield 15, 3) := by decide +kernel
theorem dX10_size_4 : decode cX10_size 4 = .ok (.ireturn, 1) := by decide +kernel
theorem dX10_at_0 : decode cX10_at 0 = .ok (.aload_n 0, 1) := by decide +kernel
theorem dX10_at_1 : decode cX10_at 1 = .ok (.getfield 9, 3) := by decide +kernel
theorem dX10_at_4 : decode cX10_at 4 = .ok (.iload_n 1, 1) := by decide +kernel
theorem dX10_at_5 : decode cX10_at 5 = .ok (.invokestatic 19, 3) := by decide +kernel
theorem dX10_at_8 : decode cX10_at 8 = .ok (.ireturn, 1) := by decide +kernel
theorem dX10_clear_0 : decode cX10_clear 0 = .ok (.aload_n 0, 1) := by decide +kernel
theorem dX10_clear_1 : decode cX10_clear 1 = .ok (.iconst 0, 1) := by decide +kernel
theorem dX10_clear_2 : decode cX10_clear 2 = .ok (.putfield 15, 3) := by decide +kernel
theorem dX10_clear_5 : decode cX10_clear 5 = .ok (.return_, 1) := by decide +kernel
theorem dX10_add_0 : decode cX10_add 0 = .ok (.aload_n 0, 1) := by decide +kernel
theorem dX10_add_1 : decode cX10_add 1 = .ok (.getfield 15, 3) := by decide +kernel
theorem dX10_add_4 : decode cX10_add 4 = .ok (.bipush 21, 2) := by decide +kernel
theorem dX10_add_6 : decode cX10_add 6 = .ok (.if_icmp .ge 25, 3) := by decide +kernel
theorem dX10_add_9 : decode cX10_add 9 = .ok (.aload_n 0, 1) := by decide +kernel
theorem dX10_add_10 : decode cX10_add 10 = .ok (.getfield 9, 3) := by decide +kernel
theorem dX10_add_13 : decode cX10_add 13 = .ok (.aload_n 0, 1) := by decide +kernel
theorem dX10_add_14 : decode cX10_add 14 = .ok (.getfield 15, 3) := by decide +kernel
theorem dX10_add_17 : decode cX10_add 17 = .ok (.iload_n 1, 1) := by decide +kernel
theorem dX10_add_18 : decode cX10_add 18 = .ok (.invokestatic 23, 3) := by decide +kernel
theorem dX10_add_21 : decode cX10_add 21 = .ok (.aload_n 0, 1) := by decide +kernel
theorem dX10_add_22 : decode cX10_add 22 = .ok (.dup, 1) := by decide +kernel
theorem dX10_add_23 : decode cX10_add 23 = .ok (.getfield 15, 3) := by decide +kernel
theorem dX10_add_26 : decode cX10_add 26 = .ok (.iconst 1, 1) := by decide +kernel
theorem dX10_add_27 : decode cX10_add 27 = .ok (.iadd, 1) := by decide +kernel
theorem dX10_add_28 : decode cX10_add 28 = .ok (.putfield 15, 3) := by decide +kernel
theorem dX10_add_31 : decode cX10_add 31 = .ok (.return_, 1) := by decide +kernel
theorem dX10_become_0 : decode cX10_become 0 = .ok (.aload_n 0, 1) := by decide +kernel
theorem dX10_become_1 : decode cX10_become 1 = .ok (.invokevirtual 27, 3) := by decide +kernel
theorem dX10_become_4 : decode cX10_become 4 = .ok (.iconst 0, 1) := by decide +kernel
theorem dX10_become_5 : decode cX10_become 5 = .ok (.istore_n 2, 1) := by decide +kernel
theorem dX10_become_6 : decode cX10_become 6 = .ok (.iload_n 2, 1) := by decide +kernel
theorem dX10_become_7 : decode cX10_become 7 = .ok (.aload_n 1, 1) := by decide +kernel
theorem dX10_become_8 : decode cX10_become 8 = .ok (.getfield 15, 3) := by decide +kernel
theorem dX10_become_11 : decode cX10_become 11 = .ok (.if_icmp .ge 18, 3) := by decide +kernel
theorem dX10_become_14 : decode cX10_become 14 = .ok (.aload_n 0, 1) := by decide +kernel
theorem dX10_become_15 : decode cX10_become 15 = .ok (.aload_n 1, 1) := by decide +kernel
theorem dX10_become_16 : decode cX10_become 16 = .ok (.iload_n 2, 1) := by decide +kernel
theorem dX10_become_17 : decode cX10_become 17 = .ok (.invokevirtual 30, 3) := by decide +kernel
theorem dX10_become_20 : decode cX10_become 20 = .ok (.invokevirtual 34, 3) := by decide +kernel
theorem dX10_become_23 : decode cX10_become 23 = .ok (.iinc 2 1, 3) := by decide +kernel
theorem dX10_become_26 : decode cX10_become 26 = .ok (.goto (-20), 3) := by decide +kernel
theorem dX10_become_29 : decode cX10_become 29 = .ok (.return_, 1) := by decide +kernel
theorem dX10_bracketed_0 : decode cX10_bracketed 0 = .ok (.aload_n 0, 1) := by decide +kernel
theorem dX10_bracketed_1 : decode cX10_bracketed 1 = .ok (.invokevirtual 27, 3) := by decide +kernel
theorem dX10_bracketed_4 : decode cX10_bracketed 4 = .ok (.iconst 0, 1) := by decide +kernel
theorem dX10_bracketed_5 : decode cX10_bracketed 5 = .ok (.istore 4, 2) := by decide +kernel
theorem dX10_bracketed_7 : decode cX10_bracketed 7 = .ok (.iload 4, 2) := by decide +kernel
theorem dX10_bracketed_9 : decode cX10_bracketed 9 = .ok (.aload_n 1, 1) := by decide +kernel
theorem dX10_bracketed_10 : decode cX10_bracketed 10 = .ok (.getfield 15, 3) := by decide +kernel
theorem dX10_bracketed_13 : decode cX10_bracketed 13 = .ok (.if_icmp .ge 43, 3) := by decide +kernel
theorem dX10_bracketed_16 : decode cX10_bracketed 16 = .ok (.iload 4, 2) := by decide +kernel
theorem dX10_bracketed_18 : decode cX10_bracketed 18 = .ok (.iload_n 2, 1) := by decide +kernel
theorem dX10_bracketed_19 : decode cX10_bracketed 19 = .ok (.if_icmp .ne 9, 3) := by decide +kernel
theorem dX10_bracketed_22 : decode cX10_bracketed 22 = .ok (.aload_n 0, 1) := by decide +kernel
theorem dX10_bracketed_23 : decode cX10_bracketed 23 = .ok (.bipush 40, 2) := by decide +kernel
theorem dX10_bracketed_25 : decode cX10_bracketed 25 = .ok (.invokevirtual 34, 3) := by decide +kernel
theorem dX10_bracketed_28 : decode cX10_bracketed 28 = .ok (.aload_n 0, 1) := by decide +kernel
theorem dX10_bracketed_29 : decode cX10_bracketed 29 = .ok (.aload_n 1, 1) := by decide +kernel
theorem dX10_bracketed_30 : decode cX10_bracketed 30 = .ok (.iload 4, 2) := by decide +kernel
theorem dX10_bracketed_32 : decode cX10_bracketed 32 = .ok (.invokevirtual 30, 3) := by decide +kernel
theorem dX10_bracketed_35 : decode cX10_bracketed 35 = .ok (.invokevirtual 34, 3) := by decide +kernel
theorem dX10_bracketed_38 : decode cX10_bracketed 38 = .ok (.iload 4, 2) := by decide +kernel
theorem dX10_bracketed_40 : decode cX10_bracketed 40 = .ok (.iload_n 3, 1) := by decide +kernel
theorem dX10_bracketed_41 : decode cX10_bracketed 41 = .ok (.if_icmp .ne 9, 3) := by decide +kernel
theorem dX10_bracketed_44 : decode cX10_bracketed 44 = .ok (.aload_n 0, 1) := by decide +kernel
theorem dX10_bracketed_45 : decode cX10_bracketed 45 = .ok (.bipush 41, 2) := by decide +kernel
theorem dX10_bracketed_47 : decode cX10_bracketed 47 = .ok (.invokevirtual 34, 3) := by decide +kernel
theorem dX10_bracketed_50 : decode cX10_bracketed 50 = .ok (.iinc 4 1, 3) := by decide +kernel
theorem dX10_bracketed_53 : decode cX10_bracketed 53 = .ok (.goto (-46), 3) := by decide +kernel
theorem dX10_bracketed_56 : decode cX10_bracketed 56 = .ok (.return_, 1) := by decide +kernel
theorem dX10_letters_0 : decode cX10_letters 0 = .ok (.iconst 0, 1) := by decide +kernel
theorem dX10_letters_1 : decode cX10_letters 1 = .ok (.istore_n 1, 1) := by decide +kernel
theorem dX10_letters_2 : decode cX10_letters 2 = .ok (.iconst 0, 1) := by decide +kernel
theorem dX10_letters_3 : decode cX10_letters 3 = .ok (.istore_n 2, 1) := by decide +kernel
theorem dX10_letters_4 : decode cX10_letters 4 = .ok (.iload_n 2, 1) := by decide +kernel
theorem dX10_letters_5 : decode cX10_letters 5 = .ok (.aload_n 0, 1) := by decide +kernel
theorem dX10_letters_6 : decode cX10_letters 6 = .ok (.getfield 15, 3) := by decide +kernel
theorem dX10_letters_9 : decode cX10_letters 9 = .ok (.if_icmp .ge 23, 3) := by decide +kernel
theorem dX10_letters_12 : decode cX10_letters 12 = .ok (.aload_n 0, 1) := by decide +kernel
theorem dX10_letters_13 : decode cX10_letters 13 = .ok (.iload_n 2, 1) := by decide +kernel
theorem dX10_letters_14 : decode cX10_letters 14 = .ok (.invokevirtual 30, 3) := by decide +kernel
theorem dX10_letters_17 : decode cX10_letters 17 = .ok (.invokestatic 38, 3) := by decide +kernel
theorem dX10_letters_20 : decode cX10_letters 20 = .ok (.ifCond .ne 6, 3) := by decide +kernel
theorem dX10_letters_23 : decode cX10_letters 23 = .ok (.iinc 1 1, 3) := by decide +kernel
theorem dX10_letters_26 : decode cX10_letters 26 = .ok (.iinc 2 1, 3) := by decide +kernel
theorem dX10_letters_29 : decode cX10_letters 29 = .ok (.goto (-25), 3) := by decide +kernel
theorem dX10_letters_32 : decode cX10_letters 32 = .ok (.iload_n 1, 1) := by decide +kernel
theorem dX10_letters_33 : decode cX10_letters 33 = .ok (.ireturn, 1) := by decide +kernel
theorem dX10_mostOpen_0 : decode cX10_mostOpen 0 = .ok (.iconst 0, 1) := by decide +kernel
theorem dX10_mostOpen_1 : decode cX10_mostOpen 1 = .ok (.istore_n 1, 1) := by decide +kernel
theorem dX10_mostOpen_2 : decode cX10_mostOpen 2 = .ok (.iconst 0, 1) := by decide +kernel
theorem dX10_mostOpen_3 : decode cX10_mostOpen 3 = .ok (.istore_n 2, 1) := by decide +kernel
theorem dX10_mostOpen_4 : decode cX10_mostOpen 4 = .ok (.iconst 0, 1) := by decide +kernel
theorem dX10_mostOpen_5 : decode cX10_mostOpen 5 = .ok (.istore_n 3, 1) := by decide +kernel
theorem dX10_mostOpen_6 : decode cX10_mostOpen 6 = .ok (.iload_n 3, 1) := by decide +kernel
theorem dX10_mostOpen_7 : decode cX10_mostOpen 7 = .ok (.aload_n 0, 1) := by decide +kernel
theorem dX10_mostOpen_8 : decode cX10_mostOpen 8 = .ok (.getfield 15, 3) := by decide +kernel
theorem dX10_mostOpen_11 : decode cX10_mostOpen 11 = .ok (.if_icmp .ge 44, 3) := by decide +kernel
theorem dX10_mostOpen_14 : decode cX10_mostOpen 14 = .ok (.aload_n 0, 1) := by decide +kernel
theorem dX10_mostOpen_15 : decode cX10_mostOpen 15 = .ok (.iload_n 3, 1) := by decide +kernel
theorem dX10_mostOpen_16 : decode cX10_mostOpen 16 = .ok (.invokevirtual 30, 3) := by decide +kernel
theorem dX10_mostOpen_19 : decode cX10_mostOpen 19 = .ok (.bipush 40, 2) := by decide +kernel
theorem dX10_mostOpen_21 : decode cX10_mostOpen 21 = .ok (.if_icmp .ne 9, 3) := by decide +kernel
theorem dX10_mostOpen_24 : decode cX10_mostOpen 24 = .ok (.iinc 1 1, 3) := by decide +kernel
theorem dX10_mostOpen_27 : decode cX10_mostOpen 27 = .ok (.goto 16, 3) := by decide +kernel
theorem dX10_mostOpen_30 : decode cX10_mostOpen 30 = .ok (.aload_n 0, 1) := by decide +kernel
theorem dX10_mostOpen_31 : decode cX10_mostOpen 31 = .ok (.iload_n 3, 1) := by decide +kernel
theorem dX10_mostOpen_32 : decode cX10_mostOpen 32 = .ok (.invokevirtual 30, 3) := by decide +kernel
theorem dX10_mostOpen_35 : decode cX10_mostOpen 35 = .ok (.bipush 41, 2) := by decide +kernel
theorem dX10_mostOpen_37 : decode cX10_mostOpen 37 = .ok (.if_icmp .ne 6, 3) := by decide +kernel
theorem dX10_mostOpen_40 : decode cX10_mostOpen 40 = .ok (.iinc 1 (-1), 3) := by decide +kernel
theorem dX10_mostOpen_43 : decode cX10_mostOpen 43 = .ok (.iload_n 2, 1) := by decide +kernel
theorem dX10_mostOpen_44 : decode cX10_mostOpen 44 = .ok (.iload_n 1, 1) := by decide +kernel
theorem dX10_mostOpen_45 : decode cX10_mostOpen 45 = .ok (.invokestatic 41, 3) := by decide +kernel
theorem dX10_mostOpen_48 : decode cX10_mostOpen 48 = .ok (.istore_n 2, 1) := by decide +kernel
theorem dX10_mostOpen_49 : decode cX10_mostOpen 49 = .ok (.iinc 3 1, 3) := by decide +kernel
theorem dX10_mostOpen_52 : decode cX10_mostOpen 52 = .ok (.goto (-46), 3) := by decide +kernel
theorem dX10_mostOpen_55 : decode cX10_mostOpen 55 = .ok (.iload_n 2, 1) := by decide +kernel
theorem dX10_mostOpen_56 : decode cX10_mostOpen 56 = .ok (.ireturn, 1) := by decide +kernel
theorem dX10_closeAfter_0 : decode cX10_closeAfter 0 = .ok (.iconst 0, 1) := by decide +kernel
theorem dX10_closeAfter_1 : decode cX10_closeAfter 1 = .ok (.istore_n 2, 1) := by decide +kernel
theorem dX10_closeAfter_2 : decode cX10_closeAfter 2 = .ok (.iload_n 1, 1) := by decide +kernel
theorem dX10_closeAfter_3 : decode cX10_closeAfter 3 = .ok (.istore_n 3, 1) := by decide +kernel
theorem dX10_closeAfter_4 : decode cX10_closeAfter 4 = .ok (.iload_n 3, 1) := by decide +kernel
theorem dX10_closeAfter_5 : decode cX10_closeAfter 5 = .ok (.aload_n 0, 1) := by decide +kernel
theorem dX10_closeAfter_6 : decode cX10_closeAfter 6 = .ok (.getfield 15, 3) := by decide +kernel
theorem dX10_closeAfter_9 : decode cX10_closeAfter 9 = .ok (.if_icmp .ge 48, 3) := by decide +kernel
theorem dX10_closeAfter_12 : decode cX10_closeAfter 12 = .ok (.aload_n 0, 1) := by decide +kernel
theorem dX10_closeAfter_13 : decode cX10_closeAfter 13 = .ok (.getfield 9, 3) := by decide +kernel
theorem dX10_closeAfter_16 : decode cX10_closeAfter 16 = .ok (.iload_n 3, 1) := by decide +kernel
theorem dX10_closeAfter_17 : decode cX10_closeAfter 17 = .ok (.invokestatic 19, 3) := by decide +kernel
theorem dX10_closeAfter_20 : decode cX10_closeAfter 20 = .ok (.istore 4, 2) := by decide +kernel
theorem dX10_closeAfter_22 : decode cX10_closeAfter 22 = .ok (.iload 4, 2) := by decide +kernel
theorem dX10_closeAfter_24 : decode cX10_closeAfter 24 = .ok (.bipush 40, 2) := by decide +kernel
theorem dX10_closeAfter_26 : decode cX10_closeAfter 26 = .ok (.if_icmp .ne 9, 3) := by decide +kernel
theorem dX10_closeAfter_29 : decode cX10_closeAfter 29 = .ok (.iinc 2 1, 3) := by decide +kernel
theorem dX10_closeAfter_32 : decode cX10_closeAfter 32 = .ok (.goto 13, 3) := by decide +kernel
theorem dX10_closeAfter_35 : decode cX10_closeAfter 35 = .ok (.iload 4, 2) := by decide +kernel
theorem dX10_closeAfter_37 : decode cX10_closeAfter 37 = .ok (.bipush 41, 2) := by decide +kernel
theorem dX10_closeAfter_39 : decode cX10_closeAfter 39 = .ok (.if_icmp .ne 6, 3) := by decide +kernel
theorem dX10_closeAfter_42 : decode cX10_closeAfter 42 = .ok (.iinc 2 (-1), 3) := by decide +kernel
theorem dX10_closeAfter_45 : decode cX10_closeAfter 45 = .ok (.iload_n 2, 1) := by decide +kernel
theorem dX10_closeAfter_46 : decode cX10_closeAfter 46 = .ok (.ifCond .ge 5, 3) := by decide +kernel
theorem dX10_closeAfter_49 : decode cX10_closeAfter 49 = .ok (.iload_n 3, 1) := by decide +kernel
theorem dX10_closeAfter_50 : decode cX10_closeAfter 50 = .ok (.ireturn, 1) := by decide +kernel
theorem dX10_closeAfter_51 : decode cX10_closeAfter 51 = .ok (.iinc 3 1, 3) := by decide +kernel
theorem dX10_closeAfter_54 : decode cX10_closeAfter 54 = .ok (.goto (-50), 3) := by decide +kernel
theorem dX10_closeAfter_57 : decode cX10_closeAfter 57 = .ok (.aload_n 0, 1) := by decide +kernel
theorem dX10_closeAfter_58 : decode cX10_closeAfter 58 = .ok (.getfield 15, 3) := by decide +kernel
theorem dX10_closeAfter_61 : decode cX10_closeAfter 61 = .ok (.ireturn, 1) := by decide +kernel
theorem dX10_fault_0 : decode cX10_fault 0 = .ok (.iconst 1, 1) := by decide +kernel
theorem dX10_fault_1 : decode cX10_fault 1 = .ok (.istore_n 1, 1) := by decide +kernel
theorem dX10_fault_2 : decode cX10_fault 2 = .ok (.iconst 0, 1) := by decide +kernel
theorem dX10_fault_3 : decode cX10_fault 3 = .ok (.istore_n 2, 1) := by decide +kernel
theorem dX10_fault_4 : decode cX10_fault 4 = .ok (.iconst 0, 1) := by decide +kernel
theorem dX10_fault_5 : decode cX10_fault 5 = .ok (.istore_n 3, 1) := by decide +kernel
theorem dX10_fault_6 : decode cX10_fault 6 = .ok (.iload_n 3, 1) := by decide +kernel
theorem dX10_fault_7 : decode cX10_fault 7 = .ok (.aload_n 0, 1) := by decide +kernel
theorem dX10_fault_8 : decode cX10_fault 8 = .ok (.getfield 15, 3) := by decide +kernel
theorem dX10_fault_11 : decode cX10_fault 11 = .ok (.if_icmp .ge 109, 3) := by decide +kernel
theorem dX10_fault_14 : decode cX10_fault 14 = .ok (.aload_n 0, 1) := by decide +kernel
theorem dX10_fault_15 : decode cX10_fault 15 = .ok (.iload_n 3, 1) := by decide +kernel
theorem dX10_fault_16 : decode cX10_fault 16 = .ok (.invokevirtual 30, 3) := by decide +kernel
theorem dX10_fault_19 : decode cX10_fault 19 = .ok (.istore 4, 2) := by decide +kernel
theorem dX10_fault_21 : decode cX10_fault 21 = .ok (.iload_n 1, 1) := by decide +kernel
theorem dX10_fault_22 : decode cX10_fault 22 = .ok (.ifCond .eq 21, 3) := by decide +kernel
theorem dX10_fault_25 : decode cX10_fault 25 = .ok (.iload 4, 2) := by decide +kernel
theorem dX10_fault_27 : decode cX10_fault 27 = .ok (.bipush 40, 2) := by decide +kernel
theorem dX10_fault_29 : decode cX10_fault 29 = .ok (.if_icmp .ne 14, 3) := by decide +kernel
theorem dX10_fault_32 : decode cX10_fault 32 = .ok (.iload_n 2, 1) := by decide +kernel
theorem dX10_fault_33 : decode cX10_fault 33 = .ok (.iconst 4, 1) := by decide +kernel
theorem dX10_fault_34 : decode cX10_fault 34 = .ok (.if_icmp .ge 9, 3) := by decide +kernel
theorem dX10_fault_37 : decode cX10_fault 37 = .ok (.iinc 2 1, 3) := by decide +kernel
theorem dX10_fault_40 : decode cX10_fault 40 = .ok (.goto 74, 3) := by decide +kernel
theorem dX10_fault_43 : decode cX10_fault 43 = .ok (.iload_n 1, 1) := by decide +kernel
theorem dX10_fault_44 : decode cX10_fault 44 = .ok (.ifCond .eq 16, 3) := by decide +kernel
theorem dX10_fault_47 : decode cX10_fault 47 = .ok (.iload 4, 2) := by decide +kernel
theorem dX10_fault_49 : decode cX10_fault 49 = .ok (.invokestatic 38, 3) := by decide +kernel
theorem dX10_fault_52 : decode cX10_fault 52 = .ok (.ifCond .ne 8, 3) := by decide +kernel
theorem dX10_fault_55 : decode cX10_fault 55 = .ok (.iconst 0, 1) := by decide +kernel
theorem dX10_fault_56 : decode cX10_fault 56 = .ok (.istore_n 1, 1) := by decide +kernel
theorem dX10_fault_57 : decode cX10_fault 57 = .ok (.goto 57, 3) := by decide +kernel
theorem dX10_fault_60 : decode cX10_fault 60 = .ok (.iload_n 1, 1) := by decide +kernel
theorem dX10_fault_61 : decode cX10_fault 61 = .ok (.ifCond .ne 20, 3) := by decide +kernel
theorem dX10_fault_64 : decode cX10_fault 64 = .ok (.iload 4, 2) := by decide +kernel
theorem dX10_fault_66 : decode cX10_fault 66 = .ok (.bipush 41, 2) := by decide +kernel
theorem dX10_fault_68 : decode cX10_fault 68 = .ok (.if_icmp .ne 13, 3) := by decide +kernel
theorem dX10_fault_71 : decode cX10_fault 71 = .ok (.iload_n 2, 1) := by decide +kernel
theorem dX10_fault_72 : decode cX10_fault 72 = .ok (.ifCond .le 9, 3) := by decide +kernel
theorem dX10_fault_75 : decode cX10_fault 75 = .ok (.iinc 2 (-1), 3) := by decide +kernel
theorem dX10_fault_78 : decode cX10_fault 78 = .ok (.goto 36, 3) := by decide +kernel
theorem dX10_fault_81 : decode cX10_fault 81 = .ok (.iload_n 1, 1) := by decide +kernel
theorem dX10_fault_82 : decode cX10_fault 82 = .ok (.ifCond .ne 19, 3) := by decide +kernel
theorem dX10_fault_85 : decode cX10_fault 85 = .ok (.iload 4, 2) := by decide +kernel
theorem dX10_fault_87 : decode cX10_fault 87 = .ok (.invokestatic 38, 3) := by decide +kernel
theorem dX10_fault_90 : decode cX10_fault 90 = .ok (.invokestatic 47, 3) := by decide +kernel
theorem dX10_fault_93 : decode cX10_fault 93 = .ok (.ifCond .eq 8, 3) := by decide +kernel
theorem dX10_fault_96 : decode cX10_fault 96 = .ok (.iconst 1, 1) := by decide +kernel
theorem dX10_fault_97 : decode cX10_fault 97 = .ok (.istore_n 1, 1) := by decide +kernel
theorem dX10_fault_98 : decode cX10_fault 98 = .ok (.goto 16, 3) := by decide +kernel
theorem dX10_fault_101 : decode cX10_fault 101 = .ok (.iload_n 1, 1) := by decide +kernel
theorem dX10_fault_102 : decode cX10_fault 102 = .ok (.ifCond .eq 10, 3) := by decide +kernel
theorem dX10_fault_105 : decode cX10_fault 105 = .ok (.iload 4, 2) := by decide +kernel
theorem dX10_fault_107 : decode cX10_fault 107 = .ok (.bipush 33, 2) := by decide +kernel
theorem dX10_fault_109 : decode cX10_fault 109 = .ok (.if_icmp .eq 5, 3) := by decide +kernel
theorem dX10_fault_112 : decode cX10_fault 112 = .ok (.iload_n 3, 1) := by decide +kernel
theorem dX10_fault_113 : decode cX10_fault 113 = .ok (.ireturn, 1) := by decide +kernel
theorem dX10_fault_114 : decode cX10_fault 114 = .ok (.iinc 3 1, 3) := by decide +kernel
theorem dX10_fault_117 : decode cX10_fault 117 = .ok (.goto (-111), 3) := by decide +kernel
theorem dX10_fault_120 : decode cX10_fault 120 = .ok (.iload_n 1, 1) := by decide +kernel
theorem dX10_fault_121 : decode cX10_fault 121 = .ok (.ifCond .ne 7, 3) := by decide +kernel
theorem dX10_fault_124 : decode cX10_fault 124 = .ok (.iload_n 2, 1) := by decide +kernel
theorem dX10_fault_125 : decode cX10_fault 125 = .ok (.ifCond .le 10, 3) := by decide +kernel
theorem dX10_fault_128 : decode cX10_fault 128 = .ok (.aload_n 0, 1) := by decide +kernel
theorem dX10_fault_129 : decode cX10_fault 129 = .ok (.getfield 15, 3) := by decide +kernel
theorem dX10_fault_132 : decode cX10_fault 132 = .ok (.goto 4, 3) := by decide +kernel
theorem dX10_fault_135 : decode cX10_fault 135 = .ok (.iconst (-1), 1) := by decide +kernel
theorem dX10_fault_136 : decode cX10_fault 136 = .ok (.ireturn, 1) := by decide +kernel
theorem dX11_init_0 : decode cX11_init 0 = .ok (.aload_n 0, 1) := by decide +kernel
theorem dX11_init_1 : decode cX11_init 1 = .ok (.invokespecial 1, 3) := by decide +kernel
theorem dX11_init_4 : decode cX11_init 4 = .ok (.aload_n 0, 1) := by decide +kernel
theorem dX11_init_5 : decode cX11_init 5 = .ok (.new 7, 3) := by decide +kernel
theorem dX11_init_8 : decode cX11_init 8 = .ok (.dup, 1) := by decide +kernel
theorem dX11_init_9 : decode cX11_init 9 = .ok (.invokespecial 9, 3) := by decide +kernel
theorem dX11_init_12 : decode cX11_init 12 = .ok (.putfield 10, 3) := by decide +kernel
