theorem dX12_findWays_4 : decode cX12_findWays 4 = .ok (.getfield 85, 3) := by decide +kernel
theorem dX12_findWays_7 : decode cX12_findWays 7 = .ok (.if_icmp .gt 106, 3) := by decide +kernel
theorem dX12_findWays_10 : decode cX12_findWays 10 = .ok (.iconst 0, 1) := by decide +kernel
theorem dX12_findWays_11 : decode cX12_findWays 11 = .ok (.istore_n 2, 1) := by decide +kernel
theorem dX12_findWays_12 : decode cX12_findWays 12 = .ok (.iload_n 2, 1) := by decide +kernel
theorem dX12_findWays_13 : decode cX12_findWays 13 = .ok (.iload_n 1, 1) := by decide +kernel
theorem dX12_findWays_14 : decode cX12_findWays 14 = .ok (.iadd, 1) := by decide +kernel
theorem dX12_findWays_15 : decode cX12_findWays 15 = .ok (.aload_n 0, 1) := by decide +kernel
theorem dX12_findWays_16 : decode cX12_findWays 16 = .ok (.getfield 85, 3) := by decide +kernel
theorem dX12_findWays_19 : decode cX12_findWays 19 = .ok (.if_icmp .gt 88, 3) := by decide +kernel
theorem dX12_findWays_22 : decode cX12_findWays 22 = .ok (.iload_n 2, 1) := by decide +kernel
theorem dX12_findWays_23 : decode cX12_findWays 23 = .ok (.iload_n 1, 1) := by decide +kernel
theorem dX12_findWays_24 : decode cX12_findWays 24 = .ok (.iadd, 1) := by decide +kernel
theorem dX12_findWays_25 : decode cX12_findWays 25 = .ok (.istore_n 3, 1) := by decide +kernel
theorem dX12_findWays_26 : decode cX12_findWays 26 = .ok (.aload_n 0, 1) := by decide +kernel
theorem dX12_findWays_27 : decode cX12_findWays 27 = .ok (.iload_n 2, 1) := by decide +kernel
theorem dX12_findWays_28 : decode cX12_findWays 28 = .ok (.iload_n 3, 1) := by decide +kernel
theorem dX12_findWays_29 : decode cX12_findWays 29 = .ok (.invokevirtual 122, 3) := by decide +kernel
theorem dX12_findWays_32 : decode cX12_findWays 32 = .ok (.lstore 4, 2) := by decide +kernel
theorem dX12_findWays_34 : decode cX12_findWays 34 = .ok (.iload_n 2, 1) := by decide +kernel
theorem dX12_findWays_35 : decode cX12_findWays 35 = .ok (.iconst 1, 1) := by decide +kernel
theorem dX12_findWays_36 : decode cX12_findWays 36 = .ok (.iadd, 1) := by decide +kernel
theorem dX12_findWays_37 : decode cX12_findWays 37 = .ok (.istore 6, 2) := by decide +kernel
theorem dX12_findWays_39 : decode cX12_findWays 39 = .ok (.iload 6, 2) := by decide +kernel
theorem dX12_findWays_41 : decode cX12_findWays 41 = .ok (.iload_n 3, 1) := by decide +kernel
theorem dX12_findWays_42 : decode cX12_findWays 42 = .ok (.iconst 1, 1) := by decide +kernel
theorem dX12_findWays_43 : decode cX12_findWays 43 = .ok (.isub, 1) := by decide +kernel
theorem dX12_findWays_44 : decode cX12_findWays 44 = .ok (.if_icmp .ge 44, 3) := by decide +kernel
theorem dX12_findWays_47 : decode cX12_findWays 47 = .ok (.aload_n 0, 1) := by decide +kernel
theorem dX12_findWays_48 : decode cX12_findWays 48 = .ok (.getfield 13, 3) := by decide +kernel
theorem dX12_findWays_51 : decode cX12_findWays 51 = .ok (.iload 6, 2) := by decide +kernel
theorem dX12_findWays_53 : decode cX12_findWays 53 = .ok (.iaload, 1) := by decide +kernel
theorem dX12_findWays_54 : decode cX12_findWays 54 = .ok (.invokestatic 100, 3) := by decide +kernel
theorem dX12_findWays_57 : decode cX12_findWays 57 = .ok (.ifCond .le 25, 3) := by decide +kernel
theorem dX12_findWays_60 : decode cX12_findWays 60 = .ok (.lload 4, 2) := by decide +kernel
theorem dX12_findWays_62 : decode cX12_findWays 62 = .ok (.aload_n 0, 1) := by decide +kernel
theorem dX12_findWays_63 : decode cX12_findWays 63 = .ok (.iload_n 2, 1) := by decide +kernel
theorem dX12_findWays_64 : decode cX12_findWays 64 = .ok (.iload 6, 2) := by decide +kernel
theorem dX12_findWays_66 : decode cX12_findWays 66 = .ok (.invokevirtual 115, 3) := by decide +kernel
theorem dX12_findWays_69 : decode cX12_findWays 69 = .ok (.aload_n 0, 1) := by decide +kernel
theorem dX12_findWays_70 : decode cX12_findWays 70 = .ok (.iload 6, 2) := by decide +kernel
theorem dX12_findWays_72 : decode cX12_findWays 72 = .ok (.iconst 1, 1) := by decide +kernel
theorem dX12_findWays_73 : decode cX12_findWays 73 = .ok (.iadd, 1) := by decide +kernel
theorem dX12_findWays_74 : decode cX12_findWays 74 = .ok (.iload_n 3, 1) := by decide +kernel
theorem dX12_findWays_75 : decode cX12_findWays 75 = .ok (.invokevirtual 115, 3) := by decide +kernel
theorem dX12_findWays_78 : decode cX12_findWays 78 = .ok (.lmul, 1) := by decide +kernel
theorem dX12_findWays_79 : decode cX12_findWays 79 = .ok (.ladd, 1) := by decide +kernel
theorem dX12_findWays_80 : decode cX12_findWays 80 = .ok (.lstore 4, 2) := by decide +kernel
theorem dX12_findWays_82 : decode cX12_findWays 82 = .ok (.iinc 6 1, 3) := by decide +kernel
theorem dX12_findWays_85 : decode cX12_findWays 85 = .ok (.goto (-46), 3) := by decide +kernel
theorem dX12_findWays_88 : decode cX12_findWays 88 = .ok (.aload_n 0, 1) := by decide +kernel
theorem dX12_findWays_89 : decode cX12_findWays 89 = .ok (.getfield 40, 3) := by decide +kernel
theorem dX12_findWays_92 : decode cX12_findWays 92 = .ok (.bipush 22, 2) := by decide +kernel
theorem dX12_findWays_94 : decode cX12_findWays 94 = .ok (.iload_n 2, 1) := by decide +kernel
theorem dX12_findWays_95 : decode cX12_findWays 95 = .ok (.imul, 1) := by decide +kernel
theorem dX12_findWays_96 : decode cX12_findWays 96 = .ok (.iload_n 3, 1) := by decide +kernel
theorem dX12_findWays_97 : decode cX12_findWays 97 = .ok (.iadd, 1) := by decide +kernel
theorem dX12_findWays_98 : decode cX12_findWays 98 = .ok (.lload 4, 2) := by decide +kernel
theorem dX12_findWays_100 : decode cX12_findWays 100 = .ok (.lastore, 1) := by decide +kernel
theorem dX12_findWays_101 : decode cX12_findWays 101 = .ok (.iinc 2 1, 3) := by decide +kernel
theorem dX12_findWays_104 : decode cX12_findWays 104 = .ok (.goto (-92), 3) := by decide +kernel
theorem dX12_findWays_107 : decode cX12_findWays 107 = .ok (.iinc 1 1, 3) := by decide +kernel
theorem dX12_findWays_110 : decode cX12_findWays 110 = .ok (.goto (-108), 3) := by decide +kernel
theorem dX12_findWays_113 : decode cX12_findWays 113 = .ok (.return_, 1) := by decide +kernel
theorem dX12_readings_0 : decode cX12_readings 0 = .ok (.aload_n 0, 1) := by decide +kernel
theorem dX12_readings_1 : decode cX12_readings 1 = .ok (.iconst 0, 1) := by decide +kernel
theorem dX12_readings_2 : decode cX12_readings 2 = .ok (.aload_n 0, 1) := by decide +kernel
theorem dX12_readings_3 : decode cX12_readings 3 = .ok (.getfield 85, 3) := by decide +kernel
theorem dX12_readings_6 : decode cX12_readings 6 = .ok (.invokevirtual 115, 3) := by decide +kernel
theorem dX12_readings_9 : decode cX12_readings 9 = .ok (.lreturn, 1) := by decide +kernel
theorem dX12_mask_0 : decode cX12_mask 0 = .ok (.lconst 0, 1) := by decide +kernel
theorem dX12_mask_1 : decode cX12_mask 1 = .ok (.lstore_n 1, 1) := by decide +kernel
theorem dX12_mask_2 : decode cX12_mask 2 = .ok (.iconst 0, 1) := by decide +kernel
theorem dX12_mask_3 : decode cX12_mask 3 = .ok (.istore_n 3, 1) := by decide +kernel
theorem dX12_mask_4 : decode cX12_mask 4 = .ok (.iload_n 3, 1) := by decide +kernel
theorem dX12_mask_5 : decode cX12_mask 5 = .ok (.bipush 32, 2) := by decide +kernel
theorem dX12_mask_7 : decode cX12_mask 7 = .ok (.if_icmp .ge 28, 3) := by decide +kernel
theorem dX12_mask_10 : decode cX12_mask 10 = .ok (.lload_n 1, 1) := by decide +kernel
theorem dX12_mask_11 : decode cX12_mask 11 = .ok (.iload_n 3, 1) := by decide +kernel
theorem dX12_mask_12 : decode cX12_mask 12 = .ok (.iload_n 0, 1) := by decide +kernel
theorem dX12_mask_13 : decode cX12_mask 13 = .ok (.ishr, 1) := by decide +kernel
theorem dX12_mask_14 : decode cX12_mask 14 = .ok (.iconst 1, 1) := by decide +kernel
theorem dX12_mask_15 : decode cX12_mask 15 = .ok (.iand, 1) := by decide +kernel
theorem dX12_mask_16 : decode cX12_mask 16 = .ok (.iconst 1, 1) := by decide +kernel
theorem dX12_mask_17 : decode cX12_mask 17 = .ok (.if_icmp .ne 9, 3) := by decide +kernel
theorem dX12_mask_20 : decode cX12_mask 20 = .ok (.lconst 1, 1) := by decide +kernel
theorem dX12_mask_21 : decode cX12_mask 21 = .ok (.iload_n 3, 1) := by decide +kernel
theorem dX12_mask_22 : decode cX12_mask 22 = .ok (.lshl, 1) := by decide +kernel
theorem dX12_mask_23 : decode cX12_mask 23 = .ok (.goto 4, 3) := by decide +kernel
theorem dX12_mask_26 : decode cX12_mask 26 = .ok (.lconst 0, 1) := by decide +kernel
theorem dX12_mask_27 : decode cX12_mask 27 = .ok (.lor, 1) := by decide +kernel
theorem dX12_mask_28 : decode cX12_mask 28 = .ok (.lstore_n 1, 1) := by decide +kernel
theorem dX12_mask_29 : decode cX12_mask 29 = .ok (.iinc 3 1, 3) := by decide +kernel
theorem dX12_mask_32 : decode cX12_mask 32 = .ok (.goto (-28), 3) := by decide +kernel
theorem dX12_mask_35 : decode cX12_mask 35 = .ok (.lload_n 1, 1) := by decide +kernel
theorem dX12_mask_36 : decode cX12_mask 36 = .ok (.lreturn, 1) := by decide +kernel
theorem dX12_notes_0 : decode cX12_notes 0 = .ok (.aload_n 0, 1) := by decide +kernel
theorem dX12_notes_1 : decode cX12_notes 1 = .ok (.getfield 125, 3) := by decide +kernel
theorem dX12_notes_4 : decode cX12_notes 4 = .ok (.ifCond .ne 4, 3) := by decide +kernel
theorem dX12_notes_7 : decode cX12_notes 7 = .ok (.return_, 1) := by decide +kernel
theorem dX12_notes_8 : decode cX12_notes 8 = .ok (.bipush 21, 2) := by decide +kernel
theorem dX12_notes_10 : decode cX12_notes 10 = .ok (.aload_n 0, 1) := by decide +kernel
theorem dX12_notes_11 : decode cX12_notes 11 = .ok (.getfield 129, 3) := by decide +kernel
theorem dX12_notes_14 : decode cX12_notes 14 = .ok (.imul, 1) := by decide +kernel
theorem dX12_notes_15 : decode cX12_notes 15 = .ok (.aload_n 0, 1) := by decide +kernel
theorem dX12_notes_16 : decode cX12_notes 16 = .ok (.getfield 53, 3) := by decide +kernel
theorem dX12_notes_19 : decode cX12_notes 19 = .ok (.aload_n 0, 1) := by decide +kernel
theorem dX12_notes_20 : decode cX12_notes 20 = .ok (.getfield 129, 3) := by decide +kernel
theorem dX12_notes_23 : decode cX12_notes 23 = .ok (.iaload, 1) := by decide +kernel
theorem dX12_notes_24 : decode cX12_notes 24 = .ok (.iadd, 1) := by decide +kernel
theorem dX12_notes_25 : decode cX12_notes 25 = .ok (.istore 4, 2) := by decide +kernel
theorem dX12_notes_27 : decode cX12_notes 27 = .ok (.aload_n 0, 1) := by decide +kernel
theorem dX12_notes_28 : decode cX12_notes 28 = .ok (.getfield 44, 3) := by decide +kernel
theorem dX12_notes_31 : decode cX12_notes 31 = .ok (.iload 4, 2) := by decide +kernel
theorem dX12_notes_33 : decode cX12_notes 33 = .ok (.iload_n 1, 1) := by decide +kernel
theorem dX12_notes_34 : decode cX12_notes 34 = .ok (.iastore, 1) := by decide +kernel
theorem dX12_notes_35 : decode cX12_notes 35 = .ok (.aload_n 0, 1) := by decide +kernel
theorem dX12_notes_36 : decode cX12_notes 36 = .ok (.getfield 47, 3) := by decide +kernel
theorem dX12_notes_39 : decode cX12_notes 39 = .ok (.iload 4, 2) := by decide +kernel
theorem dX12_notes_41 : decode cX12_notes 41 = .ok (.iload_n 2, 1) := by decide +kernel
theorem dX12_notes_42 : decode cX12_notes 42 = .ok (.iastore, 1) := by decide +kernel
theorem dX12_notes_43 : decode cX12_notes 43 = .ok (.aload_n 0, 1) := by decide +kernel
theorem dX12_notes_44 : decode cX12_notes 44 = .ok (.getfield 50, 3) := by decide +kernel
theorem dX12_notes_47 : decode cX12_notes 47 = .ok (.iload 4, 2) := by decide +kernel
theorem dX12_notes_49 : decode cX12_notes 49 = .ok (.iload_n 3, 1) := by decide +kernel
theorem dX12_notes_50 : decode cX12_notes 50 = .ok (.iload_n 2, 1) := by decide +kernel
theorem dX12_notes_51 : decode cX12_notes 51 = .ok (.isub, 1) := by decide +kernel
theorem dX12_notes_52 : decode cX12_notes 52 = .ok (.iastore, 1) := by decide +kernel
theorem dX12_notes_53 : decode cX12_notes 53 = .ok (.aload_n 0, 1) := by decide +kernel
theorem dX12_notes_54 : decode cX12_notes 54 = .ok (.getfield 53, 3) := by decide +kernel
theorem dX12_notes_57 : decode cX12_notes 57 = .ok (.aload_n 0, 1) := by decide +kernel
theorem dX12_notes_58 : decode cX12_notes 58 = .ok (.getfield 129, 3) := by decide +kernel
theorem dX12_notes_61 : decode cX12_notes 61 = .ok (.dup2, 1) := by decide +kernel
theorem dX12_notes_62 : decode cX12_notes 62 = .ok (.iaload, 1) := by decide +kernel
theorem dX12_notes_63 : decode cX12_notes 63 = .ok (.iconst 1, 1) := by decide +kernel
theorem dX12_notes_64 : decode cX12_notes 64 = .ok (.iadd, 1) := by decide +kernel
theorem dX12_notes_65 : decode cX12_notes 65 = .ok (.iastore, 1) := by decide +kernel
theorem dX12_notes_66 : decode cX12_notes 66 = .ok (.return_, 1) := by decide +kernel
theorem dX12_breaks_0 : decode cX12_breaks 0 = .ok (.aload_n 0, 1) := by decide +kernel
theorem dX12_breaks_1 : decode cX12_breaks 1 = .ok (.dup, 1) := by decide +kernel
theorem dX12_breaks_2 : decode cX12_breaks 2 = .ok (.getfield 132, 3) := by decide +kernel
theorem dX12_breaks_5 : decode cX12_breaks 5 = .ok (.iload_n 1, 1) := by decide +kernel
theorem dX12_breaks_6 : decode cX12_breaks 6 = .ok (.ifCond .eq 9, 3) := by decide +kernel
theorem dX12_breaks_9 : decode cX12_breaks 9 = .ok (.iconst 1, 1) := by decide +kernel
theorem dX12_breaks_10 : decode cX12_breaks 10 = .ok (.iload_n 2, 1) := by decide +kernel
theorem dX12_breaks_11 : decode cX12_breaks 11 = .ok (.ishl, 1) := by decide +kernel
theorem dX12_breaks_12 : decode cX12_breaks 12 = .ok (.goto 4, 3) := by decide +kernel
theorem dX12_breaks_15 : decode cX12_breaks 15 = .ok (.iconst 0, 1) := by decide +kernel
theorem dX12_breaks_16 : decode cX12_breaks 16 = .ok (.ior, 1) := by decide +kernel
theorem dX12_breaks_17 : decode cX12_breaks 17 = .ok (.putfield 132, 3) := by decide +kernel
theorem dX12_breaks_20 : decode cX12_breaks 20 = .ok (.return_, 1) := by decide +kernel
theorem dX12_meansRun_0 : decode cX12_meansRun 0 = .ok (.aload_n 0, 1) := by decide +kernel
theorem dX12_meansRun_1 : decode cX12_meansRun 1 = .ok (.iload_n 1, 1) := by decide +kernel
theorem dX12_meansRun_2 : decode cX12_meansRun 2 = .ok (.iload_n 2, 1) := by decide +kernel
theorem dX12_meansRun_3 : decode cX12_meansRun 3 = .ok (.invokevirtual 122, 3) := by decide +kernel
theorem dX12_meansRun_6 : decode cX12_meansRun 6 = .ok (.lstore 9, 2) := by decide +kernel
theorem dX12_meansRun_8 : decode cX12_meansRun 8 = .ok (.lload_n 3, 1) := by decide +kernel
theorem dX12_meansRun_9 : decode cX12_meansRun 9 = .ok (.lload 9, 2) := by decide +kernel
theorem dX12_meansRun_11 : decode cX12_meansRun 11 = .ok (.lcmp, 1) := by decide +kernel
theorem dX12_meansRun_12 : decode cX12_meansRun 12 = .ok (.ifCond .ge 141, 3) := by decide +kernel
theorem dX12_meansRun_15 : decode cX12_meansRun 15 = .ok (.iload_n 2, 1) := by decide +kernel
theorem dX12_meansRun_16 : decode cX12_meansRun 16 = .ok (.iload_n 1, 1) := by decide +kernel
theorem dX12_meansRun_17 : decode cX12_meansRun 17 = .ok (.isub, 1) := by decide +kernel
theorem dX12_meansRun_18 : decode cX12_meansRun 18 = .ok (.iconst 1, 1) := by decide +kernel
theorem dX12_meansRun_19 : decode cX12_meansRun 19 = .ok (.if_icmp .ne 50, 3) := by decide +kernel
theorem dX12_meansRun_22 : decode cX12_meansRun 22 = .ok (.aload_n 0, 1) := by decide +kernel
theorem dX12_meansRun_23 : decode cX12_meansRun 23 = .ok (.iconst 0, 1) := by decide +kernel
theorem dX12_meansRun_24 : decode cX12_meansRun 24 = .ok (.iload_n 1, 1) := by decide +kernel
theorem dX12_meansRun_25 : decode cX12_meansRun 25 = .ok (.iload_n 2, 1) := by decide +kernel
theorem dX12_meansRun_26 : decode cX12_meansRun 26 = .ok (.invokevirtual 135, 3) := by decide +kernel
theorem dX12_meansRun_29 : decode cX12_meansRun 29 = .ok (.iload_n 1, 1) := by decide +kernel
theorem dX12_meansRun_30 : decode cX12_meansRun 30 = .ok (.aload_n 0, 1) := by decide +kernel
theorem dX12_meansRun_31 : decode cX12_meansRun 31 = .ok (.getfield 65, 3) := by decide +kernel
theorem dX12_meansRun_34 : decode cX12_meansRun 34 = .ok (.if_icmp .ne 20, 3) := by decide +kernel
theorem dX12_meansRun_37 : decode cX12_meansRun 37 = .ok (.aload_n 0, 1) := by decide +kernel
theorem dX12_meansRun_38 : decode cX12_meansRun 38 = .ok (.getfield 139, 3) := by decide +kernel
theorem dX12_meansRun_41 : decode cX12_meansRun 41 = .ok (.ifCond .eq 9, 3) := by decide +kernel
theorem dX12_meansRun_44 : decode cX12_meansRun 44 = .ok (.ldc2_w 142, 3) := by decide +kernel
theorem dX12_meansRun_47 : decode cX12_meansRun 47 = .ok (.goto 21, 3) := by decide +kernel
theorem dX12_meansRun_50 : decode cX12_meansRun 50 = .ok (.lconst 0, 1) := by decide +kernel
theorem dX12_meansRun_51 : decode cX12_meansRun 51 = .ok (.goto 17, 3) := by decide +kernel
theorem dX12_meansRun_54 : decode cX12_meansRun 54 = .ok (.aload_n 0, 1) := by decide +kernel
theorem dX12_meansRun_55 : decode cX12_meansRun 55 = .ok (.getfield 69, 3) := by decide +kernel
theorem dX12_meansRun_58 : decode cX12_meansRun 58 = .ok (.aload_n 0, 1) := by decide +kernel
theorem dX12_meansRun_59 : decode cX12_meansRun 59 = .ok (.getfield 13, 3) := by decide +kernel
theorem dX12_meansRun_62 : decode cX12_meansRun 62 = .ok (.iload_n 1, 1) := by decide +kernel
theorem dX12_meansRun_63 : decode cX12_meansRun 63 = .ok (.iaload, 1) := by decide +kernel
theorem dX12_meansRun_64 : decode cX12_meansRun 64 = .ok (.bipush 97, 2) := by decide +kernel
theorem dX12_meansRun_66 : decode cX12_meansRun 66 = .ok (.isub, 1) := by decide +kernel
theorem dX12_meansRun_67 : decode cX12_meansRun 67 = .ok (.laload, 1) := by decide +kernel
theorem dX12_meansRun_68 : decode cX12_meansRun 68 = .ok (.lreturn, 1) := by decide +kernel
theorem dX12_meansRun_69 : decode cX12_meansRun 69 = .ok (.aload_n 0, 1) := by decide +kernel
theorem dX12_meansRun_70 : decode cX12_meansRun 70 = .ok (.getfield 13, 3) := by decide +kernel
theorem dX12_meansRun_73 : decode cX12_meansRun 73 = .ok (.iload_n 1, 1) := by decide +kernel
theorem dX12_meansRun_74 : decode cX12_meansRun 74 = .ok (.iaload, 1) := by decide +kernel
theorem dX12_meansRun_75 : decode cX12_meansRun 75 = .ok (.bipush 33, 2) := by decide +kernel
theorem dX12_meansRun_77 : decode cX12_meansRun 77 = .ok (.if_icmp .ne 51, 3) := by decide +kernel
theorem dX12_meansRun_80 : decode cX12_meansRun 80 = .ok (.aload_n 0, 1) := by decide +kernel
theorem dX12_meansRun_81 : decode cX12_meansRun 81 = .ok (.iconst 1, 1) := by decide +kernel
theorem dX12_meansRun_82 : decode cX12_meansRun 82 = .ok (.iload_n 1, 1) := by decide +kernel
theorem dX12_meansRun_83 : decode cX12_meansRun 83 = .ok (.iload_n 2, 1) := by decide +kernel
theorem dX12_meansRun_84 : decode cX12_meansRun 84 = .ok (.invokevirtual 135, 3) := by decide +kernel
theorem dX12_meansRun_87 : decode cX12_meansRun 87 = .ok (.aload_n 0, 1) := by decide +kernel
theorem dX12_meansRun_88 : decode cX12_meansRun 88 = .ok (.iload_n 2, 1) := by decide +kernel
theorem dX12_meansRun_89 : decode cX12_meansRun 89 = .ok (.iload 8, 2) := by decide +kernel
theorem dX12_meansRun_91 : decode cX12_meansRun 91 = .ok (.if_icmp .eq 7, 3) := by decide +kernel
theorem dX12_meansRun_94 : decode cX12_meansRun 94 = .ok (.iconst 1, 1) := by decide +kernel
theorem dX12_meansRun_95 : decode cX12_meansRun 95 = .ok (.goto 4, 3) := by decide +kernel
theorem dX12_meansRun_98 : decode cX12_meansRun 98 = .ok (.iconst 0, 1) := by decide +kernel
theorem dX12_meansRun_99 : decode cX12_meansRun 99 = .ok (.iconst 1, 1) := by decide +kernel
theorem dX12_meansRun_100 : decode cX12_meansRun 100 = .ok (.invokevirtual 144, 3) := by decide +kernel
theorem dX12_meansRun_103 : decode cX12_meansRun 103 = .ok (.aload_n 0, 1) := by decide +kernel
theorem dX12_meansRun_104 : decode cX12_meansRun 104 = .ok (.iload_n 1, 1) := by decide +kernel
theorem dX12_meansRun_105 : decode cX12_meansRun 105 = .ok (.iconst 1, 1) := by decide +kernel
theorem dX12_meansRun_106 : decode cX12_meansRun 106 = .ok (.iadd, 1) := by decide +kernel
theorem dX12_meansRun_107 : decode cX12_meansRun 107 = .ok (.iload_n 2, 1) := by decide +kernel
theorem dX12_meansRun_108 : decode cX12_meansRun 108 = .ok (.lload_n 3, 1) := by decide +kernel
theorem dX12_meansRun_109 : decode cX12_meansRun 109 = .ok (.iload 5, 2) := by decide +kernel
theorem dX12_meansRun_111 : decode cX12_meansRun 111 = .ok (.iload 6, 2) := by decide +kernel
theorem dX12_meansRun_113 : decode cX12_meansRun 113 = .ok (.iconst 1, 1) := by decide +kernel
theorem dX12_meansRun_114 : decode cX12_meansRun 114 = .ok (.iload 8, 2) := by decide +kernel
theorem dX12_meansRun_116 : decode cX12_meansRun 116 = .ok (.invokevirtual 148, 3) := by decide +kernel
theorem dX12_meansRun_119 : decode cX12_meansRun 119 = .ok (.ldc2_w 152, 3) := by decide +kernel
theorem dX12_meansRun_122 : decode cX12_meansRun 122 = .ok (.lxor, 1) := by decide +kernel
theorem dX12_meansRun_123 : decode cX12_meansRun 123 = .ok (.ldc2_w 142, 3) := by decide +kernel
theorem dX12_meansRun_126 : decode cX12_meansRun 126 = .ok (.land, 1) := by decide +kernel
theorem dX12_meansRun_127 : decode cX12_meansRun 127 = .ok (.lreturn, 1) := by decide +kernel
theorem dX12_meansRun_128 : decode cX12_meansRun 128 = .ok (.aload_n 0, 1) := by decide +kernel
theorem dX12_meansRun_129 : decode cX12_meansRun 129 = .ok (.iconst 2, 1) := by decide +kernel
theorem dX12_meansRun_130 : decode cX12_meansRun 130 = .ok (.iload_n 1, 1) := by decide +kernel
theorem dX12_meansRun_131 : decode cX12_meansRun 131 = .ok (.iload_n 2, 1) := by decide +kernel
theorem dX12_meansRun_132 : decode cX12_meansRun 132 = .ok (.invokevirtual 135, 3) := by decide +kernel
theorem dX12_meansRun_135 : decode cX12_meansRun 135 = .ok (.aload_n 0, 1) := by decide +kernel
theorem dX12_meansRun_136 : decode cX12_meansRun 136 = .ok (.iload_n 1, 1) := by decide +kernel
theorem dX12_meansRun_137 : decode cX12_meansRun 137 = .ok (.iconst 1, 1) := by decide +kernel
theorem dX12_meansRun_138 : decode cX12_meansRun 138 = .ok (.iadd, 1) := by decide +kernel
theorem dX12_meansRun_139 : decode cX12_meansRun 139 = .ok (.iload_n 2, 1) := by decide +kernel
theorem dX12_meansRun_140 : decode cX12_meansRun 140 = .ok (.iconst 1, 1) := by decide +kernel
theorem dX12_meansRun_141 : decode cX12_meansRun 141 = .ok (.isub, 1) := by decide +kernel
theorem dX12_meansRun_142 : decode cX12_meansRun 142 = .ok (.lload_n 3, 1) := by decide +kernel
theorem dX12_meansRun_143 : decode cX12_meansRun 143 = .ok (.iconst 0, 1) := by decide +kernel
theorem dX12_meansRun_144 : decode cX12_meansRun 144 = .ok (.iconst 0, 1) := by decide +kernel
theorem dX12_meansRun_145 : decode cX12_meansRun 145 = .ok (.iconst 0, 1) := by decide +kernel
theorem dX12_meansRun_146 : decode cX12_meansRun 146 = .ok (.iload_n 2, 1) := by decide +kernel
theorem dX12_meansRun_147 : decode cX12_meansRun 147 = .ok (.iconst 1, 1) := by decide +kernel
theorem dX12_meansRun_148 : decode cX12_meansRun 148 = .ok (.isub, 1) := by decide +kernel
theorem dX12_meansRun_149 : decode cX12_meansRun 149 = .ok (.invokevirtual 148, 3) := by decide +kernel
theorem dX12_meansRun_152 : decode cX12_meansRun 152 = .ok (.lreturn, 1) := by decide +kernel
theorem dX12_meansRun_153 : decode cX12_meansRun 153 = .ok (.lload_n 3, 1) := by decide +kernel
theorem dX12_meansRun_154 : decode cX12_meansRun 154 = .ok (.lload 9, 2) := by decide +kernel
theorem dX12_meansRun_156 : decode cX12_meansRun 156 = .ok (.lsub, 1) := by decide +kernel
theorem dX12_meansRun_157 : decode cX12_meansRun 157 = .ok (.lstore 11, 2) := by decide +kernel
theorem dX12_meansRun_159 : decode cX12_meansRun 159 = .ok (.iload_n 1, 1) := by decide +kernel
theorem dX12_meansRun_160 : decode cX12_meansRun 160 = .ok (.iconst 1, 1) := by decide +kernel
theorem dX12_meansRun_161 : decode cX12_meansRun 161 = .ok (.iadd, 1) := by decide +kernel
theorem dX12_meansRun_162 : decode cX12_meansRun 162 = .ok (.istore 13, 2) := by decide +kernel
theorem dX12_meansRun_164 : decode cX12_meansRun 164 = .ok (.aload_n 0, 1) := by decide +kernel
theorem dX12_meansRun_165 : decode cX12_meansRun 165 = .ok (.getfield 13, 3) := by decide +kernel
theorem dX12_meansRun_168 : decode cX12_meansRun 168 = .ok (.iload 13, 2) := by decide +kernel
theorem dX12_meansRun_170 : decode cX12_meansRun 170 = .ok (.iaload, 1) := by decide +kernel
theorem dX12_meansRun_171 : decode cX12_meansRun 171 = .ok (.invokestatic 100, 3) := by decide +kernel
theorem dX12_meansRun_174 : decode cX12_meansRun 174 = .ok (.ifCond .lt 26, 3) := by decide +kernel
theorem dX12_meansRun_177 : decode cX12_meansRun 177 = .ok (.lload 11, 2) := by decide +kernel
theorem dX12_meansRun_179 : decode cX12_meansRun 179 = .ok (.aload_n 0, 1) := by decide +kernel
theorem dX12_meansRun_180 : decode cX12_meansRun 180 = .ok (.iload_n 1, 1) := by decide +kernel
theorem dX12_meansRun_181 : decode cX12_meansRun 181 = .ok (.iload 13, 2) := by decide +kernel
theorem dX12_meansRun_183 : decode cX12_meansRun 183 = .ok (.invokevirtual 115, 3) := by decide +kernel
theorem dX12_meansRun_186 : decode cX12_meansRun 186 = .ok (.aload_n 0, 1) := by decide +kernel
theorem dX12_meansRun_187 : decode cX12_meansRun 187 = .ok (.iload 13, 2) := by decide +kernel
theorem dX12_meansRun_189 : decode cX12_meansRun 189 = .ok (.iconst 1, 1) := by decide +kernel
theorem dX12_meansRun_190 : decode cX12_meansRun 190 = .ok (.iadd, 1) := by decide +kernel
theorem dX12_meansRun_191 : decode cX12_meansRun 191 = .ok (.iload_n 2, 1) := by decide +kernel
theorem dX12_meansRun_192 : decode cX12_meansRun 192 = .ok (.invokevirtual 115, 3) := by decide +kernel
theorem dX12_meansRun_195 : decode cX12_meansRun 195 = .ok (.lmul, 1) := by decide +kernel
theorem dX12_meansRun_196 : decode cX12_meansRun 196 = .ok (.lcmp, 1) := by decide +kernel
theorem dX12_meansRun_197 : decode cX12_meansRun 197 = .ok (.ifCond .lt 48, 3) := by decide +kernel
theorem dX12_meansRun_200 : decode cX12_meansRun 200 = .ok (.lload 11, 2) := by decide +kernel
theorem dX12_meansRun_202 : decode cX12_meansRun 202 = .ok (.aload_n 0, 1) := by decide +kernel
theorem dX12_meansRun_203 : decode cX12_meansRun 203 = .ok (.getfield 13, 3) := by decide +kernel
theorem dX12_meansRun_206 : decode cX12_meansRun 206 = .ok (.iload 13, 2) := by decide +kernel
theorem dX12_meansRun_208 : decode cX12_meansRun 208 = .ok (.iaload, 1) := by decide +kernel
theorem dX12_meansRun_209 : decode cX12_meansRun 209 = .ok (.invokestatic 100, 3) := by decide +kernel
theorem dX12_meansRun_212 : decode cX12_meansRun 212 = .ok (.ifCond .ge 7, 3) := by decide +kernel
theorem dX12_meansRun_215 : decode cX12_meansRun 215 = .ok (.lconst 0, 1) := by decide +kernel
theorem dX12_meansRun_216 : decode cX12_meansRun 216 = .ok (.goto 20, 3) := by decide +kernel
theorem dX12_meansRun_219 : decode cX12_meansRun 219 = .ok (.aload_n 0, 1) := by decide +kernel
theorem dX12_meansRun_220 : decode cX12_meansRun 220 = .ok (.iload_n 1, 1) := by decide +kernel
theorem dX12_meansRun_221 : decode cX12_meansRun 221 = .ok (.iload 13, 2) := by decide +kernel
theorem dX12_meansRun_223 : decode cX12_meansRun 223 = .ok (.invokevirtual 115, 3) := by decide +kernel
theorem dX12_meansRun_226 : decode cX12_meansRun 226 = .ok (.aload_n 0, 1) := by decide +kernel
theorem dX12_meansRun_227 : decode cX12_meansRun 227 = .ok (.iload 13, 2) := by decide +kernel
theorem dX12_meansRun_229 : decode cX12_meansRun 229 = .ok (.iconst 1, 1) := by decide +kernel
theorem dX12_meansRun_230 : decode cX12_meansRun 230 = .ok (.iadd, 1) := by decide +kernel
theorem dX12_meansRun_231 : decode cX12_meansRun 231 = .ok (.iload_n 2, 1) := by decide +kernel
theorem dX12_meansRun_232 : decode cX12_meansRun 232 = .ok (.invokevirtual 115, 3) := by decide +kernel
theorem dX12_meansRun_235 : decode cX12_meansRun 235 = .ok (.lmul, 1) := by decide +kernel
theorem dX12_meansRun_236 : decode cX12_meansRun 236 = .ok (.lsub, 1) := by decide +kernel
theorem dX12_meansRun_237 : decode cX12_meansRun 237 = .ok (.lstore 11, 2) := by decide +kernel
theorem dX12_meansRun_239 : decode cX12_meansRun 239 = .ok (.iinc 13 1, 3) := by decide +kernel
theorem dX12_meansRun_242 : decode cX12_meansRun 242 = .ok (.goto (-78), 3) := by decide +kernel
theorem dX12_meansRun_245 : decode cX12_meansRun 245 = .ok (.aload_n 0, 1) := by decide +kernel
theorem dX12_meansRun_246 : decode cX12_meansRun 246 = .ok (.getfield 13, 3) := by decide +kernel
theorem dX12_meansRun_249 : decode cX12_meansRun 249 = .ok (.iload 13, 2) := by decide +kernel
theorem dX12_meansRun_251 : decode cX12_meansRun 251 = .ok (.iaload, 1) := by decide +kernel
theorem dX12_meansRun_252 : decode cX12_meansRun 252 = .ok (.invokestatic 100, 3) := by decide +kernel
theorem dX12_meansRun_255 : decode cX12_meansRun 255 = .ok (.istore 14, 2) := by decide +kernel
theorem dX12_meansRun_257 : decode cX12_meansRun 257 = .ok (.aload_n 0, 1) := by decide +kernel
theorem dX12_meansRun_258 : decode cX12_meansRun 258 = .ok (.iload 14, 2) := by decide +kernel
theorem dX12_meansRun_260 : decode cX12_meansRun 260 = .ok (.iload_n 1, 1) := by decide +kernel
theorem dX12_meansRun_261 : decode cX12_meansRun 261 = .ok (.iload_n 2, 1) := by decide +kernel
theorem dX12_meansRun_262 : decode cX12_meansRun 262 = .ok (.invokevirtual 135, 3) := by decide +kernel
theorem dX12_meansRun_265 : decode cX12_meansRun 265 = .ok (.aload_n 0, 1) := by decide +kernel
theorem dX12_meansRun_266 : decode cX12_meansRun 266 = .ok (.iload 7, 2) := by decide +kernel
theorem dX12_meansRun_268 : decode cX12_meansRun 268 = .ok (.iconst 0, 1) := by decide +kernel
theorem dX12_meansRun_269 : decode cX12_meansRun 269 = .ok (.invokevirtual 144, 3) := by decide +kernel
theorem dX12_meansRun_272 : decode cX12_meansRun 272 = .ok (.aload_n 0, 1) := by decide +kernel
theorem dX12_meansRun_273 : decode cX12_meansRun 273 = .ok (.iload 5, 2) := by decide +kernel
theorem dX12_meansRun_275 : decode cX12_meansRun 275 = .ok (.iconst 2, 1) := by decide +kernel
theorem dX12_meansRun_276 : decode cX12_meansRun 276 = .ok (.invokevirtual 144, 3) := by decide +kernel
theorem dX12_meansRun_279 : decode cX12_meansRun 279 = .ok (.aload_n 0, 1) := by decide +kernel
theorem dX12_meansRun_280 : decode cX12_meansRun 280 = .ok (.iload 6, 2) := by decide +kernel
theorem dX12_meansRun_282 : decode cX12_meansRun 282 = .ok (.ifCond .eq 13, 3) := by decide +kernel
theorem dX12_meansRun_285 : decode cX12_meansRun 285 = .ok (.iload 14, 2) := by decide +kernel
theorem dX12_meansRun_287 : decode cX12_meansRun 287 = .ok (.iconst 3, 1) := by decide +kernel
theorem dX12_meansRun_288 : decode cX12_meansRun 288 = .ok (.if_icmp .eq 7, 3) := by decide +kernel
theorem dX12_meansRun_291 : decode cX12_meansRun 291 = .ok (.iconst 1, 1) := by decide +kernel
theorem dX12_meansRun_292 : decode cX12_meansRun 292 = .ok (.goto 4, 3) := by decide +kernel
theorem dX12_meansRun_295 : decode cX12_meansRun 295 = .ok (.iconst 0, 1) := by decide +kernel
theorem dX12_meansRun_296 : decode cX12_meansRun 296 = .ok (.iconst 3, 1) := by decide +kernel
theorem dX12_meansRun_297 : decode cX12_meansRun 297 = .ok (.invokevirtual 144, 3) := by decide +kernel
theorem dX12_meansRun_300 : decode cX12_meansRun 300 = .ok (.aload_n 0, 1) := by decide +kernel
theorem dX12_meansRun_301 : decode cX12_meansRun 301 = .ok (.iload 13, 2) := by decide +kernel
theorem dX12_meansRun_303 : decode cX12_meansRun 303 = .ok (.iconst 1, 1) := by decide +kernel
theorem dX12_meansRun_304 : decode cX12_meansRun 304 = .ok (.iadd, 1) := by decide +kernel
theorem dX12_meansRun_305 : decode cX12_meansRun 305 = .ok (.iload_n 2, 1) := by decide +kernel
theorem dX12_meansRun_306 : decode cX12_meansRun 306 = .ok (.invokevirtual 115, 3) := by decide +kernel
theorem dX12_meansRun_309 : decode cX12_meansRun 309 = .ok (.lstore 15, 2) := by decide +kernel
theorem dX12_meansRun_311 : decode cX12_meansRun 311 = .ok (.aload_n 0, 1) := by decide +kernel
theorem dX12_meansRun_312 : decode cX12_meansRun 312 = .ok (.iload_n 1, 1) := by decide +kernel
theorem dX12_meansRun_313 : decode cX12_meansRun 313 = .ok (.iload 13, 2) := by decide +kernel
theorem dX12_meansRun_315 : decode cX12_meansRun 315 = .ok (.lload 11, 2) := by decide +kernel
theorem dX12_meansRun_317 : decode cX12_meansRun 317 = .ok (.lload 15, 2) := by decide +kernel
theorem dX12_meansRun_319 : decode cX12_meansRun 319 = .ok (.ldiv, 1) := by decide +kernel
theorem dX12_meansRun_320 : decode cX12_meansRun 320 = .ok (.iload 5, 2) := by decide +kernel
theorem dX12_meansRun_322 : decode cX12_meansRun 322 = .ok (.iload 6, 2) := by decide +kernel
theorem dX12_meansRun_324 : decode cX12_meansRun 324 = .ok (.ifCond .ne 9, 3) := by decide +kernel
theorem dX12_meansRun_327 : decode cX12_meansRun 327 = .ok (.iload 14, 2) := by decide +kernel
theorem dX12_meansRun_329 : decode cX12_meansRun 329 = .ok (.iconst 3, 1) := by decide +kernel
theorem dX12_meansRun_330 : decode cX12_meansRun 330 = .ok (.if_icmp .ne 7, 3) := by decide +kernel
theorem dX12_meansRun_333 : decode cX12_meansRun 333 = .ok (.iconst 1, 1) := by decide +kernel
theorem dX12_meansRun_334 : decode cX12_meansRun 334 = .ok (.goto 4, 3) := by decide +kernel
theorem dX12_meansRun_337 : decode cX12_meansRun 337 = .ok (.iconst 0, 1) := by decide +kernel
theorem dX12_meansRun_338 : decode cX12_meansRun 338 = .ok (.iconst 0, 1) := by decide +kernel
theorem dX12_meansRun_339 : decode cX12_meansRun 339 = .ok (.iload 8, 2) := by decide +kernel
theorem dX12_meansRun_341 : decode cX12_meansRun 341 = .ok (.invokevirtual 148, 3) := by decide +kernel
theorem dX12_meansRun_344 : decode cX12_meansRun 344 = .ok (.lstore 17, 2) := by decide +kernel
theorem dX12_meansRun_346 : decode cX12_meansRun 346 = .ok (.aload_n 0, 1) := by decide +kernel
theorem dX12_meansRun_347 : decode cX12_meansRun 347 = .ok (.iload 13, 2) := by decide +kernel
theorem dX12_meansRun_349 : decode cX12_meansRun 349 = .ok (.iconst 1, 1) := by decide +kernel
theorem dX12_meansRun_350 : decode cX12_meansRun 350 = .ok (.iadd, 1) := by decide +kernel
theorem dX12_meansRun_351 : decode cX12_meansRun 351 = .ok (.iload_n 2, 1) := by decide +kernel
theorem dX12_meansRun_352 : decode cX12_meansRun 352 = .ok (.lload 11, 2) := by decide +kernel
theorem dX12_meansRun_354 : decode cX12_meansRun 354 = .ok (.lload 15, 2) := by decide +kernel
theorem dX12_meansRun_356 : decode cX12_meansRun 356 = .ok (.lrem, 1) := by decide +kernel
theorem dX12_meansRun_357 : decode cX12_meansRun 357 = .ok (.iconst 1, 1) := by decide +kernel
theorem dX12_meansRun_358 : decode cX12_meansRun 358 = .ok (.iload 6, 2) := by decide +kernel
theorem dX12_meansRun_360 : decode cX12_meansRun 360 = .ok (.ifCond .ne 9, 3) := by decide +kernel
theorem dX12_meansRun_363 : decode cX12_meansRun 363 = .ok (.iload 14, 2) := by decide +kernel
theorem dX12_meansRun_365 : decode cX12_meansRun 365 = .ok (.iconst 3, 1) := by decide +kernel
theorem dX12_meansRun_366 : decode cX12_meansRun 366 = .ok (.if_icmp .ne 7, 3) := by decide +kernel
theorem dX12_meansRun_369 : decode cX12_meansRun 369 = .ok (.iconst 1, 1) := by decide +kernel
theorem dX12_meansRun_370 : decode cX12_meansRun 370 = .ok (.goto 4, 3) := by decide +kernel
theorem dX12_meansRun_373 : decode cX12_meansRun 373 = .ok (.iconst 0, 1) := by decide +kernel
theorem dX12_meansRun_374 : decode cX12_meansRun 374 = .ok (.iconst 0, 1) := by decide +kernel
theorem dX12_meansRun_375 : decode cX12_meansRun 375 = .ok (.iload 8, 2) := by decide +kernel
theorem dX12_meansRun_377 : decode cX12_meansRun 377 = .ok (.invokevirtual 148, 3) := by decide +kernel
theorem dX12_meansRun_380 : decode cX12_meansRun 380 = .ok (.lstore 19, 2) := by decide +kernel
theorem dX12_meansRun_382 : decode cX12_meansRun 382 = .ok (.iload 14, 2) := by decide +kernel
theorem dX12_meansRun_384 : decode cX12_meansRun 384 = .ok (.iconst 3, 1) := by decide +kernel
theorem dX12_meansRun_385 : decode cX12_meansRun 385 = .ok (.if_icmp .ne 11, 3) := by decide +kernel
theorem dX12_meansRun_388 : decode cX12_meansRun 388 = .ok (.lload 17, 2) := by decide +kernel
theorem dX12_meansRun_390 : decode cX12_meansRun 390 = .ok (.lload 19, 2) := by decide +kernel
theorem dX12_meansRun_392 : decode cX12_meansRun 392 = .ok (.land, 1) := by decide +kernel
theorem dX12_meansRun_393 : decode cX12_meansRun 393 = .ok (.goto 52, 3) := by decide +kernel
theorem dX12_meansRun_396 : decode cX12_meansRun 396 = .ok (.iload 14, 2) := by decide +kernel
theorem dX12_meansRun_398 : decode cX12_meansRun 398 = .ok (.iconst 4, 1) := by decide +kernel
theorem dX12_meansRun_399 : decode cX12_meansRun 399 = .ok (.if_icmp .ne 11, 3) := by decide +kernel
theorem dX12_meansRun_402 : decode cX12_meansRun 402 = .ok (.lload 17, 2) := by decide +kernel
theorem dX12_meansRun_404 : decode cX12_meansRun 404 = .ok (.lload 19, 2) := by decide +kernel
theorem dX12_meansRun_406 : decode cX12_meansRun 406 = .ok (.lor, 1) := by decide +kernel
theorem dX12_meansRun_407 : decode cX12_meansRun 407 = .ok (.goto 38, 3) := by decide +kernel
theorem dX12_meansRun_410 : decode cX12_meansRun 410 = .ok (.iload 14, 2) := by decide +kernel
theorem dX12_meansRun_412 : decode cX12_meansRun 412 = .ok (.iconst 5, 1) := by decide +kernel
theorem dX12_meansRun_413 : decode cX12_meansRun 413 = .ok (.if_icmp .ne 19, 3) := by decide +kernel
theorem dX12_meansRun_416 : decode cX12_meansRun 416 = .ok (.lload 17, 2) := by decide +kernel
theorem dX12_meansRun_418 : decode cX12_meansRun 418 = .ok (.ldc2_w 152, 3) := by decide +kernel
theorem dX12_meansRun_421 : decode cX12_meansRun 421 = .ok (.lxor, 1) := by decide +kernel
theorem dX12_meansRun_422 : decode cX12_meansRun 422 = .ok (.ldc2_w 142, 3) := by decide +kernel
theorem dX12_meansRun_425 : decode cX12_meansRun 425 = .ok (.land, 1) := by decide +kernel
theorem dX12_meansRun_426 : decode cX12_meansRun 426 = .ok (.lload 19, 2) := by decide +kernel
theorem dX12_meansRun_428 : decode cX12_meansRun 428 = .ok (.lor, 1) := by decide +kernel
theorem dX12_meansRun_429 : decode cX12_meansRun 429 = .ok (.goto 16, 3) := by decide +kernel
theorem dX12_meansRun_432 : decode cX12_meansRun 432 = .ok (.lload 17, 2) := by decide +kernel
theorem dX12_meansRun_434 : decode cX12_meansRun 434 = .ok (.lload 19, 2) := by decide +kernel
theorem dX12_meansRun_436 : decode cX12_meansRun 436 = .ok (.ldc2_w 152, 3) := by decide +kernel
theorem dX12_meansRun_439 : decode cX12_meansRun 439 = .ok (.lxor, 1) := by decide +kernel
theorem dX12_meansRun_440 : decode cX12_meansRun 440 = .ok (.land, 1) := by decide +kernel
theorem dX12_meansRun_441 : decode cX12_meansRun 441 = .ok (.ldc2_w 142, 3) := by decide +kernel
theorem dX12_meansRun_444 : decode cX12_meansRun 444 = .ok (.land, 1) := by decide +kernel
theorem dX12_meansRun_445 : decode cX12_meansRun 445 = .ok (.lreturn, 1) := by decide +kernel
theorem dX12_meansNow_0 : decode cX12_meansNow 0 = .ok (.aload_n 0, 1) := by decide +kernel
theorem dX12_meansNow_1 : decode cX12_meansNow 1 = .ok (.iconst 0, 1) := by decide +kernel
theorem dX12_meansNow_2 : decode cX12_meansNow 2 = .ok (.aload_n 0, 1) := by decide +kernel
theorem dX12_meansNow_3 : decode cX12_meansNow 3 = .ok (.getfield 85, 3) := by decide +kernel
theorem dX12_meansNow_6 : decode cX12_meansNow 6 = .ok (.iload_n 1, 1) := by decide +kernel
theorem dX12_meansNow_7 : decode cX12_meansNow 7 = .ok (.i2l, 1) := by decide +kernel
theorem dX12_meansNow_8 : decode cX12_meansNow 8 = .ok (.iconst 0, 1) := by decide +kernel
theorem dX12_meansNow_9 : decode cX12_meansNow 9 = .ok (.iconst 0, 1) := by decide +kernel
theorem dX12_meansNow_10 : decode cX12_meansNow 10 = .ok (.iconst 0, 1) := by decide +kernel
theorem dX12_meansNow_11 : decode cX12_meansNow 11 = .ok (.aload_n 0, 1) := by decide +kernel
theorem dX12_meansNow_12 : decode cX12_meansNow 12 = .ok (.getfield 85, 3) := by decide +kernel
theorem dX12_meansNow_15 : decode cX12_meansNow 15 = .ok (.invokevirtual 148, 3) := by decide +kernel
theorem dX12_meansNow_18 : decode cX12_meansNow 18 = .ok (.lreturn, 1) := by decide +kernel
theorem dX12_idleIn_0 : decode cX12_idleIn 0 = .ok (.iconst 0, 1) := by decide +kernel
theorem dX12_idleIn_1 : decode cX12_idleIn 1 = .ok (.istore_n 2, 1) := by decide +kernel
theorem dX12_idleIn_2 : decode cX12_idleIn 2 = .ok (.iconst 0, 1) := by decide +kernel
theorem dX12_idleIn_3 : decode cX12_idleIn 3 = .ok (.istore_n 3, 1) := by decide +kernel
theorem dX12_idleIn_4 : decode cX12_idleIn 4 = .ok (.iload_n 3, 1) := by decide +kernel
theorem dX12_idleIn_5 : decode cX12_idleIn 5 = .ok (.aload_n 0, 1) := by decide +kernel
theorem dX12_idleIn_6 : decode cX12_idleIn 6 = .ok (.getfield 85, 3) := by decide +kernel
theorem dX12_idleIn_9 : decode cX12_idleIn 9 = .ok (.if_icmp .ge 67, 3) := by decide +kernel
theorem dX12_idleIn_12 : decode cX12_idleIn 12 = .ok (.aload_n 0, 1) := by decide +kernel
theorem dX12_idleIn_13 : decode cX12_idleIn 13 = .ok (.getfield 13, 3) := by decide +kernel
theorem dX12_idleIn_16 : decode cX12_idleIn 16 = .ok (.iload_n 3, 1) := by decide +kernel
theorem dX12_idleIn_17 : decode cX12_idleIn 17 = .ok (.iaload, 1) := by decide +kernel
theorem dX12_idleIn_18 : decode cX12_idleIn 18 = .ok (.invokestatic 103, 3) := by decide +kernel
theorem dX12_idleIn_21 : decode cX12_idleIn 21 = .ok (.ifCond .ne 6, 3) := by decide +kernel
theorem dX12_idleIn_24 : decode cX12_idleIn 24 = .ok (.goto 46, 3) := by decide +kernel
theorem dX12_idleIn_27 : decode cX12_idleIn 27 = .ok (.aload_n 0, 1) := by decide +kernel
theorem dX12_idleIn_28 : decode cX12_idleIn 28 = .ok (.iload_n 3, 1) := by decide +kernel
theorem dX12_idleIn_29 : decode cX12_idleIn 29 = .ok (.putfield 65, 3) := by decide +kernel
theorem dX12_idleIn_32 : decode cX12_idleIn 32 = .ok (.aload_n 0, 1) := by decide +kernel
theorem dX12_idleIn_33 : decode cX12_idleIn 33 = .ok (.iconst 1, 1) := by decide +kernel
theorem dX12_idleIn_34 : decode cX12_idleIn 34 = .ok (.putfield 139, 3) := by decide +kernel
theorem dX12_idleIn_37 : decode cX12_idleIn 37 = .ok (.aload_n 0, 1) := by decide +kernel
theorem dX12_idleIn_38 : decode cX12_idleIn 38 = .ok (.iload_n 1, 1) := by decide +kernel
theorem dX12_idleIn_39 : decode cX12_idleIn 39 = .ok (.invokevirtual 154, 3) := by decide +kernel
theorem dX12_idleIn_42 : decode cX12_idleIn 42 = .ok (.lstore 4, 2) := by decide +kernel
theorem dX12_idleIn_44 : decode cX12_idleIn 44 = .ok (.aload_n 0, 1) := by decide +kernel
theorem dX12_idleIn_45 : decode cX12_idleIn 45 = .ok (.iconst 0, 1) := by decide +kernel
theorem dX12_idleIn_46 : decode cX12_idleIn 46 = .ok (.putfield 139, 3) := by decide +kernel
theorem dX12_idleIn_49 : decode cX12_idleIn 49 = .ok (.iload_n 2, 1) := by decide +kernel
theorem dX12_idleIn_50 : decode cX12_idleIn 50 = .ok (.lload 4, 2) := by decide +kernel
theorem dX12_idleIn_52 : decode cX12_idleIn 52 = .ok (.aload_n 0, 1) := by decide +kernel
theorem dX12_idleIn_53 : decode cX12_idleIn 53 = .ok (.iload_n 1, 1) := by decide +kernel
theorem dX12_idleIn_54 : decode cX12_idleIn 54 = .ok (.invokevirtual 154, 3) := by decide +kernel
theorem dX12_idleIn_57 : decode cX12_idleIn 57 = .ok (.lcmp, 1) := by decide +kernel
theorem dX12_idleIn_58 : decode cX12_idleIn 58 = .ok (.ifCond .ne 9, 3) := by decide +kernel
theorem dX12_idleIn_61 : decode cX12_idleIn 61 = .ok (.iconst 1, 1) := by decide +kernel
theorem dX12_idleIn_62 : decode cX12_idleIn 62 = .ok (.iload_n 3, 1) := by decide +kernel
theorem dX12_idleIn_63 : decode cX12_idleIn 63 = .ok (.ishl, 1) := by decide +kernel
theorem dX12_idleIn_64 : decode cX12_idleIn 64 = .ok (.goto 4, 3) := by decide +kernel
theorem dX12_idleIn_67 : decode cX12_idleIn 67 = .ok (.iconst 0, 1) := by decide +kernel
theorem dX12_idleIn_68 : decode cX12_idleIn 68 = .ok (.ior, 1) := by decide +kernel
theorem dX12_idleIn_69 : decode cX12_idleIn 69 = .ok (.istore_n 2, 1) := by decide +kernel
theorem dX12_idleIn_70 : decode cX12_idleIn 70 = .ok (.iinc 3 1, 3) := by decide +kernel
theorem dX12_idleIn_73 : decode cX12_idleIn 73 = .ok (.goto (-69), 3) := by decide +kernel
theorem dX12_idleIn_76 : decode cX12_idleIn 76 = .ok (.aload_n 0, 1) := by decide +kernel
theorem dX12_idleIn_77 : decode cX12_idleIn 77 = .ok (.bipush (-9), 2) := by decide +kernel
theorem dX12_idleIn_79 : decode cX12_idleIn 79 = .ok (.putfield 65, 3) := by decide +kernel
theorem dX12_idleIn_82 : decode cX12_idleIn 82 = .ok (.iload_n 2, 1) := by decide +kernel
theorem dX12_idleIn_83 : decode cX12_idleIn 83 = .ok (.ireturn, 1) := by decide +kernel
theorem dX12_finds_0 : decode cX12_finds 0 = .ok (.iconst 0, 1) := by decide +kernel
theorem dX12_finds_1 : decode cX12_finds 1 = .ok (.istore_n 1, 1) := by decide +kernel
theorem dX12_finds_2 : decode cX12_finds 2 = .ok (.iload_n 1, 1) := by decide +kernel
theorem dX12_finds_3 : decode cX12_finds 3 = .ok (.iconst 5, 1) := by decide +kernel
theorem dX12_finds_4 : decode cX12_finds 4 = .ok (.if_icmp .ge 19, 3) := by decide +kernel
theorem dX12_finds_7 : decode cX12_finds 7 = .ok (.aload_n 0, 1) := by decide +kernel
theorem dX12_finds_8 : decode cX12_finds 8 = .ok (.getfield 69, 3) := by decide +kernel
theorem dX12_finds_11 : decode cX12_finds 11 = .ok (.iload_n 1, 1) := by decide +kernel
theorem dX12_finds_12 : decode cX12_finds 12 = .ok (.iload_n 1, 1) := by decide +kernel
theorem dX12_finds_13 : decode cX12_finds 13 = .ok (.invokestatic 158, 3) := by decide +kernel
theorem dX12_finds_16 : decode cX12_finds 16 = .ok (.lastore, 1) := by decide +kernel
theorem dX12_finds_17 : decode cX12_finds 17 = .ok (.iinc 1 1, 3) := by decide +kernel
theorem dX12_finds_20 : decode cX12_finds 20 = .ok (.goto (-18), 3) := by decide +kernel
theorem dX12_finds_23 : decode cX12_finds 23 = .ok (.aload_n 0, 1) := by decide +kernel
theorem dX12_finds_24 : decode cX12_finds 24 = .ok (.invokevirtual 161, 3) := by decide +kernel
theorem dX12_finds_27 : decode cX12_finds 27 = .ok (.aload_n 0, 1) := by decide +kernel
theorem dX12_finds_28 : decode cX12_finds 28 = .ok (.aload_n 0, 1) := by decide +kernel
theorem dX12_finds_29 : decode cX12_finds 29 = .ok (.invokevirtual 164, 3) := by decide +kernel
theorem dX12_finds_32 : decode cX12_finds 32 = .ok (.ldc2_w 168, 3) := by decide +kernel
theorem dX12_finds_35 : decode cX12_finds 35 = .ok (.lcmp, 1) := by decide +kernel
theorem dX12_finds_36 : decode cX12_finds 36 = .ok (.ifCond .gt 7, 3) := by decide +kernel
theorem dX12_finds_39 : decode cX12_finds 39 = .ok (.iconst 1, 1) := by decide +kernel
theorem dX12_finds_40 : decode cX12_finds 40 = .ok (.goto 4, 3) := by decide +kernel
theorem dX12_finds_43 : decode cX12_finds 43 = .ok (.iconst 0, 1) := by decide +kernel
theorem dX12_finds_44 : decode cX12_finds 44 = .ok (.putfield 170, 3) := by decide +kernel
theorem dX12_finds_47 : decode cX12_finds 47 = .ok (.aload_n 0, 1) := by decide +kernel
theorem dX12_finds_48 : decode cX12_finds 48 = .ok (.getfield 170, 3) := by decide +kernel
theorem dX12_finds_51 : decode cX12_finds 51 = .ok (.ifCond .ne 4, 3) := by decide +kernel
theorem dX12_finds_54 : decode cX12_finds 54 = .ok (.return_, 1) := by decide +kernel
theorem dX12_finds_55 : decode cX12_finds 55 = .ok (.aload_n 0, 1) := by decide +kernel
theorem dX12_finds_56 : decode cX12_finds 56 = .ok (.invokevirtual 164, 3) := by decide +kernel
theorem dX12_finds_59 : decode cX12_finds 59 = .ok (.l2i, 1) := by decide +kernel
theorem dX12_finds_60 : decode cX12_finds 60 = .ok (.istore_n 1, 1) := by decide +kernel
theorem dX12_finds_61 : decode cX12_finds 61 = .ok (.aload_n 0, 1) := by decide +kernel
theorem dX12_finds_62 : decode cX12_finds 62 = .ok (.iconst 0, 1) := by decide +kernel
theorem dX12_finds_63 : decode cX12_finds 63 = .ok (.putfield 129, 3) := by decide +kernel
theorem dX12_finds_66 : decode cX12_finds 66 = .ok (.aload_n 0, 1) := by decide +kernel
theorem dX12_finds_67 : decode cX12_finds 67 = .ok (.getfield 129, 3) := by decide +kernel
theorem dX12_finds_70 : decode cX12_finds 70 = .ok (.iload_n 1, 1) := by decide +kernel
theorem dX12_finds_71 : decode cX12_finds 71 = .ok (.if_icmp .ge 171, 3) := by decide +kernel
theorem dX12_finds_74 : decode cX12_finds 74 = .ok (.aload_n 0, 1) := by decide +kernel
theorem dX12_finds_75 : decode cX12_finds 75 = .ok (.getfield 53, 3) := by decide +kernel
theorem dX12_finds_78 : decode cX12_finds 78 = .ok (.aload_n 0, 1) := by decide +kernel
theorem dX12_finds_79 : decode cX12_finds 79 = .ok (.getfield 129, 3) := by decide +kernel
theorem dX12_finds_82 : decode cX12_finds 82 = .ok (.iconst 0, 1) := by decide +kernel
theorem dX12_finds_83 : decode cX12_finds 83 = .ok (.iastore, 1) := by decide +kernel
theorem dX12_finds_84 : decode cX12_finds 84 = .ok (.aload_n 0, 1) := by decide +kernel
theorem dX12_finds_85 : decode cX12_finds 85 = .ok (.iconst 0, 1) := by decide +kernel
theorem dX12_finds_86 : decode cX12_finds 86 = .ok (.putfield 132, 3) := by decide +kernel
theorem dX12_finds_89 : decode cX12_finds 89 = .ok (.aload_n 0, 1) := by decide +kernel
theorem dX12_finds_90 : decode cX12_finds 90 = .ok (.iconst 1, 1) := by decide +kernel
theorem dX12_finds_91 : decode cX12_finds 91 = .ok (.putfield 125, 3) := by decide +kernel
theorem dX12_finds_94 : decode cX12_finds 94 = .ok (.aload_n 0, 1) := by decide +kernel
theorem dX12_finds_95 : decode cX12_finds 95 = .ok (.getfield 62, 3) := by decide +kernel
theorem dX12_finds_98 : decode cX12_finds 98 = .ok (.aload_n 0, 1) := by decide +kernel
theorem dX12_finds_99 : decode cX12_finds 99 = .ok (.getfield 129, 3) := by decide +kernel
theorem dX12_finds_102 : decode cX12_finds 102 = .ok (.aload_n 0, 1) := by decide +kernel
theorem dX12_finds_103 : decode cX12_finds 103 = .ok (.aload_n 0, 1) := by decide +kernel
theorem dX12_finds_104 : decode cX12_finds 104 = .ok (.getfield 129, 3) := by decide +kernel
theorem dX12_finds_107 : decode cX12_finds 107 = .ok (.invokevirtual 154, 3) := by decide +kernel
theorem dX12_finds_110 : decode cX12_finds 110 = .ok (.lastore, 1) := by decide +kernel
theorem dX12_finds_111 : decode cX12_finds 111 = .ok (.aload_n 0, 1) := by decide +kernel
theorem dX12_finds_112 : decode cX12_finds 112 = .ok (.iconst 0, 1) := by decide +kernel
theorem dX12_finds_113 : decode cX12_finds 113 = .ok (.putfield 125, 3) := by decide +kernel
theorem dX12_finds_116 : decode cX12_finds 116 = .ok (.aload_n 0, 1) := by decide +kernel
theorem dX12_finds_117 : decode cX12_finds 117 = .ok (.getfield 56, 3) := by decide +kernel
theorem dX12_finds_120 : decode cX12_finds 120 = .ok (.aload_n 0, 1) := by decide +kernel
theorem dX12_finds_121 : decode cX12_finds 121 = .ok (.getfield 129, 3) := by decide +kernel
theorem dX12_finds_124 : decode cX12_finds 124 = .ok (.aload_n 0, 1) := by decide +kernel
theorem dX12_finds_125 : decode cX12_finds 125 = .ok (.getfield 132, 3) := by decide +kernel
theorem dX12_finds_128 : decode cX12_finds 128 = .ok (.iconst (-1), 1) := by decide +kernel
theorem dX12_finds_129 : decode cX12_finds 129 = .ok (.ixor, 1) := by decide +kernel
theorem dX12_finds_130 : decode cX12_finds 130 = .ok (.bipush 15, 2) := by decide +kernel
theorem dX12_finds_132 : decode cX12_finds 132 = .ok (.iand, 1) := by decide +kernel
theorem dX12_finds_133 : decode cX12_finds 133 = .ok (.iastore, 1) := by decide +kernel
theorem dX12_finds_134 : decode cX12_finds 134 = .ok (.aload_n 0, 1) := by decide +kernel
theorem dX12_finds_135 : decode cX12_finds 135 = .ok (.getfield 59, 3) := by decide +kernel
theorem dX12_finds_138 : decode cX12_finds 138 = .ok (.aload_n 0, 1) := by decide +kernel
theorem dX12_finds_139 : decode cX12_finds 139 = .ok (.getfield 129, 3) := by decide +kernel
theorem dX12_finds_142 : decode cX12_finds 142 = .ok (.aload_n 0, 1) := by decide +kernel
theorem dX12_finds_143 : decode cX12_finds 143 = .ok (.aload_n 0, 1) := by decide +kernel
theorem dX12_finds_144 : decode cX12_finds 144 = .ok (.getfield 129, 3) := by decide +kernel
theorem dX12_finds_147 : decode cX12_finds 147 = .ok (.invokevirtual 173, 3) := by decide +kernel
theorem dX12_finds_150 : decode cX12_finds 150 = .ok (.iastore, 1) := by decide +kernel
theorem dX12_finds_151 : decode cX12_finds 151 = .ok (.aload_n 0, 1) := by decide +kernel
theorem dX12_finds_152 : decode cX12_finds 152 = .ok (.getfield 56, 3) := by decide +kernel
theorem dX12_finds_155 : decode cX12_finds 155 = .ok (.aload_n 0, 1) := by decide +kernel
theorem dX12_finds_156 : decode cX12_finds 156 = .ok (.getfield 129, 3) := by decide +kernel
theorem dX12_finds_159 : decode cX12_finds 159 = .ok (.dup2, 1) := by decide +kernel
theorem dX12_finds_160 : decode cX12_finds 160 = .ok (.iaload, 1) := by decide +kernel
theorem dX12_finds_161 : decode cX12_finds 161 = .ok (.aload_n 0, 1) := by decide +kernel
theorem dX12_finds_162 : decode cX12_finds 162 = .ok (.getfield 59, 3) := by decide +kernel
theorem dX12_finds_165 : decode cX12_finds 165 = .ok (.aload_n 0, 1) := by decide +kernel
theorem dX12_finds_166 : decode cX12_finds 166 = .ok (.getfield 129, 3) := by decide +kernel
theorem dX12_finds_169 : decode cX12_finds 169 = .ok (.iaload, 1) := by decide +kernel
theorem dX12_finds_170 : decode cX12_finds 170 = .ok (.ifCond .ne 8, 3) := by decide +kernel
theorem dX12_finds_173 : decode cX12_finds 173 = .ok (.bipush 16, 2) := by decide +kernel
theorem dX12_finds_175 : decode cX12_finds 175 = .ok (.goto 4, 3) := by decide +kernel
theorem dX12_finds_178 : decode cX12_finds 178 = .ok (.iconst 0, 1) := by decide +kernel
theorem dX12_finds_179 : decode cX12_finds 179 = .ok (.ior, 1) := by decide +kernel
theorem dX12_finds_180 : decode cX12_finds 180 = .ok (.iastore, 1) := by decide +kernel
theorem dX12_finds_181 : decode cX12_finds 181 = .ok (.aload_n 0, 1) := by decide +kernel
theorem dX12_finds_182 : decode cX12_finds 182 = .ok (.getfield 56, 3) := by decide +kernel
theorem dX12_finds_185 : decode cX12_finds 185 = .ok (.aload_n 0, 1) := by decide +kernel
theorem dX12_finds_186 : decode cX12_finds 186 = .ok (.getfield 129, 3) := by decide +kernel
theorem dX12_finds_189 : decode cX12_finds 189 = .ok (.dup2, 1) := by decide +kernel
theorem dX12_finds_190 : decode cX12_finds 190 = .ok (.iaload, 1) := by decide +kernel
theorem dX12_finds_191 : decode cX12_finds 191 = .ok (.aload_n 0, 1) := by decide +kernel
theorem dX12_finds_192 : decode cX12_finds 192 = .ok (.getfield 62, 3) := by decide +kernel
theorem dX12_finds_195 : decode cX12_finds 195 = .ok (.aload_n 0, 1) := by decide +kernel
theorem dX12_finds_196 : decode cX12_finds 196 = .ok (.getfield 129, 3) := by decide +kernel
theorem dX12_finds_199 : decode cX12_finds 199 = .ok (.laload, 1) := by decide +kernel
theorem dX12_finds_200 : decode cX12_finds 200 = .ok (.lconst 0, 1) := by decide +kernel
theorem dX12_finds_201 : decode cX12_finds 201 = .ok (.lcmp, 1) := by decide +kernel
theorem dX12_finds_202 : decode cX12_finds 202 = .ok (.ifCond .eq 24, 3) := by decide +kernel
theorem dX12_finds_205 : decode cX12_finds 205 = .ok (.aload_n 0, 1) := by decide +kernel
theorem dX12_finds_206 : decode cX12_finds 206 = .ok (.getfield 62, 3) := by decide +kernel
theorem dX12_finds_209 : decode cX12_finds 209 = .ok (.aload_n 0, 1) := by decide +kernel
theorem dX12_finds_210 : decode cX12_finds 210 = .ok (.getfield 129, 3) := by decide +kernel
theorem dX12_finds_213 : decode cX12_finds 213 = .ok (.laload, 1) := by decide +kernel
theorem dX12_finds_214 : decode cX12_finds 214 = .ok (.ldc2_w 142, 3) := by decide +kernel
theorem dX12_finds_217 : decode cX12_finds 217 = .ok (.lcmp, 1) := by decide +kernel
theorem dX12_finds_218 : decode cX12_finds 218 = .ok (.ifCond .eq 8, 3) := by decide +kernel
theorem dX12_finds_221 : decode cX12_finds 221 = .ok (.bipush 32, 2) := by decide +kernel
theorem dX12_finds_223 : decode cX12_finds 223 = .ok (.goto 4, 3) := by decide +kernel
theorem dX12_finds_226 : decode cX12_finds 226 = .ok (.iconst 0, 1) := by decide +kernel
theorem dX12_finds_227 : decode cX12_finds 227 = .ok (.ior, 1) := by decide +kernel
theorem dX12_finds_228 : decode cX12_finds 228 = .ok (.iastore, 1) := by decide +kernel
theorem dX12_finds_229 : decode cX12_finds 229 = .ok (.aload_n 0, 1) := by decide +kernel
theorem dX12_finds_230 : decode cX12_finds 230 = .ok (.dup, 1) := by decide +kernel
theorem dX12_finds_231 : decode cX12_finds 231 = .ok (.getfield 129, 3) := by decide +kernel
theorem dX12_finds_234 : decode cX12_finds 234 = .ok (.iconst 1, 1) := by decide +kernel
theorem dX12_finds_235 : decode cX12_finds 235 = .ok (.iadd, 1) := by decide +kernel
theorem dX12_finds_236 : decode cX12_finds 236 = .ok (.putfield 129, 3) := by decide +kernel
theorem dX12_finds_239 : decode cX12_finds 239 = .ok (.goto (-173), 3) := by decide +kernel
theorem dX12_finds_242 : decode cX12_finds 242 = .ok (.return_, 1) := by decide +kernel
theorem dX12_wrong_0 : decode cX12_wrong 0 = .ok (.aload_n 0, 1) := by decide +kernel
theorem dX12_wrong_1 : decode cX12_wrong 1 = .ok (.getfield 170, 3) := by decide +kernel
theorem dX12_wrong_4 : decode cX12_wrong 4 = .ok (.ifCond .ne 8, 3) := by decide +kernel
theorem dX12_wrong_7 : decode cX12_wrong 7 = .ok (.bipush (-5), 2) := by decide +kernel
theorem dX12_wrong_9 : decode cX12_wrong 9 = .ok (.goto 19, 3) := by decide +kernel
theorem dX12_wrong_12 : decode cX12_wrong 12 = .ok (.iload_n 1, 1) := by decide +kernel
theorem dX12_wrong_13 : decode cX12_wrong 13 = .ok (.aload_n 0, 1) := by decide +kernel
theorem dX12_wrong_14 : decode cX12_wrong 14 = .ok (.getfield 129, 3) := by decide +kernel
theorem dX12_wrong_17 : decode cX12_wrong 17 = .ok (.invokestatic 111, 3) := by decide +kernel
theorem dX12_wrong_20 : decode cX12_wrong 20 = .ok (.ifCond .eq 7, 3) := by decide +kernel
theorem dX12_wrong_23 : decode cX12_wrong 23 = .ok (.iconst 0, 1) := by decide +kernel
theorem dX12_wrong_24 : decode cX12_wrong 24 = .ok (.goto 4, 3) := by decide +kernel
theorem dX12_wrong_27 : decode cX12_wrong 27 = .ok (.iconst (-1), 1) := by decide +kernel
theorem dX12_wrong_28 : decode cX12_wrong 28 = .ok (.ireturn, 1) := by decide +kernel
theorem dX12_nodes_0 : decode cX12_nodes 0 = .ok (.aload_n 0, 1) := by decide +kernel
theorem dX12_nodes_1 : decode cX12_nodes 1 = .ok (.iload_n 1, 1) := by decide +kernel
theorem dX12_nodes_2 : decode cX12_nodes 2 = .ok (.invokevirtual 176, 3) := by decide +kernel
theorem dX12_nodes_5 : decode cX12_nodes 5 = .ok (.istore_n 2, 1) := by decide +kernel
theorem dX12_nodes_6 : decode cX12_nodes 6 = .ok (.iload_n 2, 1) := by decide +kernel
theorem dX12_nodes_7 : decode cX12_nodes 7 = .ok (.ifCond .eq 11, 3) := by decide +kernel
theorem dX12_nodes_10 : decode cX12_nodes 10 = .ok (.aload_n 0, 1) := by decide +kernel
theorem dX12_nodes_11 : decode cX12_nodes 11 = .ok (.iload_n 2, 1) := by decide +kernel
theorem dX12_nodes_12 : decode cX12_nodes 12 = .ok (.invokevirtual 91, 3) := by decide +kernel
theorem dX12_nodes_15 : decode cX12_nodes 15 = .ok (.goto 9, 3) := by decide +kernel
theorem dX12_nodes_18 : decode cX12_nodes 18 = .ok (.aload_n 0, 1) := by decide +kernel
theorem dX12_nodes_19 : decode cX12_nodes 19 = .ok (.getfield 53, 3) := by decide +kernel
theorem dX12_nodes_22 : decode cX12_nodes 22 = .ok (.iload_n 1, 1) := by decide +kernel
theorem dX12_nodes_23 : decode cX12_nodes 23 = .ok (.iaload, 1) := by decide +kernel
theorem dX12_nodes_24 : decode cX12_nodes 24 = .ok (.ireturn, 1) := by decide +kernel
theorem dX12_node_0 : decode cX12_node 0 = .ok (.aload_n 0, 1) := by decide +kernel
theorem dX12_node_1 : decode cX12_node 1 = .ok (.iload_n 1, 1) := by decide +kernel
theorem dX12_node_2 : decode cX12_node 2 = .ok (.invokevirtual 176, 3) := by decide +kernel
theorem dX12_node_5 : decode cX12_node 5 = .ok (.istore 4, 2) := by decide +kernel
theorem dX12_node_7 : decode cX12_node 7 = .ok (.iload 4, 2) := by decide +kernel
theorem dX12_node_9 : decode cX12_node 9 = .ok (.ifCond .ne 19, 3) := by decide +kernel
theorem dX12_node_12 : decode cX12_node 12 = .ok (.iload_n 2, 1) := by decide +kernel
theorem dX12_node_13 : decode cX12_node 13 = .ok (.aload_n 0, 1) := by decide +kernel
theorem dX12_node_14 : decode cX12_node 14 = .ok (.getfield 53, 3) := by decide +kernel
theorem dX12_node_17 : decode cX12_node 17 = .ok (.iload_n 1, 1) := by decide +kernel
theorem dX12_node_18 : decode cX12_node 18 = .ok (.iaload, 1) := by decide +kernel
theorem dX12_node_19 : decode cX12_node 19 = .ok (.invokestatic 111, 3) := by decide +kernel
theorem dX12_node_22 : decode cX12_node 22 = .ok (.ifCond .ne 6, 3) := by decide +kernel
theorem dX12_node_25 : decode cX12_node 25 = .ok (.iconst (-1), 1) := by decide +kernel
theorem dX12_node_26 : decode cX12_node 26 = .ok (.istore 4, 2) := by decide +kernel
theorem dX12_node_28 : decode cX12_node 28 = .ok (.iload 4, 2) := by decide +kernel
theorem dX12_node_30 : decode cX12_node 30 = .ok (.ifCond .ne 15, 3) := by decide +kernel
theorem dX12_node_33 : decode cX12_node 33 = .ok (.iload_n 3, 1) := by decide +kernel
theorem dX12_node_34 : decode cX12_node 34 = .ok (.iconst 3, 1) := by decide +kernel
theorem dX12_node_35 : decode cX12_node 35 = .ok (.invokestatic 111, 3) := by decide +kernel
theorem dX12_node_38 : decode cX12_node 38 = .ok (.ifCond .ne 7, 3) := by decide +kernel
theorem dX12_node_41 : decode cX12_node 41 = .ok (.bipush (-2), 2) := by decide +kernel
theorem dX12_node_43 : decode cX12_node 43 = .ok (.istore 4, 2) := by decide +kernel
theorem dX12_node_45 : decode cX12_node 45 = .ok (.iload 4, 2) := by decide +kernel
theorem dX12_node_47 : decode cX12_node 47 = .ok (.ifCond .eq 10, 3) := by decide +kernel
theorem dX12_node_50 : decode cX12_node 50 = .ok (.aload_n 0, 1) := by decide +kernel
theorem dX12_node_51 : decode cX12_node 51 = .ok (.iload 4, 2) := by decide +kernel
theorem dX12_node_53 : decode cX12_node 53 = .ok (.invokevirtual 91, 3) := by decide +kernel
theorem dX12_node_56 : decode cX12_node 56 = .ok (.ireturn, 1) := by decide +kernel
theorem dX12_node_57 : decode cX12_node 57 = .ok (.bipush 21, 2) := by decide +kernel
theorem dX12_node_59 : decode cX12_node 59 = .ok (.iload_n 1, 1) := by decide +kernel
theorem dX12_node_60 : decode cX12_node 60 = .ok (.imul, 1) := by decide +kernel
theorem dX12_node_61 : decode cX12_node 61 = .ok (.iload_n 2, 1) := by decide +kernel
theorem dX12_node_62 : decode cX12_node 62 = .ok (.iadd, 1) := by decide +kernel
theorem dX12_node_63 : decode cX12_node 63 = .ok (.istore 5, 2) := by decide +kernel
theorem dX12_node_65 : decode cX12_node 65 = .ok (.iload_n 3, 1) := by decide +kernel
theorem dX12_node_66 : decode cX12_node 66 = .ok (.ifCond .ne 13, 3) := by decide +kernel
theorem dX12_node_69 : decode cX12_node 69 = .ok (.aload_n 0, 1) := by decide +kernel
theorem dX12_node_70 : decode cX12_node 70 = .ok (.getfield 44, 3) := by decide +kernel
theorem dX12_node_73 : decode cX12_node 73 = .ok (.iload 5, 2) := by decide +kernel
theorem dX12_node_75 : decode cX12_node 75 = .ok (.iaload, 1) := by decide +kernel
theorem dX12_node_76 : decode cX12_node 76 = .ok (.goto 25, 3) := by decide +kernel
theorem dX12_node_79 : decode cX12_node 79 = .ok (.iload_n 3, 1) := by decide +kernel
theorem dX12_node_80 : decode cX12_node 80 = .ok (.iconst 1, 1) := by decide +kernel
theorem dX12_node_81 : decode cX12_node 81 = .ok (.if_icmp .ne 13, 3) := by decide +kernel
theorem dX12_node_84 : decode cX12_node 84 = .ok (.aload_n 0, 1) := by decide +kernel
theorem dX12_node_85 : decode cX12_node 85 = .ok (.getfield 47, 3) := by decide +kernel
theorem dX12_node_88 : decode cX12_node 88 = .ok (.iload 5, 2) := by decide +kernel
theorem dX12_node_90 : decode cX12_node 90 = .ok (.iaload, 1) := by decide +kernel
theorem dX12_node_91 : decode cX12_node 91 = .ok (.goto 10, 3) := by decide +kernel
theorem dX12_node_94 : decode cX12_node 94 = .ok (.aload_n 0, 1) := by decide +kernel
theorem dX12_node_95 : decode cX12_node 95 = .ok (.getfield 50, 3) := by decide +kernel
theorem dX12_node_98 : decode cX12_node 98 = .ok (.iload 5, 2) := by decide +kernel
theorem dX12_node_100 : decode cX12_node 100 = .ok (.iaload, 1) := by decide +kernel
theorem dX12_node_101 : decode cX12_node 101 = .ok (.ireturn, 1) := by decide +kernel
theorem dX12_means_0 : decode cX12_means 0 = .ok (.aload_n 0, 1) := by decide +kernel
theorem dX12_means_1 : decode cX12_means 1 = .ok (.iload_n 1, 1) := by decide +kernel
theorem dX12_means_2 : decode cX12_means 2 = .ok (.invokevirtual 176, 3) := by decide +kernel
theorem dX12_means_5 : decode cX12_means 5 = .ok (.istore_n 2, 1) := by decide +kernel
theorem dX12_means_6 : decode cX12_means 6 = .ok (.iload_n 2, 1) := by decide +kernel
theorem dX12_means_7 : decode cX12_means 7 = .ok (.ifCond .eq 12, 3) := by decide +kernel
theorem dX12_means_10 : decode cX12_means 10 = .ok (.aload_n 0, 1) := by decide +kernel
theorem dX12_means_11 : decode cX12_means 11 = .ok (.iload_n 2, 1) := by decide +kernel
theorem dX12_means_12 : decode cX12_means 12 = .ok (.invokevirtual 91, 3) := by decide +kernel
theorem dX12_means_15 : decode cX12_means 15 = .ok (.i2l, 1) := by decide +kernel
theorem dX12_means_16 : decode cX12_means 16 = .ok (.goto 9, 3) := by decide +kernel
theorem dX12_means_19 : decode cX12_means 19 = .ok (.aload_n 0, 1) := by decide +kernel
theorem dX12_means_20 : decode cX12_means 20 = .ok (.getfield 62, 3) := by decide +kernel
theorem dX12_means_23 : decode cX12_means 23 = .ok (.iload_n 1, 1) := by decide +kernel
theorem dX12_means_24 : decode cX12_means 24 = .ok (.laload, 1) := by decide +kernel
theorem dX12_means_25 : decode cX12_means 25 = .ok (.lreturn, 1) := by decide +kernel
theorem dX12_does_0 : decode cX12_does 0 = .ok (.aload_n 0, 1) := by decide +kernel
theorem dX12_does_1 : decode cX12_does 1 = .ok (.getfield 62, 3) := by decide +kernel
theorem dX12_does_4 : decode cX12_does 4 = .ok (.iload_n 1, 1) := by decide +kernel
theorem dX12_does_5 : decode cX12_does 5 = .ok (.laload, 1) := by decide +kernel
theorem dX12_does_6 : decode cX12_does 6 = .ok (.iload_n 2, 1) := by decide +kernel
theorem dX12_does_7 : decode cX12_does 7 = .ok (.lshr, 1) := by decide +kernel
theorem dX12_does_8 : decode cX12_does 8 = .ok (.lconst 1, 1) := by decide +kernel
theorem dX12_does_9 : decode cX12_does 9 = .ok (.land, 1) := by decide +kernel
theorem dX12_does_10 : decode cX12_does 10 = .ok (.lconst 1, 1) := by decide +kernel
theorem dX12_does_11 : decode cX12_does 11 = .ok (.lcmp, 1) := by decide +kernel
theorem dX12_does_12 : decode cX12_does 12 = .ok (.ifCond .ne 7, 3) := by decide +kernel
theorem dX12_does_15 : decode cX12_does 15 = .ok (.iconst 1, 1) := by decide +kernel
theorem dX12_does_16 : decode cX12_does 16 = .ok (.goto 4, 3) := by decide +kernel
theorem dX12_does_19 : decode cX12_does 19 = .ok (.iconst 0, 1) := by decide +kernel
theorem dX12_does_20 : decode cX12_does 20 = .ok (.ireturn, 1) := by decide +kernel
theorem dX12_lets_0 : decode cX12_lets 0 = .ok (.aload_n 0, 1) := by decide +kernel
theorem dX12_lets_1 : decode cX12_lets 1 = .ok (.iload_n 1, 1) := by decide +kernel
theorem dX12_lets_2 : decode cX12_lets 2 = .ok (.invokevirtual 176, 3) := by decide +kernel
theorem dX12_lets_5 : decode cX12_lets 5 = .ok (.istore_n 3, 1) := by decide +kernel
theorem dX12_lets_6 : decode cX12_lets 6 = .ok (.iload_n 3, 1) := by decide +kernel
theorem dX12_lets_7 : decode cX12_lets 7 = .ok (.ifCond .ne 14, 3) := by decide +kernel
theorem dX12_lets_10 : decode cX12_lets 10 = .ok (.iload_n 2, 1) := by decide +kernel
theorem dX12_lets_11 : decode cX12_lets 11 = .ok (.bipush 32, 2) := by decide +kernel
theorem dX12_lets_13 : decode cX12_lets 13 = .ok (.invokestatic 111, 3) := by decide +kernel
theorem dX12_lets_16 : decode cX12_lets 16 = .ok (.ifCond .ne 5, 3) := by decide +kernel
theorem dX12_lets_19 : decode cX12_lets 19 = .ok (.iconst (-1), 1) := by decide +kernel
theorem dX12_lets_20 : decode cX12_lets 20 = .ok (.istore_n 3, 1) := by decide +kernel
theorem dX12_lets_21 : decode cX12_lets 21 = .ok (.iload_n 3, 1) := by decide +kernel
theorem dX12_lets_22 : decode cX12_lets 22 = .ok (.ifCond .eq 11, 3) := by decide +kernel
theorem dX12_lets_25 : decode cX12_lets 25 = .ok (.aload_n 0, 1) := by decide +kernel
theorem dX12_lets_26 : decode cX12_lets 26 = .ok (.iload_n 3, 1) := by decide +kernel
theorem dX12_lets_27 : decode cX12_lets 27 = .ok (.invokevirtual 91, 3) := by decide +kernel
theorem dX12_lets_30 : decode cX12_lets 30 = .ok (.goto 17, 3) := by decide +kernel
theorem dX12_lets_33 : decode cX12_lets 33 = .ok (.aload_n 0, 1) := by decide +kernel
theorem dX12_lets_34 : decode cX12_lets 34 = .ok (.iload_n 1, 1) := by decide +kernel
theorem dX12_lets_35 : decode cX12_lets 35 = .ok (.iload_n 2, 1) := by decide +kernel
theorem dX12_lets_36 : decode cX12_lets 36 = .ok (.invokevirtual 179, 3) := by decide +kernel
theorem dX12_lets_39 : decode cX12_lets 39 = .ok (.ifCond .eq 7, 3) := by decide +kernel
theorem dX12_lets_42 : decode cX12_lets 42 = .ok (.iconst 1, 1) := by decide +kernel
theorem dX12_lets_43 : decode cX12_lets 43 = .ok (.goto 4, 3) := by decide +kernel
theorem dX12_lets_46 : decode cX12_lets 46 = .ok (.iconst 0, 1) := by decide +kernel
theorem dX12_lets_47 : decode cX12_lets 47 = .ok (.ireturn, 1) := by decide +kernel
theorem dX12_lettingOf_0 : decode cX12_lettingOf 0 = .ok (.iconst 0, 1) := by decide +kernel
theorem dX12_lettingOf_1 : decode cX12_lettingOf 1 = .ok (.istore_n 2, 1) := by decide +kernel
theorem dX12_lettingOf_2 : decode cX12_lettingOf 2 = .ok (.iconst 0, 1) := by decide +kernel
theorem dX12_lettingOf_3 : decode cX12_lettingOf 3 = .ok (.istore_n 3, 1) := by decide +kernel
theorem dX12_lettingOf_4 : decode cX12_lettingOf 4 = .ok (.iload_n 3, 1) := by decide +kernel
theorem dX12_lettingOf_5 : decode cX12_lettingOf 5 = .ok (.aload_n 0, 1) := by decide +kernel
theorem dX12_lettingOf_6 : decode cX12_lettingOf 6 = .ok (.getfield 129, 3) := by decide +kernel
theorem dX12_lettingOf_9 : decode cX12_lettingOf 9 = .ok (.if_icmp .ge 26, 3) := by decide +kernel
theorem dX12_lettingOf_12 : decode cX12_lettingOf 12 = .ok (.iload_n 2, 1) := by decide +kernel
theorem dX12_lettingOf_13 : decode cX12_lettingOf 13 = .ok (.aload_n 0, 1) := by decide +kernel
theorem dX12_lettingOf_14 : decode cX12_lettingOf 14 = .ok (.iload_n 3, 1) := by decide +kernel
theorem dX12_lettingOf_15 : decode cX12_lettingOf 15 = .ok (.iload_n 1, 1) := by decide +kernel
theorem dX12_lettingOf_16 : decode cX12_lettingOf 16 = .ok (.invokevirtual 179, 3) := by decide +kernel
theorem dX12_lettingOf_19 : decode cX12_lettingOf 19 = .ok (.ifCond .eq 7, 3) := by decide +kernel
theorem dX12_lettingOf_22 : decode cX12_lettingOf 22 = .ok (.iconst 1, 1) := by decide +kernel
theorem dX12_lettingOf_23 : decode cX12_lettingOf 23 = .ok (.goto 4, 3) := by decide +kernel
theorem dX12_lettingOf_26 : decode cX12_lettingOf 26 = .ok (.iconst 0, 1) := by decide +kernel
theorem dX12_lettingOf_27 : decode cX12_lettingOf 27 = .ok (.iadd, 1) := by decide +kernel
theorem dX12_lettingOf_28 : decode cX12_lettingOf 28 = .ok (.istore_n 2, 1) := by decide +kernel
theorem dX12_lettingOf_29 : decode cX12_lettingOf 29 = .ok (.iinc 3 1, 3) := by decide +kernel
theorem dX12_lettingOf_32 : decode cX12_lettingOf 32 = .ok (.goto (-28), 3) := by decide +kernel
theorem dX12_lettingOf_35 : decode cX12_lettingOf 35 = .ok (.iload_n 2, 1) := by decide +kernel
theorem dX12_lettingOf_36 : decode cX12_lettingOf 36 = .ok (.ireturn, 1) := by decide +kernel
theorem dX12_map_0 : decode cX12_map 0 = .ok (.aload_n 0, 1) := by decide +kernel
theorem dX12_map_1 : decode cX12_map 1 = .ok (.getfield 170, 3) := by decide +kernel
theorem dX12_map_4 : decode cX12_map 4 = .ok (.ifCond .ne 8, 3) := by decide +kernel
theorem dX12_map_7 : decode cX12_map 7 = .ok (.bipush (-5), 2) := by decide +kernel
theorem dX12_map_9 : decode cX12_map 9 = .ok (.goto 17, 3) := by decide +kernel
theorem dX12_map_12 : decode cX12_map 12 = .ok (.iload_n 1, 1) := by decide +kernel
theorem dX12_map_13 : decode cX12_map 13 = .ok (.bipush 32, 2) := by decide +kernel
theorem dX12_map_15 : decode cX12_map 15 = .ok (.invokestatic 111, 3) := by decide +kernel
theorem dX12_map_18 : decode cX12_map 18 = .ok (.ifCond .eq 7, 3) := by decide +kernel
theorem dX12_map_21 : decode cX12_map 21 = .ok (.iconst 0, 1) := by decide +kernel
theorem dX12_map_22 : decode cX12_map 22 = .ok (.goto 4, 3) := by decide +kernel
theorem dX12_map_25 : decode cX12_map 25 = .ok (.iconst (-1), 1) := by decide +kernel
theorem dX12_map_26 : decode cX12_map 26 = .ok (.istore_n 2, 1) := by decide +kernel
theorem dX12_map_27 : decode cX12_map 27 = .ok (.iload_n 2, 1) := by decide +kernel
theorem dX12_map_28 : decode cX12_map 28 = .ok (.ifCond .eq 11, 3) := by decide +kernel
theorem dX12_map_31 : decode cX12_map 31 = .ok (.aload_n 0, 1) := by decide +kernel
theorem dX12_map_32 : decode cX12_map 32 = .ok (.iload_n 2, 1) := by decide +kernel
theorem dX12_map_33 : decode cX12_map 33 = .ok (.invokevirtual 91, 3) := by decide +kernel
theorem dX12_map_36 : decode cX12_map 36 = .ok (.goto 8, 3) := by decide +kernel
theorem dX12_map_39 : decode cX12_map 39 = .ok (.aload_n 0, 1) := by decide +kernel
theorem dX12_map_40 : decode cX12_map 40 = .ok (.iload_n 1, 1) := by decide +kernel
theorem dX12_map_41 : decode cX12_map 41 = .ok (.invokevirtual 182, 3) := by decide +kernel
theorem dX12_map_44 : decode cX12_map 44 = .ok (.ireturn, 1) := by decide +kernel
theorem dX12_all_0 : decode cX12_all 0 = .ok (.aload_n 0, 1) := by decide +kernel
theorem dX12_all_1 : decode cX12_all 1 = .ok (.getfield 170, 3) := by decide +kernel
theorem dX12_all_4 : decode cX12_all 4 = .ok (.ifCond .ne 11, 3) := by decide +kernel
theorem dX12_all_7 : decode cX12_all 7 = .ok (.aload_n 0, 1) := by decide +kernel
theorem dX12_all_8 : decode cX12_all 8 = .ok (.bipush (-5), 2) := by decide +kernel
theorem dX12_all_10 : decode cX12_all 10 = .ok (.invokevirtual 91, 3) := by decide +kernel
theorem dX12_all_13 : decode cX12_all 13 = .ok (.i2l, 1) := by decide +kernel
theorem dX12_all_14 : decode cX12_all 14 = .ok (.lreturn, 1) := by decide +kernel
theorem dX12_all_15 : decode cX12_all 15 = .ok (.ldc2_w 142, 3) := by decide +kernel
theorem dX12_all_18 : decode cX12_all 18 = .ok (.lstore_n 2, 1) := by decide +kernel
theorem dX12_all_19 : decode cX12_all 19 = .ok (.iconst 0, 1) := by decide +kernel
theorem dX12_all_20 : decode cX12_all 20 = .ok (.istore 4, 2) := by decide +kernel
theorem dX12_all_22 : decode cX12_all 22 = .ok (.iload 4, 2) := by decide +kernel
theorem dX12_all_24 : decode cX12_all 24 = .ok (.aload_n 0, 1) := by decide +kernel
theorem dX12_all_25 : decode cX12_all 25 = .ok (.getfield 129, 3) := by decide +kernel
theorem dX12_all_28 : decode cX12_all 28 = .ok (.if_icmp .ge 37, 3) := by decide +kernel
theorem dX12_all_31 : decode cX12_all 31 = .ok (.lload_n 2, 1) := by decide +kernel
theorem dX12_all_32 : decode cX12_all 32 = .ok (.iload_n 1, 1) := by decide +kernel
theorem dX12_all_33 : decode cX12_all 33 = .ok (.ifCond .eq 13, 3) := by decide +kernel
theorem dX12_all_36 : decode cX12_all 36 = .ok (.aload_n 0, 1) := by decide +kernel
theorem dX12_all_37 : decode cX12_all 37 = .ok (.getfield 62, 3) := by decide +kernel
theorem dX12_all_40 : decode cX12_all 40 = .ok (.iload 4, 2) := by decide +kernel
theorem dX12_all_42 : decode cX12_all 42 = .ok (.laload, 1) := by decide +kernel
theorem dX12_all_43 : decode cX12_all 43 = .ok (.goto 14, 3) := by decide +kernel
theorem dX12_all_46 : decode cX12_all 46 = .ok (.aload_n 0, 1) := by decide +kernel
theorem dX12_all_47 : decode cX12_all 47 = .ok (.getfield 62, 3) := by decide +kernel
theorem dX12_all_50 : decode cX12_all 50 = .ok (.iload 4, 2) := by decide +kernel
theorem dX12_all_52 : decode cX12_all 52 = .ok (.laload, 1) := by decide +kernel
theorem dX12_all_53 : decode cX12_all 53 = .ok (.ldc2_w 152, 3) := by decide +kernel
theorem dX12_all_56 : decode cX12_all 56 = .ok (.lxor, 1) := by decide +kernel
theorem dX12_all_57 : decode cX12_all 57 = .ok (.land, 1) := by decide +kernel
theorem dX12_all_58 : decode cX12_all 58 = .ok (.lstore_n 2, 1) := by decide +kernel
theorem dX12_all_59 : decode cX12_all 59 = .ok (.iinc 4 1, 3) := by decide +kernel
theorem dX12_all_62 : decode cX12_all 62 = .ok (.goto (-40), 3) := by decide +kernel
theorem dX12_all_65 : decode cX12_all 65 = .ok (.lload_n 2, 1) := by decide +kernel
theorem dX12_all_66 : decode cX12_all 66 = .ok (.lreturn, 1) := by decide +kernel
theorem dX12_same_0 : decode cX12_same 0 = .ok (.aload_n 0, 1) := by decide +kernel
theorem dX12_same_1 : decode cX12_same 1 = .ok (.iload_n 1, 1) := by decide +kernel
theorem dX12_same_2 : decode cX12_same 2 = .ok (.invokevirtual 176, 3) := by decide +kernel
theorem dX12_same_5 : decode cX12_same 5 = .ok (.ifCond .eq 11, 3) := by decide +kernel
theorem dX12_same_8 : decode cX12_same 8 = .ok (.aload_n 0, 1) := by decide +kernel
theorem dX12_same_9 : decode cX12_same 9 = .ok (.iload_n 1, 1) := by decide +kernel
theorem dX12_same_10 : decode cX12_same 10 = .ok (.invokevirtual 176, 3) := by decide +kernel
theorem dX12_same_13 : decode cX12_same 13 = .ok (.goto 8, 3) := by decide +kernel
theorem dX12_same_16 : decode cX12_same 16 = .ok (.aload_n 0, 1) := by decide +kernel
theorem dX12_same_17 : decode cX12_same 17 = .ok (.iload_n 2, 1) := by decide +kernel
theorem dX12_same_18 : decode cX12_same 18 = .ok (.invokevirtual 176, 3) := by decide +kernel
theorem dX12_same_21 : decode cX12_same 21 = .ok (.istore_n 3, 1) := by decide +kernel
theorem dX12_same_22 : decode cX12_same 22 = .ok (.iload_n 3, 1) := by decide +kernel
theorem dX12_same_23 : decode cX12_same 23 = .ok (.ifCond .eq 11, 3) := by decide +kernel
theorem dX12_same_26 : decode cX12_same 26 = .ok (.aload_n 0, 1) := by decide +kernel
theorem dX12_same_27 : decode cX12_same 27 = .ok (.iload_n 3, 1) := by decide +kernel
theorem dX12_same_28 : decode cX12_same 28 = .ok (.invokevirtual 91, 3) := by decide +kernel
theorem dX12_same_31 : decode cX12_same 31 = .ok (.goto 24, 3) := by decide +kernel
theorem dX12_same_34 : decode cX12_same 34 = .ok (.aload_n 0, 1) := by decide +kernel
theorem dX12_same_35 : decode cX12_same 35 = .ok (.getfield 62, 3) := by decide +kernel
theorem dX12_same_38 : decode cX12_same 38 = .ok (.iload_n 1, 1) := by decide +kernel
theorem dX12_same_39 : decode cX12_same 39 = .ok (.laload, 1) := by decide +kernel
theorem dX12_same_40 : decode cX12_same 40 = .ok (.aload_n 0, 1) := by decide +kernel
theorem dX12_same_41 : decode cX12_same 41 = .ok (.getfield 62, 3) := by decide +kernel
theorem dX12_same_44 : decode cX12_same 44 = .ok (.iload_n 2, 1) := by decide +kernel
theorem dX12_same_45 : decode cX12_same 45 = .ok (.laload, 1) := by decide +kernel
theorem dX12_same_46 : decode cX12_same 46 = .ok (.lcmp, 1) := by decide +kernel
theorem dX12_same_47 : decode cX12_same 47 = .ok (.ifCond .ne 7, 3) := by decide +kernel
theorem dX12_same_50 : decode cX12_same 50 = .ok (.iconst 1, 1) := by decide +kernel
theorem dX12_same_51 : decode cX12_same 51 = .ok (.goto 4, 3) := by decide +kernel
theorem dX12_same_54 : decode cX12_same 54 = .ok (.iconst 0, 1) := by decide +kernel
theorem dX12_same_55 : decode cX12_same 55 = .ok (.ireturn, 1) := by decide +kernel
theorem dX12_findUnlike_0 : decode cX12_findUnlike 0 = .ok (.aload_n 0, 1) := by decide +kernel
theorem dX12_findUnlike_1 : decode cX12_findUnlike 1 = .ok (.iconst 0, 1) := by decide +kernel
theorem dX12_findUnlike_2 : decode cX12_findUnlike 2 = .ok (.putfield 185, 3) := by decide +kernel
theorem dX12_findUnlike_5 : decode cX12_findUnlike 5 = .ok (.iconst 0, 1) := by decide +kernel
theorem dX12_findUnlike_6 : decode cX12_findUnlike 6 = .ok (.istore_n 1, 1) := by decide +kernel
theorem dX12_findUnlike_7 : decode cX12_findUnlike 7 = .ok (.iload_n 1, 1) := by decide +kernel
theorem dX12_findUnlike_8 : decode cX12_findUnlike 8 = .ok (.aload_n 0, 1) := by decide +kernel
theorem dX12_findUnlike_9 : decode cX12_findUnlike 9 = .ok (.getfield 129, 3) := by decide +kernel
theorem dX12_findUnlike_12 : decode cX12_findUnlike 12 = .ok (.if_icmp .ge 85, 3) := by decide +kernel
theorem dX12_findUnlike_15 : decode cX12_findUnlike 15 = .ok (.iconst 0, 1) := by decide +kernel
theorem dX12_findUnlike_16 : decode cX12_findUnlike 16 = .ok (.istore_n 2, 1) := by decide +kernel
theorem dX12_findUnlike_17 : decode cX12_findUnlike 17 = .ok (.iconst 0, 1) := by decide +kernel
theorem dX12_findUnlike_18 : decode cX12_findUnlike 18 = .ok (.istore_n 3, 1) := by decide +kernel
theorem dX12_findUnlike_19 : decode cX12_findUnlike 19 = .ok (.iload_n 3, 1) := by decide +kernel
theorem dX12_findUnlike_20 : decode cX12_findUnlike 20 = .ok (.aload_n 0, 1) := by decide +kernel
theorem dX12_findUnlike_21 : decode cX12_findUnlike 21 = .ok (.getfield 185, 3) := by decide +kernel
theorem dX12_findUnlike_24 : decode cX12_findUnlike 24 = .ok (.if_icmp .ge 35, 3) := by decide +kernel
theorem dX12_findUnlike_27 : decode cX12_findUnlike 27 = .ok (.iload_n 2, 1) := by decide +kernel
theorem dX12_findUnlike_28 : decode cX12_findUnlike 28 = .ok (.ifCond .ne 19, 3) := by decide +kernel
theorem dX12_findUnlike_31 : decode cX12_findUnlike 31 = .ok (.aload_n 0, 1) := by decide +kernel
theorem dX12_findUnlike_32 : decode cX12_findUnlike 32 = .ok (.getfield 72, 3) := by decide +kernel
theorem dX12_findUnlike_35 : decode cX12_findUnlike 35 = .ok (.iload_n 3, 1) := by decide +kernel
theorem dX12_findUnlike_36 : decode cX12_findUnlike 36 = .ok (.laload, 1) := by decide +kernel
theorem dX12_findUnlike_37 : decode cX12_findUnlike 37 = .ok (.aload_n 0, 1) := by decide +kernel
theorem dX12_findUnlike_38 : decode cX12_findUnlike 38 = .ok (.getfield 62, 3) := by decide +kernel
theorem dX12_findUnlike_41 : decode cX12_findUnlike 41 = .ok (.iload_n 1, 1) := by decide +kernel
theorem dX12_findUnlike_42 : decode cX12_findUnlike 42 = .ok (.laload, 1) := by decide +kernel
theorem dX12_findUnlike_43 : decode cX12_findUnlike 43 = .ok (.lcmp, 1) := by decide +kernel
theorem dX12_findUnlike_44 : decode cX12_findUnlike 44 = .ok (.ifCond .ne 7, 3) := by decide +kernel
theorem dX12_findUnlike_47 : decode cX12_findUnlike 47 = .ok (.iconst 1, 1) := by decide +kernel
theorem dX12_findUnlike_48 : decode cX12_findUnlike 48 = .ok (.goto 4, 3) := by decide +kernel
theorem dX12_findUnlike_51 : decode cX12_findUnlike 51 = .ok (.iconst 0, 1) := by decide +kernel
theorem dX12_findUnlike_52 : decode cX12_findUnlike 52 = .ok (.istore_n 2, 1) := by decide +kernel
theorem dX12_findUnlike_53 : decode cX12_findUnlike 53 = .ok (.iinc 3 1, 3) := by decide +kernel
theorem dX12_findUnlike_56 : decode cX12_findUnlike 56 = .ok (.goto (-37), 3) := by decide +kernel
theorem dX12_findUnlike_59 : decode cX12_findUnlike 59 = .ok (.iload_n 2, 1) := by decide +kernel
