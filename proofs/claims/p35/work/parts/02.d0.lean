theorem dX0_init_0 : decode cX0_init 0 = .ok (.aload_n 0, 1) := by decide +kernel
theorem dX0_init_1 : decode cX0_init 1 = .ok (.invokespecial 3, 3) := by decide +kernel
theorem dX0_init_4 : decode cX0_init 4 = .ok (.aload_n 0, 1) := by decide +kernel
theorem dX0_init_5 : decode cX0_init 5 = .ok (.bipush 8, 2) := by decide +kernel
theorem dX0_init_7 : decode cX0_init 7 = .ok (.newarray .int, 2) := by decide +kernel
theorem dX0_init_9 : decode cX0_init 9 = .ok (.putfield 9, 3) := by decide +kernel
theorem dX0_init_12 : decode cX0_init 12 = .ok (.aload_n 0, 1) := by decide +kernel
theorem dX0_init_13 : decode cX0_init 13 = .ok (.bipush 8, 2) := by decide +kernel
theorem dX0_init_15 : decode cX0_init 15 = .ok (.newarray .int, 2) := by decide +kernel
theorem dX0_init_17 : decode cX0_init 17 = .ok (.putfield 15, 3) := by decide +kernel
theorem dX0_init_20 : decode cX0_init 20 = .ok (.return_, 1) := by decide +kernel
theorem dX0_size_0 : decode cX0_size 0 = .ok (.aload_n 0, 1) := by decide +kernel
theorem dX0_size_1 : decode cX0_size 1 = .ok (.getfield 18, 3) := by decide +kernel
theorem dX0_size_4 : decode cX0_size 4 = .ok (.ireturn, 1) := by decide +kernel
theorem dX0_add_0 : decode cX0_add 0 = .ok (.aload_n 0, 1) := by decide +kernel
theorem dX0_add_1 : decode cX0_add 1 = .ok (.getfield 18, 3) := by decide +kernel
theorem dX0_add_4 : decode cX0_add 4 = .ok (.bipush 8, 2) := by decide +kernel
theorem dX0_add_6 : decode cX0_add 6 = .ok (.if_icmp .ge 37, 3) := by decide +kernel
theorem dX0_add_9 : decode cX0_add 9 = .ok (.aload_n 0, 1) := by decide +kernel
theorem dX0_add_10 : decode cX0_add 10 = .ok (.getfield 9, 3) := by decide +kernel
theorem dX0_add_13 : decode cX0_add 13 = .ok (.aload_n 0, 1) := by decide +kernel
theorem dX0_add_14 : decode cX0_add 14 = .ok (.getfield 18, 3) := by decide +kernel
theorem dX0_add_17 : decode cX0_add 17 = .ok (.iload_n 1, 1) := by decide +kernel
theorem dX0_add_18 : decode cX0_add 18 = .ok (.invokestatic 22, 3) := by decide +kernel
theorem dX0_add_21 : decode cX0_add 21 = .ok (.aload_n 0, 1) := by decide +kernel
theorem dX0_add_22 : decode cX0_add 22 = .ok (.getfield 15, 3) := by decide +kernel
theorem dX0_add_25 : decode cX0_add 25 = .ok (.aload_n 0, 1) := by decide +kernel
theorem dX0_add_26 : decode cX0_add 26 = .ok (.getfield 18, 3) := by decide +kernel
theorem dX0_add_29 : decode cX0_add 29 = .ok (.iload_n 2, 1) := by decide +kernel
theorem dX0_add_30 : decode cX0_add 30 = .ok (.invokestatic 22, 3) := by decide +kernel
theorem dX0_add_33 : decode cX0_add 33 = .ok (.aload_n 0, 1) := by decide +kernel
theorem dX0_add_34 : decode cX0_add 34 = .ok (.dup, 1) := by decide +kernel
theorem dX0_add_35 : decode cX0_add 35 = .ok (.getfield 18, 3) := by decide +kernel
theorem dX0_add_38 : decode cX0_add 38 = .ok (.iconst 1, 1) := by decide +kernel
theorem dX0_add_39 : decode cX0_add 39 = .ok (.iadd, 1) := by decide +kernel
theorem dX0_add_40 : decode cX0_add 40 = .ok (.putfield 18, 3) := by decide +kernel
theorem dX0_add_43 : decode cX0_add 43 = .ok (.return_, 1) := by decide +kernel
theorem dX0_become_0 : decode cX0_become 0 = .ok (.aload_n 0, 1) := by decide +kernel
theorem dX0_become_1 : decode cX0_become 1 = .ok (.iconst 0, 1) := by decide +kernel
theorem dX0_become_2 : decode cX0_become 2 = .ok (.putfield 18, 3) := by decide +kernel
theorem dX0_become_5 : decode cX0_become 5 = .ok (.iconst 0, 1) := by decide +kernel
theorem dX0_become_6 : decode cX0_become 6 = .ok (.istore_n 2, 1) := by decide +kernel
theorem dX0_become_7 : decode cX0_become 7 = .ok (.iload_n 2, 1) := by decide +kernel
theorem dX0_become_8 : decode cX0_become 8 = .ok (.aload_n 1, 1) := by decide +kernel
theorem dX0_become_9 : decode cX0_become 9 = .ok (.getfield 18, 3) := by decide +kernel
theorem dX0_become_12 : decode cX0_become 12 = .ok (.if_icmp .ge 29, 3) := by decide +kernel
theorem dX0_become_15 : decode cX0_become 15 = .ok (.aload_n 0, 1) := by decide +kernel
theorem dX0_become_16 : decode cX0_become 16 = .ok (.aload_n 1, 1) := by decide +kernel
theorem dX0_become_17 : decode cX0_become 17 = .ok (.getfield 9, 3) := by decide +kernel
theorem dX0_become_20 : decode cX0_become 20 = .ok (.iload_n 2, 1) := by decide +kernel
theorem dX0_become_21 : decode cX0_become 21 = .ok (.invokestatic 26, 3) := by decide +kernel
theorem dX0_become_24 : decode cX0_become 24 = .ok (.aload_n 1, 1) := by decide +kernel
theorem dX0_become_25 : decode cX0_become 25 = .ok (.getfield 15, 3) := by decide +kernel
theorem dX0_become_28 : decode cX0_become 28 = .ok (.iload_n 2, 1) := by decide +kernel
theorem dX0_become_29 : decode cX0_become 29 = .ok (.invokestatic 26, 3) := by decide +kernel
theorem dX0_become_32 : decode cX0_become 32 = .ok (.invokevirtual 30, 3) := by decide +kernel
theorem dX0_become_35 : decode cX0_become 35 = .ok (.iinc 2 1, 3) := by decide +kernel
theorem dX0_become_38 : decode cX0_become 38 = .ok (.goto (-31), 3) := by decide +kernel
theorem dX0_become_41 : decode cX0_become 41 = .ok (.return_, 1) := by decide +kernel
theorem dX0_servedBy_0 : decode cX0_servedBy 0 = .ok (.iconst 0, 1) := by decide +kernel
theorem dX0_servedBy_1 : decode cX0_servedBy 1 = .ok (.istore_n 3, 1) := by decide +kernel
theorem dX0_servedBy_2 : decode cX0_servedBy 2 = .ok (.iconst 0, 1) := by decide +kernel
theorem dX0_servedBy_3 : decode cX0_servedBy 3 = .ok (.istore 4, 2) := by decide +kernel
theorem dX0_servedBy_5 : decode cX0_servedBy 5 = .ok (.iload 4, 2) := by decide +kernel
theorem dX0_servedBy_7 : decode cX0_servedBy 7 = .ok (.aload_n 0, 1) := by decide +kernel
theorem dX0_servedBy_8 : decode cX0_servedBy 8 = .ok (.getfield 18, 3) := by decide +kernel
theorem dX0_servedBy_11 : decode cX0_servedBy 11 = .ok (.if_icmp .ge 35, 3) := by decide +kernel
theorem dX0_servedBy_14 : decode cX0_servedBy 14 = .ok (.iload_n 3, 1) := by decide +kernel
theorem dX0_servedBy_15 : decode cX0_servedBy 15 = .ok (.aload_n 0, 1) := by decide +kernel
theorem dX0_servedBy_16 : decode cX0_servedBy 16 = .ok (.getfield 15, 3) := by decide +kernel
theorem dX0_servedBy_19 : decode cX0_servedBy 19 = .ok (.iload 4, 2) := by decide +kernel
theorem dX0_servedBy_21 : decode cX0_servedBy 21 = .ok (.invokestatic 26, 3) := by decide +kernel
theorem dX0_servedBy_24 : decode cX0_servedBy 24 = .ok (.lload_n 1, 1) := by decide +kernel
theorem dX0_servedBy_25 : decode cX0_servedBy 25 = .ok (.aload_n 0, 1) := by decide +kernel
theorem dX0_servedBy_26 : decode cX0_servedBy 26 = .ok (.getfield 9, 3) := by decide +kernel
theorem dX0_servedBy_29 : decode cX0_servedBy 29 = .ok (.iload 4, 2) := by decide +kernel
theorem dX0_servedBy_31 : decode cX0_servedBy 31 = .ok (.invokestatic 26, 3) := by decide +kernel
theorem dX0_servedBy_34 : decode cX0_servedBy 34 = .ok (.invokestatic 34, 3) := by decide +kernel
theorem dX0_servedBy_37 : decode cX0_servedBy 37 = .ok (.imul, 1) := by decide +kernel
theorem dX0_servedBy_38 : decode cX0_servedBy 38 = .ok (.iadd, 1) := by decide +kernel
theorem dX0_servedBy_39 : decode cX0_servedBy 39 = .ok (.istore_n 3, 1) := by decide +kernel
theorem dX0_servedBy_40 : decode cX0_servedBy 40 = .ok (.iinc 4 1, 3) := by decide +kernel
theorem dX0_servedBy_43 : decode cX0_servedBy 43 = .ok (.goto (-38), 3) := by decide +kernel
theorem dX0_servedBy_46 : decode cX0_servedBy 46 = .ok (.iload_n 3, 1) := by decide +kernel
theorem dX0_servedBy_47 : decode cX0_servedBy 47 = .ok (.ireturn, 1) := by decide +kernel
theorem dX1_init_0 : decode cX1_init 0 = .ok (.aload_n 0, 1) := by decide +kernel
theorem dX1_init_1 : decode cX1_init 1 = .ok (.invokespecial 1, 3) := by decide +kernel
theorem dX1_init_4 : decode cX1_init 4 = .ok (.aload_n 0, 1) := by decide +kernel
theorem dX1_init_5 : decode cX1_init 5 = .ok (.new 7, 3) := by decide +kernel
theorem dX1_init_8 : decode cX1_init 8 = .ok (.dup, 1) := by decide +kernel
theorem dX1_init_9 : decode cX1_init 9 = .ok (.invokespecial 9, 3) := by decide +kernel
theorem dX1_init_12 : decode cX1_init 12 = .ok (.putfield 10, 3) := by decide +kernel
theorem dX1_init_15 : decode cX1_init 15 = .ok (.aload_n 0, 1) := by decide +kernel
theorem dX1_init_16 : decode cX1_init 16 = .ok (.new 16, 3) := by decide +kernel
theorem dX1_init_19 : decode cX1_init 19 = .ok (.dup, 1) := by decide +kernel
theorem dX1_init_20 : decode cX1_init 20 = .ok (.invokespecial 18, 3) := by decide +kernel
theorem dX1_init_23 : decode cX1_init 23 = .ok (.putfield 19, 3) := by decide +kernel
theorem dX1_init_26 : decode cX1_init 26 = .ok (.aload_n 0, 1) := by decide +kernel
theorem dX1_init_27 : decode cX1_init 27 = .ok (.new 23, 3) := by decide +kernel
theorem dX1_init_30 : decode cX1_init 30 = .ok (.dup, 1) := by decide +kernel
theorem dX1_init_31 : decode cX1_init 31 = .ok (.invokespecial 25, 3) := by decide +kernel
theorem dX1_init_34 : decode cX1_init 34 = .ok (.putfield 26, 3) := by decide +kernel
theorem dX1_init_37 : decode cX1_init 37 = .ok (.return_, 1) := by decide +kernel
theorem dX1_isThere_0 : decode cX1_isThere 0 = .ok (.aload_n 0, 1) := by decide +kernel
theorem dX1_isThere_1 : decode cX1_isThere 1 = .ok (.getfield 30, 3) := by decide +kernel
theorem dX1_isThere_4 : decode cX1_isThere 4 = .ok (.ireturn, 1) := by decide +kernel
theorem dX1_words_0 : decode cX1_words 0 = .ok (.aload_n 0, 1) := by decide +kernel
theorem dX1_words_1 : decode cX1_words 1 = .ok (.getfield 10, 3) := by decide +kernel
theorem dX1_words_4 : decode cX1_words 4 = .ok (.areturn, 1) := by decide +kernel
theorem dX1_order_0 : decode cX1_order 0 = .ok (.aload_n 0, 1) := by decide +kernel
theorem dX1_order_1 : decode cX1_order 1 = .ok (.getfield 19, 3) := by decide +kernel
theorem dX1_order_4 : decode cX1_order 4 = .ok (.areturn, 1) := by decide +kernel
theorem dX1_aims_0 : decode cX1_aims 0 = .ok (.aload_n 0, 1) := by decide +kernel
theorem dX1_aims_1 : decode cX1_aims 1 = .ok (.getfield 26, 3) := by decide +kernel
theorem dX1_aims_4 : decode cX1_aims 4 = .ok (.areturn, 1) := by decide +kernel
theorem dX1_take_0 : decode cX1_take 0 = .ok (.aload_n 0, 1) := by decide +kernel
theorem dX1_take_1 : decode cX1_take 1 = .ok (.getfield 10, 3) := by decide +kernel
theorem dX1_take_4 : decode cX1_take 4 = .ok (.aload_n 1, 1) := by decide +kernel
theorem dX1_take_5 : decode cX1_take 5 = .ok (.invokevirtual 34, 3) := by decide +kernel
theorem dX1_take_8 : decode cX1_take 8 = .ok (.aload_n 0, 1) := by decide +kernel
theorem dX1_take_9 : decode cX1_take 9 = .ok (.getfield 19, 3) := by decide +kernel
theorem dX1_take_12 : decode cX1_take 12 = .ok (.aload_n 2, 1) := by decide +kernel
theorem dX1_take_13 : decode cX1_take 13 = .ok (.invokevirtual 38, 3) := by decide +kernel
theorem dX1_take_16 : decode cX1_take 16 = .ok (.aload_n 0, 1) := by decide +kernel
theorem dX1_take_17 : decode cX1_take 17 = .ok (.getfield 26, 3) := by decide +kernel
theorem dX1_take_20 : decode cX1_take 20 = .ok (.aload_n 3, 1) := by decide +kernel
theorem dX1_take_21 : decode cX1_take 21 = .ok (.invokevirtual 41, 3) := by decide +kernel
theorem dX1_take_24 : decode cX1_take 24 = .ok (.aload_n 0, 1) := by decide +kernel
theorem dX1_take_25 : decode cX1_take 25 = .ok (.iconst 1, 1) := by decide +kernel
theorem dX1_take_26 : decode cX1_take 26 = .ok (.putfield 30, 3) := by decide +kernel
theorem dX1_take_29 : decode cX1_take 29 = .ok (.return_, 1) := by decide +kernel
theorem dX2_init_0 : decode cX2_init 0 = .ok (.aload_n 0, 1) := by decide +kernel
theorem dX2_init_1 : decode cX2_init 1 = .ok (.invokespecial 3, 3) := by decide +kernel
theorem dX2_init_4 : decode cX2_init 4 = .ok (.aload_n 0, 1) := by decide +kernel
theorem dX2_init_5 : decode cX2_init 5 = .ok (.new 9, 3) := by decide +kernel
theorem dX2_init_8 : decode cX2_init 8 = .ok (.dup, 1) := by decide +kernel
theorem dX2_init_9 : decode cX2_init 9 = .ok (.invokespecial 11, 3) := by decide +kernel
theorem dX2_init_12 : decode cX2_init 12 = .ok (.putfield 12, 3) := by decide +kernel
theorem dX2_init_15 : decode cX2_init 15 = .ok (.aload_n 0, 1) := by decide +kernel
theorem dX2_init_16 : decode cX2_init 16 = .ok (.sipush 200, 3) := by decide +kernel
theorem dX2_init_19 : decode cX2_init 19 = .ok (.newarray .long, 2) := by decide +kernel
theorem dX2_init_21 : decode cX2_init 21 = .ok (.putfield 18, 3) := by decide +kernel
theorem dX2_init_24 : decode cX2_init 24 = .ok (.aload_n 0, 1) := by decide +kernel
theorem dX2_init_25 : decode cX2_init 25 = .ok (.sipush 200, 3) := by decide +kernel
theorem dX2_init_28 : decode cX2_init 28 = .ok (.newarray .int, 2) := by decide +kernel
theorem dX2_init_30 : decode cX2_init 30 = .ok (.putfield 22, 3) := by decide +kernel
theorem dX2_init_33 : decode cX2_init 33 = .ok (.aload_n 0, 1) := by decide +kernel
theorem dX2_init_34 : decode cX2_init 34 = .ok (.sipush 200, 3) := by decide +kernel
theorem dX2_init_37 : decode cX2_init 37 = .ok (.newarray .int, 2) := by decide +kernel
theorem dX2_init_39 : decode cX2_init 39 = .ok (.putfield 26, 3) := by decide +kernel
theorem dX2_init_42 : decode cX2_init 42 = .ok (.return_, 1) := by decide +kernel
theorem dX2_isMade_0 : decode cX2_isMade 0 = .ok (.aload_n 0, 1) := by decide +kernel
theorem dX2_isMade_1 : decode cX2_isMade 1 = .ok (.getfield 29, 3) := by decide +kernel
theorem dX2_isMade_4 : decode cX2_isMade 4 = .ok (.ireturn, 1) := by decide +kernel
theorem dX2_forget_0 : decode cX2_forget 0 = .ok (.aload_n 0, 1) := by decide +kernel
theorem dX2_forget_1 : decode cX2_forget 1 = .ok (.iconst 0, 1) := by decide +kernel
theorem dX2_forget_2 : decode cX2_forget 2 = .ok (.putfield 29, 3) := by decide +kernel
theorem dX2_forget_5 : decode cX2_forget 5 = .ok (.return_, 1) := by decide +kernel
theorem dX2_make_0 : decode cX2_make 0 = .ok (.aload_n 0, 1) := by decide +kernel
theorem dX2_make_1 : decode cX2_make 1 = .ok (.iload 4, 2) := by decide +kernel
theorem dX2_make_3 : decode cX2_make 3 = .ok (.putfield 33, 3) := by decide +kernel
theorem dX2_make_6 : decode cX2_make 6 = .ok (.iconst 0, 1) := by decide +kernel
theorem dX2_make_7 : decode cX2_make 7 = .ok (.istore 5, 2) := by decide +kernel
theorem dX2_make_9 : decode cX2_make 9 = .ok (.iload 5, 2) := by decide +kernel
theorem dX2_make_11 : decode cX2_make 11 = .ok (.aload_n 0, 1) := by decide +kernel
theorem dX2_make_12 : decode cX2_make 12 = .ok (.getfield 33, 3) := by decide +kernel
theorem dX2_make_15 : decode cX2_make 15 = .ok (.if_icmp .ge 75, 3) := by decide +kernel
theorem dX2_make_18 : decode cX2_make 18 = .ok (.aload_n 3, 1) := by decide +kernel
theorem dX2_make_19 : decode cX2_make 19 = .ok (.aload_n 1, 1) := by decide +kernel
theorem dX2_make_20 : decode cX2_make 20 = .ok (.aload_n 2, 1) := by decide +kernel
theorem dX2_make_21 : decode cX2_make 21 = .ok (.iload 5, 2) := by decide +kernel
theorem dX2_make_23 : decode cX2_make 23 = .ok (.i2l, 1) := by decide +kernel
theorem dX2_make_24 : decode cX2_make 24 = .ok (.invokevirtual 37, 3) := by decide +kernel
theorem dX2_make_27 : decode cX2_make 27 = .ok (.aload_n 0, 1) := by decide +kernel
theorem dX2_make_28 : decode cX2_make 28 = .ok (.getfield 12, 3) := by decide +kernel
theorem dX2_make_31 : decode cX2_make 31 = .ok (.aload_n 3, 1) := by decide +kernel
theorem dX2_make_32 : decode cX2_make 32 = .ok (.aload_n 1, 1) := by decide +kernel
theorem dX2_make_33 : decode cX2_make 33 = .ok (.invokevirtual 43, 3) := by decide +kernel
theorem dX2_make_36 : decode cX2_make 36 = .ok (.aload_n 0, 1) := by decide +kernel
theorem dX2_make_37 : decode cX2_make 37 = .ok (.getfield 18, 3) := by decide +kernel
theorem dX2_make_40 : decode cX2_make 40 = .ok (.iload 5, 2) := by decide +kernel
theorem dX2_make_42 : decode cX2_make 42 = .ok (.aload_n 0, 1) := by decide +kernel
theorem dX2_make_43 : decode cX2_make 43 = .ok (.getfield 12, 3) := by decide +kernel
theorem dX2_make_46 : decode cX2_make 46 = .ok (.invokevirtual 47, 3) := by decide +kernel
theorem dX2_make_49 : decode cX2_make 49 = .ok (.invokestatic 51, 3) := by decide +kernel
theorem dX2_make_52 : decode cX2_make 52 = .ok (.aload_n 0, 1) := by decide +kernel
theorem dX2_make_53 : decode cX2_make 53 = .ok (.getfield 22, 3) := by decide +kernel
theorem dX2_make_56 : decode cX2_make 56 = .ok (.iload 5, 2) := by decide +kernel
theorem dX2_make_58 : decode cX2_make 58 = .ok (.aload_n 0, 1) := by decide +kernel
theorem dX2_make_59 : decode cX2_make 59 = .ok (.getfield 12, 3) := by decide +kernel
theorem dX2_make_62 : decode cX2_make 62 = .ok (.invokevirtual 55, 3) := by decide +kernel
theorem dX2_make_65 : decode cX2_make 65 = .ok (.invokestatic 59, 3) := by decide +kernel
theorem dX2_make_68 : decode cX2_make 68 = .ok (.aload_n 0, 1) := by decide +kernel
theorem dX2_make_69 : decode cX2_make 69 = .ok (.getfield 26, 3) := by decide +kernel
theorem dX2_make_72 : decode cX2_make 72 = .ok (.iload 5, 2) := by decide +kernel
theorem dX2_make_74 : decode cX2_make 74 = .ok (.aload_n 0, 1) := by decide +kernel
theorem dX2_make_75 : decode cX2_make 75 = .ok (.getfield 12, 3) := by decide +kernel
theorem dX2_make_78 : decode cX2_make 78 = .ok (.invokevirtual 62, 3) := by decide +kernel
theorem dX2_make_81 : decode cX2_make 81 = .ok (.invokestatic 59, 3) := by decide +kernel
theorem dX2_make_84 : decode cX2_make 84 = .ok (.iinc 5 1, 3) := by decide +kernel
theorem dX2_make_87 : decode cX2_make 87 = .ok (.goto (-78), 3) := by decide +kernel
theorem dX2_make_90 : decode cX2_make 90 = .ok (.aload_n 0, 1) := by decide +kernel
theorem dX2_make_91 : decode cX2_make 91 = .ok (.iconst 1, 1) := by decide +kernel
theorem dX2_make_92 : decode cX2_make 92 = .ok (.putfield 29, 3) := by decide +kernel
theorem dX2_make_95 : decode cX2_make 95 = .ok (.return_, 1) := by decide +kernel
theorem dX2_size_0 : decode cX2_size 0 = .ok (.aload_n 0, 1) := by decide +kernel
theorem dX2_size_1 : decode cX2_size 1 = .ok (.getfield 33, 3) := by decide +kernel
theorem dX2_size_4 : decode cX2_size 4 = .ok (.ireturn, 1) := by decide +kernel
theorem dX2_meaning_0 : decode cX2_meaning 0 = .ok (.aload_n 0, 1) := by decide +kernel
theorem dX2_meaning_1 : decode cX2_meaning 1 = .ok (.getfield 18, 3) := by decide +kernel
theorem dX2_meaning_4 : decode cX2_meaning 4 = .ok (.iload_n 1, 1) := by decide +kernel
theorem dX2_meaning_5 : decode cX2_meaning 5 = .ok (.invokestatic 65, 3) := by decide +kernel
theorem dX2_meaning_8 : decode cX2_meaning 8 = .ok (.lreturn, 1) := by decide +kernel
theorem dX2_idlePlaces_0 : decode cX2_idlePlaces 0 = .ok (.aload_n 0, 1) := by decide +kernel
theorem dX2_idlePlaces_1 : decode cX2_idlePlaces 1 = .ok (.getfield 22, 3) := by decide +kernel
theorem dX2_idlePlaces_4 : decode cX2_idlePlaces 4 = .ok (.iload_n 1, 1) := by decide +kernel
theorem dX2_idlePlaces_5 : decode cX2_idlePlaces 5 = .ok (.invokestatic 69, 3) := by decide +kernel
theorem dX2_idlePlaces_8 : decode cX2_idlePlaces 8 = .ok (.ireturn, 1) := by decide +kernel
theorem dX2_isMet_0 : decode cX2_isMet 0 = .ok (.aload_n 0, 1) := by decide +kernel
theorem dX2_isMet_1 : decode cX2_isMet 1 = .ok (.getfield 26, 3) := by decide +kernel
theorem dX2_isMet_4 : decode cX2_isMet 4 = .ok (.iload_n 1, 1) := by decide +kernel
theorem dX2_isMet_5 : decode cX2_isMet 5 = .ok (.invokestatic 69, 3) := by decide +kernel
theorem dX2_isMet_8 : decode cX2_isMet 8 = .ok (.i2l, 1) := by decide +kernel
theorem dX2_isMet_9 : decode cX2_isMet 9 = .ok (.iload_n 2, 1) := by decide +kernel
theorem dX2_isMet_10 : decode cX2_isMet 10 = .ok (.invokestatic 72, 3) := by decide +kernel
theorem dX2_isMet_13 : decode cX2_isMet 13 = .ok (.iconst 1, 1) := by decide +kernel
theorem dX2_isMet_14 : decode cX2_isMet 14 = .ok (.if_icmp .ne 7, 3) := by decide +kernel
theorem dX2_isMet_17 : decode cX2_isMet 17 = .ok (.iconst 1, 1) := by decide +kernel
theorem dX2_isMet_18 : decode cX2_isMet 18 = .ok (.goto 4, 3) := by decide +kernel
theorem dX2_isMet_21 : decode cX2_isMet 21 = .ok (.iconst 0, 1) := by decide +kernel
theorem dX2_isMet_22 : decode cX2_isMet 22 = .ok (.ireturn, 1) := by decide +kernel
theorem dX2_lettingAt_0 : decode cX2_lettingAt 0 = .ok (.iconst 0, 1) := by decide +kernel
theorem dX2_lettingAt_1 : decode cX2_lettingAt 1 = .ok (.istore_n 2, 1) := by decide +kernel
theorem dX2_lettingAt_2 : decode cX2_lettingAt 2 = .ok (.iconst 0, 1) := by decide +kernel
theorem dX2_lettingAt_3 : decode cX2_lettingAt 3 = .ok (.istore_n 3, 1) := by decide +kernel
theorem dX2_lettingAt_4 : decode cX2_lettingAt 4 = .ok (.iload_n 3, 1) := by decide +kernel
theorem dX2_lettingAt_5 : decode cX2_lettingAt 5 = .ok (.aload_n 0, 1) := by decide +kernel
theorem dX2_lettingAt_6 : decode cX2_lettingAt 6 = .ok (.getfield 33, 3) := by decide +kernel
theorem dX2_lettingAt_9 : decode cX2_lettingAt 9 = .ok (.if_icmp .ge 21, 3) := by decide +kernel
theorem dX2_lettingAt_12 : decode cX2_lettingAt 12 = .ok (.iload_n 2, 1) := by decide +kernel
theorem dX2_lettingAt_13 : decode cX2_lettingAt 13 = .ok (.aload_n 0, 1) := by decide +kernel
theorem dX2_lettingAt_14 : decode cX2_lettingAt 14 = .ok (.iload_n 3, 1) := by decide +kernel
theorem dX2_lettingAt_15 : decode cX2_lettingAt 15 = .ok (.invokevirtual 76, 3) := by decide +kernel
theorem dX2_lettingAt_18 : decode cX2_lettingAt 18 = .ok (.iload_n 1, 1) := by decide +kernel
theorem dX2_lettingAt_19 : decode cX2_lettingAt 19 = .ok (.invokestatic 72, 3) := by decide +kernel
theorem dX2_lettingAt_22 : decode cX2_lettingAt 22 = .ok (.iadd, 1) := by decide +kernel
theorem dX2_lettingAt_23 : decode cX2_lettingAt 23 = .ok (.istore_n 2, 1) := by decide +kernel
theorem dX2_lettingAt_24 : decode cX2_lettingAt 24 = .ok (.iinc 3 1, 3) := by decide +kernel
theorem dX2_lettingAt_27 : decode cX2_lettingAt 27 = .ok (.goto (-23), 3) := by decide +kernel
theorem dX2_lettingAt_30 : decode cX2_lettingAt 30 = .ok (.iload_n 2, 1) := by decide +kernel
theorem dX2_lettingAt_31 : decode cX2_lettingAt 31 = .ok (.ireturn, 1) := by decide +kernel
theorem dX2_letByAll_0 : decode cX2_letByAll 0 = .ok (.ldc2_w 79, 3) := by decide +kernel
theorem dX2_letByAll_3 : decode cX2_letByAll 3 = .ok (.lstore_n 1, 1) := by decide +kernel
theorem dX2_letByAll_4 : decode cX2_letByAll 4 = .ok (.iconst 0, 1) := by decide +kernel
theorem dX2_letByAll_5 : decode cX2_letByAll 5 = .ok (.istore_n 3, 1) := by decide +kernel
theorem dX2_letByAll_6 : decode cX2_letByAll 6 = .ok (.iload_n 3, 1) := by decide +kernel
theorem dX2_letByAll_7 : decode cX2_letByAll 7 = .ok (.aload_n 0, 1) := by decide +kernel
theorem dX2_letByAll_8 : decode cX2_letByAll 8 = .ok (.getfield 33, 3) := by decide +kernel
theorem dX2_letByAll_11 : decode cX2_letByAll 11 = .ok (.if_icmp .ge 17, 3) := by decide +kernel
theorem dX2_letByAll_14 : decode cX2_letByAll 14 = .ok (.lload_n 1, 1) := by decide +kernel
theorem dX2_letByAll_15 : decode cX2_letByAll 15 = .ok (.aload_n 0, 1) := by decide +kernel
theorem dX2_letByAll_16 : decode cX2_letByAll 16 = .ok (.iload_n 3, 1) := by decide +kernel
theorem dX2_letByAll_17 : decode cX2_letByAll 17 = .ok (.invokevirtual 76, 3) := by decide +kernel
theorem dX2_letByAll_20 : decode cX2_letByAll 20 = .ok (.land, 1) := by decide +kernel
theorem dX2_letByAll_21 : decode cX2_letByAll 21 = .ok (.lstore_n 1, 1) := by decide +kernel
theorem dX2_letByAll_22 : decode cX2_letByAll 22 = .ok (.iinc 3 1, 3) := by decide +kernel
theorem dX2_letByAll_25 : decode cX2_letByAll 25 = .ok (.goto (-19), 3) := by decide +kernel
theorem dX2_letByAll_28 : decode cX2_letByAll 28 = .ok (.lload_n 1, 1) := by decide +kernel
theorem dX2_letByAll_29 : decode cX2_letByAll 29 = .ok (.lreturn, 1) := by decide +kernel
theorem dX2_barredByAll_0 : decode cX2_barredByAll 0 = .ok (.ldc2_w 79, 3) := by decide +kernel
theorem dX2_barredByAll_3 : decode cX2_barredByAll 3 = .ok (.lstore_n 1, 1) := by decide +kernel
theorem dX2_barredByAll_4 : decode cX2_barredByAll 4 = .ok (.iconst 0, 1) := by decide +kernel
theorem dX2_barredByAll_5 : decode cX2_barredByAll 5 = .ok (.istore_n 3, 1) := by decide +kernel
theorem dX2_barredByAll_6 : decode cX2_barredByAll 6 = .ok (.iload_n 3, 1) := by decide +kernel
theorem dX2_barredByAll_7 : decode cX2_barredByAll 7 = .ok (.aload_n 0, 1) := by decide +kernel
theorem dX2_barredByAll_8 : decode cX2_barredByAll 8 = .ok (.getfield 33, 3) := by decide +kernel
theorem dX2_barredByAll_11 : decode cX2_barredByAll 11 = .ok (.if_icmp .ge 21, 3) := by decide +kernel
theorem dX2_barredByAll_14 : decode cX2_barredByAll 14 = .ok (.lload_n 1, 1) := by decide +kernel
theorem dX2_barredByAll_15 : decode cX2_barredByAll 15 = .ok (.aload_n 0, 1) := by decide +kernel
theorem dX2_barredByAll_16 : decode cX2_barredByAll 16 = .ok (.iload_n 3, 1) := by decide +kernel
theorem dX2_barredByAll_17 : decode cX2_barredByAll 17 = .ok (.invokevirtual 76, 3) := by decide +kernel
theorem dX2_barredByAll_20 : decode cX2_barredByAll 20 = .ok (.ldc2_w 81, 3) := by decide +kernel
theorem dX2_barredByAll_23 : decode cX2_barredByAll 23 = .ok (.lxor, 1) := by decide +kernel
theorem dX2_barredByAll_24 : decode cX2_barredByAll 24 = .ok (.land, 1) := by decide +kernel
theorem dX2_barredByAll_25 : decode cX2_barredByAll 25 = .ok (.lstore_n 1, 1) := by decide +kernel
theorem dX2_barredByAll_26 : decode cX2_barredByAll 26 = .ok (.iinc 3 1, 3) := by decide +kernel
theorem dX2_barredByAll_29 : decode cX2_barredByAll 29 = .ok (.goto (-23), 3) := by decide +kernel
theorem dX2_barredByAll_32 : decode cX2_barredByAll 32 = .ok (.lload_n 1, 1) := by decide +kernel
theorem dX2_barredByAll_33 : decode cX2_barredByAll 33 = .ok (.lreturn, 1) := by decide +kernel
theorem dX2_idleInAll_0 : decode cX2_idleInAll 0 = .ok (.aload_n 0, 1) := by decide +kernel
theorem dX2_idleInAll_1 : decode cX2_idleInAll 1 = .ok (.iconst 0, 1) := by decide +kernel
theorem dX2_idleInAll_2 : decode cX2_idleInAll 2 = .ok (.invokevirtual 83, 3) := by decide +kernel
theorem dX2_idleInAll_5 : decode cX2_idleInAll 5 = .ok (.istore_n 1, 1) := by decide +kernel
theorem dX2_idleInAll_6 : decode cX2_idleInAll 6 = .ok (.iconst 1, 1) := by decide +kernel
theorem dX2_idleInAll_7 : decode cX2_idleInAll 7 = .ok (.istore_n 2, 1) := by decide +kernel
theorem dX2_idleInAll_8 : decode cX2_idleInAll 8 = .ok (.iload_n 2, 1) := by decide +kernel
theorem dX2_idleInAll_9 : decode cX2_idleInAll 9 = .ok (.aload_n 0, 1) := by decide +kernel
theorem dX2_idleInAll_10 : decode cX2_idleInAll 10 = .ok (.getfield 33, 3) := by decide +kernel
theorem dX2_idleInAll_13 : decode cX2_idleInAll 13 = .ok (.if_icmp .ge 17, 3) := by decide +kernel
theorem dX2_idleInAll_16 : decode cX2_idleInAll 16 = .ok (.iload_n 1, 1) := by decide +kernel
theorem dX2_idleInAll_17 : decode cX2_idleInAll 17 = .ok (.aload_n 0, 1) := by decide +kernel
theorem dX2_idleInAll_18 : decode cX2_idleInAll 18 = .ok (.iload_n 2, 1) := by decide +kernel
theorem dX2_idleInAll_19 : decode cX2_idleInAll 19 = .ok (.invokevirtual 83, 3) := by decide +kernel
theorem dX2_idleInAll_22 : decode cX2_idleInAll 22 = .ok (.iand, 1) := by decide +kernel
theorem dX2_idleInAll_23 : decode cX2_idleInAll 23 = .ok (.istore_n 1, 1) := by decide +kernel
theorem dX2_idleInAll_24 : decode cX2_idleInAll 24 = .ok (.iinc 2 1, 3) := by decide +kernel
theorem dX2_idleInAll_27 : decode cX2_idleInAll 27 = .ok (.goto (-19), 3) := by decide +kernel
theorem dX2_idleInAll_30 : decode cX2_idleInAll 30 = .ok (.iload_n 1, 1) := by decide +kernel
theorem dX2_idleInAll_31 : decode cX2_idleInAll 31 = .ok (.ireturn, 1) := by decide +kernel
theorem dX2_evenestCase_0 : decode cX2_evenestCase 0 = .ok (.iconst 0, 1) := by decide +kernel
theorem dX2_evenestCase_1 : decode cX2_evenestCase 1 = .ok (.istore_n 1, 1) := by decide +kernel
theorem dX2_evenestCase_2 : decode cX2_evenestCase 2 = .ok (.aload_n 0, 1) := by decide +kernel
theorem dX2_evenestCase_3 : decode cX2_evenestCase 3 = .ok (.getfield 33, 3) := by decide +kernel
theorem dX2_evenestCase_6 : decode cX2_evenestCase 6 = .ok (.iconst 1, 1) := by decide +kernel
theorem dX2_evenestCase_7 : decode cX2_evenestCase 7 = .ok (.iadd, 1) := by decide +kernel
theorem dX2_evenestCase_8 : decode cX2_evenestCase 8 = .ok (.istore_n 2, 1) := by decide +kernel
theorem dX2_evenestCase_9 : decode cX2_evenestCase 9 = .ok (.iconst 0, 1) := by decide +kernel
theorem dX2_evenestCase_10 : decode cX2_evenestCase 10 = .ok (.istore_n 3, 1) := by decide +kernel
theorem dX2_evenestCase_11 : decode cX2_evenestCase 11 = .ok (.iload_n 3, 1) := by decide +kernel
theorem dX2_evenestCase_12 : decode cX2_evenestCase 12 = .ok (.bipush 32, 2) := by decide +kernel
theorem dX2_evenestCase_14 : decode cX2_evenestCase 14 = .ok (.if_icmp .ge 37, 3) := by decide +kernel
theorem dX2_evenestCase_17 : decode cX2_evenestCase 17 = .ok (.iconst 2, 1) := by decide +kernel
theorem dX2_evenestCase_18 : decode cX2_evenestCase 18 = .ok (.aload_n 0, 1) := by decide +kernel
theorem dX2_evenestCase_19 : decode cX2_evenestCase 19 = .ok (.iload_n 3, 1) := by decide +kernel
theorem dX2_evenestCase_20 : decode cX2_evenestCase 20 = .ok (.invokevirtual 90, 3) := by decide +kernel
theorem dX2_evenestCase_23 : decode cX2_evenestCase 23 = .ok (.imul, 1) := by decide +kernel
theorem dX2_evenestCase_24 : decode cX2_evenestCase 24 = .ok (.aload_n 0, 1) := by decide +kernel
theorem dX2_evenestCase_25 : decode cX2_evenestCase 25 = .ok (.getfield 33, 3) := by decide +kernel
theorem dX2_evenestCase_28 : decode cX2_evenestCase 28 = .ok (.isub, 1) := by decide +kernel
theorem dX2_evenestCase_29 : decode cX2_evenestCase 29 = .ok (.invokestatic 93, 3) := by decide +kernel
theorem dX2_evenestCase_32 : decode cX2_evenestCase 32 = .ok (.istore 4, 2) := by decide +kernel
theorem dX2_evenestCase_34 : decode cX2_evenestCase 34 = .ok (.iload 4, 2) := by decide +kernel
theorem dX2_evenestCase_36 : decode cX2_evenestCase 36 = .ok (.iload_n 2, 1) := by decide +kernel
theorem dX2_evenestCase_37 : decode cX2_evenestCase 37 = .ok (.if_icmp .ge 8, 3) := by decide +kernel
theorem dX2_evenestCase_40 : decode cX2_evenestCase 40 = .ok (.iload 4, 2) := by decide +kernel
theorem dX2_evenestCase_42 : decode cX2_evenestCase 42 = .ok (.istore_n 2, 1) := by decide +kernel
theorem dX2_evenestCase_43 : decode cX2_evenestCase 43 = .ok (.iload_n 3, 1) := by decide +kernel
theorem dX2_evenestCase_44 : decode cX2_evenestCase 44 = .ok (.istore_n 1, 1) := by decide +kernel
theorem dX2_evenestCase_45 : decode cX2_evenestCase 45 = .ok (.iinc 3 1, 3) := by decide +kernel
theorem dX2_evenestCase_48 : decode cX2_evenestCase 48 = .ok (.goto (-37), 3) := by decide +kernel
theorem dX2_evenestCase_51 : decode cX2_evenestCase 51 = .ok (.iload_n 1, 1) := by decide +kernel
theorem dX2_evenestCase_52 : decode cX2_evenestCase 52 = .ok (.ireturn, 1) := by decide +kernel
theorem dX3_init_0 : decode cX3_init 0 = .ok (.aload_n 0, 1) := by decide +kernel
theorem dX3_init_1 : decode cX3_init 1 = .ok (.invokespecial 3, 3) := by decide +kernel
theorem dX3_init_4 : decode cX3_init 4 = .ok (.aload_n 0, 1) := by decide +kernel
theorem dX3_init_5 : decode cX3_init 5 = .ok (.sipush 484, 3) := by decide +kernel
theorem dX3_init_8 : decode cX3_init 8 = .ok (.newarray .int, 2) := by decide +kernel
theorem dX3_init_10 : decode cX3_init 10 = .ok (.putfield 11, 3) := by decide +kernel
theorem dX3_init_13 : decode cX3_init 13 = .ok (.aload_n 0, 1) := by decide +kernel
theorem dX3_init_14 : decode cX3_init 14 = .ok (.sipush 200, 3) := by decide +kernel
theorem dX3_init_17 : decode cX3_init 17 = .ok (.newarray .int, 2) := by decide +kernel
theorem dX3_init_19 : decode cX3_init 19 = .ok (.putfield 15, 3) := by decide +kernel
theorem dX3_init_22 : decode cX3_init 22 = .ok (.return_, 1) := by decide +kernel
theorem dX4_init_0 : decode cX4_init 0 = .ok (.aload_n 0, 1) := by decide +kernel
theorem dX4_init_1 : decode cX4_init 1 = .ok (.invokespecial 3, 3) := by decide +kernel
theorem dX4_init_4 : decode cX4_init 4 = .ok (.aload_n 0, 1) := by decide +kernel
theorem dX4_init_5 : decode cX4_init 5 = .ok (.bipush 6, 2) := by decide +kernel
theorem dX4_init_7 : decode cX4_init 7 = .ok (.newarray .int, 2) := by decide +kernel
theorem dX4_init_9 : decode cX4_init 9 = .ok (.putfield 9, 3) := by decide +kernel
theorem dX4_init_12 : decode cX4_init 12 = .ok (.return_, 1) := by decide +kernel
theorem dX4_size_0 : decode cX4_size 0 = .ok (.aload_n 0, 1) := by decide +kernel
theorem dX4_size_1 : decode cX4_size 1 = .ok (.getfield 15, 3) := by decide +kernel
theorem dX4_size_4 : decode cX4_size 4 = .ok (.ireturn, 1) := by decide +kernel
theorem dX4_at_0 : decode cX4_at 0 = .ok (.aload_n 0, 1) := by decide +kernel
theorem dX4_at_1 : decode cX4_at 1 = .ok (.getfield 9, 3) := by decide +kernel
theorem dX4_at_4 : decode cX4_at 4 = .ok (.iload_n 1, 1) := by decide +kernel
theorem dX4_at_5 : decode cX4_at 5 = .ok (.invokestatic 19, 3) := by decide +kernel
theorem dX4_at_8 : decode cX4_at 8 = .ok (.ireturn, 1) := by decide +kernel
theorem dX4_clear_0 : decode cX4_clear 0 = .ok (.aload_n 0, 1) := by decide +kernel
theorem dX4_clear_1 : decode cX4_clear 1 = .ok (.iconst 0, 1) := by decide +kernel
theorem dX4_clear_2 : decode cX4_clear 2 = .ok (.putfield 15, 3) := by decide +kernel
theorem dX4_clear_5 : decode cX4_clear 5 = .ok (.return_, 1) := by decide +kernel
theorem dX4_has_0 : decode cX4_has 0 = .ok (.iconst 0, 1) := by decide +kernel
theorem dX4_has_1 : decode cX4_has 1 = .ok (.istore_n 2, 1) := by decide +kernel
theorem dX4_has_2 : decode cX4_has 2 = .ok (.iload_n 2, 1) := by decide +kernel
theorem dX4_has_3 : decode cX4_has 3 = .ok (.aload_n 0, 1) := by decide +kernel
theorem dX4_has_4 : decode cX4_has 4 = .ok (.getfield 15, 3) := by decide +kernel
theorem dX4_has_7 : decode cX4_has 7 = .ok (.if_icmp .ge 20, 3) := by decide +kernel
theorem dX4_has_10 : decode cX4_has 10 = .ok (.aload_n 0, 1) := by decide +kernel
theorem dX4_has_11 : decode cX4_has 11 = .ok (.iload_n 2, 1) := by decide +kernel
theorem dX4_has_12 : decode cX4_has 12 = .ok (.invokevirtual 23, 3) := by decide +kernel
theorem dX4_has_15 : decode cX4_has 15 = .ok (.iload_n 1, 1) := by decide +kernel
theorem dX4_has_16 : decode cX4_has 16 = .ok (.if_icmp .ne 5, 3) := by decide +kernel
theorem dX4_has_19 : decode cX4_has 19 = .ok (.iconst 1, 1) := by decide +kernel
theorem dX4_has_20 : decode cX4_has 20 = .ok (.ireturn, 1) := by decide +kernel
theorem dX4_has_21 : decode cX4_has 21 = .ok (.iinc 2 1, 3) := by decide +kernel
theorem dX4_has_24 : decode cX4_has 24 = .ok (.goto (-22), 3) := by decide +kernel
theorem dX4_has_27 : decode cX4_has 27 = .ok (.iconst 0, 1) := by decide +kernel
theorem dX4_has_28 : decode cX4_has 28 = .ok (.ireturn, 1) := by decide +kernel
theorem dX4_add_0 : decode cX4_add 0 = .ok (.aload_n 0, 1) := by decide +kernel
theorem dX4_add_1 : decode cX4_add 1 = .ok (.getfield 15, 3) := by decide +kernel
theorem dX4_add_4 : decode cX4_add 4 = .ok (.bipush 6, 2) := by decide +kernel
theorem dX4_add_6 : decode cX4_add 6 = .ok (.if_icmp .ge 25, 3) := by decide +kernel
theorem dX4_add_9 : decode cX4_add 9 = .ok (.aload_n 0, 1) := by decide +kernel
theorem dX4_add_10 : decode cX4_add 10 = .ok (.getfield 9, 3) := by decide +kernel
theorem dX4_add_13 : decode cX4_add 13 = .ok (.aload_n 0, 1) := by decide +kernel
theorem dX4_add_14 : decode cX4_add 14 = .ok (.getfield 15, 3) := by decide +kernel
theorem dX4_add_17 : decode cX4_add 17 = .ok (.iload_n 1, 1) := by decide +kernel
theorem dX4_add_18 : decode cX4_add 18 = .ok (.invokestatic 27, 3) := by decide +kernel
theorem dX4_add_21 : decode cX4_add 21 = .ok (.aload_n 0, 1) := by decide +kernel
theorem dX4_add_22 : decode cX4_add 22 = .ok (.dup, 1) := by decide +kernel
theorem dX4_add_23 : decode cX4_add 23 = .ok (.getfield 15, 3) := by decide +kernel
theorem dX4_add_26 : decode cX4_add 26 = .ok (.iconst 1, 1) := by decide +kernel
theorem dX4_add_27 : decode cX4_add 27 = .ok (.iadd, 1) := by decide +kernel
theorem dX4_add_28 : decode cX4_add 28 = .ok (.putfield 15, 3) := by decide +kernel
theorem dX4_add_31 : decode cX4_add 31 = .ok (.return_, 1) := by decide +kernel
theorem dX4_become_0 : decode cX4_become 0 = .ok (.aload_n 0, 1) := by decide +kernel
theorem dX4_become_1 : decode cX4_become 1 = .ok (.invokevirtual 31, 3) := by decide +kernel
theorem dX4_become_4 : decode cX4_become 4 = .ok (.iconst 0, 1) := by decide +kernel
theorem dX4_become_5 : decode cX4_become 5 = .ok (.istore_n 2, 1) := by decide +kernel
theorem dX4_become_6 : decode cX4_become 6 = .ok (.iload_n 2, 1) := by decide +kernel
theorem dX4_become_7 : decode cX4_become 7 = .ok (.aload_n 1, 1) := by decide +kernel
theorem dX4_become_8 : decode cX4_become 8 = .ok (.getfield 15, 3) := by decide +kernel
theorem dX4_become_11 : decode cX4_become 11 = .ok (.if_icmp .ge 18, 3) := by decide +kernel
theorem dX4_become_14 : decode cX4_become 14 = .ok (.aload_n 0, 1) := by decide +kernel
theorem dX4_become_15 : decode cX4_become 15 = .ok (.aload_n 1, 1) := by decide +kernel
theorem dX4_become_16 : decode cX4_become 16 = .ok (.iload_n 2, 1) := by decide +kernel
theorem dX4_become_17 : decode cX4_become 17 = .ok (.invokevirtual 23, 3) := by decide +kernel
theorem dX4_become_20 : decode cX4_become 20 = .ok (.invokevirtual 34, 3) := by decide +kernel
theorem dX4_become_23 : decode cX4_become 23 = .ok (.iinc 2 1, 3) := by decide +kernel
theorem dX4_become_26 : decode cX4_become 26 = .ok (.goto (-20), 3) := by decide +kernel
theorem dX4_become_29 : decode cX4_become 29 = .ok (.return_, 1) := by decide +kernel
theorem dX5_init_0 : decode cX5_init 0 = .ok (.aload_n 0, 1) := by decide +kernel
theorem dX5_init_1 : decode cX5_init 1 = .ok (.invokespecial 3, 3) := by decide +kernel
theorem dX5_init_4 : decode cX5_init 4 = .ok (.aload_n 0, 1) := by decide +kernel
theorem dX5_init_5 : decode cX5_init 5 = .ok (.bipush 21, 2) := by decide +kernel
theorem dX5_init_7 : decode cX5_init 7 = .ok (.newarray .long, 2) := by decide +kernel
theorem dX5_init_9 : decode cX5_init 9 = .ok (.putfield 9, 3) := by decide +kernel
theorem dX5_init_12 : decode cX5_init 12 = .ok (.aload_n 0, 1) := by decide +kernel
theorem dX5_init_13 : decode cX5_init 13 = .ok (.bipush 21, 2) := by decide +kernel
theorem dX5_init_15 : decode cX5_init 15 = .ok (.newarray .long, 2) := by decide +kernel
theorem dX5_init_17 : decode cX5_init 17 = .ok (.putfield 15, 3) := by decide +kernel
theorem dX5_init_20 : decode cX5_init 20 = .ok (.aload_n 0, 1) := by decide +kernel
theorem dX5_init_21 : decode cX5_init 21 = .ok (.bipush 21, 2) := by decide +kernel
theorem dX5_init_23 : decode cX5_init 23 = .ok (.newarray .int, 2) := by decide +kernel
theorem dX5_init_25 : decode cX5_init 25 = .ok (.putfield 18, 3) := by decide +kernel
theorem dX5_init_28 : decode cX5_init 28 = .ok (.return_, 1) := by decide +kernel
theorem dX5_meaning_0 : decode cX5_meaning 0 = .ok (.aload_n 0, 1) := by decide +kernel
theorem dX5_meaning_1 : decode cX5_meaning 1 = .ok (.getfield 9, 3) := by decide +kernel
theorem dX5_meaning_4 : decode cX5_meaning 4 = .ok (.iconst 0, 1) := by decide +kernel
theorem dX5_meaning_5 : decode cX5_meaning 5 = .ok (.invokestatic 22, 3) := by decide +kernel
theorem dX5_meaning_8 : decode cX5_meaning 8 = .ok (.lreturn, 1) := by decide +kernel
theorem dX5_idlePlaces_0 : decode cX5_idlePlaces 0 = .ok (.aload_n 0, 1) := by decide +kernel
theorem dX5_idlePlaces_1 : decode cX5_idlePlaces 1 = .ok (.getfield 26, 3) := by decide +kernel
theorem dX5_idlePlaces_4 : decode cX5_idlePlaces 4 = .ok (.ireturn, 1) := by decide +kernel
theorem dX5_metRules_0 : decode cX5_metRules 0 = .ok (.aload_n 0, 1) := by decide +kernel
theorem dX5_metRules_1 : decode cX5_metRules 1 = .ok (.getfield 30, 3) := by decide +kernel
theorem dX5_metRules_4 : decode cX5_metRules 4 = .ok (.ireturn, 1) := by decide +kernel
theorem dX5_weigh_0 : decode cX5_weigh 0 = .ok (.iconst 0, 1) := by decide +kernel
theorem dX5_weigh_1 : decode cX5_weigh 1 = .ok (.istore_n 3, 1) := by decide +kernel
theorem dX5_weigh_2 : decode cX5_weigh 2 = .ok (.aload_n 1, 1) := by decide +kernel
theorem dX5_weigh_3 : decode cX5_weigh 3 = .ok (.invokevirtual 33, 3) := by decide +kernel
theorem dX5_weigh_6 : decode cX5_weigh 6 = .ok (.iconst 1, 1) := by decide +kernel
theorem dX5_weigh_7 : decode cX5_weigh 7 = .ok (.isub, 1) := by decide +kernel
theorem dX5_weigh_8 : decode cX5_weigh 8 = .ok (.istore 4, 2) := by decide +kernel
theorem dX5_weigh_10 : decode cX5_weigh 10 = .ok (.iload 4, 2) := by decide +kernel
theorem dX5_weigh_12 : decode cX5_weigh 12 = .ok (.ifCond .lt 53, 3) := by decide +kernel
theorem dX5_weigh_15 : decode cX5_weigh 15 = .ok (.aload_n 0, 1) := by decide +kernel
theorem dX5_weigh_16 : decode cX5_weigh 16 = .ok (.getfield 9, 3) := by decide +kernel
theorem dX5_weigh_19 : decode cX5_weigh 19 = .ok (.iload 4, 2) := by decide +kernel
theorem dX5_weigh_21 : decode cX5_weigh 21 = .ok (.aload_n 0, 1) := by decide +kernel
theorem dX5_weigh_22 : decode cX5_weigh 22 = .ok (.aload_n 1, 1) := by decide +kernel
theorem dX5_weigh_23 : decode cX5_weigh 23 = .ok (.aload_n 2, 1) := by decide +kernel
theorem dX5_weigh_24 : decode cX5_weigh 24 = .ok (.iload 4, 2) := by decide +kernel
theorem dX5_weigh_26 : decode cX5_weigh 26 = .ok (.invokevirtual 39, 3) := by decide +kernel
theorem dX5_weigh_29 : decode cX5_weigh 29 = .ok (.invokestatic 43, 3) := by decide +kernel
theorem dX5_weigh_32 : decode cX5_weigh 32 = .ok (.aload_n 0, 1) := by decide +kernel
theorem dX5_weigh_33 : decode cX5_weigh 33 = .ok (.getfield 18, 3) := by decide +kernel
theorem dX5_weigh_36 : decode cX5_weigh 36 = .ok (.iload 4, 2) := by decide +kernel
theorem dX5_weigh_38 : decode cX5_weigh 38 = .ok (.aload_n 0, 1) := by decide +kernel
theorem dX5_weigh_39 : decode cX5_weigh 39 = .ok (.aload_n 1, 1) := by decide +kernel
theorem dX5_weigh_40 : decode cX5_weigh 40 = .ok (.iload 4, 2) := by decide +kernel
theorem dX5_weigh_42 : decode cX5_weigh 42 = .ok (.invokevirtual 47, 3) := by decide +kernel
theorem dX5_weigh_45 : decode cX5_weigh 45 = .ok (.invokestatic 51, 3) := by decide +kernel
theorem dX5_weigh_48 : decode cX5_weigh 48 = .ok (.iload_n 3, 1) := by decide +kernel
theorem dX5_weigh_49 : decode cX5_weigh 49 = .ok (.aload_n 0, 1) := by decide +kernel
theorem dX5_weigh_50 : decode cX5_weigh 50 = .ok (.aload_n 1, 1) := by decide +kernel
theorem dX5_weigh_51 : decode cX5_weigh 51 = .ok (.aload_n 2, 1) := by decide +kernel
theorem dX5_weigh_52 : decode cX5_weigh 52 = .ok (.iload 4, 2) := by decide +kernel
theorem dX5_weigh_54 : decode cX5_weigh 54 = .ok (.invokevirtual 54, 3) := by decide +kernel
theorem dX5_weigh_57 : decode cX5_weigh 57 = .ok (.ior, 1) := by decide +kernel
theorem dX5_weigh_58 : decode cX5_weigh 58 = .ok (.istore_n 3, 1) := by decide +kernel
theorem dX5_weigh_59 : decode cX5_weigh 59 = .ok (.iinc 4 (-1), 3) := by decide +kernel
theorem dX5_weigh_62 : decode cX5_weigh 62 = .ok (.goto (-52), 3) := by decide +kernel
theorem dX5_weigh_65 : decode cX5_weigh 65 = .ok (.aload_n 0, 1) := by decide +kernel
theorem dX5_weigh_66 : decode cX5_weigh 66 = .ok (.aload_n 1, 1) := by decide +kernel
theorem dX5_weigh_67 : decode cX5_weigh 67 = .ok (.invokevirtual 58, 3) := by decide +kernel
theorem dX5_weigh_70 : decode cX5_weigh 70 = .ok (.aload_n 0, 1) := by decide +kernel
theorem dX5_weigh_71 : decode cX5_weigh 71 = .ok (.bipush 63, 2) := by decide +kernel
theorem dX5_weigh_73 : decode cX5_weigh 73 = .ok (.iload_n 3, 1) := by decide +kernel
theorem dX5_weigh_74 : decode cX5_weigh 74 = .ok (.aload_n 0, 1) := by decide +kernel
theorem dX5_weigh_75 : decode cX5_weigh 75 = .ok (.invokevirtual 62, 3) := by decide +kernel
theorem dX5_weigh_78 : decode cX5_weigh 78 = .ok (.ior, 1) := by decide +kernel
theorem dX5_weigh_79 : decode cX5_weigh 79 = .ok (.iconst (-1), 1) := by decide +kernel
theorem dX5_weigh_80 : decode cX5_weigh 80 = .ok (.ixor, 1) := by decide +kernel
theorem dX5_weigh_81 : decode cX5_weigh 81 = .ok (.iand, 1) := by decide +kernel
theorem dX5_weigh_82 : decode cX5_weigh 82 = .ok (.putfield 30, 3) := by decide +kernel
theorem dX5_weigh_85 : decode cX5_weigh 85 = .ok (.return_, 1) := by decide +kernel
theorem dX5_meaningOf_0 : decode cX5_meaningOf 0 = .ok (.aload_n 0, 1) := by decide +kernel
theorem dX5_meaningOf_1 : decode cX5_meaningOf 1 = .ok (.getfield 9, 3) := by decide +kernel
theorem dX5_meaningOf_4 : decode cX5_meaningOf 4 = .ok (.aload_n 1, 1) := by decide +kernel
theorem dX5_meaningOf_5 : decode cX5_meaningOf 5 = .ok (.iload_n 3, 1) := by decide +kernel
theorem dX5_meaningOf_6 : decode cX5_meaningOf 6 = .ok (.invokevirtual 65, 3) := by decide +kernel
theorem dX5_meaningOf_9 : decode cX5_meaningOf 9 = .ok (.invokestatic 22, 3) := by decide +kernel
theorem dX5_meaningOf_12 : decode cX5_meaningOf 12 = .ok (.lstore 4, 2) := by decide +kernel
theorem dX5_meaningOf_14 : decode cX5_meaningOf 14 = .ok (.aload_n 0, 1) := by decide +kernel
theorem dX5_meaningOf_15 : decode cX5_meaningOf 15 = .ok (.getfield 9, 3) := by decide +kernel
theorem dX5_meaningOf_18 : decode cX5_meaningOf 18 = .ok (.aload_n 1, 1) := by decide +kernel
theorem dX5_meaningOf_19 : decode cX5_meaningOf 19 = .ok (.iload_n 3, 1) := by decide +kernel
theorem dX5_meaningOf_20 : decode cX5_meaningOf 20 = .ok (.invokevirtual 69, 3) := by decide +kernel
theorem dX5_meaningOf_23 : decode cX5_meaningOf 23 = .ok (.invokestatic 22, 3) := by decide +kernel
theorem dX5_meaningOf_26 : decode cX5_meaningOf 26 = .ok (.lstore 6, 2) := by decide +kernel
theorem dX5_meaningOf_28 : decode cX5_meaningOf 28 = .ok (.aload_n 1, 1) := by decide +kernel
theorem dX5_meaningOf_29 : decode cX5_meaningOf 29 = .ok (.iload_n 3, 1) := by decide +kernel
theorem dX5_meaningOf_30 : decode cX5_meaningOf 30 = .ok (.invokevirtual 72, 3) := by decide +kernel
theorem dX5_meaningOf_33 : decode cX5_meaningOf 33 = .ok (.tableswitch 103 0 6 #[43, 56, 103, 67, 73, 79, 93], 43) := by decide +kernel
theorem dX5_meaningOf_76 : decode cX5_meaningOf 76 = .ok (.aload_n 2, 1) := by decide +kernel
theorem dX5_meaningOf_77 : decode cX5_meaningOf 77 = .ok (.aload_n 1, 1) := by decide +kernel
theorem dX5_meaningOf_78 : decode cX5_meaningOf 78 = .ok (.iload_n 3, 1) := by decide +kernel
theorem dX5_meaningOf_79 : decode cX5_meaningOf 79 = .ok (.invokevirtual 75, 3) := by decide +kernel
theorem dX5_meaningOf_82 : decode cX5_meaningOf 82 = .ok (.invokevirtual 78, 3) := by decide +kernel
theorem dX5_meaningOf_85 : decode cX5_meaningOf 85 = .ok (.invokestatic 83, 3) := by decide +kernel
theorem dX5_meaningOf_88 : decode cX5_meaningOf 88 = .ok (.lreturn, 1) := by decide +kernel
theorem dX5_meaningOf_89 : decode cX5_meaningOf 89 = .ok (.ldc2_w 87, 3) := by decide +kernel
theorem dX5_meaningOf_92 : decode cX5_meaningOf 92 = .ok (.lload 4, 2) := by decide +kernel
theorem dX5_meaningOf_94 : decode cX5_meaningOf 94 = .ok (.ldc2_w 89, 3) := by decide +kernel
theorem dX5_meaningOf_97 : decode cX5_meaningOf 97 = .ok (.lxor, 1) := by decide +kernel
theorem dX5_meaningOf_98 : decode cX5_meaningOf 98 = .ok (.land, 1) := by decide +kernel
theorem dX5_meaningOf_99 : decode cX5_meaningOf 99 = .ok (.lreturn, 1) := by decide +kernel
theorem dX5_meaningOf_100 : decode cX5_meaningOf 100 = .ok (.lload 4, 2) := by decide +kernel
theorem dX5_meaningOf_102 : decode cX5_meaningOf 102 = .ok (.lload 6, 2) := by decide +kernel
theorem dX5_meaningOf_104 : decode cX5_meaningOf 104 = .ok (.land, 1) := by decide +kernel
theorem dX5_meaningOf_105 : decode cX5_meaningOf 105 = .ok (.lreturn, 1) := by decide +kernel
theorem dX5_meaningOf_106 : decode cX5_meaningOf 106 = .ok (.lload 4, 2) := by decide +kernel
theorem dX5_meaningOf_108 : decode cX5_meaningOf 108 = .ok (.lload 6, 2) := by decide +kernel
theorem dX5_meaningOf_110 : decode cX5_meaningOf 110 = .ok (.lor, 1) := by decide +kernel
theorem dX5_meaningOf_111 : decode cX5_meaningOf 111 = .ok (.lreturn, 1) := by decide +kernel
theorem dX5_meaningOf_112 : decode cX5_meaningOf 112 = .ok (.ldc2_w 87, 3) := by decide +kernel
theorem dX5_meaningOf_115 : decode cX5_meaningOf 115 = .ok (.lload 4, 2) := by decide +kernel
theorem dX5_meaningOf_117 : decode cX5_meaningOf 117 = .ok (.ldc2_w 89, 3) := by decide +kernel
theorem dX5_meaningOf_120 : decode cX5_meaningOf 120 = .ok (.lxor, 1) := by decide +kernel
theorem dX5_meaningOf_121 : decode cX5_meaningOf 121 = .ok (.lload 6, 2) := by decide +kernel
theorem dX5_meaningOf_123 : decode cX5_meaningOf 123 = .ok (.lor, 1) := by decide +kernel
theorem dX5_meaningOf_124 : decode cX5_meaningOf 124 = .ok (.land, 1) := by decide +kernel
theorem dX5_meaningOf_125 : decode cX5_meaningOf 125 = .ok (.lreturn, 1) := by decide +kernel
theorem dX5_meaningOf_126 : decode cX5_meaningOf 126 = .ok (.lload 4, 2) := by decide +kernel
theorem dX5_meaningOf_128 : decode cX5_meaningOf 128 = .ok (.lload 6, 2) := by decide +kernel
theorem dX5_meaningOf_130 : decode cX5_meaningOf 130 = .ok (.ldc2_w 89, 3) := by decide +kernel
theorem dX5_meaningOf_133 : decode cX5_meaningOf 133 = .ok (.lxor, 1) := by decide +kernel
theorem dX5_meaningOf_134 : decode cX5_meaningOf 134 = .ok (.land, 1) := by decide +kernel
theorem dX5_meaningOf_135 : decode cX5_meaningOf 135 = .ok (.lreturn, 1) := by decide +kernel
theorem dX5_meaningOf_136 : decode cX5_meaningOf 136 = .ok (.lload 4, 2) := by decide +kernel
theorem dX5_meaningOf_138 : decode cX5_meaningOf 138 = .ok (.lreturn, 1) := by decide +kernel
theorem dX5_bareOf_0 : decode cX5_bareOf 0 = .ok (.aload_n 1, 1) := by decide +kernel
theorem dX5_bareOf_1 : decode cX5_bareOf 1 = .ok (.iload_n 2, 1) := by decide +kernel
theorem dX5_bareOf_2 : decode cX5_bareOf 2 = .ok (.invokevirtual 72, 3) := by decide +kernel
theorem dX5_bareOf_5 : decode cX5_bareOf 5 = .ok (.istore_n 3, 1) := by decide +kernel
theorem dX5_bareOf_6 : decode cX5_bareOf 6 = .ok (.iload_n 3, 1) := by decide +kernel
theorem dX5_bareOf_7 : decode cX5_bareOf 7 = .ok (.ifCond .eq 8, 3) := by decide +kernel
theorem dX5_bareOf_10 : decode cX5_bareOf 10 = .ok (.iload_n 3, 1) := by decide +kernel
theorem dX5_bareOf_11 : decode cX5_bareOf 11 = .ok (.iconst 2, 1) := by decide +kernel
theorem dX5_bareOf_12 : decode cX5_bareOf 12 = .ok (.if_icmp .ne 5, 3) := by decide +kernel
theorem dX5_bareOf_15 : decode cX5_bareOf 15 = .ok (.iconst 0, 1) := by decide +kernel
theorem dX5_bareOf_16 : decode cX5_bareOf 16 = .ok (.ireturn, 1) := by decide +kernel
theorem dX5_bareOf_17 : decode cX5_bareOf 17 = .ok (.aload_n 0, 1) := by decide +kernel
theorem dX5_bareOf_18 : decode cX5_bareOf 18 = .ok (.getfield 18, 3) := by decide +kernel
theorem dX5_bareOf_21 : decode cX5_bareOf 21 = .ok (.aload_n 1, 1) := by decide +kernel
theorem dX5_bareOf_22 : decode cX5_bareOf 22 = .ok (.iload_n 2, 1) := by decide +kernel
theorem dX5_bareOf_23 : decode cX5_bareOf 23 = .ok (.invokevirtual 65, 3) := by decide +kernel
theorem dX5_bareOf_26 : decode cX5_bareOf 26 = .ok (.invokestatic 91, 3) := by decide +kernel
theorem dX5_bareOf_29 : decode cX5_bareOf 29 = .ok (.istore 4, 2) := by decide +kernel
theorem dX5_bareOf_31 : decode cX5_bareOf 31 = .ok (.iload_n 3, 1) := by decide +kernel
theorem dX5_bareOf_32 : decode cX5_bareOf 32 = .ok (.iconst 1, 1) := by decide +kernel
theorem dX5_bareOf_33 : decode cX5_bareOf 33 = .ok (.if_icmp .ne 8, 3) := by decide +kernel
theorem dX5_bareOf_36 : decode cX5_bareOf 36 = .ok (.iload 4, 2) := by decide +kernel
theorem dX5_bareOf_38 : decode cX5_bareOf 38 = .ok (.goto 22, 3) := by decide +kernel
theorem dX5_bareOf_41 : decode cX5_bareOf 41 = .ok (.iload 4, 2) := by decide +kernel
theorem dX5_bareOf_43 : decode cX5_bareOf 43 = .ok (.aload_n 0, 1) := by decide +kernel
theorem dX5_bareOf_44 : decode cX5_bareOf 44 = .ok (.getfield 18, 3) := by decide +kernel
theorem dX5_bareOf_47 : decode cX5_bareOf 47 = .ok (.aload_n 1, 1) := by decide +kernel
theorem dX5_bareOf_48 : decode cX5_bareOf 48 = .ok (.iload_n 2, 1) := by decide +kernel
theorem dX5_bareOf_49 : decode cX5_bareOf 49 = .ok (.invokevirtual 69, 3) := by decide +kernel
theorem dX5_bareOf_52 : decode cX5_bareOf 52 = .ok (.invokestatic 91, 3) := by decide +kernel
theorem dX5_bareOf_55 : decode cX5_bareOf 55 = .ok (.ior, 1) := by decide +kernel
theorem dX5_bareOf_56 : decode cX5_bareOf 56 = .ok (.iconst 1, 1) := by decide +kernel
theorem dX5_bareOf_57 : decode cX5_bareOf 57 = .ok (.iload_n 3, 1) := by decide +kernel
theorem dX5_bareOf_58 : decode cX5_bareOf 58 = .ok (.ishl, 1) := by decide +kernel
theorem dX5_bareOf_59 : decode cX5_bareOf 59 = .ok (.ior, 1) := by decide +kernel
theorem dX5_bareOf_60 : decode cX5_bareOf 60 = .ok (.ireturn, 1) := by decide +kernel
theorem dX5_findIdle_0 : decode cX5_findIdle 0 = .ok (.aload_n 0, 1) := by decide +kernel
theorem dX5_findIdle_1 : decode cX5_findIdle 1 = .ok (.iconst 0, 1) := by decide +kernel
theorem dX5_findIdle_2 : decode cX5_findIdle 2 = .ok (.putfield 26, 3) := by decide +kernel
theorem dX5_findIdle_5 : decode cX5_findIdle 5 = .ok (.aload_n 0, 1) := by decide +kernel
theorem dX5_findIdle_6 : decode cX5_findIdle 6 = .ok (.getfield 15, 3) := by decide +kernel
theorem dX5_findIdle_9 : decode cX5_findIdle 9 = .ok (.iconst 0, 1) := by decide +kernel
theorem dX5_findIdle_10 : decode cX5_findIdle 10 = .ok (.ldc2_w 87, 3) := by decide +kernel
theorem dX5_findIdle_13 : decode cX5_findIdle 13 = .ok (.invokestatic 43, 3) := by decide +kernel
theorem dX5_findIdle_16 : decode cX5_findIdle 16 = .ok (.iconst 0, 1) := by decide +kernel
theorem dX5_findIdle_17 : decode cX5_findIdle 17 = .ok (.istore_n 2, 1) := by decide +kernel
theorem dX5_findIdle_18 : decode cX5_findIdle 18 = .ok (.iload_n 2, 1) := by decide +kernel
theorem dX5_findIdle_19 : decode cX5_findIdle 19 = .ok (.aload_n 1, 1) := by decide +kernel
theorem dX5_findIdle_20 : decode cX5_findIdle 20 = .ok (.invokevirtual 33, 3) := by decide +kernel
theorem dX5_findIdle_23 : decode cX5_findIdle 23 = .ok (.if_icmp .ge 169, 3) := by decide +kernel
theorem dX5_findIdle_26 : decode cX5_findIdle 26 = .ok (.aload_n 1, 1) := by decide +kernel
theorem dX5_findIdle_27 : decode cX5_findIdle 27 = .ok (.iload_n 2, 1) := by decide +kernel
theorem dX5_findIdle_28 : decode cX5_findIdle 28 = .ok (.invokevirtual 72, 3) := by decide +kernel
theorem dX5_findIdle_31 : decode cX5_findIdle 31 = .ok (.istore_n 3, 1) := by decide +kernel
theorem dX5_findIdle_32 : decode cX5_findIdle 32 = .ok (.aload_n 0, 1) := by decide +kernel
theorem dX5_findIdle_33 : decode cX5_findIdle 33 = .ok (.getfield 15, 3) := by decide +kernel
theorem dX5_findIdle_36 : decode cX5_findIdle 36 = .ok (.iload_n 2, 1) := by decide +kernel
theorem dX5_findIdle_37 : decode cX5_findIdle 37 = .ok (.invokestatic 22, 3) := by decide +kernel
theorem dX5_findIdle_40 : decode cX5_findIdle 40 = .ok (.lstore 4, 2) := by decide +kernel
theorem dX5_findIdle_42 : decode cX5_findIdle 42 = .ok (.iload_n 3, 1) := by decide +kernel
theorem dX5_findIdle_43 : decode cX5_findIdle 43 = .ok (.invokestatic 94, 3) := by decide +kernel
theorem dX5_findIdle_46 : decode cX5_findIdle 46 = .ok (.ifCond .eq 96, 3) := by decide +kernel
theorem dX5_findIdle_49 : decode cX5_findIdle 49 = .ok (.aload_n 0, 1) := by decide +kernel
theorem dX5_findIdle_50 : decode cX5_findIdle 50 = .ok (.getfield 9, 3) := by decide +kernel
theorem dX5_findIdle_53 : decode cX5_findIdle 53 = .ok (.aload_n 1, 1) := by decide +kernel
theorem dX5_findIdle_54 : decode cX5_findIdle 54 = .ok (.iload_n 2, 1) := by decide +kernel
theorem dX5_findIdle_55 : decode cX5_findIdle 55 = .ok (.invokevirtual 65, 3) := by decide +kernel
theorem dX5_findIdle_58 : decode cX5_findIdle 58 = .ok (.invokestatic 22, 3) := by decide +kernel
theorem dX5_findIdle_61 : decode cX5_findIdle 61 = .ok (.lstore 6, 2) := by decide +kernel
theorem dX5_findIdle_63 : decode cX5_findIdle 63 = .ok (.aload_n 0, 1) := by decide +kernel
theorem dX5_findIdle_64 : decode cX5_findIdle 64 = .ok (.getfield 9, 3) := by decide +kernel
theorem dX5_findIdle_67 : decode cX5_findIdle 67 = .ok (.aload_n 1, 1) := by decide +kernel
theorem dX5_findIdle_68 : decode cX5_findIdle 68 = .ok (.iload_n 2, 1) := by decide +kernel
theorem dX5_findIdle_69 : decode cX5_findIdle 69 = .ok (.invokevirtual 69, 3) := by decide +kernel
theorem dX5_findIdle_72 : decode cX5_findIdle 72 = .ok (.invokestatic 22, 3) := by decide +kernel
theorem dX5_findIdle_75 : decode cX5_findIdle 75 = .ok (.lstore 8, 2) := by decide +kernel
theorem dX5_findIdle_77 : decode cX5_findIdle 77 = .ok (.aload_n 0, 1) := by decide +kernel
theorem dX5_findIdle_78 : decode cX5_findIdle 78 = .ok (.getfield 15, 3) := by decide +kernel
theorem dX5_findIdle_81 : decode cX5_findIdle 81 = .ok (.aload_n 1, 1) := by decide +kernel
theorem dX5_findIdle_82 : decode cX5_findIdle 82 = .ok (.iload_n 2, 1) := by decide +kernel
theorem dX5_findIdle_83 : decode cX5_findIdle 83 = .ok (.invokevirtual 65, 3) := by decide +kernel
theorem dX5_findIdle_86 : decode cX5_findIdle 86 = .ok (.lload 4, 2) := by decide +kernel
theorem dX5_findIdle_88 : decode cX5_findIdle 88 = .ok (.iload_n 3, 1) := by decide +kernel
theorem dX5_findIdle_89 : decode cX5_findIdle 89 = .ok (.iconst 3, 1) := by decide +kernel
theorem dX5_findIdle_90 : decode cX5_findIdle 90 = .ok (.if_icmp .ne 8, 3) := by decide +kernel
theorem dX5_findIdle_93 : decode cX5_findIdle 93 = .ok (.lload 8, 2) := by decide +kernel
theorem dX5_findIdle_95 : decode cX5_findIdle 95 = .ok (.goto 9, 3) := by decide +kernel
theorem dX5_findIdle_98 : decode cX5_findIdle 98 = .ok (.lload 8, 2) := by decide +kernel
theorem dX5_findIdle_100 : decode cX5_findIdle 100 = .ok (.ldc2_w 89, 3) := by decide +kernel
theorem dX5_findIdle_103 : decode cX5_findIdle 103 = .ok (.lxor, 1) := by decide +kernel
theorem dX5_findIdle_104 : decode cX5_findIdle 104 = .ok (.land, 1) := by decide +kernel
theorem dX5_findIdle_105 : decode cX5_findIdle 105 = .ok (.invokestatic 43, 3) := by decide +kernel
theorem dX5_findIdle_108 : decode cX5_findIdle 108 = .ok (.aload_n 0, 1) := by decide +kernel
theorem dX5_findIdle_109 : decode cX5_findIdle 109 = .ok (.getfield 15, 3) := by decide +kernel
theorem dX5_findIdle_112 : decode cX5_findIdle 112 = .ok (.aload_n 1, 1) := by decide +kernel
theorem dX5_findIdle_113 : decode cX5_findIdle 113 = .ok (.iload_n 2, 1) := by decide +kernel
theorem dX5_findIdle_114 : decode cX5_findIdle 114 = .ok (.invokevirtual 69, 3) := by decide +kernel
theorem dX5_findIdle_117 : decode cX5_findIdle 117 = .ok (.lload 4, 2) := by decide +kernel
theorem dX5_findIdle_119 : decode cX5_findIdle 119 = .ok (.iload_n 3, 1) := by decide +kernel
theorem dX5_findIdle_120 : decode cX5_findIdle 120 = .ok (.iconst 4, 1) := by decide +kernel
theorem dX5_findIdle_121 : decode cX5_findIdle 121 = .ok (.if_icmp .ne 12, 3) := by decide +kernel
theorem dX5_findIdle_124 : decode cX5_findIdle 124 = .ok (.lload 6, 2) := by decide +kernel
theorem dX5_findIdle_126 : decode cX5_findIdle 126 = .ok (.ldc2_w 89, 3) := by decide +kernel
theorem dX5_findIdle_129 : decode cX5_findIdle 129 = .ok (.lxor, 1) := by decide +kernel
theorem dX5_findIdle_130 : decode cX5_findIdle 130 = .ok (.goto 5, 3) := by decide +kernel
theorem dX5_findIdle_133 : decode cX5_findIdle 133 = .ok (.lload 6, 2) := by decide +kernel
theorem dX5_findIdle_135 : decode cX5_findIdle 135 = .ok (.land, 1) := by decide +kernel
theorem dX5_findIdle_136 : decode cX5_findIdle 136 = .ok (.invokestatic 43, 3) := by decide +kernel
theorem dX5_findIdle_139 : decode cX5_findIdle 139 = .ok (.goto 47, 3) := by decide +kernel
theorem dX5_findIdle_142 : decode cX5_findIdle 142 = .ok (.iload_n 3, 1) := by decide +kernel
theorem dX5_findIdle_143 : decode cX5_findIdle 143 = .ok (.ifCond .eq 20, 3) := by decide +kernel
theorem dX5_findIdle_146 : decode cX5_findIdle 146 = .ok (.aload_n 0, 1) := by decide +kernel
theorem dX5_findIdle_147 : decode cX5_findIdle 147 = .ok (.getfield 15, 3) := by decide +kernel
theorem dX5_findIdle_150 : decode cX5_findIdle 150 = .ok (.aload_n 1, 1) := by decide +kernel
theorem dX5_findIdle_151 : decode cX5_findIdle 151 = .ok (.iload_n 2, 1) := by decide +kernel
theorem dX5_findIdle_152 : decode cX5_findIdle 152 = .ok (.invokevirtual 65, 3) := by decide +kernel
theorem dX5_findIdle_155 : decode cX5_findIdle 155 = .ok (.lload 4, 2) := by decide +kernel
theorem dX5_findIdle_157 : decode cX5_findIdle 157 = .ok (.invokestatic 43, 3) := by decide +kernel
theorem dX5_findIdle_160 : decode cX5_findIdle 160 = .ok (.goto 26, 3) := by decide +kernel
theorem dX5_findIdle_163 : decode cX5_findIdle 163 = .ok (.lload 4, 2) := by decide +kernel
theorem dX5_findIdle_165 : decode cX5_findIdle 165 = .ok (.lconst 0, 1) := by decide +kernel
theorem dX5_findIdle_166 : decode cX5_findIdle 166 = .ok (.lcmp, 1) := by decide +kernel
theorem dX5_findIdle_167 : decode cX5_findIdle 167 = .ok (.ifCond .ne 19, 3) := by decide +kernel
theorem dX5_findIdle_170 : decode cX5_findIdle 170 = .ok (.aload_n 0, 1) := by decide +kernel
theorem dX5_findIdle_171 : decode cX5_findIdle 171 = .ok (.dup, 1) := by decide +kernel
theorem dX5_findIdle_172 : decode cX5_findIdle 172 = .ok (.getfield 26, 3) := by decide +kernel
theorem dX5_findIdle_175 : decode cX5_findIdle 175 = .ok (.iconst 1, 1) := by decide +kernel
theorem dX5_findIdle_176 : decode cX5_findIdle 176 = .ok (.aload_n 1, 1) := by decide +kernel
theorem dX5_findIdle_177 : decode cX5_findIdle 177 = .ok (.iload_n 2, 1) := by decide +kernel
theorem dX5_findIdle_178 : decode cX5_findIdle 178 = .ok (.invokevirtual 75, 3) := by decide +kernel
theorem dX5_findIdle_181 : decode cX5_findIdle 181 = .ok (.ishl, 1) := by decide +kernel
theorem dX5_findIdle_182 : decode cX5_findIdle 182 = .ok (.ior, 1) := by decide +kernel
theorem dX5_findIdle_183 : decode cX5_findIdle 183 = .ok (.putfield 26, 3) := by decide +kernel
theorem dX5_findIdle_186 : decode cX5_findIdle 186 = .ok (.iinc 2 1, 3) := by decide +kernel
theorem dX5_findIdle_189 : decode cX5_findIdle 189 = .ok (.goto (-171), 3) := by decide +kernel
theorem dX5_findIdle_192 : decode cX5_findIdle 192 = .ok (.return_, 1) := by decide +kernel
theorem dX5_brokenByWhole_0 : decode cX5_brokenByWhole 0 = .ok (.iconst 0, 1) := by decide +kernel
theorem dX5_brokenByWhole_1 : decode cX5_brokenByWhole 1 = .ok (.istore_n 1, 1) := by decide +kernel
theorem dX5_brokenByWhole_2 : decode cX5_brokenByWhole 2 = .ok (.aload_n 0, 1) := by decide +kernel
theorem dX5_brokenByWhole_3 : decode cX5_brokenByWhole 3 = .ok (.getfield 26, 3) := by decide +kernel
theorem dX5_brokenByWhole_6 : decode cX5_brokenByWhole 6 = .ok (.ifCond .eq 8, 3) := by decide +kernel
theorem dX5_brokenByWhole_9 : decode cX5_brokenByWhole 9 = .ok (.iload_n 1, 1) := by decide +kernel
theorem dX5_brokenByWhole_10 : decode cX5_brokenByWhole 10 = .ok (.bipush 16, 2) := by decide +kernel
theorem dX5_brokenByWhole_12 : decode cX5_brokenByWhole 12 = .ok (.ior, 1) := by decide +kernel
theorem dX5_brokenByWhole_13 : decode cX5_brokenByWhole 13 = .ok (.istore_n 1, 1) := by decide +kernel
theorem dX5_brokenByWhole_14 : decode cX5_brokenByWhole 14 = .ok (.aload_n 0, 1) := by decide +kernel
theorem dX5_brokenByWhole_15 : decode cX5_brokenByWhole 15 = .ok (.invokevirtual 98, 3) := by decide +kernel
theorem dX5_brokenByWhole_18 : decode cX5_brokenByWhole 18 = .ok (.lconst 0, 1) := by decide +kernel
theorem dX5_brokenByWhole_19 : decode cX5_brokenByWhole 19 = .ok (.lcmp, 1) := by decide +kernel
theorem dX5_brokenByWhole_20 : decode cX5_brokenByWhole 20 = .ok (.ifCond .eq 14, 3) := by decide +kernel
theorem dX5_brokenByWhole_23 : decode cX5_brokenByWhole 23 = .ok (.aload_n 0, 1) := by decide +kernel
theorem dX5_brokenByWhole_24 : decode cX5_brokenByWhole 24 = .ok (.invokevirtual 98, 3) := by decide +kernel
theorem dX5_brokenByWhole_27 : decode cX5_brokenByWhole 27 = .ok (.ldc2_w 87, 3) := by decide +kernel
theorem dX5_brokenByWhole_30 : decode cX5_brokenByWhole 30 = .ok (.lcmp, 1) := by decide +kernel
theorem dX5_brokenByWhole_31 : decode cX5_brokenByWhole 31 = .ok (.ifCond .ne 8, 3) := by decide +kernel
theorem dX5_brokenByWhole_34 : decode cX5_brokenByWhole 34 = .ok (.iload_n 1, 1) := by decide +kernel
theorem dX5_brokenByWhole_35 : decode cX5_brokenByWhole 35 = .ok (.bipush 32, 2) := by decide +kernel
theorem dX5_brokenByWhole_37 : decode cX5_brokenByWhole 37 = .ok (.ior, 1) := by decide +kernel
theorem dX5_brokenByWhole_38 : decode cX5_brokenByWhole 38 = .ok (.istore_n 1, 1) := by decide +kernel
theorem dX5_brokenByWhole_39 : decode cX5_brokenByWhole 39 = .ok (.iload_n 1, 1) := by decide +kernel
theorem dX5_brokenByWhole_40 : decode cX5_brokenByWhole 40 = .ok (.ireturn, 1) := by decide +kernel
theorem dX5_brokenAt_0 : decode cX5_brokenAt 0 = .ok (.aload_n 1, 1) := by decide +kernel
theorem dX5_brokenAt_1 : decode cX5_brokenAt 1 = .ok (.iload_n 3, 1) := by decide +kernel
theorem dX5_brokenAt_2 : decode cX5_brokenAt 2 = .ok (.invokevirtual 72, 3) := by decide +kernel
theorem dX5_brokenAt_5 : decode cX5_brokenAt 5 = .ok (.istore 4, 2) := by decide +kernel
theorem dX5_brokenAt_7 : decode cX5_brokenAt 7 = .ok (.aload_n 0, 1) := by decide +kernel
theorem dX5_brokenAt_8 : decode cX5_brokenAt 8 = .ok (.getfield 18, 3) := by decide +kernel
theorem dX5_brokenAt_11 : decode cX5_brokenAt 11 = .ok (.aload_n 1, 1) := by decide +kernel
theorem dX5_brokenAt_12 : decode cX5_brokenAt 12 = .ok (.iload_n 3, 1) := by decide +kernel
theorem dX5_brokenAt_13 : decode cX5_brokenAt 13 = .ok (.invokevirtual 65, 3) := by decide +kernel
theorem dX5_brokenAt_16 : decode cX5_brokenAt 16 = .ok (.invokestatic 91, 3) := by decide +kernel
theorem dX5_brokenAt_19 : decode cX5_brokenAt 19 = .ok (.istore 5, 2) := by decide +kernel
theorem dX5_brokenAt_21 : decode cX5_brokenAt 21 = .ok (.aload_n 0, 1) := by decide +kernel
theorem dX5_brokenAt_22 : decode cX5_brokenAt 22 = .ok (.getfield 18, 3) := by decide +kernel
theorem dX5_brokenAt_25 : decode cX5_brokenAt 25 = .ok (.aload_n 1, 1) := by decide +kernel
theorem dX5_brokenAt_26 : decode cX5_brokenAt 26 = .ok (.iload_n 3, 1) := by decide +kernel
theorem dX5_brokenAt_27 : decode cX5_brokenAt 27 = .ok (.invokevirtual 69, 3) := by decide +kernel
theorem dX5_brokenAt_30 : decode cX5_brokenAt 30 = .ok (.invokestatic 91, 3) := by decide +kernel
theorem dX5_brokenAt_33 : decode cX5_brokenAt 33 = .ok (.istore 6, 2) := by decide +kernel
theorem dX5_brokenAt_35 : decode cX5_brokenAt 35 = .ok (.iconst 0, 1) := by decide +kernel
theorem dX5_brokenAt_36 : decode cX5_brokenAt 36 = .ok (.istore 7, 2) := by decide +kernel
theorem dX5_brokenAt_38 : decode cX5_brokenAt 38 = .ok (.iload 4, 2) := by decide +kernel
theorem dX5_brokenAt_40 : decode cX5_brokenAt 40 = .ok (.iconst 1, 1) := by decide +kernel
theorem dX5_brokenAt_41 : decode cX5_brokenAt 41 = .ok (.if_icmp .ne 14, 3) := by decide +kernel
theorem dX5_brokenAt_44 : decode cX5_brokenAt 44 = .ok (.iload 5, 2) := by decide +kernel
theorem dX5_brokenAt_46 : decode cX5_brokenAt 46 = .ok (.ifCond .eq 9, 3) := by decide +kernel
theorem dX5_brokenAt_49 : decode cX5_brokenAt 49 = .ok (.iload 7, 2) := by decide +kernel
theorem dX5_brokenAt_51 : decode cX5_brokenAt 51 = .ok (.iconst 1, 1) := by decide +kernel
theorem dX5_brokenAt_52 : decode cX5_brokenAt 52 = .ok (.ior, 1) := by decide +kernel
theorem dX5_brokenAt_53 : decode cX5_brokenAt 53 = .ok (.istore 7, 2) := by decide +kernel
theorem dX5_brokenAt_55 : decode cX5_brokenAt 55 = .ok (.iload 4, 2) := by decide +kernel
theorem dX5_brokenAt_57 : decode cX5_brokenAt 57 = .ok (.iconst 1, 1) := by decide +kernel
theorem dX5_brokenAt_58 : decode cX5_brokenAt 58 = .ok (.if_icmp .ne 26, 3) := by decide +kernel
theorem dX5_brokenAt_61 : decode cX5_brokenAt 61 = .ok (.aload_n 1, 1) := by decide +kernel
theorem dX5_brokenAt_62 : decode cX5_brokenAt 62 = .ok (.iload_n 3, 1) := by decide +kernel
theorem dX5_brokenAt_63 : decode cX5_brokenAt 63 = .ok (.invokevirtual 102, 3) := by decide +kernel
theorem dX5_brokenAt_66 : decode cX5_brokenAt 66 = .ok (.aload_n 2, 1) := by decide +kernel
theorem dX5_brokenAt_67 : decode cX5_brokenAt 67 = .ok (.aload_n 1, 1) := by decide +kernel
theorem dX5_brokenAt_68 : decode cX5_brokenAt 68 = .ok (.iload_n 3, 1) := by decide +kernel
theorem dX5_brokenAt_69 : decode cX5_brokenAt 69 = .ok (.invokevirtual 75, 3) := by decide +kernel
theorem dX5_brokenAt_72 : decode cX5_brokenAt 72 = .ok (.invokevirtual 105, 3) := by decide +kernel
theorem dX5_brokenAt_75 : decode cX5_brokenAt 75 = .ok (.if_icmp .eq 9, 3) := by decide +kernel
theorem dX5_brokenAt_78 : decode cX5_brokenAt 78 = .ok (.iload 7, 2) := by decide +kernel
theorem dX5_brokenAt_80 : decode cX5_brokenAt 80 = .ok (.iconst 2, 1) := by decide +kernel
theorem dX5_brokenAt_81 : decode cX5_brokenAt 81 = .ok (.ior, 1) := by decide +kernel
theorem dX5_brokenAt_82 : decode cX5_brokenAt 82 = .ok (.istore 7, 2) := by decide +kernel
theorem dX5_brokenAt_84 : decode cX5_brokenAt 84 = .ok (.iload 4, 2) := by decide +kernel
theorem dX5_brokenAt_86 : decode cX5_brokenAt 86 = .ok (.invokestatic 94, 3) := by decide +kernel
theorem dX5_brokenAt_89 : decode cX5_brokenAt 89 = .ok (.ifCond .eq 14, 3) := by decide +kernel
theorem dX5_brokenAt_92 : decode cX5_brokenAt 92 = .ok (.iload 6, 2) := by decide +kernel
theorem dX5_brokenAt_94 : decode cX5_brokenAt 94 = .ok (.ifCond .eq 9, 3) := by decide +kernel
theorem dX5_brokenAt_97 : decode cX5_brokenAt 97 = .ok (.iload 7, 2) := by decide +kernel
theorem dX5_brokenAt_99 : decode cX5_brokenAt 99 = .ok (.iconst 4, 1) := by decide +kernel
theorem dX5_brokenAt_100 : decode cX5_brokenAt 100 = .ok (.ior, 1) := by decide +kernel
theorem dX5_brokenAt_101 : decode cX5_brokenAt 101 = .ok (.istore 7, 2) := by decide +kernel
theorem dX5_brokenAt_103 : decode cX5_brokenAt 103 = .ok (.iload 4, 2) := by decide +kernel
theorem dX5_brokenAt_105 : decode cX5_brokenAt 105 = .ok (.iconst 3, 1) := by decide +kernel
theorem dX5_brokenAt_106 : decode cX5_brokenAt 106 = .ok (.if_icmp .ne 21, 3) := by decide +kernel
theorem dX5_brokenAt_109 : decode cX5_brokenAt 109 = .ok (.iload 5, 2) := by decide +kernel
theorem dX5_brokenAt_111 : decode cX5_brokenAt 111 = .ok (.iload 6, 2) := by decide +kernel
theorem dX5_brokenAt_113 : decode cX5_brokenAt 113 = .ok (.ior, 1) := by decide +kernel
theorem dX5_brokenAt_114 : decode cX5_brokenAt 114 = .ok (.bipush 112, 2) := by decide +kernel
theorem dX5_brokenAt_116 : decode cX5_brokenAt 116 = .ok (.iand, 1) := by decide +kernel
theorem dX5_brokenAt_117 : decode cX5_brokenAt 117 = .ok (.ifCond .eq 10, 3) := by decide +kernel
theorem dX5_brokenAt_120 : decode cX5_brokenAt 120 = .ok (.iload 7, 2) := by decide +kernel
theorem dX5_brokenAt_122 : decode cX5_brokenAt 122 = .ok (.bipush 8, 2) := by decide +kernel
theorem dX5_brokenAt_124 : decode cX5_brokenAt 124 = .ok (.ior, 1) := by decide +kernel
theorem dX5_brokenAt_125 : decode cX5_brokenAt 125 = .ok (.istore 7, 2) := by decide +kernel
theorem dX5_brokenAt_127 : decode cX5_brokenAt 127 = .ok (.iload 7, 2) := by decide +kernel
theorem dX5_brokenAt_129 : decode cX5_brokenAt 129 = .ok (.ireturn, 1) := by decide +kernel
theorem dX6_init_0 : decode cX6_init 0 = .ok (.aload_n 0, 1) := by decide +kernel
theorem dX6_init_1 : decode cX6_init 1 = .ok (.invokespecial 3, 3) := by decide +kernel
theorem dX6_init_4 : decode cX6_init 4 = .ok (.aload_n 0, 1) := by decide +kernel
theorem dX6_init_5 : decode cX6_init 5 = .ok (.sipush 200, 3) := by decide +kernel
theorem dX6_init_8 : decode cX6_init 8 = .ok (.newarray .int, 2) := by decide +kernel
theorem dX6_init_10 : decode cX6_init 10 = .ok (.putfield 9, 3) := by decide +kernel
theorem dX6_init_13 : decode cX6_init 13 = .ok (.return_, 1) := by decide +kernel
theorem dX6_size_0 : decode cX6_size 0 = .ok (.aload_n 0, 1) := by decide +kernel
theorem dX6_size_1 : decode cX6_size 1 = .ok (.getfield 15, 3) := by decide +kernel
theorem dX6_size_4 : decode cX6_size 4 = .ok (.ireturn, 1) := by decide +kernel
theorem dX6_at_0 : decode cX6_at 0 = .ok (.aload_n 0, 1) := by decide +kernel
theorem dX6_at_1 : decode cX6_at 1 = .ok (.getfield 9, 3) := by decide +kernel
theorem dX6_at_4 : decode cX6_at 4 = .ok (.iload_n 1, 1) := by decide +kernel
theorem dX6_at_5 : decode cX6_at 5 = .ok (.invokestatic 19, 3) := by decide +kernel
theorem dX6_at_8 : decode cX6_at 8 = .ok (.ireturn, 1) := by decide +kernel
theorem dX6_passed_0 : decode cX6_passed 0 = .ok (.aload_n 0, 1) := by decide +kernel
theorem dX6_passed_1 : decode cX6_passed 1 = .ok (.getfield 23, 3) := by decide +kernel
theorem dX6_passed_4 : decode cX6_passed 4 = .ok (.ireturn, 1) := by decide +kernel
theorem dX6_sift_0 : decode cX6_sift 0 = .ok (.aload_n 0, 1) := by decide +kernel
theorem dX6_sift_1 : decode cX6_sift 1 = .ok (.iconst 0, 1) := by decide +kernel
theorem dX6_sift_2 : decode cX6_sift 2 = .ok (.putfield 23, 3) := by decide +kernel
theorem dX6_sift_5 : decode cX6_sift 5 = .ok (.aload_n 0, 1) := by decide +kernel
theorem dX6_sift_6 : decode cX6_sift 6 = .ok (.aload_n 1, 1) := by decide +kernel
theorem dX6_sift_7 : decode cX6_sift 7 = .ok (.invokevirtual 26, 3) := by decide +kernel
theorem dX6_sift_10 : decode cX6_sift 10 = .ok (.putfield 15, 3) := by decide +kernel
theorem dX6_sift_13 : decode cX6_sift 13 = .ok (.iconst 0, 1) := by decide +kernel
theorem dX6_sift_14 : decode cX6_sift 14 = .ok (.istore 4, 2) := by decide +kernel
theorem dX6_sift_16 : decode cX6_sift 16 = .ok (.iload 4, 2) := by decide +kernel
theorem dX6_sift_18 : decode cX6_sift 18 = .ok (.aload_n 0, 1) := by decide +kernel
theorem dX6_sift_19 : decode cX6_sift 19 = .ok (.getfield 15, 3) := by decide +kernel
theorem dX6_sift_22 : decode cX6_sift 22 = .ok (.if_icmp .ge 20, 3) := by decide +kernel
theorem dX6_sift_25 : decode cX6_sift 25 = .ok (.aload_n 0, 1) := by decide +kernel
theorem dX6_sift_26 : decode cX6_sift 26 = .ok (.getfield 9, 3) := by decide +kernel
theorem dX6_sift_29 : decode cX6_sift 29 = .ok (.iload 4, 2) := by decide +kernel
theorem dX6_sift_31 : decode cX6_sift 31 = .ok (.iload 4, 2) := by decide +kernel
theorem dX6_sift_33 : decode cX6_sift 33 = .ok (.invokestatic 31, 3) := by decide +kernel
theorem dX6_sift_36 : decode cX6_sift 36 = .ok (.iinc 4 1, 3) := by decide +kernel
theorem dX6_sift_39 : decode cX6_sift 39 = .ok (.goto (-23), 3) := by decide +kernel
theorem dX6_sift_42 : decode cX6_sift 42 = .ok (.iconst 0, 1) := by decide +kernel
theorem dX6_sift_43 : decode cX6_sift 43 = .ok (.istore 4, 2) := by decide +kernel
theorem dX6_sift_45 : decode cX6_sift 45 = .ok (.iload 4, 2) := by decide +kernel
theorem dX6_sift_47 : decode cX6_sift 47 = .ok (.aload_n 2, 1) := by decide +kernel
theorem dX6_sift_48 : decode cX6_sift 48 = .ok (.invokevirtual 35, 3) := by decide +kernel
theorem dX6_sift_51 : decode cX6_sift 51 = .ok (.if_icmp .ge 30, 3) := by decide +kernel
theorem dX6_sift_54 : decode cX6_sift 54 = .ok (.aload_n 2, 1) := by decide +kernel
theorem dX6_sift_55 : decode cX6_sift 55 = .ok (.iload 4, 2) := by decide +kernel
theorem dX6_sift_57 : decode cX6_sift 57 = .ok (.invokevirtual 38, 3) := by decide +kernel
theorem dX6_sift_60 : decode cX6_sift 60 = .ok (.iload_n 3, 1) := by decide +kernel
theorem dX6_sift_61 : decode cX6_sift 61 = .ok (.if_icmp .eq 14, 3) := by decide +kernel
theorem dX6_sift_64 : decode cX6_sift 64 = .ok (.aload_n 0, 1) := by decide +kernel
theorem dX6_sift_65 : decode cX6_sift 65 = .ok (.aload_n 1, 1) := by decide +kernel
theorem dX6_sift_66 : decode cX6_sift 66 = .ok (.aload_n 2, 1) := by decide +kernel
theorem dX6_sift_67 : decode cX6_sift 67 = .ok (.iload 4, 2) := by decide +kernel
theorem dX6_sift_69 : decode cX6_sift 69 = .ok (.invokevirtual 38, 3) := by decide +kernel
theorem dX6_sift_72 : decode cX6_sift 72 = .ok (.invokevirtual 42, 3) := by decide +kernel
theorem dX6_sift_75 : decode cX6_sift 75 = .ok (.iinc 4 1, 3) := by decide +kernel
theorem dX6_sift_78 : decode cX6_sift 78 = .ok (.goto (-33), 3) := by decide +kernel
theorem dX6_sift_81 : decode cX6_sift 81 = .ok (.return_, 1) := by decide +kernel
theorem dX6_keepMet_0 : decode cX6_keepMet 0 = .ok (.iconst 0, 1) := by decide +kernel
theorem dX6_keepMet_1 : decode cX6_keepMet 1 = .ok (.istore_n 3, 1) := by decide +kernel
theorem dX6_keepMet_2 : decode cX6_keepMet 2 = .ok (.iconst 0, 1) := by decide +kernel
theorem dX6_keepMet_3 : decode cX6_keepMet 3 = .ok (.istore 4, 2) := by decide +kernel
theorem dX6_keepMet_5 : decode cX6_keepMet 5 = .ok (.iload 4, 2) := by decide +kernel
theorem dX6_keepMet_7 : decode cX6_keepMet 7 = .ok (.aload_n 0, 1) := by decide +kernel
theorem dX6_keepMet_8 : decode cX6_keepMet 8 = .ok (.getfield 15, 3) := by decide +kernel
theorem dX6_keepMet_11 : decode cX6_keepMet 11 = .ok (.if_icmp .ge 40, 3) := by decide +kernel
theorem dX6_keepMet_14 : decode cX6_keepMet 14 = .ok (.aload_n 1, 1) := by decide +kernel
theorem dX6_keepMet_15 : decode cX6_keepMet 15 = .ok (.aload_n 0, 1) := by decide +kernel
theorem dX6_keepMet_16 : decode cX6_keepMet 16 = .ok (.iload 4, 2) := by decide +kernel
theorem dX6_keepMet_18 : decode cX6_keepMet 18 = .ok (.invokevirtual 46, 3) := by decide +kernel
theorem dX6_keepMet_21 : decode cX6_keepMet 21 = .ok (.iload_n 2, 1) := by decide +kernel
theorem dX6_keepMet_22 : decode cX6_keepMet 22 = .ok (.invokevirtual 47, 3) := by decide +kernel
theorem dX6_keepMet_25 : decode cX6_keepMet 25 = .ok (.ifCond .eq 20, 3) := by decide +kernel
theorem dX6_keepMet_28 : decode cX6_keepMet 28 = .ok (.aload_n 0, 1) := by decide +kernel
theorem dX6_keepMet_29 : decode cX6_keepMet 29 = .ok (.getfield 9, 3) := by decide +kernel
theorem dX6_keepMet_32 : decode cX6_keepMet 32 = .ok (.iload_n 3, 1) := by decide +kernel
theorem dX6_keepMet_33 : decode cX6_keepMet 33 = .ok (.aload_n 0, 1) := by decide +kernel
theorem dX6_keepMet_34 : decode cX6_keepMet 34 = .ok (.iload 4, 2) := by decide +kernel
theorem dX6_keepMet_36 : decode cX6_keepMet 36 = .ok (.invokevirtual 46, 3) := by decide +kernel
theorem dX6_keepMet_39 : decode cX6_keepMet 39 = .ok (.invokestatic 31, 3) := by decide +kernel
theorem dX6_keepMet_42 : decode cX6_keepMet 42 = .ok (.iinc 3 1, 3) := by decide +kernel
theorem dX6_keepMet_45 : decode cX6_keepMet 45 = .ok (.iinc 4 1, 3) := by decide +kernel
theorem dX6_keepMet_48 : decode cX6_keepMet 48 = .ok (.goto (-43), 3) := by decide +kernel
theorem dX6_keepMet_51 : decode cX6_keepMet 51 = .ok (.iload_n 3, 1) := by decide +kernel
theorem dX6_keepMet_52 : decode cX6_keepMet 52 = .ok (.ifCond .ne 16, 3) := by decide +kernel
theorem dX6_keepMet_55 : decode cX6_keepMet 55 = .ok (.aload_n 0, 1) := by decide +kernel
theorem dX6_keepMet_56 : decode cX6_keepMet 56 = .ok (.dup, 1) := by decide +kernel
theorem dX6_keepMet_57 : decode cX6_keepMet 57 = .ok (.getfield 23, 3) := by decide +kernel
theorem dX6_keepMet_60 : decode cX6_keepMet 60 = .ok (.iconst 1, 1) := by decide +kernel
theorem dX6_keepMet_61 : decode cX6_keepMet 61 = .ok (.iadd, 1) := by decide +kernel
theorem dX6_keepMet_62 : decode cX6_keepMet 62 = .ok (.putfield 23, 3) := by decide +kernel
theorem dX6_keepMet_65 : decode cX6_keepMet 65 = .ok (.goto 8, 3) := by decide +kernel
theorem dX6_keepMet_68 : decode cX6_keepMet 68 = .ok (.aload_n 0, 1) := by decide +kernel
theorem dX6_keepMet_69 : decode cX6_keepMet 69 = .ok (.iload_n 3, 1) := by decide +kernel
theorem dX6_keepMet_70 : decode cX6_keepMet 70 = .ok (.putfield 15, 3) := by decide +kernel
theorem dX6_keepMet_73 : decode cX6_keepMet 73 = .ok (.return_, 1) := by decide +kernel
theorem dX6_keepsAs_0 : decode cX6_keepsAs 0 = .ok (.iconst 0, 1) := by decide +kernel
theorem dX6_keepsAs_1 : decode cX6_keepsAs 1 = .ok (.istore_n 2, 1) := by decide +kernel
theorem dX6_keepsAs_2 : decode cX6_keepsAs 2 = .ok (.iload_n 2, 1) := by decide +kernel
theorem dX6_keepsAs_3 : decode cX6_keepsAs 3 = .ok (.aload_n 0, 1) := by decide +kernel
theorem dX6_keepsAs_4 : decode cX6_keepsAs 4 = .ok (.getfield 15, 3) := by decide +kernel
theorem dX6_keepsAs_7 : decode cX6_keepsAs 7 = .ok (.if_icmp .ge 24, 3) := by decide +kernel
theorem dX6_keepsAs_10 : decode cX6_keepsAs 10 = .ok (.aload_n 0, 1) := by decide +kernel
theorem dX6_keepsAs_11 : decode cX6_keepsAs 11 = .ok (.iload_n 2, 1) := by decide +kernel
theorem dX6_keepsAs_12 : decode cX6_keepsAs 12 = .ok (.invokevirtual 46, 3) := by decide +kernel
theorem dX6_keepsAs_15 : decode cX6_keepsAs 15 = .ok (.aload_n 1, 1) := by decide +kernel
theorem dX6_keepsAs_16 : decode cX6_keepsAs 16 = .ok (.iload_n 2, 1) := by decide +kernel
theorem dX6_keepsAs_17 : decode cX6_keepsAs 17 = .ok (.invokevirtual 46, 3) := by decide +kernel
theorem dX6_keepsAs_20 : decode cX6_keepsAs 20 = .ok (.if_icmp .eq 5, 3) := by decide +kernel
theorem dX6_keepsAs_23 : decode cX6_keepsAs 23 = .ok (.iconst 0, 1) := by decide +kernel
theorem dX6_keepsAs_24 : decode cX6_keepsAs 24 = .ok (.ireturn, 1) := by decide +kernel
theorem dX6_keepsAs_25 : decode cX6_keepsAs 25 = .ok (.iinc 2 1, 3) := by decide +kernel
theorem dX6_keepsAs_28 : decode cX6_keepsAs 28 = .ok (.goto (-26), 3) := by decide +kernel
theorem dX6_keepsAs_31 : decode cX6_keepsAs 31 = .ok (.aload_n 0, 1) := by decide +kernel
theorem dX6_keepsAs_32 : decode cX6_keepsAs 32 = .ok (.getfield 15, 3) := by decide +kernel
theorem dX6_keepsAs_35 : decode cX6_keepsAs 35 = .ok (.aload_n 1, 1) := by decide +kernel
theorem dX6_keepsAs_36 : decode cX6_keepsAs 36 = .ok (.getfield 15, 3) := by decide +kernel
