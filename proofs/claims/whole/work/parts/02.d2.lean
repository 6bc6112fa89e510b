theorem dX10_at_0 : decode cX10_at 0 = .ok (.aload_n 0, 1) := by decide +kernel
theorem dX10_at_1 : decode cX10_at 1 = .ok (.getfield 9, 3) := by decide +kernel
theorem dX10_at_4 : decode cX10_at 4 = .ok (.iload_n 1, 1) := by decide +kernel
theorem dX10_at_5 : decode cX10_at 5 = .ok (.invokestatic 19, 3) := by decide +kernel
theorem dX10_at_8 : decode cX10_at 8 = .ok (.ireturn, 1) := by decide +kernel
theorem dX10_clear_0 : decode cX10_clear 0 = .ok (.aload_n 0, 1) := by decide +kernel
theorem dX10_clear_1 : decode cX10_clear 1 = .ok (.iconst 0, 1) := by decide +kernel
theorem dX10_clear_2 : decode cX10_clear 2 = .ok (.putfield 15, 3) := by decide +kernel
theorem dX10_clear_5 : decode cX10_clear 5 = .ok (.return_, 1) := by decide +kernel
theorem dX10_add_0 : decode cX10_add 0 = .ok (.aload_n 0, 1) := by decide +kernel
theorem dX10_add_1 : decode cX10_add 1 = .ok (.getfield 15, 3) := by decide +kernel
theorem dX10_add_4 : decode cX10_add 4 = .ok (.bipush 21, 2) := by decide +kernel
theorem dX10_add_6 : decode cX10_add 6 = .ok (.if_icmp .ge 25, 3) := by decide +kernel
theorem dX10_add_9 : decode cX10_add 9 = .ok (.aload_n 0, 1) := by decide +kernel
theorem dX10_add_10 : decode cX10_add 10 = .ok (.getfield 9, 3) := by decide +kernel
theorem dX10_add_13 : decode cX10_add 13 = .ok (.aload_n 0, 1) := by decide +kernel
theorem dX10_add_14 : decode cX10_add 14 = .ok (.getfield 15, 3) := by decide +kernel
theorem dX10_add_17 : decode cX10_add 17 = .ok (.iload_n 1, 1) := by decide +kernel
theorem dX10_add_18 : decode cX10_add 18 = .ok (.invokestatic 23, 3) := by decide +kernel
theorem dX10_add_21 : decode cX10_add 21 = .ok (.aload_n 0, 1) := by decide +kernel
theorem dX10_add_22 : decode cX10_add 22 = .ok (.dup, 1) := by decide +kernel
theorem dX10_add_23 : decode cX10_add 23 = .ok (.getfield 15, 3) := by decide +kernel
theorem dX10_add_26 : decode cX10_add 26 = .ok (.iconst 1, 1) := by decide +kernel
theorem dX10_add_27 : decode cX10_add 27 = .ok (.iadd, 1) := by decide +kernel
theorem dX10_add_28 : decode cX10_add 28 = .ok (.putfield 15, 3) := by decide +kernel
theorem dX10_add_31 : decode cX10_add 31 = .ok (.return_, 1) := by decide +kernel
theorem dX10_become_0 : decode cX10_become 0 = .ok (.aload_n 0, 1) := by decide +kernel
theorem dX10_become_1 : decode cX10_become 1 = .ok (.invokevirtual 27, 3) := by decide +kernel
theorem dX10_become_4 : decode cX10_become 4 = .ok (.iconst 0, 1) := by decide +kernel
theorem dX10_become_5 : decode cX10_become 5 = .ok (.istore_n 2, 1) := by decide +kernel
theorem dX10_become_6 : decode cX10_become 6 = .ok (.iload_n 2, 1) := by decide +kernel
theorem dX10_become_7 : decode cX10_become 7 = .ok (.aload_n 1, 1) := by decide +kernel
theorem dX10_become_8 : decode cX10_become 8 = .ok (.getfield 15, 3) := by decide +kernel
theorem dX10_become_11 : decode cX10_become 11 = .ok (.if_icmp .ge 18, 3) := by decide +kernel
theorem dX10_become_14 : decode cX10_become 14 = .ok (.aload_n 0, 1) := by decide +kernel
theorem dX10_become_15 : decode cX10_become 15 = .ok (.aload_n 1, 1) := by decide +kernel
theorem dX10_become_16 : decode cX10_become 16 = .ok (.iload_n 2, 1) := by decide +kernel
theorem dX10_become_17 : decode cX10_become 17 = .ok (.invokevirtual 30, 3) := by decide +kernel
theorem dX10_become_20 : decode cX10_become 20 = .ok (.invokevirtual 34, 3) := by decide +kernel
theorem dX10_become_23 : decode cX10_become 23 = .ok (.iinc 2 1, 3) := by decide +kernel
theorem dX10_become_26 : decode cX10_become 26 = .ok (.goto (-20), 3) := by decide +kernel
theorem dX10_become_29 : decode cX10_become 29 = .ok (.return_, 1) := by decide +kernel
theorem dX10_bracketed_0 : decode cX10_bracketed 0 = .ok (.aload_n 0, 1) := by decide +kernel
theorem dX10_bracketed_1 : decode cX10_bracketed 1 = .ok (.invokevirtual 27, 3) := by decide +kernel
theorem dX10_bracketed_4 : decode cX10_bracketed 4 = .ok (.iconst 0, 1) := by decide +kernel
theorem dX10_bracketed_5 : decode cX10_bracketed 5 = .ok (.istore 4, 2) := by decide +kernel
theorem dX10_bracketed_7 : decode cX10_bracketed 7 = .ok (.iload 4, 2) := by decide +kernel
theorem dX10_bracketed_9 : decode cX10_bracketed 9 = .ok (.aload_n 1, 1) := by decide +kernel
theorem dX10_bracketed_10 : decode cX10_bracketed 10 = .ok (.getfield 15, 3) := by decide +kernel
theorem dX10_bracketed_13 : decode cX10_bracketed 13 = .ok (.if_icmp .ge 43, 3) := by decide +kernel
theorem dX10_bracketed_16 : decode cX10_bracketed 16 = .ok (.iload 4, 2) := by decide +kernel
theorem dX10_bracketed_18 : decode cX10_bracketed 18 = .ok (.iload_n 2, 1) := by decide +kernel
theorem dX10_bracketed_19 : decode cX10_bracketed 19 = .ok (.if_icmp .ne 9, 3) := by decide +kernel
theorem dX10_bracketed_22 : decode cX10_bracketed 22 = .ok (.aload_n 0, 1) := by decide +kernel
theorem dX10_bracketed_23 : decode cX10_bracketed 23 = .ok (.bipush 40, 2) := by decide +kernel
theorem dX10_bracketed_25 : decode cX10_bracketed 25 = .ok (.invokevirtual 34, 3) := by decide +kernel
theorem dX10_bracketed_28 : decode cX10_bracketed 28 = .ok (.aload_n 0, 1) := by decide +kernel
theorem dX10_bracketed_29 : decode cX10_bracketed 29 = .ok (.aload_n 1, 1) := by decide +kernel
theorem dX10_bracketed_30 : decode cX10_bracketed 30 = .ok (.iload 4, 2) := by decide +kernel
theorem dX10_bracketed_32 : decode cX10_bracketed 32 = .ok (.invokevirtual 30, 3) := by decide +kernel
theorem dX10_bracketed_35 : decode cX10_bracketed 35 = .ok (.invokevirtual 34, 3) := by decide +kernel
theorem dX10_bracketed_38 : decode cX10_bracketed 38 = .ok (.iload 4, 2) := by decide +kernel
theorem dX10_bracketed_40 : decode cX10_bracketed 40 = .ok (.iload_n 3, 1) := by decide +kernel
theorem dX10_bracketed_41 : decode cX10_bracketed 41 = .ok (.if_icmp .ne 9, 3) := by decide +kernel
theorem dX10_bracketed_44 : decode cX10_bracketed 44 = .ok (.aload_n 0, 1) := by decide +kernel
theorem dX10_bracketed_45 : decode cX10_bracketed 45 = .ok (.bipush 41, 2) := by decide +kernel
theorem dX10_bracketed_47 : decode cX10_bracketed 47 = .ok (.invokevirtual 34, 3) := by decide +kernel
theorem dX10_bracketed_50 : decode cX10_bracketed 50 = .ok (.iinc 4 1, 3) := by decide +kernel
theorem dX10_bracketed_53 : decode cX10_bracketed 53 = .ok (.goto (-46), 3) := by decide +kernel
theorem dX10_bracketed_56 : decode cX10_bracketed 56 = .ok (.return_, 1) := by decide +kernel
theorem dX10_letters_0 : decode cX10_letters 0 = .ok (.iconst 0, 1) := by decide +kernel
theorem dX10_letters_1 : decode cX10_letters 1 = .ok (.istore_n 1, 1) := by decide +kernel
theorem dX10_letters_2 : decode cX10_letters 2 = .ok (.iconst 0, 1) := by decide +kernel
theorem dX10_letters_3 : decode cX10_letters 3 = .ok (.istore_n 2, 1) := by decide +kernel
theorem dX10_letters_4 : decode cX10_letters 4 = .ok (.iload_n 2, 1) := by decide +kernel
theorem dX10_letters_5 : decode cX10_letters 5 = .ok (.aload_n 0, 1) := by decide +kernel
theorem dX10_letters_6 : decode cX10_letters 6 = .ok (.getfield 15, 3) := by decide +kernel
theorem dX10_letters_9 : decode cX10_letters 9 = .ok (.if_icmp .ge 23, 3) := by decide +kernel
theorem dX10_letters_12 : decode cX10_letters 12 = .ok (.aload_n 0, 1) := by decide +kernel
theorem dX10_letters_13 : decode cX10_letters 13 = .ok (.iload_n 2, 1) := by decide +kernel
theorem dX10_letters_14 : decode cX10_letters 14 = .ok (.invokevirtual 30, 3) := by decide +kernel
theorem dX10_letters_17 : decode cX10_letters 17 = .ok (.invokestatic 38, 3) := by decide +kernel
theorem dX10_letters_20 : decode cX10_letters 20 = .ok (.ifCond .ne 6, 3) := by decide +kernel
theorem dX10_letters_23 : decode cX10_letters 23 = .ok (.iinc 1 1, 3) := by decide +kernel
theorem dX10_letters_26 : decode cX10_letters 26 = .ok (.iinc 2 1, 3) := by decide +kernel
theorem dX10_letters_29 : decode cX10_letters 29 = .ok (.goto (-25), 3) := by decide +kernel
theorem dX10_letters_32 : decode cX10_letters 32 = .ok (.iload_n 1, 1) := by decide +kernel
theorem dX10_letters_33 : decode cX10_letters 33 = .ok (.ireturn, 1) := by decide +kernel
theorem dX10_mostOpen_0 : decode cX10_mostOpen 0 = .ok (.iconst 0, 1) := by decide +kernel
theorem dX10_mostOpen_1 : decode cX10_mostOpen 1 = .ok (.istore_n 1, 1) := by decide +kernel
theorem dX10_mostOpen_2 : decode cX10_mostOpen 2 = .ok (.iconst 0, 1) := by decide +kernel
theorem dX10_mostOpen_3 : decode cX10_mostOpen 3 = .ok (.istore_n 2, 1) := by decide +kernel
theorem dX10_mostOpen_4 : decode cX10_mostOpen 4 = .ok (.iconst 0, 1) := by decide +kernel
theorem dX10_mostOpen_5 : decode cX10_mostOpen 5 = .ok (.istore_n 3, 1) := by decide +kernel
theorem dX10_mostOpen_6 : decode cX10_mostOpen 6 = .ok (.iload_n 3, 1) := by decide +kernel
theorem dX10_mostOpen_7 : decode cX10_mostOpen 7 = .ok (.aload_n 0, 1) := by decide +kernel
theorem dX10_mostOpen_8 : decode cX10_mostOpen 8 = .ok (.getfield 15, 3) := by decide +kernel
theorem dX10_mostOpen_11 : decode cX10_mostOpen 11 = .ok (.if_icmp .ge 44, 3) := by decide +kernel
theorem dX10_mostOpen_14 : decode cX10_mostOpen 14 = .ok (.aload_n 0, 1) := by decide +kernel
theorem dX10_mostOpen_15 : decode cX10_mostOpen 15 = .ok (.iload_n 3, 1) := by decide +kernel
theorem dX10_mostOpen_16 : decode cX10_mostOpen 16 = .ok (.invokevirtual 30, 3) := by decide +kernel
theorem dX10_mostOpen_19 : decode cX10_mostOpen 19 = .ok (.bipush 40, 2) := by decide +kernel
theorem dX10_mostOpen_21 : decode cX10_mostOpen 21 = .ok (.if_icmp .ne 9, 3) := by decide +kernel
theorem dX10_mostOpen_24 : decode cX10_mostOpen 24 = .ok (.iinc 1 1, 3) := by decide +kernel
theorem dX10_mostOpen_27 : decode cX10_mostOpen 27 = .ok (.goto 16, 3) := by decide +kernel
theorem dX10_mostOpen_30 : decode cX10_mostOpen 30 = .ok (.aload_n 0, 1) := by decide +kernel
theorem dX10_mostOpen_31 : decode cX10_mostOpen 31 = .ok (.iload_n 3, 1) := by decide +kernel
theorem dX10_mostOpen_32 : decode cX10_mostOpen 32 = .ok (.invokevirtual 30, 3) := by decide +kernel
theorem dX10_mostOpen_35 : decode cX10_mostOpen 35 = .ok (.bipush 41, 2) := by decide +kernel
theorem dX10_mostOpen_37 : decode cX10_mostOpen 37 = .ok (.if_icmp .ne 6, 3) := by decide +kernel
theorem dX10_mostOpen_40 : decode cX10_mostOpen 40 = .ok (.iinc 1 (-1), 3) := by decide +kernel
theorem dX10_mostOpen_43 : decode cX10_mostOpen 43 = .ok (.iload_n 2, 1) := by decide +kernel
theorem dX10_mostOpen_44 : decode cX10_mostOpen 44 = .ok (.iload_n 1, 1) := by decide +kernel
theorem dX10_mostOpen_45 : decode cX10_mostOpen 45 = .ok (.invokestatic 41, 3) := by decide +kernel
theorem dX10_mostOpen_48 : decode cX10_mostOpen 48 = .ok (.istore_n 2, 1) := by decide +kernel
theorem dX10_mostOpen_49 : decode cX10_mostOpen 49 = .ok (.iinc 3 1, 3) := by decide +kernel
theorem dX10_mostOpen_52 : decode cX10_mostOpen 52 = .ok (.goto (-46), 3) := by decide +kernel
theorem dX10_mostOpen_55 : decode cX10_mostOpen 55 = .ok (.iload_n 2, 1) := by decide +kernel
theorem dX10_mostOpen_56 : decode cX10_mostOpen 56 = .ok (.ireturn, 1) := by decide +kernel
theorem dX10_closeAfter_0 : decode cX10_closeAfter 0 = .ok (.iconst 0, 1) := by decide +kernel
theorem dX10_closeAfter_1 : decode cX10_closeAfter 1 = .ok (.istore_n 2, 1) := by decide +kernel
theorem dX10_closeAfter_2 : decode cX10_closeAfter 2 = .ok (.iload_n 1, 1) := by decide +kernel
theorem dX10_closeAfter_3 : decode cX10_closeAfter 3 = .ok (.istore_n 3, 1) := by decide +kernel
theorem dX10_closeAfter_4 : decode cX10_closeAfter 4 = .ok (.iload_n 3, 1) := by decide +kernel
theorem dX10_closeAfter_5 : decode cX10_closeAfter 5 = .ok (.aload_n 0, 1) := by decide +kernel
theorem dX10_closeAfter_6 : decode cX10_closeAfter 6 = .ok (.getfield 15, 3) := by decide +kernel
theorem dX10_closeAfter_9 : decode cX10_closeAfter 9 = .ok (.if_icmp .ge 48, 3) := by decide +kernel
theorem dX10_closeAfter_12 : decode cX10_closeAfter 12 = .ok (.aload_n 0, 1) := by decide +kernel
theorem dX10_closeAfter_13 : decode cX10_closeAfter 13 = .ok (.getfield 9, 3) := by decide +kernel
theorem dX10_closeAfter_16 : decode cX10_closeAfter 16 = .ok (.iload_n 3, 1) := by decide +kernel
theorem dX10_closeAfter_17 : decode cX10_closeAfter 17 = .ok (.invokestatic 19, 3) := by decide +kernel
theorem dX10_closeAfter_20 : decode cX10_closeAfter 20 = .ok (.istore 4, 2) := by decide +kernel
theorem dX10_closeAfter_22 : decode cX10_closeAfter 22 = .ok (.iload 4, 2) := by decide +kernel
theorem dX10_closeAfter_24 : decode cX10_closeAfter 24 = .ok (.bipush 40, 2) := by decide +kernel
theorem dX10_closeAfter_26 : decode cX10_closeAfter 26 = .ok (.if_icmp .ne 9, 3) := by decide +kernel
theorem dX10_closeAfter_29 : decode cX10_closeAfter 29 = .ok (.iinc 2 1, 3) := by decide +kernel
theorem dX10_closeAfter_32 : decode cX10_closeAfter 32 = .ok (.goto 13, 3) := by decide +kernel
theorem dX10_closeAfter_35 : decode cX10_closeAfter 35 = .ok (.iload 4, 2) := by decide +kernel
theorem dX10_closeAfter_37 : decode cX10_closeAfter 37 = .ok (.bipush 41, 2) := by decide +kernel
theorem dX10_closeAfter_39 : decode cX10_closeAfter 39 = .ok (.if_icmp .ne 6, 3) := by decide +kernel
theorem dX10_closeAfter_42 : decode cX10_closeAfter 42 = .ok (.iinc 2 (-1), 3) := by decide +kernel
theorem dX10_closeAfter_45 : decode cX10_closeAfter 45 = .ok (.iload_n 2, 1) := by decide +kernel
theorem dX10_closeAfter_46 : decode cX10_closeAfter 46 = .ok (.ifCond .ge 5, 3) := by decide +kernel
theorem dX10_closeAfter_49 : decode cX10_closeAfter 49 = .ok (.iload_n 3, 1) := by decide +kernel
theorem dX10_closeAfter_50 : decode cX10_closeAfter 50 = .ok (.ireturn, 1) := by decide +kernel
theorem dX10_closeAfter_51 : decode cX10_closeAfter 51 = .ok (.iinc 3 1, 3) := by decide +kernel
theorem dX10_closeAfter_54 : decode cX10_closeAfter 54 = .ok (.goto (-50), 3) := by decide +kernel
theorem dX10_closeAfter_57 : decode cX10_closeAfter 57 = .ok (.aload_n 0, 1) := by decide +kernel
theorem dX10_closeAfter_58 : decode cX10_closeAfter 58 = .ok (.getfield 15, 3) := by decide +kernel
theorem dX10_closeAfter_61 : decode cX10_closeAfter 61 = .ok (.ireturn, 1) := by decide +kernel
theorem dX10_fault_0 : decode cX10_fault 0 = .ok (.iconst 1, 1) := by decide +kernel
theorem dX10_fault_1 : decode cX10_fault 1 = .ok (.istore_n 1, 1) := by decide +kernel
theorem dX10_fault_2 : decode cX10_fault 2 = .ok (.iconst 0, 1) := by decide +kernel
theorem dX10_fault_3 : decode cX10_fault 3 = .ok (.istore_n 2, 1) := by decide +kernel
theorem dX10_fault_4 : decode cX10_fault 4 = .ok (.iconst 0, 1) := by decide +kernel
theorem dX10_fault_5 : decode cX10_fault 5 = .ok (.istore_n 3, 1) := by decide +kernel
theorem dX10_fault_6 : decode cX10_fault 6 = .ok (.iload_n 3, 1) := by decide +kernel
theorem dX10_fault_7 : decode cX10_fault 7 = .ok (.aload_n 0, 1) := by decide +kernel
theorem dX10_fault_8 : decode cX10_fault 8 = .ok (.getfield 15, 3) := by decide +kernel
theorem dX10_fault_11 : decode cX10_fault 11 = .ok (.if_icmp .ge 109, 3) := by decide +kernel
theorem dX10_fault_14 : decode cX10_fault 14 = .ok (.aload_n 0, 1) := by decide +kernel
theorem dX10_fault_15 : decode cX10_fault 15 = .ok (.iload_n 3, 1) := by decide +kernel
theorem dX10_fault_16 : decode cX10_fault 16 = .ok (.invokevirtual 30, 3) := by decide +kernel
theorem dX10_fault_19 : decode cX10_fault 19 = .ok (.istore 4, 2) := by decide +kernel
theorem dX10_fault_21 : decode cX10_fault 21 = .ok (.iload_n 1, 1) := by decide +kernel
theorem dX10_fault_22 : decode cX10_fault 22 = .ok (.ifCond .eq 21, 3) := by decide +kernel
theorem dX10_fault_25 : decode cX10_fault 25 = .ok (.iload 4, 2) := by decide +kernel
theorem dX10_fault_27 : decode cX10_fault 27 = .ok (.bipush 40, 2) := by decide +kernel
theorem dX10_fault_29 : decode cX10_fault 29 = .ok (.if_icmp .ne 14, 3) := by decide +kernel
theorem dX10_fault_32 : decode cX10_fault 32 = .ok (.iload_n 2, 1) := by decide +kernel
theorem dX10_fault_33 : decode cX10_fault 33 = .ok (.iconst 4, 1) := by decide +kernel
theorem dX10_fault_34 : decode cX10_fault 34 = .ok (.if_icmp .ge 9, 3) := by decide +kernel
theorem dX10_fault_37 : decode cX10_fault 37 = .ok (.iinc 2 1, 3) := by decide +kernel
theorem dX10_fault_40 : decode cX10_fault 40 = .ok (.goto 74, 3) := by decide +kernel
theorem dX10_fault_43 : decode cX10_fault 43 = .ok (.iload_n 1, 1) := by decide +kernel
theorem dX10_fault_44 : decode cX10_fault 44 = .ok (.ifCond .eq 16, 3) := by decide +kernel
theorem dX10_fault_47 : decode cX10_fault 47 = .ok (.iload 4, 2) := by decide +kernel
theorem dX10_fault_49 : decode cX10_fault 49 = .ok (.invokestatic 38, 3) := by decide +kernel
theorem dX10_fault_52 : decode cX10_fault 52 = .ok (.ifCond .ne 8, 3) := by decide +kernel
theorem dX10_fault_55 : decode cX10_fault 55 = .ok (.iconst 0, 1) := by decide +kernel
theorem dX10_fault_56 : decode cX10_fault 56 = .ok (.istore_n 1, 1) := by decide +kernel
theorem dX10_fault_57 : decode cX10_fault 57 = .ok (.goto 57, 3) := by decide +kernel
theorem dX10_fault_60 : decode cX10_fault 60 = .ok (.iload_n 1, 1) := by decide +kernel
theorem dX10_fault_61 : decode cX10_fault 61 = .ok (.ifCond .ne 20, 3) := by decide +kernel
theorem dX10_fault_64 : decode cX10_fault 64 = .ok (.iload 4, 2) := by decide +kernel
theorem dX10_fault_66 : decode cX10_fault 66 = .ok (.bipush 41, 2) := by decide +kernel
theorem dX10_fault_68 : decode cX10_fault 68 = .ok (.if_icmp .ne 13, 3) := by decide +kernel
theorem dX10_fault_71 : decode cX10_fault 71 = .ok (.iload_n 2, 1) := by decide +kernel
theorem dX10_fault_72 : decode cX10_fault 72 = .ok (.ifCond .le 9, 3) := by decide +kernel
theorem dX10_fault_75 : decode cX10_fault 75 = .ok (.iinc 2 (-1), 3) := by decide +kernel
theorem dX10_fault_78 : decode cX10_fault 78 = .ok (.goto 36, 3) := by decide +kernel
theorem dX10_fault_81 : decode cX10_fault 81 = .ok (.iload_n 1, 1) := by decide +kernel
theorem dX10_fault_82 : decode cX10_fault 82 = .ok (.ifCond .ne 19, 3) := by decide +kernel
theorem dX10_fault_85 : decode cX10_fault 85 = .ok (.iload 4, 2) := by decide +kernel
theorem dX10_fault_87 : decode cX10_fault 87 = .ok (.invokestatic 38, 3) := by decide +kernel
theorem dX10_fault_90 : decode cX10_fault 90 = .ok (.invokestatic 47, 3) := by decide +kernel
theorem dX10_fault_93 : decode cX10_fault 93 = .ok (.ifCond .eq 8, 3) := by decide +kernel
theorem dX10_fault_96 : decode cX10_fault 96 = .ok (.iconst 1, 1) := by decide +kernel
theorem dX10_fault_97 : decode cX10_fault 97 = .ok (.istore_n 1, 1) := by decide +kernel
theorem dX10_fault_98 : decode cX10_fault 98 = .ok (.goto 16, 3) := by decide +kernel
theorem dX10_fault_101 : decode cX10_fault 101 = .ok (.iload_n 1, 1) := by decide +kernel
theorem dX10_fault_102 : decode cX10_fault 102 = .ok (.ifCond .eq 10, 3) := by decide +kernel
theorem dX10_fault_105 : decode cX10_fault 105 = .ok (.iload 4, 2) := by decide +kernel
theorem dX10_fault_107 : decode cX10_fault 107 = .ok (.bipush 33, 2) := by decide +kernel
theorem dX10_fault_109 : decode cX10_fault 109 = .ok (.if_icmp .eq 5, 3) := by decide +kernel
theorem dX10_fault_112 : decode cX10_fault 112 = .ok (.iload_n 3, 1) := by decide +kernel
theorem dX10_fault_113 : decode cX10_fault 113 = .ok (.ireturn, 1) := by decide +kernel
theorem dX10_fault_114 : decode cX10_fault 114 = .ok (.iinc 3 1, 3) := by decide +kernel
theorem dX10_fault_117 : decode cX10_fault 117 = .ok (.goto (-111), 3) := by decide +kernel
theorem dX10_fault_120 : decode cX10_fault 120 = .ok (.iload_n 1, 1) := by decide +kernel
theorem dX10_fault_121 : decode cX10_fault 121 = .ok (.ifCond .ne 7, 3) := by decide +kernel
theorem dX10_fault_124 : decode cX10_fault 124 = .ok (.iload_n 2, 1) := by decide +kernel
theorem dX10_fault_125 : decode cX10_fault 125 = .ok (.ifCond .le 10, 3) := by decide +kernel
theorem dX10_fault_128 : decode cX10_fault 128 = .ok (.aload_n 0, 1) := by decide +kernel
theorem dX10_fault_129 : decode cX10_fault 129 = .ok (.getfield 15, 3) := by decide +kernel
theorem dX10_fault_132 : decode cX10_fault 132 = .ok (.goto 4, 3) := by decide +kernel
theorem dX10_fault_135 : decode cX10_fault 135 = .ok (.iconst (-1), 1) := by decide +kernel
theorem dX10_fault_136 : decode cX10_fault 136 = .ok (.ireturn, 1) := by decide +kernel
theorem dX11_init_0 : decode cX11_init 0 = .ok (.aload_n 0, 1) := by decide +kernel
theorem dX11_init_1 : decode cX11_init 1 = .ok (.invokespecial 1, 3) := by decide +kernel
theorem dX11_init_4 : decode cX11_init 4 = .ok (.aload_n 0, 1) := by decide +kernel
theorem dX11_init_5 : decode cX11_init 5 = .ok (.new 7, 3) := by decide +kernel
theorem dX11_init_8 : decode cX11_init 8 = .ok (.dup, 1) := by decide +kernel
theorem dX11_init_9 : decode cX11_init 9 = .ok (.invokespecial 9, 3) := by decide +kernel
theorem dX11_init_12 : decode cX11_init 12 = .ok (.putfield 10, 3) := by decide +kernel
theorem dX11_init_15 : decode cX11_init 15 = .ok (.aload_n 0, 1) := by decide +kernel
theorem dX11_init_16 : decode cX11_init 16 = .ok (.new 7, 3) := by decide +kernel
theorem dX11_init_19 : decode cX11_init 19 = .ok (.dup, 1) := by decide +kernel
theorem dX11_init_20 : decode cX11_init 20 = .ok (.invokespecial 9, 3) := by decide +kernel
theorem dX11_init_23 : decode cX11_init 23 = .ok (.putfield 16, 3) := by decide +kernel
theorem dX11_init_26 : decode cX11_init 26 = .ok (.aload_n 0, 1) := by decide +kernel
theorem dX11_init_27 : decode cX11_init 27 = .ok (.new 7, 3) := by decide +kernel
theorem dX11_init_30 : decode cX11_init 30 = .ok (.dup, 1) := by decide +kernel
theorem dX11_init_31 : decode cX11_init 31 = .ok (.invokespecial 9, 3) := by decide +kernel
theorem dX11_init_34 : decode cX11_init 34 = .ok (.putfield 19, 3) := by decide +kernel
theorem dX11_init_37 : decode cX11_init 37 = .ok (.aload_n 0, 1) := by decide +kernel
theorem dX11_init_38 : decode cX11_init 38 = .ok (.new 22, 3) := by decide +kernel
theorem dX11_init_41 : decode cX11_init 41 = .ok (.dup, 1) := by decide +kernel
theorem dX11_init_42 : decode cX11_init 42 = .ok (.invokespecial 24, 3) := by decide +kernel
theorem dX11_init_45 : decode cX11_init 45 = .ok (.putfield 25, 3) := by decide +kernel
theorem dX11_init_48 : decode cX11_init 48 = .ok (.aload_n 0, 1) := by decide +kernel
theorem dX11_init_49 : decode cX11_init 49 = .ok (.new 29, 3) := by decide +kernel
theorem dX11_init_52 : decode cX11_init 52 = .ok (.dup, 1) := by decide +kernel
theorem dX11_init_53 : decode cX11_init 53 = .ok (.invokespecial 31, 3) := by decide +kernel
theorem dX11_init_56 : decode cX11_init 56 = .ok (.putfield 32, 3) := by decide +kernel
theorem dX11_init_59 : decode cX11_init 59 = .ok (.aload_n 0, 1) := by decide +kernel
theorem dX11_init_60 : decode cX11_init 60 = .ok (.new 36, 3) := by decide +kernel
theorem dX11_init_63 : decode cX11_init 63 = .ok (.dup, 1) := by decide +kernel
theorem dX11_init_64 : decode cX11_init 64 = .ok (.invokespecial 38, 3) := by decide +kernel
theorem dX11_init_67 : decode cX11_init 67 = .ok (.putfield 39, 3) := by decide +kernel
theorem dX11_init_70 : decode cX11_init 70 = .ok (.aload_n 0, 1) := by decide +kernel
theorem dX11_init_71 : decode cX11_init 71 = .ok (.new 43, 3) := by decide +kernel
theorem dX11_init_74 : decode cX11_init 74 = .ok (.dup, 1) := by decide +kernel
theorem dX11_init_75 : decode cX11_init 75 = .ok (.invokespecial 45, 3) := by decide +kernel
theorem dX11_init_78 : decode cX11_init 78 = .ok (.putfield 46, 3) := by decide +kernel
theorem dX11_init_81 : decode cX11_init 81 = .ok (.aload_n 0, 1) := by decide +kernel
theorem dX11_init_82 : decode cX11_init 82 = .ok (.new 50, 3) := by decide +kernel
theorem dX11_init_85 : decode cX11_init 85 = .ok (.dup, 1) := by decide +kernel
theorem dX11_init_86 : decode cX11_init 86 = .ok (.invokespecial 52, 3) := by decide +kernel
theorem dX11_init_89 : decode cX11_init 89 = .ok (.putfield 53, 3) := by decide +kernel
theorem dX11_init_92 : decode cX11_init 92 = .ok (.aload_n 0, 1) := by decide +kernel
theorem dX11_init_93 : decode cX11_init 93 = .ok (.new 57, 3) := by decide +kernel
theorem dX11_init_96 : decode cX11_init 96 = .ok (.dup, 1) := by decide +kernel
theorem dX11_init_97 : decode cX11_init 97 = .ok (.invokespecial 59, 3) := by decide +kernel
theorem dX11_init_100 : decode cX11_init 100 = .ok (.putfield 60, 3) := by decide +kernel
theorem dX11_init_103 : decode cX11_init 103 = .ok (.aload_n 0, 1) := by decide +kernel
theorem dX11_init_104 : decode cX11_init 104 = .ok (.new 57, 3) := by decide +kernel
theorem dX11_init_107 : decode cX11_init 107 = .ok (.dup, 1) := by decide +kernel
theorem dX11_init_108 : decode cX11_init 108 = .ok (.invokespecial 59, 3) := by decide +kernel
theorem dX11_init_111 : decode cX11_init 111 = .ok (.putfield 64, 3) := by decide +kernel
theorem dX11_init_114 : decode cX11_init 114 = .ok (.aload_n 0, 1) := by decide +kernel
theorem dX11_init_115 : decode cX11_init 115 = .ok (.new 67, 3) := by decide +kernel
theorem dX11_init_118 : decode cX11_init 118 = .ok (.dup, 1) := by decide +kernel
theorem dX11_init_119 : decode cX11_init 119 = .ok (.invokespecial 69, 3) := by decide +kernel
theorem dX11_init_122 : decode cX11_init 122 = .ok (.putfield 70, 3) := by decide +kernel
theorem dX11_init_125 : decode cX11_init 125 = .ok (.aload_n 0, 1) := by decide +kernel
theorem dX11_init_126 : decode cX11_init 126 = .ok (.new 74, 3) := by decide +kernel
theorem dX11_init_129 : decode cX11_init 129 = .ok (.dup, 1) := by decide +kernel
theorem dX11_init_130 : decode cX11_init 130 = .ok (.invokespecial 76, 3) := by decide +kernel
theorem dX11_init_133 : decode cX11_init 133 = .ok (.putfield 77, 3) := by decide +kernel
theorem dX11_init_136 : decode cX11_init 136 = .ok (.aload_n 0, 1) := by decide +kernel
theorem dX11_init_137 : decode cX11_init 137 = .ok (.new 81, 3) := by decide +kernel
theorem dX11_init_140 : decode cX11_init 140 = .ok (.dup, 1) := by decide +kernel
theorem dX11_init_141 : decode cX11_init 141 = .ok (.invokespecial 83, 3) := by decide +kernel
theorem dX11_init_144 : decode cX11_init 144 = .ok (.putfield 84, 3) := by decide +kernel
theorem dX11_init_147 : decode cX11_init 147 = .ok (.aload_n 0, 1) := by decide +kernel
theorem dX11_init_148 : decode cX11_init 148 = .ok (.bipush 7, 2) := by decide +kernel
theorem dX11_init_150 : decode cX11_init 150 = .ok (.newarray .int, 2) := by decide +kernel
theorem dX11_init_152 : decode cX11_init 152 = .ok (.putfield 88, 3) := by decide +kernel
theorem dX11_init_155 : decode cX11_init 155 = .ok (.aload_n 0, 1) := by decide +kernel
theorem dX11_init_156 : decode cX11_init 156 = .ok (.getfield 16, 3) := by decide +kernel
theorem dX11_init_159 : decode cX11_init 159 = .ok (.bipush 97, 2) := by decide +kernel
theorem dX11_init_161 : decode cX11_init 161 = .ok (.invokevirtual 92, 3) := by decide +kernel
theorem dX11_init_164 : decode cX11_init 164 = .ok (.aload_n 0, 1) := by decide +kernel
theorem dX11_init_165 : decode cX11_init 165 = .ok (.getfield 25, 3) := by decide +kernel
theorem dX11_init_168 : decode cX11_init 168 = .ok (.aload_n 0, 1) := by decide +kernel
theorem dX11_init_169 : decode cX11_init 169 = .ok (.getfield 16, 3) := by decide +kernel
theorem dX11_init_172 : decode cX11_init 172 = .ok (.invokevirtual 96, 3) := by decide +kernel
theorem dX11_init_175 : decode cX11_init 175 = .ok (.return_, 1) := by decide +kernel
theorem dX11_feed_0 : decode cX11_feed 0 = .ok (.iload_n 1, 1) := by decide +kernel
theorem dX11_feed_1 : decode cX11_feed 1 = .ok (.iconst 1, 1) := by decide +kernel
theorem dX11_feed_2 : decode cX11_feed 2 = .ok (.if_icmp .ge 10, 3) := by decide +kernel
theorem dX11_feed_5 : decode cX11_feed 5 = .ok (.aload_n 0, 1) := by decide +kernel
theorem dX11_feed_6 : decode cX11_feed 6 = .ok (.bipush (-4), 2) := by decide +kernel
theorem dX11_feed_8 : decode cX11_feed 8 = .ok (.invokevirtual 100, 3) := by decide +kernel
theorem dX11_feed_11 : decode cX11_feed 11 = .ok (.ireturn, 1) := by decide +kernel
theorem dX11_feed_12 : decode cX11_feed 12 = .ok (.iload_n 1, 1) := by decide +kernel
theorem dX11_feed_13 : decode cX11_feed 13 = .ok (.bipush 8, 2) := by decide +kernel
theorem dX11_feed_15 : decode cX11_feed 15 = .ok (.if_icmp .gt 17, 3) := by decide +kernel
theorem dX11_feed_18 : decode cX11_feed 18 = .ok (.aload_n 0, 1) := by decide +kernel
theorem dX11_feed_19 : decode cX11_feed 19 = .ok (.getfield 10, 3) := by decide +kernel
theorem dX11_feed_22 : decode cX11_feed 22 = .ok (.invokevirtual 104, 3) := by decide +kernel
theorem dX11_feed_25 : decode cX11_feed 25 = .ok (.iload_n 1, 1) := by decide +kernel
theorem dX11_feed_26 : decode cX11_feed 26 = .ok (.iadd, 1) := by decide +kernel
theorem dX11_feed_27 : decode cX11_feed 27 = .ok (.bipush 21, 2) := by decide +kernel
theorem dX11_feed_29 : decode cX11_feed 29 = .ok (.if_icmp .le 10, 3) := by decide +kernel
theorem dX11_feed_32 : decode cX11_feed 32 = .ok (.aload_n 0, 1) := by decide +kernel
theorem dX11_feed_33 : decode cX11_feed 33 = .ok (.bipush (-6), 2) := by decide +kernel
theorem dX11_feed_35 : decode cX11_feed 35 = .ok (.invokevirtual 100, 3) := by decide +kernel
theorem dX11_feed_38 : decode cX11_feed 38 = .ok (.ireturn, 1) := by decide +kernel
theorem dX11_feed_39 : decode cX11_feed 39 = .ok (.iconst 0, 1) := by decide +kernel
theorem dX11_feed_40 : decode cX11_feed 40 = .ok (.istore 4, 2) := by decide +kernel
theorem dX11_feed_42 : decode cX11_feed 42 = .ok (.iload 4, 2) := by decide +kernel
theorem dX11_feed_44 : decode cX11_feed 44 = .ok (.iload_n 1, 1) := by decide +kernel
theorem dX11_feed_45 : decode cX11_feed 45 = .ok (.if_icmp .ge 28, 3) := by decide +kernel
theorem dX11_feed_48 : decode cX11_feed 48 = .ok (.aload_n 0, 1) := by decide +kernel
theorem dX11_feed_49 : decode cX11_feed 49 = .ok (.getfield 10, 3) := by decide +kernel
theorem dX11_feed_52 : decode cX11_feed 52 = .ok (.lload_n 2, 1) := by decide +kernel
theorem dX11_feed_53 : decode cX11_feed 53 = .ok (.bipush 8, 2) := by decide +kernel
theorem dX11_feed_55 : decode cX11_feed 55 = .ok (.iload 4, 2) := by decide +kernel
theorem dX11_feed_57 : decode cX11_feed 57 = .ok (.imul, 1) := by decide +kernel
theorem dX11_feed_58 : decode cX11_feed 58 = .ok (.lushr, 1) := by decide +kernel
theorem dX11_feed_59 : decode cX11_feed 59 = .ok (.ldc2_w 108, 3) := by decide +kernel
theorem dX11_feed_62 : decode cX11_feed 62 = .ok (.land, 1) := by decide +kernel
theorem dX11_feed_63 : decode cX11_feed 63 = .ok (.l2i, 1) := by decide +kernel
theorem dX11_feed_64 : decode cX11_feed 64 = .ok (.invokevirtual 92, 3) := by decide +kernel
theorem dX11_feed_67 : decode cX11_feed 67 = .ok (.iinc 4 1, 3) := by decide +kernel
theorem dX11_feed_70 : decode cX11_feed 70 = .ok (.goto (-28), 3) := by decide +kernel
theorem dX11_feed_73 : decode cX11_feed 73 = .ok (.aload_n 0, 1) := by decide +kernel
theorem dX11_feed_74 : decode cX11_feed 74 = .ok (.getfield 10, 3) := by decide +kernel
theorem dX11_feed_77 : decode cX11_feed 77 = .ok (.invokevirtual 104, 3) := by decide +kernel
theorem dX11_feed_80 : decode cX11_feed 80 = .ok (.ireturn, 1) := by decide +kernel
theorem dX11_read_0 : decode cX11_read 0 = .ok (.aload_n 0, 1) := by decide +kernel
theorem dX11_read_1 : decode cX11_read 1 = .ok (.getfield 10, 3) := by decide +kernel
theorem dX11_read_4 : decode cX11_read 4 = .ok (.invokevirtual 110, 3) := by decide +kernel
theorem dX11_read_7 : decode cX11_read 7 = .ok (.istore_n 1, 1) := by decide +kernel
theorem dX11_read_8 : decode cX11_read 8 = .ok (.iload_n 1, 1) := by decide +kernel
theorem dX11_read_9 : decode cX11_read 9 = .ok (.iconst (-1), 1) := by decide +kernel
theorem dX11_read_10 : decode cX11_read 10 = .ok (.if_icmp .ne 11, 3) := by decide +kernel
theorem dX11_read_13 : decode cX11_read 13 = .ok (.aload_n 0, 1) := by decide +kernel
theorem dX11_read_14 : decode cX11_read 14 = .ok (.aload_n 0, 1) := by decide +kernel
theorem dX11_read_15 : decode cX11_read 15 = .ok (.getfield 10, 3) := by decide +kernel
theorem dX11_read_18 : decode cX11_read 18 = .ok (.invokevirtual 113, 3) := by decide +kernel
theorem dX11_read_21 : decode cX11_read 21 = .ok (.aload_n 0, 1) := by decide +kernel
theorem dX11_read_22 : decode cX11_read 22 = .ok (.getfield 10, 3) := by decide +kernel
theorem dX11_read_25 : decode cX11_read 25 = .ok (.invokevirtual 116, 3) := by decide +kernel
theorem dX11_read_28 : decode cX11_read 28 = .ok (.iload_n 1, 1) := by decide +kernel
theorem dX11_read_29 : decode cX11_read 29 = .ok (.iconst (-1), 1) := by decide +kernel
theorem dX11_read_30 : decode cX11_read 30 = .ok (.if_icmp .ne 13, 3) := by decide +kernel
theorem dX11_read_33 : decode cX11_read 33 = .ok (.aload_n 0, 1) := by decide +kernel
theorem dX11_read_34 : decode cX11_read 34 = .ok (.getfield 16, 3) := by decide +kernel
theorem dX11_read_37 : decode cX11_read 37 = .ok (.invokevirtual 104, 3) := by decide +kernel
theorem dX11_read_40 : decode cX11_read 40 = .ok (.goto 7, 3) := by decide +kernel
theorem dX11_read_43 : decode cX11_read 43 = .ok (.bipush (-20), 2) := by decide +kernel
theorem dX11_read_45 : decode cX11_read 45 = .ok (.iload_n 1, 1) := by decide +kernel
theorem dX11_read_46 : decode cX11_read 46 = .ok (.isub, 1) := by decide +kernel
theorem dX11_read_47 : decode cX11_read 47 = .ok (.ireturn, 1) := by decide +kernel
theorem dX11_wordAt_0 : decode cX11_wordAt 0 = .ok (.iload_n 1, 1) := by decide +kernel
theorem dX11_wordAt_1 : decode cX11_wordAt 1 = .ok (.ifCond .lt 25, 3) := by decide +kernel
theorem dX11_wordAt_4 : decode cX11_wordAt 4 = .ok (.iload_n 1, 1) := by decide +kernel
theorem dX11_wordAt_5 : decode cX11_wordAt 5 = .ok (.aload_n 0, 1) := by decide +kernel
theorem dX11_wordAt_6 : decode cX11_wordAt 6 = .ok (.getfield 16, 3) := by decide +kernel
theorem dX11_wordAt_9 : decode cX11_wordAt 9 = .ok (.invokevirtual 104, 3) := by decide +kernel
theorem dX11_wordAt_12 : decode cX11_wordAt 12 = .ok (.if_icmp .ge 14, 3) := by decide +kernel
theorem dX11_wordAt_15 : decode cX11_wordAt 15 = .ok (.aload_n 0, 1) := by decide +kernel
theorem dX11_wordAt_16 : decode cX11_wordAt 16 = .ok (.getfield 16, 3) := by decide +kernel
theorem dX11_wordAt_19 : decode cX11_wordAt 19 = .ok (.iload_n 1, 1) := by decide +kernel
theorem dX11_wordAt_20 : decode cX11_wordAt 20 = .ok (.invokevirtual 119, 3) := by decide +kernel
theorem dX11_wordAt_23 : decode cX11_wordAt 23 = .ok (.goto 5, 3) := by decide +kernel
theorem dX11_wordAt_26 : decode cX11_wordAt 26 = .ok (.bipush (-9), 2) := by decide +kernel
theorem dX11_wordAt_28 : decode cX11_wordAt 28 = .ok (.ireturn, 1) := by decide +kernel
theorem dX11_readings_0 : decode cX11_readings 0 = .ok (.aload_n 0, 1) := by decide +kernel
theorem dX11_readings_1 : decode cX11_readings 1 = .ok (.getfield 25, 3) := by decide +kernel
theorem dX11_readings_4 : decode cX11_readings 4 = .ok (.iconst 0, 1) := by decide +kernel
theorem dX11_readings_5 : decode cX11_readings 5 = .ok (.aload_n 0, 1) := by decide +kernel
theorem dX11_readings_6 : decode cX11_readings 6 = .ok (.getfield 16, 3) := by decide +kernel
theorem dX11_readings_9 : decode cX11_readings 9 = .ok (.invokevirtual 104, 3) := by decide +kernel
theorem dX11_readings_12 : decode cX11_readings 12 = .ok (.invokevirtual 122, 3) := by decide +kernel
theorem dX11_readings_15 : decode cX11_readings 15 = .ok (.lreturn, 1) := by decide +kernel
theorem dX11_nodes_0 : decode cX11_nodes 0 = .ok (.aload_n 0, 1) := by decide +kernel
theorem dX11_nodes_1 : decode cX11_nodes 1 = .ok (.invokevirtual 126, 3) := by decide +kernel
theorem dX11_nodes_4 : decode cX11_nodes 4 = .ok (.ifCond .eq 10, 3) := by decide +kernel
theorem dX11_nodes_7 : decode cX11_nodes 7 = .ok (.aload_n 0, 1) := by decide +kernel
theorem dX11_nodes_8 : decode cX11_nodes 8 = .ok (.bipush (-5), 2) := by decide +kernel
theorem dX11_nodes_10 : decode cX11_nodes 10 = .ok (.invokevirtual 100, 3) := by decide +kernel
theorem dX11_nodes_13 : decode cX11_nodes 13 = .ok (.ireturn, 1) := by decide +kernel
theorem dX11_nodes_14 : decode cX11_nodes 14 = .ok (.aload_n 0, 1) := by decide +kernel
theorem dX11_nodes_15 : decode cX11_nodes 15 = .ok (.iload_n 1, 1) := by decide +kernel
theorem dX11_nodes_16 : decode cX11_nodes 16 = .ok (.invokevirtual 130, 3) := by decide +kernel
theorem dX11_nodes_19 : decode cX11_nodes 19 = .ok (.ifCond .eq 9, 3) := by decide +kernel
theorem dX11_nodes_22 : decode cX11_nodes 22 = .ok (.aload_n 0, 1) := by decide +kernel
theorem dX11_nodes_23 : decode cX11_nodes 23 = .ok (.iconst (-1), 1) := by decide +kernel
theorem dX11_nodes_24 : decode cX11_nodes 24 = .ok (.invokevirtual 100, 3) := by decide +kernel
theorem dX11_nodes_27 : decode cX11_nodes 27 = .ok (.ireturn, 1) := by decide +kernel
theorem dX11_nodes_28 : decode cX11_nodes 28 = .ok (.aload_n 0, 1) := by decide +kernel
theorem dX11_nodes_29 : decode cX11_nodes 29 = .ok (.getfield 32, 3) := by decide +kernel
theorem dX11_nodes_32 : decode cX11_nodes 32 = .ok (.aload_n 0, 1) := by decide +kernel
theorem dX11_nodes_33 : decode cX11_nodes 33 = .ok (.getfield 16, 3) := by decide +kernel
theorem dX11_nodes_36 : decode cX11_nodes 36 = .ok (.aload_n 0, 1) := by decide +kernel
theorem dX11_nodes_37 : decode cX11_nodes 37 = .ok (.getfield 25, 3) := by decide +kernel
theorem dX11_nodes_40 : decode cX11_nodes 40 = .ok (.iload_n 1, 1) := by decide +kernel
theorem dX11_nodes_41 : decode cX11_nodes 41 = .ok (.i2l, 1) := by decide +kernel
theorem dX11_nodes_42 : decode cX11_nodes 42 = .ok (.invokevirtual 134, 3) := by decide +kernel
theorem dX11_nodes_45 : decode cX11_nodes 45 = .ok (.aload_n 0, 1) := by decide +kernel
theorem dX11_nodes_46 : decode cX11_nodes 46 = .ok (.getfield 32, 3) := by decide +kernel
theorem dX11_nodes_49 : decode cX11_nodes 49 = .ok (.invokevirtual 138, 3) := by decide +kernel
theorem dX11_nodes_52 : decode cX11_nodes 52 = .ok (.ireturn, 1) := by decide +kernel
theorem dX11_node_0 : decode cX11_node 0 = .ok (.aload_n 0, 1) := by decide +kernel
theorem dX11_node_1 : decode cX11_node 1 = .ok (.invokevirtual 126, 3) := by decide +kernel
theorem dX11_node_4 : decode cX11_node 4 = .ok (.ifCond .eq 10, 3) := by decide +kernel
theorem dX11_node_7 : decode cX11_node 7 = .ok (.aload_n 0, 1) := by decide +kernel
theorem dX11_node_8 : decode cX11_node 8 = .ok (.bipush (-5), 2) := by decide +kernel
theorem dX11_node_10 : decode cX11_node 10 = .ok (.invokevirtual 100, 3) := by decide +kernel
theorem dX11_node_13 : decode cX11_node 13 = .ok (.ireturn, 1) := by decide +kernel
theorem dX11_node_14 : decode cX11_node 14 = .ok (.aload_n 0, 1) := by decide +kernel
theorem dX11_node_15 : decode cX11_node 15 = .ok (.iload_n 1, 1) := by decide +kernel
theorem dX11_node_16 : decode cX11_node 16 = .ok (.invokevirtual 130, 3) := by decide +kernel
theorem dX11_node_19 : decode cX11_node 19 = .ok (.ifCond .eq 9, 3) := by decide +kernel
theorem dX11_node_22 : decode cX11_node 22 = .ok (.aload_n 0, 1) := by decide +kernel
theorem dX11_node_23 : decode cX11_node 23 = .ok (.iconst (-1), 1) := by decide +kernel
theorem dX11_node_24 : decode cX11_node 24 = .ok (.invokevirtual 100, 3) := by decide +kernel
theorem dX11_node_27 : decode cX11_node 27 = .ok (.ireturn, 1) := by decide +kernel
theorem dX11_node_28 : decode cX11_node 28 = .ok (.aload_n 0, 1) := by decide +kernel
theorem dX11_node_29 : decode cX11_node 29 = .ok (.getfield 32, 3) := by decide +kernel
theorem dX11_node_32 : decode cX11_node 32 = .ok (.aload_n 0, 1) := by decide +kernel
theorem dX11_node_33 : decode cX11_node 33 = .ok (.getfield 16, 3) := by decide +kernel
theorem dX11_node_36 : decode cX11_node 36 = .ok (.aload_n 0, 1) := by decide +kernel
theorem dX11_node_37 : decode cX11_node 37 = .ok (.getfield 25, 3) := by decide +kernel
theorem dX11_node_40 : decode cX11_node 40 = .ok (.iload_n 1, 1) := by decide +kernel
theorem dX11_node_41 : decode cX11_node 41 = .ok (.i2l, 1) := by decide +kernel
theorem dX11_node_42 : decode cX11_node 42 = .ok (.invokevirtual 134, 3) := by decide +kernel
theorem dX11_node_45 : decode cX11_node 45 = .ok (.iload_n 2, 1) := by decide +kernel
theorem dX11_node_46 : decode cX11_node 46 = .ok (.ifCond .lt 14, 3) := by decide +kernel
theorem dX11_node_49 : decode cX11_node 49 = .ok (.iload_n 2, 1) := by decide +kernel
theorem dX11_node_50 : decode cX11_node 50 = .ok (.aload_n 0, 1) := by decide +kernel
theorem dX11_node_51 : decode cX11_node 51 = .ok (.getfield 32, 3) := by decide +kernel
theorem dX11_node_54 : decode cX11_node 54 = .ok (.invokevirtual 138, 3) := by decide +kernel
theorem dX11_node_57 : decode cX11_node 57 = .ok (.if_icmp .lt 9, 3) := by decide +kernel
theorem dX11_node_60 : decode cX11_node 60 = .ok (.aload_n 0, 1) := by decide +kernel
theorem dX11_node_61 : decode cX11_node 61 = .ok (.iconst (-1), 1) := by decide +kernel
theorem dX11_node_62 : decode cX11_node 62 = .ok (.invokevirtual 100, 3) := by decide +kernel
theorem dX11_node_65 : decode cX11_node 65 = .ok (.ireturn, 1) := by decide +kernel
theorem dX11_node_66 : decode cX11_node 66 = .ok (.iload_n 3, 1) := by decide +kernel
theorem dX11_node_67 : decode cX11_node 67 = .ok (.tableswitch 61 0 2 #[25, 34, 43], 25) := by decide +kernel
theorem dX11_node_92 : decode cX11_node 92 = .ok (.aload_n 0, 1) := by decide +kernel
theorem dX11_node_93 : decode cX11_node 93 = .ok (.getfield 32, 3) := by decide +kernel
theorem dX11_node_96 : decode cX11_node 96 = .ok (.iload_n 2, 1) := by decide +kernel
theorem dX11_node_97 : decode cX11_node 97 = .ok (.invokevirtual 139, 3) := by decide +kernel
theorem dX11_node_100 : decode cX11_node 100 = .ok (.ireturn, 1) := by decide +kernel
theorem dX11_node_101 : decode cX11_node 101 = .ok (.aload_n 0, 1) := by decide +kernel
theorem dX11_node_102 : decode cX11_node 102 = .ok (.getfield 32, 3) := by decide +kernel
theorem dX11_node_105 : decode cX11_node 105 = .ok (.iload_n 2, 1) := by decide +kernel
theorem dX11_node_106 : decode cX11_node 106 = .ok (.invokevirtual 142, 3) := by decide +kernel
theorem dX11_node_109 : decode cX11_node 109 = .ok (.ireturn, 1) := by decide +kernel
theorem dX11_node_110 : decode cX11_node 110 = .ok (.aload_n 0, 1) := by decide +kernel
theorem dX11_node_111 : decode cX11_node 111 = .ok (.getfield 32, 3) := by decide +kernel
theorem dX11_node_114 : decode cX11_node 114 = .ok (.iload_n 2, 1) := by decide +kernel
theorem dX11_node_115 : decode cX11_node 115 = .ok (.invokevirtual 145, 3) := by decide +kernel
theorem dX11_node_118 : decode cX11_node 118 = .ok (.aload_n 0, 1) := by decide +kernel
theorem dX11_node_119 : decode cX11_node 119 = .ok (.getfield 32, 3) := by decide +kernel
theorem dX11_node_122 : decode cX11_node 122 = .ok (.iload_n 2, 1) := by decide +kernel
theorem dX11_node_123 : decode cX11_node 123 = .ok (.invokevirtual 142, 3) := by decide +kernel
theorem dX11_node_126 : decode cX11_node 126 = .ok (.isub, 1) := by decide +kernel
theorem dX11_node_127 : decode cX11_node 127 = .ok (.ireturn, 1) := by decide +kernel
theorem dX11_node_128 : decode cX11_node 128 = .ok (.aload_n 0, 1) := by decide +kernel
theorem dX11_node_129 : decode cX11_node 129 = .ok (.bipush (-2), 2) := by decide +kernel
theorem dX11_node_131 : decode cX11_node 131 = .ok (.invokevirtual 100, 3) := by decide +kernel
theorem dX11_node_134 : decode cX11_node 134 = .ok (.ireturn, 1) := by decide +kernel
theorem dX11_means_0 : decode cX11_means 0 = .ok (.aload_n 0, 1) := by decide +kernel
theorem dX11_means_1 : decode cX11_means 1 = .ok (.invokevirtual 126, 3) := by decide +kernel
theorem dX11_means_4 : decode cX11_means 4 = .ok (.ifCond .eq 11, 3) := by decide +kernel
theorem dX11_means_7 : decode cX11_means 7 = .ok (.aload_n 0, 1) := by decide +kernel
theorem dX11_means_8 : decode cX11_means 8 = .ok (.bipush (-5), 2) := by decide +kernel
theorem dX11_means_10 : decode cX11_means 10 = .ok (.invokevirtual 100, 3) := by decide +kernel
theorem dX11_means_13 : decode cX11_means 13 = .ok (.i2l, 1) := by decide +kernel
theorem dX11_means_14 : decode cX11_means 14 = .ok (.lreturn, 1) := by decide +kernel
theorem dX11_means_15 : decode cX11_means 15 = .ok (.aload_n 0, 1) := by decide +kernel
theorem dX11_means_16 : decode cX11_means 16 = .ok (.iload_n 1, 1) := by decide +kernel
theorem dX11_means_17 : decode cX11_means 17 = .ok (.invokevirtual 130, 3) := by decide +kernel
theorem dX11_means_20 : decode cX11_means 20 = .ok (.ifCond .eq 12, 3) := by decide +kernel
theorem dX11_means_23 : decode cX11_means 23 = .ok (.aload_n 0, 1) := by decide +kernel
theorem dX11_means_24 : decode cX11_means 24 = .ok (.iconst (-1), 1) := by decide +kernel
theorem dX11_means_25 : decode cX11_means 25 = .ok (.invokevirtual 100, 3) := by decide +kernel
theorem dX11_means_28 : decode cX11_means 28 = .ok (.i2l, 1) := by decide +kernel
theorem dX11_means_29 : decode cX11_means 29 = .ok (.goto 11, 3) := by decide +kernel
theorem dX11_means_32 : decode cX11_means 32 = .ok (.aload_n 0, 1) := by decide +kernel
theorem dX11_means_33 : decode cX11_means 33 = .ok (.getfield 39, 3) := by decide +kernel
theorem dX11_means_36 : decode cX11_means 36 = .ok (.iload_n 1, 1) := by decide +kernel
theorem dX11_means_37 : decode cX11_means 37 = .ok (.invokevirtual 148, 3) := by decide +kernel
theorem dX11_means_40 : decode cX11_means 40 = .ok (.lreturn, 1) := by decide +kernel
theorem dX11_lets_0 : decode cX11_lets 0 = .ok (.aload_n 0, 1) := by decide +kernel
theorem dX11_lets_1 : decode cX11_lets 1 = .ok (.invokevirtual 126, 3) := by decide +kernel
theorem dX11_lets_4 : decode cX11_lets 4 = .ok (.ifCond .eq 10, 3) := by decide +kernel
theorem dX11_lets_7 : decode cX11_lets 7 = .ok (.aload_n 0, 1) := by decide +kernel
theorem dX11_lets_8 : decode cX11_lets 8 = .ok (.bipush (-5), 2) := by decide +kernel
theorem dX11_lets_10 : decode cX11_lets 10 = .ok (.invokevirtual 100, 3) := by decide +kernel
theorem dX11_lets_13 : decode cX11_lets 13 = .ok (.ireturn, 1) := by decide +kernel
theorem dX11_lets_14 : decode cX11_lets 14 = .ok (.aload_n 0, 1) := by decide +kernel
theorem dX11_lets_15 : decode cX11_lets 15 = .ok (.iload_n 1, 1) := by decide +kernel
theorem dX11_lets_16 : decode cX11_lets 16 = .ok (.invokevirtual 130, 3) := by decide +kernel
theorem dX11_lets_19 : decode cX11_lets 19 = .ok (.ifCond .ne 10, 3) := by decide +kernel
theorem dX11_lets_22 : decode cX11_lets 22 = .ok (.iload_n 2, 1) := by decide +kernel
theorem dX11_lets_23 : decode cX11_lets 23 = .ok (.invokestatic 152, 3) := by decide +kernel
theorem dX11_lets_26 : decode cX11_lets 26 = .ok (.ifCond .eq 9, 3) := by decide +kernel
theorem dX11_lets_29 : decode cX11_lets 29 = .ok (.aload_n 0, 1) := by decide +kernel
theorem dX11_lets_30 : decode cX11_lets 30 = .ok (.iconst (-1), 1) := by decide +kernel
theorem dX11_lets_31 : decode cX11_lets 31 = .ok (.invokevirtual 100, 3) := by decide +kernel
theorem dX11_lets_34 : decode cX11_lets 34 = .ok (.ireturn, 1) := by decide +kernel
theorem dX11_lets_35 : decode cX11_lets 35 = .ok (.aload_n 0, 1) := by decide +kernel
theorem dX11_lets_36 : decode cX11_lets 36 = .ok (.getfield 39, 3) := by decide +kernel
theorem dX11_lets_39 : decode cX11_lets 39 = .ok (.iload_n 1, 1) := by decide +kernel
theorem dX11_lets_40 : decode cX11_lets 40 = .ok (.invokevirtual 148, 3) := by decide +kernel
theorem dX11_lets_43 : decode cX11_lets 43 = .ok (.iload_n 2, 1) := by decide +kernel
theorem dX11_lets_44 : decode cX11_lets 44 = .ok (.invokestatic 155, 3) := by decide +kernel
theorem dX11_lets_47 : decode cX11_lets 47 = .ok (.ireturn, 1) := by decide +kernel
theorem dX11_map_0 : decode cX11_map 0 = .ok (.aload_n 0, 1) := by decide +kernel
theorem dX11_map_1 : decode cX11_map 1 = .ok (.invokevirtual 126, 3) := by decide +kernel
theorem dX11_map_4 : decode cX11_map 4 = .ok (.ifCond .eq 10, 3) := by decide +kernel
theorem dX11_map_7 : decode cX11_map 7 = .ok (.aload_n 0, 1) := by decide +kernel
theorem dX11_map_8 : decode cX11_map 8 = .ok (.bipush (-5), 2) := by decide +kernel
theorem dX11_map_10 : decode cX11_map 10 = .ok (.invokevirtual 100, 3) := by decide +kernel
theorem dX11_map_13 : decode cX11_map 13 = .ok (.ireturn, 1) := by decide +kernel
theorem dX11_map_14 : decode cX11_map 14 = .ok (.iload_n 1, 1) := by decide +kernel
theorem dX11_map_15 : decode cX11_map 15 = .ok (.invokestatic 152, 3) := by decide +kernel
theorem dX11_map_18 : decode cX11_map 18 = .ok (.ifCond .eq 11, 3) := by decide +kernel
theorem dX11_map_21 : decode cX11_map 21 = .ok (.aload_n 0, 1) := by decide +kernel
theorem dX11_map_22 : decode cX11_map 22 = .ok (.iconst (-1), 1) := by decide +kernel
theorem dX11_map_23 : decode cX11_map 23 = .ok (.invokevirtual 100, 3) := by decide +kernel
theorem dX11_map_26 : decode cX11_map 26 = .ok (.goto 11, 3) := by decide +kernel
theorem dX11_map_29 : decode cX11_map 29 = .ok (.aload_n 0, 1) := by decide +kernel
theorem dX11_map_30 : decode cX11_map 30 = .ok (.getfield 39, 3) := by decide +kernel
theorem dX11_map_33 : decode cX11_map 33 = .ok (.iload_n 1, 1) := by decide +kernel
theorem dX11_map_34 : decode cX11_map 34 = .ok (.invokevirtual 159, 3) := by decide +kernel
theorem dX11_map_37 : decode cX11_map 37 = .ok (.ireturn, 1) := by decide +kernel
theorem dX11_all_0 : decode cX11_all 0 = .ok (.aload_n 0, 1) := by decide +kernel
theorem dX11_all_1 : decode cX11_all 1 = .ok (.invokevirtual 126, 3) := by decide +kernel
theorem dX11_all_4 : decode cX11_all 4 = .ok (.ifCond .eq 11, 3) := by decide +kernel
theorem dX11_all_7 : decode cX11_all 7 = .ok (.aload_n 0, 1) := by decide +kernel
theorem dX11_all_8 : decode cX11_all 8 = .ok (.bipush (-5), 2) := by decide +kernel
theorem dX11_all_10 : decode cX11_all 10 = .ok (.invokevirtual 100, 3) := by decide +kernel
theorem dX11_all_13 : decode cX11_all 13 = .ok (.i2l, 1) := by decide +kernel
theorem dX11_all_14 : decode cX11_all 14 = .ok (.lreturn, 1) := by decide +kernel
theorem dX11_all_15 : decode cX11_all 15 = .ok (.iload_n 1, 1) := by decide +kernel
theorem dX11_all_16 : decode cX11_all 16 = .ok (.ifCond .eq 13, 3) := by decide +kernel
theorem dX11_all_19 : decode cX11_all 19 = .ok (.aload_n 0, 1) := by decide +kernel
theorem dX11_all_20 : decode cX11_all 20 = .ok (.getfield 39, 3) := by decide +kernel
theorem dX11_all_23 : decode cX11_all 23 = .ok (.invokevirtual 162, 3) := by decide +kernel
theorem dX11_all_26 : decode cX11_all 26 = .ok (.goto 10, 3) := by decide +kernel
theorem dX11_all_29 : decode cX11_all 29 = .ok (.aload_n 0, 1) := by decide +kernel
theorem dX11_all_30 : decode cX11_all 30 = .ok (.getfield 39, 3) := by decide +kernel
theorem dX11_all_33 : decode cX11_all 33 = .ok (.invokevirtual 166, 3) := by decide +kernel
theorem dX11_all_36 : decode cX11_all 36 = .ok (.lreturn, 1) := by decide +kernel
theorem dX11_same_0 : decode cX11_same 0 = .ok (.aload_n 0, 1) := by decide +kernel
theorem dX11_same_1 : decode cX11_same 1 = .ok (.invokevirtual 126, 3) := by decide +kernel
theorem dX11_same_4 : decode cX11_same 4 = .ok (.ifCond .eq 10, 3) := by decide +kernel
theorem dX11_same_7 : decode cX11_same 7 = .ok (.aload_n 0, 1) := by decide +kernel
theorem dX11_same_8 : decode cX11_same 8 = .ok (.bipush (-5), 2) := by decide +kernel
theorem dX11_same_10 : decode cX11_same 10 = .ok (.invokevirtual 100, 3) := by decide +kernel
theorem dX11_same_13 : decode cX11_same 13 = .ok (.ireturn, 1) := by decide +kernel
theorem dX11_same_14 : decode cX11_same 14 = .ok (.aload_n 0, 1) := by decide +kernel
theorem dX11_same_15 : decode cX11_same 15 = .ok (.iload_n 1, 1) := by decide +kernel
theorem dX11_same_16 : decode cX11_same 16 = .ok (.invokevirtual 130, 3) := by decide +kernel
theorem dX11_same_19 : decode cX11_same 19 = .ok (.ifCond .ne 11, 3) := by decide +kernel
theorem dX11_same_22 : decode cX11_same 22 = .ok (.aload_n 0, 1) := by decide +kernel
theorem dX11_same_23 : decode cX11_same 23 = .ok (.iload_n 2, 1) := by decide +kernel
theorem dX11_same_24 : decode cX11_same 24 = .ok (.invokevirtual 130, 3) := by decide +kernel
theorem dX11_same_27 : decode cX11_same 27 = .ok (.ifCond .eq 9, 3) := by decide +kernel
theorem dX11_same_30 : decode cX11_same 30 = .ok (.aload_n 0, 1) := by decide +kernel
theorem dX11_same_31 : decode cX11_same 31 = .ok (.iconst (-1), 1) := by decide +kernel
theorem dX11_same_32 : decode cX11_same 32 = .ok (.invokevirtual 100, 3) := by decide +kernel
theorem dX11_same_35 : decode cX11_same 35 = .ok (.ireturn, 1) := by decide +kernel
theorem dX11_same_36 : decode cX11_same 36 = .ok (.aload_n 0, 1) := by decide +kernel
theorem dX11_same_37 : decode cX11_same 37 = .ok (.getfield 39, 3) := by decide +kernel
theorem dX11_same_40 : decode cX11_same 40 = .ok (.iload_n 1, 1) := by decide +kernel
theorem dX11_same_41 : decode cX11_same 41 = .ok (.invokevirtual 148, 3) := by decide +kernel
theorem dX11_same_44 : decode cX11_same 44 = .ok (.aload_n 0, 1) := by decide +kernel
theorem dX11_same_45 : decode cX11_same 45 = .ok (.getfield 39, 3) := by decide +kernel
theorem dX11_same_48 : decode cX11_same 48 = .ok (.iload_n 2, 1) := by decide +kernel
theorem dX11_same_49 : decode cX11_same 49 = .ok (.invokevirtual 148, 3) := by decide +kernel
theorem dX11_same_52 : decode cX11_same 52 = .ok (.lcmp, 1) := by decide +kernel
theorem dX11_same_53 : decode cX11_same 53 = .ok (.ifCond .ne 7, 3) := by decide +kernel
theorem dX11_same_56 : decode cX11_same 56 = .ok (.iconst 1, 1) := by decide +kernel
theorem dX11_same_57 : decode cX11_same 57 = .ok (.goto 4, 3) := by decide +kernel
theorem dX11_same_60 : decode cX11_same 60 = .ok (.iconst 0, 1) := by decide +kernel
theorem dX11_same_61 : decode cX11_same 61 = .ok (.ireturn, 1) := by decide +kernel
theorem dX11_unlike_0 : decode cX11_unlike 0 = .ok (.aload_n 0, 1) := by decide +kernel
theorem dX11_unlike_1 : decode cX11_unlike 1 = .ok (.invokevirtual 126, 3) := by decide +kernel
theorem dX11_unlike_4 : decode cX11_unlike 4 = .ok (.ifCond .eq 10, 3) := by decide +kernel
theorem dX11_unlike_7 : decode cX11_unlike 7 = .ok (.aload_n 0, 1) := by decide +kernel
theorem dX11_unlike_8 : decode cX11_unlike 8 = .ok (.bipush (-5), 2) := by decide +kernel
theorem dX11_unlike_10 : decode cX11_unlike 10 = .ok (.invokevirtual 100, 3) := by decide +kernel
theorem dX11_unlike_13 : decode cX11_unlike 13 = .ok (.ireturn, 1) := by decide +kernel
theorem dX11_unlike_14 : decode cX11_unlike 14 = .ok (.aload_n 0, 1) := by decide +kernel
theorem dX11_unlike_15 : decode cX11_unlike 15 = .ok (.getfield 46, 3) := by decide +kernel
theorem dX11_unlike_18 : decode cX11_unlike 18 = .ok (.aload_n 0, 1) := by decide +kernel
theorem dX11_unlike_19 : decode cX11_unlike 19 = .ok (.getfield 39, 3) := by decide +kernel
theorem dX11_unlike_22 : decode cX11_unlike 22 = .ok (.invokevirtual 169, 3) := by decide +kernel
theorem dX11_unlike_25 : decode cX11_unlike 25 = .ok (.aload_n 0, 1) := by decide +kernel
theorem dX11_unlike_26 : decode cX11_unlike 26 = .ok (.getfield 46, 3) := by decide +kernel
theorem dX11_unlike_29 : decode cX11_unlike 29 = .ok (.invokevirtual 173, 3) := by decide +kernel
theorem dX11_unlike_32 : decode cX11_unlike 32 = .ok (.ireturn, 1) := by decide +kernel
theorem dX11_part_0 : decode cX11_part 0 = .ok (.aload_n 0, 1) := by decide +kernel
theorem dX11_part_1 : decode cX11_part 1 = .ok (.invokevirtual 126, 3) := by decide +kernel
theorem dX11_part_4 : decode cX11_part 4 = .ok (.ifCond .eq 10, 3) := by decide +kernel
theorem dX11_part_7 : decode cX11_part 7 = .ok (.aload_n 0, 1) := by decide +kernel
theorem dX11_part_8 : decode cX11_part 8 = .ok (.bipush (-5), 2) := by decide +kernel
theorem dX11_part_10 : decode cX11_part 10 = .ok (.invokevirtual 100, 3) := by decide +kernel
theorem dX11_part_13 : decode cX11_part 13 = .ok (.ireturn, 1) := by decide +kernel
theorem dX11_part_14 : decode cX11_part 14 = .ok (.aload_n 0, 1) := by decide +kernel
theorem dX11_part_15 : decode cX11_part 15 = .ok (.iload_n 1, 1) := by decide +kernel
theorem dX11_part_16 : decode cX11_part 16 = .ok (.invokevirtual 130, 3) := by decide +kernel
theorem dX11_part_19 : decode cX11_part 19 = .ok (.ifCond .ne 11, 3) := by decide +kernel
theorem dX11_part_22 : decode cX11_part 22 = .ok (.aload_n 0, 1) := by decide +kernel
theorem dX11_part_23 : decode cX11_part 23 = .ok (.iload_n 2, 1) := by decide +kernel
theorem dX11_part_24 : decode cX11_part 24 = .ok (.invokevirtual 130, 3) := by decide +kernel
theorem dX11_part_27 : decode cX11_part 27 = .ok (.ifCond .eq 9, 3) := by decide +kernel
theorem dX11_part_30 : decode cX11_part 30 = .ok (.aload_n 0, 1) := by decide +kernel
theorem dX11_part_31 : decode cX11_part 31 = .ok (.iconst (-1), 1) := by decide +kernel
theorem dX11_part_32 : decode cX11_part 32 = .ok (.invokevirtual 100, 3) := by decide +kernel
theorem dX11_part_35 : decode cX11_part 35 = .ok (.ireturn, 1) := by decide +kernel
theorem dX11_part_36 : decode cX11_part 36 = .ok (.aload_n 0, 1) := by decide +kernel
theorem dX11_part_37 : decode cX11_part 37 = .ok (.getfield 39, 3) := by decide +kernel
theorem dX11_part_40 : decode cX11_part 40 = .ok (.iload_n 1, 1) := by decide +kernel
theorem dX11_part_41 : decode cX11_part 41 = .ok (.invokevirtual 148, 3) := by decide +kernel
theorem dX11_part_44 : decode cX11_part 44 = .ok (.aload_n 0, 1) := by decide +kernel
theorem dX11_part_45 : decode cX11_part 45 = .ok (.getfield 39, 3) := by decide +kernel
theorem dX11_part_48 : decode cX11_part 48 = .ok (.iload_n 2, 1) := by decide +kernel
theorem dX11_part_49 : decode cX11_part 49 = .ok (.invokevirtual 148, 3) := by decide +kernel
theorem dX11_part_52 : decode cX11_part 52 = .ok (.lxor, 1) := by decide +kernel
theorem dX11_part_53 : decode cX11_part 53 = .ok (.invokestatic 174, 3) := by decide +kernel
theorem dX11_part_56 : decode cX11_part 56 = .ok (.ireturn, 1) := by decide +kernel
theorem dX11_idle_0 : decode cX11_idle 0 = .ok (.aload_n 0, 1) := by decide +kernel
theorem dX11_idle_1 : decode cX11_idle 1 = .ok (.invokevirtual 126, 3) := by decide +kernel
theorem dX11_idle_4 : decode cX11_idle 4 = .ok (.ifCond .eq 10, 3) := by decide +kernel
theorem dX11_idle_7 : decode cX11_idle 7 = .ok (.aload_n 0, 1) := by decide +kernel
theorem dX11_idle_8 : decode cX11_idle 8 = .ok (.bipush (-5), 2) := by decide +kernel
theorem dX11_idle_10 : decode cX11_idle 10 = .ok (.invokevirtual 100, 3) := by decide +kernel
theorem dX11_idle_13 : decode cX11_idle 13 = .ok (.ireturn, 1) := by decide +kernel
theorem dX11_idle_14 : decode cX11_idle 14 = .ok (.aload_n 0, 1) := by decide +kernel
theorem dX11_idle_15 : decode cX11_idle 15 = .ok (.iload_n 1, 1) := by decide +kernel
theorem dX11_idle_16 : decode cX11_idle 16 = .ok (.invokevirtual 130, 3) := by decide +kernel
theorem dX11_idle_19 : decode cX11_idle 19 = .ok (.ifCond .eq 11, 3) := by decide +kernel
theorem dX11_idle_22 : decode cX11_idle 22 = .ok (.aload_n 0, 1) := by decide +kernel
theorem dX11_idle_23 : decode cX11_idle 23 = .ok (.iconst (-1), 1) := by decide +kernel
theorem dX11_idle_24 : decode cX11_idle 24 = .ok (.invokevirtual 100, 3) := by decide +kernel
theorem dX11_idle_27 : decode cX11_idle 27 = .ok (.goto 11, 3) := by decide +kernel
theorem dX11_idle_30 : decode cX11_idle 30 = .ok (.aload_n 0, 1) := by decide +kernel
theorem dX11_idle_31 : decode cX11_idle 31 = .ok (.getfield 39, 3) := by decide +kernel
theorem dX11_idle_34 : decode cX11_idle 34 = .ok (.iload_n 1, 1) := by decide +kernel
theorem dX11_idle_35 : decode cX11_idle 35 = .ok (.invokevirtual 178, 3) := by decide +kernel
theorem dX11_idle_38 : decode cX11_idle 38 = .ok (.ireturn, 1) := by decide +kernel
theorem dX11_needless_0 : decode cX11_needless 0 = .ok (.aload_n 0, 1) := by decide +kernel
theorem dX11_needless_1 : decode cX11_needless 1 = .ok (.invokevirtual 126, 3) := by decide +kernel
theorem dX11_needless_4 : decode cX11_needless 4 = .ok (.ifCond .eq 12, 3) := by decide +kernel
theorem dX11_needless_7 : decode cX11_needless 7 = .ok (.aload_n 0, 1) := by decide +kernel
theorem dX11_needless_8 : decode cX11_needless 8 = .ok (.bipush (-5), 2) := by decide +kernel
theorem dX11_needless_10 : decode cX11_needless 10 = .ok (.invokevirtual 100, 3) := by decide +kernel
theorem dX11_needless_13 : decode cX11_needless 13 = .ok (.goto 10, 3) := by decide +kernel
theorem dX11_needless_16 : decode cX11_needless 16 = .ok (.aload_n 0, 1) := by decide +kernel
theorem dX11_needless_17 : decode cX11_needless 17 = .ok (.getfield 39, 3) := by decide +kernel
theorem dX11_needless_20 : decode cX11_needless 20 = .ok (.invokevirtual 181, 3) := by decide +kernel
theorem dX11_needless_23 : decode cX11_needless 23 = .ok (.ireturn, 1) := by decide +kernel
theorem dX11_meets_0 : decode cX11_meets 0 = .ok (.aload_n 0, 1) := by decide +kernel
theorem dX11_meets_1 : decode cX11_meets 1 = .ok (.invokevirtual 126, 3) := by decide +kernel
theorem dX11_meets_4 : decode cX11_meets 4 = .ok (.ifCond .eq 10, 3) := by decide +kernel
theorem dX11_meets_7 : decode cX11_meets 7 = .ok (.aload_n 0, 1) := by decide +kernel
theorem dX11_meets_8 : decode cX11_meets 8 = .ok (.bipush (-5), 2) := by decide +kernel
theorem dX11_meets_10 : decode cX11_meets 10 = .ok (.invokevirtual 100, 3) := by decide +kernel
theorem dX11_meets_13 : decode cX11_meets 13 = .ok (.ireturn, 1) := by decide +kernel
theorem dX11_meets_14 : decode cX11_meets 14 = .ok (.aload_n 0, 1) := by decide +kernel
theorem dX11_meets_15 : decode cX11_meets 15 = .ok (.iload_n 1, 1) := by decide +kernel
theorem dX11_meets_16 : decode cX11_meets 16 = .ok (.invokevirtual 130, 3) := by decide +kernel
theorem dX11_meets_19 : decode cX11_meets 19 = .ok (.ifCond .ne 10, 3) := by decide +kernel
theorem dX11_meets_22 : decode cX11_meets 22 = .ok (.iload_n 2, 1) := by decide +kernel
theorem dX11_meets_23 : decode cX11_meets 23 = .ok (.invokestatic 184, 3) := by decide +kernel
theorem dX11_meets_26 : decode cX11_meets 26 = .ok (.ifCond .eq 9, 3) := by decide +kernel
theorem dX11_meets_29 : decode cX11_meets 29 = .ok (.aload_n 0, 1) := by decide +kernel
theorem dX11_meets_30 : decode cX11_meets 30 = .ok (.iconst (-1), 1) := by decide +kernel
theorem dX11_meets_31 : decode cX11_meets 31 = .ok (.invokevirtual 100, 3) := by decide +kernel
theorem dX11_meets_34 : decode cX11_meets 34 = .ok (.ireturn, 1) := by decide +kernel
theorem dX11_meets_35 : decode cX11_meets 35 = .ok (.aload_n 0, 1) := by decide +kernel
theorem dX11_meets_36 : decode cX11_meets 36 = .ok (.getfield 39, 3) := by decide +kernel
theorem dX11_meets_39 : decode cX11_meets 39 = .ok (.iload_n 1, 1) := by decide +kernel
theorem dX11_meets_40 : decode cX11_meets 40 = .ok (.iload_n 2, 1) := by decide +kernel
theorem dX11_meets_41 : decode cX11_meets 41 = .ok (.invokevirtual 187, 3) := by decide +kernel
theorem dX11_meets_44 : decode cX11_meets 44 = .ok (.ifCond .eq 7, 3) := by decide +kernel
theorem dX11_meets_47 : decode cX11_meets 47 = .ok (.iconst 1, 1) := by decide +kernel
theorem dX11_meets_48 : decode cX11_meets 48 = .ok (.goto 4, 3) := by decide +kernel
theorem dX11_meets_51 : decode cX11_meets 51 = .ok (.iconst 0, 1) := by decide +kernel
theorem dX11_meets_52 : decode cX11_meets 52 = .ok (.ireturn, 1) := by decide +kernel
theorem dX11_choose_0 : decode cX11_choose 0 = .ok (.iload_n 1, 1) := by decide +kernel
theorem dX11_choose_1 : decode cX11_choose 1 = .ok (.invokestatic 184, 3) := by decide +kernel
theorem dX11_choose_4 : decode cX11_choose 4 = .ok (.ifCond .eq 9, 3) := by decide +kernel
theorem dX11_choose_7 : decode cX11_choose 7 = .ok (.aload_n 0, 1) := by decide +kernel
theorem dX11_choose_8 : decode cX11_choose 8 = .ok (.iconst (-1), 1) := by decide +kernel
theorem dX11_choose_9 : decode cX11_choose 9 = .ok (.invokevirtual 100, 3) := by decide +kernel
theorem dX11_choose_12 : decode cX11_choose 12 = .ok (.ireturn, 1) := by decide +kernel
theorem dX11_choose_13 : decode cX11_choose 13 = .ok (.aload_n 0, 1) := by decide +kernel
theorem dX11_choose_14 : decode cX11_choose 14 = .ok (.getfield 53, 3) := by decide +kernel
theorem dX11_choose_17 : decode cX11_choose 17 = .ok (.iload_n 1, 1) := by decide +kernel
theorem dX11_choose_18 : decode cX11_choose 18 = .ok (.invokevirtual 191, 3) := by decide +kernel
theorem dX11_choose_21 : decode cX11_choose 21 = .ok (.ifCond .eq 10, 3) := by decide +kernel
theorem dX11_choose_24 : decode cX11_choose 24 = .ok (.aload_n 0, 1) := by decide +kernel
theorem dX11_choose_25 : decode cX11_choose 25 = .ok (.bipush (-3), 2) := by decide +kernel
theorem dX11_choose_27 : decode cX11_choose 27 = .ok (.invokevirtual 100, 3) := by decide +kernel
theorem dX11_choose_30 : decode cX11_choose 30 = .ok (.ireturn, 1) := by decide +kernel
theorem dX11_choose_31 : decode cX11_choose 31 = .ok (.aload_n 0, 1) := by decide +kernel
theorem dX11_choose_32 : decode cX11_choose 32 = .ok (.getfield 53, 3) := by decide +kernel
theorem dX11_choose_35 : decode cX11_choose 35 = .ok (.iload_n 1, 1) := by decide +kernel
theorem dX11_choose_36 : decode cX11_choose 36 = .ok (.invokevirtual 194, 3) := by decide +kernel
theorem dX11_choose_39 : decode cX11_choose 39 = .ok (.aload_n 0, 1) := by decide +kernel
theorem dX11_choose_40 : decode cX11_choose 40 = .ok (.getfield 53, 3) := by decide +kernel
theorem dX11_choose_43 : decode cX11_choose 43 = .ok (.invokevirtual 195, 3) := by decide +kernel
theorem dX11_choose_46 : decode cX11_choose 46 = .ok (.ireturn, 1) := by decide +kernel
theorem dX11_unchoose_0 : decode cX11_unchoose 0 = .ok (.aload_n 0, 1) := by decide +kernel
theorem dX11_unchoose_1 : decode cX11_unchoose 1 = .ok (.getfield 53, 3) := by decide +kernel
theorem dX11_unchoose_4 : decode cX11_unchoose 4 = .ok (.invokevirtual 195, 3) := by decide +kernel
theorem dX11_unchoose_7 : decode cX11_unchoose 7 = .ok (.istore_n 1, 1) := by decide +kernel
theorem dX11_unchoose_8 : decode cX11_unchoose 8 = .ok (.aload_n 0, 1) := by decide +kernel
theorem dX11_unchoose_9 : decode cX11_unchoose 9 = .ok (.getfield 53, 3) := by decide +kernel
theorem dX11_unchoose_12 : decode cX11_unchoose 12 = .ok (.invokevirtual 196, 3) := by decide +kernel
theorem dX11_unchoose_15 : decode cX11_unchoose 15 = .ok (.iload_n 1, 1) := by decide +kernel
theorem dX11_unchoose_16 : decode cX11_unchoose 16 = .ok (.ireturn, 1) := by decide +kernel
theorem dX11_leftOver_0 : decode cX11_leftOver 0 = .ok (.aload_n 0, 1) := by decide +kernel
theorem dX11_leftOver_1 : decode cX11_leftOver 1 = .ok (.invokevirtual 126, 3) := by decide +kernel
theorem dX11_leftOver_4 : decode cX11_leftOver 4 = .ok (.ifCond .eq 10, 3) := by decide +kernel
theorem dX11_leftOver_7 : decode cX11_leftOver 7 = .ok (.aload_n 0, 1) := by decide +kernel
theorem dX11_leftOver_8 : decode cX11_leftOver 8 = .ok (.bipush (-5), 2) := by decide +kernel
theorem dX11_leftOver_10 : decode cX11_leftOver 10 = .ok (.invokevirtual 100, 3) := by decide +kernel
theorem dX11_leftOver_13 : decode cX11_leftOver 13 = .ok (.ireturn, 1) := by decide +kernel
theorem dX11_leftOver_14 : decode cX11_leftOver 14 = .ok (.iload_n 1, 1) := by decide +kernel
theorem dX11_leftOver_15 : decode cX11_leftOver 15 = .ok (.iconst (-1), 1) := by decide +kernel
theorem dX11_leftOver_16 : decode cX11_leftOver 16 = .ok (.if_icmp .ge 9, 3) := by decide +kernel
theorem dX11_leftOver_19 : decode cX11_leftOver 19 = .ok (.aload_n 0, 1) := by decide +kernel
theorem dX11_leftOver_20 : decode cX11_leftOver 20 = .ok (.iconst (-1), 1) := by decide +kernel
theorem dX11_leftOver_21 : decode cX11_leftOver 21 = .ok (.invokevirtual 100, 3) := by decide +kernel
theorem dX11_leftOver_24 : decode cX11_leftOver 24 = .ok (.ireturn, 1) := by decide +kernel
theorem dX11_leftOver_25 : decode cX11_leftOver 25 = .ok (.aload_n 0, 1) := by decide +kernel
theorem dX11_leftOver_26 : decode cX11_leftOver 26 = .ok (.getfield 60, 3) := by decide +kernel
theorem dX11_leftOver_29 : decode cX11_leftOver 29 = .ok (.aload_n 0, 1) := by decide +kernel
theorem dX11_leftOver_30 : decode cX11_leftOver 30 = .ok (.getfield 39, 3) := by decide +kernel
theorem dX11_leftOver_33 : decode cX11_leftOver 33 = .ok (.aload_n 0, 1) := by decide +kernel
theorem dX11_leftOver_34 : decode cX11_leftOver 34 = .ok (.getfield 53, 3) := by decide +kernel
theorem dX11_leftOver_37 : decode cX11_leftOver 37 = .ok (.iconst (-1), 1) := by decide +kernel
theorem dX11_leftOver_38 : decode cX11_leftOver 38 = .ok (.invokevirtual 197, 3) := by decide +kernel
theorem dX11_leftOver_41 : decode cX11_leftOver 41 = .ok (.iload_n 1, 1) := by decide +kernel
theorem dX11_leftOver_42 : decode cX11_leftOver 42 = .ok (.iconst (-1), 1) := by decide +kernel
theorem dX11_leftOver_43 : decode cX11_leftOver 43 = .ok (.if_icmp .ne 11, 3) := by decide +kernel
theorem dX11_leftOver_46 : decode cX11_leftOver 46 = .ok (.aload_n 0, 1) := by decide +kernel
theorem dX11_leftOver_47 : decode cX11_leftOver 47 = .ok (.getfield 60, 3) := by decide +kernel
theorem dX11_leftOver_50 : decode cX11_leftOver 50 = .ok (.invokevirtual 201, 3) := by decide +kernel
theorem dX11_leftOver_53 : decode cX11_leftOver 53 = .ok (.ireturn, 1) := by decide +kernel
theorem dX11_leftOver_54 : decode cX11_leftOver 54 = .ok (.iload_n 1, 1) := by decide +kernel
theorem dX11_leftOver_55 : decode cX11_leftOver 55 = .ok (.aload_n 0, 1) := by decide +kernel
theorem dX11_leftOver_56 : decode cX11_leftOver 56 = .ok (.getfield 60, 3) := by decide +kernel
theorem dX11_leftOver_59 : decode cX11_leftOver 59 = .ok (.invokevirtual 201, 3) := by decide +kernel
theorem dX11_leftOver_62 : decode cX11_leftOver 62 = .ok (.if_icmp .ge 14, 3) := by decide +kernel
theorem dX11_leftOver_65 : decode cX11_leftOver 65 = .ok (.aload_n 0, 1) := by decide +kernel
theorem dX11_leftOver_66 : decode cX11_leftOver 66 = .ok (.getfield 60, 3) := by decide +kernel
theorem dX11_leftOver_69 : decode cX11_leftOver 69 = .ok (.iload_n 1, 1) := by decide +kernel
theorem dX11_leftOver_70 : decode cX11_leftOver 70 = .ok (.invokevirtual 202, 3) := by decide +kernel
theorem dX11_leftOver_73 : decode cX11_leftOver 73 = .ok (.goto 5, 3) := by decide +kernel
theorem dX11_leftOver_76 : decode cX11_leftOver 76 = .ok (.bipush (-9), 2) := by decide +kernel
theorem dX11_leftOver_78 : decode cX11_leftOver 78 = .ok (.ireturn, 1) := by decide +kernel
theorem dX11_passedOver_0 : decode cX11_passedOver 0 = .ok (.aload_n 0, 1) := by decide +kernel
theorem dX11_passedOver_1 : decode cX11_passedOver 1 = .ok (.invokevirtual 126, 3) := by decide +kernel
theorem dX11_passedOver_4 : decode cX11_passedOver 4 = .ok (.ifCond .eq 10, 3) := by decide +kernel
theorem dX11_passedOver_7 : decode cX11_passedOver 7 = .ok (.aload_n 0, 1) := by decide +kernel
theorem dX11_passedOver_8 : decode cX11_passedOver 8 = .ok (.bipush (-5), 2) := by decide +kernel
theorem dX11_passedOver_10 : decode cX11_passedOver 10 = .ok (.invokevirtual 100, 3) := by decide +kernel
theorem dX11_passedOver_13 : decode cX11_passedOver 13 = .ok (.ireturn, 1) := by decide +kernel
theorem dX11_passedOver_14 : decode cX11_passedOver 14 = .ok (.aload_n 0, 1) := by decide +kernel
theorem dX11_passedOver_15 : decode cX11_passedOver 15 = .ok (.getfield 60, 3) := by decide +kernel
theorem dX11_passedOver_18 : decode cX11_passedOver 18 = .ok (.aload_n 0, 1) := by decide +kernel
theorem dX11_passedOver_19 : decode cX11_passedOver 19 = .ok (.getfield 39, 3) := by decide +kernel
theorem dX11_passedOver_22 : decode cX11_passedOver 22 = .ok (.aload_n 0, 1) := by decide +kernel
theorem dX11_passedOver_23 : decode cX11_passedOver 23 = .ok (.getfield 53, 3) := by decide +kernel
theorem dX11_passedOver_26 : decode cX11_passedOver 26 = .ok (.iconst (-1), 1) := by decide +kernel
theorem dX11_passedOver_27 : decode cX11_passedOver 27 = .ok (.invokevirtual 197, 3) := by decide +kernel
theorem dX11_passedOver_30 : decode cX11_passedOver 30 = .ok (.aload_n 0, 1) := by decide +kernel
theorem dX11_passedOver_31 : decode cX11_passedOver 31 = .ok (.getfield 60, 3) := by decide +kernel
theorem dX11_passedOver_34 : decode cX11_passedOver 34 = .ok (.invokevirtual 203, 3) := by decide +kernel
theorem dX11_passedOver_37 : decode cX11_passedOver 37 = .ok (.ireturn, 1) := by decide +kernel
theorem dX11_quarrel_0 : decode cX11_quarrel 0 = .ok (.aload_n 0, 1) := by decide +kernel
theorem dX11_quarrel_1 : decode cX11_quarrel 1 = .ok (.invokevirtual 126, 3) := by decide +kernel
theorem dX11_quarrel_4 : decode cX11_quarrel 4 = .ok (.ifCond .eq 10, 3) := by decide +kernel
theorem dX11_quarrel_7 : decode cX11_quarrel 7 = .ok (.aload_n 0, 1) := by decide +kernel
theorem dX11_quarrel_8 : decode cX11_quarrel 8 = .ok (.bipush (-5), 2) := by decide +kernel
theorem dX11_quarrel_10 : decode cX11_quarrel 10 = .ok (.invokevirtual 100, 3) := by decide +kernel
theorem dX11_quarrel_13 : decode cX11_quarrel 13 = .ok (.ireturn, 1) := by decide +kernel
theorem dX11_quarrel_14 : decode cX11_quarrel 14 = .ok (.iload_n 1, 1) := by decide +kernel
theorem dX11_quarrel_15 : decode cX11_quarrel 15 = .ok (.invokestatic 184, 3) := by decide +kernel
theorem dX11_quarrel_18 : decode cX11_quarrel 18 = .ok (.ifCond .ne 15, 3) := by decide +kernel
theorem dX11_quarrel_21 : decode cX11_quarrel 21 = .ok (.iload_n 2, 1) := by decide +kernel
theorem dX11_quarrel_22 : decode cX11_quarrel 22 = .ok (.invokestatic 184, 3) := by decide +kernel
theorem dX11_quarrel_25 : decode cX11_quarrel 25 = .ok (.ifCond .ne 8, 3) := by decide +kernel
theorem dX11_quarrel_28 : decode cX11_quarrel 28 = .ok (.iload_n 1, 1) := by decide +kernel
theorem dX11_quarrel_29 : decode cX11_quarrel 29 = .ok (.iload_n 2, 1) := by decide +kernel
theorem dX11_quarrel_30 : decode cX11_quarrel 30 = .ok (.if_icmp .ne 9, 3) := by decide +kernel
theorem dX11_quarrel_33 : decode cX11_quarrel 33 = .ok (.aload_n 0, 1) := by decide +kernel
theorem dX11_quarrel_34 : decode cX11_quarrel 34 = .ok (.iconst (-1), 1) := by decide +kernel
theorem dX11_quarrel_35 : decode cX11_quarrel 35 = .ok (.invokevirtual 100, 3) := by decide +kernel
theorem dX11_quarrel_38 : decode cX11_quarrel 38 = .ok (.ireturn, 1) := by decide +kernel
theorem dX11_quarrel_39 : decode cX11_quarrel 39 = .ok (.aload_n 0, 1) := by decide +kernel
theorem dX11_quarrel_40 : decode cX11_quarrel 40 = .ok (.getfield 39, 3) := by decide +kernel
theorem dX11_quarrel_43 : decode cX11_quarrel 43 = .ok (.iload_n 1, 1) := by decide +kernel
theorem dX11_quarrel_44 : decode cX11_quarrel 44 = .ok (.iload_n 2, 1) := by decide +kernel
theorem dX11_quarrel_45 : decode cX11_quarrel 45 = .ok (.invokevirtual 206, 3) := by decide +kernel
theorem dX11_quarrel_48 : decode cX11_quarrel 48 = .ok (.ifCond .eq 7, 3) := by decide +kernel
theorem dX11_quarrel_51 : decode cX11_quarrel 51 = .ok (.iconst 1, 1) := by decide +kernel
theorem dX11_quarrel_52 : decode cX11_quarrel 52 = .ok (.goto 4, 3) := by decide +kernel
theorem dX11_quarrel_55 : decode cX11_quarrel 55 = .ok (.iconst 0, 1) := by decide +kernel
theorem dX11_quarrel_56 : decode cX11_quarrel 56 = .ok (.ireturn, 1) := by decide +kernel
theorem dX11_hangs_0 : decode cX11_hangs 0 = .ok (.aload_n 0, 1) := by decide +kernel
theorem dX11_hangs_1 : decode cX11_hangs 1 = .ok (.invokevirtual 126, 3) := by decide +kernel
theorem dX11_hangs_4 : decode cX11_hangs 4 = .ok (.ifCond .eq 10, 3) := by decide +kernel
theorem dX11_hangs_7 : decode cX11_hangs 7 = .ok (.aload_n 0, 1) := by decide +kernel
theorem dX11_hangs_8 : decode cX11_hangs 8 = .ok (.bipush (-5), 2) := by decide +kernel
theorem dX11_hangs_10 : decode cX11_hangs 10 = .ok (.invokevirtual 100, 3) := by decide +kernel
theorem dX11_hangs_13 : decode cX11_hangs 13 = .ok (.ireturn, 1) := by decide +kernel
theorem dX11_hangs_14 : decode cX11_hangs 14 = .ok (.aload_n 0, 1) := by decide +kernel
theorem dX11_hangs_15 : decode cX11_hangs 15 = .ok (.getfield 60, 3) := by decide +kernel
theorem dX11_hangs_18 : decode cX11_hangs 18 = .ok (.aload_n 0, 1) := by decide +kernel
theorem dX11_hangs_19 : decode cX11_hangs 19 = .ok (.getfield 39, 3) := by decide +kernel
theorem dX11_hangs_22 : decode cX11_hangs 22 = .ok (.aload_n 0, 1) := by decide +kernel
theorem dX11_hangs_23 : decode cX11_hangs 23 = .ok (.getfield 53, 3) := by decide +kernel
theorem dX11_hangs_26 : decode cX11_hangs 26 = .ok (.iconst (-1), 1) := by decide +kernel
theorem dX11_hangs_27 : decode cX11_hangs 27 = .ok (.invokevirtual 197, 3) := by decide +kernel
theorem dX11_hangs_30 : decode cX11_hangs 30 = .ok (.iconst 0, 1) := by decide +kernel
theorem dX11_hangs_31 : decode cX11_hangs 31 = .ok (.istore_n 1, 1) := by decide +kernel
theorem dX11_hangs_32 : decode cX11_hangs 32 = .ok (.iconst 0, 1) := by decide +kernel
theorem dX11_hangs_33 : decode cX11_hangs 33 = .ok (.istore_n 2, 1) := by decide +kernel
theorem dX11_hangs_34 : decode cX11_hangs 34 = .ok (.iload_n 2, 1) := by decide +kernel
theorem dX11_hangs_35 : decode cX11_hangs 35 = .ok (.bipush 6, 2) := by decide +kernel
theorem dX11_hangs_37 : decode cX11_hangs 37 = .ok (.if_icmp .ge 56, 3) := by decide +kernel
theorem dX11_hangs_40 : decode cX11_hangs 40 = .ok (.aload_n 0, 1) := by decide +kernel
theorem dX11_hangs_41 : decode cX11_hangs 41 = .ok (.getfield 53, 3) := by decide +kernel
theorem dX11_hangs_44 : decode cX11_hangs 44 = .ok (.iload_n 2, 1) := by decide +kernel
theorem dX11_hangs_45 : decode cX11_hangs 45 = .ok (.invokevirtual 191, 3) := by decide +kernel
theorem dX11_hangs_48 : decode cX11_hangs 48 = .ok (.ifCond .eq 39, 3) := by decide +kernel
theorem dX11_hangs_51 : decode cX11_hangs 51 = .ok (.aload_n 0, 1) := by decide +kernel
theorem dX11_hangs_52 : decode cX11_hangs 52 = .ok (.getfield 64, 3) := by decide +kernel
theorem dX11_hangs_55 : decode cX11_hangs 55 = .ok (.aload_n 0, 1) := by decide +kernel
theorem dX11_hangs_56 : decode cX11_hangs 56 = .ok (.getfield 39, 3) := by decide +kernel
theorem dX11_hangs_59 : decode cX11_hangs 59 = .ok (.aload_n 0, 1) := by decide +kernel
theorem dX11_hangs_60 : decode cX11_hangs 60 = .ok (.getfield 53, 3) := by decide +kernel
theorem dX11_hangs_63 : decode cX11_hangs 63 = .ok (.iload_n 2, 1) := by decide +kernel
theorem dX11_hangs_64 : decode cX11_hangs 64 = .ok (.invokevirtual 197, 3) := by decide +kernel
theorem dX11_hangs_67 : decode cX11_hangs 67 = .ok (.aload_n 0, 1) := by decide +kernel
theorem dX11_hangs_68 : decode cX11_hangs 68 = .ok (.getfield 60, 3) := by decide +kernel
theorem dX11_hangs_71 : decode cX11_hangs 71 = .ok (.aload_n 0, 1) := by decide +kernel
theorem dX11_hangs_72 : decode cX11_hangs 72 = .ok (.getfield 64, 3) := by decide +kernel
theorem dX11_hangs_75 : decode cX11_hangs 75 = .ok (.invokevirtual 209, 3) := by decide +kernel
theorem dX11_hangs_78 : decode cX11_hangs 78 = .ok (.ifCond .ne 9, 3) := by decide +kernel
theorem dX11_hangs_81 : decode cX11_hangs 81 = .ok (.iload_n 1, 1) := by decide +kernel
theorem dX11_hangs_82 : decode cX11_hangs 82 = .ok (.iconst 1, 1) := by decide +kernel
theorem dX11_hangs_83 : decode cX11_hangs 83 = .ok (.iload_n 2, 1) := by decide +kernel
theorem dX11_hangs_84 : decode cX11_hangs 84 = .ok (.ishl, 1) := by decide +kernel
theorem dX11_hangs_85 : decode cX11_hangs 85 = .ok (.ior, 1) := by decide +kernel
theorem dX11_hangs_86 : decode cX11_hangs 86 = .ok (.istore_n 1, 1) := by decide +kernel
theorem dX11_hangs_87 : decode cX11_hangs 87 = .ok (.iinc 2 1, 3) := by decide +kernel
theorem dX11_hangs_90 : decode cX11_hangs 90 = .ok (.goto (-56), 3) := by decide +kernel
theorem dX11_hangs_93 : decode cX11_hangs 93 = .ok (.iload_n 1, 1) := by decide +kernel
theorem dX11_hangs_94 : decode cX11_hangs 94 = .ok (.ireturn, 1) := by decide +kernel
theorem dX11_test_0 : decode cX11_test 0 = .ok (.aload_n 0, 1) := by decide +kernel
theorem dX11_test_1 : decode cX11_test 1 = .ok (.invokevirtual 126, 3) := by decide +kernel
theorem dX11_test_4 : decode cX11_test 4 = .ok (.ifCond .eq 12, 3) := by decide +kernel
theorem dX11_test_7 : decode cX11_test 7 = .ok (.aload_n 0, 1) := by decide +kernel
theorem dX11_test_8 : decode cX11_test 8 = .ok (.bipush (-5), 2) := by decide +kernel
theorem dX11_test_10 : decode cX11_test 10 = .ok (.invokevirtual 100, 3) := by decide +kernel
theorem dX11_test_13 : decode cX11_test 13 = .ok (.goto 10, 3) := by decide +kernel
theorem dX11_test_16 : decode cX11_test 16 = .ok (.aload_n 0, 1) := by decide +kernel
theorem dX11_test_17 : decode cX11_test 17 = .ok (.getfield 39, 3) := by decide +kernel
theorem dX11_test_20 : decode cX11_test 20 = .ok (.invokevirtual 213, 3) := by decide +kernel
theorem dX11_test_23 : decode cX11_test 23 = .ok (.ireturn, 1) := by decide +kernel
theorem dX11_fewest_0 : decode cX11_fewest 0 = .ok (.aload_n 0, 1) := by decide +kernel
theorem dX11_fewest_1 : decode cX11_fewest 1 = .ok (.invokevirtual 126, 3) := by decide +kernel
theorem dX11_fewest_4 : decode cX11_fewest 4 = .ok (.ifCond .eq 10, 3) := by decide +kernel
theorem dX11_fewest_7 : decode cX11_fewest 7 = .ok (.aload_n 0, 1) := by decide +kernel
theorem dX11_fewest_8 : decode cX11_fewest 8 = .ok (.bipush (-5), 2) := by decide +kernel
theorem dX11_fewest_10 : decode cX11_fewest 10 = .ok (.invokevirtual 100, 3) := by decide +kernel
theorem dX11_fewest_13 : decode cX11_fewest 13 = .ok (.ireturn, 1) := by decide +kernel
theorem dX11_fewest_14 : decode cX11_fewest 14 = .ok (.aload_n 0, 1) := by decide +kernel
theorem dX11_fewest_15 : decode cX11_fewest 15 = .ok (.getfield 46, 3) := by decide +kernel
theorem dX11_fewest_18 : decode cX11_fewest 18 = .ok (.aload_n 0, 1) := by decide +kernel
theorem dX11_fewest_19 : decode cX11_fewest 19 = .ok (.getfield 39, 3) := by decide +kernel
theorem dX11_fewest_22 : decode cX11_fewest 22 = .ok (.invokevirtual 169, 3) := by decide +kernel
theorem dX11_fewest_25 : decode cX11_fewest 25 = .ok (.aload_n 0, 1) := by decide +kernel
theorem dX11_fewest_26 : decode cX11_fewest 26 = .ok (.getfield 46, 3) := by decide +kernel
theorem dX11_fewest_29 : decode cX11_fewest 29 = .ok (.invokevirtual 216, 3) := by decide +kernel
