-- decode rows: from the printed names
theorem dX0_init_0 : decode cX0_init 0 = .ok (.aload_n 0, 1) := by decide +kernel
theorem dX0_init_1 : decode cX0_init 1 = .ok (.invokespecial 3, 3) := by decide +kernel
theorem dX0_init_4 : decode cX0_init 4 = .ok (.aload_n 0, 1) := by decide +kernel
theorem dX0_init_5 : decode cX0_init 5 = .ok (.iconst 0, 1) := by decide +kernel
theorem dX0_init_6 : decode cX0_init 6 = .ok (.putfield 9, 3) := by decide +kernel
theorem dX0_init_9 : decode cX0_init 9 = .ok (.aload_n 0, 1) := by decide +kernel
theorem dX0_init_10 : decode cX0_init 10 = .ok (.aload_n 1, 1) := by decide +kernel
theorem dX0_init_11 : decode cX0_init 11 = .ok (.putfield 15, 3) := by decide +kernel
theorem dX0_init_14 : decode cX0_init 14 = .ok (.aload_n 0, 1) := by decide +kernel
theorem dX0_init_15 : decode cX0_init 15 = .ok (.aload_n 2, 1) := by decide +kernel
theorem dX0_init_16 : decode cX0_init 16 = .ok (.putfield 19, 3) := by decide +kernel
theorem dX0_init_19 : decode cX0_init 19 = .ok (.return_, 1) := by decide +kernel
theorem dX0_holds_0 : decode cX0_holds 0 = .ok (.iload_n 1, 1) := by decide +kernel
theorem dX0_holds_1 : decode cX0_holds 1 = .ok (.ifCond .lt 15, 3) := by decide +kernel
theorem dX0_holds_4 : decode cX0_holds 4 = .ok (.iload_n 1, 1) := by decide +kernel
theorem dX0_holds_5 : decode cX0_holds 5 = .ok (.aload_n 0, 1) := by decide +kernel
theorem dX0_holds_6 : decode cX0_holds 6 = .ok (.getfield 9, 3) := by decide +kernel
theorem dX0_holds_9 : decode cX0_holds 9 = .ok (.if_icmp .ge 7, 3) := by decide +kernel
theorem dX0_holds_12 : decode cX0_holds 12 = .ok (.iconst 1, 1) := by decide +kernel
theorem dX0_holds_13 : decode cX0_holds 13 = .ok (.goto 4, 3) := by decide +kernel
theorem dX0_holds_16 : decode cX0_holds 16 = .ok (.iconst 0, 1) := by decide +kernel
theorem dX0_holds_17 : decode cX0_holds 17 = .ok (.ireturn, 1) := by decide +kernel
theorem dX0_isFull_0 : decode cX0_isFull 0 = .ok (.aload_n 0, 1) := by decide +kernel
theorem dX0_isFull_1 : decode cX0_isFull 1 = .ok (.getfield 9, 3) := by decide +kernel
theorem dX0_isFull_4 : decode cX0_isFull 4 = .ok (.aload_n 0, 1) := by decide +kernel
theorem dX0_isFull_5 : decode cX0_isFull 5 = .ok (.getfield 15, 3) := by decide +kernel
theorem dX0_isFull_8 : decode cX0_isFull 8 = .ok (.arraylength, 1) := by decide +kernel
theorem dX0_isFull_9 : decode cX0_isFull 9 = .ok (.if_icmp .lt 7, 3) := by decide +kernel
theorem dX0_isFull_12 : decode cX0_isFull 12 = .ok (.iconst 1, 1) := by decide +kernel
theorem dX0_isFull_13 : decode cX0_isFull 13 = .ok (.goto 4, 3) := by decide +kernel
theorem dX0_isFull_16 : decode cX0_isFull 16 = .ok (.iconst 0, 1) := by decide +kernel
theorem dX0_isFull_17 : decode cX0_isFull 17 = .ok (.ireturn, 1) := by decide +kernel
theorem dX0_numberAt_0 : decode cX0_numberAt 0 = .ok (.aload_n 0, 1) := by decide +kernel
theorem dX0_numberAt_1 : decode cX0_numberAt 1 = .ok (.iload_n 1, 1) := by decide +kernel
theorem dX0_numberAt_2 : decode cX0_numberAt 2 = .ok (.invokevirtual 22, 3) := by decide +kernel
theorem dX0_numberAt_5 : decode cX0_numberAt 5 = .ok (.ifCond .eq 14, 3) := by decide +kernel
theorem dX0_numberAt_8 : decode cX0_numberAt 8 = .ok (.aload_n 0, 1) := by decide +kernel
theorem dX0_numberAt_9 : decode cX0_numberAt 9 = .ok (.getfield 15, 3) := by decide +kernel
theorem dX0_numberAt_12 : decode cX0_numberAt 12 = .ok (.iload_n 1, 1) := by decide +kernel
theorem dX0_numberAt_13 : decode cX0_numberAt 13 = .ok (.invokestatic 26, 3) := by decide +kernel
theorem dX0_numberAt_16 : decode cX0_numberAt 16 = .ok (.goto 4, 3) := by decide +kernel
theorem dX0_numberAt_19 : decode cX0_numberAt 19 = .ok (.iconst (-1), 1) := by decide +kernel
theorem dX0_numberAt_20 : decode cX0_numberAt 20 = .ok (.ireturn, 1) := by decide +kernel
theorem dX0_contentAt_0 : decode cX0_contentAt 0 = .ok (.aload_n 0, 1) := by decide +kernel
theorem dX0_contentAt_1 : decode cX0_contentAt 1 = .ok (.iload_n 1, 1) := by decide +kernel
theorem dX0_contentAt_2 : decode cX0_contentAt 2 = .ok (.invokevirtual 22, 3) := by decide +kernel
theorem dX0_contentAt_5 : decode cX0_contentAt 5 = .ok (.ifCond .eq 14, 3) := by decide +kernel
theorem dX0_contentAt_8 : decode cX0_contentAt 8 = .ok (.aload_n 0, 1) := by decide +kernel
theorem dX0_contentAt_9 : decode cX0_contentAt 9 = .ok (.getfield 19, 3) := by decide +kernel
theorem dX0_contentAt_12 : decode cX0_contentAt 12 = .ok (.iload_n 1, 1) := by decide +kernel
theorem dX0_contentAt_13 : decode cX0_contentAt 13 = .ok (.invokestatic 26, 3) := by decide +kernel
theorem dX0_contentAt_16 : decode cX0_contentAt 16 = .ok (.goto 4, 3) := by decide +kernel
theorem dX0_contentAt_19 : decode cX0_contentAt 19 = .ok (.iconst (-1), 1) := by decide +kernel
theorem dX0_contentAt_20 : decode cX0_contentAt 20 = .ok (.ireturn, 1) := by decide +kernel
theorem dX0_find_0 : decode cX0_find 0 = .ok (.iconst 0, 1) := by decide +kernel
theorem dX0_find_1 : decode cX0_find 1 = .ok (.istore_n 2, 1) := by decide +kernel
theorem dX0_find_2 : decode cX0_find 2 = .ok (.iload_n 2, 1) := by decide +kernel
theorem dX0_find_3 : decode cX0_find 3 = .ok (.aload_n 0, 1) := by decide +kernel
theorem dX0_find_4 : decode cX0_find 4 = .ok (.getfield 9, 3) := by decide +kernel
theorem dX0_find_7 : decode cX0_find 7 = .ok (.if_icmp .ge 20, 3) := by decide +kernel
theorem dX0_find_10 : decode cX0_find 10 = .ok (.aload_n 0, 1) := by decide +kernel
theorem dX0_find_11 : decode cX0_find 11 = .ok (.iload_n 2, 1) := by decide +kernel
theorem dX0_find_12 : decode cX0_find 12 = .ok (.invokevirtual 30, 3) := by decide +kernel
theorem dX0_find_15 : decode cX0_find 15 = .ok (.iload_n 1, 1) := by decide +kernel
theorem dX0_find_16 : decode cX0_find 16 = .ok (.if_icmp .ne 5, 3) := by decide +kernel
theorem dX0_find_19 : decode cX0_find 19 = .ok (.iload_n 2, 1) := by decide +kernel
theorem dX0_find_20 : decode cX0_find 20 = .ok (.ireturn, 1) := by decide +kernel
theorem dX0_find_21 : decode cX0_find 21 = .ok (.iinc 2 1, 3) := by decide +kernel
theorem dX0_find_24 : decode cX0_find 24 = .ok (.goto (-22), 3) := by decide +kernel
theorem dX0_find_27 : decode cX0_find 27 = .ok (.iconst (-1), 1) := by decide +kernel
theorem dX0_find_28 : decode cX0_find 28 = .ok (.ireturn, 1) := by decide +kernel
theorem dX0_contentOf_0 : decode cX0_contentOf 0 = .ok (.aload_n 0, 1) := by decide +kernel
theorem dX0_contentOf_1 : decode cX0_contentOf 1 = .ok (.aload_n 0, 1) := by decide +kernel
theorem dX0_contentOf_2 : decode cX0_contentOf 2 = .ok (.iload_n 1, 1) := by decide +kernel
theorem dX0_contentOf_3 : decode cX0_contentOf 3 = .ok (.invokevirtual 34, 3) := by decide +kernel
theorem dX0_contentOf_6 : decode cX0_contentOf 6 = .ok (.invokevirtual 37, 3) := by decide +kernel
theorem dX0_contentOf_9 : decode cX0_contentOf 9 = .ok (.ireturn, 1) := by decide +kernel
theorem dX0_replaceContent_0 : decode cX0_replaceContent 0 = .ok (.aload_n 0, 1) := by decide +kernel
theorem dX0_replaceContent_1 : decode cX0_replaceContent 1 = .ok (.iload_n 1, 1) := by decide +kernel
theorem dX0_replaceContent_2 : decode cX0_replaceContent 2 = .ok (.invokevirtual 37, 3) := by decide +kernel
theorem dX0_replaceContent_5 : decode cX0_replaceContent 5 = .ok (.istore_n 3, 1) := by decide +kernel
theorem dX0_replaceContent_6 : decode cX0_replaceContent 6 = .ok (.aload_n 0, 1) := by decide +kernel
theorem dX0_replaceContent_7 : decode cX0_replaceContent 7 = .ok (.getfield 19, 3) := by decide +kernel
theorem dX0_replaceContent_10 : decode cX0_replaceContent 10 = .ok (.iload_n 1, 1) := by decide +kernel
theorem dX0_replaceContent_11 : decode cX0_replaceContent 11 = .ok (.iload_n 2, 1) := by decide +kernel
theorem dX0_replaceContent_12 : decode cX0_replaceContent 12 = .ok (.invokestatic 40, 3) := by decide +kernel
theorem dX0_replaceContent_15 : decode cX0_replaceContent 15 = .ok (.iload_n 3, 1) := by decide +kernel
theorem dX0_replaceContent_16 : decode cX0_replaceContent 16 = .ok (.ireturn, 1) := by decide +kernel
theorem dX0_putIn_0 : decode cX0_putIn 0 = .ok (.aload_n 0, 1) := by decide +kernel
theorem dX0_putIn_1 : decode cX0_putIn 1 = .ok (.invokevirtual 44, 3) := by decide +kernel
theorem dX0_putIn_4 : decode cX0_putIn 4 = .ok (.ifCond .ne 15, 3) := by decide +kernel
theorem dX0_putIn_7 : decode cX0_putIn 7 = .ok (.iload_n 1, 1) := by decide +kernel
theorem dX0_putIn_8 : decode cX0_putIn 8 = .ok (.ifCond .lt 11, 3) := by decide +kernel
theorem dX0_putIn_11 : decode cX0_putIn 11 = .ok (.iload_n 1, 1) := by decide +kernel
theorem dX0_putIn_12 : decode cX0_putIn 12 = .ok (.aload_n 0, 1) := by decide +kernel
theorem dX0_putIn_13 : decode cX0_putIn 13 = .ok (.getfield 9, 3) := by decide +kernel
theorem dX0_putIn_16 : decode cX0_putIn 16 = .ok (.if_icmp .le 4, 3) := by decide +kernel
theorem dX0_putIn_19 : decode cX0_putIn 19 = .ok (.return_, 1) := by decide +kernel
theorem dX0_putIn_20 : decode cX0_putIn 20 = .ok (.aload_n 0, 1) := by decide +kernel
theorem dX0_putIn_21 : decode cX0_putIn 21 = .ok (.getfield 9, 3) := by decide +kernel
theorem dX0_putIn_24 : decode cX0_putIn 24 = .ok (.istore 4, 2) := by decide +kernel
theorem dX0_putIn_26 : decode cX0_putIn 26 = .ok (.iload 4, 2) := by decide +kernel
theorem dX0_putIn_28 : decode cX0_putIn 28 = .ok (.iload_n 1, 1) := by decide +kernel
theorem dX0_putIn_29 : decode cX0_putIn 29 = .ok (.if_icmp .le 49, 3) := by decide +kernel
theorem dX0_putIn_32 : decode cX0_putIn 32 = .ok (.aload_n 0, 1) := by decide +kernel
theorem dX0_putIn_33 : decode cX0_putIn 33 = .ok (.getfield 15, 3) := by decide +kernel
theorem dX0_putIn_36 : decode cX0_putIn 36 = .ok (.iload 4, 2) := by decide +kernel
theorem dX0_putIn_38 : decode cX0_putIn 38 = .ok (.aload_n 0, 1) := by decide +kernel
theorem dX0_putIn_39 : decode cX0_putIn 39 = .ok (.getfield 15, 3) := by decide +kernel
theorem dX0_putIn_42 : decode cX0_putIn 42 = .ok (.iload 4, 2) := by decide +kernel
theorem dX0_putIn_44 : decode cX0_putIn 44 = .ok (.iconst 1, 1) := by decide +kernel
theorem dX0_putIn_45 : decode cX0_putIn 45 = .ok (.isub, 1) := by decide +kernel
theorem dX0_putIn_46 : decode cX0_putIn 46 = .ok (.invokestatic 26, 3) := by decide +kernel
theorem dX0_putIn_49 : decode cX0_putIn 49 = .ok (.invokestatic 40, 3) := by decide +kernel
theorem dX0_putIn_52 : decode cX0_putIn 52 = .ok (.aload_n 0, 1) := by decide +kernel
theorem dX0_putIn_53 : decode cX0_putIn 53 = .ok (.getfield 19, 3) := by decide +kernel
theorem dX0_putIn_56 : decode cX0_putIn 56 = .ok (.iload 4, 2) := by decide +kernel
theorem dX0_putIn_58 : decode cX0_putIn 58 = .ok (.aload_n 0, 1) := by decide +kernel
theorem dX0_putIn_59 : decode cX0_putIn 59 = .ok (.getfield 19, 3) := by decide +kernel
theorem dX0_putIn_62 : decode cX0_putIn 62 = .ok (.iload 4, 2) := by decide +kernel
theorem dX0_putIn_64 : decode cX0_putIn 64 = .ok (.iconst 1, 1) := by decide +kernel
theorem dX0_putIn_65 : decode cX0_putIn 65 = .ok (.isub, 1) := by decide +kernel
theorem dX0_putIn_66 : decode cX0_putIn 66 = .ok (.invokestatic 26, 3) := by decide +kernel
theorem dX0_putIn_69 : decode cX0_putIn 69 = .ok (.invokestatic 40, 3) := by decide +kernel
theorem dX0_putIn_72 : decode cX0_putIn 72 = .ok (.iinc 4 (-1), 3) := by decide +kernel
theorem dX0_putIn_75 : decode cX0_putIn 75 = .ok (.goto (-49), 3) := by decide +kernel
theorem dX0_putIn_78 : decode cX0_putIn 78 = .ok (.aload_n 0, 1) := by decide +kernel
theorem dX0_putIn_79 : decode cX0_putIn 79 = .ok (.getfield 15, 3) := by decide +kernel
theorem dX0_putIn_82 : decode cX0_putIn 82 = .ok (.iload_n 1, 1) := by decide +kernel
theorem dX0_putIn_83 : decode cX0_putIn 83 = .ok (.iload_n 2, 1) := by decide +kernel
theorem dX0_putIn_84 : decode cX0_putIn 84 = .ok (.invokestatic 40, 3) := by decide +kernel
theorem dX0_putIn_87 : decode cX0_putIn 87 = .ok (.aload_n 0, 1) := by decide +kernel
theorem dX0_putIn_88 : decode cX0_putIn 88 = .ok (.getfield 19, 3) := by decide +kernel
theorem dX0_putIn_91 : decode cX0_putIn 91 = .ok (.iload_n 1, 1) := by decide +kernel
theorem dX0_putIn_92 : decode cX0_putIn 92 = .ok (.iload_n 3, 1) := by decide +kernel
theorem dX0_putIn_93 : decode cX0_putIn 93 = .ok (.invokestatic 40, 3) := by decide +kernel
theorem dX0_putIn_96 : decode cX0_putIn 96 = .ok (.aload_n 0, 1) := by decide +kernel
theorem dX0_putIn_97 : decode cX0_putIn 97 = .ok (.dup, 1) := by decide +kernel
theorem dX0_putIn_98 : decode cX0_putIn 98 = .ok (.getfield 9, 3) := by decide +kernel
theorem dX0_putIn_101 : decode cX0_putIn 101 = .ok (.iconst 1, 1) := by decide +kernel
theorem dX0_putIn_102 : decode cX0_putIn 102 = .ok (.iadd, 1) := by decide +kernel
theorem dX0_putIn_103 : decode cX0_putIn 103 = .ok (.putfield 9, 3) := by decide +kernel
theorem dX0_putIn_106 : decode cX0_putIn 106 = .ok (.return_, 1) := by decide +kernel
theorem dX0_putLast_0 : decode cX0_putLast 0 = .ok (.aload_n 0, 1) := by decide +kernel
theorem dX0_putLast_1 : decode cX0_putLast 1 = .ok (.aload_n 0, 1) := by decide +kernel
theorem dX0_putLast_2 : decode cX0_putLast 2 = .ok (.getfield 9, 3) := by decide +kernel
theorem dX0_putLast_5 : decode cX0_putLast 5 = .ok (.iload_n 1, 1) := by decide +kernel
theorem dX0_putLast_6 : decode cX0_putLast 6 = .ok (.iload_n 2, 1) := by decide +kernel
theorem dX0_putLast_7 : decode cX0_putLast 7 = .ok (.invokevirtual 48, 3) := by decide +kernel
theorem dX0_putLast_10 : decode cX0_putLast 10 = .ok (.return_, 1) := by decide +kernel
theorem dX0_takeOut_0 : decode cX0_takeOut 0 = .ok (.aload_n 0, 1) := by decide +kernel
theorem dX0_takeOut_1 : decode cX0_takeOut 1 = .ok (.iload_n 1, 1) := by decide +kernel
theorem dX0_takeOut_2 : decode cX0_takeOut 2 = .ok (.invokevirtual 30, 3) := by decide +kernel
theorem dX0_takeOut_5 : decode cX0_takeOut 5 = .ok (.istore_n 2, 1) := by decide +kernel
theorem dX0_takeOut_6 : decode cX0_takeOut 6 = .ok (.aload_n 0, 1) := by decide +kernel
theorem dX0_takeOut_7 : decode cX0_takeOut 7 = .ok (.iload_n 1, 1) := by decide +kernel
theorem dX0_takeOut_8 : decode cX0_takeOut 8 = .ok (.invokevirtual 22, 3) := by decide +kernel
theorem dX0_takeOut_11 : decode cX0_takeOut 11 = .ok (.ifCond .ne 5, 3) := by decide +kernel
theorem dX0_takeOut_14 : decode cX0_takeOut 14 = .ok (.iload_n 2, 1) := by decide +kernel
theorem dX0_takeOut_15 : decode cX0_takeOut 15 = .ok (.ireturn, 1) := by decide +kernel
theorem dX0_takeOut_16 : decode cX0_takeOut 16 = .ok (.aload_n 0, 1) := by decide +kernel
theorem dX0_takeOut_17 : decode cX0_takeOut 17 = .ok (.dup, 1) := by decide +kernel
theorem dX0_takeOut_18 : decode cX0_takeOut 18 = .ok (.getfield 9, 3) := by decide +kernel
theorem dX0_takeOut_21 : decode cX0_takeOut 21 = .ok (.iconst 1, 1) := by decide +kernel
theorem dX0_takeOut_22 : decode cX0_takeOut 22 = .ok (.isub, 1) := by decide +kernel
theorem dX0_takeOut_23 : decode cX0_takeOut 23 = .ok (.putfield 9, 3) := by decide +kernel
theorem dX0_takeOut_26 : decode cX0_takeOut 26 = .ok (.iload_n 1, 1) := by decide +kernel
theorem dX0_takeOut_27 : decode cX0_takeOut 27 = .ok (.istore_n 3, 1) := by decide +kernel
theorem dX0_takeOut_28 : decode cX0_takeOut 28 = .ok (.iload_n 3, 1) := by decide +kernel
theorem dX0_takeOut_29 : decode cX0_takeOut 29 = .ok (.aload_n 0, 1) := by decide +kernel
theorem dX0_takeOut_30 : decode cX0_takeOut 30 = .ok (.getfield 9, 3) := by decide +kernel
theorem dX0_takeOut_33 : decode cX0_takeOut 33 = .ok (.if_icmp .ge 45, 3) := by decide +kernel
theorem dX0_takeOut_36 : decode cX0_takeOut 36 = .ok (.aload_n 0, 1) := by decide +kernel
theorem dX0_takeOut_37 : decode cX0_takeOut 37 = .ok (.getfield 15, 3) := by decide +kernel
theorem dX0_takeOut_40 : decode cX0_takeOut 40 = .ok (.iload_n 3, 1) := by decide +kernel
theorem dX0_takeOut_41 : decode cX0_takeOut 41 = .ok (.aload_n 0, 1) := by decide +kernel
theorem dX0_takeOut_42 : decode cX0_takeOut 42 = .ok (.getfield 15, 3) := by decide +kernel
theorem dX0_takeOut_45 : decode cX0_takeOut 45 = .ok (.iload_n 3, 1) := by decide +kernel
theorem dX0_takeOut_46 : decode cX0_takeOut 46 = .ok (.iconst 1, 1) := by decide +kernel
theorem dX0_takeOut_47 : decode cX0_takeOut 47 = .ok (.iadd, 1) := by decide +kernel
theorem dX0_takeOut_48 : decode cX0_takeOut 48 = .ok (.invokestatic 26, 3) := by decide +kernel
theorem dX0_takeOut_51 : decode cX0_takeOut 51 = .ok (.invokestatic 40, 3) := by decide +kernel
theorem dX0_takeOut_54 : decode cX0_takeOut 54 = .ok (.aload_n 0, 1) := by decide +kernel
theorem dX0_takeOut_55 : decode cX0_takeOut 55 = .ok (.getfield 19, 3) := by decide +kernel
theorem dX0_takeOut_58 : decode cX0_takeOut 58 = .ok (.iload_n 3, 1) := by decide +kernel
theorem dX0_takeOut_59 : decode cX0_takeOut 59 = .ok (.aload_n 0, 1) := by decide +kernel
theorem dX0_takeOut_60 : decode cX0_takeOut 60 = .ok (.getfield 19, 3) := by decide +kernel
theorem dX0_takeOut_63 : decode cX0_takeOut 63 = .ok (.iload_n 3, 1) := by decide +kernel
theorem dX0_takeOut_64 : decode cX0_takeOut 64 = .ok (.iconst 1, 1) := by decide +kernel
theorem dX0_takeOut_65 : decode cX0_takeOut 65 = .ok (.iadd, 1) := by decide +kernel
theorem dX0_takeOut_66 : decode cX0_takeOut 66 = .ok (.invokestatic 26, 3) := by decide +kernel
theorem dX0_takeOut_69 : decode cX0_takeOut 69 = .ok (.invokestatic 40, 3) := by decide +kernel
theorem dX0_takeOut_72 : decode cX0_takeOut 72 = .ok (.iinc 3 1, 3) := by decide +kernel
theorem dX0_takeOut_75 : decode cX0_takeOut 75 = .ok (.goto (-47), 3) := by decide +kernel
theorem dX0_takeOut_78 : decode cX0_takeOut 78 = .ok (.iload_n 2, 1) := by decide +kernel
theorem dX0_takeOut_79 : decode cX0_takeOut 79 = .ok (.ireturn, 1) := by decide +kernel
theorem dX0_shift_0 : decode cX0_shift 0 = .ok (.aload_n 0, 1) := by decide +kernel
theorem dX0_shift_1 : decode cX0_shift 1 = .ok (.iload_n 1, 1) := by decide +kernel
theorem dX0_shift_2 : decode cX0_shift 2 = .ok (.invokevirtual 37, 3) := by decide +kernel
theorem dX0_shift_5 : decode cX0_shift 5 = .ok (.istore_n 3, 1) := by decide +kernel
theorem dX0_shift_6 : decode cX0_shift 6 = .ok (.aload_n 0, 1) := by decide +kernel
theorem dX0_shift_7 : decode cX0_shift 7 = .ok (.iload_n 1, 1) := by decide +kernel
theorem dX0_shift_8 : decode cX0_shift 8 = .ok (.invokevirtual 52, 3) := by decide +kernel
theorem dX0_shift_11 : decode cX0_shift 11 = .ok (.istore 4, 2) := by decide +kernel
theorem dX0_shift_13 : decode cX0_shift 13 = .ok (.aload_n 0, 1) := by decide +kernel
theorem dX0_shift_14 : decode cX0_shift 14 = .ok (.iload_n 2, 1) := by decide +kernel
theorem dX0_shift_15 : decode cX0_shift 15 = .ok (.iload 4, 2) := by decide +kernel
theorem dX0_shift_17 : decode cX0_shift 17 = .ok (.iload_n 3, 1) := by decide +kernel
theorem dX0_shift_18 : decode cX0_shift 18 = .ok (.invokevirtual 48, 3) := by decide +kernel
theorem dX0_shift_21 : decode cX0_shift 21 = .ok (.iload 4, 2) := by decide +kernel
theorem dX0_shift_23 : decode cX0_shift 23 = .ok (.ireturn, 1) := by decide +kernel
theorem dX0_clear_0 : decode cX0_clear 0 = .ok (.aload_n 0, 1) := by decide +kernel
theorem dX0_clear_1 : decode cX0_clear 1 = .ok (.iconst 0, 1) := by decide +kernel
theorem dX0_clear_2 : decode cX0_clear 2 = .ok (.putfield 9, 3) := by decide +kernel
theorem dX0_clear_5 : decode cX0_clear 5 = .ok (.return_, 1) := by decide +kernel
theorem dX0_copyFrom_0 : decode cX0_copyFrom 0 = .ok (.aload_n 0, 1) := by decide +kernel
theorem dX0_copyFrom_1 : decode cX0_copyFrom 1 = .ok (.aload_n 1, 1) := by decide +kernel
theorem dX0_copyFrom_2 : decode cX0_copyFrom 2 = .ok (.getfield 9, 3) := by decide +kernel
theorem dX0_copyFrom_5 : decode cX0_copyFrom 5 = .ok (.aload_n 0, 1) := by decide +kernel
theorem dX0_copyFrom_6 : decode cX0_copyFrom 6 = .ok (.getfield 15, 3) := by decide +kernel
theorem dX0_copyFrom_9 : decode cX0_copyFrom 9 = .ok (.arraylength, 1) := by decide +kernel
theorem dX0_copyFrom_10 : decode cX0_copyFrom 10 = .ok (.invokestatic 55, 3) := by decide +kernel
theorem dX0_copyFrom_13 : decode cX0_copyFrom 13 = .ok (.putfield 9, 3) := by decide +kernel
theorem dX0_copyFrom_16 : decode cX0_copyFrom 16 = .ok (.iconst 0, 1) := by decide +kernel
theorem dX0_copyFrom_17 : decode cX0_copyFrom 17 = .ok (.istore_n 2, 1) := by decide +kernel
theorem dX0_copyFrom_18 : decode cX0_copyFrom 18 = .ok (.iload_n 2, 1) := by decide +kernel
theorem dX0_copyFrom_19 : decode cX0_copyFrom 19 = .ok (.aload_n 0, 1) := by decide +kernel
theorem dX0_copyFrom_20 : decode cX0_copyFrom 20 = .ok (.getfield 9, 3) := by decide +kernel
theorem dX0_copyFrom_23 : decode cX0_copyFrom 23 = .ok (.if_icmp .ge 35, 3) := by decide +kernel
theorem dX0_copyFrom_26 : decode cX0_copyFrom 26 = .ok (.aload_n 0, 1) := by decide +kernel
theorem dX0_copyFrom_27 : decode cX0_copyFrom 27 = .ok (.getfield 15, 3) := by decide +kernel
theorem dX0_copyFrom_30 : decode cX0_copyFrom 30 = .ok (.iload_n 2, 1) := by decide +kernel
theorem dX0_copyFrom_31 : decode cX0_copyFrom 31 = .ok (.aload_n 1, 1) := by decide +kernel
theorem dX0_copyFrom_32 : decode cX0_copyFrom 32 = .ok (.iload_n 2, 1) := by decide +kernel
theorem dX0_copyFrom_33 : decode cX0_copyFrom 33 = .ok (.invokevirtual 30, 3) := by decide +kernel
theorem dX0_copyFrom_36 : decode cX0_copyFrom 36 = .ok (.invokestatic 40, 3) := by decide +kernel
theorem dX0_copyFrom_39 : decode cX0_copyFrom 39 = .ok (.aload_n 0, 1) := by decide +kernel
theorem dX0_copyFrom_40 : decode cX0_copyFrom 40 = .ok (.getfield 19, 3) := by decide +kernel
theorem dX0_copyFrom_43 : decode cX0_copyFrom 43 = .ok (.iload_n 2, 1) := by decide +kernel
theorem dX0_copyFrom_44 : decode cX0_copyFrom 44 = .ok (.aload_n 1, 1) := by decide +kernel
theorem dX0_copyFrom_45 : decode cX0_copyFrom 45 = .ok (.iload_n 2, 1) := by decide +kernel
theorem dX0_copyFrom_46 : decode cX0_copyFrom 46 = .ok (.invokevirtual 37, 3) := by decide +kernel
theorem dX0_copyFrom_49 : decode cX0_copyFrom 49 = .ok (.invokestatic 40, 3) := by decide +kernel
theorem dX0_copyFrom_52 : decode cX0_copyFrom 52 = .ok (.iinc 2 1, 3) := by decide +kernel
theorem dX0_copyFrom_55 : decode cX0_copyFrom 55 = .ok (.goto (-37), 3) := by decide +kernel
theorem dX0_copyFrom_58 : decode cX0_copyFrom 58 = .ok (.return_, 1) := by decide +kernel
theorem dX0_isLike_0 : decode cX0_isLike 0 = .ok (.aload_n 0, 1) := by decide +kernel
theorem dX0_isLike_1 : decode cX0_isLike 1 = .ok (.getfield 9, 3) := by decide +kernel
theorem dX0_isLike_4 : decode cX0_isLike 4 = .ok (.aload_n 1, 1) := by decide +kernel
theorem dX0_isLike_5 : decode cX0_isLike 5 = .ok (.getfield 9, 3) := by decide +kernel
theorem dX0_isLike_8 : decode cX0_isLike 8 = .ok (.if_icmp .eq 5, 3) := by decide +kernel
theorem dX0_isLike_11 : decode cX0_isLike 11 = .ok (.iconst 0, 1) := by decide +kernel
theorem dX0_isLike_12 : decode cX0_isLike 12 = .ok (.ireturn, 1) := by decide +kernel
theorem dX0_isLike_13 : decode cX0_isLike 13 = .ok (.iconst 0, 1) := by decide +kernel
theorem dX0_isLike_14 : decode cX0_isLike 14 = .ok (.istore_n 2, 1) := by decide +kernel
theorem dX0_isLike_15 : decode cX0_isLike 15 = .ok (.iload_n 2, 1) := by decide +kernel
theorem dX0_isLike_16 : decode cX0_isLike 16 = .ok (.aload_n 0, 1) := by decide +kernel
theorem dX0_isLike_17 : decode cX0_isLike 17 = .ok (.getfield 9, 3) := by decide +kernel
theorem dX0_isLike_20 : decode cX0_isLike 20 = .ok (.if_icmp .ge 37, 3) := by decide +kernel
theorem dX0_isLike_23 : decode cX0_isLike 23 = .ok (.aload_n 0, 1) := by decide +kernel
theorem dX0_isLike_24 : decode cX0_isLike 24 = .ok (.iload_n 2, 1) := by decide +kernel
theorem dX0_isLike_25 : decode cX0_isLike 25 = .ok (.invokevirtual 30, 3) := by decide +kernel
theorem dX0_isLike_28 : decode cX0_isLike 28 = .ok (.aload_n 1, 1) := by decide +kernel
theorem dX0_isLike_29 : decode cX0_isLike 29 = .ok (.iload_n 2, 1) := by decide +kernel
theorem dX0_isLike_30 : decode cX0_isLike 30 = .ok (.invokevirtual 30, 3) := by decide +kernel
theorem dX0_isLike_33 : decode cX0_isLike 33 = .ok (.if_icmp .ne 16, 3) := by decide +kernel
theorem dX0_isLike_36 : decode cX0_isLike 36 = .ok (.aload_n 0, 1) := by decide +kernel
theorem dX0_isLike_37 : decode cX0_isLike 37 = .ok (.iload_n 2, 1) := by decide +kernel
theorem dX0_isLike_38 : decode cX0_isLike 38 = .ok (.invokevirtual 37, 3) := by decide +kernel
theorem dX0_isLike_41 : decode cX0_isLike 41 = .ok (.aload_n 1, 1) := by decide +kernel
theorem dX0_isLike_42 : decode cX0_isLike 42 = .ok (.iload_n 2, 1) := by decide +kernel
theorem dX0_isLike_43 : decode cX0_isLike 43 = .ok (.invokevirtual 37, 3) := by decide +kernel
theorem dX0_isLike_46 : decode cX0_isLike 46 = .ok (.if_icmp .eq 5, 3) := by decide +kernel
theorem dX0_isLike_49 : decode cX0_isLike 49 = .ok (.iconst 0, 1) := by decide +kernel
theorem dX0_isLike_50 : decode cX0_isLike 50 = .ok (.ireturn, 1) := by decide +kernel
theorem dX0_isLike_51 : decode cX0_isLike 51 = .ok (.iinc 2 1, 3) := by decide +kernel
theorem dX0_isLike_54 : decode cX0_isLike 54 = .ok (.goto (-39), 3) := by decide +kernel
theorem dX0_isLike_57 : decode cX0_isLike 57 = .ok (.iconst 1, 1) := by decide +kernel
theorem dX0_isLike_58 : decode cX0_isLike 58 = .ok (.ireturn, 1) := by decide +kernel
theorem dX0_countShared_0 : decode cX0_countShared 0 = .ok (.iconst 0, 1) := by decide +kernel
theorem dX0_countShared_1 : decode cX0_countShared 1 = .ok (.istore_n 3, 1) := by decide +kernel
theorem dX0_countShared_2 : decode cX0_countShared 2 = .ok (.iconst 0, 1) := by decide +kernel
theorem dX0_countShared_3 : decode cX0_countShared 3 = .ok (.istore 4, 2) := by decide +kernel
theorem dX0_countShared_5 : decode cX0_countShared 5 = .ok (.iload 4, 2) := by decide +kernel
theorem dX0_countShared_7 : decode cX0_countShared 7 = .ok (.aload_n 0, 1) := by decide +kernel
theorem dX0_countShared_8 : decode cX0_countShared 8 = .ok (.getfield 9, 3) := by decide +kernel
theorem dX0_countShared_11 : decode cX0_countShared 11 = .ok (.if_icmp .ge 49, 3) := by decide +kernel
theorem dX0_countShared_14 : decode cX0_countShared 14 = .ok (.aload_n 1, 1) := by decide +kernel
theorem dX0_countShared_15 : decode cX0_countShared 15 = .ok (.aload_n 0, 1) := by decide +kernel
theorem dX0_countShared_16 : decode cX0_countShared 16 = .ok (.iload 4, 2) := by decide +kernel
theorem dX0_countShared_18 : decode cX0_countShared 18 = .ok (.invokevirtual 30, 3) := by decide +kernel
theorem dX0_countShared_21 : decode cX0_countShared 21 = .ok (.invokevirtual 34, 3) := by decide +kernel
theorem dX0_countShared_24 : decode cX0_countShared 24 = .ok (.istore 5, 2) := by decide +kernel
theorem dX0_countShared_26 : decode cX0_countShared 26 = .ok (.iload 5, 2) := by decide +kernel
theorem dX0_countShared_28 : decode cX0_countShared 28 = .ok (.iconst (-1), 1) := by decide +kernel
theorem dX0_countShared_29 : decode cX0_countShared 29 = .ok (.if_icmp .eq 25, 3) := by decide +kernel
theorem dX0_countShared_32 : decode cX0_countShared 32 = .ok (.iload_n 2, 1) := by decide +kernel
theorem dX0_countShared_33 : decode cX0_countShared 33 = .ok (.ifCond .eq 18, 3) := by decide +kernel
theorem dX0_countShared_36 : decode cX0_countShared 36 = .ok (.aload_n 1, 1) := by decide +kernel
theorem dX0_countShared_37 : decode cX0_countShared 37 = .ok (.iload 5, 2) := by decide +kernel
theorem dX0_countShared_39 : decode cX0_countShared 39 = .ok (.invokevirtual 37, 3) := by decide +kernel
theorem dX0_countShared_42 : decode cX0_countShared 42 = .ok (.aload_n 0, 1) := by decide +kernel
theorem dX0_countShared_43 : decode cX0_countShared 43 = .ok (.iload 4, 2) := by decide +kernel
theorem dX0_countShared_45 : decode cX0_countShared 45 = .ok (.invokevirtual 37, 3) := by decide +kernel
theorem dX0_countShared_48 : decode cX0_countShared 48 = .ok (.if_icmp .ne 6, 3) := by decide +kernel
theorem dX0_countShared_51 : decode cX0_countShared 51 = .ok (.iinc 3 1, 3) := by decide +kernel
theorem dX0_countShared_54 : decode cX0_countShared 54 = .ok (.iinc 4 1, 3) := by decide +kernel
theorem dX0_countShared_57 : decode cX0_countShared 57 = .ok (.goto (-52), 3) := by decide +kernel
theorem dX0_countShared_60 : decode cX0_countShared 60 = .ok (.iload_n 3, 1) := by decide +kernel
theorem dX0_countShared_61 : decode cX0_countShared 61 = .ok (.ireturn, 1) := by decide +kernel
theorem dX1_init_0 : decode cX1_init 0 = .ok (.aload_n 0, 1) := by decide +kernel
theorem dX1_init_1 : decode cX1_init 1 = .ok (.invokespecial 3, 3) := by decide +kernel
theorem dX1_init_4 : decode cX1_init 4 = .ok (.aload_n 0, 1) := by decide +kernel
theorem dX1_init_5 : decode cX1_init 5 = .ok (.bipush 60, 2) := by decide +kernel
theorem dX1_init_7 : decode cX1_init 7 = .ok (.newarray .int, 2) := by decide +kernel
theorem dX1_init_9 : decode cX1_init 9 = .ok (.putfield 9, 3) := by decide +kernel
theorem dX1_init_12 : decode cX1_init 12 = .ok (.aload_n 0, 1) := by decide +kernel
theorem dX1_init_13 : decode cX1_init 13 = .ok (.iconst 0, 1) := by decide +kernel
theorem dX1_init_14 : decode cX1_init 14 = .ok (.putfield 15, 3) := by decide +kernel
theorem dX1_init_17 : decode cX1_init 17 = .ok (.aload_n 0, 1) := by decide +kernel
theorem dX1_init_18 : decode cX1_init 18 = .ok (.iconst (-1), 1) := by decide +kernel
theorem dX1_init_19 : decode cX1_init 19 = .ok (.putfield 19, 3) := by decide +kernel
theorem dX1_init_22 : decode cX1_init 22 = .ok (.aload_n 0, 1) := by decide +kernel
theorem dX1_init_23 : decode cX1_init 23 = .ok (.iconst (-1), 1) := by decide +kernel
theorem dX1_init_24 : decode cX1_init 24 = .ok (.putfield 22, 3) := by decide +kernel
theorem dX1_init_27 : decode cX1_init 27 = .ok (.aload_n 0, 1) := by decide +kernel
theorem dX1_init_28 : decode cX1_init 28 = .ok (.iconst (-1), 1) := by decide +kernel
theorem dX1_init_29 : decode cX1_init 29 = .ok (.putfield 25, 3) := by decide +kernel
theorem dX1_init_32 : decode cX1_init 32 = .ok (.aload_n 0, 1) := by decide +kernel
theorem dX1_init_33 : decode cX1_init 33 = .ok (.iconst 0, 1) := by decide +kernel
theorem dX1_init_34 : decode cX1_init 34 = .ok (.putfield 28, 3) := by decide +kernel
theorem dX1_init_37 : decode cX1_init 37 = .ok (.aload_n 0, 1) := by decide +kernel
theorem dX1_init_38 : decode cX1_init 38 = .ok (.iconst (-1), 1) := by decide +kernel
theorem dX1_init_39 : decode cX1_init 39 = .ok (.putfield 32, 3) := by decide +kernel
theorem dX1_init_42 : decode cX1_init 42 = .ok (.return_, 1) := by decide +kernel
theorem dX1_codeAt_0 : decode cX1_codeAt 0 = .ok (.iload_n 1, 1) := by decide +kernel
theorem dX1_codeAt_1 : decode cX1_codeAt 1 = .ok (.ifCond .lt 22, 3) := by decide +kernel
theorem dX1_codeAt_4 : decode cX1_codeAt 4 = .ok (.iload_n 1, 1) := by decide +kernel
theorem dX1_codeAt_5 : decode cX1_codeAt 5 = .ok (.aload_n 0, 1) := by decide +kernel
theorem dX1_codeAt_6 : decode cX1_codeAt 6 = .ok (.getfield 15, 3) := by decide +kernel
theorem dX1_codeAt_9 : decode cX1_codeAt 9 = .ok (.if_icmp .ge 14, 3) := by decide +kernel
theorem dX1_codeAt_12 : decode cX1_codeAt 12 = .ok (.aload_n 0, 1) := by decide +kernel
theorem dX1_codeAt_13 : decode cX1_codeAt 13 = .ok (.getfield 9, 3) := by decide +kernel
theorem dX1_codeAt_16 : decode cX1_codeAt 16 = .ok (.iload_n 1, 1) := by decide +kernel
theorem dX1_codeAt_17 : decode cX1_codeAt 17 = .ok (.invokestatic 35, 3) := by decide +kernel
theorem dX1_codeAt_20 : decode cX1_codeAt 20 = .ok (.goto 4, 3) := by decide +kernel
theorem dX1_codeAt_23 : decode cX1_codeAt 23 = .ok (.iconst (-1), 1) := by decide +kernel
theorem dX1_codeAt_24 : decode cX1_codeAt 24 = .ok (.ireturn, 1) := by decide +kernel
theorem dX1_putLast_0 : decode cX1_putLast 0 = .ok (.aload_n 0, 1) := by decide +kernel
theorem dX1_putLast_1 : decode cX1_putLast 1 = .ok (.getfield 15, 3) := by decide +kernel
theorem dX1_putLast_4 : decode cX1_putLast 4 = .ok (.aload_n 0, 1) := by decide +kernel
theorem dX1_putLast_5 : decode cX1_putLast 5 = .ok (.getfield 9, 3) := by decide +kernel
theorem dX1_putLast_8 : decode cX1_putLast 8 = .ok (.arraylength, 1) := by decide +kernel
theorem dX1_putLast_9 : decode cX1_putLast 9 = .ok (.if_icmp .ge 25, 3) := by decide +kernel
theorem dX1_putLast_12 : decode cX1_putLast 12 = .ok (.aload_n 0, 1) := by decide +kernel
theorem dX1_putLast_13 : decode cX1_putLast 13 = .ok (.getfield 9, 3) := by decide +kernel
theorem dX1_putLast_16 : decode cX1_putLast 16 = .ok (.aload_n 0, 1) := by decide +kernel
theorem dX1_putLast_17 : decode cX1_putLast 17 = .ok (.getfield 15, 3) := by decide +kernel
theorem dX1_putLast_20 : decode cX1_putLast 20 = .ok (.iload_n 1, 1) := by decide +kernel
theorem dX1_putLast_21 : decode cX1_putLast 21 = .ok (.invokestatic 39, 3) := by decide +kernel
theorem dX1_putLast_24 : decode cX1_putLast 24 = .ok (.aload_n 0, 1) := by decide +kernel
theorem dX1_putLast_25 : decode cX1_putLast 25 = .ok (.dup, 1) := by decide +kernel
theorem dX1_putLast_26 : decode cX1_putLast 26 = .ok (.getfield 15, 3) := by decide +kernel
theorem dX1_putLast_29 : decode cX1_putLast 29 = .ok (.iconst 1, 1) := by decide +kernel
theorem dX1_putLast_30 : decode cX1_putLast 30 = .ok (.iadd, 1) := by decide +kernel
theorem dX1_putLast_31 : decode cX1_putLast 31 = .ok (.putfield 15, 3) := by decide +kernel
theorem dX1_putLast_34 : decode cX1_putLast 34 = .ok (.aload_n 0, 1) := by decide +kernel
theorem dX1_putLast_35 : decode cX1_putLast 35 = .ok (.getfield 15, 3) := by decide +kernel
theorem dX1_putLast_38 : decode cX1_putLast 38 = .ok (.ireturn, 1) := by decide +kernel
theorem dX1_forget_0 : decode cX1_forget 0 = .ok (.aload_n 0, 1) := by decide +kernel
theorem dX1_forget_1 : decode cX1_forget 1 = .ok (.getfield 15, 3) := by decide +kernel
theorem dX1_forget_4 : decode cX1_forget 4 = .ok (.istore_n 1, 1) := by decide +kernel
theorem dX1_forget_5 : decode cX1_forget 5 = .ok (.aload_n 0, 1) := by decide +kernel
theorem dX1_forget_6 : decode cX1_forget 6 = .ok (.iconst 0, 1) := by decide +kernel
theorem dX1_forget_7 : decode cX1_forget 7 = .ok (.putfield 15, 3) := by decide +kernel
theorem dX1_forget_10 : decode cX1_forget 10 = .ok (.iload_n 1, 1) := by decide +kernel
theorem dX1_forget_11 : decode cX1_forget 11 = .ok (.ireturn, 1) := by decide +kernel
theorem dX1_findError_0 : decode cX1_findError 0 = .ok (.aload_n 0, 1) := by decide +kernel
theorem dX1_findError_1 : decode cX1_findError 1 = .ok (.invokevirtual 43, 3) := by decide +kernel
theorem dX1_findError_4 : decode cX1_findError 4 = .ok (.iconst 0, 1) := by decide +kernel
theorem dX1_findError_5 : decode cX1_findError 5 = .ok (.istore_n 1, 1) := by decide +kernel
theorem dX1_findError_6 : decode cX1_findError 6 = .ok (.iload_n 1, 1) := by decide +kernel
theorem dX1_findError_7 : decode cX1_findError 7 = .ok (.aload_n 0, 1) := by decide +kernel
theorem dX1_findError_8 : decode cX1_findError 8 = .ok (.getfield 15, 3) := by decide +kernel
theorem dX1_findError_11 : decode cX1_findError 11 = .ok (.if_icmp .ge 23, 3) := by decide +kernel
theorem dX1_findError_14 : decode cX1_findError 14 = .ok (.aload_n 0, 1) := by decide +kernel
theorem dX1_findError_15 : decode cX1_findError 15 = .ok (.aload_n 0, 1) := by decide +kernel
theorem dX1_findError_16 : decode cX1_findError 16 = .ok (.iload_n 1, 1) := by decide +kernel
theorem dX1_findError_17 : decode cX1_findError 17 = .ok (.invokevirtual 46, 3) := by decide +kernel
theorem dX1_findError_20 : decode cX1_findError 20 = .ok (.invokevirtual 50, 3) := by decide +kernel
theorem dX1_findError_23 : decode cX1_findError 23 = .ok (.ifCond .ne 5, 3) := by decide +kernel
theorem dX1_findError_26 : decode cX1_findError 26 = .ok (.iload_n 1, 1) := by decide +kernel
theorem dX1_findError_27 : decode cX1_findError 27 = .ok (.ireturn, 1) := by decide +kernel
theorem dX1_findError_28 : decode cX1_findError 28 = .ok (.iinc 1 1, 3) := by decide +kernel
theorem dX1_findError_31 : decode cX1_findError 31 = .ok (.goto (-25), 3) := by decide +kernel
theorem dX1_findError_34 : decode cX1_findError 34 = .ok (.aload_n 0, 1) := by decide +kernel
theorem dX1_findError_35 : decode cX1_findError 35 = .ok (.getfield 15, 3) := by decide +kernel
theorem dX1_findError_38 : decode cX1_findError 38 = .ok (.ireturn, 1) := by decide +kernel
theorem dX1_isComplete_0 : decode cX1_isComplete 0 = .ok (.aload_n 0, 1) := by decide +kernel
theorem dX1_isComplete_1 : decode cX1_isComplete 1 = .ok (.invokevirtual 54, 3) := by decide +kernel
theorem dX1_isComplete_4 : decode cX1_isComplete 4 = .ok (.aload_n 0, 1) := by decide +kernel
theorem dX1_isComplete_5 : decode cX1_isComplete 5 = .ok (.getfield 15, 3) := by decide +kernel
theorem dX1_isComplete_8 : decode cX1_isComplete 8 = .ok (.if_icmp .ne 14, 3) := by decide +kernel
theorem dX1_isComplete_11 : decode cX1_isComplete 11 = .ok (.aload_n 0, 1) := by decide +kernel
theorem dX1_isComplete_12 : decode cX1_isComplete 12 = .ok (.invokevirtual 58, 3) := by decide +kernel
theorem dX1_isComplete_15 : decode cX1_isComplete 15 = .ok (.ifCond .eq 7, 3) := by decide +kernel
theorem dX1_isComplete_18 : decode cX1_isComplete 18 = .ok (.iconst 1, 1) := by decide +kernel
theorem dX1_isComplete_19 : decode cX1_isComplete 19 = .ok (.goto 4, 3) := by decide +kernel
theorem dX1_isComplete_22 : decode cX1_isComplete 22 = .ok (.iconst 0, 1) := by decide +kernel
theorem dX1_isComplete_23 : decode cX1_isComplete 23 = .ok (.ireturn, 1) := by decide +kernel
theorem dX1_beginReading_0 : decode cX1_beginReading 0 = .ok (.aload_n 0, 1) := by decide +kernel
theorem dX1_beginReading_1 : decode cX1_beginReading 1 = .ok (.iconst (-1), 1) := by decide +kernel
theorem dX1_beginReading_2 : decode cX1_beginReading 2 = .ok (.putfield 19, 3) := by decide +kernel
theorem dX1_beginReading_5 : decode cX1_beginReading 5 = .ok (.aload_n 0, 1) := by decide +kernel
theorem dX1_beginReading_6 : decode cX1_beginReading 6 = .ok (.iconst (-1), 1) := by decide +kernel
theorem dX1_beginReading_7 : decode cX1_beginReading 7 = .ok (.putfield 22, 3) := by decide +kernel
theorem dX1_beginReading_10 : decode cX1_beginReading 10 = .ok (.aload_n 0, 1) := by decide +kernel
theorem dX1_beginReading_11 : decode cX1_beginReading 11 = .ok (.iconst (-1), 1) := by decide +kernel
theorem dX1_beginReading_12 : decode cX1_beginReading 12 = .ok (.putfield 25, 3) := by decide +kernel
theorem dX1_beginReading_15 : decode cX1_beginReading 15 = .ok (.aload_n 0, 1) := by decide +kernel
theorem dX1_beginReading_16 : decode cX1_beginReading 16 = .ok (.iconst 0, 1) := by decide +kernel
theorem dX1_beginReading_17 : decode cX1_beginReading 17 = .ok (.putfield 28, 3) := by decide +kernel
theorem dX1_beginReading_20 : decode cX1_beginReading 20 = .ok (.aload_n 0, 1) := by decide +kernel
theorem dX1_beginReading_21 : decode cX1_beginReading 21 = .ok (.iconst (-1), 1) := by decide +kernel
theorem dX1_beginReading_22 : decode cX1_beginReading 22 = .ok (.putfield 32, 3) := by decide +kernel
theorem dX1_beginReading_25 : decode cX1_beginReading 25 = .ok (.return_, 1) := by decide +kernel
theorem dX1_commandIsWhole_0 : decode cX1_commandIsWhole 0 = .ok (.aload_n 0, 1) := by decide +kernel
theorem dX1_commandIsWhole_1 : decode cX1_commandIsWhole 1 = .ok (.getfield 22, 3) := by decide +kernel
theorem dX1_commandIsWhole_4 : decode cX1_commandIsWhole 4 = .ok (.bipush 114, 2) := by decide +kernel
theorem dX1_commandIsWhole_6 : decode cX1_commandIsWhole 6 = .ok (.if_icmp .ne 10, 3) := by decide +kernel
theorem dX1_commandIsWhole_9 : decode cX1_commandIsWhole 9 = .ok (.aload_n 0, 1) := by decide +kernel
theorem dX1_commandIsWhole_10 : decode cX1_commandIsWhole 10 = .ok (.getfield 25, 3) := by decide +kernel
theorem dX1_commandIsWhole_13 : decode cX1_commandIsWhole 13 = .ok (.goto 7, 3) := by decide +kernel
theorem dX1_commandIsWhole_16 : decode cX1_commandIsWhole 16 = .ok (.aload_n 0, 1) := by decide +kernel
theorem dX1_commandIsWhole_17 : decode cX1_commandIsWhole 17 = .ok (.getfield 32, 3) := by decide +kernel
theorem dX1_commandIsWhole_20 : decode cX1_commandIsWhole 20 = .ok (.iconst (-1), 1) := by decide +kernel
theorem dX1_commandIsWhole_21 : decode cX1_commandIsWhole 21 = .ok (.if_icmp .eq 7, 3) := by decide +kernel
theorem dX1_commandIsWhole_24 : decode cX1_commandIsWhole 24 = .ok (.iconst 1, 1) := by decide +kernel
theorem dX1_commandIsWhole_25 : decode cX1_commandIsWhole 25 = .ok (.goto 4, 3) := by decide +kernel
theorem dX1_commandIsWhole_28 : decode cX1_commandIsWhole 28 = .ok (.iconst 0, 1) := by decide +kernel
theorem dX1_commandIsWhole_29 : decode cX1_commandIsWhole 29 = .ok (.ireturn, 1) := by decide +kernel
theorem dX1_take_0 : decode cX1_take 0 = .ok (.iload_n 1, 1) := by decide +kernel
theorem dX1_take_1 : decode cX1_take 1 = .ok (.bipush 59, 2) := by decide +kernel
theorem dX1_take_3 : decode cX1_take 3 = .ok (.if_icmp .ne 16, 3) := by decide +kernel
theorem dX1_take_6 : decode cX1_take 6 = .ok (.aload_n 0, 1) := by decide +kernel
theorem dX1_take_7 : decode cX1_take 7 = .ok (.invokevirtual 58, 3) := by decide +kernel
theorem dX1_take_10 : decode cX1_take 10 = .ok (.ifCond .eq 9, 3) := by decide +kernel
theorem dX1_take_13 : decode cX1_take 13 = .ok (.aload_n 0, 1) := by decide +kernel
theorem dX1_take_14 : decode cX1_take 14 = .ok (.invokevirtual 43, 3) := by decide +kernel
theorem dX1_take_17 : decode cX1_take 17 = .ok (.iconst 1, 1) := by decide +kernel
theorem dX1_take_18 : decode cX1_take 18 = .ok (.ireturn, 1) := by decide +kernel
theorem dX1_take_19 : decode cX1_take 19 = .ok (.aload_n 0, 1) := by decide +kernel
theorem dX1_take_20 : decode cX1_take 20 = .ok (.getfield 19, 3) := by decide +kernel
theorem dX1_take_23 : decode cX1_take 23 = .ok (.iconst (-1), 1) := by decide +kernel
theorem dX1_take_24 : decode cX1_take 24 = .ok (.if_icmp .ne 9, 3) := by decide +kernel
theorem dX1_take_27 : decode cX1_take 27 = .ok (.aload_n 0, 1) := by decide +kernel
theorem dX1_take_28 : decode cX1_take 28 = .ok (.iload_n 1, 1) := by decide +kernel
theorem dX1_take_29 : decode cX1_take 29 = .ok (.invokevirtual 62, 3) := by decide +kernel
theorem dX1_take_32 : decode cX1_take 32 = .ok (.ireturn, 1) := by decide +kernel
theorem dX1_take_33 : decode cX1_take 33 = .ok (.aload_n 0, 1) := by decide +kernel
theorem dX1_take_34 : decode cX1_take 34 = .ok (.getfield 22, 3) := by decide +kernel
theorem dX1_take_37 : decode cX1_take 37 = .ok (.iconst (-1), 1) := by decide +kernel
theorem dX1_take_38 : decode cX1_take 38 = .ok (.if_icmp .ne 9, 3) := by decide +kernel
theorem dX1_take_41 : decode cX1_take 41 = .ok (.aload_n 0, 1) := by decide +kernel
theorem dX1_take_42 : decode cX1_take 42 = .ok (.iload_n 1, 1) := by decide +kernel
theorem dX1_take_43 : decode cX1_take 43 = .ok (.invokevirtual 65, 3) := by decide +kernel
theorem dX1_take_46 : decode cX1_take 46 = .ok (.ireturn, 1) := by decide +kernel
theorem dX1_take_47 : decode cX1_take 47 = .ok (.aload_n 0, 1) := by decide +kernel
theorem dX1_take_48 : decode cX1_take 48 = .ok (.getfield 28, 3) := by decide +kernel
theorem dX1_take_51 : decode cX1_take 51 = .ok (.ifCond .eq 11, 3) := by decide +kernel
theorem dX1_take_54 : decode cX1_take 54 = .ok (.aload_n 0, 1) := by decide +kernel
theorem dX1_take_55 : decode cX1_take 55 = .ok (.iload_n 1, 1) := by decide +kernel
theorem dX1_take_56 : decode cX1_take 56 = .ok (.invokevirtual 68, 3) := by decide +kernel
theorem dX1_take_59 : decode cX1_take 59 = .ok (.goto 8, 3) := by decide +kernel
theorem dX1_take_62 : decode cX1_take 62 = .ok (.aload_n 0, 1) := by decide +kernel
theorem dX1_take_63 : decode cX1_take 63 = .ok (.iload_n 1, 1) := by decide +kernel
theorem dX1_take_64 : decode cX1_take 64 = .ok (.invokevirtual 71, 3) := by decide +kernel
theorem dX1_take_67 : decode cX1_take 67 = .ok (.ireturn, 1) := by decide +kernel
theorem dX1_takeDraft_0 : decode cX1_takeDraft 0 = .ok (.iload_n 1, 1) := by decide +kernel
theorem dX1_takeDraft_1 : decode cX1_takeDraft 1 = .ok (.bipush 48, 2) := by decide +kernel
theorem dX1_takeDraft_3 : decode cX1_takeDraft 3 = .ok (.if_icmp .eq 11, 3) := by decide +kernel
theorem dX1_takeDraft_6 : decode cX1_takeDraft 6 = .ok (.iload_n 1, 1) := by decide +kernel
theorem dX1_takeDraft_7 : decode cX1_takeDraft 7 = .ok (.bipush 49, 2) := by decide +kernel
theorem dX1_takeDraft_9 : decode cX1_takeDraft 9 = .ok (.if_icmp .eq 5, 3) := by decide +kernel
theorem dX1_takeDraft_12 : decode cX1_takeDraft 12 = .ok (.iconst 0, 1) := by decide +kernel
theorem dX1_takeDraft_13 : decode cX1_takeDraft 13 = .ok (.ireturn, 1) := by decide +kernel
theorem dX1_takeDraft_14 : decode cX1_takeDraft 14 = .ok (.aload_n 0, 1) := by decide +kernel
theorem dX1_takeDraft_15 : decode cX1_takeDraft 15 = .ok (.iload_n 1, 1) := by decide +kernel
theorem dX1_takeDraft_16 : decode cX1_takeDraft 16 = .ok (.bipush 48, 2) := by decide +kernel
theorem dX1_takeDraft_18 : decode cX1_takeDraft 18 = .ok (.isub, 1) := by decide +kernel
theorem dX1_takeDraft_19 : decode cX1_takeDraft 19 = .ok (.putfield 19, 3) := by decide +kernel
theorem dX1_takeDraft_22 : decode cX1_takeDraft 22 = .ok (.iconst 1, 1) := by decide +kernel
theorem dX1_takeDraft_23 : decode cX1_takeDraft 23 = .ok (.ireturn, 1) := by decide +kernel
theorem dX1_takeKind_0 : decode cX1_takeKind 0 = .ok (.iload_n 1, 1) := by decide +kernel
theorem dX1_takeKind_1 : decode cX1_takeKind 1 = .ok (.bipush 101, 2) := by decide +kernel
theorem dX1_takeKind_3 : decode cX1_takeKind 3 = .ok (.if_icmp .eq 23, 3) := by decide +kernel
theorem dX1_takeKind_6 : decode cX1_takeKind 6 = .ok (.iload_n 1, 1) := by decide +kernel
theorem dX1_takeKind_7 : decode cX1_takeKind 7 = .ok (.bipush 109, 2) := by decide +kernel
theorem dX1_takeKind_9 : decode cX1_takeKind 9 = .ok (.if_icmp .eq 17, 3) := by decide +kernel
theorem dX1_takeKind_12 : decode cX1_takeKind 12 = .ok (.iload_n 1, 1) := by decide +kernel
theorem dX1_takeKind_13 : decode cX1_takeKind 13 = .ok (.bipush 105, 2) := by decide +kernel
theorem dX1_takeKind_15 : decode cX1_takeKind 15 = .ok (.if_icmp .eq 11, 3) := by decide +kernel
theorem dX1_takeKind_18 : decode cX1_takeKind 18 = .ok (.iload_n 1, 1) := by decide +kernel
theorem dX1_takeKind_19 : decode cX1_takeKind 19 = .ok (.bipush 114, 2) := by decide +kernel
theorem dX1_takeKind_21 : decode cX1_takeKind 21 = .ok (.if_icmp .eq 5, 3) := by decide +kernel
theorem dX1_takeKind_24 : decode cX1_takeKind 24 = .ok (.iconst 0, 1) := by decide +kernel
theorem dX1_takeKind_25 : decode cX1_takeKind 25 = .ok (.ireturn, 1) := by decide +kernel
theorem dX1_takeKind_26 : decode cX1_takeKind 26 = .ok (.aload_n 0, 1) := by decide +kernel
theorem dX1_takeKind_27 : decode cX1_takeKind 27 = .ok (.iload_n 1, 1) := by decide +kernel
theorem dX1_takeKind_28 : decode cX1_takeKind 28 = .ok (.putfield 22, 3) := by decide +kernel
theorem dX1_takeKind_31 : decode cX1_takeKind 31 = .ok (.iconst 1, 1) := by decide +kernel
theorem dX1_takeKind_32 : decode cX1_takeKind 32 = .ok (.ireturn, 1) := by decide +kernel
theorem dX1_takeFirst_0 : decode cX1_takeFirst 0 = .ok (.aload_n 0, 1) := by decide +kernel
theorem dX1_takeFirst_1 : decode cX1_takeFirst 1 = .ok (.getfield 25, 3) := by decide +kernel
theorem dX1_takeFirst_4 : decode cX1_takeFirst 4 = .ok (.iconst (-1), 1) := by decide +kernel
theorem dX1_takeFirst_5 : decode cX1_takeFirst 5 = .ok (.if_icmp .eq 39, 3) := by decide +kernel
theorem dX1_takeFirst_8 : decode cX1_takeFirst 8 = .ok (.aload_n 0, 1) := by decide +kernel
theorem dX1_takeFirst_9 : decode cX1_takeFirst 9 = .ok (.getfield 22, 3) := by decide +kernel
theorem dX1_takeFirst_12 : decode cX1_takeFirst 12 = .ok (.bipush 114, 2) := by decide +kernel
theorem dX1_takeFirst_14 : decode cX1_takeFirst 14 = .ok (.if_icmp .eq 30, 3) := by decide +kernel
theorem dX1_takeFirst_17 : decode cX1_takeFirst 17 = .ok (.iload_n 1, 1) := by decide +kernel
theorem dX1_takeFirst_18 : decode cX1_takeFirst 18 = .ok (.aload_n 0, 1) := by decide +kernel
theorem dX1_takeFirst_19 : decode cX1_takeFirst 19 = .ok (.getfield 22, 3) := by decide +kernel
theorem dX1_takeFirst_22 : decode cX1_takeFirst 22 = .ok (.bipush 109, 2) := by decide +kernel
theorem dX1_takeFirst_24 : decode cX1_takeFirst 24 = .ok (.if_icmp .ne 8, 3) := by decide +kernel
theorem dX1_takeFirst_27 : decode cX1_takeFirst 27 = .ok (.bipush 62, 2) := by decide +kernel
theorem dX1_takeFirst_29 : decode cX1_takeFirst 29 = .ok (.goto 5, 3) := by decide +kernel
theorem dX1_takeFirst_32 : decode cX1_takeFirst 32 = .ok (.bipush 61, 2) := by decide +kernel
theorem dX1_takeFirst_34 : decode cX1_takeFirst 34 = .ok (.if_icmp .ne 10, 3) := by decide +kernel
theorem dX1_takeFirst_37 : decode cX1_takeFirst 37 = .ok (.aload_n 0, 1) := by decide +kernel
theorem dX1_takeFirst_38 : decode cX1_takeFirst 38 = .ok (.iconst 1, 1) := by decide +kernel
theorem dX1_takeFirst_39 : decode cX1_takeFirst 39 = .ok (.putfield 28, 3) := by decide +kernel
theorem dX1_takeFirst_42 : decode cX1_takeFirst 42 = .ok (.iconst 1, 1) := by decide +kernel
theorem dX1_takeFirst_43 : decode cX1_takeFirst 43 = .ok (.ireturn, 1) := by decide +kernel
theorem dX1_takeFirst_44 : decode cX1_takeFirst 44 = .ok (.aload_n 0, 1) := by decide +kernel
theorem dX1_takeFirst_45 : decode cX1_takeFirst 45 = .ok (.getfield 25, 3) := by decide +kernel
theorem dX1_takeFirst_48 : decode cX1_takeFirst 48 = .ok (.iload_n 1, 1) := by decide +kernel
theorem dX1_takeFirst_49 : decode cX1_takeFirst 49 = .ok (.bipush 15, 2) := by decide +kernel
theorem dX1_takeFirst_51 : decode cX1_takeFirst 51 = .ok (.invokestatic 74, 3) := by decide +kernel
theorem dX1_takeFirst_54 : decode cX1_takeFirst 54 = .ok (.istore_n 2, 1) := by decide +kernel
theorem dX1_takeFirst_55 : decode cX1_takeFirst 55 = .ok (.aload_n 0, 1) := by decide +kernel
theorem dX1_takeFirst_56 : decode cX1_takeFirst 56 = .ok (.iload_n 2, 1) := by decide +kernel
theorem dX1_takeFirst_57 : decode cX1_takeFirst 57 = .ok (.iconst (-1), 1) := by decide +kernel
theorem dX1_takeFirst_58 : decode cX1_takeFirst 58 = .ok (.if_icmp .ne 10, 3) := by decide +kernel
theorem dX1_takeFirst_61 : decode cX1_takeFirst 61 = .ok (.aload_n 0, 1) := by decide +kernel
theorem dX1_takeFirst_62 : decode cX1_takeFirst 62 = .ok (.getfield 25, 3) := by decide +kernel
theorem dX1_takeFirst_65 : decode cX1_takeFirst 65 = .ok (.goto 4, 3) := by decide +kernel
theorem dX1_takeFirst_68 : decode cX1_takeFirst 68 = .ok (.iload_n 2, 1) := by decide +kernel
theorem dX1_takeFirst_69 : decode cX1_takeFirst 69 = .ok (.putfield 25, 3) := by decide +kernel
theorem dX1_takeFirst_72 : decode cX1_takeFirst 72 = .ok (.iload_n 2, 1) := by decide +kernel
theorem dX1_takeFirst_73 : decode cX1_takeFirst 73 = .ok (.iconst (-1), 1) := by decide +kernel
theorem dX1_takeFirst_74 : decode cX1_takeFirst 74 = .ok (.if_icmp .eq 7, 3) := by decide +kernel
theorem dX1_takeFirst_77 : decode cX1_takeFirst 77 = .ok (.iconst 1, 1) := by decide +kernel
theorem dX1_takeFirst_78 : decode cX1_takeFirst 78 = .ok (.goto 4, 3) := by decide +kernel
theorem dX1_takeFirst_81 : decode cX1_takeFirst 81 = .ok (.iconst 0, 1) := by decide +kernel
theorem dX1_takeFirst_82 : decode cX1_takeFirst 82 = .ok (.ireturn, 1) := by decide +kernel
theorem dX1_takeSecond_0 : decode cX1_takeSecond 0 = .ok (.aload_n 0, 1) := by decide +kernel
theorem dX1_takeSecond_1 : decode cX1_takeSecond 1 = .ok (.getfield 32, 3) := by decide +kernel
theorem dX1_takeSecond_4 : decode cX1_takeSecond 4 = .ok (.iload_n 1, 1) := by decide +kernel
theorem dX1_takeSecond_5 : decode cX1_takeSecond 5 = .ok (.aload_n 0, 1) := by decide +kernel
theorem dX1_takeSecond_6 : decode cX1_takeSecond 6 = .ok (.getfield 22, 3) := by decide +kernel
theorem dX1_takeSecond_9 : decode cX1_takeSecond 9 = .ok (.bipush 109, 2) := by decide +kernel
theorem dX1_takeSecond_11 : decode cX1_takeSecond 11 = .ok (.if_icmp .ne 8, 3) := by decide +kernel
theorem dX1_takeSecond_14 : decode cX1_takeSecond 14 = .ok (.bipush 15, 2) := by decide +kernel
theorem dX1_takeSecond_16 : decode cX1_takeSecond 16 = .ok (.goto 5, 3) := by decide +kernel
theorem dX1_takeSecond_19 : decode cX1_takeSecond 19 = .ok (.bipush 99, 2) := by decide +kernel
theorem dX1_takeSecond_21 : decode cX1_takeSecond 21 = .ok (.invokestatic 74, 3) := by decide +kernel
theorem dX1_takeSecond_24 : decode cX1_takeSecond 24 = .ok (.istore_n 2, 1) := by decide +kernel
theorem dX1_takeSecond_25 : decode cX1_takeSecond 25 = .ok (.aload_n 0, 1) := by decide +kernel
theorem dX1_takeSecond_26 : decode cX1_takeSecond 26 = .ok (.iload_n 2, 1) := by decide +kernel
theorem dX1_takeSecond_27 : decode cX1_takeSecond 27 = .ok (.iconst (-1), 1) := by decide +kernel
theorem dX1_takeSecond_28 : decode cX1_takeSecond 28 = .ok (.if_icmp .ne 10, 3) := by decide +kernel
theorem dX1_takeSecond_31 : decode cX1_takeSecond 31 = .ok (.aload_n 0, 1) := by decide +kernel
theorem dX1_takeSecond_32 : decode cX1_takeSecond 32 = .ok (.getfield 32, 3) := by decide +kernel
theorem dX1_takeSecond_35 : decode cX1_takeSecond 35 = .ok (.goto 4, 3) := by decide +kernel
theorem dX1_takeSecond_38 : decode cX1_takeSecond 38 = .ok (.iload_n 2, 1) := by decide +kernel
theorem dX1_takeSecond_39 : decode cX1_takeSecond 39 = .ok (.putfield 32, 3) := by decide +kernel
theorem dX1_takeSecond_42 : decode cX1_takeSecond 42 = .ok (.iload_n 2, 1) := by decide +kernel
theorem dX1_takeSecond_43 : decode cX1_takeSecond 43 = .ok (.iconst (-1), 1) := by decide +kernel
theorem dX1_takeSecond_44 : decode cX1_takeSecond 44 = .ok (.if_icmp .eq 7, 3) := by decide +kernel
theorem dX1_takeSecond_47 : decode cX1_takeSecond 47 = .ok (.iconst 1, 1) := by decide +kernel
theorem dX1_takeSecond_48 : decode cX1_takeSecond 48 = .ok (.goto 4, 3) := by decide +kernel
theorem dX1_takeSecond_51 : decode cX1_takeSecond 51 = .ok (.iconst 0, 1) := by decide +kernel
theorem dX1_takeSecond_52 : decode cX1_takeSecond 52 = .ok (.ireturn, 1) := by decide +kernel
theorem dX1_withDigit_0 : decode cX1_withDigit 0 = .ok (.iload_n 1, 1) := by decide +kernel
theorem dX1_withDigit_1 : decode cX1_withDigit 1 = .ok (.bipush 48, 2) := by decide +kernel
theorem dX1_withDigit_3 : decode cX1_withDigit 3 = .ok (.if_icmp .lt 13, 3) := by decide +kernel
theorem dX1_withDigit_6 : decode cX1_withDigit 6 = .ok (.iload_n 1, 1) := by decide +kernel
theorem dX1_withDigit_7 : decode cX1_withDigit 7 = .ok (.bipush 57, 2) := by decide +kernel
theorem dX1_withDigit_9 : decode cX1_withDigit 9 = .ok (.if_icmp .gt 7, 3) := by decide +kernel
theorem dX1_withDigit_12 : decode cX1_withDigit 12 = .ok (.iload_n 0, 1) := by decide +kernel
theorem dX1_withDigit_13 : decode cX1_withDigit 13 = .ok (.ifCond .ne 5, 3) := by decide +kernel
theorem dX1_withDigit_16 : decode cX1_withDigit 16 = .ok (.iconst (-1), 1) := by decide +kernel
theorem dX1_withDigit_17 : decode cX1_withDigit 17 = .ok (.ireturn, 1) := by decide +kernel
theorem dX1_withDigit_18 : decode cX1_withDigit 18 = .ok (.iload_n 0, 1) := by decide +kernel
theorem dX1_withDigit_19 : decode cX1_withDigit 19 = .ok (.iconst (-1), 1) := by decide +kernel
theorem dX1_withDigit_20 : decode cX1_withDigit 20 = .ok (.if_icmp .ne 7, 3) := by decide +kernel
theorem dX1_withDigit_23 : decode cX1_withDigit 23 = .ok (.iconst 0, 1) := by decide +kernel
theorem dX1_withDigit_24 : decode cX1_withDigit 24 = .ok (.goto 7, 3) := by decide +kernel
theorem dX1_withDigit_27 : decode cX1_withDigit 27 = .ok (.iload_n 0, 1) := by decide +kernel
theorem dX1_withDigit_28 : decode cX1_withDigit 28 = .ok (.bipush 10, 2) := by decide +kernel
theorem dX1_withDigit_30 : decode cX1_withDigit 30 = .ok (.imul, 1) := by decide +kernel
theorem dX1_withDigit_31 : decode cX1_withDigit 31 = .ok (.iload_n 1, 1) := by decide +kernel
theorem dX1_withDigit_32 : decode cX1_withDigit 32 = .ok (.iadd, 1) := by decide +kernel
theorem dX1_withDigit_33 : decode cX1_withDigit 33 = .ok (.bipush 48, 2) := by decide +kernel
theorem dX1_withDigit_35 : decode cX1_withDigit 35 = .ok (.isub, 1) := by decide +kernel
theorem dX1_withDigit_36 : decode cX1_withDigit 36 = .ok (.istore_n 3, 1) := by decide +kernel
theorem dX1_withDigit_37 : decode cX1_withDigit 37 = .ok (.iload_n 3, 1) := by decide +kernel
theorem dX1_withDigit_38 : decode cX1_withDigit 38 = .ok (.iload_n 2, 1) := by decide +kernel
theorem dX1_withDigit_39 : decode cX1_withDigit 39 = .ok (.if_icmp .gt 7, 3) := by decide +kernel
theorem dX1_withDigit_42 : decode cX1_withDigit 42 = .ok (.iload_n 3, 1) := by decide +kernel
theorem dX1_withDigit_43 : decode cX1_withDigit 43 = .ok (.goto 4, 3) := by decide +kernel
theorem dX1_withDigit_46 : decode cX1_withDigit 46 = .ok (.iconst (-1), 1) := by decide +kernel
theorem dX1_withDigit_47 : decode cX1_withDigit 47 = .ok (.ireturn, 1) := by decide +kernel
theorem dX2_init_0 : decode cX2_init 0 = .ok (.aload_n 0, 1) := by decide +kernel
theorem dX2_init_1 : decode cX2_init 1 = .ok (.invokespecial 3, 3) := by decide +kernel
theorem dX2_init_4 : decode cX2_init 4 = .ok (.aload_n 0, 1) := by decide +kernel
theorem dX2_init_5 : decode cX2_init 5 = .ok (.bipush 10, 2) := by decide +kernel
theorem dX2_init_7 : decode cX2_init 7 = .ok (.newarray .int, 2) := by decide +kernel
theorem dX2_init_9 : decode cX2_init 9 = .ok (.putfield 9, 3) := by decide +kernel
theorem dX2_init_12 : decode cX2_init 12 = .ok (.aload_n 0, 1) := by decide +kernel
theorem dX2_init_13 : decode cX2_init 13 = .ok (.bipush 15, 2) := by decide +kernel
theorem dX2_init_15 : decode cX2_init 15 = .ok (.newarray .int, 2) := by decide +kernel
theorem dX2_init_17 : decode cX2_init 17 = .ok (.putfield 15, 3) := by decide +kernel
theorem dX2_init_20 : decode cX2_init 20 = .ok (.return_, 1) := by decide +kernel
theorem dX2_of_0 : decode cX2_of 0 = .ok (.aload_n 0, 1) := by decide +kernel
theorem dX2_of_1 : decode cX2_of 1 = .ok (.getfield 9, 3) := by decide +kernel
theorem dX2_of_4 : decode cX2_of 4 = .ok (.iload_n 1, 1) := by decide +kernel
theorem dX2_of_5 : decode cX2_of 5 = .ok (.invokestatic 18, 3) := by decide +kernel
theorem dX2_of_8 : decode cX2_of 8 = .ok (.ireturn, 1) := by decide +kernel
theorem dX2_edits_0 : decode cX2_edits 0 = .ok (.aload_n 0, 1) := by decide +kernel
theorem dX2_edits_1 : decode cX2_edits 1 = .ok (.iload_n 1, 1) := by decide +kernel
theorem dX2_edits_2 : decode cX2_edits 2 = .ok (.invokevirtual 22, 3) := by decide +kernel
theorem dX2_edits_5 : decode cX2_edits 5 = .ok (.iconst 1, 1) := by decide +kernel
theorem dX2_edits_6 : decode cX2_edits 6 = .ok (.iand, 1) := by decide +kernel
theorem dX2_edits_7 : decode cX2_edits 7 = .ok (.ifCond .eq 7, 3) := by decide +kernel
theorem dX2_edits_10 : decode cX2_edits 10 = .ok (.iconst 1, 1) := by decide +kernel
theorem dX2_edits_11 : decode cX2_edits 11 = .ok (.goto 4, 3) := by decide +kernel
theorem dX2_edits_14 : decode cX2_edits 14 = .ok (.iconst 0, 1) := by decide +kernel
theorem dX2_edits_15 : decode cX2_edits 15 = .ok (.ireturn, 1) := by decide +kernel
theorem dX2_moved_0 : decode cX2_moved 0 = .ok (.aload_n 0, 1) := by decide +kernel
theorem dX2_moved_1 : decode cX2_moved 1 = .ok (.iload_n 1, 1) := by decide +kernel
theorem dX2_moved_2 : decode cX2_moved 2 = .ok (.invokevirtual 22, 3) := by decide +kernel
theorem dX2_moved_5 : decode cX2_moved 5 = .ok (.iconst 2, 1) := by decide +kernel
theorem dX2_moved_6 : decode cX2_moved 6 = .ok (.iand, 1) := by decide +kernel
theorem dX2_moved_7 : decode cX2_moved 7 = .ok (.ifCond .eq 7, 3) := by decide +kernel
theorem dX2_moved_10 : decode cX2_moved 10 = .ok (.iconst 1, 1) := by decide +kernel
theorem dX2_moved_11 : decode cX2_moved 11 = .ok (.goto 4, 3) := by decide +kernel
theorem dX2_moved_14 : decode cX2_moved 14 = .ok (.iconst 0, 1) := by decide +kernel
theorem dX2_moved_15 : decode cX2_moved 15 = .ok (.ireturn, 1) := by decide +kernel
theorem dX2_removes_0 : decode cX2_removes 0 = .ok (.aload_n 0, 1) := by decide +kernel
theorem dX2_removes_1 : decode cX2_removes 1 = .ok (.iload_n 1, 1) := by decide +kernel
theorem dX2_removes_2 : decode cX2_removes 2 = .ok (.invokevirtual 22, 3) := by decide +kernel
theorem dX2_removes_5 : decode cX2_removes 5 = .ok (.iconst 4, 1) := by decide +kernel
theorem dX2_removes_6 : decode cX2_removes 6 = .ok (.if_icmp .ne 7, 3) := by decide +kernel
theorem dX2_removes_9 : decode cX2_removes 9 = .ok (.iconst 1, 1) := by decide +kernel
theorem dX2_removes_10 : decode cX2_removes 10 = .ok (.goto 4, 3) := by decide +kernel
theorem dX2_removes_13 : decode cX2_removes 13 = .ok (.iconst 0, 1) := by decide +kernel
theorem dX2_removes_14 : decode cX2_removes 14 = .ok (.ireturn, 1) := by decide +kernel
theorem dX2_countMoved_0 : decode cX2_countMoved 0 = .ok (.iconst 0, 1) := by decide +kernel
theorem dX2_countMoved_1 : decode cX2_countMoved 1 = .ok (.istore_n 2, 1) := by decide +kernel
theorem dX2_countMoved_2 : decode cX2_countMoved 2 = .ok (.iconst 0, 1) := by decide +kernel
theorem dX2_countMoved_3 : decode cX2_countMoved 3 = .ok (.istore_n 3, 1) := by decide +kernel
theorem dX2_countMoved_4 : decode cX2_countMoved 4 = .ok (.iload_n 3, 1) := by decide +kernel
theorem dX2_countMoved_5 : decode cX2_countMoved 5 = .ok (.iload_n 1, 1) := by decide +kernel
theorem dX2_countMoved_6 : decode cX2_countMoved 6 = .ok (.if_icmp .ge 25, 3) := by decide +kernel
theorem dX2_countMoved_9 : decode cX2_countMoved 9 = .ok (.iload_n 2, 1) := by decide +kernel
theorem dX2_countMoved_10 : decode cX2_countMoved 10 = .ok (.aload_n 0, 1) := by decide +kernel
theorem dX2_countMoved_11 : decode cX2_countMoved 11 = .ok (.iload_n 3, 1) := by decide +kernel
theorem dX2_countMoved_12 : decode cX2_countMoved 12 = .ok (.invokevirtual 26, 3) := by decide +kernel
theorem dX2_countMoved_15 : decode cX2_countMoved 15 = .ok (.ifCond .eq 7, 3) := by decide +kernel
theorem dX2_countMoved_18 : decode cX2_countMoved 18 = .ok (.iconst 1, 1) := by decide +kernel
theorem dX2_countMoved_19 : decode cX2_countMoved 19 = .ok (.goto 4, 3) := by decide +kernel
theorem dX2_countMoved_22 : decode cX2_countMoved 22 = .ok (.iconst 0, 1) := by decide +kernel
theorem dX2_countMoved_23 : decode cX2_countMoved 23 = .ok (.iadd, 1) := by decide +kernel
theorem dX2_countMoved_24 : decode cX2_countMoved 24 = .ok (.istore_n 2, 1) := by decide +kernel
theorem dX2_countMoved_25 : decode cX2_countMoved 25 = .ok (.iinc 3 1, 3) := by decide +kernel
theorem dX2_countMoved_28 : decode cX2_countMoved 28 = .ok (.goto (-24), 3) := by decide +kernel
theorem dX2_countMoved_31 : decode cX2_countMoved 31 = .ok (.iload_n 2, 1) := by decide +kernel
theorem dX2_countMoved_32 : decode cX2_countMoved 32 = .ok (.ireturn, 1) := by decide +kernel
theorem dX2_compare_0 : decode cX2_compare 0 = .ok (.iconst 0, 1) := by decide +kernel
theorem dX2_compare_1 : decode cX2_compare 1 = .ok (.istore_n 3, 1) := by decide +kernel
theorem dX2_compare_2 : decode cX2_compare 2 = .ok (.iload_n 3, 1) := by decide +kernel
theorem dX2_compare_3 : decode cX2_compare 3 = .ok (.aload_n 1, 1) := by decide +kernel
theorem dX2_compare_4 : decode cX2_compare 4 = .ok (.getfield 30, 3) := by decide +kernel
theorem dX2_compare_7 : decode cX2_compare 7 = .ok (.if_icmp .ge 23, 3) := by decide +kernel
theorem dX2_compare_10 : decode cX2_compare 10 = .ok (.aload_n 0, 1) := by decide +kernel
theorem dX2_compare_11 : decode cX2_compare 11 = .ok (.getfield 9, 3) := by decide +kernel
theorem dX2_compare_14 : decode cX2_compare 14 = .ok (.iload_n 3, 1) := by decide +kernel
theorem dX2_compare_15 : decode cX2_compare 15 = .ok (.iload_n 3, 1) := by decide +kernel
theorem dX2_compare_16 : decode cX2_compare 16 = .ok (.aload_n 1, 1) := by decide +kernel
theorem dX2_compare_17 : decode cX2_compare 17 = .ok (.aload_n 2, 1) := by decide +kernel
theorem dX2_compare_18 : decode cX2_compare 18 = .ok (.invokestatic 36, 3) := by decide +kernel
theorem dX2_compare_21 : decode cX2_compare 21 = .ok (.invokestatic 40, 3) := by decide +kernel
theorem dX2_compare_24 : decode cX2_compare 24 = .ok (.iinc 3 1, 3) := by decide +kernel
theorem dX2_compare_27 : decode cX2_compare 27 = .ok (.goto (-25), 3) := by decide +kernel
theorem dX2_compare_30 : decode cX2_compare 30 = .ok (.aload_n 0, 1) := by decide +kernel
theorem dX2_compare_31 : decode cX2_compare 31 = .ok (.aload_n 1, 1) := by decide +kernel
theorem dX2_compare_32 : decode cX2_compare 32 = .ok (.getfield 30, 3) := by decide +kernel
theorem dX2_compare_35 : decode cX2_compare 35 = .ok (.aload_n 2, 1) := by decide +kernel
theorem dX2_compare_36 : decode cX2_compare 36 = .ok (.invokevirtual 44, 3) := by decide +kernel
theorem dX2_compare_39 : decode cX2_compare 39 = .ok (.istore_n 3, 1) := by decide +kernel
theorem dX2_compare_40 : decode cX2_compare 40 = .ok (.aload_n 0, 1) := by decide +kernel
theorem dX2_compare_41 : decode cX2_compare 41 = .ok (.iload_n 3, 1) := by decide +kernel
theorem dX2_compare_42 : decode cX2_compare 42 = .ok (.aload_n 1, 1) := by decide +kernel
theorem dX2_compare_43 : decode cX2_compare 43 = .ok (.getfield 30, 3) := by decide +kernel
theorem dX2_compare_46 : decode cX2_compare 46 = .ok (.aload_n 2, 1) := by decide +kernel
theorem dX2_compare_47 : decode cX2_compare 47 = .ok (.invokevirtual 48, 3) := by decide +kernel
theorem dX2_compare_50 : decode cX2_compare 50 = .ok (.return_, 1) := by decide +kernel
theorem dX2_changeUnlessKept_0 : decode cX2_changeUnlessKept 0 = .ok (.aload_n 2, 1) := by decide +kernel
theorem dX2_changeUnlessKept_1 : decode cX2_changeUnlessKept 1 = .ok (.iload_n 0, 1) := by decide +kernel
theorem dX2_changeUnlessKept_2 : decode cX2_changeUnlessKept 2 = .ok (.invokevirtual 52, 3) := by decide +kernel
theorem dX2_changeUnlessKept_5 : decode cX2_changeUnlessKept 5 = .ok (.istore_n 3, 1) := by decide +kernel
theorem dX2_changeUnlessKept_6 : decode cX2_changeUnlessKept 6 = .ok (.iload_n 3, 1) := by decide +kernel
theorem dX2_changeUnlessKept_7 : decode cX2_changeUnlessKept 7 = .ok (.iconst (-1), 1) := by decide +kernel
theorem dX2_changeUnlessKept_8 : decode cX2_changeUnlessKept 8 = .ok (.if_icmp .ne 5, 3) := by decide +kernel
theorem dX2_changeUnlessKept_11 : decode cX2_changeUnlessKept 11 = .ok (.iconst 4, 1) := by decide +kernel
theorem dX2_changeUnlessKept_12 : decode cX2_changeUnlessKept 12 = .ok (.ireturn, 1) := by decide +kernel
theorem dX2_changeUnlessKept_13 : decode cX2_changeUnlessKept 13 = .ok (.aload_n 2, 1) := by decide +kernel
theorem dX2_changeUnlessKept_14 : decode cX2_changeUnlessKept 14 = .ok (.iload_n 3, 1) := by decide +kernel
theorem dX2_changeUnlessKept_15 : decode cX2_changeUnlessKept 15 = .ok (.invokevirtual 55, 3) := by decide +kernel
theorem dX2_changeUnlessKept_18 : decode cX2_changeUnlessKept 18 = .ok (.aload_n 1, 1) := by decide +kernel
theorem dX2_changeUnlessKept_19 : decode cX2_changeUnlessKept 19 = .ok (.iload_n 0, 1) := by decide +kernel
theorem dX2_changeUnlessKept_20 : decode cX2_changeUnlessKept 20 = .ok (.invokevirtual 55, 3) := by decide +kernel
theorem dX2_changeUnlessKept_23 : decode cX2_changeUnlessKept 23 = .ok (.if_icmp .ne 7, 3) := by decide +kernel
theorem dX2_changeUnlessKept_26 : decode cX2_changeUnlessKept 26 = .ok (.iconst 2, 1) := by decide +kernel
theorem dX2_changeUnlessKept_27 : decode cX2_changeUnlessKept 27 = .ok (.goto 4, 3) := by decide +kernel
theorem dX2_changeUnlessKept_30 : decode cX2_changeUnlessKept 30 = .ok (.iconst 3, 1) := by decide +kernel
theorem dX2_changeUnlessKept_31 : decode cX2_changeUnlessKept 31 = .ok (.ireturn, 1) := by decide +kernel
theorem dX2_measureAscending_0 : decode cX2_measureAscending 0 = .ok (.iconst 0, 1) := by decide +kernel
theorem dX2_measureAscending_1 : decode cX2_measureAscending 1 = .ok (.istore_n 3, 1) := by decide +kernel
theorem dX2_measureAscending_2 : decode cX2_measureAscending 2 = .ok (.aload_n 2, 1) := by decide +kernel
theorem dX2_measureAscending_3 : decode cX2_measureAscending 3 = .ok (.getfield 30, 3) := by decide +kernel
theorem dX2_measureAscending_6 : decode cX2_measureAscending 6 = .ok (.iconst 1, 1) := by decide +kernel
theorem dX2_measureAscending_7 : decode cX2_measureAscending 7 = .ok (.isub, 1) := by decide +kernel
theorem dX2_measureAscending_8 : decode cX2_measureAscending 8 = .ok (.istore 4, 2) := by decide +kernel
theorem dX2_measureAscending_10 : decode cX2_measureAscending 10 = .ok (.iload 4, 2) := by decide +kernel
theorem dX2_measureAscending_12 : decode cX2_measureAscending 12 = .ok (.ifCond .lt 37, 3) := by decide +kernel
theorem dX2_measureAscending_15 : decode cX2_measureAscending 15 = .ok (.aload_n 0, 1) := by decide +kernel
theorem dX2_measureAscending_16 : decode cX2_measureAscending 16 = .ok (.iload 4, 2) := by decide +kernel
theorem dX2_measureAscending_18 : decode cX2_measureAscending 18 = .ok (.iload_n 1, 1) := by decide +kernel
theorem dX2_measureAscending_19 : decode cX2_measureAscending 19 = .ok (.aload_n 2, 1) := by decide +kernel
theorem dX2_measureAscending_20 : decode cX2_measureAscending 20 = .ok (.invokevirtual 58, 3) := by decide +kernel
theorem dX2_measureAscending_23 : decode cX2_measureAscending 23 = .ok (.istore 5, 2) := by decide +kernel
theorem dX2_measureAscending_25 : decode cX2_measureAscending 25 = .ok (.aload_n 0, 1) := by decide +kernel
theorem dX2_measureAscending_26 : decode cX2_measureAscending 26 = .ok (.getfield 15, 3) := by decide +kernel
theorem dX2_measureAscending_29 : decode cX2_measureAscending 29 = .ok (.iload 4, 2) := by decide +kernel
theorem dX2_measureAscending_31 : decode cX2_measureAscending 31 = .ok (.iload 5, 2) := by decide +kernel
theorem dX2_measureAscending_33 : decode cX2_measureAscending 33 = .ok (.invokestatic 40, 3) := by decide +kernel
theorem dX2_measureAscending_36 : decode cX2_measureAscending 36 = .ok (.iload_n 3, 1) := by decide +kernel
theorem dX2_measureAscending_37 : decode cX2_measureAscending 37 = .ok (.iload 5, 2) := by decide +kernel
theorem dX2_measureAscending_39 : decode cX2_measureAscending 39 = .ok (.invokestatic 62, 3) := by decide +kernel
theorem dX2_measureAscending_42 : decode cX2_measureAscending 42 = .ok (.istore_n 3, 1) := by decide +kernel
theorem dX2_measureAscending_43 : decode cX2_measureAscending 43 = .ok (.iinc 4 (-1), 3) := by decide +kernel
theorem dX2_measureAscending_46 : decode cX2_measureAscending 46 = .ok (.goto (-36), 3) := by decide +kernel
theorem dX2_measureAscending_49 : decode cX2_measureAscending 49 = .ok (.iload_n 3, 1) := by decide +kernel
theorem dX2_measureAscending_50 : decode cX2_measureAscending 50 = .ok (.ireturn, 1) := by decide +kernel
theorem dX2_lengthFrom_0 : decode cX2_lengthFrom 0 = .ok (.aload_n 3, 1) := by decide +kernel
theorem dX2_lengthFrom_1 : decode cX2_lengthFrom 1 = .ok (.iload_n 1, 1) := by decide +kernel
theorem dX2_lengthFrom_2 : decode cX2_lengthFrom 2 = .ok (.invokevirtual 68, 3) := by decide +kernel
theorem dX2_lengthFrom_5 : decode cX2_lengthFrom 5 = .ok (.istore 4, 2) := by decide +kernel
theorem dX2_lengthFrom_7 : decode cX2_lengthFrom 7 = .ok (.iload 4, 2) := by decide +kernel
theorem dX2_lengthFrom_9 : decode cX2_lengthFrom 9 = .ok (.iload_n 2, 1) := by decide +kernel
theorem dX2_lengthFrom_10 : decode cX2_lengthFrom 10 = .ok (.if_icmp .lt 5, 3) := by decide +kernel
theorem dX2_lengthFrom_13 : decode cX2_lengthFrom 13 = .ok (.iconst 0, 1) := by decide +kernel
theorem dX2_lengthFrom_14 : decode cX2_lengthFrom 14 = .ok (.ireturn, 1) := by decide +kernel
theorem dX2_lengthFrom_15 : decode cX2_lengthFrom 15 = .ok (.iconst 0, 1) := by decide +kernel
theorem dX2_lengthFrom_16 : decode cX2_lengthFrom 16 = .ok (.istore 5, 2) := by decide +kernel
theorem dX2_lengthFrom_18 : decode cX2_lengthFrom 18 = .ok (.iload_n 1, 1) := by decide +kernel
theorem dX2_lengthFrom_19 : decode cX2_lengthFrom 19 = .ok (.iconst 1, 1) := by decide +kernel
theorem dX2_lengthFrom_20 : decode cX2_lengthFrom 20 = .ok (.iadd, 1) := by decide +kernel
theorem dX2_lengthFrom_21 : decode cX2_lengthFrom 21 = .ok (.istore 6, 2) := by decide +kernel
theorem dX2_lengthFrom_23 : decode cX2_lengthFrom 23 = .ok (.iload 6, 2) := by decide +kernel
theorem dX2_lengthFrom_25 : decode cX2_lengthFrom 25 = .ok (.aload_n 3, 1) := by decide +kernel
theorem dX2_lengthFrom_26 : decode cX2_lengthFrom 26 = .ok (.getfield 30, 3) := by decide +kernel
theorem dX2_lengthFrom_29 : decode cX2_lengthFrom 29 = .ok (.if_icmp .ge 36, 3) := by decide +kernel
theorem dX2_lengthFrom_32 : decode cX2_lengthFrom 32 = .ok (.aload_n 3, 1) := by decide +kernel
theorem dX2_lengthFrom_33 : decode cX2_lengthFrom 33 = .ok (.iload 6, 2) := by decide +kernel
theorem dX2_lengthFrom_35 : decode cX2_lengthFrom 35 = .ok (.invokevirtual 68, 3) := by decide +kernel
theorem dX2_lengthFrom_38 : decode cX2_lengthFrom 38 = .ok (.iload 4, 2) := by decide +kernel
theorem dX2_lengthFrom_40 : decode cX2_lengthFrom 40 = .ok (.if_icmp .le 19, 3) := by decide +kernel
theorem dX2_lengthFrom_43 : decode cX2_lengthFrom 43 = .ok (.iload 5, 2) := by decide +kernel
theorem dX2_lengthFrom_45 : decode cX2_lengthFrom 45 = .ok (.aload_n 0, 1) := by decide +kernel
theorem dX2_lengthFrom_46 : decode cX2_lengthFrom 46 = .ok (.getfield 15, 3) := by decide +kernel
theorem dX2_lengthFrom_49 : decode cX2_lengthFrom 49 = .ok (.iload 6, 2) := by decide +kernel
theorem dX2_lengthFrom_51 : decode cX2_lengthFrom 51 = .ok (.invokestatic 18, 3) := by decide +kernel
theorem dX2_lengthFrom_54 : decode cX2_lengthFrom 54 = .ok (.invokestatic 62, 3) := by decide +kernel
theorem dX2_lengthFrom_57 : decode cX2_lengthFrom 57 = .ok (.istore 5, 2) := by decide +kernel
theorem dX2_lengthFrom_59 : decode cX2_lengthFrom 59 = .ok (.iinc 6 1, 3) := by decide +kernel
theorem dX2_lengthFrom_62 : decode cX2_lengthFrom 62 = .ok (.goto (-39), 3) := by decide +kernel
theorem dX2_lengthFrom_65 : decode cX2_lengthFrom 65 = .ok (.iload 5, 2) := by decide +kernel
theorem dX2_lengthFrom_67 : decode cX2_lengthFrom 67 = .ok (.iconst 1, 1) := by decide +kernel
theorem dX2_lengthFrom_68 : decode cX2_lengthFrom 68 = .ok (.iadd, 1) := by decide +kernel
theorem dX2_lengthFrom_69 : decode cX2_lengthFrom 69 = .ok (.ireturn, 1) := by decide +kernel
theorem dX2_markKept_0 : decode cX2_markKept 0 = .ok (.iconst (-1), 1) := by decide +kernel
theorem dX2_markKept_1 : decode cX2_markKept 1 = .ok (.istore 4, 2) := by decide +kernel
theorem dX2_markKept_3 : decode cX2_markKept 3 = .ok (.iconst 0, 1) := by decide +kernel
theorem dX2_markKept_4 : decode cX2_markKept 4 = .ok (.istore 5, 2) := by decide +kernel
theorem dX2_markKept_6 : decode cX2_markKept 6 = .ok (.iload_n 1, 1) := by decide +kernel
theorem dX2_markKept_7 : decode cX2_markKept 7 = .ok (.istore 6, 2) := by decide +kernel
theorem dX2_markKept_9 : decode cX2_markKept 9 = .ok (.iload 6, 2) := by decide +kernel
theorem dX2_markKept_11 : decode cX2_markKept 11 = .ok (.ifCond .le 54, 3) := by decide +kernel
theorem dX2_markKept_14 : decode cX2_markKept 14 = .ok (.aload_n 0, 1) := by decide +kernel
theorem dX2_markKept_15 : decode cX2_markKept 15 = .ok (.iload 6, 2) := by decide +kernel
theorem dX2_markKept_17 : decode cX2_markKept 17 = .ok (.iload 4, 2) := by decide +kernel
theorem dX2_markKept_19 : decode cX2_markKept 19 = .ok (.iload 5, 2) := by decide +kernel
theorem dX2_markKept_21 : decode cX2_markKept 21 = .ok (.aload_n 3, 1) := by decide +kernel
theorem dX2_markKept_22 : decode cX2_markKept 22 = .ok (.invokevirtual 71, 3) := by decide +kernel
theorem dX2_markKept_25 : decode cX2_markKept 25 = .ok (.istore 7, 2) := by decide +kernel
theorem dX2_markKept_27 : decode cX2_markKept 27 = .ok (.aload_n 3, 1) := by decide +kernel
theorem dX2_markKept_28 : decode cX2_markKept 28 = .ok (.iload 7, 2) := by decide +kernel
theorem dX2_markKept_30 : decode cX2_markKept 30 = .ok (.invokevirtual 68, 3) := by decide +kernel
theorem dX2_markKept_33 : decode cX2_markKept 33 = .ok (.istore 4, 2) := by decide +kernel
theorem dX2_markKept_35 : decode cX2_markKept 35 = .ok (.iload 7, 2) := by decide +kernel
theorem dX2_markKept_37 : decode cX2_markKept 37 = .ok (.iconst 1, 1) := by decide +kernel
theorem dX2_markKept_38 : decode cX2_markKept 38 = .ok (.iadd, 1) := by decide +kernel
theorem dX2_markKept_39 : decode cX2_markKept 39 = .ok (.istore 5, 2) := by decide +kernel
theorem dX2_markKept_41 : decode cX2_markKept 41 = .ok (.aload_n 0, 1) := by decide +kernel
theorem dX2_markKept_42 : decode cX2_markKept 42 = .ok (.getfield 9, 3) := by decide +kernel
theorem dX2_markKept_45 : decode cX2_markKept 45 = .ok (.iload 4, 2) := by decide +kernel
theorem dX2_markKept_47 : decode cX2_markKept 47 = .ok (.aload_n 0, 1) := by decide +kernel
theorem dX2_markKept_48 : decode cX2_markKept 48 = .ok (.iload 4, 2) := by decide +kernel
theorem dX2_markKept_50 : decode cX2_markKept 50 = .ok (.invokevirtual 22, 3) := by decide +kernel
theorem dX2_markKept_53 : decode cX2_markKept 53 = .ok (.bipush (-3), 2) := by decide +kernel
theorem dX2_markKept_55 : decode cX2_markKept 55 = .ok (.iand, 1) := by decide +kernel
theorem dX2_markKept_56 : decode cX2_markKept 56 = .ok (.invokestatic 40, 3) := by decide +kernel
theorem dX2_markKept_59 : decode cX2_markKept 59 = .ok (.iinc 6 (-1), 3) := by decide +kernel
theorem dX2_markKept_62 : decode cX2_markKept 62 = .ok (.goto (-53), 3) := by decide +kernel
theorem dX2_markKept_65 : decode cX2_markKept 65 = .ok (.return_, 1) := by decide +kernel
theorem dX2_leastStart_0 : decode cX2_leastStart 0 = .ok (.iconst (-1), 1) := by decide +kernel
theorem dX2_leastStart_1 : decode cX2_leastStart 1 = .ok (.istore 5, 2) := by decide +kernel
theorem dX2_leastStart_3 : decode cX2_leastStart 3 = .ok (.iload_n 3, 1) := by decide +kernel
theorem dX2_leastStart_4 : decode cX2_leastStart 4 = .ok (.istore 6, 2) := by decide +kernel
theorem dX2_leastStart_6 : decode cX2_leastStart 6 = .ok (.iload 6, 2) := by decide +kernel
theorem dX2_leastStart_8 : decode cX2_leastStart 8 = .ok (.aload 4, 2) := by decide +kernel
theorem dX2_leastStart_10 : decode cX2_leastStart 10 = .ok (.getfield 30, 3) := by decide +kernel
theorem dX2_leastStart_13 : decode cX2_leastStart 13 = .ok (.if_icmp .ge 59, 3) := by decide +kernel
theorem dX2_leastStart_16 : decode cX2_leastStart 16 = .ok (.aload 4, 2) := by decide +kernel
theorem dX2_leastStart_18 : decode cX2_leastStart 18 = .ok (.iload 6, 2) := by decide +kernel
theorem dX2_leastStart_20 : decode cX2_leastStart 20 = .ok (.invokevirtual 68, 3) := by decide +kernel
theorem dX2_leastStart_23 : decode cX2_leastStart 23 = .ok (.istore 7, 2) := by decide +kernel
theorem dX2_leastStart_25 : decode cX2_leastStart 25 = .ok (.aload_n 0, 1) := by decide +kernel
theorem dX2_leastStart_26 : decode cX2_leastStart 26 = .ok (.getfield 15, 3) := by decide +kernel
theorem dX2_leastStart_29 : decode cX2_leastStart 29 = .ok (.iload 6, 2) := by decide +kernel
theorem dX2_leastStart_31 : decode cX2_leastStart 31 = .ok (.invokestatic 18, 3) := by decide +kernel
theorem dX2_leastStart_34 : decode cX2_leastStart 34 = .ok (.iload_n 1, 1) := by decide +kernel
theorem dX2_leastStart_35 : decode cX2_leastStart 35 = .ok (.if_icmp .ne 31, 3) := by decide +kernel
theorem dX2_leastStart_38 : decode cX2_leastStart 38 = .ok (.iload 7, 2) := by decide +kernel
theorem dX2_leastStart_40 : decode cX2_leastStart 40 = .ok (.iload_n 2, 1) := by decide +kernel
theorem dX2_leastStart_41 : decode cX2_leastStart 41 = .ok (.if_icmp .le 25, 3) := by decide +kernel
theorem dX2_leastStart_44 : decode cX2_leastStart 44 = .ok (.iload 5, 2) := by decide +kernel
theorem dX2_leastStart_46 : decode cX2_leastStart 46 = .ok (.iconst (-1), 1) := by decide +kernel
theorem dX2_leastStart_47 : decode cX2_leastStart 47 = .ok (.if_icmp .eq 15, 3) := by decide +kernel
theorem dX2_leastStart_50 : decode cX2_leastStart 50 = .ok (.iload 7, 2) := by decide +kernel
theorem dX2_leastStart_52 : decode cX2_leastStart 52 = .ok (.aload 4, 2) := by decide +kernel
theorem dX2_leastStart_54 : decode cX2_leastStart 54 = .ok (.iload 5, 2) := by decide +kernel
theorem dX2_leastStart_56 : decode cX2_leastStart 56 = .ok (.invokevirtual 68, 3) := by decide +kernel
theorem dX2_leastStart_59 : decode cX2_leastStart 59 = .ok (.if_icmp .ge 7, 3) := by decide +kernel
theorem dX2_leastStart_62 : decode cX2_leastStart 62 = .ok (.iload 6, 2) := by decide +kernel
theorem dX2_leastStart_64 : decode cX2_leastStart 64 = .ok (.istore 5, 2) := by decide +kernel
theorem dX2_leastStart_66 : decode cX2_leastStart 66 = .ok (.iinc 6 1, 3) := by decide +kernel
theorem dX2_leastStart_69 : decode cX2_leastStart 69 = .ok (.goto (-63), 3) := by decide +kernel
theorem dX2_leastStart_72 : decode cX2_leastStart 72 = .ok (.iload 5, 2) := by decide +kernel
theorem dX2_leastStart_74 : decode cX2_leastStart 74 = .ok (.ireturn, 1) := by decide +kernel
theorem dX3_init_0 : decode cX3_init 0 = .ok (.aload_n 0, 1) := by decide +kernel
theorem dX3_init_1 : decode cX3_init 1 = .ok (.invokespecial 3, 3) := by decide +kernel
theorem dX3_init_4 : decode cX3_init 4 = .ok (.aload_n 0, 1) := by decide +kernel
theorem dX3_init_5 : decode cX3_init 5 = .ok (.bipush 6, 2) := by decide +kernel
theorem dX3_init_7 : decode cX3_init 7 = .ok (.anewarray 9, 3) := by decide +kernel
theorem dX3_init_10 : decode cX3_init 10 = .ok (.putfield 11, 3) := by decide +kernel
theorem dX3_init_13 : decode cX3_init 13 = .ok (.aload_n 0, 1) := by decide +kernel
theorem dX3_init_14 : decode cX3_init 14 = .ok (.iconst 0, 1) := by decide +kernel
theorem dX3_init_15 : decode cX3_init 15 = .ok (.putfield 17, 3) := by decide +kernel
theorem dX3_init_18 : decode cX3_init 18 = .ok (.aload_n 0, 1) := by decide +kernel
theorem dX3_init_19 : decode cX3_init 19 = .ok (.iconst 0, 1) := by decide +kernel
theorem dX3_init_20 : decode cX3_init 20 = .ok (.putfield 21, 3) := by decide +kernel
theorem dX3_init_23 : decode cX3_init 23 = .ok (.iconst 0, 1) := by decide +kernel
theorem dX3_init_24 : decode cX3_init 24 = .ok (.istore_n 1, 1) := by decide +kernel
theorem dX3_init_25 : decode cX3_init 25 = .ok (.iload_n 1, 1) := by decide +kernel
theorem dX3_init_26 : decode cX3_init 26 = .ok (.aload_n 0, 1) := by decide +kernel
theorem dX3_init_27 : decode cX3_init 27 = .ok (.getfield 11, 3) := by decide +kernel
theorem dX3_init_30 : decode cX3_init 30 = .ok (.arraylength, 1) := by decide +kernel
theorem dX3_init_31 : decode cX3_init 31 = .ok (.if_icmp .ge 22, 3) := by decide +kernel
theorem dX3_init_34 : decode cX3_init 34 = .ok (.aload_n 0, 1) := by decide +kernel
theorem dX3_init_35 : decode cX3_init 35 = .ok (.getfield 11, 3) := by decide +kernel
theorem dX3_init_38 : decode cX3_init 38 = .ok (.iload_n 1, 1) := by decide +kernel
theorem dX3_init_39 : decode cX3_init 39 = .ok (.new 9, 3) := by decide +kernel
theorem dX3_init_42 : decode cX3_init 42 = .ok (.dup, 1) := by decide +kernel
theorem dX3_init_43 : decode cX3_init 43 = .ok (.invokespecial 24, 3) := by decide +kernel
theorem dX3_init_46 : decode cX3_init 46 = .ok (.aastore, 1) := by decide +kernel
theorem dX3_init_47 : decode cX3_init 47 = .ok (.iinc 1 1, 3) := by decide +kernel
theorem dX3_init_50 : decode cX3_init 50 = .ok (.goto (-25), 3) := by decide +kernel
theorem dX3_init_53 : decode cX3_init 53 = .ok (.return_, 1) := by decide +kernel
theorem dX3_keep_0 : decode cX3_keep 0 = .ok (.aload_n 1, 1) := by decide +kernel
theorem dX3_keep_1 : decode cX3_keep 1 = .ok (.aload_n 0, 1) := by decide +kernel
theorem dX3_keep_2 : decode cX3_keep 2 = .ok (.aload_n 0, 1) := by decide +kernel
theorem dX3_keep_3 : decode cX3_keep 3 = .ok (.getfield 17, 3) := by decide +kernel
theorem dX3_keep_6 : decode cX3_keep 6 = .ok (.invokevirtual 25, 3) := by decide +kernel
theorem dX3_keep_9 : decode cX3_keep 9 = .ok (.invokestatic 29, 3) := by decide +kernel
theorem dX3_keep_12 : decode cX3_keep 12 = .ok (.aload_n 0, 1) := by decide +kernel
theorem dX3_keep_13 : decode cX3_keep 13 = .ok (.aload_n 0, 1) := by decide +kernel
theorem dX3_keep_14 : decode cX3_keep 14 = .ok (.getfield 17, 3) := by decide +kernel
theorem dX3_keep_17 : decode cX3_keep 17 = .ok (.iconst 1, 1) := by decide +kernel
theorem dX3_keep_18 : decode cX3_keep 18 = .ok (.iadd, 1) := by decide +kernel
theorem dX3_keep_19 : decode cX3_keep 19 = .ok (.bipush 6, 2) := by decide +kernel
theorem dX3_keep_21 : decode cX3_keep 21 = .ok (.if_icmp .ge 12, 3) := by decide +kernel
theorem dX3_keep_24 : decode cX3_keep 24 = .ok (.aload_n 0, 1) := by decide +kernel
theorem dX3_keep_25 : decode cX3_keep 25 = .ok (.getfield 17, 3) := by decide +kernel
theorem dX3_keep_28 : decode cX3_keep 28 = .ok (.iconst 1, 1) := by decide +kernel
theorem dX3_keep_29 : decode cX3_keep 29 = .ok (.iadd, 1) := by decide +kernel
theorem dX3_keep_30 : decode cX3_keep 30 = .ok (.goto 4, 3) := by decide +kernel
theorem dX3_keep_33 : decode cX3_keep 33 = .ok (.iconst 0, 1) := by decide +kernel
theorem dX3_keep_34 : decode cX3_keep 34 = .ok (.putfield 17, 3) := by decide +kernel
theorem dX3_keep_37 : decode cX3_keep 37 = .ok (.aload_n 0, 1) := by decide +kernel
theorem dX3_keep_38 : decode cX3_keep 38 = .ok (.aload_n 0, 1) := by decide +kernel
theorem dX3_keep_39 : decode cX3_keep 39 = .ok (.getfield 21, 3) := by decide +kernel
theorem dX3_keep_42 : decode cX3_keep 42 = .ok (.bipush 6, 2) := by decide +kernel
theorem dX3_keep_44 : decode cX3_keep 44 = .ok (.if_icmp .ge 12, 3) := by decide +kernel
theorem dX3_keep_47 : decode cX3_keep 47 = .ok (.aload_n 0, 1) := by decide +kernel
theorem dX3_keep_48 : decode cX3_keep 48 = .ok (.getfield 21, 3) := by decide +kernel
theorem dX3_keep_51 : decode cX3_keep 51 = .ok (.iconst 1, 1) := by decide +kernel
theorem dX3_keep_52 : decode cX3_keep 52 = .ok (.iadd, 1) := by decide +kernel
theorem dX3_keep_53 : decode cX3_keep 53 = .ok (.goto 7, 3) := by decide +kernel
theorem dX3_keep_56 : decode cX3_keep 56 = .ok (.aload_n 0, 1) := by decide +kernel
theorem dX3_keep_57 : decode cX3_keep 57 = .ok (.getfield 21, 3) := by decide +kernel
theorem dX3_keep_60 : decode cX3_keep 60 = .ok (.putfield 21, 3) := by decide +kernel
theorem dX3_keep_63 : decode cX3_keep 63 = .ok (.return_, 1) := by decide +kernel
theorem dX3_restoreLast_0 : decode cX3_restoreLast 0 = .ok (.aload_n 0, 1) := by decide +kernel
theorem dX3_restoreLast_1 : decode cX3_restoreLast 1 = .ok (.aload_n 0, 1) := by decide +kernel
theorem dX3_restoreLast_2 : decode cX3_restoreLast 2 = .ok (.getfield 17, 3) := by decide +kernel
theorem dX3_restoreLast_5 : decode cX3_restoreLast 5 = .ok (.ifCond .le 12, 3) := by decide +kernel
theorem dX3_restoreLast_8 : decode cX3_restoreLast 8 = .ok (.aload_n 0, 1) := by decide +kernel
theorem dX3_restoreLast_9 : decode cX3_restoreLast 9 = .ok (.getfield 17, 3) := by decide +kernel
theorem dX3_restoreLast_12 : decode cX3_restoreLast 12 = .ok (.iconst 1, 1) := by decide +kernel
theorem dX3_restoreLast_13 : decode cX3_restoreLast 13 = .ok (.isub, 1) := by decide +kernel
theorem dX3_restoreLast_14 : decode cX3_restoreLast 14 = .ok (.goto 4, 3) := by decide +kernel
theorem dX3_restoreLast_17 : decode cX3_restoreLast 17 = .ok (.iconst 5, 1) := by decide +kernel
theorem dX3_restoreLast_18 : decode cX3_restoreLast 18 = .ok (.putfield 17, 3) := by decide +kernel
theorem dX3_restoreLast_21 : decode cX3_restoreLast 21 = .ok (.aload_n 0, 1) := by decide +kernel
theorem dX3_restoreLast_22 : decode cX3_restoreLast 22 = .ok (.aload_n 0, 1) := by decide +kernel
theorem dX3_restoreLast_23 : decode cX3_restoreLast 23 = .ok (.getfield 21, 3) := by decide +kernel
theorem dX3_restoreLast_26 : decode cX3_restoreLast 26 = .ok (.ifCond .le 12, 3) := by decide +kernel
theorem dX3_restoreLast_29 : decode cX3_restoreLast 29 = .ok (.aload_n 0, 1) := by decide +kernel
theorem dX3_restoreLast_30 : decode cX3_restoreLast 30 = .ok (.getfield 21, 3) := by decide +kernel
theorem dX3_restoreLast_33 : decode cX3_restoreLast 33 = .ok (.iconst 1, 1) := by decide +kernel
theorem dX3_restoreLast_34 : decode cX3_restoreLast 34 = .ok (.isub, 1) := by decide +kernel
theorem dX3_restoreLast_35 : decode cX3_restoreLast 35 = .ok (.goto 4, 3) := by decide +kernel
theorem dX3_restoreLast_38 : decode cX3_restoreLast 38 = .ok (.iconst 0, 1) := by decide +kernel
theorem dX3_restoreLast_39 : decode cX3_restoreLast 39 = .ok (.putfield 21, 3) := by decide +kernel
theorem dX3_restoreLast_42 : decode cX3_restoreLast 42 = .ok (.aload_n 0, 1) := by decide +kernel
theorem dX3_restoreLast_43 : decode cX3_restoreLast 43 = .ok (.aload_n 0, 1) := by decide +kernel
theorem dX3_restoreLast_44 : decode cX3_restoreLast 44 = .ok (.getfield 17, 3) := by decide +kernel
theorem dX3_restoreLast_47 : decode cX3_restoreLast 47 = .ok (.invokevirtual 25, 3) := by decide +kernel
theorem dX3_restoreLast_50 : decode cX3_restoreLast 50 = .ok (.aload_n 1, 1) := by decide +kernel
theorem dX3_restoreLast_51 : decode cX3_restoreLast 51 = .ok (.invokestatic 29, 3) := by decide +kernel
theorem dX3_restoreLast_54 : decode cX3_restoreLast 54 = .ok (.aload_n 0, 1) := by decide +kernel
theorem dX3_restoreLast_55 : decode cX3_restoreLast 55 = .ok (.getfield 21, 3) := by decide +kernel
theorem dX3_restoreLast_58 : decode cX3_restoreLast 58 = .ok (.ireturn, 1) := by decide +kernel
theorem dX3_slot_0 : decode cX3_slot 0 = .ok (.iload_n 1, 1) := by decide +kernel
theorem dX3_slot_1 : decode cX3_slot 1 = .ok (.ifCond .lt 21, 3) := by decide +kernel
theorem dX3_slot_4 : decode cX3_slot 4 = .ok (.iload_n 1, 1) := by decide +kernel
theorem dX3_slot_5 : decode cX3_slot 5 = .ok (.aload_n 0, 1) := by decide +kernel
theorem dX3_slot_6 : decode cX3_slot 6 = .ok (.getfield 11, 3) := by decide +kernel
theorem dX3_slot_9 : decode cX3_slot 9 = .ok (.arraylength, 1) := by decide +kernel
theorem dX3_slot_10 : decode cX3_slot 10 = .ok (.if_icmp .ge 12, 3) := by decide +kernel
theorem dX3_slot_13 : decode cX3_slot 13 = .ok (.aload_n 0, 1) := by decide +kernel
theorem dX3_slot_14 : decode cX3_slot 14 = .ok (.getfield 11, 3) := by decide +kernel
theorem dX3_slot_17 : decode cX3_slot 17 = .ok (.iload_n 1, 1) := by decide +kernel
theorem dX3_slot_18 : decode cX3_slot 18 = .ok (.aaload, 1) := by decide +kernel
theorem dX3_slot_19 : decode cX3_slot 19 = .ok (.goto 4, 3) := by decide +kernel
theorem dX3_slot_22 : decode cX3_slot 22 = .ok (.aconst_null, 1) := by decide +kernel
theorem dX3_slot_23 : decode cX3_slot 23 = .ok (.areturn, 1) := by decide +kernel
theorem dX3_copy_0 : decode cX3_copy 0 = .ok (.aload_n 0, 1) := by decide +kernel
theorem dX3_copy_1 : decode cX3_copy 1 = .ok (.ifnull 12, 3) := by decide +kernel
theorem dX3_copy_4 : decode cX3_copy 4 = .ok (.aload_n 1, 1) := by decide +kernel
theorem dX3_copy_5 : decode cX3_copy 5 = .ok (.ifnull 8, 3) := by decide +kernel
theorem dX3_copy_8 : decode cX3_copy 8 = .ok (.aload_n 1, 1) := by decide +kernel
theorem dX3_copy_9 : decode cX3_copy 9 = .ok (.aload_n 0, 1) := by decide +kernel
theorem dX3_copy_10 : decode cX3_copy 10 = .ok (.invokevirtual 33, 3) := by decide +kernel
theorem dX3_copy_13 : decode cX3_copy 13 = .ok (.return_, 1) := by decide +kernel
theorem dX4_init_0 : decode cX4_init 0 = .ok (.aload_n 0, 1) := by decide +kernel
theorem dX4_init_1 : decode cX4_init 1 = .ok (.invokespecial 3, 3) := by decide +kernel
theorem dX4_init_4 : decode cX4_init 4 = .ok (.aload_n 0, 1) := by decide +kernel
theorem dX4_init_5 : decode cX4_init 5 = .ok (.new 9, 3) := by decide +kernel
theorem dX4_init_8 : decode cX4_init 8 = .ok (.dup, 1) := by decide +kernel
theorem dX4_init_9 : decode cX4_init 9 = .ok (.bipush 30, 2) := by decide +kernel
theorem dX4_init_11 : decode cX4_init 11 = .ok (.newarray .int, 2) := by decide +kernel
theorem dX4_init_13 : decode cX4_init 13 = .ok (.bipush 30, 2) := by decide +kernel
theorem dX4_init_15 : decode cX4_init 15 = .ok (.newarray .int, 2) := by decide +kernel
theorem dX4_init_17 : decode cX4_init 17 = .ok (.invokespecial 11, 3) := by decide +kernel
theorem dX4_init_20 : decode cX4_init 20 = .ok (.putfield 14, 3) := by decide +kernel
theorem dX4_init_23 : decode cX4_init 23 = .ok (.aload_n 0, 1) := by decide +kernel
theorem dX4_init_24 : decode cX4_init 24 = .ok (.new 20, 3) := by decide +kernel
theorem dX4_init_27 : decode cX4_init 27 = .ok (.dup, 1) := by decide +kernel
theorem dX4_init_28 : decode cX4_init 28 = .ok (.invokespecial 22, 3) := by decide +kernel
theorem dX4_init_31 : decode cX4_init 31 = .ok (.putfield 23, 3) := by decide +kernel
theorem dX4_init_34 : decode cX4_init 34 = .ok (.aload_n 0, 1) := by decide +kernel
theorem dX4_init_35 : decode cX4_init 35 = .ok (.new 20, 3) := by decide +kernel
theorem dX4_init_38 : decode cX4_init 38 = .ok (.dup, 1) := by decide +kernel
theorem dX4_init_39 : decode cX4_init 39 = .ok (.invokespecial 22, 3) := by decide +kernel
theorem dX4_init_42 : decode cX4_init 42 = .ok (.putfield 27, 3) := by decide +kernel
theorem dX4_init_45 : decode cX4_init 45 = .ok (.aload_n 0, 1) := by decide +kernel
theorem dX4_init_46 : decode cX4_init 46 = .ok (.bipush 30, 2) := by decide +kernel
theorem dX4_init_48 : decode cX4_init 48 = .ok (.newarray .int, 2) := by decide +kernel
theorem dX4_init_50 : decode cX4_init 50 = .ok (.putfield 30, 3) := by decide +kernel
theorem dX4_init_53 : decode cX4_init 53 = .ok (.aload_n 0, 1) := by decide +kernel
theorem dX4_init_54 : decode cX4_init 54 = .ok (.bipush 30, 2) := by decide +kernel
theorem dX4_init_56 : decode cX4_init 56 = .ok (.newarray .int, 2) := by decide +kernel
theorem dX4_init_58 : decode cX4_init 58 = .ok (.putfield 34, 3) := by decide +kernel
theorem dX4_init_61 : decode cX4_init 61 = .ok (.aload_n 0, 1) := by decide +kernel
theorem dX4_init_62 : decode cX4_init 62 = .ok (.iconst 0, 1) := by decide +kernel
theorem dX4_init_63 : decode cX4_init 63 = .ok (.putfield 37, 3) := by decide +kernel
theorem dX4_init_66 : decode cX4_init 66 = .ok (.aload_n 0, 1) := by decide +kernel
theorem dX4_init_67 : decode cX4_init 67 = .ok (.bipush 10, 2) := by decide +kernel
theorem dX4_init_69 : decode cX4_init 69 = .ok (.newarray .int, 2) := by decide +kernel
theorem dX4_init_71 : decode cX4_init 71 = .ok (.putfield 41, 3) := by decide +kernel
theorem dX4_init_74 : decode cX4_init 74 = .ok (.aload_n 0, 1) := by decide +kernel
theorem dX4_init_75 : decode cX4_init 75 = .ok (.bipush 10, 2) := by decide +kernel
theorem dX4_init_77 : decode cX4_init 77 = .ok (.newarray .int, 2) := by decide +kernel
theorem dX4_init_79 : decode cX4_init 79 = .ok (.putfield 44, 3) := by decide +kernel
theorem dX4_init_82 : decode cX4_init 82 = .ok (.return_, 1) := by decide +kernel
theorem dX4_changesOf_0 : decode cX4_changesOf 0 = .ok (.iload_n 1, 1) := by decide +kernel
theorem dX4_changesOf_1 : decode cX4_changesOf 1 = .ok (.ifCond .ne 10, 3) := by decide +kernel
theorem dX4_changesOf_4 : decode cX4_changesOf 4 = .ok (.aload_n 0, 1) := by decide +kernel
theorem dX4_changesOf_5 : decode cX4_changesOf 5 = .ok (.getfield 23, 3) := by decide +kernel
theorem dX4_changesOf_8 : decode cX4_changesOf 8 = .ok (.goto 7, 3) := by decide +kernel
theorem dX4_changesOf_11 : decode cX4_changesOf 11 = .ok (.aload_n 0, 1) := by decide +kernel
theorem dX4_changesOf_12 : decode cX4_changesOf 12 = .ok (.getfield 27, 3) := by decide +kernel
theorem dX4_changesOf_15 : decode cX4_changesOf 15 = .ok (.areturn, 1) := by decide +kernel
theorem dX4_hasConflict_0 : decode cX4_hasConflict 0 = .ok (.iload_n 1, 1) := by decide +kernel
theorem dX4_hasConflict_1 : decode cX4_hasConflict 1 = .ok (.ifCond .lt 15, 3) := by decide +kernel
theorem dX4_hasConflict_4 : decode cX4_hasConflict 4 = .ok (.iload_n 1, 1) := by decide +kernel
theorem dX4_hasConflict_5 : decode cX4_hasConflict 5 = .ok (.aload_n 0, 1) := by decide +kernel
theorem dX4_hasConflict_6 : decode cX4_hasConflict 6 = .ok (.getfield 37, 3) := by decide +kernel
theorem dX4_hasConflict_9 : decode cX4_hasConflict 9 = .ok (.if_icmp .ge 7, 3) := by decide +kernel
theorem dX4_hasConflict_12 : decode cX4_hasConflict 12 = .ok (.iconst 1, 1) := by decide +kernel
theorem dX4_hasConflict_13 : decode cX4_hasConflict 13 = .ok (.goto 4, 3) := by decide +kernel
theorem dX4_hasConflict_16 : decode cX4_hasConflict 16 = .ok (.iconst 0, 1) := by decide +kernel
theorem dX4_hasConflict_17 : decode cX4_hasConflict 17 = .ok (.ireturn, 1) := by decide +kernel
theorem dX4_blockOfConflict_0 : decode cX4_blockOfConflict 0 = .ok (.aload_n 0, 1) := by decide +kernel
theorem dX4_blockOfConflict_1 : decode cX4_blockOfConflict 1 = .ok (.getfield 30, 3) := by decide +kernel
theorem dX4_blockOfConflict_4 : decode cX4_blockOfConflict 4 = .ok (.iload_n 1, 1) := by decide +kernel
theorem dX4_blockOfConflict_5 : decode cX4_blockOfConflict 5 = .ok (.invokestatic 47, 3) := by decide +kernel
theorem dX4_blockOfConflict_8 : decode cX4_blockOfConflict 8 = .ok (.ireturn, 1) := by decide +kernel
theorem dX4_kindOfConflict_0 : decode cX4_kindOfConflict 0 = .ok (.aload_n 0, 1) := by decide +kernel
theorem dX4_kindOfConflict_1 : decode cX4_kindOfConflict 1 = .ok (.getfield 34, 3) := by decide +kernel
theorem dX4_kindOfConflict_4 : decode cX4_kindOfConflict 4 = .ok (.iload_n 1, 1) := by decide +kernel
theorem dX4_kindOfConflict_5 : decode cX4_kindOfConflict 5 = .ok (.invokestatic 47, 3) := by decide +kernel
theorem dX4_kindOfConflict_8 : decode cX4_kindOfConflict 8 = .ok (.ireturn, 1) := by decide +kernel
theorem dX4_countOpen_0 : decode cX4_countOpen 0 = .ok (.iconst 0, 1) := by decide +kernel
theorem dX4_countOpen_1 : decode cX4_countOpen 1 = .ok (.istore_n 2, 1) := by decide +kernel
theorem dX4_countOpen_2 : decode cX4_countOpen 2 = .ok (.iconst 0, 1) := by decide +kernel
theorem dX4_countOpen_3 : decode cX4_countOpen 3 = .ok (.istore_n 3, 1) := by decide +kernel
theorem dX4_countOpen_4 : decode cX4_countOpen 4 = .ok (.iload_n 3, 1) := by decide +kernel
theorem dX4_countOpen_5 : decode cX4_countOpen 5 = .ok (.aload_n 0, 1) := by decide +kernel
theorem dX4_countOpen_6 : decode cX4_countOpen 6 = .ok (.getfield 37, 3) := by decide +kernel
theorem dX4_countOpen_9 : decode cX4_countOpen 9 = .ok (.if_icmp .ge 30, 3) := by decide +kernel
theorem dX4_countOpen_12 : decode cX4_countOpen 12 = .ok (.aload_n 1, 1) := by decide +kernel
theorem dX4_countOpen_13 : decode cX4_countOpen 13 = .ok (.aload_n 0, 1) := by decide +kernel
theorem dX4_countOpen_14 : decode cX4_countOpen 14 = .ok (.iload_n 3, 1) := by decide +kernel
theorem dX4_countOpen_15 : decode cX4_countOpen 15 = .ok (.invokevirtual 51, 3) := by decide +kernel
theorem dX4_countOpen_18 : decode cX4_countOpen 18 = .ok (.aload_n 0, 1) := by decide +kernel
theorem dX4_countOpen_19 : decode cX4_countOpen 19 = .ok (.iload_n 3, 1) := by decide +kernel
theorem dX4_countOpen_20 : decode cX4_countOpen 20 = .ok (.invokevirtual 55, 3) := by decide +kernel
theorem dX4_countOpen_23 : decode cX4_countOpen 23 = .ok (.invokevirtual 58, 3) := by decide +kernel
theorem dX4_countOpen_26 : decode cX4_countOpen 26 = .ok (.iconst (-1), 1) := by decide +kernel
theorem dX4_countOpen_27 : decode cX4_countOpen 27 = .ok (.if_icmp .ne 6, 3) := by decide +kernel
theorem dX4_countOpen_30 : decode cX4_countOpen 30 = .ok (.iinc 2 1, 3) := by decide +kernel
theorem dX4_countOpen_33 : decode cX4_countOpen 33 = .ok (.iinc 3 1, 3) := by decide +kernel
theorem dX4_countOpen_36 : decode cX4_countOpen 36 = .ok (.goto (-32), 3) := by decide +kernel
theorem dX4_countOpen_39 : decode cX4_countOpen 39 = .ok (.iload_n 2, 1) := by decide +kernel
theorem dX4_countOpen_40 : decode cX4_countOpen 40 = .ok (.ireturn, 1) := by decide +kernel
theorem dX4_make_0 : decode cX4_make 0 = .ok (.aload_n 0, 1) := by decide +kernel
theorem dX4_make_1 : decode cX4_make 1 = .ok (.getfield 23, 3) := by decide +kernel
theorem dX4_make_4 : decode cX4_make 4 = .ok (.aload_n 1, 1) := by decide +kernel
theorem dX4_make_5 : decode cX4_make 5 = .ok (.getfield 64, 3) := by decide +kernel
theorem dX4_make_8 : decode cX4_make 8 = .ok (.aload_n 1, 1) := by decide +kernel
theorem dX4_make_9 : decode cX4_make 9 = .ok (.getfield 67, 3) := by decide +kernel
theorem dX4_make_12 : decode cX4_make 12 = .ok (.invokevirtual 70, 3) := by decide +kernel
theorem dX4_make_15 : decode cX4_make 15 = .ok (.aload_n 0, 1) := by decide +kernel
theorem dX4_make_16 : decode cX4_make 16 = .ok (.getfield 27, 3) := by decide +kernel
theorem dX4_make_19 : decode cX4_make 19 = .ok (.aload_n 1, 1) := by decide +kernel
theorem dX4_make_20 : decode cX4_make 20 = .ok (.getfield 64, 3) := by decide +kernel
theorem dX4_make_23 : decode cX4_make 23 = .ok (.aload_n 1, 1) := by decide +kernel
theorem dX4_make_24 : decode cX4_make 24 = .ok (.getfield 74, 3) := by decide +kernel
theorem dX4_make_27 : decode cX4_make 27 = .ok (.invokevirtual 70, 3) := by decide +kernel
theorem dX4_make_30 : decode cX4_make 30 = .ok (.aload_n 0, 1) := by decide +kernel
theorem dX4_make_31 : decode cX4_make 31 = .ok (.getfield 14, 3) := by decide +kernel
theorem dX4_make_34 : decode cX4_make 34 = .ok (.invokevirtual 77, 3) := by decide +kernel
theorem dX4_make_37 : decode cX4_make 37 = .ok (.aload_n 0, 1) := by decide +kernel
theorem dX4_make_38 : decode cX4_make 38 = .ok (.iconst 0, 1) := by decide +kernel
theorem dX4_make_39 : decode cX4_make 39 = .ok (.putfield 37, 3) := by decide +kernel
theorem dX4_make_42 : decode cX4_make 42 = .ok (.iconst 0, 1) := by decide +kernel
theorem dX4_make_43 : decode cX4_make 43 = .ok (.istore_n 2, 1) := by decide +kernel
theorem dX4_make_44 : decode cX4_make 44 = .ok (.iload_n 2, 1) := by decide +kernel
theorem dX4_make_45 : decode cX4_make 45 = .ok (.aload_n 1, 1) := by decide +kernel
theorem dX4_make_46 : decode cX4_make 46 = .ok (.getfield 64, 3) := by decide +kernel
theorem dX4_make_49 : decode cX4_make 49 = .ok (.getfield 80, 3) := by decide +kernel
theorem dX4_make_52 : decode cX4_make 52 = .ok (.if_icmp .ge 15, 3) := by decide +kernel
theorem dX4_make_55 : decode cX4_make 55 = .ok (.aload_n 0, 1) := by decide +kernel
theorem dX4_make_56 : decode cX4_make 56 = .ok (.iload_n 2, 1) := by decide +kernel
theorem dX4_make_57 : decode cX4_make 57 = .ok (.aload_n 1, 1) := by decide +kernel
theorem dX4_make_58 : decode cX4_make 58 = .ok (.invokevirtual 83, 3) := by decide +kernel
theorem dX4_make_61 : decode cX4_make 61 = .ok (.iinc 2 1, 3) := by decide +kernel
theorem dX4_make_64 : decode cX4_make 64 = .ok (.goto (-20), 3) := by decide +kernel
theorem dX4_make_67 : decode cX4_make 67 = .ok (.iconst 0, 1) := by decide +kernel
theorem dX4_make_68 : decode cX4_make 68 = .ok (.istore_n 2, 1) := by decide +kernel
theorem dX4_make_69 : decode cX4_make 69 = .ok (.iload_n 2, 1) := by decide +kernel
theorem dX4_make_70 : decode cX4_make 70 = .ok (.aload_n 1, 1) := by decide +kernel
theorem dX4_make_71 : decode cX4_make 71 = .ok (.getfield 64, 3) := by decide +kernel
theorem dX4_make_74 : decode cX4_make 74 = .ok (.getfield 80, 3) := by decide +kernel
theorem dX4_make_77 : decode cX4_make 77 = .ok (.if_icmp .ge 37, 3) := by decide +kernel
theorem dX4_make_80 : decode cX4_make 80 = .ok (.aload_n 0, 1) := by decide +kernel
theorem dX4_make_81 : decode cX4_make 81 = .ok (.getfield 41, 3) := by decide +kernel
theorem dX4_make_84 : decode cX4_make 84 = .ok (.iload_n 2, 1) := by decide +kernel
theorem dX4_make_85 : decode cX4_make 85 = .ok (.invokestatic 47, 3) := by decide +kernel
theorem dX4_make_88 : decode cX4_make 88 = .ok (.iconst 2, 1) := by decide +kernel
theorem dX4_make_89 : decode cX4_make 89 = .ok (.if_icmp .ne 19, 3) := by decide +kernel
theorem dX4_make_92 : decode cX4_make 92 = .ok (.aload_n 0, 1) := by decide +kernel
theorem dX4_make_93 : decode cX4_make 93 = .ok (.getfield 14, 3) := by decide +kernel
theorem dX4_make_96 : decode cX4_make 96 = .ok (.iload_n 2, 1) := by decide +kernel
theorem dX4_make_97 : decode cX4_make 97 = .ok (.aload_n 0, 1) := by decide +kernel
theorem dX4_make_98 : decode cX4_make 98 = .ok (.getfield 44, 3) := by decide +kernel
theorem dX4_make_101 : decode cX4_make 101 = .ok (.iload_n 2, 1) := by decide +kernel
theorem dX4_make_102 : decode cX4_make 102 = .ok (.invokestatic 47, 3) := by decide +kernel
theorem dX4_make_105 : decode cX4_make 105 = .ok (.invokevirtual 87, 3) := by decide +kernel
theorem dX4_make_108 : decode cX4_make 108 = .ok (.iinc 2 1, 3) := by decide +kernel
theorem dX4_make_111 : decode cX4_make 111 = .ok (.goto (-42), 3) := by decide +kernel
theorem dX4_make_114 : decode cX4_make 114 = .ok (.aload_n 0, 1) := by decide +kernel
theorem dX4_make_115 : decode cX4_make 115 = .ok (.iconst 0, 1) := by decide +kernel
theorem dX4_make_116 : decode cX4_make 116 = .ok (.aload_n 1, 1) := by decide +kernel
theorem dX4_make_117 : decode cX4_make 117 = .ok (.invokevirtual 91, 3) := by decide +kernel
theorem dX4_make_120 : decode cX4_make 120 = .ok (.aload_n 0, 1) := by decide +kernel
theorem dX4_make_121 : decode cX4_make 121 = .ok (.iconst 1, 1) := by decide +kernel
theorem dX4_make_122 : decode cX4_make 122 = .ok (.aload_n 1, 1) := by decide +kernel
theorem dX4_make_123 : decode cX4_make 123 = .ok (.invokevirtual 91, 3) := by decide +kernel
theorem dX4_make_126 : decode cX4_make 126 = .ok (.return_, 1) := by decide +kernel
theorem dX4_decide_0 : decode cX4_decide 0 = .ok (.aload_n 0, 1) := by decide +kernel
theorem dX4_decide_1 : decode cX4_decide 1 = .ok (.getfield 23, 3) := by decide +kernel
theorem dX4_decide_4 : decode cX4_decide 4 = .ok (.iload_n 1, 1) := by decide +kernel
theorem dX4_decide_5 : decode cX4_decide 5 = .ok (.invokevirtual 94, 3) := by decide +kernel
theorem dX4_decide_8 : decode cX4_decide 8 = .ok (.istore_n 3, 1) := by decide +kernel
theorem dX4_decide_9 : decode cX4_decide 9 = .ok (.aload_n 0, 1) := by decide +kernel
theorem dX4_decide_10 : decode cX4_decide 10 = .ok (.getfield 27, 3) := by decide +kernel
theorem dX4_decide_13 : decode cX4_decide 13 = .ok (.iload_n 1, 1) := by decide +kernel
theorem dX4_decide_14 : decode cX4_decide 14 = .ok (.invokevirtual 94, 3) := by decide +kernel
theorem dX4_decide_17 : decode cX4_decide 17 = .ok (.istore 4, 2) := by decide +kernel
theorem dX4_decide_19 : decode cX4_decide 19 = .ok (.iload_n 3, 1) := by decide +kernel
theorem dX4_decide_20 : decode cX4_decide 20 = .ok (.ifCond .eq 20, 3) := by decide +kernel
theorem dX4_decide_23 : decode cX4_decide 23 = .ok (.iload 4, 2) := by decide +kernel
theorem dX4_decide_25 : decode cX4_decide 25 = .ok (.ifCond .eq 15, 3) := by decide +kernel
theorem dX4_decide_28 : decode cX4_decide 28 = .ok (.aload_n 0, 1) := by decide +kernel
theorem dX4_decide_29 : decode cX4_decide 29 = .ok (.getfield 41, 3) := by decide +kernel
theorem dX4_decide_32 : decode cX4_decide 32 = .ok (.iload_n 1, 1) := by decide +kernel
theorem dX4_decide_33 : decode cX4_decide 33 = .ok (.iconst 3, 1) := by decide +kernel
theorem dX4_decide_34 : decode cX4_decide 34 = .ok (.invokestatic 98, 3) := by decide +kernel
theorem dX4_decide_37 : decode cX4_decide 37 = .ok (.goto 58, 3) := by decide +kernel
theorem dX4_decide_40 : decode cX4_decide 40 = .ok (.iload_n 3, 1) := by decide +kernel
theorem dX4_decide_41 : decode cX4_decide 41 = .ok (.ifCond .ne 8, 3) := by decide +kernel
theorem dX4_decide_44 : decode cX4_decide 44 = .ok (.iload 4, 2) := by decide +kernel
theorem dX4_decide_46 : decode cX4_decide 46 = .ok (.ifCond .eq 21, 3) := by decide +kernel
theorem dX4_decide_49 : decode cX4_decide 49 = .ok (.aload_n 0, 1) := by decide +kernel
theorem dX4_decide_50 : decode cX4_decide 50 = .ok (.iload_n 1, 1) := by decide +kernel
theorem dX4_decide_51 : decode cX4_decide 51 = .ok (.iload_n 3, 1) := by decide +kernel
theorem dX4_decide_52 : decode cX4_decide 52 = .ok (.ifCond .eq 7, 3) := by decide +kernel
theorem dX4_decide_55 : decode cX4_decide 55 = .ok (.iconst 0, 1) := by decide +kernel
theorem dX4_decide_56 : decode cX4_decide 56 = .ok (.goto 4, 3) := by decide +kernel
theorem dX4_decide_59 : decode cX4_decide 59 = .ok (.iconst 1, 1) := by decide +kernel
theorem dX4_decide_60 : decode cX4_decide 60 = .ok (.aload_n 2, 1) := by decide +kernel
theorem dX4_decide_61 : decode cX4_decide 61 = .ok (.invokevirtual 102, 3) := by decide +kernel
theorem dX4_decide_64 : decode cX4_decide 64 = .ok (.goto 31, 3) := by decide +kernel
theorem dX4_decide_67 : decode cX4_decide 67 = .ok (.aload_n 0, 1) := by decide +kernel
theorem dX4_decide_68 : decode cX4_decide 68 = .ok (.getfield 44, 3) := by decide +kernel
theorem dX4_decide_71 : decode cX4_decide 71 = .ok (.iload_n 1, 1) := by decide +kernel
theorem dX4_decide_72 : decode cX4_decide 72 = .ok (.aload_n 0, 1) := by decide +kernel
theorem dX4_decide_73 : decode cX4_decide 73 = .ok (.iload_n 1, 1) := by decide +kernel
theorem dX4_decide_74 : decode cX4_decide 74 = .ok (.aload_n 2, 1) := by decide +kernel
theorem dX4_decide_75 : decode cX4_decide 75 = .ok (.invokevirtual 106, 3) := by decide +kernel
theorem dX4_decide_78 : decode cX4_decide 78 = .ok (.invokestatic 98, 3) := by decide +kernel
theorem dX4_decide_81 : decode cX4_decide 81 = .ok (.aload_n 0, 1) := by decide +kernel
theorem dX4_decide_82 : decode cX4_decide 82 = .ok (.getfield 41, 3) := by decide +kernel
theorem dX4_decide_85 : decode cX4_decide 85 = .ok (.iload_n 1, 1) := by decide +kernel
theorem dX4_decide_86 : decode cX4_decide 86 = .ok (.aload_n 0, 1) := by decide +kernel
theorem dX4_decide_87 : decode cX4_decide 87 = .ok (.iload_n 1, 1) := by decide +kernel
theorem dX4_decide_88 : decode cX4_decide 88 = .ok (.aload_n 2, 1) := by decide +kernel
theorem dX4_decide_89 : decode cX4_decide 89 = .ok (.invokevirtual 110, 3) := by decide +kernel
theorem dX4_decide_92 : decode cX4_decide 92 = .ok (.invokestatic 98, 3) := by decide +kernel
theorem dX4_decide_95 : decode cX4_decide 95 = .ok (.return_, 1) := by decide +kernel
theorem dX4_decideRemoved_0 : decode cX4_decideRemoved 0 = .ok (.iconst 1, 1) := by decide +kernel
theorem dX4_decideRemoved_1 : decode cX4_decideRemoved 1 = .ok (.iload_n 2, 1) := by decide +kernel
theorem dX4_decideRemoved_2 : decode cX4_decideRemoved 2 = .ok (.isub, 1) := by decide +kernel
theorem dX4_decideRemoved_3 : decode cX4_decideRemoved 3 = .ok (.istore 4, 2) := by decide +kernel
theorem dX4_decideRemoved_5 : decode cX4_decideRemoved 5 = .ok (.aload_n 0, 1) := by decide +kernel
theorem dX4_decideRemoved_6 : decode cX4_decideRemoved 6 = .ok (.getfield 41, 3) := by decide +kernel
theorem dX4_decideRemoved_9 : decode cX4_decideRemoved 9 = .ok (.iload_n 1, 1) := by decide +kernel
theorem dX4_decideRemoved_10 : decode cX4_decideRemoved 10 = .ok (.iconst 3, 1) := by decide +kernel
theorem dX4_decideRemoved_11 : decode cX4_decideRemoved 11 = .ok (.invokestatic 98, 3) := by decide +kernel
theorem dX4_decideRemoved_14 : decode cX4_decideRemoved 14 = .ok (.aload_n 0, 1) := by decide +kernel
theorem dX4_decideRemoved_15 : decode cX4_decideRemoved 15 = .ok (.iload 4, 2) := by decide +kernel
theorem dX4_decideRemoved_17 : decode cX4_decideRemoved 17 = .ok (.invokevirtual 113, 3) := by decide +kernel
theorem dX4_decideRemoved_20 : decode cX4_decideRemoved 20 = .ok (.iload_n 1, 1) := by decide +kernel
theorem dX4_decideRemoved_21 : decode cX4_decideRemoved 21 = .ok (.invokevirtual 117, 3) := by decide +kernel
theorem dX4_decideRemoved_24 : decode cX4_decideRemoved 24 = .ok (.ifCond .ne 4, 3) := by decide +kernel
theorem dX4_decideRemoved_27 : decode cX4_decideRemoved 27 = .ok (.return_, 1) := by decide +kernel
theorem dX4_decideRemoved_28 : decode cX4_decideRemoved 28 = .ok (.aload_n 0, 1) := by decide +kernel
theorem dX4_decideRemoved_29 : decode cX4_decideRemoved 29 = .ok (.iload_n 1, 1) := by decide +kernel
theorem dX4_decideRemoved_30 : decode cX4_decideRemoved 30 = .ok (.iconst 2, 1) := by decide +kernel
theorem dX4_decideRemoved_31 : decode cX4_decideRemoved 31 = .ok (.invokevirtual 120, 3) := by decide +kernel
theorem dX4_decideRemoved_34 : decode cX4_decideRemoved 34 = .ok (.aload_n 3, 1) := by decide +kernel
theorem dX4_decideRemoved_35 : decode cX4_decideRemoved 35 = .ok (.iload_n 1, 1) := by decide +kernel
theorem dX4_decideRemoved_36 : decode cX4_decideRemoved 36 = .ok (.iconst 2, 1) := by decide +kernel
theorem dX4_decideRemoved_37 : decode cX4_decideRemoved 37 = .ok (.invokevirtual 123, 3) := by decide +kernel
theorem dX4_decideRemoved_40 : decode cX4_decideRemoved 40 = .ok (.iload 4, 2) := by decide +kernel
theorem dX4_decideRemoved_42 : decode cX4_decideRemoved 42 = .ok (.if_icmp .ne 48, 3) := by decide +kernel
theorem dX4_decideRemoved_45 : decode cX4_decideRemoved 45 = .ok (.aload_n 0, 1) := by decide +kernel
theorem dX4_decideRemoved_46 : decode cX4_decideRemoved 46 = .ok (.getfield 44, 3) := by decide +kernel
theorem dX4_decideRemoved_49 : decode cX4_decideRemoved 49 = .ok (.iload_n 1, 1) := by decide +kernel
theorem dX4_decideRemoved_50 : decode cX4_decideRemoved 50 = .ok (.aload_n 3, 1) := by decide +kernel
theorem dX4_decideRemoved_51 : decode cX4_decideRemoved 51 = .ok (.iload 4, 2) := by decide +kernel
theorem dX4_decideRemoved_53 : decode cX4_decideRemoved 53 = .ok (.invokevirtual 126, 3) := by decide +kernel
theorem dX4_decideRemoved_56 : decode cX4_decideRemoved 56 = .ok (.iload_n 1, 1) := by decide +kernel
theorem dX4_decideRemoved_57 : decode cX4_decideRemoved 57 = .ok (.invokevirtual 130, 3) := by decide +kernel
theorem dX4_decideRemoved_60 : decode cX4_decideRemoved 60 = .ok (.invokestatic 98, 3) := by decide +kernel
theorem dX4_decideRemoved_63 : decode cX4_decideRemoved 63 = .ok (.aload_n 0, 1) := by decide +kernel
theorem dX4_decideRemoved_64 : decode cX4_decideRemoved 64 = .ok (.getfield 41, 3) := by decide +kernel
theorem dX4_decideRemoved_67 : decode cX4_decideRemoved 67 = .ok (.iload_n 1, 1) := by decide +kernel
theorem dX4_decideRemoved_68 : decode cX4_decideRemoved 68 = .ok (.aload_n 0, 1) := by decide +kernel
theorem dX4_decideRemoved_69 : decode cX4_decideRemoved 69 = .ok (.iload 4, 2) := by decide +kernel
theorem dX4_decideRemoved_71 : decode cX4_decideRemoved 71 = .ok (.invokevirtual 113, 3) := by decide +kernel
theorem dX4_decideRemoved_74 : decode cX4_decideRemoved 74 = .ok (.iload_n 1, 1) := by decide +kernel
theorem dX4_decideRemoved_75 : decode cX4_decideRemoved 75 = .ok (.invokevirtual 133, 3) := by decide +kernel
theorem dX4_decideRemoved_78 : decode cX4_decideRemoved 78 = .ok (.ifCond .eq 8, 3) := by decide +kernel
theorem dX4_decideRemoved_81 : decode cX4_decideRemoved 81 = .ok (.iload 4, 2) := by decide +kernel
theorem dX4_decideRemoved_83 : decode cX4_decideRemoved 83 = .ok (.goto 4, 3) := by decide +kernel
theorem dX4_decideRemoved_86 : decode cX4_decideRemoved 86 = .ok (.iconst 2, 1) := by decide +kernel
theorem dX4_decideRemoved_87 : decode cX4_decideRemoved 87 = .ok (.invokestatic 98, 3) := by decide +kernel
theorem dX4_decideRemoved_90 : decode cX4_decideRemoved 90 = .ok (.return_, 1) := by decide +kernel
theorem dX4_contentFromBoth_0 : decode cX4_contentFromBoth 0 = .ok (.aload_n 2, 1) := by decide +kernel
theorem dX4_contentFromBoth_1 : decode cX4_contentFromBoth 1 = .ok (.getfield 67, 3) := by decide +kernel
theorem dX4_contentFromBoth_4 : decode cX4_contentFromBoth 4 = .ok (.iload_n 1, 1) := by decide +kernel
theorem dX4_contentFromBoth_5 : decode cX4_contentFromBoth 5 = .ok (.invokevirtual 130, 3) := by decide +kernel
theorem dX4_contentFromBoth_8 : decode cX4_contentFromBoth 8 = .ok (.istore_n 3, 1) := by decide +kernel
theorem dX4_contentFromBoth_9 : decode cX4_contentFromBoth 9 = .ok (.aload_n 2, 1) := by decide +kernel
theorem dX4_contentFromBoth_10 : decode cX4_contentFromBoth 10 = .ok (.getfield 74, 3) := by decide +kernel
theorem dX4_contentFromBoth_13 : decode cX4_contentFromBoth 13 = .ok (.iload_n 1, 1) := by decide +kernel
theorem dX4_contentFromBoth_14 : decode cX4_contentFromBoth 14 = .ok (.invokevirtual 130, 3) := by decide +kernel
theorem dX4_contentFromBoth_17 : decode cX4_contentFromBoth 17 = .ok (.istore 4, 2) := by decide +kernel
theorem dX4_contentFromBoth_19 : decode cX4_contentFromBoth 19 = .ok (.aload_n 0, 1) := by decide +kernel
theorem dX4_contentFromBoth_20 : decode cX4_contentFromBoth 20 = .ok (.getfield 23, 3) := by decide +kernel
theorem dX4_contentFromBoth_23 : decode cX4_contentFromBoth 23 = .ok (.iload_n 1, 1) := by decide +kernel
theorem dX4_contentFromBoth_24 : decode cX4_contentFromBoth 24 = .ok (.invokevirtual 117, 3) := by decide +kernel
theorem dX4_contentFromBoth_27 : decode cX4_contentFromBoth 27 = .ok (.ifCond .ne 6, 3) := by decide +kernel
theorem dX4_contentFromBoth_30 : decode cX4_contentFromBoth 30 = .ok (.iload 4, 2) := by decide +kernel
theorem dX4_contentFromBoth_32 : decode cX4_contentFromBoth 32 = .ok (.ireturn, 1) := by decide +kernel
theorem dX4_contentFromBoth_33 : decode cX4_contentFromBoth 33 = .ok (.aload_n 0, 1) := by decide +kernel
theorem dX4_contentFromBoth_34 : decode cX4_contentFromBoth 34 = .ok (.getfield 27, 3) := by decide +kernel
theorem dX4_contentFromBoth_37 : decode cX4_contentFromBoth 37 = .ok (.iload_n 1, 1) := by decide +kernel
theorem dX4_contentFromBoth_38 : decode cX4_contentFromBoth 38 = .ok (.invokevirtual 117, 3) := by decide +kernel
theorem dX4_contentFromBoth_41 : decode cX4_contentFromBoth 41 = .ok (.ifCond .eq 9, 3) := by decide +kernel
theorem dX4_contentFromBoth_44 : decode cX4_contentFromBoth 44 = .ok (.iload_n 3, 1) := by decide +kernel
theorem dX4_contentFromBoth_45 : decode cX4_contentFromBoth 45 = .ok (.iload 4, 2) := by decide +kernel
theorem dX4_contentFromBoth_47 : decode cX4_contentFromBoth 47 = .ok (.if_icmp .ne 5, 3) := by decide +kernel
theorem dX4_contentFromBoth_50 : decode cX4_contentFromBoth 50 = .ok (.iload_n 3, 1) := by decide +kernel
theorem dX4_contentFromBoth_51 : decode cX4_contentFromBoth 51 = .ok (.ireturn, 1) := by decide +kernel
theorem dX4_contentFromBoth_52 : decode cX4_contentFromBoth 52 = .ok (.aload_n 0, 1) := by decide +kernel
theorem dX4_contentFromBoth_53 : decode cX4_contentFromBoth 53 = .ok (.iload_n 1, 1) := by decide +kernel
theorem dX4_contentFromBoth_54 : decode cX4_contentFromBoth 54 = .ok (.iconst 1, 1) := by decide +kernel
theorem dX4_contentFromBoth_55 : decode cX4_contentFromBoth 55 = .ok (.invokevirtual 120, 3) := by decide +kernel
theorem dX4_contentFromBoth_58 : decode cX4_contentFromBoth 58 = .ok (.aload_n 2, 1) := by decide +kernel
theorem dX4_contentFromBoth_59 : decode cX4_contentFromBoth 59 = .ok (.iload_n 1, 1) := by decide +kernel
theorem dX4_contentFromBoth_60 : decode cX4_contentFromBoth 60 = .ok (.iconst 1, 1) := by decide +kernel
theorem dX4_contentFromBoth_61 : decode cX4_contentFromBoth 61 = .ok (.invokevirtual 123, 3) := by decide +kernel
theorem dX4_contentFromBoth_64 : decode cX4_contentFromBoth 64 = .ok (.ifCond .ne 7, 3) := by decide +kernel
theorem dX4_contentFromBoth_67 : decode cX4_contentFromBoth 67 = .ok (.iload_n 3, 1) := by decide +kernel
theorem dX4_contentFromBoth_68 : decode cX4_contentFromBoth 68 = .ok (.goto 5, 3) := by decide +kernel
theorem dX4_contentFromBoth_71 : decode cX4_contentFromBoth 71 = .ok (.iload 4, 2) := by decide +kernel
theorem dX4_contentFromBoth_73 : decode cX4_contentFromBoth 73 = .ok (.ireturn, 1) := by decide +kernel
theorem dX4_placeFromBoth_0 : decode cX4_placeFromBoth 0 = .ok (.aload_n 0, 1) := by decide +kernel
theorem dX4_placeFromBoth_1 : decode cX4_placeFromBoth 1 = .ok (.getfield 23, 3) := by decide +kernel
theorem dX4_placeFromBoth_4 : decode cX4_placeFromBoth 4 = .ok (.iload_n 1, 1) := by decide +kernel
theorem dX4_placeFromBoth_5 : decode cX4_placeFromBoth 5 = .ok (.invokevirtual 133, 3) := by decide +kernel
theorem dX4_placeFromBoth_8 : decode cX4_placeFromBoth 8 = .ok (.istore_n 3, 1) := by decide +kernel
theorem dX4_placeFromBoth_9 : decode cX4_placeFromBoth 9 = .ok (.aload_n 0, 1) := by decide +kernel
theorem dX4_placeFromBoth_10 : decode cX4_placeFromBoth 10 = .ok (.getfield 27, 3) := by decide +kernel
theorem dX4_placeFromBoth_13 : decode cX4_placeFromBoth 13 = .ok (.iload_n 1, 1) := by decide +kernel
theorem dX4_placeFromBoth_14 : decode cX4_placeFromBoth 14 = .ok (.invokevirtual 133, 3) := by decide +kernel
theorem dX4_placeFromBoth_17 : decode cX4_placeFromBoth 17 = .ok (.istore 4, 2) := by decide +kernel
theorem dX4_placeFromBoth_19 : decode cX4_placeFromBoth 19 = .ok (.iload_n 3, 1) := by decide +kernel
theorem dX4_placeFromBoth_20 : decode cX4_placeFromBoth 20 = .ok (.ifCond .ne 10, 3) := by decide +kernel
theorem dX4_placeFromBoth_23 : decode cX4_placeFromBoth 23 = .ok (.iload 4, 2) := by decide +kernel
theorem dX4_placeFromBoth_25 : decode cX4_placeFromBoth 25 = .ok (.ifCond .ne 5, 3) := by decide +kernel
theorem dX4_placeFromBoth_28 : decode cX4_placeFromBoth 28 = .ok (.iconst 2, 1) := by decide +kernel
theorem dX4_placeFromBoth_29 : decode cX4_placeFromBoth 29 = .ok (.ireturn, 1) := by decide +kernel
theorem dX4_placeFromBoth_30 : decode cX4_placeFromBoth 30 = .ok (.iload_n 3, 1) := by decide +kernel
theorem dX4_placeFromBoth_31 : decode cX4_placeFromBoth 31 = .ok (.ifCond .eq 8, 3) := by decide +kernel
theorem dX4_placeFromBoth_34 : decode cX4_placeFromBoth 34 = .ok (.iload 4, 2) := by decide +kernel
theorem dX4_placeFromBoth_36 : decode cX4_placeFromBoth 36 = .ok (.ifCond .ne 13, 3) := by decide +kernel
theorem dX4_placeFromBoth_39 : decode cX4_placeFromBoth 39 = .ok (.iload_n 3, 1) := by decide +kernel
theorem dX4_placeFromBoth_40 : decode cX4_placeFromBoth 40 = .ok (.ifCond .eq 7, 3) := by decide +kernel
theorem dX4_placeFromBoth_43 : decode cX4_placeFromBoth 43 = .ok (.iconst 0, 1) := by decide +kernel
theorem dX4_placeFromBoth_44 : decode cX4_placeFromBoth 44 = .ok (.goto 4, 3) := by decide +kernel
theorem dX4_placeFromBoth_47 : decode cX4_placeFromBoth 47 = .ok (.iconst 1, 1) := by decide +kernel
theorem dX4_placeFromBoth_48 : decode cX4_placeFromBoth 48 = .ok (.ireturn, 1) := by decide +kernel
theorem dX4_placeFromBoth_49 : decode cX4_placeFromBoth 49 = .ok (.iload_n 1, 1) := by decide +kernel
theorem dX4_placeFromBoth_50 : decode cX4_placeFromBoth 50 = .ok (.aload_n 2, 1) := by decide +kernel
theorem dX4_placeFromBoth_51 : decode cX4_placeFromBoth 51 = .ok (.getfield 67, 3) := by decide +kernel
theorem dX4_placeFromBoth_54 : decode cX4_placeFromBoth 54 = .ok (.invokestatic 136, 3) := by decide +kernel
theorem dX4_placeFromBoth_57 : decode cX4_placeFromBoth 57 = .ok (.iload_n 1, 1) := by decide +kernel
theorem dX4_placeFromBoth_58 : decode cX4_placeFromBoth 58 = .ok (.aload_n 2, 1) := by decide +kernel
theorem dX4_placeFromBoth_59 : decode cX4_placeFromBoth 59 = .ok (.getfield 74, 3) := by decide +kernel
theorem dX4_placeFromBoth_62 : decode cX4_placeFromBoth 62 = .ok (.invokestatic 136, 3) := by decide +kernel
theorem dX4_placeFromBoth_65 : decode cX4_placeFromBoth 65 = .ok (.if_icmp .ne 5, 3) := by decide +kernel
theorem dX4_placeFromBoth_68 : decode cX4_placeFromBoth 68 = .ok (.iconst 0, 1) := by decide +kernel
theorem dX4_placeFromBoth_69 : decode cX4_placeFromBoth 69 = .ok (.ireturn, 1) := by decide +kernel
theorem dX4_placeFromBoth_70 : decode cX4_placeFromBoth 70 = .ok (.aload_n 0, 1) := by decide +kernel
theorem dX4_placeFromBoth_71 : decode cX4_placeFromBoth 71 = .ok (.iload_n 1, 1) := by decide +kernel
theorem dX4_placeFromBoth_72 : decode cX4_placeFromBoth 72 = .ok (.iconst 3, 1) := by decide +kernel
theorem dX4_placeFromBoth_73 : decode cX4_placeFromBoth 73 = .ok (.invokevirtual 120, 3) := by decide +kernel
theorem dX4_placeFromBoth_76 : decode cX4_placeFromBoth 76 = .ok (.aload_n 2, 1) := by decide +kernel
theorem dX4_placeFromBoth_77 : decode cX4_placeFromBoth 77 = .ok (.iload_n 1, 1) := by decide +kernel
theorem dX4_placeFromBoth_78 : decode cX4_placeFromBoth 78 = .ok (.iconst 3, 1) := by decide +kernel
theorem dX4_placeFromBoth_79 : decode cX4_placeFromBoth 79 = .ok (.invokevirtual 123, 3) := by decide +kernel
theorem dX4_placeFromBoth_82 : decode cX4_placeFromBoth 82 = .ok (.ireturn, 1) := by decide +kernel
theorem dX4_numberBefore_0 : decode cX4_numberBefore 0 = .ok (.aload_n 1, 1) := by decide +kernel
theorem dX4_numberBefore_1 : decode cX4_numberBefore 1 = .ok (.aload_n 1, 1) := by decide +kernel
theorem dX4_numberBefore_2 : decode cX4_numberBefore 2 = .ok (.iload_n 0, 1) := by decide +kernel
theorem dX4_numberBefore_3 : decode cX4_numberBefore 3 = .ok (.invokevirtual 140, 3) := by decide +kernel
theorem dX4_numberBefore_6 : decode cX4_numberBefore 6 = .ok (.iconst 1, 1) := by decide +kernel
theorem dX4_numberBefore_7 : decode cX4_numberBefore 7 = .ok (.isub, 1) := by decide +kernel
theorem dX4_numberBefore_8 : decode cX4_numberBefore 8 = .ok (.invokevirtual 143, 3) := by decide +kernel
theorem dX4_numberBefore_11 : decode cX4_numberBefore 11 = .ok (.ireturn, 1) := by decide +kernel
theorem dX4_addConflict_0 : decode cX4_addConflict 0 = .ok (.aload_n 0, 1) := by decide +kernel
theorem dX4_addConflict_1 : decode cX4_addConflict 1 = .ok (.getfield 30, 3) := by decide +kernel
theorem dX4_addConflict_4 : decode cX4_addConflict 4 = .ok (.aload_n 0, 1) := by decide +kernel
theorem dX4_addConflict_5 : decode cX4_addConflict 5 = .ok (.getfield 37, 3) := by decide +kernel
theorem dX4_addConflict_8 : decode cX4_addConflict 8 = .ok (.iload_n 1, 1) := by decide +kernel
theorem dX4_addConflict_9 : decode cX4_addConflict 9 = .ok (.invokestatic 98, 3) := by decide +kernel
theorem dX4_addConflict_12 : decode cX4_addConflict 12 = .ok (.aload_n 0, 1) := by decide +kernel
theorem dX4_addConflict_13 : decode cX4_addConflict 13 = .ok (.getfield 34, 3) := by decide +kernel
theorem dX4_addConflict_16 : decode cX4_addConflict 16 = .ok (.aload_n 0, 1) := by decide +kernel
theorem dX4_addConflict_17 : decode cX4_addConflict 17 = .ok (.getfield 37, 3) := by decide +kernel
theorem dX4_addConflict_20 : decode cX4_addConflict 20 = .ok (.iload_n 2, 1) := by decide +kernel
theorem dX4_addConflict_21 : decode cX4_addConflict 21 = .ok (.invokestatic 98, 3) := by decide +kernel
theorem dX4_addConflict_24 : decode cX4_addConflict 24 = .ok (.aload_n 0, 1) := by decide +kernel
theorem dX4_addConflict_25 : decode cX4_addConflict 25 = .ok (.dup, 1) := by decide +kernel
theorem dX4_addConflict_26 : decode cX4_addConflict 26 = .ok (.getfield 37, 3) := by decide +kernel
theorem dX4_addConflict_29 : decode cX4_addConflict 29 = .ok (.iconst 1, 1) := by decide +kernel
theorem dX4_addConflict_30 : decode cX4_addConflict 30 = .ok (.iadd, 1) := by decide +kernel
theorem dX4_addConflict_31 : decode cX4_addConflict 31 = .ok (.putfield 37, 3) := by decide +kernel
theorem dX4_addConflict_34 : decode cX4_addConflict 34 = .ok (.return_, 1) := by decide +kernel
theorem dX4_putBlocksOf_0 : decode cX4_putBlocksOf 0 = .ok (.aload_n 2, 1) := by decide +kernel
theorem dX4_putBlocksOf_1 : decode cX4_putBlocksOf 1 = .ok (.iload_n 1, 1) := by decide +kernel
theorem dX4_putBlocksOf_2 : decode cX4_putBlocksOf 2 = .ok (.invokevirtual 126, 3) := by decide +kernel
theorem dX4_putBlocksOf_5 : decode cX4_putBlocksOf 5 = .ok (.astore_n 3, 1) := by decide +kernel
theorem dX4_putBlocksOf_6 : decode cX4_putBlocksOf 6 = .ok (.iconst 0, 1) := by decide +kernel
theorem dX4_putBlocksOf_7 : decode cX4_putBlocksOf 7 = .ok (.istore 4, 2) := by decide +kernel
theorem dX4_putBlocksOf_9 : decode cX4_putBlocksOf 9 = .ok (.iload 4, 2) := by decide +kernel
theorem dX4_putBlocksOf_11 : decode cX4_putBlocksOf 11 = .ok (.aload_n 3, 1) := by decide +kernel
theorem dX4_putBlocksOf_12 : decode cX4_putBlocksOf 12 = .ok (.getfield 80, 3) := by decide +kernel
theorem dX4_putBlocksOf_15 : decode cX4_putBlocksOf 15 = .ok (.if_icmp .ge 92, 3) := by decide +kernel
theorem dX4_putBlocksOf_18 : decode cX4_putBlocksOf 18 = .ok (.aload_n 3, 1) := by decide +kernel
theorem dX4_putBlocksOf_19 : decode cX4_putBlocksOf 19 = .ok (.iload 4, 2) := by decide +kernel
theorem dX4_putBlocksOf_21 : decode cX4_putBlocksOf 21 = .ok (.invokevirtual 143, 3) := by decide +kernel
theorem dX4_putBlocksOf_24 : decode cX4_putBlocksOf 24 = .ok (.istore 5, 2) := by decide +kernel
theorem dX4_putBlocksOf_26 : decode cX4_putBlocksOf 26 = .ok (.iload 5, 2) := by decide +kernel
theorem dX4_putBlocksOf_28 : decode cX4_putBlocksOf 28 = .ok (.aload_n 2, 1) := by decide +kernel
theorem dX4_putBlocksOf_29 : decode cX4_putBlocksOf 29 = .ok (.getfield 64, 3) := by decide +kernel
theorem dX4_putBlocksOf_32 : decode cX4_putBlocksOf 32 = .ok (.getfield 80, 3) := by decide +kernel
theorem dX4_putBlocksOf_35 : decode cX4_putBlocksOf 35 = .ok (.if_icmp .lt 28, 3) := by decide +kernel
theorem dX4_putBlocksOf_38 : decode cX4_putBlocksOf 38 = .ok (.aload_n 0, 1) := by decide +kernel
theorem dX4_putBlocksOf_39 : decode cX4_putBlocksOf 39 = .ok (.getfield 14, 3) := by decide +kernel
theorem dX4_putBlocksOf_42 : decode cX4_putBlocksOf 42 = .ok (.aload_n 0, 1) := by decide +kernel
theorem dX4_putBlocksOf_43 : decode cX4_putBlocksOf 43 = .ok (.iload 4, 2) := by decide +kernel
theorem dX4_putBlocksOf_45 : decode cX4_putBlocksOf 45 = .ok (.aload_n 3, 1) := by decide +kernel
theorem dX4_putBlocksOf_46 : decode cX4_putBlocksOf 46 = .ok (.invokevirtual 146, 3) := by decide +kernel
theorem dX4_putBlocksOf_49 : decode cX4_putBlocksOf 49 = .ok (.iload 5, 2) := by decide +kernel
theorem dX4_putBlocksOf_51 : decode cX4_putBlocksOf 51 = .ok (.aload_n 3, 1) := by decide +kernel
theorem dX4_putBlocksOf_52 : decode cX4_putBlocksOf 52 = .ok (.iload 4, 2) := by decide +kernel
theorem dX4_putBlocksOf_54 : decode cX4_putBlocksOf 54 = .ok (.invokevirtual 149, 3) := by decide +kernel
theorem dX4_putBlocksOf_57 : decode cX4_putBlocksOf 57 = .ok (.invokevirtual 152, 3) := by decide +kernel
theorem dX4_putBlocksOf_60 : decode cX4_putBlocksOf 60 = .ok (.goto 41, 3) := by decide +kernel
theorem dX4_putBlocksOf_63 : decode cX4_putBlocksOf 63 = .ok (.aload_n 0, 1) := by decide +kernel
theorem dX4_putBlocksOf_64 : decode cX4_putBlocksOf 64 = .ok (.getfield 41, 3) := by decide +kernel
theorem dX4_putBlocksOf_67 : decode cX4_putBlocksOf 67 = .ok (.iload 5, 2) := by decide +kernel
theorem dX4_putBlocksOf_69 : decode cX4_putBlocksOf 69 = .ok (.invokestatic 47, 3) := by decide +kernel
theorem dX4_putBlocksOf_72 : decode cX4_putBlocksOf 72 = .ok (.iload_n 1, 1) := by decide +kernel
theorem dX4_putBlocksOf_73 : decode cX4_putBlocksOf 73 = .ok (.if_icmp .ne 28, 3) := by decide +kernel
theorem dX4_putBlocksOf_76 : decode cX4_putBlocksOf 76 = .ok (.aload_n 0, 1) := by decide +kernel
theorem dX4_putBlocksOf_77 : decode cX4_putBlocksOf 77 = .ok (.getfield 14, 3) := by decide +kernel
theorem dX4_putBlocksOf_80 : decode cX4_putBlocksOf 80 = .ok (.aload_n 0, 1) := by decide +kernel
theorem dX4_putBlocksOf_81 : decode cX4_putBlocksOf 81 = .ok (.iload 4, 2) := by decide +kernel
theorem dX4_putBlocksOf_83 : decode cX4_putBlocksOf 83 = .ok (.aload_n 3, 1) := by decide +kernel
theorem dX4_putBlocksOf_84 : decode cX4_putBlocksOf 84 = .ok (.invokevirtual 146, 3) := by decide +kernel
theorem dX4_putBlocksOf_87 : decode cX4_putBlocksOf 87 = .ok (.iload 5, 2) := by decide +kernel
theorem dX4_putBlocksOf_89 : decode cX4_putBlocksOf 89 = .ok (.aload_n 0, 1) := by decide +kernel
theorem dX4_putBlocksOf_90 : decode cX4_putBlocksOf 90 = .ok (.getfield 44, 3) := by decide +kernel
theorem dX4_putBlocksOf_93 : decode cX4_putBlocksOf 93 = .ok (.iload 5, 2) := by decide +kernel
theorem dX4_putBlocksOf_95 : decode cX4_putBlocksOf 95 = .ok (.invokestatic 47, 3) := by decide +kernel
theorem dX4_putBlocksOf_98 : decode cX4_putBlocksOf 98 = .ok (.invokevirtual 152, 3) := by decide +kernel
theorem dX4_putBlocksOf_101 : decode cX4_putBlocksOf 101 = .ok (.iinc 4 1, 3) := by decide +kernel
theorem dX4_putBlocksOf_104 : decode cX4_putBlocksOf 104 = .ok (.goto (-95), 3) := by decide +kernel
theorem dX4_putBlocksOf_107 : decode cX4_putBlocksOf 107 = .ok (.return_, 1) := by decide +kernel
theorem dX4_placeBehind_0 : decode cX4_placeBehind 0 = .ok (.iload_n 1, 1) := by decide +kernel
theorem dX4_placeBehind_1 : decode cX4_placeBehind 1 = .ok (.iconst 1, 1) := by decide +kernel
theorem dX4_placeBehind_2 : decode cX4_placeBehind 2 = .ok (.isub, 1) := by decide +kernel
theorem dX4_placeBehind_3 : decode cX4_placeBehind 3 = .ok (.istore_n 3, 1) := by decide +kernel
theorem dX4_placeBehind_4 : decode cX4_placeBehind 4 = .ok (.iload_n 3, 1) := by decide +kernel
theorem dX4_placeBehind_5 : decode cX4_placeBehind 5 = .ok (.ifCond .lt 34, 3) := by decide +kernel
theorem dX4_placeBehind_8 : decode cX4_placeBehind 8 = .ok (.aload_n 0, 1) := by decide +kernel
theorem dX4_placeBehind_9 : decode cX4_placeBehind 9 = .ok (.getfield 14, 3) := by decide +kernel
theorem dX4_placeBehind_12 : decode cX4_placeBehind 12 = .ok (.aload_n 2, 1) := by decide +kernel
theorem dX4_placeBehind_13 : decode cX4_placeBehind 13 = .ok (.iload_n 3, 1) := by decide +kernel
theorem dX4_placeBehind_14 : decode cX4_placeBehind 14 = .ok (.invokevirtual 143, 3) := by decide +kernel
theorem dX4_placeBehind_17 : decode cX4_placeBehind 17 = .ok (.invokevirtual 140, 3) := by decide +kernel
theorem dX4_placeBehind_20 : decode cX4_placeBehind 20 = .ok (.istore 4, 2) := by decide +kernel
theorem dX4_placeBehind_22 : decode cX4_placeBehind 22 = .ok (.iload 4, 2) := by decide +kernel
theorem dX4_placeBehind_24 : decode cX4_placeBehind 24 = .ok (.iconst (-1), 1) := by decide +kernel
theorem dX4_placeBehind_25 : decode cX4_placeBehind 25 = .ok (.if_icmp .eq 8, 3) := by decide +kernel
theorem dX4_placeBehind_28 : decode cX4_placeBehind 28 = .ok (.iload 4, 2) := by decide +kernel
theorem dX4_placeBehind_30 : decode cX4_placeBehind 30 = .ok (.iconst 1, 1) := by decide +kernel
theorem dX4_placeBehind_31 : decode cX4_placeBehind 31 = .ok (.iadd, 1) := by decide +kernel
theorem dX4_placeBehind_32 : decode cX4_placeBehind 32 = .ok (.ireturn, 1) := by decide +kernel
theorem dX4_placeBehind_33 : decode cX4_placeBehind 33 = .ok (.iinc 3 (-1), 3) := by decide +kernel
theorem dX4_placeBehind_36 : decode cX4_placeBehind 36 = .ok (.goto (-32), 3) := by decide +kernel
theorem dX4_placeBehind_39 : decode cX4_placeBehind 39 = .ok (.iconst 0, 1) := by decide +kernel
theorem dX4_placeBehind_40 : decode cX4_placeBehind 40 = .ok (.ireturn, 1) := by decide +kernel
theorem dX5_init_0 : decode cX5_init 0 = .ok (.aload_n 0, 1) := by decide +kernel
theorem dX5_init_1 : decode cX5_init 1 = .ok (.invokespecial 3, 3) := by decide +kernel
theorem dX5_init_4 : decode cX5_init 4 = .ok (.aload_n 0, 1) := by decide +kernel
theorem dX5_init_5 : decode cX5_init 5 = .ok (.new 9, 3) := by decide +kernel
theorem dX5_init_8 : decode cX5_init 8 = .ok (.dup, 1) := by decide +kernel
theorem dX5_init_9 : decode cX5_init 9 = .ok (.bipush 10, 2) := by decide +kernel
theorem dX5_init_11 : decode cX5_init 11 = .ok (.newarray .int, 2) := by decide +kernel
theorem dX5_init_13 : decode cX5_init 13 = .ok (.bipush 10, 2) := by decide +kernel
theorem dX5_init_15 : decode cX5_init 15 = .ok (.newarray .int, 2) := by decide +kernel
theorem dX5_init_17 : decode cX5_init 17 = .ok (.invokespecial 11, 3) := by decide +kernel
theorem dX5_init_20 : decode cX5_init 20 = .ok (.putfield 14, 3) := by decide +kernel
theorem dX5_init_23 : decode cX5_init 23 = .ok (.aload_n 0, 1) := by decide +kernel
theorem dX5_init_24 : decode cX5_init 24 = .ok (.new 9, 3) := by decide +kernel
theorem dX5_init_27 : decode cX5_init 27 = .ok (.dup, 1) := by decide +kernel
theorem dX5_init_28 : decode cX5_init 28 = .ok (.bipush 15, 2) := by decide +kernel
theorem dX5_init_30 : decode cX5_init 30 = .ok (.newarray .int, 2) := by decide +kernel
theorem dX5_init_32 : decode cX5_init 32 = .ok (.bipush 15, 2) := by decide +kernel
theorem dX5_init_34 : decode cX5_init 34 = .ok (.newarray .int, 2) := by decide +kernel
theorem dX5_init_36 : decode cX5_init 36 = .ok (.invokespecial 11, 3) := by decide +kernel
theorem dX5_init_39 : decode cX5_init 39 = .ok (.putfield 20, 3) := by decide +kernel
theorem dX5_init_42 : decode cX5_init 42 = .ok (.aload_n 0, 1) := by decide +kernel
theorem dX5_init_43 : decode cX5_init 43 = .ok (.new 9, 3) := by decide +kernel
theorem dX5_init_46 : decode cX5_init 46 = .ok (.dup, 1) := by decide +kernel
theorem dX5_init_47 : decode cX5_init 47 = .ok (.bipush 15, 2) := by decide +kernel
theorem dX5_init_49 : decode cX5_init 49 = .ok (.newarray .int, 2) := by decide +kernel
theorem dX5_init_51 : decode cX5_init 51 = .ok (.bipush 15, 2) := by decide +kernel
theorem dX5_init_53 : decode cX5_init 53 = .ok (.newarray .int, 2) := by decide +kernel
theorem dX5_init_55 : decode cX5_init 55 = .ok (.invokespecial 11, 3) := by decide +kernel
theorem dX5_init_58 : decode cX5_init 58 = .ok (.putfield 23, 3) := by decide +kernel
theorem dX5_init_61 : decode cX5_init 61 = .ok (.aload_n 0, 1) := by decide +kernel
theorem dX5_init_62 : decode cX5_init 62 = .ok (.bipush 30, 2) := by decide +kernel
theorem dX5_init_64 : decode cX5_init 64 = .ok (.newarray .int, 2) := by decide +kernel
theorem dX5_init_66 : decode cX5_init 66 = .ok (.putfield 26, 3) := by decide +kernel
theorem dX5_init_69 : decode cX5_init 69 = .ok (.aload_n 0, 1) := by decide +kernel
theorem dX5_init_70 : decode cX5_init 70 = .ok (.iconst 0, 1) := by decide +kernel
theorem dX5_init_71 : decode cX5_init 71 = .ok (.putfield 30, 3) := by decide +kernel
theorem dX5_init_74 : decode cX5_init 74 = .ok (.aload_n 0, 1) := by decide +kernel
theorem dX5_init_75 : decode cX5_init 75 = .ok (.iconst 0, 1) := by decide +kernel
theorem dX5_init_76 : decode cX5_init 76 = .ok (.putfield 34, 3) := by decide +kernel
theorem dX5_init_79 : decode cX5_init 79 = .ok (.aload_n 0, 1) := by decide +kernel
theorem dX5_init_80 : decode cX5_init 80 = .ok (.iconst 0, 1) := by decide +kernel
theorem dX5_init_81 : decode cX5_init 81 = .ok (.putfield 37, 3) := by decide +kernel
theorem dX5_init_84 : decode cX5_init 84 = .ok (.aload_n 0, 1) := by decide +kernel
theorem dX5_init_85 : decode cX5_init 85 = .ok (.getfield 26, 3) := by decide +kernel
theorem dX5_init_88 : decode cX5_init 88 = .ok (.iconst (-1), 1) := by decide +kernel
theorem dX5_init_89 : decode cX5_init 89 = .ok (.invokestatic 40, 3) := by decide +kernel
theorem dX5_init_92 : decode cX5_init 92 = .ok (.return_, 1) := by decide +kernel
theorem dX5_draft_0 : decode cX5_draft 0 = .ok (.iload_n 1, 1) := by decide +kernel
theorem dX5_draft_1 : decode cX5_draft 1 = .ok (.ifCond .ne 10, 3) := by decide +kernel
theorem dX5_draft_4 : decode cX5_draft 4 = .ok (.aload_n 0, 1) := by decide +kernel
theorem dX5_draft_5 : decode cX5_draft 5 = .ok (.getfield 20, 3) := by decide +kernel
theorem dX5_draft_8 : decode cX5_draft 8 = .ok (.goto 7, 3) := by decide +kernel
theorem dX5_draft_11 : decode cX5_draft 11 = .ok (.aload_n 0, 1) := by decide +kernel
theorem dX5_draft_12 : decode cX5_draft 12 = .ok (.getfield 23, 3) := by decide +kernel
theorem dX5_draft_15 : decode cX5_draft 15 = .ok (.areturn, 1) := by decide +kernel
theorem dX5_baseCanGrow_0 : decode cX5_baseCanGrow 0 = .ok (.aload_n 0, 1) := by decide +kernel
theorem dX5_baseCanGrow_1 : decode cX5_baseCanGrow 1 = .ok (.getfield 14, 3) := by decide +kernel
theorem dX5_baseCanGrow_4 : decode cX5_baseCanGrow 4 = .ok (.invokevirtual 46, 3) := by decide +kernel
theorem dX5_baseCanGrow_7 : decode cX5_baseCanGrow 7 = .ok (.ifCond .ne 49, 3) := by decide +kernel
theorem dX5_baseCanGrow_10 : decode cX5_baseCanGrow 10 = .ok (.aload_n 0, 1) := by decide +kernel
theorem dX5_baseCanGrow_11 : decode cX5_baseCanGrow 11 = .ok (.getfield 30, 3) := by decide +kernel
theorem dX5_baseCanGrow_14 : decode cX5_baseCanGrow 14 = .ok (.aload_n 0, 1) := by decide +kernel
theorem dX5_baseCanGrow_15 : decode cX5_baseCanGrow 15 = .ok (.getfield 14, 3) := by decide +kernel
theorem dX5_baseCanGrow_18 : decode cX5_baseCanGrow 18 = .ok (.getfield 50, 3) := by decide +kernel
theorem dX5_baseCanGrow_21 : decode cX5_baseCanGrow 21 = .ok (.if_icmp .ne 35, 3) := by decide +kernel
theorem dX5_baseCanGrow_24 : decode cX5_baseCanGrow 24 = .ok (.aload_n 0, 1) := by decide +kernel
theorem dX5_baseCanGrow_25 : decode cX5_baseCanGrow 25 = .ok (.getfield 14, 3) := by decide +kernel
theorem dX5_baseCanGrow_28 : decode cX5_baseCanGrow 28 = .ok (.aload_n 0, 1) := by decide +kernel
theorem dX5_baseCanGrow_29 : decode cX5_baseCanGrow 29 = .ok (.getfield 20, 3) := by decide +kernel
theorem dX5_baseCanGrow_32 : decode cX5_baseCanGrow 32 = .ok (.invokevirtual 53, 3) := by decide +kernel
theorem dX5_baseCanGrow_35 : decode cX5_baseCanGrow 35 = .ok (.ifCond .eq 21, 3) := by decide +kernel
theorem dX5_baseCanGrow_38 : decode cX5_baseCanGrow 38 = .ok (.aload_n 0, 1) := by decide +kernel
theorem dX5_baseCanGrow_39 : decode cX5_baseCanGrow 39 = .ok (.getfield 14, 3) := by decide +kernel
theorem dX5_baseCanGrow_42 : decode cX5_baseCanGrow 42 = .ok (.aload_n 0, 1) := by decide +kernel
theorem dX5_baseCanGrow_43 : decode cX5_baseCanGrow 43 = .ok (.getfield 23, 3) := by decide +kernel
theorem dX5_baseCanGrow_46 : decode cX5_baseCanGrow 46 = .ok (.invokevirtual 53, 3) := by decide +kernel
theorem dX5_baseCanGrow_49 : decode cX5_baseCanGrow 49 = .ok (.ifCond .eq 7, 3) := by decide +kernel
theorem dX5_baseCanGrow_52 : decode cX5_baseCanGrow 52 = .ok (.iconst 1, 1) := by decide +kernel
theorem dX5_baseCanGrow_53 : decode cX5_baseCanGrow 53 = .ok (.goto 4, 3) := by decide +kernel
theorem dX5_baseCanGrow_56 : decode cX5_baseCanGrow 56 = .ok (.iconst 0, 1) := by decide +kernel
theorem dX5_baseCanGrow_57 : decode cX5_baseCanGrow 57 = .ok (.ireturn, 1) := by decide +kernel
theorem dX5_growBase_0 : decode cX5_growBase 0 = .ok (.aload_n 0, 1) := by decide +kernel
theorem dX5_growBase_1 : decode cX5_growBase 1 = .ok (.invokevirtual 57, 3) := by decide +kernel
theorem dX5_growBase_4 : decode cX5_growBase 4 = .ok (.istore_n 2, 1) := by decide +kernel
theorem dX5_growBase_5 : decode cX5_growBase 5 = .ok (.aload_n 0, 1) := by decide +kernel
theorem dX5_growBase_6 : decode cX5_growBase 6 = .ok (.getfield 14, 3) := by decide +kernel
theorem dX5_growBase_9 : decode cX5_growBase 9 = .ok (.iload_n 2, 1) := by decide +kernel
theorem dX5_growBase_10 : decode cX5_growBase 10 = .ok (.iload_n 1, 1) := by decide +kernel
theorem dX5_growBase_11 : decode cX5_growBase 11 = .ok (.invokevirtual 61, 3) := by decide +kernel
theorem dX5_growBase_14 : decode cX5_growBase 14 = .ok (.aload_n 0, 1) := by decide +kernel
theorem dX5_growBase_15 : decode cX5_growBase 15 = .ok (.getfield 20, 3) := by decide +kernel
theorem dX5_growBase_18 : decode cX5_growBase 18 = .ok (.iload_n 2, 1) := by decide +kernel
theorem dX5_growBase_19 : decode cX5_growBase 19 = .ok (.iload_n 1, 1) := by decide +kernel
theorem dX5_growBase_20 : decode cX5_growBase 20 = .ok (.invokevirtual 61, 3) := by decide +kernel
theorem dX5_growBase_23 : decode cX5_growBase 23 = .ok (.aload_n 0, 1) := by decide +kernel
theorem dX5_growBase_24 : decode cX5_growBase 24 = .ok (.getfield 23, 3) := by decide +kernel
theorem dX5_growBase_27 : decode cX5_growBase 27 = .ok (.iload_n 2, 1) := by decide +kernel
theorem dX5_growBase_28 : decode cX5_growBase 28 = .ok (.iload_n 1, 1) := by decide +kernel
theorem dX5_growBase_29 : decode cX5_growBase 29 = .ok (.invokevirtual 61, 3) := by decide +kernel
theorem dX5_growBase_32 : decode cX5_growBase 32 = .ok (.iload_n 2, 1) := by decide +kernel
theorem dX5_growBase_33 : decode cX5_growBase 33 = .ok (.ireturn, 1) := by decide +kernel
theorem dX5_putNewBlock_0 : decode cX5_putNewBlock 0 = .ok (.aload_n 0, 1) := by decide +kernel
theorem dX5_putNewBlock_1 : decode cX5_putNewBlock 1 = .ok (.invokevirtual 57, 3) := by decide +kernel
theorem dX5_putNewBlock_4 : decode cX5_putNewBlock 4 = .ok (.istore 4, 2) := by decide +kernel
theorem dX5_putNewBlock_6 : decode cX5_putNewBlock 6 = .ok (.aload_n 0, 1) := by decide +kernel
theorem dX5_putNewBlock_7 : decode cX5_putNewBlock 7 = .ok (.iload_n 1, 1) := by decide +kernel
theorem dX5_putNewBlock_8 : decode cX5_putNewBlock 8 = .ok (.invokevirtual 65, 3) := by decide +kernel
theorem dX5_putNewBlock_11 : decode cX5_putNewBlock 11 = .ok (.iload_n 2, 1) := by decide +kernel
theorem dX5_putNewBlock_12 : decode cX5_putNewBlock 12 = .ok (.iload 4, 2) := by decide +kernel
theorem dX5_putNewBlock_14 : decode cX5_putNewBlock 14 = .ok (.iload_n 3, 1) := by decide +kernel
theorem dX5_putNewBlock_15 : decode cX5_putNewBlock 15 = .ok (.invokevirtual 69, 3) := by decide +kernel
theorem dX5_putNewBlock_18 : decode cX5_putNewBlock 18 = .ok (.iload 4, 2) := by decide +kernel
theorem dX5_putNewBlock_20 : decode cX5_putNewBlock 20 = .ok (.ireturn, 1) := by decide +kernel
theorem dX5_takeNumber_0 : decode cX5_takeNumber 0 = .ok (.aload_n 0, 1) := by decide +kernel
theorem dX5_takeNumber_1 : decode cX5_takeNumber 1 = .ok (.getfield 30, 3) := by decide +kernel
theorem dX5_takeNumber_4 : decode cX5_takeNumber 4 = .ok (.istore_n 1, 1) := by decide +kernel
theorem dX5_takeNumber_5 : decode cX5_takeNumber 5 = .ok (.aload_n 0, 1) := by decide +kernel
theorem dX5_takeNumber_6 : decode cX5_takeNumber 6 = .ok (.dup, 1) := by decide +kernel
theorem dX5_takeNumber_7 : decode cX5_takeNumber 7 = .ok (.getfield 30, 3) := by decide +kernel
theorem dX5_takeNumber_10 : decode cX5_takeNumber 10 = .ok (.iconst 1, 1) := by decide +kernel
theorem dX5_takeNumber_11 : decode cX5_takeNumber 11 = .ok (.iadd, 1) := by decide +kernel
theorem dX5_takeNumber_12 : decode cX5_takeNumber 12 = .ok (.putfield 30, 3) := by decide +kernel
theorem dX5_takeNumber_15 : decode cX5_takeNumber 15 = .ok (.iload_n 1, 1) := by decide +kernel
theorem dX5_takeNumber_16 : decode cX5_takeNumber 16 = .ok (.ireturn, 1) := by decide +kernel
theorem dX5_choice_0 : decode cX5_choice 0 = .ok (.aload_n 0, 1) := by decide +kernel
theorem dX5_choice_1 : decode cX5_choice 1 = .ok (.getfield 26, 3) := by decide +kernel
theorem dX5_choice_4 : decode cX5_choice 4 = .ok (.iload_n 1, 1) := by decide +kernel
theorem dX5_choice_5 : decode cX5_choice 5 = .ok (.iload_n 2, 1) := by decide +kernel
theorem dX5_choice_6 : decode cX5_choice 6 = .ok (.invokestatic 73, 3) := by decide +kernel
theorem dX5_choice_9 : decode cX5_choice 9 = .ok (.invokestatic 77, 3) := by decide +kernel
theorem dX5_choice_12 : decode cX5_choice 12 = .ok (.ireturn, 1) := by decide +kernel
theorem dX5_choiceOrPreferred_0 : decode cX5_choiceOrPreferred 0 = .ok (.aload_n 0, 1) := by decide +kernel
theorem dX5_choiceOrPreferred_1 : decode cX5_choiceOrPreferred 1 = .ok (.iload_n 1, 1) := by decide +kernel
theorem dX5_choiceOrPreferred_2 : decode cX5_choiceOrPreferred 2 = .ok (.iload_n 2, 1) := by decide +kernel
theorem dX5_choiceOrPreferred_3 : decode cX5_choiceOrPreferred 3 = .ok (.invokevirtual 81, 3) := by decide +kernel
theorem dX5_choiceOrPreferred_6 : decode cX5_choiceOrPreferred 6 = .ok (.istore_n 3, 1) := by decide +kernel
theorem dX5_choiceOrPreferred_7 : decode cX5_choiceOrPreferred 7 = .ok (.iload_n 3, 1) := by decide +kernel
theorem dX5_choiceOrPreferred_8 : decode cX5_choiceOrPreferred 8 = .ok (.iconst (-1), 1) := by decide +kernel
theorem dX5_choiceOrPreferred_9 : decode cX5_choiceOrPreferred 9 = .ok (.if_icmp .ne 10, 3) := by decide +kernel
theorem dX5_choiceOrPreferred_12 : decode cX5_choiceOrPreferred 12 = .ok (.aload_n 0, 1) := by decide +kernel
theorem dX5_choiceOrPreferred_13 : decode cX5_choiceOrPreferred 13 = .ok (.getfield 34, 3) := by decide +kernel
theorem dX5_choiceOrPreferred_16 : decode cX5_choiceOrPreferred 16 = .ok (.goto 4, 3) := by decide +kernel
theorem dX5_choiceOrPreferred_19 : decode cX5_choiceOrPreferred 19 = .ok (.iload_n 3, 1) := by decide +kernel
theorem dX5_choiceOrPreferred_20 : decode cX5_choiceOrPreferred 20 = .ok (.ireturn, 1) := by decide +kernel
theorem dX5_setChoice_0 : decode cX5_setChoice 0 = .ok (.aload_n 0, 1) := by decide +kernel
theorem dX5_setChoice_1 : decode cX5_setChoice 1 = .ok (.iload_n 1, 1) := by decide +kernel
theorem dX5_setChoice_2 : decode cX5_setChoice 2 = .ok (.iload_n 2, 1) := by decide +kernel
theorem dX5_setChoice_3 : decode cX5_setChoice 3 = .ok (.invokevirtual 81, 3) := by decide +kernel
theorem dX5_setChoice_6 : decode cX5_setChoice 6 = .ok (.istore 4, 2) := by decide +kernel
theorem dX5_setChoice_8 : decode cX5_setChoice 8 = .ok (.aload_n 0, 1) := by decide +kernel
theorem dX5_setChoice_9 : decode cX5_setChoice 9 = .ok (.getfield 26, 3) := by decide +kernel
theorem dX5_setChoice_12 : decode cX5_setChoice 12 = .ok (.iload_n 1, 1) := by decide +kernel
theorem dX5_setChoice_13 : decode cX5_setChoice 13 = .ok (.iload_n 2, 1) := by decide +kernel
theorem dX5_setChoice_14 : decode cX5_setChoice 14 = .ok (.invokestatic 73, 3) := by decide +kernel
theorem dX5_setChoice_17 : decode cX5_setChoice 17 = .ok (.iload_n 3, 1) := by decide +kernel
theorem dX5_setChoice_18 : decode cX5_setChoice 18 = .ok (.invokestatic 84, 3) := by decide +kernel
theorem dX5_setChoice_21 : decode cX5_setChoice 21 = .ok (.iload 4, 2) := by decide +kernel
theorem dX5_setChoice_23 : decode cX5_setChoice 23 = .ok (.ireturn, 1) := by decide +kernel
theorem dX5_choiceIndex_0 : decode cX5_choiceIndex 0 = .ok (.iload_n 0, 1) := by decide +kernel
theorem dX5_choiceIndex_1 : decode cX5_choiceIndex 1 = .ok (.iconst 3, 1) := by decide +kernel
theorem dX5_choiceIndex_2 : decode cX5_choiceIndex 2 = .ok (.imul, 1) := by decide +kernel
theorem dX5_choiceIndex_3 : decode cX5_choiceIndex 3 = .ok (.iload_n 1, 1) := by decide +kernel
theorem dX5_choiceIndex_4 : decode cX5_choiceIndex 4 = .ok (.iadd, 1) := by decide +kernel
theorem dX5_choiceIndex_5 : decode cX5_choiceIndex 5 = .ok (.iconst 1, 1) := by decide +kernel
theorem dX5_choiceIndex_6 : decode cX5_choiceIndex 6 = .ok (.isub, 1) := by decide +kernel
theorem dX5_choiceIndex_7 : decode cX5_choiceIndex 7 = .ok (.ireturn, 1) := by decide +kernel
theorem dX5_takeAsBase_0 : decode cX5_takeAsBase 0 = .ok (.aload_n 0, 1) := by decide +kernel
theorem dX5_takeAsBase_1 : decode cX5_takeAsBase 1 = .ok (.getfield 14, 3) := by decide +kernel
theorem dX5_takeAsBase_4 : decode cX5_takeAsBase 4 = .ok (.invokevirtual 88, 3) := by decide +kernel
theorem dX5_takeAsBase_7 : decode cX5_takeAsBase 7 = .ok (.iconst 0, 1) := by decide +kernel
theorem dX5_takeAsBase_8 : decode cX5_takeAsBase 8 = .ok (.istore_n 2, 1) := by decide +kernel
theorem dX5_takeAsBase_9 : decode cX5_takeAsBase 9 = .ok (.iload_n 2, 1) := by decide +kernel
theorem dX5_takeAsBase_10 : decode cX5_takeAsBase 10 = .ok (.aload_n 1, 1) := by decide +kernel
theorem dX5_takeAsBase_11 : decode cX5_takeAsBase 11 = .ok (.getfield 50, 3) := by decide +kernel
theorem dX5_takeAsBase_14 : decode cX5_takeAsBase 14 = .ok (.if_icmp .ge 22, 3) := by decide +kernel
theorem dX5_takeAsBase_17 : decode cX5_takeAsBase 17 = .ok (.aload_n 0, 1) := by decide +kernel
theorem dX5_takeAsBase_18 : decode cX5_takeAsBase 18 = .ok (.getfield 14, 3) := by decide +kernel
theorem dX5_takeAsBase_21 : decode cX5_takeAsBase 21 = .ok (.iload_n 2, 1) := by decide +kernel
theorem dX5_takeAsBase_22 : decode cX5_takeAsBase 22 = .ok (.aload_n 1, 1) := by decide +kernel
theorem dX5_takeAsBase_23 : decode cX5_takeAsBase 23 = .ok (.iload_n 2, 1) := by decide +kernel
theorem dX5_takeAsBase_24 : decode cX5_takeAsBase 24 = .ok (.invokevirtual 91, 3) := by decide +kernel
theorem dX5_takeAsBase_27 : decode cX5_takeAsBase 27 = .ok (.invokevirtual 61, 3) := by decide +kernel
theorem dX5_takeAsBase_30 : decode cX5_takeAsBase 30 = .ok (.iinc 2 1, 3) := by decide +kernel
theorem dX5_takeAsBase_33 : decode cX5_takeAsBase 33 = .ok (.goto (-24), 3) := by decide +kernel
theorem dX5_takeAsBase_36 : decode cX5_takeAsBase 36 = .ok (.aload_n 0, 1) := by decide +kernel
theorem dX5_takeAsBase_37 : decode cX5_takeAsBase 37 = .ok (.getfield 20, 3) := by decide +kernel
theorem dX5_takeAsBase_40 : decode cX5_takeAsBase 40 = .ok (.aload_n 0, 1) := by decide +kernel
theorem dX5_takeAsBase_41 : decode cX5_takeAsBase 41 = .ok (.getfield 14, 3) := by decide +kernel
theorem dX5_takeAsBase_44 : decode cX5_takeAsBase 44 = .ok (.invokevirtual 95, 3) := by decide +kernel
theorem dX5_takeAsBase_47 : decode cX5_takeAsBase 47 = .ok (.aload_n 0, 1) := by decide +kernel
theorem dX5_takeAsBase_48 : decode cX5_takeAsBase 48 = .ok (.getfield 23, 3) := by decide +kernel
theorem dX5_takeAsBase_51 : decode cX5_takeAsBase 51 = .ok (.aload_n 0, 1) := by decide +kernel
theorem dX5_takeAsBase_52 : decode cX5_takeAsBase 52 = .ok (.getfield 14, 3) := by decide +kernel
theorem dX5_takeAsBase_55 : decode cX5_takeAsBase 55 = .ok (.invokevirtual 95, 3) := by decide +kernel
theorem dX5_takeAsBase_58 : decode cX5_takeAsBase 58 = .ok (.aload_n 0, 1) := by decide +kernel
theorem dX5_takeAsBase_59 : decode cX5_takeAsBase 59 = .ok (.getfield 26, 3) := by decide +kernel
theorem dX5_takeAsBase_62 : decode cX5_takeAsBase 62 = .ok (.iconst (-1), 1) := by decide +kernel
theorem dX5_takeAsBase_63 : decode cX5_takeAsBase 63 = .ok (.invokestatic 40, 3) := by decide +kernel
theorem dX5_takeAsBase_66 : decode cX5_takeAsBase 66 = .ok (.aload_n 0, 1) := by decide +kernel
theorem dX5_takeAsBase_67 : decode cX5_takeAsBase 67 = .ok (.aload_n 0, 1) := by decide +kernel
theorem dX5_takeAsBase_68 : decode cX5_takeAsBase 68 = .ok (.getfield 14, 3) := by decide +kernel
theorem dX5_takeAsBase_71 : decode cX5_takeAsBase 71 = .ok (.getfield 50, 3) := by decide +kernel
theorem dX5_takeAsBase_74 : decode cX5_takeAsBase 74 = .ok (.putfield 30, 3) := by decide +kernel
theorem dX5_takeAsBase_77 : decode cX5_takeAsBase 77 = .ok (.aload_n 0, 1) := by decide +kernel
theorem dX5_takeAsBase_78 : decode cX5_takeAsBase 78 = .ok (.dup, 1) := by decide +kernel
theorem dX5_takeAsBase_79 : decode cX5_takeAsBase 79 = .ok (.getfield 37, 3) := by decide +kernel
theorem dX5_takeAsBase_82 : decode cX5_takeAsBase 82 = .ok (.iconst 1, 1) := by decide +kernel
theorem dX5_takeAsBase_83 : decode cX5_takeAsBase 83 = .ok (.iadd, 1) := by decide +kernel
theorem dX5_takeAsBase_84 : decode cX5_takeAsBase 84 = .ok (.putfield 37, 3) := by decide +kernel
theorem dX5_takeAsBase_87 : decode cX5_takeAsBase 87 = .ok (.return_, 1) := by decide +kernel
theorem dX5_copyFrom_0 : decode cX5_copyFrom 0 = .ok (.aload_n 0, 1) := by decide +kernel
theorem dX5_copyFrom_1 : decode cX5_copyFrom 1 = .ok (.getfield 14, 3) := by decide +kernel
theorem dX5_copyFrom_4 : decode cX5_copyFrom 4 = .ok (.aload_n 1, 1) := by decide +kernel
theorem dX5_copyFrom_5 : decode cX5_copyFrom 5 = .ok (.getfield 14, 3) := by decide +kernel
theorem dX5_copyFrom_8 : decode cX5_copyFrom 8 = .ok (.invokevirtual 95, 3) := by decide +kernel
theorem dX5_copyFrom_11 : decode cX5_copyFrom 11 = .ok (.aload_n 0, 1) := by decide +kernel
theorem dX5_copyFrom_12 : decode cX5_copyFrom 12 = .ok (.getfield 20, 3) := by decide +kernel
theorem dX5_copyFrom_15 : decode cX5_copyFrom 15 = .ok (.aload_n 1, 1) := by decide +kernel
theorem dX5_copyFrom_16 : decode cX5_copyFrom 16 = .ok (.getfield 20, 3) := by decide +kernel
theorem dX5_copyFrom_19 : decode cX5_copyFrom 19 = .ok (.invokevirtual 95, 3) := by decide +kernel
theorem dX5_copyFrom_22 : decode cX5_copyFrom 22 = .ok (.aload_n 0, 1) := by decide +kernel
theorem dX5_copyFrom_23 : decode cX5_copyFrom 23 = .ok (.getfield 23, 3) := by decide +kernel
theorem dX5_copyFrom_26 : decode cX5_copyFrom 26 = .ok (.aload_n 1, 1) := by decide +kernel
theorem dX5_copyFrom_27 : decode cX5_copyFrom 27 = .ok (.getfield 23, 3) := by decide +kernel
theorem dX5_copyFrom_30 : decode cX5_copyFrom 30 = .ok (.invokevirtual 95, 3) := by decide +kernel
theorem dX5_copyFrom_33 : decode cX5_copyFrom 33 = .ok (.iconst 0, 1) := by decide +kernel
theorem dX5_copyFrom_34 : decode cX5_copyFrom 34 = .ok (.istore_n 2, 1) := by decide +kernel
theorem dX5_copyFrom_35 : decode cX5_copyFrom 35 = .ok (.iload_n 2, 1) := by decide +kernel
theorem dX5_copyFrom_36 : decode cX5_copyFrom 36 = .ok (.aload_n 0, 1) := by decide +kernel
theorem dX5_copyFrom_37 : decode cX5_copyFrom 37 = .ok (.getfield 26, 3) := by decide +kernel
theorem dX5_copyFrom_40 : decode cX5_copyFrom 40 = .ok (.arraylength, 1) := by decide +kernel
theorem dX5_copyFrom_41 : decode cX5_copyFrom 41 = .ok (.if_icmp .ge 25, 3) := by decide +kernel
theorem dX5_copyFrom_44 : decode cX5_copyFrom 44 = .ok (.aload_n 0, 1) := by decide +kernel
theorem dX5_copyFrom_45 : decode cX5_copyFrom 45 = .ok (.getfield 26, 3) := by decide +kernel
theorem dX5_copyFrom_48 : decode cX5_copyFrom 48 = .ok (.iload_n 2, 1) := by decide +kernel
theorem dX5_copyFrom_49 : decode cX5_copyFrom 49 = .ok (.aload_n 1, 1) := by decide +kernel
theorem dX5_copyFrom_50 : decode cX5_copyFrom 50 = .ok (.getfield 26, 3) := by decide +kernel
theorem dX5_copyFrom_53 : decode cX5_copyFrom 53 = .ok (.iload_n 2, 1) := by decide +kernel
theorem dX5_copyFrom_54 : decode cX5_copyFrom 54 = .ok (.invokestatic 77, 3) := by decide +kernel
theorem dX5_copyFrom_57 : decode cX5_copyFrom 57 = .ok (.invokestatic 84, 3) := by decide +kernel
theorem dX5_copyFrom_60 : decode cX5_copyFrom 60 = .ok (.iinc 2 1, 3) := by decide +kernel
theorem dX5_copyFrom_63 : decode cX5_copyFrom 63 = .ok (.goto (-28), 3) := by decide +kernel
theorem dX5_copyFrom_66 : decode cX5_copyFrom 66 = .ok (.aload_n 0, 1) := by decide +kernel
theorem dX5_copyFrom_67 : decode cX5_copyFrom 67 = .ok (.aload_n 1, 1) := by decide +kernel
theorem dX5_copyFrom_68 : decode cX5_copyFrom 68 = .ok (.getfield 30, 3) := by decide +kernel
theorem dX5_copyFrom_71 : decode cX5_copyFrom 71 = .ok (.putfield 30, 3) := by decide +kernel
theorem dX5_copyFrom_74 : decode cX5_copyFrom 74 = .ok (.aload_n 0, 1) := by decide +kernel
theorem dX5_copyFrom_75 : decode cX5_copyFrom 75 = .ok (.aload_n 1, 1) := by decide +kernel
theorem dX5_copyFrom_76 : decode cX5_copyFrom 76 = .ok (.getfield 34, 3) := by decide +kernel
theorem dX5_copyFrom_79 : decode cX5_copyFrom 79 = .ok (.putfield 34, 3) := by decide +kernel
theorem dX5_copyFrom_82 : decode cX5_copyFrom 82 = .ok (.aload_n 0, 1) := by decide +kernel
theorem dX5_copyFrom_83 : decode cX5_copyFrom 83 = .ok (.aload_n 1, 1) := by decide +kernel
theorem dX5_copyFrom_84 : decode cX5_copyFrom 84 = .ok (.getfield 37, 3) := by decide +kernel
theorem dX5_copyFrom_87 : decode cX5_copyFrom 87 = .ok (.putfield 37, 3) := by decide +kernel
theorem dX5_copyFrom_90 : decode cX5_copyFrom 90 = .ok (.return_, 1) := by decide +kernel
theorem dX6_init_0 : decode cX6_init 0 = .ok (.aload_n 0, 1) := by decide +kernel
theorem dX6_init_1 : decode cX6_init 1 = .ok (.invokespecial 1, 3) := by decide +kernel
theorem dX6_init_4 : decode cX6_init 4 = .ok (.aload_n 0, 1) := by decide +kernel
theorem dX6_init_5 : decode cX6_init 5 = .ok (.new 7, 3) := by decide +kernel
theorem dX6_init_8 : decode cX6_init 8 = .ok (.dup, 1) := by decide +kernel
theorem dX6_init_9 : decode cX6_init 9 = .ok (.invokespecial 9, 3) := by decide +kernel
theorem dX6_init_12 : decode cX6_init 12 = .ok (.putfield 10, 3) := by decide +kernel
theorem dX6_init_15 : decode cX6_init 15 = .ok (.aload_n 0, 1) := by decide +kernel
theorem dX6_init_16 : decode cX6_init 16 = .ok (.new 16, 3) := by decide +kernel
theorem dX6_init_19 : decode cX6_init 19 = .ok (.dup, 1) := by decide +kernel
theorem dX6_init_20 : decode cX6_init 20 = .ok (.invokespecial 18, 3) := by decide +kernel
theorem dX6_init_23 : decode cX6_init 23 = .ok (.putfield 19, 3) := by decide +kernel
theorem dX6_init_26 : decode cX6_init 26 = .ok (.aload_n 0, 1) := by decide +kernel
theorem dX6_init_27 : decode cX6_init 27 = .ok (.new 23, 3) := by decide +kernel
theorem dX6_init_30 : decode cX6_init 30 = .ok (.dup, 1) := by decide +kernel
theorem dX6_init_31 : decode cX6_init 31 = .ok (.invokespecial 25, 3) := by decide +kernel
theorem dX6_init_34 : decode cX6_init 34 = .ok (.putfield 26, 3) := by decide +kernel
theorem dX6_init_37 : decode cX6_init 37 = .ok (.aload_n 0, 1) := by decide +kernel
theorem dX6_init_38 : decode cX6_init 38 = .ok (.new 30, 3) := by decide +kernel
theorem dX6_init_41 : decode cX6_init 41 = .ok (.dup, 1) := by decide +kernel
theorem dX6_init_42 : decode cX6_init 42 = .ok (.invokespecial 32, 3) := by decide +kernel
theorem dX6_init_45 : decode cX6_init 45 = .ok (.putfield 33, 3) := by decide +kernel
theorem dX6_init_48 : decode cX6_init 48 = .ok (.return_, 1) := by decide +kernel
theorem dX6_addBase_0 : decode cX6_addBase 0 = .ok (.iload_n 1, 1) := by decide +kernel
theorem dX6_addBase_1 : decode cX6_addBase 1 = .ok (.invokestatic 37, 3) := by decide +kernel
theorem dX6_addBase_4 : decode cX6_addBase 4 = .ok (.ifCond .ne 13, 3) := by decide +kernel
theorem dX6_addBase_7 : decode cX6_addBase 7 = .ok (.new 41, 3) := by decide +kernel
theorem dX6_addBase_10 : decode cX6_addBase 10 = .ok (.dup, 1) := by decide +kernel
theorem dX6_addBase_11 : decode cX6_addBase 11 = .ok (.ldc 43, 2) := by decide +kernel
theorem dX6_addBase_13 : decode cX6_addBase 13 = .ok (.invokespecial 45, 3) := by decide +kernel
theorem dX6_addBase_16 : decode cX6_addBase 16 = .ok (.athrow, 1) := by decide +kernel
theorem dX6_addBase_17 : decode cX6_addBase 17 = .ok (.aload_n 0, 1) := by decide +kernel
theorem dX6_addBase_18 : decode cX6_addBase 18 = .ok (.getfield 10, 3) := by decide +kernel
theorem dX6_addBase_21 : decode cX6_addBase 21 = .ok (.invokevirtual 48, 3) := by decide +kernel
theorem dX6_addBase_24 : decode cX6_addBase 24 = .ok (.ifCond .ne 13, 3) := by decide +kernel
theorem dX6_addBase_27 : decode cX6_addBase 27 = .ok (.new 52, 3) := by decide +kernel
theorem dX6_addBase_30 : decode cX6_addBase 30 = .ok (.dup, 1) := by decide +kernel
theorem dX6_addBase_31 : decode cX6_addBase 31 = .ok (.ldc 54, 2) := by decide +kernel
theorem dX6_addBase_33 : decode cX6_addBase 33 = .ok (.invokespecial 56, 3) := by decide +kernel
theorem dX6_addBase_36 : decode cX6_addBase 36 = .ok (.athrow, 1) := by decide +kernel
theorem dX6_addBase_37 : decode cX6_addBase 37 = .ok (.aload_n 0, 1) := by decide +kernel
theorem dX6_addBase_38 : decode cX6_addBase 38 = .ok (.getfield 19, 3) := by decide +kernel
theorem dX6_addBase_41 : decode cX6_addBase 41 = .ok (.aload_n 0, 1) := by decide +kernel
theorem dX6_addBase_42 : decode cX6_addBase 42 = .ok (.getfield 10, 3) := by decide +kernel
theorem dX6_addBase_45 : decode cX6_addBase 45 = .ok (.invokevirtual 57, 3) := by decide +kernel
theorem dX6_addBase_48 : decode cX6_addBase 48 = .ok (.aload_n 0, 1) := by decide +kernel
theorem dX6_addBase_49 : decode cX6_addBase 49 = .ok (.getfield 10, 3) := by decide +kernel
theorem dX6_addBase_52 : decode cX6_addBase 52 = .ok (.iload_n 1, 1) := by decide +kernel
theorem dX6_addBase_53 : decode cX6_addBase 53 = .ok (.invokevirtual 61, 3) := by decide +kernel
theorem dX6_addBase_56 : decode cX6_addBase 56 = .ok (.ireturn, 1) := by decide +kernel
theorem dX6_edit_0 : decode cX6_edit 0 = .ok (.aload_n 0, 1) := by decide +kernel
theorem dX6_edit_1 : decode cX6_edit 1 = .ok (.iload_n 1, 1) := by decide +kernel
theorem dX6_edit_2 : decode cX6_edit 2 = .ok (.iload_n 2, 1) := by decide +kernel
theorem dX6_edit_3 : decode cX6_edit 3 = .ok (.iload_n 3, 1) := by decide +kernel
theorem dX6_edit_4 : decode cX6_edit 4 = .ok (.invokevirtual 65, 3) := by decide +kernel
theorem dX6_edit_7 : decode cX6_edit 7 = .ok (.istore 4, 2) := by decide +kernel
theorem dX6_edit_9 : decode cX6_edit 9 = .ok (.iload 4, 2) := by decide +kernel
theorem dX6_edit_11 : decode cX6_edit 11 = .ok (.iconst 1, 1) := by decide +kernel
theorem dX6_edit_12 : decode cX6_edit 12 = .ok (.if_icmp .ne 13, 3) := by decide +kernel
theorem dX6_edit_15 : decode cX6_edit 15 = .ok (.new 69, 3) := by decide +kernel
theorem dX6_edit_18 : decode cX6_edit 18 = .ok (.dup, 1) := by decide +kernel
theorem dX6_edit_19 : decode cX6_edit 19 = .ok (.ldc 71, 2) := by decide +kernel
theorem dX6_edit_21 : decode cX6_edit 21 = .ok (.invokespecial 73, 3) := by decide +kernel
theorem dX6_edit_24 : decode cX6_edit 24 = .ok (.athrow, 1) := by decide +kernel
theorem dX6_edit_25 : decode cX6_edit 25 = .ok (.iload 4, 2) := by decide +kernel
theorem dX6_edit_27 : decode cX6_edit 27 = .ok (.iconst 2, 1) := by decide +kernel
theorem dX6_edit_28 : decode cX6_edit 28 = .ok (.if_icmp .ne 13, 3) := by decide +kernel
theorem dX6_edit_31 : decode cX6_edit 31 = .ok (.new 41, 3) := by decide +kernel
theorem dX6_edit_34 : decode cX6_edit 34 = .ok (.dup, 1) := by decide +kernel
theorem dX6_edit_35 : decode cX6_edit 35 = .ok (.ldc 43, 2) := by decide +kernel
theorem dX6_edit_37 : decode cX6_edit 37 = .ok (.invokespecial 45, 3) := by decide +kernel
theorem dX6_edit_40 : decode cX6_edit 40 = .ok (.athrow, 1) := by decide +kernel
theorem dX6_edit_41 : decode cX6_edit 41 = .ok (.aload_n 0, 1) := by decide +kernel
theorem dX6_edit_42 : decode cX6_edit 42 = .ok (.getfield 19, 3) := by decide +kernel
theorem dX6_edit_45 : decode cX6_edit 45 = .ok (.aload_n 0, 1) := by decide +kernel
theorem dX6_edit_46 : decode cX6_edit 46 = .ok (.getfield 10, 3) := by decide +kernel
theorem dX6_edit_49 : decode cX6_edit 49 = .ok (.invokevirtual 57, 3) := by decide +kernel
theorem dX6_edit_52 : decode cX6_edit 52 = .ok (.aload_n 0, 1) := by decide +kernel
theorem dX6_edit_53 : decode cX6_edit 53 = .ok (.getfield 10, 3) := by decide +kernel
theorem dX6_edit_56 : decode cX6_edit 56 = .ok (.iload_n 1, 1) := by decide +kernel
theorem dX6_edit_57 : decode cX6_edit 57 = .ok (.invokevirtual 74, 3) := by decide +kernel
theorem dX6_edit_60 : decode cX6_edit 60 = .ok (.iload_n 2, 1) := by decide +kernel
theorem dX6_edit_61 : decode cX6_edit 61 = .ok (.iload_n 3, 1) := by decide +kernel
theorem dX6_edit_62 : decode cX6_edit 62 = .ok (.invokevirtual 78, 3) := by decide +kernel
theorem dX6_edit_65 : decode cX6_edit 65 = .ok (.ireturn, 1) := by decide +kernel
theorem dX6_move_0 : decode cX6_move 0 = .ok (.aload_n 0, 1) := by decide +kernel
theorem dX6_move_1 : decode cX6_move 1 = .ok (.iload_n 1, 1) := by decide +kernel
theorem dX6_move_2 : decode cX6_move 2 = .ok (.iload_n 2, 1) := by decide +kernel
theorem dX6_move_3 : decode cX6_move 3 = .ok (.iload_n 3, 1) := by decide +kernel
theorem dX6_move_4 : decode cX6_move 4 = .ok (.invokevirtual 84, 3) := by decide +kernel
theorem dX6_move_7 : decode cX6_move 7 = .ok (.ifCond .eq 13, 3) := by decide +kernel
theorem dX6_move_10 : decode cX6_move 10 = .ok (.new 69, 3) := by decide +kernel
theorem dX6_move_13 : decode cX6_move 13 = .ok (.dup, 1) := by decide +kernel
theorem dX6_move_14 : decode cX6_move 14 = .ok (.ldc 71, 2) := by decide +kernel
theorem dX6_move_16 : decode cX6_move 16 = .ok (.invokespecial 73, 3) := by decide +kernel
theorem dX6_move_19 : decode cX6_move 19 = .ok (.athrow, 1) := by decide +kernel
theorem dX6_move_20 : decode cX6_move 20 = .ok (.aload_n 0, 1) := by decide +kernel
theorem dX6_move_21 : decode cX6_move 21 = .ok (.getfield 19, 3) := by decide +kernel
theorem dX6_move_24 : decode cX6_move 24 = .ok (.aload_n 0, 1) := by decide +kernel
theorem dX6_move_25 : decode cX6_move 25 = .ok (.getfield 10, 3) := by decide +kernel
theorem dX6_move_28 : decode cX6_move 28 = .ok (.invokevirtual 57, 3) := by decide +kernel
theorem dX6_move_31 : decode cX6_move 31 = .ok (.aload_n 0, 1) := by decide +kernel
theorem dX6_move_32 : decode cX6_move 32 = .ok (.getfield 10, 3) := by decide +kernel
theorem dX6_move_35 : decode cX6_move 35 = .ok (.iload_n 1, 1) := by decide +kernel
theorem dX6_move_36 : decode cX6_move 36 = .ok (.invokevirtual 74, 3) := by decide +kernel
theorem dX6_move_39 : decode cX6_move 39 = .ok (.iload_n 2, 1) := by decide +kernel
theorem dX6_move_40 : decode cX6_move 40 = .ok (.iload_n 3, 1) := by decide +kernel
theorem dX6_move_41 : decode cX6_move 41 = .ok (.invokevirtual 87, 3) := by decide +kernel
theorem dX6_move_44 : decode cX6_move 44 = .ok (.ireturn, 1) := by decide +kernel
theorem dX6_insert_0 : decode cX6_insert 0 = .ok (.aload_n 0, 1) := by decide +kernel
theorem dX6_insert_1 : decode cX6_insert 1 = .ok (.iload_n 1, 1) := by decide +kernel
theorem dX6_insert_2 : decode cX6_insert 2 = .ok (.iload_n 2, 1) := by decide +kernel
theorem dX6_insert_3 : decode cX6_insert 3 = .ok (.iload_n 3, 1) := by decide +kernel
theorem dX6_insert_4 : decode cX6_insert 4 = .ok (.invokevirtual 90, 3) := by decide +kernel
theorem dX6_insert_7 : decode cX6_insert 7 = .ok (.istore 4, 2) := by decide +kernel
theorem dX6_insert_9 : decode cX6_insert 9 = .ok (.iload 4, 2) := by decide +kernel
theorem dX6_insert_11 : decode cX6_insert 11 = .ok (.iconst 1, 1) := by decide +kernel
theorem dX6_insert_12 : decode cX6_insert 12 = .ok (.if_icmp .ne 13, 3) := by decide +kernel
theorem dX6_insert_15 : decode cX6_insert 15 = .ok (.new 69, 3) := by decide +kernel
theorem dX6_insert_18 : decode cX6_insert 18 = .ok (.dup, 1) := by decide +kernel
theorem dX6_insert_19 : decode cX6_insert 19 = .ok (.ldc 71, 2) := by decide +kernel
theorem dX6_insert_21 : decode cX6_insert 21 = .ok (.invokespecial 73, 3) := by decide +kernel
theorem dX6_insert_24 : decode cX6_insert 24 = .ok (.athrow, 1) := by decide +kernel
theorem dX6_insert_25 : decode cX6_insert 25 = .ok (.iload 4, 2) := by decide +kernel
theorem dX6_insert_27 : decode cX6_insert 27 = .ok (.iconst 2, 1) := by decide +kernel
theorem dX6_insert_28 : decode cX6_insert 28 = .ok (.if_icmp .ne 13, 3) := by decide +kernel
theorem dX6_insert_31 : decode cX6_insert 31 = .ok (.new 41, 3) := by decide +kernel
theorem dX6_insert_34 : decode cX6_insert 34 = .ok (.dup, 1) := by decide +kernel
theorem dX6_insert_35 : decode cX6_insert 35 = .ok (.ldc 43, 2) := by decide +kernel
theorem dX6_insert_37 : decode cX6_insert 37 = .ok (.invokespecial 45, 3) := by decide +kernel
theorem dX6_insert_40 : decode cX6_insert 40 = .ok (.athrow, 1) := by decide +kernel
theorem dX6_insert_41 : decode cX6_insert 41 = .ok (.iload 4, 2) := by decide +kernel
theorem dX6_insert_43 : decode cX6_insert 43 = .ok (.iconst 3, 1) := by decide +kernel
theorem dX6_insert_44 : decode cX6_insert 44 = .ok (.if_icmp .ne 13, 3) := by decide +kernel
theorem dX6_insert_47 : decode cX6_insert 47 = .ok (.new 52, 3) := by decide +kernel
theorem dX6_insert_50 : decode cX6_insert 50 = .ok (.dup, 1) := by decide +kernel
theorem dX6_insert_51 : decode cX6_insert 51 = .ok (.ldc 93, 2) := by decide +kernel
theorem dX6_insert_53 : decode cX6_insert 53 = .ok (.invokespecial 56, 3) := by decide +kernel
theorem dX6_insert_56 : decode cX6_insert 56 = .ok (.athrow, 1) := by decide +kernel
theorem dX6_insert_57 : decode cX6_insert 57 = .ok (.aload_n 0, 1) := by decide +kernel
theorem dX6_insert_58 : decode cX6_insert 58 = .ok (.getfield 19, 3) := by decide +kernel
theorem dX6_insert_61 : decode cX6_insert 61 = .ok (.aload_n 0, 1) := by decide +kernel
theorem dX6_insert_62 : decode cX6_insert 62 = .ok (.getfield 10, 3) := by decide +kernel
theorem dX6_insert_65 : decode cX6_insert 65 = .ok (.invokevirtual 57, 3) := by decide +kernel
theorem dX6_insert_68 : decode cX6_insert 68 = .ok (.aload_n 0, 1) := by decide +kernel
theorem dX6_insert_69 : decode cX6_insert 69 = .ok (.getfield 10, 3) := by decide +kernel
theorem dX6_insert_72 : decode cX6_insert 72 = .ok (.iload_n 1, 1) := by decide +kernel
theorem dX6_insert_73 : decode cX6_insert 73 = .ok (.iload_n 2, 1) := by decide +kernel
theorem dX6_insert_74 : decode cX6_insert 74 = .ok (.iload_n 3, 1) := by decide +kernel
theorem dX6_insert_75 : decode cX6_insert 75 = .ok (.invokevirtual 95, 3) := by decide +kernel
theorem dX6_insert_78 : decode cX6_insert 78 = .ok (.ireturn, 1) := by decide +kernel
theorem dX6_remove_0 : decode cX6_remove 0 = .ok (.aload_n 0, 1) := by decide +kernel
theorem dX6_remove_1 : decode cX6_remove 1 = .ok (.iload_n 1, 1) := by decide +kernel
theorem dX6_remove_2 : decode cX6_remove 2 = .ok (.iload_n 2, 1) := by decide +kernel
theorem dX6_remove_3 : decode cX6_remove 3 = .ok (.invokevirtual 98, 3) := by decide +kernel
theorem dX6_remove_6 : decode cX6_remove 6 = .ok (.ifCond .eq 13, 3) := by decide +kernel
theorem dX6_remove_9 : decode cX6_remove 9 = .ok (.new 69, 3) := by decide +kernel
theorem dX6_remove_12 : decode cX6_remove 12 = .ok (.dup, 1) := by decide +kernel
theorem dX6_remove_13 : decode cX6_remove 13 = .ok (.ldc 71, 2) := by decide +kernel
theorem dX6_remove_15 : decode cX6_remove 15 = .ok (.invokespecial 73, 3) := by decide +kernel
theorem dX6_remove_18 : decode cX6_remove 18 = .ok (.athrow, 1) := by decide +kernel
theorem dX6_remove_19 : decode cX6_remove 19 = .ok (.aload_n 0, 1) := by decide +kernel
theorem dX6_remove_20 : decode cX6_remove 20 = .ok (.getfield 19, 3) := by decide +kernel
theorem dX6_remove_23 : decode cX6_remove 23 = .ok (.aload_n 0, 1) := by decide +kernel
theorem dX6_remove_24 : decode cX6_remove 24 = .ok (.getfield 10, 3) := by decide +kernel
theorem dX6_remove_27 : decode cX6_remove 27 = .ok (.invokevirtual 57, 3) := by decide +kernel
theorem dX6_remove_30 : decode cX6_remove 30 = .ok (.aload_n 0, 1) := by decide +kernel
theorem dX6_remove_31 : decode cX6_remove 31 = .ok (.getfield 10, 3) := by decide +kernel
theorem dX6_remove_34 : decode cX6_remove 34 = .ok (.iload_n 1, 1) := by decide +kernel
theorem dX6_remove_35 : decode cX6_remove 35 = .ok (.invokevirtual 74, 3) := by decide +kernel
theorem dX6_remove_38 : decode cX6_remove 38 = .ok (.iload_n 2, 1) := by decide +kernel
theorem dX6_remove_39 : decode cX6_remove 39 = .ok (.invokevirtual 101, 3) := by decide +kernel
theorem dX6_remove_42 : decode cX6_remove 42 = .ok (.ireturn, 1) := by decide +kernel
theorem dX6_baseSize_0 : decode cX6_baseSize 0 = .ok (.aload_n 0, 1) := by decide +kernel
theorem dX6_baseSize_1 : decode cX6_baseSize 1 = .ok (.getfield 10, 3) := by decide +kernel
theorem dX6_baseSize_4 : decode cX6_baseSize 4 = .ok (.getfield 104, 3) := by decide +kernel
theorem dX6_baseSize_7 : decode cX6_baseSize 7 = .ok (.getfield 108, 3) := by decide +kernel
theorem dX6_baseSize_10 : decode cX6_baseSize 10 = .ok (.ireturn, 1) := by decide +kernel
theorem dX6_size_0 : decode cX6_size 0 = .ok (.iload_n 1, 1) := by decide +kernel
theorem dX6_size_1 : decode cX6_size 1 = .ok (.invokestatic 112, 3) := by decide +kernel
theorem dX6_size_4 : decode cX6_size 4 = .ok (.ifCond .ne 13, 3) := by decide +kernel
theorem dX6_size_7 : decode cX6_size 7 = .ok (.new 69, 3) := by decide +kernel
theorem dX6_size_10 : decode cX6_size 10 = .ok (.dup, 1) := by decide +kernel
theorem dX6_size_11 : decode cX6_size 11 = .ok (.ldc 115, 2) := by decide +kernel
theorem dX6_size_13 : decode cX6_size 13 = .ok (.invokespecial 73, 3) := by decide +kernel
theorem dX6_size_16 : decode cX6_size 16 = .ok (.athrow, 1) := by decide +kernel
theorem dX6_size_17 : decode cX6_size 17 = .ok (.aload_n 0, 1) := by decide +kernel
theorem dX6_size_18 : decode cX6_size 18 = .ok (.getfield 10, 3) := by decide +kernel
theorem dX6_size_21 : decode cX6_size 21 = .ok (.iload_n 1, 1) := by decide +kernel
theorem dX6_size_22 : decode cX6_size 22 = .ok (.invokevirtual 74, 3) := by decide +kernel
theorem dX6_size_25 : decode cX6_size 25 = .ok (.getfield 108, 3) := by decide +kernel
theorem dX6_size_28 : decode cX6_size 28 = .ok (.ireturn, 1) := by decide +kernel
theorem dX6_block_0 : decode cX6_block 0 = .ok (.aload_n 0, 1) := by decide +kernel
theorem dX6_block_1 : decode cX6_block 1 = .ok (.iload_n 1, 1) := by decide +kernel
theorem dX6_block_2 : decode cX6_block 2 = .ok (.iload_n 2, 1) := by decide +kernel
theorem dX6_block_3 : decode cX6_block 3 = .ok (.invokevirtual 117, 3) := by decide +kernel
theorem dX6_block_6 : decode cX6_block 6 = .ok (.ifCond .ne 13, 3) := by decide +kernel
theorem dX6_block_9 : decode cX6_block 9 = .ok (.new 69, 3) := by decide +kernel
theorem dX6_block_12 : decode cX6_block 12 = .ok (.dup, 1) := by decide +kernel
theorem dX6_block_13 : decode cX6_block 13 = .ok (.ldc 71, 2) := by decide +kernel
theorem dX6_block_15 : decode cX6_block 15 = .ok (.invokespecial 73, 3) := by decide +kernel
theorem dX6_block_18 : decode cX6_block 18 = .ok (.athrow, 1) := by decide +kernel
theorem dX6_block_19 : decode cX6_block 19 = .ok (.aload_n 0, 1) := by decide +kernel
theorem dX6_block_20 : decode cX6_block 20 = .ok (.getfield 10, 3) := by decide +kernel
theorem dX6_block_23 : decode cX6_block 23 = .ok (.iload_n 1, 1) := by decide +kernel
theorem dX6_block_24 : decode cX6_block 24 = .ok (.invokevirtual 74, 3) := by decide +kernel
theorem dX6_block_27 : decode cX6_block 27 = .ok (.iload_n 2, 1) := by decide +kernel
theorem dX6_block_28 : decode cX6_block 28 = .ok (.invokevirtual 121, 3) := by decide +kernel
theorem dX6_block_31 : decode cX6_block 31 = .ok (.ireturn, 1) := by decide +kernel
theorem dX6_content_0 : decode cX6_content 0 = .ok (.aload_n 0, 1) := by decide +kernel
theorem dX6_content_1 : decode cX6_content 1 = .ok (.iload_n 1, 1) := by decide +kernel
theorem dX6_content_2 : decode cX6_content 2 = .ok (.iload_n 2, 1) := by decide +kernel
theorem dX6_content_3 : decode cX6_content 3 = .ok (.invokevirtual 117, 3) := by decide +kernel
theorem dX6_content_6 : decode cX6_content 6 = .ok (.ifCond .ne 13, 3) := by decide +kernel
theorem dX6_content_9 : decode cX6_content 9 = .ok (.new 69, 3) := by decide +kernel
theorem dX6_content_12 : decode cX6_content 12 = .ok (.dup, 1) := by decide +kernel
theorem dX6_content_13 : decode cX6_content 13 = .ok (.ldc 71, 2) := by decide +kernel
theorem dX6_content_15 : decode cX6_content 15 = .ok (.invokespecial 73, 3) := by decide +kernel
theorem dX6_content_18 : decode cX6_content 18 = .ok (.athrow, 1) := by decide +kernel
theorem dX6_content_19 : decode cX6_content 19 = .ok (.aload_n 0, 1) := by decide +kernel
theorem dX6_content_20 : decode cX6_content 20 = .ok (.getfield 10, 3) := by decide +kernel
theorem dX6_content_23 : decode cX6_content 23 = .ok (.iload_n 1, 1) := by decide +kernel
theorem dX6_content_24 : decode cX6_content 24 = .ok (.invokevirtual 74, 3) := by decide +kernel
theorem dX6_content_27 : decode cX6_content 27 = .ok (.iload_n 2, 1) := by decide +kernel
theorem dX6_content_28 : decode cX6_content 28 = .ok (.invokevirtual 124, 3) := by decide +kernel
theorem dX6_content_31 : decode cX6_content 31 = .ok (.ireturn, 1) := by decide +kernel
theorem dX6_change_0 : decode cX6_change 0 = .ok (.iload_n 1, 1) := by decide +kernel
theorem dX6_change_1 : decode cX6_change 1 = .ok (.invokestatic 112, 3) := by decide +kernel
theorem dX6_change_4 : decode cX6_change 4 = .ok (.ifCond .eq 17, 3) := by decide +kernel
theorem dX6_change_7 : decode cX6_change 7 = .ok (.aload_n 0, 1) := by decide +kernel
theorem dX6_change_8 : decode cX6_change 8 = .ok (.getfield 10, 3) := by decide +kernel
theorem dX6_change_11 : decode cX6_change 11 = .ok (.getfield 104, 3) := by decide +kernel
theorem dX6_change_14 : decode cX6_change 14 = .ok (.iload_n 2, 1) := by decide +kernel
theorem dX6_change_15 : decode cX6_change 15 = .ok (.invokevirtual 127, 3) := by decide +kernel
theorem dX6_change_18 : decode cX6_change 18 = .ok (.ifCond .ne 13, 3) := by decide +kernel
theorem dX6_change_21 : decode cX6_change 21 = .ok (.new 69, 3) := by decide +kernel
theorem dX6_change_24 : decode cX6_change 24 = .ok (.dup, 1) := by decide +kernel
theorem dX6_change_25 : decode cX6_change 25 = .ok (.ldc 130, 2) := by decide +kernel
theorem dX6_change_27 : decode cX6_change 27 = .ok (.invokespecial 73, 3) := by decide +kernel
theorem dX6_change_30 : decode cX6_change 30 = .ok (.athrow, 1) := by decide +kernel
theorem dX6_change_31 : decode cX6_change 31 = .ok (.aload_n 0, 1) := by decide +kernel
theorem dX6_change_32 : decode cX6_change 32 = .ok (.getfield 26, 3) := by decide +kernel
theorem dX6_change_35 : decode cX6_change 35 = .ok (.aload_n 0, 1) := by decide +kernel
theorem dX6_change_36 : decode cX6_change 36 = .ok (.getfield 10, 3) := by decide +kernel
theorem dX6_change_39 : decode cX6_change 39 = .ok (.invokevirtual 132, 3) := by decide +kernel
theorem dX6_change_42 : decode cX6_change 42 = .ok (.aload_n 0, 1) := by decide +kernel
theorem dX6_change_43 : decode cX6_change 43 = .ok (.getfield 26, 3) := by decide +kernel
theorem dX6_change_46 : decode cX6_change 46 = .ok (.iload_n 1, 1) := by decide +kernel
theorem dX6_change_47 : decode cX6_change 47 = .ok (.invokevirtual 135, 3) := by decide +kernel
theorem dX6_change_50 : decode cX6_change 50 = .ok (.iload_n 2, 1) := by decide +kernel
theorem dX6_change_51 : decode cX6_change 51 = .ok (.invokevirtual 139, 3) := by decide +kernel
theorem dX6_change_54 : decode cX6_change 54 = .ok (.ireturn, 1) := by decide +kernel
theorem dX6_moves_0 : decode cX6_moves 0 = .ok (.iload_n 1, 1) := by decide +kernel
theorem dX6_moves_1 : decode cX6_moves 1 = .ok (.invokestatic 112, 3) := by decide +kernel
theorem dX6_moves_4 : decode cX6_moves 4 = .ok (.ifCond .ne 13, 3) := by decide +kernel
theorem dX6_moves_7 : decode cX6_moves 7 = .ok (.new 69, 3) := by decide +kernel
theorem dX6_moves_10 : decode cX6_moves 10 = .ok (.dup, 1) := by decide +kernel
theorem dX6_moves_11 : decode cX6_moves 11 = .ok (.ldc 115, 2) := by decide +kernel
theorem dX6_moves_13 : decode cX6_moves 13 = .ok (.invokespecial 73, 3) := by decide +kernel
theorem dX6_moves_16 : decode cX6_moves 16 = .ok (.athrow, 1) := by decide +kernel
theorem dX6_moves_17 : decode cX6_moves 17 = .ok (.aload_n 0, 1) := by decide +kernel
theorem dX6_moves_18 : decode cX6_moves 18 = .ok (.getfield 26, 3) := by decide +kernel
theorem dX6_moves_21 : decode cX6_moves 21 = .ok (.aload_n 0, 1) := by decide +kernel
theorem dX6_moves_22 : decode cX6_moves 22 = .ok (.getfield 10, 3) := by decide +kernel
theorem dX6_moves_25 : decode cX6_moves 25 = .ok (.invokevirtual 132, 3) := by decide +kernel
theorem dX6_moves_28 : decode cX6_moves 28 = .ok (.aload_n 0, 1) := by decide +kernel
theorem dX6_moves_29 : decode cX6_moves 29 = .ok (.getfield 26, 3) := by decide +kernel
theorem dX6_moves_32 : decode cX6_moves 32 = .ok (.iload_n 1, 1) := by decide +kernel
theorem dX6_moves_33 : decode cX6_moves 33 = .ok (.invokevirtual 135, 3) := by decide +kernel
theorem dX6_moves_36 : decode cX6_moves 36 = .ok (.aload_n 0, 1) := by decide +kernel
theorem dX6_moves_37 : decode cX6_moves 37 = .ok (.getfield 10, 3) := by decide +kernel
theorem dX6_moves_40 : decode cX6_moves 40 = .ok (.getfield 104, 3) := by decide +kernel
theorem dX6_moves_43 : decode cX6_moves 43 = .ok (.getfield 108, 3) := by decide +kernel
theorem dX6_moves_46 : decode cX6_moves 46 = .ok (.invokevirtual 144, 3) := by decide +kernel
theorem dX6_moves_49 : decode cX6_moves 49 = .ok (.ireturn, 1) := by decide +kernel
theorem dX6_mergedSize_0 : decode cX6_mergedSize 0 = .ok (.aload_n 0, 1) := by decide +kernel
theorem dX6_mergedSize_1 : decode cX6_mergedSize 1 = .ok (.getfield 26, 3) := by decide +kernel
theorem dX6_mergedSize_4 : decode cX6_mergedSize 4 = .ok (.aload_n 0, 1) := by decide +kernel
theorem dX6_mergedSize_5 : decode cX6_mergedSize 5 = .ok (.getfield 10, 3) := by decide +kernel
theorem dX6_mergedSize_8 : decode cX6_mergedSize 8 = .ok (.invokevirtual 132, 3) := by decide +kernel
theorem dX6_mergedSize_11 : decode cX6_mergedSize 11 = .ok (.aload_n 0, 1) := by decide +kernel
theorem dX6_mergedSize_12 : decode cX6_mergedSize 12 = .ok (.getfield 26, 3) := by decide +kernel
theorem dX6_mergedSize_15 : decode cX6_mergedSize 15 = .ok (.getfield 147, 3) := by decide +kernel
theorem dX6_mergedSize_18 : decode cX6_mergedSize 18 = .ok (.getfield 108, 3) := by decide +kernel
theorem dX6_mergedSize_21 : decode cX6_mergedSize 21 = .ok (.ireturn, 1) := by decide +kernel
theorem dX6_mergedBlock_0 : decode cX6_mergedBlock 0 = .ok (.aload_n 0, 1) := by decide +kernel
theorem dX6_mergedBlock_1 : decode cX6_mergedBlock 1 = .ok (.getfield 26, 3) := by decide +kernel
theorem dX6_mergedBlock_4 : decode cX6_mergedBlock 4 = .ok (.aload_n 0, 1) := by decide +kernel
theorem dX6_mergedBlock_5 : decode cX6_mergedBlock 5 = .ok (.getfield 10, 3) := by decide +kernel
theorem dX6_mergedBlock_8 : decode cX6_mergedBlock 8 = .ok (.invokevirtual 132, 3) := by decide +kernel
theorem dX6_mergedBlock_11 : decode cX6_mergedBlock 11 = .ok (.aload_n 0, 1) := by decide +kernel
theorem dX6_mergedBlock_12 : decode cX6_mergedBlock 12 = .ok (.getfield 26, 3) := by decide +kernel
theorem dX6_mergedBlock_15 : decode cX6_mergedBlock 15 = .ok (.getfield 147, 3) := by decide +kernel
theorem dX6_mergedBlock_18 : decode cX6_mergedBlock 18 = .ok (.iload_n 1, 1) := by decide +kernel
theorem dX6_mergedBlock_19 : decode cX6_mergedBlock 19 = .ok (.invokevirtual 127, 3) := by decide +kernel
theorem dX6_mergedBlock_22 : decode cX6_mergedBlock 22 = .ok (.ifCond .ne 13, 3) := by decide +kernel
theorem dX6_mergedBlock_25 : decode cX6_mergedBlock 25 = .ok (.new 69, 3) := by decide +kernel
theorem dX6_mergedBlock_28 : decode cX6_mergedBlock 28 = .ok (.dup, 1) := by decide +kernel
theorem dX6_mergedBlock_29 : decode cX6_mergedBlock 29 = .ok (.ldc 150, 2) := by decide +kernel
theorem dX6_mergedBlock_31 : decode cX6_mergedBlock 31 = .ok (.invokespecial 73, 3) := by decide +kernel
theorem dX6_mergedBlock_34 : decode cX6_mergedBlock 34 = .ok (.athrow, 1) := by decide +kernel
theorem dX6_mergedBlock_35 : decode cX6_mergedBlock 35 = .ok (.aload_n 0, 1) := by decide +kernel
theorem dX6_mergedBlock_36 : decode cX6_mergedBlock 36 = .ok (.getfield 26, 3) := by decide +kernel
theorem dX6_mergedBlock_39 : decode cX6_mergedBlock 39 = .ok (.getfield 147, 3) := by decide +kernel
theorem dX6_mergedBlock_42 : decode cX6_mergedBlock 42 = .ok (.iload_n 1, 1) := by decide +kernel
theorem dX6_mergedBlock_43 : decode cX6_mergedBlock 43 = .ok (.invokevirtual 121, 3) := by decide +kernel
theorem dX6_mergedBlock_46 : decode cX6_mergedBlock 46 = .ok (.ireturn, 1) := by decide +kernel
theorem dX6_mergedContent_0 : decode cX6_mergedContent 0 = .ok (.aload_n 0, 1) := by decide +kernel
theorem dX6_mergedContent_1 : decode cX6_mergedContent 1 = .ok (.getfield 26, 3) := by decide +kernel
theorem dX6_mergedContent_4 : decode cX6_mergedContent 4 = .ok (.aload_n 0, 1) := by decide +kernel
theorem dX6_mergedContent_5 : decode cX6_mergedContent 5 = .ok (.getfield 10, 3) := by decide +kernel
theorem dX6_mergedContent_8 : decode cX6_mergedContent 8 = .ok (.invokevirtual 132, 3) := by decide +kernel
theorem dX6_mergedContent_11 : decode cX6_mergedContent 11 = .ok (.aload_n 0, 1) := by decide +kernel
theorem dX6_mergedContent_12 : decode cX6_mergedContent 12 = .ok (.getfield 26, 3) := by decide +kernel
theorem dX6_mergedContent_15 : decode cX6_mergedContent 15 = .ok (.getfield 147, 3) := by decide +kernel
theorem dX6_mergedContent_18 : decode cX6_mergedContent 18 = .ok (.iload_n 1, 1) := by decide +kernel
theorem dX6_mergedContent_19 : decode cX6_mergedContent 19 = .ok (.invokevirtual 127, 3) := by decide +kernel
theorem dX6_mergedContent_22 : decode cX6_mergedContent 22 = .ok (.ifCond .ne 13, 3) := by decide +kernel
theorem dX6_mergedContent_25 : decode cX6_mergedContent 25 = .ok (.new 69, 3) := by decide +kernel
theorem dX6_mergedContent_28 : decode cX6_mergedContent 28 = .ok (.dup, 1) := by decide +kernel
theorem dX6_mergedContent_29 : decode cX6_mergedContent 29 = .ok (.ldc 150, 2) := by decide +kernel
theorem dX6_mergedContent_31 : decode cX6_mergedContent 31 = .ok (.invokespecial 73, 3) := by decide +kernel
theorem dX6_mergedContent_34 : decode cX6_mergedContent 34 = .ok (.athrow, 1) := by decide +kernel
theorem dX6_mergedContent_35 : decode cX6_mergedContent 35 = .ok (.aload_n 0, 1) := by decide +kernel
theorem dX6_mergedContent_36 : decode cX6_mergedContent 36 = .ok (.getfield 26, 3) := by decide +kernel
theorem dX6_mergedContent_39 : decode cX6_mergedContent 39 = .ok (.getfield 147, 3) := by decide +kernel
theorem dX6_mergedContent_42 : decode cX6_mergedContent 42 = .ok (.iload_n 1, 1) := by decide +kernel
theorem dX6_mergedContent_43 : decode cX6_mergedContent 43 = .ok (.invokevirtual 124, 3) := by decide +kernel
theorem dX6_mergedContent_46 : decode cX6_mergedContent 46 = .ok (.ireturn, 1) := by decide +kernel
theorem dX6_conflicts_0 : decode cX6_conflicts 0 = .ok (.aload_n 0, 1) := by decide +kernel
theorem dX6_conflicts_1 : decode cX6_conflicts 1 = .ok (.getfield 26, 3) := by decide +kernel
theorem dX6_conflicts_4 : decode cX6_conflicts 4 = .ok (.aload_n 0, 1) := by decide +kernel
theorem dX6_conflicts_5 : decode cX6_conflicts 5 = .ok (.getfield 10, 3) := by decide +kernel
theorem dX6_conflicts_8 : decode cX6_conflicts 8 = .ok (.invokevirtual 132, 3) := by decide +kernel
theorem dX6_conflicts_11 : decode cX6_conflicts 11 = .ok (.aload_n 0, 1) := by decide +kernel
theorem dX6_conflicts_12 : decode cX6_conflicts 12 = .ok (.getfield 26, 3) := by decide +kernel
theorem dX6_conflicts_15 : decode cX6_conflicts 15 = .ok (.getfield 152, 3) := by decide +kernel
theorem dX6_conflicts_18 : decode cX6_conflicts 18 = .ok (.ireturn, 1) := by decide +kernel
theorem dX6_conflictBlock_0 : decode cX6_conflictBlock 0 = .ok (.aload_n 0, 1) := by decide +kernel
theorem dX6_conflictBlock_1 : decode cX6_conflictBlock 1 = .ok (.getfield 26, 3) := by decide +kernel
theorem dX6_conflictBlock_4 : decode cX6_conflictBlock 4 = .ok (.aload_n 0, 1) := by decide +kernel
theorem dX6_conflictBlock_5 : decode cX6_conflictBlock 5 = .ok (.getfield 10, 3) := by decide +kernel
theorem dX6_conflictBlock_8 : decode cX6_conflictBlock 8 = .ok (.invokevirtual 132, 3) := by decide +kernel
theorem dX6_conflictBlock_11 : decode cX6_conflictBlock 11 = .ok (.aload_n 0, 1) := by decide +kernel
theorem dX6_conflictBlock_12 : decode cX6_conflictBlock 12 = .ok (.getfield 26, 3) := by decide +kernel
theorem dX6_conflictBlock_15 : decode cX6_conflictBlock 15 = .ok (.iload_n 1, 1) := by decide +kernel
theorem dX6_conflictBlock_16 : decode cX6_conflictBlock 16 = .ok (.invokevirtual 155, 3) := by decide +kernel
theorem dX6_conflictBlock_19 : decode cX6_conflictBlock 19 = .ok (.ifCond .ne 13, 3) := by decide +kernel
theorem dX6_conflictBlock_22 : decode cX6_conflictBlock 22 = .ok (.new 69, 3) := by decide +kernel
theorem dX6_conflictBlock_25 : decode cX6_conflictBlock 25 = .ok (.dup, 1) := by decide +kernel
theorem dX6_conflictBlock_26 : decode cX6_conflictBlock 26 = .ok (.ldc 158, 2) := by decide +kernel
theorem dX6_conflictBlock_28 : decode cX6_conflictBlock 28 = .ok (.invokespecial 73, 3) := by decide +kernel
theorem dX6_conflictBlock_31 : decode cX6_conflictBlock 31 = .ok (.athrow, 1) := by decide +kernel
theorem dX6_conflictBlock_32 : decode cX6_conflictBlock 32 = .ok (.aload_n 0, 1) := by decide +kernel
theorem dX6_conflictBlock_33 : decode cX6_conflictBlock 33 = .ok (.getfield 26, 3) := by decide +kernel
theorem dX6_conflictBlock_36 : decode cX6_conflictBlock 36 = .ok (.iload_n 1, 1) := by decide +kernel
theorem dX6_conflictBlock_37 : decode cX6_conflictBlock 37 = .ok (.invokevirtual 160, 3) := by decide +kernel
theorem dX6_conflictBlock_40 : decode cX6_conflictBlock 40 = .ok (.ireturn, 1) := by decide +kernel
theorem dX6_conflictKind_0 : decode cX6_conflictKind 0 = .ok (.aload_n 0, 1) := by decide +kernel
theorem dX6_conflictKind_1 : decode cX6_conflictKind 1 = .ok (.getfield 26, 3) := by decide +kernel
theorem dX6_conflictKind_4 : decode cX6_conflictKind 4 = .ok (.aload_n 0, 1) := by decide +kernel
theorem dX6_conflictKind_5 : decode cX6_conflictKind 5 = .ok (.getfield 10, 3) := by decide +kernel
theorem dX6_conflictKind_8 : decode cX6_conflictKind 8 = .ok (.invokevirtual 132, 3) := by decide +kernel
theorem dX6_conflictKind_11 : decode cX6_conflictKind 11 = .ok (.aload_n 0, 1) := by decide +kernel
theorem dX6_conflictKind_12 : decode cX6_conflictKind 12 = .ok (.getfield 26, 3) := by decide +kernel
theorem dX6_conflictKind_15 : decode cX6_conflictKind 15 = .ok (.iload_n 1, 1) := by decide +kernel
theorem dX6_conflictKind_16 : decode cX6_conflictKind 16 = .ok (.invokevirtual 155, 3) := by decide +kernel
theorem dX6_conflictKind_19 : decode cX6_conflictKind 19 = .ok (.ifCond .ne 13, 3) := by decide +kernel
theorem dX6_conflictKind_22 : decode cX6_conflictKind 22 = .ok (.new 69, 3) := by decide +kernel
theorem dX6_conflictKind_25 : decode cX6_conflictKind 25 = .ok (.dup, 1) := by decide +kernel
theorem dX6_conflictKind_26 : decode cX6_conflictKind 26 = .ok (.ldc 158, 2) := by decide +kernel
theorem dX6_conflictKind_28 : decode cX6_conflictKind 28 = .ok (.invokespecial 73, 3) := by decide +kernel
theorem dX6_conflictKind_31 : decode cX6_conflictKind 31 = .ok (.athrow, 1) := by decide +kernel
theorem dX6_conflictKind_32 : decode cX6_conflictKind 32 = .ok (.aload_n 0, 1) := by decide +kernel
theorem dX6_conflictKind_33 : decode cX6_conflictKind 33 = .ok (.getfield 26, 3) := by decide +kernel
theorem dX6_conflictKind_36 : decode cX6_conflictKind 36 = .ok (.iload_n 1, 1) := by decide +kernel
theorem dX6_conflictKind_37 : decode cX6_conflictKind 37 = .ok (.invokevirtual 163, 3) := by decide +kernel
theorem dX6_conflictKind_40 : decode cX6_conflictKind 40 = .ok (.ireturn, 1) := by decide +kernel
theorem dX6_choose_0 : decode cX6_choose 0 = .ok (.aload_n 0, 1) := by decide +kernel
theorem dX6_choose_1 : decode cX6_choose 1 = .ok (.getfield 26, 3) := by decide +kernel
theorem dX6_choose_4 : decode cX6_choose 4 = .ok (.aload_n 0, 1) := by decide +kernel
theorem dX6_choose_5 : decode cX6_choose 5 = .ok (.getfield 10, 3) := by decide +kernel
theorem dX6_choose_8 : decode cX6_choose 8 = .ok (.invokevirtual 132, 3) := by decide +kernel
theorem dX6_choose_11 : decode cX6_choose 11 = .ok (.aload_n 0, 1) := by decide +kernel
theorem dX6_choose_12 : decode cX6_choose 12 = .ok (.getfield 26, 3) := by decide +kernel
theorem dX6_choose_15 : decode cX6_choose 15 = .ok (.iload_n 1, 1) := by decide +kernel
theorem dX6_choose_16 : decode cX6_choose 16 = .ok (.invokevirtual 155, 3) := by decide +kernel
theorem dX6_choose_19 : decode cX6_choose 19 = .ok (.ifCond .ne 13, 3) := by decide +kernel
theorem dX6_choose_22 : decode cX6_choose 22 = .ok (.new 69, 3) := by decide +kernel
theorem dX6_choose_25 : decode cX6_choose 25 = .ok (.dup, 1) := by decide +kernel
theorem dX6_choose_26 : decode cX6_choose 26 = .ok (.ldc 158, 2) := by decide +kernel
theorem dX6_choose_28 : decode cX6_choose 28 = .ok (.invokespecial 73, 3) := by decide +kernel
theorem dX6_choose_31 : decode cX6_choose 31 = .ok (.athrow, 1) := by decide +kernel
theorem dX6_choose_32 : decode cX6_choose 32 = .ok (.iload_n 2, 1) := by decide +kernel
theorem dX6_choose_33 : decode cX6_choose 33 = .ok (.invokestatic 112, 3) := by decide +kernel
theorem dX6_choose_36 : decode cX6_choose 36 = .ok (.ifCond .ne 18, 3) := by decide +kernel
theorem dX6_choose_39 : decode cX6_choose 39 = .ok (.iload_n 2, 1) := by decide +kernel
theorem dX6_choose_40 : decode cX6_choose 40 = .ok (.iconst (-1), 1) := by decide +kernel
theorem dX6_choose_41 : decode cX6_choose 41 = .ok (.if_icmp .eq 13, 3) := by decide +kernel
theorem dX6_choose_44 : decode cX6_choose 44 = .ok (.new 41, 3) := by decide +kernel
theorem dX6_choose_47 : decode cX6_choose 47 = .ok (.dup, 1) := by decide +kernel
theorem dX6_choose_48 : decode cX6_choose 48 = .ok (.ldc 166, 2) := by decide +kernel
theorem dX6_choose_50 : decode cX6_choose 50 = .ok (.invokespecial 45, 3) := by decide +kernel
theorem dX6_choose_53 : decode cX6_choose 53 = .ok (.athrow, 1) := by decide +kernel
theorem dX6_choose_54 : decode cX6_choose 54 = .ok (.aload_n 0, 1) := by decide +kernel
theorem dX6_choose_55 : decode cX6_choose 55 = .ok (.getfield 19, 3) := by decide +kernel
theorem dX6_choose_58 : decode cX6_choose 58 = .ok (.aload_n 0, 1) := by decide +kernel
theorem dX6_choose_59 : decode cX6_choose 59 = .ok (.getfield 10, 3) := by decide +kernel
theorem dX6_choose_62 : decode cX6_choose 62 = .ok (.invokevirtual 57, 3) := by decide +kernel
theorem dX6_choose_65 : decode cX6_choose 65 = .ok (.aload_n 0, 1) := by decide +kernel
theorem dX6_choose_66 : decode cX6_choose 66 = .ok (.getfield 10, 3) := by decide +kernel
theorem dX6_choose_69 : decode cX6_choose 69 = .ok (.aload_n 0, 1) := by decide +kernel
theorem dX6_choose_70 : decode cX6_choose 70 = .ok (.getfield 26, 3) := by decide +kernel
theorem dX6_choose_73 : decode cX6_choose 73 = .ok (.iload_n 1, 1) := by decide +kernel
theorem dX6_choose_74 : decode cX6_choose 74 = .ok (.invokevirtual 160, 3) := by decide +kernel
theorem dX6_choose_77 : decode cX6_choose 77 = .ok (.aload_n 0, 1) := by decide +kernel
theorem dX6_choose_78 : decode cX6_choose 78 = .ok (.getfield 26, 3) := by decide +kernel
theorem dX6_choose_81 : decode cX6_choose 81 = .ok (.iload_n 1, 1) := by decide +kernel
theorem dX6_choose_82 : decode cX6_choose 82 = .ok (.invokevirtual 163, 3) := by decide +kernel
theorem dX6_choose_85 : decode cX6_choose 85 = .ok (.iload_n 2, 1) := by decide +kernel
theorem dX6_choose_86 : decode cX6_choose 86 = .ok (.invokevirtual 168, 3) := by decide +kernel
theorem dX6_choose_89 : decode cX6_choose 89 = .ok (.ireturn, 1) := by decide +kernel
theorem dX6_prefer_0 : decode cX6_prefer 0 = .ok (.iload_n 1, 1) := by decide +kernel
theorem dX6_prefer_1 : decode cX6_prefer 1 = .ok (.invokestatic 112, 3) := by decide +kernel
theorem dX6_prefer_4 : decode cX6_prefer 4 = .ok (.ifCond .ne 13, 3) := by decide +kernel
theorem dX6_prefer_7 : decode cX6_prefer 7 = .ok (.new 69, 3) := by decide +kernel
theorem dX6_prefer_10 : decode cX6_prefer 10 = .ok (.dup, 1) := by decide +kernel
theorem dX6_prefer_11 : decode cX6_prefer 11 = .ok (.ldc 115, 2) := by decide +kernel
theorem dX6_prefer_13 : decode cX6_prefer 13 = .ok (.invokespecial 73, 3) := by decide +kernel
theorem dX6_prefer_16 : decode cX6_prefer 16 = .ok (.athrow, 1) := by decide +kernel
theorem dX6_prefer_17 : decode cX6_prefer 17 = .ok (.aload_n 0, 1) := by decide +kernel
theorem dX6_prefer_18 : decode cX6_prefer 18 = .ok (.getfield 19, 3) := by decide +kernel
theorem dX6_prefer_21 : decode cX6_prefer 21 = .ok (.aload_n 0, 1) := by decide +kernel
theorem dX6_prefer_22 : decode cX6_prefer 22 = .ok (.getfield 10, 3) := by decide +kernel
theorem dX6_prefer_25 : decode cX6_prefer 25 = .ok (.invokevirtual 57, 3) := by decide +kernel
theorem dX6_prefer_28 : decode cX6_prefer 28 = .ok (.aload_n 0, 1) := by decide +kernel
theorem dX6_prefer_29 : decode cX6_prefer 29 = .ok (.getfield 10, 3) := by decide +kernel
theorem dX6_prefer_32 : decode cX6_prefer 32 = .ok (.getfield 171, 3) := by decide +kernel
theorem dX6_prefer_35 : decode cX6_prefer 35 = .ok (.istore_n 2, 1) := by decide +kernel
theorem dX6_prefer_36 : decode cX6_prefer 36 = .ok (.aload_n 0, 1) := by decide +kernel
theorem dX6_prefer_37 : decode cX6_prefer 37 = .ok (.getfield 10, 3) := by decide +kernel
theorem dX6_prefer_40 : decode cX6_prefer 40 = .ok (.iload_n 1, 1) := by decide +kernel
theorem dX6_prefer_41 : decode cX6_prefer 41 = .ok (.putfield 171, 3) := by decide +kernel
theorem dX6_prefer_44 : decode cX6_prefer 44 = .ok (.iload_n 2, 1) := by decide +kernel
theorem dX6_prefer_45 : decode cX6_prefer 45 = .ok (.ireturn, 1) := by decide +kernel
theorem dX6_open_0 : decode cX6_open 0 = .ok (.aload_n 0, 1) := by decide +kernel
theorem dX6_open_1 : decode cX6_open 1 = .ok (.getfield 26, 3) := by decide +kernel
theorem dX6_open_4 : decode cX6_open 4 = .ok (.aload_n 0, 1) := by decide +kernel
theorem dX6_open_5 : decode cX6_open 5 = .ok (.getfield 10, 3) := by decide +kernel
theorem dX6_open_8 : decode cX6_open 8 = .ok (.invokevirtual 132, 3) := by decide +kernel
theorem dX6_open_11 : decode cX6_open 11 = .ok (.aload_n 0, 1) := by decide +kernel
theorem dX6_open_12 : decode cX6_open 12 = .ok (.getfield 26, 3) := by decide +kernel
theorem dX6_open_15 : decode cX6_open 15 = .ok (.aload_n 0, 1) := by decide +kernel
theorem dX6_open_16 : decode cX6_open 16 = .ok (.getfield 10, 3) := by decide +kernel
theorem dX6_open_19 : decode cX6_open 19 = .ok (.invokevirtual 174, 3) := by decide +kernel
theorem dX6_open_22 : decode cX6_open 22 = .ok (.ireturn, 1) := by decide +kernel
theorem dX6_accept_0 : decode cX6_accept 0 = .ok (.aload_n 0, 1) := by decide +kernel
theorem dX6_accept_1 : decode cX6_accept 1 = .ok (.getfield 26, 3) := by decide +kernel
theorem dX6_accept_4 : decode cX6_accept 4 = .ok (.aload_n 0, 1) := by decide +kernel
theorem dX6_accept_5 : decode cX6_accept 5 = .ok (.getfield 10, 3) := by decide +kernel
theorem dX6_accept_8 : decode cX6_accept 8 = .ok (.invokevirtual 132, 3) := by decide +kernel
theorem dX6_accept_11 : decode cX6_accept 11 = .ok (.aload_n 0, 1) := by decide +kernel
theorem dX6_accept_12 : decode cX6_accept 12 = .ok (.getfield 26, 3) := by decide +kernel
theorem dX6_accept_15 : decode cX6_accept 15 = .ok (.aload_n 0, 1) := by decide +kernel
theorem dX6_accept_16 : decode cX6_accept 16 = .ok (.getfield 10, 3) := by decide +kernel
theorem dX6_accept_19 : decode cX6_accept 19 = .ok (.invokevirtual 174, 3) := by decide +kernel
theorem dX6_accept_22 : decode cX6_accept 22 = .ok (.ifCond .gt 18, 3) := by decide +kernel
theorem dX6_accept_25 : decode cX6_accept 25 = .ok (.aload_n 0, 1) := by decide +kernel
theorem dX6_accept_26 : decode cX6_accept 26 = .ok (.getfield 26, 3) := by decide +kernel
theorem dX6_accept_29 : decode cX6_accept 29 = .ok (.getfield 147, 3) := by decide +kernel
theorem dX6_accept_32 : decode cX6_accept 32 = .ok (.getfield 108, 3) := by decide +kernel
theorem dX6_accept_35 : decode cX6_accept 35 = .ok (.bipush 10, 2) := by decide +kernel
theorem dX6_accept_37 : decode cX6_accept 37 = .ok (.if_icmp .le 13, 3) := by decide +kernel
theorem dX6_accept_40 : decode cX6_accept 40 = .ok (.new 52, 3) := by decide +kernel
theorem dX6_accept_43 : decode cX6_accept 43 = .ok (.dup, 1) := by decide +kernel
theorem dX6_accept_44 : decode cX6_accept 44 = .ok (.ldc 178, 2) := by decide +kernel
theorem dX6_accept_46 : decode cX6_accept 46 = .ok (.invokespecial 56, 3) := by decide +kernel
theorem dX6_accept_49 : decode cX6_accept 49 = .ok (.athrow, 1) := by decide +kernel
theorem dX6_accept_50 : decode cX6_accept 50 = .ok (.aload_n 0, 1) := by decide +kernel
theorem dX6_accept_51 : decode cX6_accept 51 = .ok (.getfield 19, 3) := by decide +kernel
theorem dX6_accept_54 : decode cX6_accept 54 = .ok (.aload_n 0, 1) := by decide +kernel
theorem dX6_accept_55 : decode cX6_accept 55 = .ok (.getfield 10, 3) := by decide +kernel
theorem dX6_accept_58 : decode cX6_accept 58 = .ok (.invokevirtual 57, 3) := by decide +kernel
theorem dX6_accept_61 : decode cX6_accept 61 = .ok (.aload_n 0, 1) := by decide +kernel
theorem dX6_accept_62 : decode cX6_accept 62 = .ok (.getfield 10, 3) := by decide +kernel
theorem dX6_accept_65 : decode cX6_accept 65 = .ok (.aload_n 0, 1) := by decide +kernel
theorem dX6_accept_66 : decode cX6_accept 66 = .ok (.getfield 26, 3) := by decide +kernel
theorem dX6_accept_69 : decode cX6_accept 69 = .ok (.getfield 147, 3) := by decide +kernel
theorem dX6_accept_72 : decode cX6_accept 72 = .ok (.invokevirtual 180, 3) := by decide +kernel
theorem dX6_accept_75 : decode cX6_accept 75 = .ok (.aload_n 0, 1) := by decide +kernel
theorem dX6_accept_76 : decode cX6_accept 76 = .ok (.getfield 10, 3) := by decide +kernel
theorem dX6_accept_79 : decode cX6_accept 79 = .ok (.getfield 104, 3) := by decide +kernel
theorem dX6_accept_82 : decode cX6_accept 82 = .ok (.getfield 108, 3) := by decide +kernel
theorem dX6_accept_85 : decode cX6_accept 85 = .ok (.ireturn, 1) := by decide +kernel
theorem dX6_accepted_0 : decode cX6_accepted 0 = .ok (.aload_n 0, 1) := by decide +kernel
theorem dX6_accepted_1 : decode cX6_accepted 1 = .ok (.getfield 10, 3) := by decide +kernel
theorem dX6_accepted_4 : decode cX6_accepted 4 = .ok (.getfield 184, 3) := by decide +kernel
theorem dX6_accepted_7 : decode cX6_accepted 7 = .ok (.ireturn, 1) := by decide +kernel
theorem dX6_similarity_0 : decode cX6_similarity 0 = .ok (.iload_n 1, 1) := by decide +kernel
theorem dX6_similarity_1 : decode cX6_similarity 1 = .ok (.invokestatic 112, 3) := by decide +kernel
theorem dX6_similarity_4 : decode cX6_similarity 4 = .ok (.ifCond .ne 13, 3) := by decide +kernel
theorem dX6_similarity_7 : decode cX6_similarity 7 = .ok (.new 69, 3) := by decide +kernel
theorem dX6_similarity_10 : decode cX6_similarity 10 = .ok (.dup, 1) := by decide +kernel
theorem dX6_similarity_11 : decode cX6_similarity 11 = .ok (.ldc 115, 2) := by decide +kernel
theorem dX6_similarity_13 : decode cX6_similarity 13 = .ok (.invokespecial 73, 3) := by decide +kernel
theorem dX6_similarity_16 : decode cX6_similarity 16 = .ok (.athrow, 1) := by decide +kernel
theorem dX6_similarity_17 : decode cX6_similarity 17 = .ok (.aload_n 0, 1) := by decide +kernel
theorem dX6_similarity_18 : decode cX6_similarity 18 = .ok (.getfield 26, 3) := by decide +kernel
theorem dX6_similarity_21 : decode cX6_similarity 21 = .ok (.aload_n 0, 1) := by decide +kernel
theorem dX6_similarity_22 : decode cX6_similarity 22 = .ok (.getfield 10, 3) := by decide +kernel
theorem dX6_similarity_25 : decode cX6_similarity 25 = .ok (.invokevirtual 132, 3) := by decide +kernel
theorem dX6_similarity_28 : decode cX6_similarity 28 = .ok (.aload_n 0, 1) := by decide +kernel
theorem dX6_similarity_29 : decode cX6_similarity 29 = .ok (.getfield 10, 3) := by decide +kernel
theorem dX6_similarity_32 : decode cX6_similarity 32 = .ok (.iload_n 1, 1) := by decide +kernel
theorem dX6_similarity_33 : decode cX6_similarity 33 = .ok (.invokevirtual 74, 3) := by decide +kernel
theorem dX6_similarity_36 : decode cX6_similarity 36 = .ok (.astore_n 2, 1) := by decide +kernel
theorem dX6_similarity_37 : decode cX6_similarity 37 = .ok (.aload_n 0, 1) := by decide +kernel
theorem dX6_similarity_38 : decode cX6_similarity 38 = .ok (.getfield 26, 3) := by decide +kernel
theorem dX6_similarity_41 : decode cX6_similarity 41 = .ok (.getfield 147, 3) := by decide +kernel
theorem dX6_similarity_44 : decode cX6_similarity 44 = .ok (.getfield 108, 3) := by decide +kernel
theorem dX6_similarity_47 : decode cX6_similarity 47 = .ok (.aload_n 2, 1) := by decide +kernel
theorem dX6_similarity_48 : decode cX6_similarity 48 = .ok (.getfield 108, 3) := by decide +kernel
theorem dX6_similarity_51 : decode cX6_similarity 51 = .ok (.iadd, 1) := by decide +kernel
theorem dX6_similarity_52 : decode cX6_similarity 52 = .ok (.aload_n 0, 1) := by decide +kernel
theorem dX6_similarity_53 : decode cX6_similarity 53 = .ok (.getfield 26, 3) := by decide +kernel
theorem dX6_similarity_56 : decode cX6_similarity 56 = .ok (.getfield 147, 3) := by decide +kernel
theorem dX6_similarity_59 : decode cX6_similarity 59 = .ok (.aload_n 2, 1) := by decide +kernel
theorem dX6_similarity_60 : decode cX6_similarity 60 = .ok (.iconst 0, 1) := by decide +kernel
theorem dX6_similarity_61 : decode cX6_similarity 61 = .ok (.invokevirtual 187, 3) := by decide +kernel
theorem dX6_similarity_64 : decode cX6_similarity 64 = .ok (.isub, 1) := by decide +kernel
theorem dX6_similarity_65 : decode cX6_similarity 65 = .ok (.istore_n 3, 1) := by decide +kernel
theorem dX6_similarity_66 : decode cX6_similarity 66 = .ok (.iload_n 3, 1) := by decide +kernel
theorem dX6_similarity_67 : decode cX6_similarity 67 = .ok (.ifCond .gt 5, 3) := by decide +kernel
theorem dX6_similarity_70 : decode cX6_similarity 70 = .ok (.dconst 1, 1) := by decide +kernel
theorem dX6_similarity_71 : decode cX6_similarity 71 = .ok (.dreturn, 1) := by decide +kernel
theorem dX6_similarity_72 : decode cX6_similarity 72 = .ok (.aload_n 0, 1) := by decide +kernel
theorem dX6_similarity_73 : decode cX6_similarity 73 = .ok (.getfield 26, 3) := by decide +kernel
theorem dX6_similarity_76 : decode cX6_similarity 76 = .ok (.getfield 147, 3) := by decide +kernel
theorem dX6_similarity_79 : decode cX6_similarity 79 = .ok (.aload_n 2, 1) := by decide +kernel
theorem dX6_similarity_80 : decode cX6_similarity 80 = .ok (.iconst 1, 1) := by decide +kernel
theorem dX6_similarity_81 : decode cX6_similarity 81 = .ok (.invokevirtual 187, 3) := by decide +kernel
theorem dX6_similarity_84 : decode cX6_similarity 84 = .ok (.i2d, 1) := by decide +kernel
theorem dX6_similarity_85 : decode cX6_similarity 85 = .ok (.iload_n 3, 1) := by decide +kernel
theorem dX6_similarity_86 : decode cX6_similarity 86 = .ok (.i2d, 1) := by decide +kernel
theorem dX6_similarity_87 : decode cX6_similarity 87 = .ok (.ddiv, 1) := by decide +kernel
theorem dX6_similarity_88 : decode cX6_similarity 88 = .ok (.dreturn, 1) := by decide +kernel
theorem dX6_append_0 : decode cX6_append 0 = .ok (.iload_n 1, 1) := by decide +kernel
theorem dX6_append_1 : decode cX6_append 1 = .ok (.bipush 33, 2) := by decide +kernel
theorem dX6_append_3 : decode cX6_append 3 = .ok (.if_icmp .lt 9, 3) := by decide +kernel
theorem dX6_append_6 : decode cX6_append 6 = .ok (.iload_n 1, 1) := by decide +kernel
theorem dX6_append_7 : decode cX6_append 7 = .ok (.bipush 126, 2) := by decide +kernel
theorem dX6_append_9 : decode cX6_append 9 = .ok (.if_icmp .le 13, 3) := by decide +kernel
theorem dX6_append_12 : decode cX6_append 12 = .ok (.new 41, 3) := by decide +kernel
theorem dX6_append_15 : decode cX6_append 15 = .ok (.dup, 1) := by decide +kernel
theorem dX6_append_16 : decode cX6_append 16 = .ok (.ldc 191, 2) := by decide +kernel
theorem dX6_append_18 : decode cX6_append 18 = .ok (.invokespecial 45, 3) := by decide +kernel
theorem dX6_append_21 : decode cX6_append 21 = .ok (.athrow, 1) := by decide +kernel
theorem dX6_append_22 : decode cX6_append 22 = .ok (.aload_n 0, 1) := by decide +kernel
theorem dX6_append_23 : decode cX6_append 23 = .ok (.getfield 33, 3) := by decide +kernel
theorem dX6_append_26 : decode cX6_append 26 = .ok (.getfield 193, 3) := by decide +kernel
theorem dX6_append_29 : decode cX6_append 29 = .ok (.bipush 60, 2) := by decide +kernel
theorem dX6_append_31 : decode cX6_append 31 = .ok (.if_icmp .lt 13, 3) := by decide +kernel
theorem dX6_append_34 : decode cX6_append 34 = .ok (.new 52, 3) := by decide +kernel
theorem dX6_append_37 : decode cX6_append 37 = .ok (.dup, 1) := by decide +kernel
theorem dX6_append_38 : decode cX6_append 38 = .ok (.ldc 196, 2) := by decide +kernel
theorem dX6_append_40 : decode cX6_append 40 = .ok (.invokespecial 56, 3) := by decide +kernel
theorem dX6_append_43 : decode cX6_append 43 = .ok (.athrow, 1) := by decide +kernel
theorem dX6_append_44 : decode cX6_append 44 = .ok (.aload_n 0, 1) := by decide +kernel
theorem dX6_append_45 : decode cX6_append 45 = .ok (.getfield 33, 3) := by decide +kernel
theorem dX6_append_48 : decode cX6_append 48 = .ok (.iload_n 1, 1) := by decide +kernel
theorem dX6_append_49 : decode cX6_append 49 = .ok (.invokevirtual 198, 3) := by decide +kernel
theorem dX6_append_52 : decode cX6_append 52 = .ok (.ireturn, 1) := by decide +kernel
theorem dX6_clearText_0 : decode cX6_clearText 0 = .ok (.aload_n 0, 1) := by decide +kernel
theorem dX6_clearText_1 : decode cX6_clearText 1 = .ok (.getfield 33, 3) := by decide +kernel
theorem dX6_clearText_4 : decode cX6_clearText 4 = .ok (.invokevirtual 201, 3) := by decide +kernel
theorem dX6_clearText_7 : decode cX6_clearText 7 = .ok (.ireturn, 1) := by decide +kernel
theorem dX6_firstError_0 : decode cX6_firstError 0 = .ok (.aload_n 0, 1) := by decide +kernel
theorem dX6_firstError_1 : decode cX6_firstError 1 = .ok (.getfield 33, 3) := by decide +kernel
theorem dX6_firstError_4 : decode cX6_firstError 4 = .ok (.invokevirtual 205, 3) := by decide +kernel
theorem dX6_firstError_7 : decode cX6_firstError 7 = .ok (.ireturn, 1) := by decide +kernel
theorem dX6_run_0 : decode cX6_run 0 = .ok (.aload_n 0, 1) := by decide +kernel
theorem dX6_run_1 : decode cX6_run 1 = .ok (.getfield 33, 3) := by decide +kernel
theorem dX6_run_4 : decode cX6_run 4 = .ok (.invokevirtual 208, 3) := by decide +kernel
theorem dX6_run_7 : decode cX6_run 7 = .ok (.ifCond .ne 13, 3) := by decide +kernel
theorem dX6_run_10 : decode cX6_run 10 = .ok (.new 41, 3) := by decide +kernel
theorem dX6_run_13 : decode cX6_run 13 = .ok (.dup, 1) := by decide +kernel
theorem dX6_run_14 : decode cX6_run 14 = .ok (.ldc 211, 2) := by decide +kernel
theorem dX6_run_16 : decode cX6_run 16 = .ok (.invokespecial 45, 3) := by decide +kernel
theorem dX6_run_19 : decode cX6_run 19 = .ok (.athrow, 1) := by decide +kernel
theorem dX6_run_20 : decode cX6_run 20 = .ok (.aload_n 0, 1) := by decide +kernel
theorem dX6_run_21 : decode cX6_run 21 = .ok (.getfield 19, 3) := by decide +kernel
theorem dX6_run_24 : decode cX6_run 24 = .ok (.aload_n 0, 1) := by decide +kernel
theorem dX6_run_25 : decode cX6_run 25 = .ok (.getfield 10, 3) := by decide +kernel
theorem dX6_run_28 : decode cX6_run 28 = .ok (.invokevirtual 57, 3) := by decide +kernel
theorem dX6_run_31 : decode cX6_run 31 = .ok (.aload_n 0, 1) := by decide +kernel
theorem dX6_run_32 : decode cX6_run 32 = .ok (.invokevirtual 213, 3) := by decide +kernel
theorem dX6_run_35 : decode cX6_run 35 = .ok (.istore_n 1, 1) := by decide +kernel
theorem dX6_run_36 : decode cX6_run 36 = .ok (.aload_n 0, 1) := by decide +kernel
theorem dX6_run_37 : decode cX6_run 37 = .ok (.getfield 33, 3) := by decide +kernel
theorem dX6_run_40 : decode cX6_run 40 = .ok (.invokevirtual 201, 3) := by decide +kernel
theorem dX6_run_43 : decode cX6_run 43 = .ok (.pop, 1) := by decide +kernel
theorem dX6_run_44 : decode cX6_run 44 = .ok (.iload_n 1, 1) := by decide +kernel
theorem dX6_run_45 : decode cX6_run 45 = .ok (.ireturn, 1) := by decide +kernel
theorem dX6_undo_0 : decode cX6_undo 0 = .ok (.aload_n 0, 1) := by decide +kernel
theorem dX6_undo_1 : decode cX6_undo 1 = .ok (.getfield 19, 3) := by decide +kernel
theorem dX6_undo_4 : decode cX6_undo 4 = .ok (.getfield 216, 3) := by decide +kernel
theorem dX6_undo_7 : decode cX6_undo 7 = .ok (.ifCond .gt 13, 3) := by decide +kernel
theorem dX6_undo_10 : decode cX6_undo 10 = .ok (.new 52, 3) := by decide +kernel
theorem dX6_undo_13 : decode cX6_undo 13 = .ok (.dup, 1) := by decide +kernel
theorem dX6_undo_14 : decode cX6_undo 14 = .ok (.ldc 217, 2) := by decide +kernel
theorem dX6_undo_16 : decode cX6_undo 16 = .ok (.invokespecial 56, 3) := by decide +kernel
theorem dX6_undo_19 : decode cX6_undo 19 = .ok (.athrow, 1) := by decide +kernel
theorem dX6_undo_20 : decode cX6_undo 20 = .ok (.aload_n 0, 1) := by decide +kernel
theorem dX6_undo_21 : decode cX6_undo 21 = .ok (.getfield 19, 3) := by decide +kernel
theorem dX6_undo_24 : decode cX6_undo 24 = .ok (.aload_n 0, 1) := by decide +kernel
theorem dX6_undo_25 : decode cX6_undo 25 = .ok (.getfield 10, 3) := by decide +kernel
theorem dX6_undo_28 : decode cX6_undo 28 = .ok (.invokevirtual 219, 3) := by decide +kernel
theorem dX6_undo_31 : decode cX6_undo 31 = .ok (.ireturn, 1) := by decide +kernel
theorem dX6_savedStates_0 : decode cX6_savedStates 0 = .ok (.aload_n 0, 1) := by decide +kernel
theorem dX6_savedStates_1 : decode cX6_savedStates 1 = .ok (.getfield 19, 3) := by decide +kernel
theorem dX6_savedStates_4 : decode cX6_savedStates 4 = .ok (.getfield 216, 3) := by decide +kernel
theorem dX6_savedStates_7 : decode cX6_savedStates 7 = .ok (.ireturn, 1) := by decide +kernel
theorem dX6_digest_0 : decode cX6_digest 0 = .ok (.aload_n 0, 1) := by decide +kernel
theorem dX6_digest_1 : decode cX6_digest 1 = .ok (.getfield 26, 3) := by decide +kernel
theorem dX6_digest_4 : decode cX6_digest 4 = .ok (.aload_n 0, 1) := by decide +kernel
theorem dX6_digest_5 : decode cX6_digest 5 = .ok (.getfield 10, 3) := by decide +kernel
theorem dX6_digest_8 : decode cX6_digest 8 = .ok (.invokevirtual 132, 3) := by decide +kernel
theorem dX6_digest_11 : decode cX6_digest 11 = .ok (.ldc2_w 222, 3) := by decide +kernel
theorem dX6_digest_14 : decode cX6_digest 14 = .ok (.aload_n 0, 1) := by decide +kernel
theorem dX6_digest_15 : decode cX6_digest 15 = .ok (.getfield 10, 3) := by decide +kernel
theorem dX6_digest_18 : decode cX6_digest 18 = .ok (.getfield 104, 3) := by decide +kernel
theorem dX6_digest_21 : decode cX6_digest 21 = .ok (.getfield 108, 3) := by decide +kernel
theorem dX6_digest_24 : decode cX6_digest 24 = .ok (.invokestatic 224, 3) := by decide +kernel
theorem dX6_digest_27 : decode cX6_digest 27 = .ok (.lstore_n 1, 1) := by decide +kernel
theorem dX6_digest_28 : decode cX6_digest 28 = .ok (.lload_n 1, 1) := by decide +kernel
theorem dX6_digest_29 : decode cX6_digest 29 = .ok (.aload_n 0, 1) := by decide +kernel
theorem dX6_digest_30 : decode cX6_digest 30 = .ok (.getfield 26, 3) := by decide +kernel
theorem dX6_digest_33 : decode cX6_digest 33 = .ok (.getfield 147, 3) := by decide +kernel
theorem dX6_digest_36 : decode cX6_digest 36 = .ok (.getfield 108, 3) := by decide +kernel
theorem dX6_digest_39 : decode cX6_digest 39 = .ok (.invokestatic 224, 3) := by decide +kernel
theorem dX6_digest_42 : decode cX6_digest 42 = .ok (.lstore_n 1, 1) := by decide +kernel
theorem dX6_digest_43 : decode cX6_digest 43 = .ok (.lload_n 1, 1) := by decide +kernel
theorem dX6_digest_44 : decode cX6_digest 44 = .ok (.aload_n 0, 1) := by decide +kernel
theorem dX6_digest_45 : decode cX6_digest 45 = .ok (.getfield 26, 3) := by decide +kernel
theorem dX6_digest_48 : decode cX6_digest 48 = .ok (.getfield 152, 3) := by decide +kernel
theorem dX6_digest_51 : decode cX6_digest 51 = .ok (.invokestatic 224, 3) := by decide +kernel
theorem dX6_digest_54 : decode cX6_digest 54 = .ok (.lstore_n 1, 1) := by decide +kernel
theorem dX6_digest_55 : decode cX6_digest 55 = .ok (.lload_n 1, 1) := by decide +kernel
theorem dX6_digest_56 : decode cX6_digest 56 = .ok (.aload_n 0, 1) := by decide +kernel
theorem dX6_digest_57 : decode cX6_digest 57 = .ok (.getfield 26, 3) := by decide +kernel
theorem dX6_digest_60 : decode cX6_digest 60 = .ok (.aload_n 0, 1) := by decide +kernel
theorem dX6_digest_61 : decode cX6_digest 61 = .ok (.getfield 10, 3) := by decide +kernel
theorem dX6_digest_64 : decode cX6_digest 64 = .ok (.invokevirtual 174, 3) := by decide +kernel
theorem dX6_digest_67 : decode cX6_digest 67 = .ok (.invokestatic 224, 3) := by decide +kernel
theorem dX6_digest_70 : decode cX6_digest 70 = .ok (.lstore_n 1, 1) := by decide +kernel
theorem dX6_digest_71 : decode cX6_digest 71 = .ok (.lload_n 1, 1) := by decide +kernel
theorem dX6_digest_72 : decode cX6_digest 72 = .ok (.aload_n 0, 1) := by decide +kernel
theorem dX6_digest_73 : decode cX6_digest 73 = .ok (.getfield 10, 3) := by decide +kernel
theorem dX6_digest_76 : decode cX6_digest 76 = .ok (.getfield 184, 3) := by decide +kernel
theorem dX6_digest_79 : decode cX6_digest 79 = .ok (.invokestatic 224, 3) := by decide +kernel
theorem dX6_digest_82 : decode cX6_digest 82 = .ok (.lstore_n 1, 1) := by decide +kernel
theorem dX6_digest_83 : decode cX6_digest 83 = .ok (.lload_n 1, 1) := by decide +kernel
theorem dX6_digest_84 : decode cX6_digest 84 = .ok (.aload_n 0, 1) := by decide +kernel
theorem dX6_digest_85 : decode cX6_digest 85 = .ok (.getfield 10, 3) := by decide +kernel
theorem dX6_digest_88 : decode cX6_digest 88 = .ok (.getfield 228, 3) := by decide +kernel
theorem dX6_digest_91 : decode cX6_digest 91 = .ok (.getfield 108, 3) := by decide +kernel
theorem dX6_digest_94 : decode cX6_digest 94 = .ok (.invokestatic 224, 3) := by decide +kernel
theorem dX6_digest_97 : decode cX6_digest 97 = .ok (.aload_n 0, 1) := by decide +kernel
theorem dX6_digest_98 : decode cX6_digest 98 = .ok (.getfield 10, 3) := by decide +kernel
theorem dX6_digest_101 : decode cX6_digest 101 = .ok (.getfield 228, 3) := by decide +kernel
theorem dX6_digest_104 : decode cX6_digest 104 = .ok (.invokestatic 231, 3) := by decide +kernel
theorem dX6_digest_107 : decode cX6_digest 107 = .ok (.lstore_n 1, 1) := by decide +kernel
theorem dX6_digest_108 : decode cX6_digest 108 = .ok (.lload_n 1, 1) := by decide +kernel
theorem dX6_digest_109 : decode cX6_digest 109 = .ok (.aload_n 0, 1) := by decide +kernel
theorem dX6_digest_110 : decode cX6_digest 110 = .ok (.getfield 10, 3) := by decide +kernel
theorem dX6_digest_113 : decode cX6_digest 113 = .ok (.getfield 235, 3) := by decide +kernel
theorem dX6_digest_116 : decode cX6_digest 116 = .ok (.getfield 108, 3) := by decide +kernel
theorem dX6_digest_119 : decode cX6_digest 119 = .ok (.invokestatic 224, 3) := by decide +kernel
theorem dX6_digest_122 : decode cX6_digest 122 = .ok (.aload_n 0, 1) := by decide +kernel
theorem dX6_digest_123 : decode cX6_digest 123 = .ok (.getfield 10, 3) := by decide +kernel
theorem dX6_digest_126 : decode cX6_digest 126 = .ok (.getfield 235, 3) := by decide +kernel
theorem dX6_digest_129 : decode cX6_digest 129 = .ok (.invokestatic 231, 3) := by decide +kernel
theorem dX6_digest_132 : decode cX6_digest 132 = .ok (.lstore_n 1, 1) := by decide +kernel
theorem dX6_digest_133 : decode cX6_digest 133 = .ok (.iconst 0, 1) := by decide +kernel
theorem dX6_digest_134 : decode cX6_digest 134 = .ok (.istore_n 3, 1) := by decide +kernel
theorem dX6_digest_135 : decode cX6_digest 135 = .ok (.iload_n 3, 1) := by decide +kernel
theorem dX6_digest_136 : decode cX6_digest 136 = .ok (.aload_n 0, 1) := by decide +kernel
theorem dX6_digest_137 : decode cX6_digest 137 = .ok (.getfield 10, 3) := by decide +kernel
theorem dX6_digest_140 : decode cX6_digest 140 = .ok (.getfield 104, 3) := by decide +kernel
theorem dX6_digest_143 : decode cX6_digest 143 = .ok (.getfield 108, 3) := by decide +kernel
theorem dX6_digest_146 : decode cX6_digest 146 = .ok (.if_icmp .ge 41, 3) := by decide +kernel
theorem dX6_digest_149 : decode cX6_digest 149 = .ok (.lload_n 1, 1) := by decide +kernel
theorem dX6_digest_150 : decode cX6_digest 150 = .ok (.aload_n 0, 1) := by decide +kernel
theorem dX6_digest_151 : decode cX6_digest 151 = .ok (.getfield 26, 3) := by decide +kernel
theorem dX6_digest_154 : decode cX6_digest 154 = .ok (.getfield 238, 3) := by decide +kernel
theorem dX6_digest_157 : decode cX6_digest 157 = .ok (.iload_n 3, 1) := by decide +kernel
theorem dX6_digest_158 : decode cX6_digest 158 = .ok (.invokevirtual 139, 3) := by decide +kernel
theorem dX6_digest_161 : decode cX6_digest 161 = .ok (.invokestatic 224, 3) := by decide +kernel
theorem dX6_digest_164 : decode cX6_digest 164 = .ok (.lstore_n 1, 1) := by decide +kernel
theorem dX6_digest_165 : decode cX6_digest 165 = .ok (.lload_n 1, 1) := by decide +kernel
theorem dX6_digest_166 : decode cX6_digest 166 = .ok (.aload_n 0, 1) := by decide +kernel
theorem dX6_digest_167 : decode cX6_digest 167 = .ok (.getfield 26, 3) := by decide +kernel
theorem dX6_digest_170 : decode cX6_digest 170 = .ok (.getfield 242, 3) := by decide +kernel
theorem dX6_digest_173 : decode cX6_digest 173 = .ok (.iload_n 3, 1) := by decide +kernel
theorem dX6_digest_174 : decode cX6_digest 174 = .ok (.invokevirtual 139, 3) := by decide +kernel
theorem dX6_digest_177 : decode cX6_digest 177 = .ok (.invokestatic 224, 3) := by decide +kernel
theorem dX6_digest_180 : decode cX6_digest 180 = .ok (.lstore_n 1, 1) := by decide +kernel
theorem dX6_digest_181 : decode cX6_digest 181 = .ok (.iinc 3 1, 3) := by decide +kernel
theorem dX6_digest_184 : decode cX6_digest 184 = .ok (.goto (-49), 3) := by decide +kernel
theorem dX6_digest_187 : decode cX6_digest 187 = .ok (.lload_n 1, 1) := by decide +kernel
theorem dX6_digest_188 : decode cX6_digest 188 = .ok (.aload_n 0, 1) := by decide +kernel
theorem dX6_digest_189 : decode cX6_digest 189 = .ok (.getfield 26, 3) := by decide +kernel
theorem dX6_digest_192 : decode cX6_digest 192 = .ok (.getfield 147, 3) := by decide +kernel
theorem dX6_digest_195 : decode cX6_digest 195 = .ok (.invokestatic 231, 3) := by decide +kernel
theorem dX6_digest_198 : decode cX6_digest 198 = .ok (.lstore_n 1, 1) := by decide +kernel
theorem dX6_digest_199 : decode cX6_digest 199 = .ok (.iconst 0, 1) := by decide +kernel
theorem dX6_digest_200 : decode cX6_digest 200 = .ok (.istore_n 3, 1) := by decide +kernel
theorem dX6_digest_201 : decode cX6_digest 201 = .ok (.iload_n 3, 1) := by decide +kernel
theorem dX6_digest_202 : decode cX6_digest 202 = .ok (.aload_n 0, 1) := by decide +kernel
theorem dX6_digest_203 : decode cX6_digest 203 = .ok (.getfield 26, 3) := by decide +kernel
theorem dX6_digest_206 : decode cX6_digest 206 = .ok (.getfield 152, 3) := by decide +kernel
theorem dX6_digest_209 : decode cX6_digest 209 = .ok (.if_icmp .ge 35, 3) := by decide +kernel
theorem dX6_digest_212 : decode cX6_digest 212 = .ok (.lload_n 1, 1) := by decide +kernel
theorem dX6_digest_213 : decode cX6_digest 213 = .ok (.aload_n 0, 1) := by decide +kernel
theorem dX6_digest_214 : decode cX6_digest 214 = .ok (.getfield 26, 3) := by decide +kernel
theorem dX6_digest_217 : decode cX6_digest 217 = .ok (.iload_n 3, 1) := by decide +kernel
theorem dX6_digest_218 : decode cX6_digest 218 = .ok (.invokevirtual 160, 3) := by decide +kernel
theorem dX6_digest_221 : decode cX6_digest 221 = .ok (.invokestatic 224, 3) := by decide +kernel
theorem dX6_digest_224 : decode cX6_digest 224 = .ok (.lstore_n 1, 1) := by decide +kernel
theorem dX6_digest_225 : decode cX6_digest 225 = .ok (.lload_n 1, 1) := by decide +kernel
theorem dX6_digest_226 : decode cX6_digest 226 = .ok (.aload_n 0, 1) := by decide +kernel
theorem dX6_digest_227 : decode cX6_digest 227 = .ok (.getfield 26, 3) := by decide +kernel
theorem dX6_digest_230 : decode cX6_digest 230 = .ok (.iload_n 3, 1) := by decide +kernel
theorem dX6_digest_231 : decode cX6_digest 231 = .ok (.invokevirtual 163, 3) := by decide +kernel
theorem dX6_digest_234 : decode cX6_digest 234 = .ok (.invokestatic 224, 3) := by decide +kernel
theorem dX6_digest_237 : decode cX6_digest 237 = .ok (.lstore_n 1, 1) := by decide +kernel
theorem dX6_digest_238 : decode cX6_digest 238 = .ok (.iinc 3 1, 3) := by decide +kernel
theorem dX6_digest_241 : decode cX6_digest 241 = .ok (.goto (-40), 3) := by decide +kernel
theorem dX6_digest_244 : decode cX6_digest 244 = .ok (.lload_n 1, 1) := by decide +kernel
theorem dX6_digest_245 : decode cX6_digest 245 = .ok (.lreturn, 1) := by decide +kernel
theorem dX6_mixedWithBlocks_0 : decode cX6_mixedWithBlocks 0 = .ok (.lload_n 0, 1) := by decide +kernel
theorem dX6_mixedWithBlocks_1 : decode cX6_mixedWithBlocks 1 = .ok (.lstore_n 3, 1) := by decide +kernel
theorem dX6_mixedWithBlocks_2 : decode cX6_mixedWithBlocks 2 = .ok (.iconst 0, 1) := by decide +kernel
theorem dX6_mixedWithBlocks_3 : decode cX6_mixedWithBlocks 3 = .ok (.istore 5, 2) := by decide +kernel
theorem dX6_mixedWithBlocks_5 : decode cX6_mixedWithBlocks 5 = .ok (.iload 5, 2) := by decide +kernel
theorem dX6_mixedWithBlocks_7 : decode cX6_mixedWithBlocks 7 = .ok (.aload_n 2, 1) := by decide +kernel
theorem dX6_mixedWithBlocks_8 : decode cX6_mixedWithBlocks 8 = .ok (.getfield 108, 3) := by decide +kernel
theorem dX6_mixedWithBlocks_11 : decode cX6_mixedWithBlocks 11 = .ok (.if_icmp .ge 31, 3) := by decide +kernel
theorem dX6_mixedWithBlocks_14 : decode cX6_mixedWithBlocks 14 = .ok (.lload_n 3, 1) := by decide +kernel
theorem dX6_mixedWithBlocks_15 : decode cX6_mixedWithBlocks 15 = .ok (.aload_n 2, 1) := by decide +kernel
theorem dX6_mixedWithBlocks_16 : decode cX6_mixedWithBlocks 16 = .ok (.iload 5, 2) := by decide +kernel
theorem dX6_mixedWithBlocks_18 : decode cX6_mixedWithBlocks 18 = .ok (.invokevirtual 121, 3) := by decide +kernel
theorem dX6_mixedWithBlocks_21 : decode cX6_mixedWithBlocks 21 = .ok (.invokestatic 224, 3) := by decide +kernel
theorem dX6_mixedWithBlocks_24 : decode cX6_mixedWithBlocks 24 = .ok (.lstore_n 3, 1) := by decide +kernel
theorem dX6_mixedWithBlocks_25 : decode cX6_mixedWithBlocks 25 = .ok (.lload_n 3, 1) := by decide +kernel
theorem dX6_mixedWithBlocks_26 : decode cX6_mixedWithBlocks 26 = .ok (.aload_n 2, 1) := by decide +kernel
theorem dX6_mixedWithBlocks_27 : decode cX6_mixedWithBlocks 27 = .ok (.iload 5, 2) := by decide +kernel
theorem dX6_mixedWithBlocks_29 : decode cX6_mixedWithBlocks 29 = .ok (.invokevirtual 124, 3) := by decide +kernel
theorem dX6_mixedWithBlocks_32 : decode cX6_mixedWithBlocks 32 = .ok (.invokestatic 224, 3) := by decide +kernel
theorem dX6_mixedWithBlocks_35 : decode cX6_mixedWithBlocks 35 = .ok (.lstore_n 3, 1) := by decide +kernel
theorem dX6_mixedWithBlocks_36 : decode cX6_mixedWithBlocks 36 = .ok (.iinc 5 1, 3) := by decide +kernel
theorem dX6_mixedWithBlocks_39 : decode cX6_mixedWithBlocks 39 = .ok (.goto (-34), 3) := by decide +kernel
theorem dX6_mixedWithBlocks_42 : decode cX6_mixedWithBlocks 42 = .ok (.lload_n 3, 1) := by decide +kernel
theorem dX6_mixedWithBlocks_43 : decode cX6_mixedWithBlocks 43 = .ok (.lreturn, 1) := by decide +kernel
theorem dX6_mixed_0 : decode cX6_mixed 0 = .ok (.ldc2_w 245, 3) := by decide +kernel
theorem dX6_mixed_3 : decode cX6_mixed 3 = .ok (.lload_n 0, 1) := by decide +kernel
theorem dX6_mixed_4 : decode cX6_mixed 4 = .ok (.lmul, 1) := by decide +kernel
theorem dX6_mixed_5 : decode cX6_mixed 5 = .ok (.iload_n 2, 1) := by decide +kernel
theorem dX6_mixed_6 : decode cX6_mixed 6 = .ok (.i2l, 1) := by decide +kernel
theorem dX6_mixed_7 : decode cX6_mixed 7 = .ok (.ladd, 1) := by decide +kernel
theorem dX6_mixed_8 : decode cX6_mixed 8 = .ok (.lreturn, 1) := by decide +kernel
theorem dX6_isDraft_0 : decode cX6_isDraft 0 = .ok (.iload_n 0, 1) := by decide +kernel
theorem dX6_isDraft_1 : decode cX6_isDraft 1 = .ok (.ifCond .eq 8, 3) := by decide +kernel
theorem dX6_isDraft_4 : decode cX6_isDraft 4 = .ok (.iload_n 0, 1) := by decide +kernel
theorem dX6_isDraft_5 : decode cX6_isDraft 5 = .ok (.iconst 1, 1) := by decide +kernel
theorem dX6_isDraft_6 : decode cX6_isDraft 6 = .ok (.if_icmp .ne 7, 3) := by decide +kernel
theorem dX6_isDraft_9 : decode cX6_isDraft 9 = .ok (.iconst 1, 1) := by decide +kernel
theorem dX6_isDraft_10 : decode cX6_isDraft 10 = .ok (.goto 4, 3) := by decide +kernel
theorem dX6_isDraft_13 : decode cX6_isDraft 13 = .ok (.iconst 0, 1) := by decide +kernel
theorem dX6_isDraft_14 : decode cX6_isDraft 14 = .ok (.ireturn, 1) := by decide +kernel
theorem dX6_isContent_0 : decode cX6_isContent 0 = .ok (.iload_n 0, 1) := by decide +kernel
theorem dX6_isContent_1 : decode cX6_isContent 1 = .ok (.ifCond .lt 13, 3) := by decide +kernel
theorem dX6_isContent_4 : decode cX6_isContent 4 = .ok (.iload_n 0, 1) := by decide +kernel
theorem dX6_isContent_5 : decode cX6_isContent 5 = .ok (.bipush 99, 2) := by decide +kernel
theorem dX6_isContent_7 : decode cX6_isContent 7 = .ok (.if_icmp .gt 7, 3) := by decide +kernel
theorem dX6_isContent_10 : decode cX6_isContent 10 = .ok (.iconst 1, 1) := by decide +kernel
theorem dX6_isContent_11 : decode cX6_isContent 11 = .ok (.goto 4, 3) := by decide +kernel
theorem dX6_isContent_14 : decode cX6_isContent 14 = .ok (.iconst 0, 1) := by decide +kernel
theorem dX6_isContent_15 : decode cX6_isContent 15 = .ok (.ireturn, 1) := by decide +kernel
theorem dX6_hasPosition_0 : decode cX6_hasPosition 0 = .ok (.iload_n 1, 1) := by decide +kernel
theorem dX6_hasPosition_1 : decode cX6_hasPosition 1 = .ok (.invokestatic 112, 3) := by decide +kernel
theorem dX6_hasPosition_4 : decode cX6_hasPosition 4 = .ok (.ifCond .eq 22, 3) := by decide +kernel
theorem dX6_hasPosition_7 : decode cX6_hasPosition 7 = .ok (.aload_n 0, 1) := by decide +kernel
theorem dX6_hasPosition_8 : decode cX6_hasPosition 8 = .ok (.getfield 10, 3) := by decide +kernel
theorem dX6_hasPosition_11 : decode cX6_hasPosition 11 = .ok (.iload_n 1, 1) := by decide +kernel
theorem dX6_hasPosition_12 : decode cX6_hasPosition 12 = .ok (.invokevirtual 74, 3) := by decide +kernel
theorem dX6_hasPosition_15 : decode cX6_hasPosition 15 = .ok (.iload_n 2, 1) := by decide +kernel
theorem dX6_hasPosition_16 : decode cX6_hasPosition 16 = .ok (.invokevirtual 127, 3) := by decide +kernel
theorem dX6_hasPosition_19 : decode cX6_hasPosition 19 = .ok (.ifCond .eq 7, 3) := by decide +kernel
theorem dX6_hasPosition_22 : decode cX6_hasPosition 22 = .ok (.iconst 1, 1) := by decide +kernel
theorem dX6_hasPosition_23 : decode cX6_hasPosition 23 = .ok (.goto 4, 3) := by decide +kernel
theorem dX6_hasPosition_26 : decode cX6_hasPosition 26 = .ok (.iconst 0, 1) := by decide +kernel
theorem dX6_hasPosition_27 : decode cX6_hasPosition 27 = .ok (.ireturn, 1) := by decide +kernel
theorem dX6_editFault_0 : decode cX6_editFault 0 = .ok (.aload_n 0, 1) := by decide +kernel
theorem dX6_editFault_1 : decode cX6_editFault 1 = .ok (.iload_n 1, 1) := by decide +kernel
theorem dX6_editFault_2 : decode cX6_editFault 2 = .ok (.iload_n 2, 1) := by decide +kernel
theorem dX6_editFault_3 : decode cX6_editFault 3 = .ok (.invokevirtual 117, 3) := by decide +kernel
theorem dX6_editFault_6 : decode cX6_editFault 6 = .ok (.ifCond .ne 5, 3) := by decide +kernel
theorem dX6_editFault_9 : decode cX6_editFault 9 = .ok (.iconst 1, 1) := by decide +kernel
theorem dX6_editFault_10 : decode cX6_editFault 10 = .ok (.ireturn, 1) := by decide +kernel
theorem dX6_editFault_11 : decode cX6_editFault 11 = .ok (.iload_n 3, 1) := by decide +kernel
theorem dX6_editFault_12 : decode cX6_editFault 12 = .ok (.invokestatic 37, 3) := by decide +kernel
theorem dX6_editFault_15 : decode cX6_editFault 15 = .ok (.ifCond .eq 7, 3) := by decide +kernel
theorem dX6_editFault_18 : decode cX6_editFault 18 = .ok (.iconst 0, 1) := by decide +kernel
theorem dX6_editFault_19 : decode cX6_editFault 19 = .ok (.goto 4, 3) := by decide +kernel
theorem dX6_editFault_22 : decode cX6_editFault 22 = .ok (.iconst 2, 1) := by decide +kernel
theorem dX6_editFault_23 : decode cX6_editFault 23 = .ok (.ireturn, 1) := by decide +kernel
theorem dX6_moveFault_0 : decode cX6_moveFault 0 = .ok (.aload_n 0, 1) := by decide +kernel
theorem dX6_moveFault_1 : decode cX6_moveFault 1 = .ok (.iload_n 1, 1) := by decide +kernel
theorem dX6_moveFault_2 : decode cX6_moveFault 2 = .ok (.iload_n 2, 1) := by decide +kernel
theorem dX6_moveFault_3 : decode cX6_moveFault 3 = .ok (.invokevirtual 117, 3) := by decide +kernel
theorem dX6_moveFault_6 : decode cX6_moveFault 6 = .ok (.ifCond .eq 16, 3) := by decide +kernel
theorem dX6_moveFault_9 : decode cX6_moveFault 9 = .ok (.aload_n 0, 1) := by decide +kernel
theorem dX6_moveFault_10 : decode cX6_moveFault 10 = .ok (.iload_n 1, 1) := by decide +kernel
theorem dX6_moveFault_11 : decode cX6_moveFault 11 = .ok (.iload_n 3, 1) := by decide +kernel
theorem dX6_moveFault_12 : decode cX6_moveFault 12 = .ok (.invokevirtual 117, 3) := by decide +kernel
theorem dX6_moveFault_15 : decode cX6_moveFault 15 = .ok (.ifCond .eq 7, 3) := by decide +kernel
theorem dX6_moveFault_18 : decode cX6_moveFault 18 = .ok (.iconst 0, 1) := by decide +kernel
theorem dX6_moveFault_19 : decode cX6_moveFault 19 = .ok (.goto 4, 3) := by decide +kernel
theorem dX6_moveFault_22 : decode cX6_moveFault 22 = .ok (.iconst 1, 1) := by decide +kernel
theorem dX6_moveFault_23 : decode cX6_moveFault 23 = .ok (.ireturn, 1) := by decide +kernel
theorem dX6_insertFault_0 : decode cX6_insertFault 0 = .ok (.iload_n 1, 1) := by decide +kernel
theorem dX6_insertFault_1 : decode cX6_insertFault 1 = .ok (.invokestatic 112, 3) := by decide +kernel
theorem dX6_insertFault_4 : decode cX6_insertFault 4 = .ok (.ifCond .eq 22, 3) := by decide +kernel
theorem dX6_insertFault_7 : decode cX6_insertFault 7 = .ok (.iload_n 2, 1) := by decide +kernel
theorem dX6_insertFault_8 : decode cX6_insertFault 8 = .ok (.ifCond .lt 18, 3) := by decide +kernel
theorem dX6_insertFault_11 : decode cX6_insertFault 11 = .ok (.iload_n 2, 1) := by decide +kernel
theorem dX6_insertFault_12 : decode cX6_insertFault 12 = .ok (.aload_n 0, 1) := by decide +kernel
theorem dX6_insertFault_13 : decode cX6_insertFault 13 = .ok (.getfield 10, 3) := by decide +kernel
theorem dX6_insertFault_16 : decode cX6_insertFault 16 = .ok (.iload_n 1, 1) := by decide +kernel
theorem dX6_insertFault_17 : decode cX6_insertFault 17 = .ok (.invokevirtual 74, 3) := by decide +kernel
theorem dX6_insertFault_20 : decode cX6_insertFault 20 = .ok (.getfield 108, 3) := by decide +kernel
theorem dX6_insertFault_23 : decode cX6_insertFault 23 = .ok (.if_icmp .le 5, 3) := by decide +kernel
theorem dX6_insertFault_26 : decode cX6_insertFault 26 = .ok (.iconst 1, 1) := by decide +kernel
theorem dX6_insertFault_27 : decode cX6_insertFault 27 = .ok (.ireturn, 1) := by decide +kernel
theorem dX6_insertFault_28 : decode cX6_insertFault 28 = .ok (.iload_n 3, 1) := by decide +kernel
theorem dX6_insertFault_29 : decode cX6_insertFault 29 = .ok (.invokestatic 37, 3) := by decide +kernel
theorem dX6_insertFault_32 : decode cX6_insertFault 32 = .ok (.ifCond .ne 5, 3) := by decide +kernel
theorem dX6_insertFault_35 : decode cX6_insertFault 35 = .ok (.iconst 2, 1) := by decide +kernel
theorem dX6_insertFault_36 : decode cX6_insertFault 36 = .ok (.ireturn, 1) := by decide +kernel
theorem dX6_insertFault_37 : decode cX6_insertFault 37 = .ok (.aload_n 0, 1) := by decide +kernel
theorem dX6_insertFault_38 : decode cX6_insertFault 38 = .ok (.getfield 10, 3) := by decide +kernel
theorem dX6_insertFault_41 : decode cX6_insertFault 41 = .ok (.iload_n 1, 1) := by decide +kernel
theorem dX6_insertFault_42 : decode cX6_insertFault 42 = .ok (.invokevirtual 74, 3) := by decide +kernel
theorem dX6_insertFault_45 : decode cX6_insertFault 45 = .ok (.invokevirtual 247, 3) := by decide +kernel
theorem dX6_insertFault_48 : decode cX6_insertFault 48 = .ok (.ifCond .ne 15, 3) := by decide +kernel
theorem dX6_insertFault_51 : decode cX6_insertFault 51 = .ok (.aload_n 0, 1) := by decide +kernel
theorem dX6_insertFault_52 : decode cX6_insertFault 52 = .ok (.getfield 10, 3) := by decide +kernel
theorem dX6_insertFault_55 : decode cX6_insertFault 55 = .ok (.getfield 250, 3) := by decide +kernel
theorem dX6_insertFault_58 : decode cX6_insertFault 58 = .ok (.bipush 30, 2) := by decide +kernel
theorem dX6_insertFault_60 : decode cX6_insertFault 60 = .ok (.if_icmp .lt 7, 3) := by decide +kernel
theorem dX6_insertFault_63 : decode cX6_insertFault 63 = .ok (.iconst 3, 1) := by decide +kernel
theorem dX6_insertFault_64 : decode cX6_insertFault 64 = .ok (.goto 4, 3) := by decide +kernel
theorem dX6_insertFault_67 : decode cX6_insertFault 67 = .ok (.iconst 0, 1) := by decide +kernel
theorem dX6_insertFault_68 : decode cX6_insertFault 68 = .ok (.ireturn, 1) := by decide +kernel
theorem dX6_removeFault_0 : decode cX6_removeFault 0 = .ok (.aload_n 0, 1) := by decide +kernel
theorem dX6_removeFault_1 : decode cX6_removeFault 1 = .ok (.iload_n 1, 1) := by decide +kernel
theorem dX6_removeFault_2 : decode cX6_removeFault 2 = .ok (.iload_n 2, 1) := by decide +kernel
theorem dX6_removeFault_3 : decode cX6_removeFault 3 = .ok (.invokevirtual 117, 3) := by decide +kernel
theorem dX6_removeFault_6 : decode cX6_removeFault 6 = .ok (.ifCond .eq 7, 3) := by decide +kernel
theorem dX6_removeFault_9 : decode cX6_removeFault 9 = .ok (.iconst 0, 1) := by decide +kernel
theorem dX6_removeFault_10 : decode cX6_removeFault 10 = .ok (.goto 4, 3) := by decide +kernel
theorem dX6_removeFault_13 : decode cX6_removeFault 13 = .ok (.iconst 1, 1) := by decide +kernel
theorem dX6_removeFault_14 : decode cX6_removeFault 14 = .ok (.ireturn, 1) := by decide +kernel
theorem dX6_executeText_0 : decode cX6_executeText 0 = .ok (.iconst 0, 1) := by decide +kernel
theorem dX6_executeText_1 : decode cX6_executeText 1 = .ok (.istore_n 1, 1) := by decide +kernel
theorem dX6_executeText_2 : decode cX6_executeText 2 = .ok (.aload_n 0, 1) := by decide +kernel
theorem dX6_executeText_3 : decode cX6_executeText 3 = .ok (.getfield 33, 3) := by decide +kernel
theorem dX6_executeText_6 : decode cX6_executeText 6 = .ok (.invokevirtual 253, 3) := by decide +kernel
theorem dX6_executeText_9 : decode cX6_executeText 9 = .ok (.iconst 0, 1) := by decide +kernel
theorem dX6_executeText_10 : decode cX6_executeText 10 = .ok (.istore_n 2, 1) := by decide +kernel
theorem dX6_executeText_11 : decode cX6_executeText 11 = .ok (.iload_n 2, 1) := by decide +kernel
theorem dX6_executeText_12 : decode cX6_executeText 12 = .ok (.aload_n 0, 1) := by decide +kernel
theorem dX6_executeText_13 : decode cX6_executeText 13 = .ok (.getfield 33, 3) := by decide +kernel
theorem dX6_executeText_16 : decode cX6_executeText 16 = .ok (.getfield 193, 3) := by decide +kernel
theorem dX6_executeText_19 : decode cX6_executeText 19 = .ok (.if_icmp .gt 56, 3) := by decide +kernel
theorem dX6_executeText_22 : decode cX6_executeText 22 = .ok (.aload_n 0, 1) := by decide +kernel
theorem dX6_executeText_23 : decode cX6_executeText 23 = .ok (.getfield 33, 3) := by decide +kernel
theorem dX6_executeText_26 : decode cX6_executeText 26 = .ok (.iload_n 2, 1) := by decide +kernel
theorem dX6_executeText_27 : decode cX6_executeText 27 = .ok (.invokevirtual 256, 3) := by decide +kernel
theorem dX6_executeText_30 : decode cX6_executeText 30 = .ok (.istore_n 3, 1) := by decide +kernel
theorem dX6_executeText_31 : decode cX6_executeText 31 = .ok (.iload_n 2, 1) := by decide +kernel
theorem dX6_executeText_32 : decode cX6_executeText 32 = .ok (.aload_n 0, 1) := by decide +kernel
theorem dX6_executeText_33 : decode cX6_executeText 33 = .ok (.getfield 33, 3) := by decide +kernel
theorem dX6_executeText_36 : decode cX6_executeText 36 = .ok (.getfield 193, 3) := by decide +kernel
theorem dX6_executeText_39 : decode cX6_executeText 39 = .ok (.if_icmp .eq 9, 3) := by decide +kernel
theorem dX6_executeText_42 : decode cX6_executeText 42 = .ok (.iload_n 3, 1) := by decide +kernel
theorem dX6_executeText_43 : decode cX6_executeText 43 = .ok (.bipush 59, 2) := by decide +kernel
theorem dX6_executeText_45 : decode cX6_executeText 45 = .ok (.if_icmp .ne 15, 3) := by decide +kernel
theorem dX6_executeText_48 : decode cX6_executeText 48 = .ok (.aload_n 0, 1) := by decide +kernel
theorem dX6_executeText_49 : decode cX6_executeText 49 = .ok (.invokevirtual 259, 3) := by decide +kernel
theorem dX6_executeText_52 : decode cX6_executeText 52 = .ok (.ifCond .ne 5, 3) := by decide +kernel
theorem dX6_executeText_55 : decode cX6_executeText 55 = .ok (.iload_n 1, 1) := by decide +kernel
theorem dX6_executeText_56 : decode cX6_executeText 56 = .ok (.ireturn, 1) := by decide +kernel
theorem dX6_executeText_57 : decode cX6_executeText 57 = .ok (.iinc 1 1, 3) := by decide +kernel
theorem dX6_executeText_60 : decode cX6_executeText 60 = .ok (.aload_n 0, 1) := by decide +kernel
theorem dX6_executeText_61 : decode cX6_executeText 61 = .ok (.getfield 33, 3) := by decide +kernel
theorem dX6_executeText_64 : decode cX6_executeText 64 = .ok (.iload_n 3, 1) := by decide +kernel
theorem dX6_executeText_65 : decode cX6_executeText 65 = .ok (.invokevirtual 262, 3) := by decide +kernel
theorem dX6_executeText_68 : decode cX6_executeText 68 = .ok (.pop, 1) := by decide +kernel
theorem dX6_executeText_69 : decode cX6_executeText 69 = .ok (.iinc 2 1, 3) := by decide +kernel
theorem dX6_executeText_72 : decode cX6_executeText 72 = .ok (.goto (-61), 3) := by decide +kernel
theorem dX6_executeText_75 : decode cX6_executeText 75 = .ok (.iload_n 1, 1) := by decide +kernel
theorem dX6_executeText_76 : decode cX6_executeText 76 = .ok (.ireturn, 1) := by decide +kernel
theorem dX6_executeCommand_0 : decode cX6_executeCommand 0 = .ok (.aload_n 0, 1) := by decide +kernel
theorem dX6_executeCommand_1 : decode cX6_executeCommand 1 = .ok (.getfield 33, 3) := by decide +kernel
theorem dX6_executeCommand_4 : decode cX6_executeCommand 4 = .ok (.getfield 265, 3) := by decide +kernel
theorem dX6_executeCommand_7 : decode cX6_executeCommand 7 = .ok (.istore_n 1, 1) := by decide +kernel
theorem dX6_executeCommand_8 : decode cX6_executeCommand 8 = .ok (.aload_n 0, 1) := by decide +kernel
theorem dX6_executeCommand_9 : decode cX6_executeCommand 9 = .ok (.getfield 33, 3) := by decide +kernel
theorem dX6_executeCommand_12 : decode cX6_executeCommand 12 = .ok (.getfield 267, 3) := by decide +kernel
theorem dX6_executeCommand_15 : decode cX6_executeCommand 15 = .ok (.istore_n 2, 1) := by decide +kernel
theorem dX6_executeCommand_16 : decode cX6_executeCommand 16 = .ok (.aload_n 0, 1) := by decide +kernel
theorem dX6_executeCommand_17 : decode cX6_executeCommand 17 = .ok (.getfield 33, 3) := by decide +kernel
theorem dX6_executeCommand_20 : decode cX6_executeCommand 20 = .ok (.getfield 270, 3) := by decide +kernel
theorem dX6_executeCommand_23 : decode cX6_executeCommand 23 = .ok (.istore_n 3, 1) := by decide +kernel
theorem dX6_executeCommand_24 : decode cX6_executeCommand 24 = .ok (.aload_n 0, 1) := by decide +kernel
theorem dX6_executeCommand_25 : decode cX6_executeCommand 25 = .ok (.getfield 33, 3) := by decide +kernel
theorem dX6_executeCommand_28 : decode cX6_executeCommand 28 = .ok (.getfield 273, 3) := by decide +kernel
theorem dX6_executeCommand_31 : decode cX6_executeCommand 31 = .ok (.bipush 101, 2) := by decide +kernel
theorem dX6_executeCommand_33 : decode cX6_executeCommand 33 = .ok (.if_icmp .ne 29, 3) := by decide +kernel
theorem dX6_executeCommand_36 : decode cX6_executeCommand 36 = .ok (.aload_n 0, 1) := by decide +kernel
theorem dX6_executeCommand_37 : decode cX6_executeCommand 37 = .ok (.iload_n 1, 1) := by decide +kernel
theorem dX6_executeCommand_38 : decode cX6_executeCommand 38 = .ok (.iload_n 2, 1) := by decide +kernel
theorem dX6_executeCommand_39 : decode cX6_executeCommand 39 = .ok (.iload_n 3, 1) := by decide +kernel
theorem dX6_executeCommand_40 : decode cX6_executeCommand 40 = .ok (.invokevirtual 65, 3) := by decide +kernel
theorem dX6_executeCommand_43 : decode cX6_executeCommand 43 = .ok (.ifCond .ne 19, 3) := by decide +kernel
theorem dX6_executeCommand_46 : decode cX6_executeCommand 46 = .ok (.aload_n 0, 1) := by decide +kernel
theorem dX6_executeCommand_47 : decode cX6_executeCommand 47 = .ok (.getfield 10, 3) := by decide +kernel
theorem dX6_executeCommand_50 : decode cX6_executeCommand 50 = .ok (.iload_n 1, 1) := by decide +kernel
theorem dX6_executeCommand_51 : decode cX6_executeCommand 51 = .ok (.invokevirtual 74, 3) := by decide +kernel
theorem dX6_executeCommand_54 : decode cX6_executeCommand 54 = .ok (.iload_n 2, 1) := by decide +kernel
theorem dX6_executeCommand_55 : decode cX6_executeCommand 55 = .ok (.iload_n 3, 1) := by decide +kernel
theorem dX6_executeCommand_56 : decode cX6_executeCommand 56 = .ok (.invokevirtual 78, 3) := by decide +kernel
theorem dX6_executeCommand_59 : decode cX6_executeCommand 59 = .ok (.pop, 1) := by decide +kernel
theorem dX6_executeCommand_60 : decode cX6_executeCommand 60 = .ok (.iconst 1, 1) := by decide +kernel
theorem dX6_executeCommand_61 : decode cX6_executeCommand 61 = .ok (.ireturn, 1) := by decide +kernel
theorem dX6_executeCommand_62 : decode cX6_executeCommand 62 = .ok (.aload_n 0, 1) := by decide +kernel
theorem dX6_executeCommand_63 : decode cX6_executeCommand 63 = .ok (.getfield 33, 3) := by decide +kernel
theorem dX6_executeCommand_66 : decode cX6_executeCommand 66 = .ok (.getfield 273, 3) := by decide +kernel
theorem dX6_executeCommand_69 : decode cX6_executeCommand 69 = .ok (.bipush 109, 2) := by decide +kernel
theorem dX6_executeCommand_71 : decode cX6_executeCommand 71 = .ok (.if_icmp .ne 29, 3) := by decide +kernel
theorem dX6_executeCommand_74 : decode cX6_executeCommand 74 = .ok (.aload_n 0, 1) := by decide +kernel
theorem dX6_executeCommand_75 : decode cX6_executeCommand 75 = .ok (.iload_n 1, 1) := by decide +kernel
theorem dX6_executeCommand_76 : decode cX6_executeCommand 76 = .ok (.iload_n 2, 1) := by decide +kernel
theorem dX6_executeCommand_77 : decode cX6_executeCommand 77 = .ok (.iload_n 3, 1) := by decide +kernel
theorem dX6_executeCommand_78 : decode cX6_executeCommand 78 = .ok (.invokevirtual 84, 3) := by decide +kernel
theorem dX6_executeCommand_81 : decode cX6_executeCommand 81 = .ok (.ifCond .ne 19, 3) := by decide +kernel
theorem dX6_executeCommand_84 : decode cX6_executeCommand 84 = .ok (.aload_n 0, 1) := by decide +kernel
theorem dX6_executeCommand_85 : decode cX6_executeCommand 85 = .ok (.getfield 10, 3) := by decide +kernel
theorem dX6_executeCommand_88 : decode cX6_executeCommand 88 = .ok (.iload_n 1, 1) := by decide +kernel
theorem dX6_executeCommand_89 : decode cX6_executeCommand 89 = .ok (.invokevirtual 74, 3) := by decide +kernel
theorem dX6_executeCommand_92 : decode cX6_executeCommand 92 = .ok (.iload_n 2, 1) := by decide +kernel
theorem dX6_executeCommand_93 : decode cX6_executeCommand 93 = .ok (.iload_n 3, 1) := by decide +kernel
theorem dX6_executeCommand_94 : decode cX6_executeCommand 94 = .ok (.invokevirtual 87, 3) := by decide +kernel
theorem dX6_executeCommand_97 : decode cX6_executeCommand 97 = .ok (.pop, 1) := by decide +kernel
theorem dX6_executeCommand_98 : decode cX6_executeCommand 98 = .ok (.iconst 1, 1) := by decide +kernel
theorem dX6_executeCommand_99 : decode cX6_executeCommand 99 = .ok (.ireturn, 1) := by decide +kernel
theorem dX6_executeCommand_100 : decode cX6_executeCommand 100 = .ok (.aload_n 0, 1) := by decide +kernel
theorem dX6_executeCommand_101 : decode cX6_executeCommand 101 = .ok (.getfield 33, 3) := by decide +kernel
theorem dX6_executeCommand_104 : decode cX6_executeCommand 104 = .ok (.getfield 273, 3) := by decide +kernel
theorem dX6_executeCommand_107 : decode cX6_executeCommand 107 = .ok (.bipush 105, 2) := by decide +kernel
theorem dX6_executeCommand_109 : decode cX6_executeCommand 109 = .ok (.if_icmp .ne 26, 3) := by decide +kernel
theorem dX6_executeCommand_112 : decode cX6_executeCommand 112 = .ok (.aload_n 0, 1) := by decide +kernel
theorem dX6_executeCommand_113 : decode cX6_executeCommand 113 = .ok (.iload_n 1, 1) := by decide +kernel
theorem dX6_executeCommand_114 : decode cX6_executeCommand 114 = .ok (.iload_n 2, 1) := by decide +kernel
theorem dX6_executeCommand_115 : decode cX6_executeCommand 115 = .ok (.iload_n 3, 1) := by decide +kernel
theorem dX6_executeCommand_116 : decode cX6_executeCommand 116 = .ok (.invokevirtual 90, 3) := by decide +kernel
theorem dX6_executeCommand_119 : decode cX6_executeCommand 119 = .ok (.ifCond .ne 16, 3) := by decide +kernel
theorem dX6_executeCommand_122 : decode cX6_executeCommand 122 = .ok (.aload_n 0, 1) := by decide +kernel
theorem dX6_executeCommand_123 : decode cX6_executeCommand 123 = .ok (.getfield 10, 3) := by decide +kernel
theorem dX6_executeCommand_126 : decode cX6_executeCommand 126 = .ok (.iload_n 1, 1) := by decide +kernel
theorem dX6_executeCommand_127 : decode cX6_executeCommand 127 = .ok (.iload_n 2, 1) := by decide +kernel
theorem dX6_executeCommand_128 : decode cX6_executeCommand 128 = .ok (.iload_n 3, 1) := by decide +kernel
theorem dX6_executeCommand_129 : decode cX6_executeCommand 129 = .ok (.invokevirtual 95, 3) := by decide +kernel
theorem dX6_executeCommand_132 : decode cX6_executeCommand 132 = .ok (.pop, 1) := by decide +kernel
theorem dX6_executeCommand_133 : decode cX6_executeCommand 133 = .ok (.iconst 1, 1) := by decide +kernel
theorem dX6_executeCommand_134 : decode cX6_executeCommand 134 = .ok (.ireturn, 1) := by decide +kernel
theorem dX6_executeCommand_135 : decode cX6_executeCommand 135 = .ok (.aload_n 0, 1) := by decide +kernel
theorem dX6_executeCommand_136 : decode cX6_executeCommand 136 = .ok (.getfield 33, 3) := by decide +kernel
theorem dX6_executeCommand_139 : decode cX6_executeCommand 139 = .ok (.getfield 273, 3) := by decide +kernel
theorem dX6_executeCommand_142 : decode cX6_executeCommand 142 = .ok (.bipush 114, 2) := by decide +kernel
theorem dX6_executeCommand_144 : decode cX6_executeCommand 144 = .ok (.if_icmp .ne 27, 3) := by decide +kernel
theorem dX6_executeCommand_147 : decode cX6_executeCommand 147 = .ok (.aload_n 0, 1) := by decide +kernel
theorem dX6_executeCommand_148 : decode cX6_executeCommand 148 = .ok (.iload_n 1, 1) := by decide +kernel
theorem dX6_executeCommand_149 : decode cX6_executeCommand 149 = .ok (.iload_n 2, 1) := by decide +kernel
theorem dX6_executeCommand_150 : decode cX6_executeCommand 150 = .ok (.invokevirtual 98, 3) := by decide +kernel
theorem dX6_executeCommand_153 : decode cX6_executeCommand 153 = .ok (.ifCond .ne 18, 3) := by decide +kernel
theorem dX6_executeCommand_156 : decode cX6_executeCommand 156 = .ok (.aload_n 0, 1) := by decide +kernel
theorem dX6_executeCommand_157 : decode cX6_executeCommand 157 = .ok (.getfield 10, 3) := by decide +kernel
theorem dX6_executeCommand_160 : decode cX6_executeCommand 160 = .ok (.iload_n 1, 1) := by decide +kernel
theorem dX6_executeCommand_161 : decode cX6_executeCommand 161 = .ok (.invokevirtual 74, 3) := by decide +kernel
theorem dX6_executeCommand_164 : decode cX6_executeCommand 164 = .ok (.iload_n 2, 1) := by decide +kernel
theorem dX6_executeCommand_165 : decode cX6_executeCommand 165 = .ok (.invokevirtual 101, 3) := by decide +kernel
theorem dX6_executeCommand_168 : decode cX6_executeCommand 168 = .ok (.pop, 1) := by decide +kernel
theorem dX6_executeCommand_169 : decode cX6_executeCommand 169 = .ok (.iconst 1, 1) := by decide +kernel
theorem dX6_executeCommand_170 : decode cX6_executeCommand 170 = .ok (.ireturn, 1) := by decide +kernel
theorem dX6_executeCommand_171 : decode cX6_executeCommand 171 = .ok (.iconst 0, 1) := by decide +kernel
theorem dX6_executeCommand_172 : decode cX6_executeCommand 172 = .ok (.ireturn, 1) := by decide +kernel
theorem dX6_cell_0 : decode cX6_cell 0 = .ok (.iload_n 1, 1) := by decide +kernel
theorem dX6_cell_1 : decode cX6_cell 1 = .ok (.ifCond .lt 15, 3) := by decide +kernel
theorem dX6_cell_4 : decode cX6_cell 4 = .ok (.iload_n 1, 1) := by decide +kernel
theorem dX6_cell_5 : decode cX6_cell 5 = .ok (.aload_n 0, 1) := by decide +kernel
theorem dX6_cell_6 : decode cX6_cell 6 = .ok (.arraylength, 1) := by decide +kernel
theorem dX6_cell_7 : decode cX6_cell 7 = .ok (.if_icmp .ge 9, 3) := by decide +kernel
theorem dX6_cell_10 : decode cX6_cell 10 = .ok (.aload_n 0, 1) := by decide +kernel
theorem dX6_cell_11 : decode cX6_cell 11 = .ok (.iload_n 1, 1) := by decide +kernel
theorem dX6_cell_12 : decode cX6_cell 12 = .ok (.iaload, 1) := by decide +kernel
theorem dX6_cell_13 : decode cX6_cell 13 = .ok (.goto 4, 3) := by decide +kernel
theorem dX6_cell_16 : decode cX6_cell 16 = .ok (.iconst (-1), 1) := by decide +kernel
theorem dX6_cell_17 : decode cX6_cell 17 = .ok (.ireturn, 1) := by decide +kernel
theorem dX6_setCell_0 : decode cX6_setCell 0 = .ok (.iload_n 1, 1) := by decide +kernel
theorem dX6_setCell_1 : decode cX6_setCell 1 = .ok (.ifCond .lt 13, 3) := by decide +kernel
theorem dX6_setCell_4 : decode cX6_setCell 4 = .ok (.iload_n 1, 1) := by decide +kernel
theorem dX6_setCell_5 : decode cX6_setCell 5 = .ok (.aload_n 0, 1) := by decide +kernel
theorem dX6_setCell_6 : decode cX6_setCell 6 = .ok (.arraylength, 1) := by decide +kernel
theorem dX6_setCell_7 : decode cX6_setCell 7 = .ok (.if_icmp .ge 7, 3) := by decide +kernel
theorem dX6_setCell_10 : decode cX6_setCell 10 = .ok (.aload_n 0, 1) := by decide +kernel
theorem dX6_setCell_11 : decode cX6_setCell 11 = .ok (.iload_n 1, 1) := by decide +kernel
theorem dX6_setCell_12 : decode cX6_setCell 12 = .ok (.iload_n 2, 1) := by decide +kernel
theorem dX6_setCell_13 : decode cX6_setCell 13 = .ok (.iastore, 1) := by decide +kernel
theorem dX6_setCell_14 : decode cX6_setCell 14 = .ok (.return_, 1) := by decide +kernel
theorem dX7_init_0 : decode cX7_init 0 = .ok (.aload_n 0, 1) := by decide +kernel
theorem dX7_init_1 : decode cX7_init 1 = .ok (.invokespecial 1, 3) := by decide +kernel
theorem dX7_init_4 : decode cX7_init 4 = .ok (.aload_n 0, 1) := by decide +kernel
theorem dX7_init_5 : decode cX7_init 5 = .ok (.bipush 106, 2) := by decide +kernel
theorem dX7_init_7 : decode cX7_init 7 = .ok (.newarray .int, 2) := by decide +kernel
theorem dX7_init_9 : decode cX7_init 9 = .ok (.putfield 7, 3) := by decide +kernel
theorem dX7_init_12 : decode cX7_init 12 = .ok (.aload_n 0, 1) := by decide +kernel
theorem dX7_init_13 : decode cX7_init 13 = .ok (.sipush 636, 3) := by decide +kernel
theorem dX7_init_16 : decode cX7_init 16 = .ok (.newarray .int, 2) := by decide +kernel
theorem dX7_init_18 : decode cX7_init 18 = .ok (.putfield 13, 3) := by decide +kernel
theorem dX7_init_21 : decode cX7_init 21 = .ok (.aload_n 0, 1) := by decide +kernel
theorem dX7_init_22 : decode cX7_init 22 = .ok (.bipush 60, 2) := by decide +kernel
theorem dX7_init_24 : decode cX7_init 24 = .ok (.newarray .int, 2) := by decide +kernel
theorem dX7_init_26 : decode cX7_init 26 = .ok (.putfield 16, 3) := by decide +kernel
theorem dX7_init_29 : decode cX7_init 29 = .ok (.aload_n 0, 1) := by decide +kernel
theorem dX7_init_30 : decode cX7_init 30 = .ok (.bipush 20, 2) := by decide +kernel
theorem dX7_init_32 : decode cX7_init 32 = .ok (.newarray .boolean, 2) := by decide +kernel
theorem dX7_init_34 : decode cX7_init 34 = .ok (.putfield 19, 3) := by decide +kernel
theorem dX7_init_37 : decode cX7_init 37 = .ok (.aload_n 0, 1) := by decide +kernel
theorem dX7_init_38 : decode cX7_init 38 = .ok (.bipush 30, 2) := by decide +kernel
theorem dX7_init_40 : decode cX7_init 40 = .ok (.newarray .int, 2) := by decide +kernel
theorem dX7_init_42 : decode cX7_init 42 = .ok (.putfield 23, 3) := by decide +kernel
theorem dX7_init_45 : decode cX7_init 45 = .ok (.aload_n 0, 1) := by decide +kernel
theorem dX7_init_46 : decode cX7_init 46 = .ok (.bipush 30, 2) := by decide +kernel
theorem dX7_init_48 : decode cX7_init 48 = .ok (.newarray .int, 2) := by decide +kernel
theorem dX7_init_50 : decode cX7_init 50 = .ok (.putfield 26, 3) := by decide +kernel
theorem dX7_init_53 : decode cX7_init 53 = .ok (.aload_n 0, 1) := by decide +kernel
theorem dX7_init_54 : decode cX7_init 54 = .ok (.bipush 20, 2) := by decide +kernel
theorem dX7_init_56 : decode cX7_init 56 = .ok (.newarray .int, 2) := by decide +kernel
theorem dX7_init_58 : decode cX7_init 58 = .ok (.putfield 29, 3) := by decide +kernel
theorem dX7_init_61 : decode cX7_init 61 = .ok (.aload_n 0, 1) := by decide +kernel
theorem dX7_init_62 : decode cX7_init 62 = .ok (.bipush 20, 2) := by decide +kernel
theorem dX7_init_64 : decode cX7_init 64 = .ok (.newarray .int, 2) := by decide +kernel
theorem dX7_init_66 : decode cX7_init 66 = .ok (.putfield 32, 3) := by decide +kernel
theorem dX7_init_69 : decode cX7_init 69 = .ok (.aload_n 0, 1) := by decide +kernel
theorem dX7_init_70 : decode cX7_init 70 = .ok (.bipush 10, 2) := by decide +kernel
theorem dX7_init_72 : decode cX7_init 72 = .ok (.newarray .int, 2) := by decide +kernel
theorem dX7_init_74 : decode cX7_init 74 = .ok (.putfield 35, 3) := by decide +kernel
theorem dX7_init_77 : decode cX7_init 77 = .ok (.aload_n 0, 1) := by decide +kernel
theorem dX7_init_78 : decode cX7_init 78 = .ok (.bipush 10, 2) := by decide +kernel
theorem dX7_init_80 : decode cX7_init 80 = .ok (.newarray .int, 2) := by decide +kernel
theorem dX7_init_82 : decode cX7_init 82 = .ok (.putfield 38, 3) := by decide +kernel
theorem dX7_init_85 : decode cX7_init 85 = .ok (.aload_n 0, 1) := by decide +kernel
theorem dX7_init_86 : decode cX7_init 86 = .ok (.bipush 16, 2) := by decide +kernel
theorem dX7_init_88 : decode cX7_init 88 = .ok (.newarray .int, 2) := by decide +kernel
theorem dX7_init_90 : decode cX7_init 90 = .ok (.putfield 41, 3) := by decide +kernel
theorem dX7_init_93 : decode cX7_init 93 = .ok (.aload_n 0, 1) := by decide +kernel
theorem dX7_init_94 : decode cX7_init 94 = .ok (.iconst 0, 1) := by decide +kernel
theorem dX7_init_95 : decode cX7_init 95 = .ok (.putfield 44, 3) := by decide +kernel
theorem dX7_init_98 : decode cX7_init 98 = .ok (.return_, 1) := by decide +kernel
theorem dX7_thrown_0 : decode cX7_thrown 0 = .ok (.aload_n 0, 1) := by decide +kernel
theorem dX7_thrown_1 : decode cX7_thrown 1 = .ok (.getfield 48, 3) := by decide +kernel
theorem dX7_thrown_4 : decode cX7_thrown 4 = .ok (.ireturn, 1) := by decide +kernel
theorem dX7_refused_0 : decode cX7_refused 0 = .ok (.aload_n 0, 1) := by decide +kernel
theorem dX7_refused_1 : decode cX7_refused 1 = .ok (.iload_n 1, 1) := by decide +kernel
theorem dX7_refused_2 : decode cX7_refused 2 = .ok (.putfield 48, 3) := by decide +kernel
theorem dX7_refused_5 : decode cX7_refused 5 = .ok (.iload_n 1, 1) := by decide +kernel
theorem dX7_refused_6 : decode cX7_refused 6 = .ok (.ifCond .le 7, 3) := by decide +kernel
theorem dX7_refused_9 : decode cX7_refused 9 = .ok (.iconst 1, 1) := by decide +kernel
theorem dX7_refused_10 : decode cX7_refused 10 = .ok (.goto 4, 3) := by decide +kernel
theorem dX7_refused_13 : decode cX7_refused 13 = .ok (.iconst 0, 1) := by decide +kernel
theorem dX7_refused_14 : decode cX7_refused 14 = .ok (.ireturn, 1) := by decide +kernel
theorem dX7_in_0 : decode cX7_in 0 = .ok (.iload_n 0, 1) := by decide +kernel
theorem dX7_in_1 : decode cX7_in 1 = .ok (.iload_n 1, 1) := by decide +kernel
theorem dX7_in_2 : decode cX7_in 2 = .ok (.if_icmp .lt 12, 3) := by decide +kernel
theorem dX7_in_5 : decode cX7_in 5 = .ok (.iload_n 0, 1) := by decide +kernel
theorem dX7_in_6 : decode cX7_in 6 = .ok (.iload_n 2, 1) := by decide +kernel
theorem dX7_in_7 : decode cX7_in 7 = .ok (.if_icmp .gt 7, 3) := by decide +kernel
theorem dX7_in_10 : decode cX7_in 10 = .ok (.iconst 1, 1) := by decide +kernel
theorem dX7_in_11 : decode cX7_in 11 = .ok (.goto 4, 3) := by decide +kernel
theorem dX7_in_14 : decode cX7_in 14 = .ok (.iconst 0, 1) := by decide +kernel
theorem dX7_in_15 : decode cX7_in 15 = .ok (.ireturn, 1) := by decide +kernel
theorem dX7_saves_0 : decode cX7_saves 0 = .ok (.aload_n 0, 1) := by decide +kernel
theorem dX7_saves_1 : decode cX7_saves 1 = .ok (.getfield 51, 3) := by decide +kernel
theorem dX7_saves_4 : decode cX7_saves 4 = .ok (.bipush 6, 2) := by decide +kernel
theorem dX7_saves_6 : decode cX7_saves 6 = .ok (.if_icmp .ne 43, 3) := by decide +kernel
theorem dX7_saves_9 : decode cX7_saves 9 = .ok (.iconst 0, 1) := by decide +kernel
theorem dX7_saves_10 : decode cX7_saves 10 = .ok (.istore_n 1, 1) := by decide +kernel
theorem dX7_saves_11 : decode cX7_saves 11 = .ok (.iload_n 1, 1) := by decide +kernel
theorem dX7_saves_12 : decode cX7_saves 12 = .ok (.sipush 530, 3) := by decide +kernel
theorem dX7_saves_15 : decode cX7_saves 15 = .ok (.if_icmp .ge 24, 3) := by decide +kernel
theorem dX7_saves_18 : decode cX7_saves 18 = .ok (.aload_n 0, 1) := by decide +kernel
theorem dX7_saves_19 : decode cX7_saves 19 = .ok (.getfield 13, 3) := by decide +kernel
theorem dX7_saves_22 : decode cX7_saves 22 = .ok (.iload_n 1, 1) := by decide +kernel
theorem dX7_saves_23 : decode cX7_saves 23 = .ok (.aload_n 0, 1) := by decide +kernel
theorem dX7_saves_24 : decode cX7_saves 24 = .ok (.getfield 13, 3) := by decide +kernel
theorem dX7_saves_27 : decode cX7_saves 27 = .ok (.bipush 106, 2) := by decide +kernel
theorem dX7_saves_29 : decode cX7_saves 29 = .ok (.iload_n 1, 1) := by decide +kernel
theorem dX7_saves_30 : decode cX7_saves 30 = .ok (.iadd, 1) := by decide +kernel
theorem dX7_saves_31 : decode cX7_saves 31 = .ok (.iaload, 1) := by decide +kernel
theorem dX7_saves_32 : decode cX7_saves 32 = .ok (.iastore, 1) := by decide +kernel
theorem dX7_saves_33 : decode cX7_saves 33 = .ok (.iinc 1 1, 3) := by decide +kernel
theorem dX7_saves_36 : decode cX7_saves 36 = .ok (.goto (-25), 3) := by decide +kernel
theorem dX7_saves_39 : decode cX7_saves 39 = .ok (.aload_n 0, 1) := by decide +kernel
theorem dX7_saves_40 : decode cX7_saves 40 = .ok (.dup, 1) := by decide +kernel
theorem dX7_saves_41 : decode cX7_saves 41 = .ok (.getfield 51, 3) := by decide +kernel
theorem dX7_saves_44 : decode cX7_saves 44 = .ok (.iconst 1, 1) := by decide +kernel
theorem dX7_saves_45 : decode cX7_saves 45 = .ok (.isub, 1) := by decide +kernel
theorem dX7_saves_46 : decode cX7_saves 46 = .ok (.putfield 51, 3) := by decide +kernel
theorem dX7_saves_49 : decode cX7_saves 49 = .ok (.iconst 0, 1) := by decide +kernel
theorem dX7_saves_50 : decode cX7_saves 50 = .ok (.istore_n 1, 1) := by decide +kernel
theorem dX7_saves_51 : decode cX7_saves 51 = .ok (.iload_n 1, 1) := by decide +kernel
theorem dX7_saves_52 : decode cX7_saves 52 = .ok (.bipush 106, 2) := by decide +kernel
theorem dX7_saves_54 : decode cX7_saves 54 = .ok (.if_icmp .ge 29, 3) := by decide +kernel
theorem dX7_saves_57 : decode cX7_saves 57 = .ok (.aload_n 0, 1) := by decide +kernel
theorem dX7_saves_58 : decode cX7_saves 58 = .ok (.getfield 13, 3) := by decide +kernel
theorem dX7_saves_61 : decode cX7_saves 61 = .ok (.bipush 106, 2) := by decide +kernel
theorem dX7_saves_63 : decode cX7_saves 63 = .ok (.aload_n 0, 1) := by decide +kernel
theorem dX7_saves_64 : decode cX7_saves 64 = .ok (.getfield 51, 3) := by decide +kernel
theorem dX7_saves_67 : decode cX7_saves 67 = .ok (.imul, 1) := by decide +kernel
theorem dX7_saves_68 : decode cX7_saves 68 = .ok (.iload_n 1, 1) := by decide +kernel
theorem dX7_saves_69 : decode cX7_saves 69 = .ok (.iadd, 1) := by decide +kernel
theorem dX7_saves_70 : decode cX7_saves 70 = .ok (.aload_n 0, 1) := by decide +kernel
theorem dX7_saves_71 : decode cX7_saves 71 = .ok (.getfield 7, 3) := by decide +kernel
theorem dX7_saves_74 : decode cX7_saves 74 = .ok (.iload_n 1, 1) := by decide +kernel
theorem dX7_saves_75 : decode cX7_saves 75 = .ok (.iaload, 1) := by decide +kernel
theorem dX7_saves_76 : decode cX7_saves 76 = .ok (.iastore, 1) := by decide +kernel
theorem dX7_saves_77 : decode cX7_saves 77 = .ok (.iinc 1 1, 3) := by decide +kernel
theorem dX7_saves_80 : decode cX7_saves 80 = .ok (.goto (-29), 3) := by decide +kernel
theorem dX7_saves_83 : decode cX7_saves 83 = .ok (.aload_n 0, 1) := by decide +kernel
theorem dX7_saves_84 : decode cX7_saves 84 = .ok (.dup, 1) := by decide +kernel
theorem dX7_saves_85 : decode cX7_saves 85 = .ok (.getfield 51, 3) := by decide +kernel
theorem dX7_saves_88 : decode cX7_saves 88 = .ok (.iconst 1, 1) := by decide +kernel
theorem dX7_saves_89 : decode cX7_saves 89 = .ok (.iadd, 1) := by decide +kernel
theorem dX7_saves_90 : decode cX7_saves 90 = .ok (.putfield 51, 3) := by decide +kernel
theorem dX7_saves_93 : decode cX7_saves 93 = .ok (.return_, 1) := by decide +kernel
theorem dX7_isDraft_0 : decode cX7_isDraft 0 = .ok (.iload_n 0, 1) := by decide +kernel
theorem dX7_isDraft_1 : decode cX7_isDraft 1 = .ok (.iconst 0, 1) := by decide +kernel
theorem dX7_isDraft_2 : decode cX7_isDraft 2 = .ok (.iconst 1, 1) := by decide +kernel
theorem dX7_isDraft_3 : decode cX7_isDraft 3 = .ok (.invokestatic 54, 3) := by decide +kernel
theorem dX7_isDraft_6 : decode cX7_isDraft 6 = .ok (.ireturn, 1) := by decide +kernel
theorem dX7_at_0 : decode cX7_at 0 = .ok (.bipush 12, 2) := by decide +kernel
theorem dX7_at_2 : decode cX7_at 2 = .ok (.bipush 31, 2) := by decide +kernel
theorem dX7_at_4 : decode cX7_at 4 = .ok (.iload_n 0, 1) := by decide +kernel
theorem dX7_at_5 : decode cX7_at 5 = .ok (.imul, 1) := by decide +kernel
theorem dX7_at_6 : decode cX7_at 6 = .ok (.iadd, 1) := by decide +kernel
theorem dX7_at_7 : decode cX7_at 7 = .ok (.iload_n 1, 1) := by decide +kernel
theorem dX7_at_8 : decode cX7_at 8 = .ok (.iadd, 1) := by decide +kernel
theorem dX7_at_9 : decode cX7_at 9 = .ok (.ireturn, 1) := by decide +kernel
theorem dX7_sizeOf_0 : decode cX7_sizeOf 0 = .ok (.aload_n 0, 1) := by decide +kernel
theorem dX7_sizeOf_1 : decode cX7_sizeOf 1 = .ok (.getfield 7, 3) := by decide +kernel
theorem dX7_sizeOf_4 : decode cX7_sizeOf 4 = .ok (.iload_n 1, 1) := by decide +kernel
theorem dX7_sizeOf_5 : decode cX7_sizeOf 5 = .ok (.iconst 0, 1) := by decide +kernel
theorem dX7_sizeOf_6 : decode cX7_sizeOf 6 = .ok (.invokestatic 58, 3) := by decide +kernel
theorem dX7_sizeOf_9 : decode cX7_sizeOf 9 = .ok (.iaload, 1) := by decide +kernel
theorem dX7_sizeOf_10 : decode cX7_sizeOf 10 = .ok (.ireturn, 1) := by decide +kernel
theorem dX7_numberAt_0 : decode cX7_numberAt 0 = .ok (.aload_n 0, 1) := by decide +kernel
theorem dX7_numberAt_1 : decode cX7_numberAt 1 = .ok (.getfield 7, 3) := by decide +kernel
theorem dX7_numberAt_4 : decode cX7_numberAt 4 = .ok (.iload_n 1, 1) := by decide +kernel
theorem dX7_numberAt_5 : decode cX7_numberAt 5 = .ok (.iconst 1, 1) := by decide +kernel
theorem dX7_numberAt_6 : decode cX7_numberAt 6 = .ok (.iload_n 2, 1) := by decide +kernel
theorem dX7_numberAt_7 : decode cX7_numberAt 7 = .ok (.iadd, 1) := by decide +kernel
theorem dX7_numberAt_8 : decode cX7_numberAt 8 = .ok (.invokestatic 58, 3) := by decide +kernel
theorem dX7_numberAt_11 : decode cX7_numberAt 11 = .ok (.iaload, 1) := by decide +kernel
theorem dX7_numberAt_12 : decode cX7_numberAt 12 = .ok (.ireturn, 1) := by decide +kernel
theorem dX7_insideAt_0 : decode cX7_insideAt 0 = .ok (.aload_n 0, 1) := by decide +kernel
theorem dX7_insideAt_1 : decode cX7_insideAt 1 = .ok (.getfield 7, 3) := by decide +kernel
theorem dX7_insideAt_4 : decode cX7_insideAt 4 = .ok (.iload_n 1, 1) := by decide +kernel
theorem dX7_insideAt_5 : decode cX7_insideAt 5 = .ok (.bipush 16, 2) := by decide +kernel
theorem dX7_insideAt_7 : decode cX7_insideAt 7 = .ok (.iload_n 2, 1) := by decide +kernel
theorem dX7_insideAt_8 : decode cX7_insideAt 8 = .ok (.iadd, 1) := by decide +kernel
theorem dX7_insideAt_9 : decode cX7_insideAt 9 = .ok (.invokestatic 58, 3) := by decide +kernel
theorem dX7_insideAt_12 : decode cX7_insideAt 12 = .ok (.iaload, 1) := by decide +kernel
theorem dX7_insideAt_13 : decode cX7_insideAt 13 = .ok (.ireturn, 1) := by decide +kernel
theorem dX7_isThere_0 : decode cX7_isThere 0 = .ok (.iload_n 1, 1) := by decide +kernel
theorem dX7_isThere_1 : decode cX7_isThere 1 = .ok (.invokestatic 62, 3) := by decide +kernel
theorem dX7_isThere_4 : decode cX7_isThere 4 = .ok (.ifCond .eq 22, 3) := by decide +kernel
theorem dX7_isThere_7 : decode cX7_isThere 7 = .ok (.iload_n 2, 1) := by decide +kernel
theorem dX7_isThere_8 : decode cX7_isThere 8 = .ok (.iconst 0, 1) := by decide +kernel
theorem dX7_isThere_9 : decode cX7_isThere 9 = .ok (.aload_n 0, 1) := by decide +kernel
theorem dX7_isThere_10 : decode cX7_isThere 10 = .ok (.iload_n 1, 1) := by decide +kernel
theorem dX7_isThere_11 : decode cX7_isThere 11 = .ok (.invokevirtual 66, 3) := by decide +kernel
theorem dX7_isThere_14 : decode cX7_isThere 14 = .ok (.iconst 1, 1) := by decide +kernel
theorem dX7_isThere_15 : decode cX7_isThere 15 = .ok (.isub, 1) := by decide +kernel
theorem dX7_isThere_16 : decode cX7_isThere 16 = .ok (.invokestatic 54, 3) := by decide +kernel
theorem dX7_isThere_19 : decode cX7_isThere 19 = .ok (.ifCond .eq 7, 3) := by decide +kernel
theorem dX7_isThere_22 : decode cX7_isThere 22 = .ok (.iconst 1, 1) := by decide +kernel
theorem dX7_isThere_23 : decode cX7_isThere 23 = .ok (.goto 4, 3) := by decide +kernel
theorem dX7_isThere_26 : decode cX7_isThere 26 = .ok (.iconst 0, 1) := by decide +kernel
theorem dX7_isThere_27 : decode cX7_isThere 27 = .ok (.ireturn, 1) := by decide +kernel
theorem dX7_placeOf_0 : decode cX7_placeOf 0 = .ok (.iconst 0, 1) := by decide +kernel
theorem dX7_placeOf_1 : decode cX7_placeOf 1 = .ok (.istore_n 3, 1) := by decide +kernel
theorem dX7_placeOf_2 : decode cX7_placeOf 2 = .ok (.iload_n 3, 1) := by decide +kernel
theorem dX7_placeOf_3 : decode cX7_placeOf 3 = .ok (.aload_n 0, 1) := by decide +kernel
theorem dX7_placeOf_4 : decode cX7_placeOf 4 = .ok (.iload_n 1, 1) := by decide +kernel
theorem dX7_placeOf_5 : decode cX7_placeOf 5 = .ok (.invokevirtual 66, 3) := by decide +kernel
theorem dX7_placeOf_8 : decode cX7_placeOf 8 = .ok (.if_icmp .ge 19, 3) := by decide +kernel
theorem dX7_placeOf_11 : decode cX7_placeOf 11 = .ok (.aload_n 0, 1) := by decide +kernel
theorem dX7_placeOf_12 : decode cX7_placeOf 12 = .ok (.iload_n 1, 1) := by decide +kernel
theorem dX7_placeOf_13 : decode cX7_placeOf 13 = .ok (.iload_n 3, 1) := by decide +kernel
theorem dX7_placeOf_14 : decode cX7_placeOf 14 = .ok (.invokevirtual 70, 3) := by decide +kernel
theorem dX7_placeOf_17 : decode cX7_placeOf 17 = .ok (.iload_n 2, 1) := by decide +kernel
theorem dX7_placeOf_18 : decode cX7_placeOf 18 = .ok (.if_icmp .eq 9, 3) := by decide +kernel
theorem dX7_placeOf_21 : decode cX7_placeOf 21 = .ok (.iinc 3 1, 3) := by decide +kernel
theorem dX7_placeOf_24 : decode cX7_placeOf 24 = .ok (.goto (-22), 3) := by decide +kernel
theorem dX7_placeOf_27 : decode cX7_placeOf 27 = .ok (.iload_n 3, 1) := by decide +kernel
theorem dX7_placeOf_28 : decode cX7_placeOf 28 = .ok (.ireturn, 1) := by decide +kernel
theorem dX7_has_0 : decode cX7_has 0 = .ok (.aload_n 0, 1) := by decide +kernel
theorem dX7_has_1 : decode cX7_has 1 = .ok (.iload_n 1, 1) := by decide +kernel
theorem dX7_has_2 : decode cX7_has 2 = .ok (.iload_n 2, 1) := by decide +kernel
theorem dX7_has_3 : decode cX7_has 3 = .ok (.invokevirtual 73, 3) := by decide +kernel
theorem dX7_has_6 : decode cX7_has 6 = .ok (.aload_n 0, 1) := by decide +kernel
theorem dX7_has_7 : decode cX7_has 7 = .ok (.iload_n 1, 1) := by decide +kernel
theorem dX7_has_8 : decode cX7_has 8 = .ok (.invokevirtual 66, 3) := by decide +kernel
theorem dX7_has_11 : decode cX7_has 11 = .ok (.if_icmp .ge 7, 3) := by decide +kernel
theorem dX7_has_14 : decode cX7_has 14 = .ok (.iconst 1, 1) := by decide +kernel
theorem dX7_has_15 : decode cX7_has 15 = .ok (.goto 4, 3) := by decide +kernel
theorem dX7_has_18 : decode cX7_has 18 = .ok (.iconst 0, 1) := by decide +kernel
theorem dX7_has_19 : decode cX7_has 19 = .ok (.ireturn, 1) := by decide +kernel
theorem dX7_contentIn_0 : decode cX7_contentIn 0 = .ok (.aload_n 0, 1) := by decide +kernel
theorem dX7_contentIn_1 : decode cX7_contentIn 1 = .ok (.iload_n 1, 1) := by decide +kernel
theorem dX7_contentIn_2 : decode cX7_contentIn 2 = .ok (.aload_n 0, 1) := by decide +kernel
theorem dX7_contentIn_3 : decode cX7_contentIn 3 = .ok (.iload_n 1, 1) := by decide +kernel
theorem dX7_contentIn_4 : decode cX7_contentIn 4 = .ok (.iload_n 2, 1) := by decide +kernel
theorem dX7_contentIn_5 : decode cX7_contentIn 5 = .ok (.invokevirtual 73, 3) := by decide +kernel
theorem dX7_contentIn_8 : decode cX7_contentIn 8 = .ok (.invokevirtual 76, 3) := by decide +kernel
theorem dX7_contentIn_11 : decode cX7_contentIn 11 = .ok (.ireturn, 1) := by decide +kernel
theorem dX7_doesEdit_0 : decode cX7_doesEdit 0 = .ok (.aload_n 0, 1) := by decide +kernel
theorem dX7_doesEdit_1 : decode cX7_doesEdit 1 = .ok (.iload_n 1, 1) := by decide +kernel
theorem dX7_doesEdit_2 : decode cX7_doesEdit 2 = .ok (.iload_n 2, 1) := by decide +kernel
theorem dX7_doesEdit_3 : decode cX7_doesEdit 3 = .ok (.invokevirtual 79, 3) := by decide +kernel
theorem dX7_doesEdit_6 : decode cX7_doesEdit 6 = .ok (.ifCond .eq 24, 3) := by decide +kernel
theorem dX7_doesEdit_9 : decode cX7_doesEdit 9 = .ok (.aload_n 0, 1) := by decide +kernel
theorem dX7_doesEdit_10 : decode cX7_doesEdit 10 = .ok (.iload_n 1, 1) := by decide +kernel
theorem dX7_doesEdit_11 : decode cX7_doesEdit 11 = .ok (.iload_n 2, 1) := by decide +kernel
theorem dX7_doesEdit_12 : decode cX7_doesEdit 12 = .ok (.invokevirtual 83, 3) := by decide +kernel
theorem dX7_doesEdit_15 : decode cX7_doesEdit 15 = .ok (.aload_n 0, 1) := by decide +kernel
theorem dX7_doesEdit_16 : decode cX7_doesEdit 16 = .ok (.getfield 7, 3) := by decide +kernel
theorem dX7_doesEdit_19 : decode cX7_doesEdit 19 = .ok (.iconst 2, 1) := by decide +kernel
theorem dX7_doesEdit_20 : decode cX7_doesEdit 20 = .ok (.iload_n 2, 1) := by decide +kernel
theorem dX7_doesEdit_21 : decode cX7_doesEdit 21 = .ok (.iadd, 1) := by decide +kernel
theorem dX7_doesEdit_22 : decode cX7_doesEdit 22 = .ok (.iaload, 1) := by decide +kernel
theorem dX7_doesEdit_23 : decode cX7_doesEdit 23 = .ok (.if_icmp .eq 7, 3) := by decide +kernel
theorem dX7_doesEdit_26 : decode cX7_doesEdit 26 = .ok (.iconst 1, 1) := by decide +kernel
theorem dX7_doesEdit_27 : decode cX7_doesEdit 27 = .ok (.goto 4, 3) := by decide +kernel
theorem dX7_doesEdit_30 : decode cX7_doesEdit 30 = .ok (.iconst 0, 1) := by decide +kernel
theorem dX7_doesEdit_31 : decode cX7_doesEdit 31 = .ok (.ireturn, 1) := by decide +kernel
theorem dX7_puts_0 : decode cX7_puts 0 = .ok (.aload_n 0, 1) := by decide +kernel
theorem dX7_puts_1 : decode cX7_puts 1 = .ok (.iload_n 1, 1) := by decide +kernel
theorem dX7_puts_2 : decode cX7_puts 2 = .ok (.invokevirtual 66, 3) := by decide +kernel
theorem dX7_puts_5 : decode cX7_puts 5 = .ok (.istore 5, 2) := by decide +kernel
theorem dX7_puts_7 : decode cX7_puts 7 = .ok (.iload 5, 2) := by decide +kernel
theorem dX7_puts_9 : decode cX7_puts 9 = .ok (.iload_n 2, 1) := by decide +kernel
theorem dX7_puts_10 : decode cX7_puts 10 = .ok (.if_icmp .le 54, 3) := by decide +kernel
theorem dX7_puts_13 : decode cX7_puts 13 = .ok (.aload_n 0, 1) := by decide +kernel
theorem dX7_puts_14 : decode cX7_puts 14 = .ok (.getfield 7, 3) := by decide +kernel
theorem dX7_puts_17 : decode cX7_puts 17 = .ok (.iload_n 1, 1) := by decide +kernel
theorem dX7_puts_18 : decode cX7_puts 18 = .ok (.iconst 1, 1) := by decide +kernel
theorem dX7_puts_19 : decode cX7_puts 19 = .ok (.iload 5, 2) := by decide +kernel
theorem dX7_puts_21 : decode cX7_puts 21 = .ok (.iadd, 1) := by decide +kernel
theorem dX7_puts_22 : decode cX7_puts 22 = .ok (.invokestatic 58, 3) := by decide +kernel
theorem dX7_puts_25 : decode cX7_puts 25 = .ok (.aload_n 0, 1) := by decide +kernel
theorem dX7_puts_26 : decode cX7_puts 26 = .ok (.iload_n 1, 1) := by decide +kernel
theorem dX7_puts_27 : decode cX7_puts 27 = .ok (.iload 5, 2) := by decide +kernel
theorem dX7_puts_29 : decode cX7_puts 29 = .ok (.iconst 1, 1) := by decide +kernel
theorem dX7_puts_30 : decode cX7_puts 30 = .ok (.isub, 1) := by decide +kernel
theorem dX7_puts_31 : decode cX7_puts 31 = .ok (.invokevirtual 70, 3) := by decide +kernel
theorem dX7_puts_34 : decode cX7_puts 34 = .ok (.iastore, 1) := by decide +kernel
theorem dX7_puts_35 : decode cX7_puts 35 = .ok (.aload_n 0, 1) := by decide +kernel
theorem dX7_puts_36 : decode cX7_puts 36 = .ok (.getfield 7, 3) := by decide +kernel
theorem dX7_puts_39 : decode cX7_puts 39 = .ok (.iload_n 1, 1) := by decide +kernel
theorem dX7_puts_40 : decode cX7_puts 40 = .ok (.bipush 16, 2) := by decide +kernel
theorem dX7_puts_42 : decode cX7_puts 42 = .ok (.iload 5, 2) := by decide +kernel
theorem dX7_puts_44 : decode cX7_puts 44 = .ok (.iadd, 1) := by decide +kernel
theorem dX7_puts_45 : decode cX7_puts 45 = .ok (.invokestatic 58, 3) := by decide +kernel
theorem dX7_puts_48 : decode cX7_puts 48 = .ok (.aload_n 0, 1) := by decide +kernel
theorem dX7_puts_49 : decode cX7_puts 49 = .ok (.iload_n 1, 1) := by decide +kernel
theorem dX7_puts_50 : decode cX7_puts 50 = .ok (.iload 5, 2) := by decide +kernel
theorem dX7_puts_52 : decode cX7_puts 52 = .ok (.iconst 1, 1) := by decide +kernel
theorem dX7_puts_53 : decode cX7_puts 53 = .ok (.isub, 1) := by decide +kernel
theorem dX7_puts_54 : decode cX7_puts 54 = .ok (.invokevirtual 76, 3) := by decide +kernel
theorem dX7_puts_57 : decode cX7_puts 57 = .ok (.iastore, 1) := by decide +kernel
theorem dX7_puts_58 : decode cX7_puts 58 = .ok (.iinc 5 (-1), 3) := by decide +kernel
theorem dX7_puts_61 : decode cX7_puts 61 = .ok (.goto (-54), 3) := by decide +kernel
theorem dX7_puts_64 : decode cX7_puts 64 = .ok (.aload_n 0, 1) := by decide +kernel
theorem dX7_puts_65 : decode cX7_puts 65 = .ok (.getfield 7, 3) := by decide +kernel
theorem dX7_puts_68 : decode cX7_puts 68 = .ok (.iload_n 1, 1) := by decide +kernel
theorem dX7_puts_69 : decode cX7_puts 69 = .ok (.iconst 1, 1) := by decide +kernel
theorem dX7_puts_70 : decode cX7_puts 70 = .ok (.iload_n 2, 1) := by decide +kernel
theorem dX7_puts_71 : decode cX7_puts 71 = .ok (.iadd, 1) := by decide +kernel
theorem dX7_puts_72 : decode cX7_puts 72 = .ok (.invokestatic 58, 3) := by decide +kernel
theorem dX7_puts_75 : decode cX7_puts 75 = .ok (.iload_n 3, 1) := by decide +kernel
theorem dX7_puts_76 : decode cX7_puts 76 = .ok (.iastore, 1) := by decide +kernel
theorem dX7_puts_77 : decode cX7_puts 77 = .ok (.aload_n 0, 1) := by decide +kernel
theorem dX7_puts_78 : decode cX7_puts 78 = .ok (.getfield 7, 3) := by decide +kernel
theorem dX7_puts_81 : decode cX7_puts 81 = .ok (.iload_n 1, 1) := by decide +kernel
theorem dX7_puts_82 : decode cX7_puts 82 = .ok (.bipush 16, 2) := by decide +kernel
theorem dX7_puts_84 : decode cX7_puts 84 = .ok (.iload_n 2, 1) := by decide +kernel
theorem dX7_puts_85 : decode cX7_puts 85 = .ok (.iadd, 1) := by decide +kernel
theorem dX7_puts_86 : decode cX7_puts 86 = .ok (.invokestatic 58, 3) := by decide +kernel
theorem dX7_puts_89 : decode cX7_puts 89 = .ok (.iload 4, 2) := by decide +kernel
theorem dX7_puts_91 : decode cX7_puts 91 = .ok (.iastore, 1) := by decide +kernel
theorem dX7_puts_92 : decode cX7_puts 92 = .ok (.aload_n 0, 1) := by decide +kernel
theorem dX7_puts_93 : decode cX7_puts 93 = .ok (.getfield 7, 3) := by decide +kernel
theorem dX7_puts_96 : decode cX7_puts 96 = .ok (.iload_n 1, 1) := by decide +kernel
theorem dX7_puts_97 : decode cX7_puts 97 = .ok (.iconst 0, 1) := by decide +kernel
theorem dX7_puts_98 : decode cX7_puts 98 = .ok (.invokestatic 58, 3) := by decide +kernel
theorem dX7_puts_101 : decode cX7_puts 101 = .ok (.dup2, 1) := by decide +kernel
theorem dX7_puts_102 : decode cX7_puts 102 = .ok (.iaload, 1) := by decide +kernel
theorem dX7_puts_103 : decode cX7_puts 103 = .ok (.iconst 1, 1) := by decide +kernel
theorem dX7_puts_104 : decode cX7_puts 104 = .ok (.iadd, 1) := by decide +kernel
theorem dX7_puts_105 : decode cX7_puts 105 = .ok (.iastore, 1) := by decide +kernel
theorem dX7_puts_106 : decode cX7_puts 106 = .ok (.return_, 1) := by decide +kernel
theorem dX7_takes_0 : decode cX7_takes 0 = .ok (.aload_n 0, 1) := by decide +kernel
theorem dX7_takes_1 : decode cX7_takes 1 = .ok (.getfield 7, 3) := by decide +kernel
theorem dX7_takes_4 : decode cX7_takes 4 = .ok (.iload_n 1, 1) := by decide +kernel
theorem dX7_takes_5 : decode cX7_takes 5 = .ok (.iconst 0, 1) := by decide +kernel
theorem dX7_takes_6 : decode cX7_takes 6 = .ok (.invokestatic 58, 3) := by decide +kernel
theorem dX7_takes_9 : decode cX7_takes 9 = .ok (.dup2, 1) := by decide +kernel
theorem dX7_takes_10 : decode cX7_takes 10 = .ok (.iaload, 1) := by decide +kernel
theorem dX7_takes_11 : decode cX7_takes 11 = .ok (.iconst 1, 1) := by decide +kernel
theorem dX7_takes_12 : decode cX7_takes 12 = .ok (.isub, 1) := by decide +kernel
theorem dX7_takes_13 : decode cX7_takes 13 = .ok (.iastore, 1) := by decide +kernel
theorem dX7_takes_14 : decode cX7_takes 14 = .ok (.iload_n 2, 1) := by decide +kernel
theorem dX7_takes_15 : decode cX7_takes 15 = .ok (.istore_n 3, 1) := by decide +kernel
theorem dX7_takes_16 : decode cX7_takes 16 = .ok (.iload_n 3, 1) := by decide +kernel
theorem dX7_takes_17 : decode cX7_takes 17 = .ok (.aload_n 0, 1) := by decide +kernel
theorem dX7_takes_18 : decode cX7_takes 18 = .ok (.iload_n 1, 1) := by decide +kernel
theorem dX7_takes_19 : decode cX7_takes 19 = .ok (.invokevirtual 66, 3) := by decide +kernel
theorem dX7_takes_22 : decode cX7_takes 22 = .ok (.if_icmp .ge 63, 3) := by decide +kernel
theorem dX7_takes_25 : decode cX7_takes 25 = .ok (.aload_n 0, 1) := by decide +kernel
theorem dX7_takes_26 : decode cX7_takes 26 = .ok (.getfield 7, 3) := by decide +kernel
theorem dX7_takes_29 : decode cX7_takes 29 = .ok (.iload_n 1, 1) := by decide +kernel
theorem dX7_takes_30 : decode cX7_takes 30 = .ok (.iconst 1, 1) := by decide +kernel
theorem dX7_takes_31 : decode cX7_takes 31 = .ok (.iload_n 3, 1) := by decide +kernel
theorem dX7_takes_32 : decode cX7_takes 32 = .ok (.iadd, 1) := by decide +kernel
theorem dX7_takes_33 : decode cX7_takes 33 = .ok (.invokestatic 58, 3) := by decide +kernel
theorem dX7_takes_36 : decode cX7_takes 36 = .ok (.aload_n 0, 1) := by decide +kernel
theorem dX7_takes_37 : decode cX7_takes 37 = .ok (.getfield 7, 3) := by decide +kernel
theorem dX7_takes_40 : decode cX7_takes 40 = .ok (.iload_n 1, 1) := by decide +kernel
theorem dX7_takes_41 : decode cX7_takes 41 = .ok (.iconst 1, 1) := by decide +kernel
theorem dX7_takes_42 : decode cX7_takes 42 = .ok (.iload_n 3, 1) := by decide +kernel
theorem dX7_takes_43 : decode cX7_takes 43 = .ok (.iadd, 1) := by decide +kernel
theorem dX7_takes_44 : decode cX7_takes 44 = .ok (.iconst 1, 1) := by decide +kernel
theorem dX7_takes_45 : decode cX7_takes 45 = .ok (.iadd, 1) := by decide +kernel
theorem dX7_takes_46 : decode cX7_takes 46 = .ok (.invokestatic 58, 3) := by decide +kernel
theorem dX7_takes_49 : decode cX7_takes 49 = .ok (.iaload, 1) := by decide +kernel
theorem dX7_takes_50 : decode cX7_takes 50 = .ok (.iastore, 1) := by decide +kernel
theorem dX7_takes_51 : decode cX7_takes 51 = .ok (.aload_n 0, 1) := by decide +kernel
theorem dX7_takes_52 : decode cX7_takes 52 = .ok (.getfield 7, 3) := by decide +kernel
theorem dX7_takes_55 : decode cX7_takes 55 = .ok (.iload_n 1, 1) := by decide +kernel
theorem dX7_takes_56 : decode cX7_takes 56 = .ok (.bipush 16, 2) := by decide +kernel
theorem dX7_takes_58 : decode cX7_takes 58 = .ok (.iload_n 3, 1) := by decide +kernel
theorem dX7_takes_59 : decode cX7_takes 59 = .ok (.iadd, 1) := by decide +kernel
theorem dX7_takes_60 : decode cX7_takes 60 = .ok (.invokestatic 58, 3) := by decide +kernel
theorem dX7_takes_63 : decode cX7_takes 63 = .ok (.aload_n 0, 1) := by decide +kernel
theorem dX7_takes_64 : decode cX7_takes 64 = .ok (.getfield 7, 3) := by decide +kernel
theorem dX7_takes_67 : decode cX7_takes 67 = .ok (.iload_n 1, 1) := by decide +kernel
theorem dX7_takes_68 : decode cX7_takes 68 = .ok (.bipush 16, 2) := by decide +kernel
theorem dX7_takes_70 : decode cX7_takes 70 = .ok (.iload_n 3, 1) := by decide +kernel
theorem dX7_takes_71 : decode cX7_takes 71 = .ok (.iadd, 1) := by decide +kernel
theorem dX7_takes_72 : decode cX7_takes 72 = .ok (.iconst 1, 1) := by decide +kernel
theorem dX7_takes_73 : decode cX7_takes 73 = .ok (.iadd, 1) := by decide +kernel
theorem dX7_takes_74 : decode cX7_takes 74 = .ok (.invokestatic 58, 3) := by decide +kernel
theorem dX7_takes_77 : decode cX7_takes 77 = .ok (.iaload, 1) := by decide +kernel
theorem dX7_takes_78 : decode cX7_takes 78 = .ok (.iastore, 1) := by decide +kernel
theorem dX7_takes_79 : decode cX7_takes 79 = .ok (.iinc 3 1, 3) := by decide +kernel
theorem dX7_takes_82 : decode cX7_takes 82 = .ok (.goto (-66), 3) := by decide +kernel
theorem dX7_takes_85 : decode cX7_takes 85 = .ok (.return_, 1) := by decide +kernel
theorem dX7_isChanged_0 : decode cX7_isChanged 0 = .ok (.aload_n 0, 1) := by decide +kernel
theorem dX7_isChanged_1 : decode cX7_isChanged 1 = .ok (.iload_n 1, 1) := by decide +kernel
theorem dX7_isChanged_2 : decode cX7_isChanged 2 = .ok (.invokevirtual 66, 3) := by decide +kernel
theorem dX7_isChanged_5 : decode cX7_isChanged 5 = .ok (.aload_n 0, 1) := by decide +kernel
theorem dX7_isChanged_6 : decode cX7_isChanged 6 = .ok (.getfield 7, 3) := by decide +kernel
theorem dX7_isChanged_9 : decode cX7_isChanged 9 = .ok (.iconst 0, 1) := by decide +kernel
theorem dX7_isChanged_10 : decode cX7_isChanged 10 = .ok (.iaload, 1) := by decide +kernel
theorem dX7_isChanged_11 : decode cX7_isChanged 11 = .ok (.if_icmp .eq 7, 3) := by decide +kernel
theorem dX7_isChanged_14 : decode cX7_isChanged 14 = .ok (.iconst 1, 1) := by decide +kernel
theorem dX7_isChanged_15 : decode cX7_isChanged 15 = .ok (.goto 4, 3) := by decide +kernel
theorem dX7_isChanged_18 : decode cX7_isChanged 18 = .ok (.iconst 0, 1) := by decide +kernel
theorem dX7_isChanged_19 : decode cX7_isChanged 19 = .ok (.istore_n 2, 1) := by decide +kernel
theorem dX7_isChanged_20 : decode cX7_isChanged 20 = .ok (.iconst 0, 1) := by decide +kernel
theorem dX7_isChanged_21 : decode cX7_isChanged 21 = .ok (.istore_n 3, 1) := by decide +kernel
theorem dX7_isChanged_22 : decode cX7_isChanged 22 = .ok (.iload_n 3, 1) := by decide +kernel
theorem dX7_isChanged_23 : decode cX7_isChanged 23 = .ok (.aload_n 0, 1) := by decide +kernel
theorem dX7_isChanged_24 : decode cX7_isChanged 24 = .ok (.getfield 7, 3) := by decide +kernel
theorem dX7_isChanged_27 : decode cX7_isChanged 27 = .ok (.iconst 0, 1) := by decide +kernel
theorem dX7_isChanged_28 : decode cX7_isChanged 28 = .ok (.iaload, 1) := by decide +kernel
theorem dX7_isChanged_29 : decode cX7_isChanged 29 = .ok (.if_icmp .ge 46, 3) := by decide +kernel
theorem dX7_isChanged_32 : decode cX7_isChanged 32 = .ok (.iload_n 2, 1) := by decide +kernel
theorem dX7_isChanged_33 : decode cX7_isChanged 33 = .ok (.ifCond .ne 42, 3) := by decide +kernel
theorem dX7_isChanged_36 : decode cX7_isChanged 36 = .ok (.aload_n 0, 1) := by decide +kernel
theorem dX7_isChanged_37 : decode cX7_isChanged 37 = .ok (.iload_n 1, 1) := by decide +kernel
theorem dX7_isChanged_38 : decode cX7_isChanged 38 = .ok (.iload_n 3, 1) := by decide +kernel
theorem dX7_isChanged_39 : decode cX7_isChanged 39 = .ok (.invokevirtual 70, 3) := by decide +kernel
theorem dX7_isChanged_42 : decode cX7_isChanged 42 = .ok (.iload_n 3, 1) := by decide +kernel
theorem dX7_isChanged_43 : decode cX7_isChanged 43 = .ok (.if_icmp .ne 20, 3) := by decide +kernel
theorem dX7_isChanged_46 : decode cX7_isChanged 46 = .ok (.aload_n 0, 1) := by decide +kernel
theorem dX7_isChanged_47 : decode cX7_isChanged 47 = .ok (.iload_n 1, 1) := by decide +kernel
theorem dX7_isChanged_48 : decode cX7_isChanged 48 = .ok (.iload_n 3, 1) := by decide +kernel
theorem dX7_isChanged_49 : decode cX7_isChanged 49 = .ok (.invokevirtual 76, 3) := by decide +kernel
theorem dX7_isChanged_52 : decode cX7_isChanged 52 = .ok (.aload_n 0, 1) := by decide +kernel
theorem dX7_isChanged_53 : decode cX7_isChanged 53 = .ok (.getfield 7, 3) := by decide +kernel
theorem dX7_isChanged_56 : decode cX7_isChanged 56 = .ok (.iconst 2, 1) := by decide +kernel
theorem dX7_isChanged_57 : decode cX7_isChanged 57 = .ok (.iload_n 3, 1) := by decide +kernel
theorem dX7_isChanged_58 : decode cX7_isChanged 58 = .ok (.iadd, 1) := by decide +kernel
theorem dX7_isChanged_59 : decode cX7_isChanged 59 = .ok (.iaload, 1) := by decide +kernel
theorem dX7_isChanged_60 : decode cX7_isChanged 60 = .ok (.if_icmp .eq 7, 3) := by decide +kernel
theorem dX7_isChanged_63 : decode cX7_isChanged 63 = .ok (.iconst 1, 1) := by decide +kernel
theorem dX7_isChanged_64 : decode cX7_isChanged 64 = .ok (.goto 4, 3) := by decide +kernel
theorem dX7_isChanged_67 : decode cX7_isChanged 67 = .ok (.iconst 0, 1) := by decide +kernel
theorem dX7_isChanged_68 : decode cX7_isChanged 68 = .ok (.istore_n 2, 1) := by decide +kernel
theorem dX7_isChanged_69 : decode cX7_isChanged 69 = .ok (.iinc 3 1, 3) := by decide +kernel
theorem dX7_isChanged_72 : decode cX7_isChanged 72 = .ok (.goto (-50), 3) := by decide +kernel
theorem dX7_isChanged_75 : decode cX7_isChanged 75 = .ok (.iload_n 2, 1) := by decide +kernel
theorem dX7_isChanged_76 : decode cX7_isChanged 76 = .ok (.ireturn, 1) := by decide +kernel
theorem dX7_addBase_0 : decode cX7_addBase 0 = .ok (.aload_n 0, 1) := by decide +kernel
theorem dX7_addBase_1 : decode cX7_addBase 1 = .ok (.iload_n 1, 1) := by decide +kernel
theorem dX7_addBase_2 : decode cX7_addBase 2 = .ok (.iconst 0, 1) := by decide +kernel
theorem dX7_addBase_3 : decode cX7_addBase 3 = .ok (.bipush 99, 2) := by decide +kernel
theorem dX7_addBase_5 : decode cX7_addBase 5 = .ok (.invokestatic 54, 3) := by decide +kernel
theorem dX7_addBase_8 : decode cX7_addBase 8 = .ok (.ifCond .ne 7, 3) := by decide +kernel
theorem dX7_addBase_11 : decode cX7_addBase 11 = .ok (.iconst 1, 1) := by decide +kernel
theorem dX7_addBase_12 : decode cX7_addBase 12 = .ok (.goto 50, 3) := by decide +kernel
theorem dX7_addBase_15 : decode cX7_addBase 15 = .ok (.aload_n 0, 1) := by decide +kernel
theorem dX7_addBase_16 : decode cX7_addBase 16 = .ok (.getfield 7, 3) := by decide +kernel
theorem dX7_addBase_19 : decode cX7_addBase 19 = .ok (.iconst 0, 1) := by decide +kernel
theorem dX7_addBase_20 : decode cX7_addBase 20 = .ok (.iaload, 1) := by decide +kernel
theorem dX7_addBase_21 : decode cX7_addBase 21 = .ok (.bipush 10, 2) := by decide +kernel
theorem dX7_addBase_23 : decode cX7_addBase 23 = .ok (.if_icmp .eq 34, 3) := by decide +kernel
theorem dX7_addBase_26 : decode cX7_addBase 26 = .ok (.aload_n 0, 1) := by decide +kernel
theorem dX7_addBase_27 : decode cX7_addBase 27 = .ok (.getfield 7, 3) := by decide +kernel
theorem dX7_addBase_30 : decode cX7_addBase 30 = .ok (.iconst 1, 1) := by decide +kernel
theorem dX7_addBase_31 : decode cX7_addBase 31 = .ok (.iaload, 1) := by decide +kernel
theorem dX7_addBase_32 : decode cX7_addBase 32 = .ok (.aload_n 0, 1) := by decide +kernel
theorem dX7_addBase_33 : decode cX7_addBase 33 = .ok (.getfield 7, 3) := by decide +kernel
theorem dX7_addBase_36 : decode cX7_addBase 36 = .ok (.iconst 0, 1) := by decide +kernel
theorem dX7_addBase_37 : decode cX7_addBase 37 = .ok (.iaload, 1) := by decide +kernel
theorem dX7_addBase_38 : decode cX7_addBase 38 = .ok (.if_icmp .gt 19, 3) := by decide +kernel
theorem dX7_addBase_41 : decode cX7_addBase 41 = .ok (.aload_n 0, 1) := by decide +kernel
theorem dX7_addBase_42 : decode cX7_addBase 42 = .ok (.iconst 0, 1) := by decide +kernel
theorem dX7_addBase_43 : decode cX7_addBase 43 = .ok (.invokevirtual 86, 3) := by decide +kernel
theorem dX7_addBase_46 : decode cX7_addBase 46 = .ok (.ifCond .ne 11, 3) := by decide +kernel
theorem dX7_addBase_49 : decode cX7_addBase 49 = .ok (.aload_n 0, 1) := by decide +kernel
theorem dX7_addBase_50 : decode cX7_addBase 50 = .ok (.iconst 1, 1) := by decide +kernel
theorem dX7_addBase_51 : decode cX7_addBase 51 = .ok (.invokevirtual 86, 3) := by decide +kernel
theorem dX7_addBase_54 : decode cX7_addBase 54 = .ok (.ifCond .eq 7, 3) := by decide +kernel
theorem dX7_addBase_57 : decode cX7_addBase 57 = .ok (.iconst 2, 1) := by decide +kernel
theorem dX7_addBase_58 : decode cX7_addBase 58 = .ok (.goto 4, 3) := by decide +kernel
theorem dX7_addBase_61 : decode cX7_addBase 61 = .ok (.iconst 0, 1) := by decide +kernel
theorem dX7_addBase_62 : decode cX7_addBase 62 = .ok (.invokevirtual 89, 3) := by decide +kernel
theorem dX7_addBase_65 : decode cX7_addBase 65 = .ok (.ifCond .eq 5, 3) := by decide +kernel
theorem dX7_addBase_68 : decode cX7_addBase 68 = .ok (.iconst 0, 1) := by decide +kernel
theorem dX7_addBase_69 : decode cX7_addBase 69 = .ok (.ireturn, 1) := by decide +kernel
theorem dX7_addBase_70 : decode cX7_addBase 70 = .ok (.aload_n 0, 1) := by decide +kernel
theorem dX7_addBase_71 : decode cX7_addBase 71 = .ok (.invokevirtual 92, 3) := by decide +kernel
theorem dX7_addBase_74 : decode cX7_addBase 74 = .ok (.aload_n 0, 1) := by decide +kernel
theorem dX7_addBase_75 : decode cX7_addBase 75 = .ok (.getfield 7, 3) := by decide +kernel
theorem dX7_addBase_78 : decode cX7_addBase 78 = .ok (.iconst 0, 1) := by decide +kernel
theorem dX7_addBase_79 : decode cX7_addBase 79 = .ok (.iaload, 1) := by decide +kernel
theorem dX7_addBase_80 : decode cX7_addBase 80 = .ok (.istore_n 2, 1) := by decide +kernel
theorem dX7_addBase_81 : decode cX7_addBase 81 = .ok (.aload_n 0, 1) := by decide +kernel
theorem dX7_addBase_82 : decode cX7_addBase 82 = .ok (.getfield 7, 3) := by decide +kernel
theorem dX7_addBase_85 : decode cX7_addBase 85 = .ok (.iconst 2, 1) := by decide +kernel
theorem dX7_addBase_86 : decode cX7_addBase 86 = .ok (.iload_n 2, 1) := by decide +kernel
theorem dX7_addBase_87 : decode cX7_addBase 87 = .ok (.iadd, 1) := by decide +kernel
theorem dX7_addBase_88 : decode cX7_addBase 88 = .ok (.iload_n 1, 1) := by decide +kernel
theorem dX7_addBase_89 : decode cX7_addBase 89 = .ok (.iastore, 1) := by decide +kernel
theorem dX7_addBase_90 : decode cX7_addBase 90 = .ok (.aload_n 0, 1) := by decide +kernel
theorem dX7_addBase_91 : decode cX7_addBase 91 = .ok (.getfield 7, 3) := by decide +kernel
theorem dX7_addBase_94 : decode cX7_addBase 94 = .ok (.iconst 0, 1) := by decide +kernel
theorem dX7_addBase_95 : decode cX7_addBase 95 = .ok (.dup2, 1) := by decide +kernel
theorem dX7_addBase_96 : decode cX7_addBase 96 = .ok (.iaload, 1) := by decide +kernel
theorem dX7_addBase_97 : decode cX7_addBase 97 = .ok (.iconst 1, 1) := by decide +kernel
theorem dX7_addBase_98 : decode cX7_addBase 98 = .ok (.iadd, 1) := by decide +kernel
theorem dX7_addBase_99 : decode cX7_addBase 99 = .ok (.iastore, 1) := by decide +kernel
theorem dX7_addBase_100 : decode cX7_addBase 100 = .ok (.aload_n 0, 1) := by decide +kernel
theorem dX7_addBase_101 : decode cX7_addBase 101 = .ok (.getfield 7, 3) := by decide +kernel
theorem dX7_addBase_104 : decode cX7_addBase 104 = .ok (.iconst 1, 1) := by decide +kernel
theorem dX7_addBase_105 : decode cX7_addBase 105 = .ok (.dup2, 1) := by decide +kernel
theorem dX7_addBase_106 : decode cX7_addBase 106 = .ok (.iaload, 1) := by decide +kernel
theorem dX7_addBase_107 : decode cX7_addBase 107 = .ok (.iconst 1, 1) := by decide +kernel
theorem dX7_addBase_108 : decode cX7_addBase 108 = .ok (.iadd, 1) := by decide +kernel
theorem dX7_addBase_109 : decode cX7_addBase 109 = .ok (.iastore, 1) := by decide +kernel
theorem dX7_addBase_110 : decode cX7_addBase 110 = .ok (.aload_n 0, 1) := by decide +kernel
theorem dX7_addBase_111 : decode cX7_addBase 111 = .ok (.iconst 0, 1) := by decide +kernel
theorem dX7_addBase_112 : decode cX7_addBase 112 = .ok (.iload_n 2, 1) := by decide +kernel
theorem dX7_addBase_113 : decode cX7_addBase 113 = .ok (.iload_n 2, 1) := by decide +kernel
theorem dX7_addBase_114 : decode cX7_addBase 114 = .ok (.iload_n 1, 1) := by decide +kernel
theorem dX7_addBase_115 : decode cX7_addBase 115 = .ok (.invokevirtual 95, 3) := by decide +kernel
theorem dX7_addBase_118 : decode cX7_addBase 118 = .ok (.aload_n 0, 1) := by decide +kernel
theorem dX7_addBase_119 : decode cX7_addBase 119 = .ok (.iconst 1, 1) := by decide +kernel
theorem dX7_addBase_120 : decode cX7_addBase 120 = .ok (.iload_n 2, 1) := by decide +kernel
theorem dX7_addBase_121 : decode cX7_addBase 121 = .ok (.iload_n 2, 1) := by decide +kernel
theorem dX7_addBase_122 : decode cX7_addBase 122 = .ok (.iload_n 1, 1) := by decide +kernel
theorem dX7_addBase_123 : decode cX7_addBase 123 = .ok (.invokevirtual 95, 3) := by decide +kernel
theorem dX7_addBase_126 : decode cX7_addBase 126 = .ok (.iload_n 2, 1) := by decide +kernel
theorem dX7_addBase_127 : decode cX7_addBase 127 = .ok (.ireturn, 1) := by decide +kernel
theorem dX7_barEdit_0 : decode cX7_barEdit 0 = .ok (.aload_n 0, 1) := by decide +kernel
theorem dX7_barEdit_1 : decode cX7_barEdit 1 = .ok (.iload_n 1, 1) := by decide +kernel
theorem dX7_barEdit_2 : decode cX7_barEdit 2 = .ok (.iload_n 2, 1) := by decide +kernel
theorem dX7_barEdit_3 : decode cX7_barEdit 3 = .ok (.invokevirtual 99, 3) := by decide +kernel
theorem dX7_barEdit_6 : decode cX7_barEdit 6 = .ok (.ifCond .ne 7, 3) := by decide +kernel
theorem dX7_barEdit_9 : decode cX7_barEdit 9 = .ok (.iconst 1, 1) := by decide +kernel
theorem dX7_barEdit_10 : decode cX7_barEdit 10 = .ok (.goto 18, 3) := by decide +kernel
theorem dX7_barEdit_13 : decode cX7_barEdit 13 = .ok (.iload_n 3, 1) := by decide +kernel
theorem dX7_barEdit_14 : decode cX7_barEdit 14 = .ok (.iconst 0, 1) := by decide +kernel
theorem dX7_barEdit_15 : decode cX7_barEdit 15 = .ok (.bipush 99, 2) := by decide +kernel
theorem dX7_barEdit_17 : decode cX7_barEdit 17 = .ok (.invokestatic 54, 3) := by decide +kernel
theorem dX7_barEdit_20 : decode cX7_barEdit 20 = .ok (.ifCond .eq 7, 3) := by decide +kernel
theorem dX7_barEdit_23 : decode cX7_barEdit 23 = .ok (.iconst 0, 1) := by decide +kernel
theorem dX7_barEdit_24 : decode cX7_barEdit 24 = .ok (.goto 4, 3) := by decide +kernel
theorem dX7_barEdit_27 : decode cX7_barEdit 27 = .ok (.iconst 2, 1) := by decide +kernel
theorem dX7_barEdit_28 : decode cX7_barEdit 28 = .ok (.ireturn, 1) := by decide +kernel
theorem dX7_barMove_0 : decode cX7_barMove 0 = .ok (.aload_n 0, 1) := by decide +kernel
theorem dX7_barMove_1 : decode cX7_barMove 1 = .ok (.iload_n 1, 1) := by decide +kernel
theorem dX7_barMove_2 : decode cX7_barMove 2 = .ok (.iload_n 2, 1) := by decide +kernel
theorem dX7_barMove_3 : decode cX7_barMove 3 = .ok (.invokevirtual 99, 3) := by decide +kernel
theorem dX7_barMove_6 : decode cX7_barMove 6 = .ok (.ifCond .eq 16, 3) := by decide +kernel
theorem dX7_barMove_9 : decode cX7_barMove 9 = .ok (.aload_n 0, 1) := by decide +kernel
theorem dX7_barMove_10 : decode cX7_barMove 10 = .ok (.iload_n 1, 1) := by decide +kernel
theorem dX7_barMove_11 : decode cX7_barMove 11 = .ok (.iload_n 3, 1) := by decide +kernel
theorem dX7_barMove_12 : decode cX7_barMove 12 = .ok (.invokevirtual 99, 3) := by decide +kernel
theorem dX7_barMove_15 : decode cX7_barMove 15 = .ok (.ifCond .eq 7, 3) := by decide +kernel
theorem dX7_barMove_18 : decode cX7_barMove 18 = .ok (.iconst 0, 1) := by decide +kernel
theorem dX7_barMove_19 : decode cX7_barMove 19 = .ok (.goto 4, 3) := by decide +kernel
theorem dX7_barMove_22 : decode cX7_barMove 22 = .ok (.iconst 1, 1) := by decide +kernel
theorem dX7_barMove_23 : decode cX7_barMove 23 = .ok (.ireturn, 1) := by decide +kernel
theorem dX7_barInsert_0 : decode cX7_barInsert 0 = .ok (.iload_n 1, 1) := by decide +kernel
theorem dX7_barInsert_1 : decode cX7_barInsert 1 = .ok (.invokestatic 62, 3) := by decide +kernel
theorem dX7_barInsert_4 : decode cX7_barInsert 4 = .ok (.ifCond .eq 16, 3) := by decide +kernel
theorem dX7_barInsert_7 : decode cX7_barInsert 7 = .ok (.iload_n 2, 1) := by decide +kernel
theorem dX7_barInsert_8 : decode cX7_barInsert 8 = .ok (.iconst 0, 1) := by decide +kernel
theorem dX7_barInsert_9 : decode cX7_barInsert 9 = .ok (.aload_n 0, 1) := by decide +kernel
theorem dX7_barInsert_10 : decode cX7_barInsert 10 = .ok (.iload_n 1, 1) := by decide +kernel
theorem dX7_barInsert_11 : decode cX7_barInsert 11 = .ok (.invokevirtual 66, 3) := by decide +kernel
theorem dX7_barInsert_14 : decode cX7_barInsert 14 = .ok (.invokestatic 54, 3) := by decide +kernel
theorem dX7_barInsert_17 : decode cX7_barInsert 17 = .ok (.ifCond .ne 5, 3) := by decide +kernel
theorem dX7_barInsert_20 : decode cX7_barInsert 20 = .ok (.iconst 1, 1) := by decide +kernel
theorem dX7_barInsert_21 : decode cX7_barInsert 21 = .ok (.ireturn, 1) := by decide +kernel
theorem dX7_barInsert_22 : decode cX7_barInsert 22 = .ok (.iload_n 3, 1) := by decide +kernel
theorem dX7_barInsert_23 : decode cX7_barInsert 23 = .ok (.iconst 0, 1) := by decide +kernel
theorem dX7_barInsert_24 : decode cX7_barInsert 24 = .ok (.bipush 99, 2) := by decide +kernel
theorem dX7_barInsert_26 : decode cX7_barInsert 26 = .ok (.invokestatic 54, 3) := by decide +kernel
theorem dX7_barInsert_29 : decode cX7_barInsert 29 = .ok (.ifCond .ne 7, 3) := by decide +kernel
theorem dX7_barInsert_32 : decode cX7_barInsert 32 = .ok (.iconst 2, 1) := by decide +kernel
theorem dX7_barInsert_33 : decode cX7_barInsert 33 = .ok (.goto 29, 3) := by decide +kernel
theorem dX7_barInsert_36 : decode cX7_barInsert 36 = .ok (.aload_n 0, 1) := by decide +kernel
theorem dX7_barInsert_37 : decode cX7_barInsert 37 = .ok (.iload_n 1, 1) := by decide +kernel
theorem dX7_barInsert_38 : decode cX7_barInsert 38 = .ok (.invokevirtual 66, 3) := by decide +kernel
theorem dX7_barInsert_41 : decode cX7_barInsert 41 = .ok (.bipush 15, 2) := by decide +kernel
theorem dX7_barInsert_43 : decode cX7_barInsert 43 = .ok (.if_icmp .eq 14, 3) := by decide +kernel
theorem dX7_barInsert_46 : decode cX7_barInsert 46 = .ok (.aload_n 0, 1) := by decide +kernel
theorem dX7_barInsert_47 : decode cX7_barInsert 47 = .ok (.getfield 7, 3) := by decide +kernel
theorem dX7_barInsert_50 : decode cX7_barInsert 50 = .ok (.iconst 1, 1) := by decide +kernel
theorem dX7_barInsert_51 : decode cX7_barInsert 51 = .ok (.iaload, 1) := by decide +kernel
theorem dX7_barInsert_52 : decode cX7_barInsert 52 = .ok (.bipush 30, 2) := by decide +kernel
theorem dX7_barInsert_54 : decode cX7_barInsert 54 = .ok (.if_icmp .ne 7, 3) := by decide +kernel
theorem dX7_barInsert_57 : decode cX7_barInsert 57 = .ok (.iconst 3, 1) := by decide +kernel
theorem dX7_barInsert_58 : decode cX7_barInsert 58 = .ok (.goto 4, 3) := by decide +kernel
theorem dX7_barInsert_61 : decode cX7_barInsert 61 = .ok (.iconst 0, 1) := by decide +kernel
theorem dX7_barInsert_62 : decode cX7_barInsert 62 = .ok (.ireturn, 1) := by decide +kernel
theorem dX7_barRemove_0 : decode cX7_barRemove 0 = .ok (.aload_n 0, 1) := by decide +kernel
theorem dX7_barRemove_1 : decode cX7_barRemove 1 = .ok (.iload_n 1, 1) := by decide +kernel
theorem dX7_barRemove_2 : decode cX7_barRemove 2 = .ok (.iload_n 2, 1) := by decide +kernel
theorem dX7_barRemove_3 : decode cX7_barRemove 3 = .ok (.invokevirtual 99, 3) := by decide +kernel
theorem dX7_barRemove_6 : decode cX7_barRemove 6 = .ok (.ifCond .eq 7, 3) := by decide +kernel
theorem dX7_barRemove_9 : decode cX7_barRemove 9 = .ok (.iconst 0, 1) := by decide +kernel
theorem dX7_barRemove_10 : decode cX7_barRemove 10 = .ok (.goto 4, 3) := by decide +kernel
theorem dX7_barRemove_13 : decode cX7_barRemove 13 = .ok (.iconst 1, 1) := by decide +kernel
theorem dX7_barRemove_14 : decode cX7_barRemove 14 = .ok (.ireturn, 1) := by decide +kernel
theorem dX7_edits_0 : decode cX7_edits 0 = .ok (.aload_n 0, 1) := by decide +kernel
theorem dX7_edits_1 : decode cX7_edits 1 = .ok (.iload_n 1, 1) := by decide +kernel
theorem dX7_edits_2 : decode cX7_edits 2 = .ok (.iload_n 2, 1) := by decide +kernel
theorem dX7_edits_3 : decode cX7_edits 3 = .ok (.invokevirtual 76, 3) := by decide +kernel
theorem dX7_edits_6 : decode cX7_edits 6 = .ok (.istore 4, 2) := by decide +kernel
theorem dX7_edits_8 : decode cX7_edits 8 = .ok (.aload_n 0, 1) := by decide +kernel
theorem dX7_edits_9 : decode cX7_edits 9 = .ok (.getfield 7, 3) := by decide +kernel
theorem dX7_edits_12 : decode cX7_edits 12 = .ok (.iload_n 1, 1) := by decide +kernel
theorem dX7_edits_13 : decode cX7_edits 13 = .ok (.bipush 16, 2) := by decide +kernel
theorem dX7_edits_15 : decode cX7_edits 15 = .ok (.iload_n 2, 1) := by decide +kernel
theorem dX7_edits_16 : decode cX7_edits 16 = .ok (.iadd, 1) := by decide +kernel
theorem dX7_edits_17 : decode cX7_edits 17 = .ok (.invokestatic 58, 3) := by decide +kernel
theorem dX7_edits_20 : decode cX7_edits 20 = .ok (.iload_n 3, 1) := by decide +kernel
theorem dX7_edits_21 : decode cX7_edits 21 = .ok (.iastore, 1) := by decide +kernel
theorem dX7_edits_22 : decode cX7_edits 22 = .ok (.iload 4, 2) := by decide +kernel
theorem dX7_edits_24 : decode cX7_edits 24 = .ok (.ireturn, 1) := by decide +kernel
theorem dX7_shifts_0 : decode cX7_shifts 0 = .ok (.aload_n 0, 1) := by decide +kernel
theorem dX7_shifts_1 : decode cX7_shifts 1 = .ok (.iload_n 1, 1) := by decide +kernel
theorem dX7_shifts_2 : decode cX7_shifts 2 = .ok (.iload_n 2, 1) := by decide +kernel
theorem dX7_shifts_3 : decode cX7_shifts 3 = .ok (.invokevirtual 70, 3) := by decide +kernel
theorem dX7_shifts_6 : decode cX7_shifts 6 = .ok (.istore 4, 2) := by decide +kernel
theorem dX7_shifts_8 : decode cX7_shifts 8 = .ok (.aload_n 0, 1) := by decide +kernel
theorem dX7_shifts_9 : decode cX7_shifts 9 = .ok (.iload_n 1, 1) := by decide +kernel
theorem dX7_shifts_10 : decode cX7_shifts 10 = .ok (.iload_n 2, 1) := by decide +kernel
theorem dX7_shifts_11 : decode cX7_shifts 11 = .ok (.invokevirtual 76, 3) := by decide +kernel
theorem dX7_shifts_14 : decode cX7_shifts 14 = .ok (.istore 5, 2) := by decide +kernel
theorem dX7_shifts_16 : decode cX7_shifts 16 = .ok (.aload_n 0, 1) := by decide +kernel
theorem dX7_shifts_17 : decode cX7_shifts 17 = .ok (.iload_n 1, 1) := by decide +kernel
theorem dX7_shifts_18 : decode cX7_shifts 18 = .ok (.iload_n 2, 1) := by decide +kernel
theorem dX7_shifts_19 : decode cX7_shifts 19 = .ok (.invokevirtual 102, 3) := by decide +kernel
theorem dX7_shifts_22 : decode cX7_shifts 22 = .ok (.aload_n 0, 1) := by decide +kernel
theorem dX7_shifts_23 : decode cX7_shifts 23 = .ok (.iload_n 1, 1) := by decide +kernel
theorem dX7_shifts_24 : decode cX7_shifts 24 = .ok (.iload_n 3, 1) := by decide +kernel
theorem dX7_shifts_25 : decode cX7_shifts 25 = .ok (.iload 4, 2) := by decide +kernel
theorem dX7_shifts_27 : decode cX7_shifts 27 = .ok (.iload 5, 2) := by decide +kernel
theorem dX7_shifts_29 : decode cX7_shifts 29 = .ok (.invokevirtual 95, 3) := by decide +kernel
theorem dX7_shifts_32 : decode cX7_shifts 32 = .ok (.iload 4, 2) := by decide +kernel
theorem dX7_shifts_34 : decode cX7_shifts 34 = .ok (.ireturn, 1) := by decide +kernel
theorem dX7_inserts_0 : decode cX7_inserts 0 = .ok (.aload_n 0, 1) := by decide +kernel
theorem dX7_inserts_1 : decode cX7_inserts 1 = .ok (.getfield 7, 3) := by decide +kernel
theorem dX7_inserts_4 : decode cX7_inserts 4 = .ok (.iconst 1, 1) := by decide +kernel
theorem dX7_inserts_5 : decode cX7_inserts 5 = .ok (.iaload, 1) := by decide +kernel
theorem dX7_inserts_6 : decode cX7_inserts 6 = .ok (.istore 4, 2) := by decide +kernel
theorem dX7_inserts_8 : decode cX7_inserts 8 = .ok (.aload_n 0, 1) := by decide +kernel
theorem dX7_inserts_9 : decode cX7_inserts 9 = .ok (.getfield 7, 3) := by decide +kernel
theorem dX7_inserts_12 : decode cX7_inserts 12 = .ok (.iconst 1, 1) := by decide +kernel
theorem dX7_inserts_13 : decode cX7_inserts 13 = .ok (.dup2, 1) := by decide +kernel
theorem dX7_inserts_14 : decode cX7_inserts 14 = .ok (.iaload, 1) := by decide +kernel
theorem dX7_inserts_15 : decode cX7_inserts 15 = .ok (.iconst 1, 1) := by decide +kernel
theorem dX7_inserts_16 : decode cX7_inserts 16 = .ok (.iadd, 1) := by decide +kernel
theorem dX7_inserts_17 : decode cX7_inserts 17 = .ok (.iastore, 1) := by decide +kernel
theorem dX7_inserts_18 : decode cX7_inserts 18 = .ok (.aload_n 0, 1) := by decide +kernel
theorem dX7_inserts_19 : decode cX7_inserts 19 = .ok (.iload_n 1, 1) := by decide +kernel
theorem dX7_inserts_20 : decode cX7_inserts 20 = .ok (.iload_n 2, 1) := by decide +kernel
theorem dX7_inserts_21 : decode cX7_inserts 21 = .ok (.iload 4, 2) := by decide +kernel
theorem dX7_inserts_23 : decode cX7_inserts 23 = .ok (.iload_n 3, 1) := by decide +kernel
theorem dX7_inserts_24 : decode cX7_inserts 24 = .ok (.invokevirtual 95, 3) := by decide +kernel
theorem dX7_inserts_27 : decode cX7_inserts 27 = .ok (.iload 4, 2) := by decide +kernel
theorem dX7_inserts_29 : decode cX7_inserts 29 = .ok (.ireturn, 1) := by decide +kernel
theorem dX7_removes_0 : decode cX7_removes 0 = .ok (.aload_n 0, 1) := by decide +kernel
theorem dX7_removes_1 : decode cX7_removes 1 = .ok (.iload_n 1, 1) := by decide +kernel
theorem dX7_removes_2 : decode cX7_removes 2 = .ok (.iload_n 2, 1) := by decide +kernel
theorem dX7_removes_3 : decode cX7_removes 3 = .ok (.invokevirtual 70, 3) := by decide +kernel
theorem dX7_removes_6 : decode cX7_removes 6 = .ok (.istore_n 3, 1) := by decide +kernel
theorem dX7_removes_7 : decode cX7_removes 7 = .ok (.aload_n 0, 1) := by decide +kernel
theorem dX7_removes_8 : decode cX7_removes 8 = .ok (.iload_n 1, 1) := by decide +kernel
theorem dX7_removes_9 : decode cX7_removes 9 = .ok (.iload_n 2, 1) := by decide +kernel
theorem dX7_removes_10 : decode cX7_removes 10 = .ok (.invokevirtual 102, 3) := by decide +kernel
theorem dX7_removes_13 : decode cX7_removes 13 = .ok (.iload_n 3, 1) := by decide +kernel
theorem dX7_removes_14 : decode cX7_removes 14 = .ok (.ireturn, 1) := by decide +kernel
theorem dX7_edit_0 : decode cX7_edit 0 = .ok (.aload_n 0, 1) := by decide +kernel
theorem dX7_edit_1 : decode cX7_edit 1 = .ok (.aload_n 0, 1) := by decide +kernel
theorem dX7_edit_2 : decode cX7_edit 2 = .ok (.iload_n 1, 1) := by decide +kernel
theorem dX7_edit_3 : decode cX7_edit 3 = .ok (.iload_n 2, 1) := by decide +kernel
theorem dX7_edit_4 : decode cX7_edit 4 = .ok (.iload_n 3, 1) := by decide +kernel
theorem dX7_edit_5 : decode cX7_edit 5 = .ok (.invokevirtual 106, 3) := by decide +kernel
theorem dX7_edit_8 : decode cX7_edit 8 = .ok (.invokevirtual 89, 3) := by decide +kernel
theorem dX7_edit_11 : decode cX7_edit 11 = .ok (.ifCond .eq 5, 3) := by decide +kernel
theorem dX7_edit_14 : decode cX7_edit 14 = .ok (.iconst 0, 1) := by decide +kernel
theorem dX7_edit_15 : decode cX7_edit 15 = .ok (.ireturn, 1) := by decide +kernel
theorem dX7_edit_16 : decode cX7_edit 16 = .ok (.aload_n 0, 1) := by decide +kernel
theorem dX7_edit_17 : decode cX7_edit 17 = .ok (.invokevirtual 92, 3) := by decide +kernel
theorem dX7_edit_20 : decode cX7_edit 20 = .ok (.aload_n 0, 1) := by decide +kernel
theorem dX7_edit_21 : decode cX7_edit 21 = .ok (.iload_n 1, 1) := by decide +kernel
theorem dX7_edit_22 : decode cX7_edit 22 = .ok (.iload_n 2, 1) := by decide +kernel
theorem dX7_edit_23 : decode cX7_edit 23 = .ok (.iload_n 3, 1) := by decide +kernel
theorem dX7_edit_24 : decode cX7_edit 24 = .ok (.invokevirtual 110, 3) := by decide +kernel
theorem dX7_edit_27 : decode cX7_edit 27 = .ok (.ireturn, 1) := by decide +kernel
theorem dX7_move_0 : decode cX7_move 0 = .ok (.aload_n 0, 1) := by decide +kernel
theorem dX7_move_1 : decode cX7_move 1 = .ok (.aload_n 0, 1) := by decide +kernel
theorem dX7_move_2 : decode cX7_move 2 = .ok (.iload_n 1, 1) := by decide +kernel
theorem dX7_move_3 : decode cX7_move 3 = .ok (.iload_n 2, 1) := by decide +kernel
theorem dX7_move_4 : decode cX7_move 4 = .ok (.iload_n 3, 1) := by decide +kernel
theorem dX7_move_5 : decode cX7_move 5 = .ok (.invokevirtual 113, 3) := by decide +kernel
theorem dX7_move_8 : decode cX7_move 8 = .ok (.invokevirtual 89, 3) := by decide +kernel
theorem dX7_move_11 : decode cX7_move 11 = .ok (.ifCond .eq 5, 3) := by decide +kernel
theorem dX7_move_14 : decode cX7_move 14 = .ok (.iconst 0, 1) := by decide +kernel
theorem dX7_move_15 : decode cX7_move 15 = .ok (.ireturn, 1) := by decide +kernel
theorem dX7_move_16 : decode cX7_move 16 = .ok (.aload_n 0, 1) := by decide +kernel
theorem dX7_move_17 : decode cX7_move 17 = .ok (.invokevirtual 92, 3) := by decide +kernel
theorem dX7_move_20 : decode cX7_move 20 = .ok (.aload_n 0, 1) := by decide +kernel
theorem dX7_move_21 : decode cX7_move 21 = .ok (.iload_n 1, 1) := by decide +kernel
theorem dX7_move_22 : decode cX7_move 22 = .ok (.iload_n 2, 1) := by decide +kernel
theorem dX7_move_23 : decode cX7_move 23 = .ok (.iload_n 3, 1) := by decide +kernel
theorem dX7_move_24 : decode cX7_move 24 = .ok (.invokevirtual 116, 3) := by decide +kernel
theorem dX7_move_27 : decode cX7_move 27 = .ok (.ireturn, 1) := by decide +kernel
theorem dX7_insert_0 : decode cX7_insert 0 = .ok (.aload_n 0, 1) := by decide +kernel
theorem dX7_insert_1 : decode cX7_insert 1 = .ok (.aload_n 0, 1) := by decide +kernel
theorem dX7_insert_2 : decode cX7_insert 2 = .ok (.iload_n 1, 1) := by decide +kernel
theorem dX7_insert_3 : decode cX7_insert 3 = .ok (.iload_n 2, 1) := by decide +kernel
theorem dX7_insert_4 : decode cX7_insert 4 = .ok (.iload_n 3, 1) := by decide +kernel
theorem dX7_insert_5 : decode cX7_insert 5 = .ok (.invokevirtual 119, 3) := by decide +kernel
theorem dX7_insert_8 : decode cX7_insert 8 = .ok (.invokevirtual 89, 3) := by decide +kernel
theorem dX7_insert_11 : decode cX7_insert 11 = .ok (.ifCond .eq 5, 3) := by decide +kernel
theorem dX7_insert_14 : decode cX7_insert 14 = .ok (.iconst 0, 1) := by decide +kernel
theorem dX7_insert_15 : decode cX7_insert 15 = .ok (.ireturn, 1) := by decide +kernel
theorem dX7_insert_16 : decode cX7_insert 16 = .ok (.aload_n 0, 1) := by decide +kernel
theorem dX7_insert_17 : decode cX7_insert 17 = .ok (.invokevirtual 92, 3) := by decide +kernel
theorem dX7_insert_20 : decode cX7_insert 20 = .ok (.aload_n 0, 1) := by decide +kernel
theorem dX7_insert_21 : decode cX7_insert 21 = .ok (.iload_n 1, 1) := by decide +kernel
theorem dX7_insert_22 : decode cX7_insert 22 = .ok (.iload_n 2, 1) := by decide +kernel
theorem dX7_insert_23 : decode cX7_insert 23 = .ok (.iload_n 3, 1) := by decide +kernel
theorem dX7_insert_24 : decode cX7_insert 24 = .ok (.invokevirtual 122, 3) := by decide +kernel
theorem dX7_insert_27 : decode cX7_insert 27 = .ok (.ireturn, 1) := by decide +kernel
theorem dX7_remove_0 : decode cX7_remove 0 = .ok (.aload_n 0, 1) := by decide +kernel
theorem dX7_remove_1 : decode cX7_remove 1 = .ok (.aload_n 0, 1) := by decide +kernel
theorem dX7_remove_2 : decode cX7_remove 2 = .ok (.iload_n 1, 1) := by decide +kernel
theorem dX7_remove_3 : decode cX7_remove 3 = .ok (.iload_n 2, 1) := by decide +kernel
theorem dX7_remove_4 : decode cX7_remove 4 = .ok (.invokevirtual 125, 3) := by decide +kernel
theorem dX7_remove_7 : decode cX7_remove 7 = .ok (.invokevirtual 89, 3) := by decide +kernel
theorem dX7_remove_10 : decode cX7_remove 10 = .ok (.ifCond .eq 5, 3) := by decide +kernel
theorem dX7_remove_13 : decode cX7_remove 13 = .ok (.iconst 0, 1) := by decide +kernel
theorem dX7_remove_14 : decode cX7_remove 14 = .ok (.ireturn, 1) := by decide +kernel
theorem dX7_remove_15 : decode cX7_remove 15 = .ok (.aload_n 0, 1) := by decide +kernel
theorem dX7_remove_16 : decode cX7_remove 16 = .ok (.invokevirtual 92, 3) := by decide +kernel
theorem dX7_remove_19 : decode cX7_remove 19 = .ok (.aload_n 0, 1) := by decide +kernel
theorem dX7_remove_20 : decode cX7_remove 20 = .ok (.iload_n 1, 1) := by decide +kernel
theorem dX7_remove_21 : decode cX7_remove 21 = .ok (.iload_n 2, 1) := by decide +kernel
theorem dX7_remove_22 : decode cX7_remove 22 = .ok (.invokevirtual 128, 3) := by decide +kernel
theorem dX7_remove_25 : decode cX7_remove 25 = .ok (.ireturn, 1) := by decide +kernel
theorem dX7_baseSize_0 : decode cX7_baseSize 0 = .ok (.aload_n 0, 1) := by decide +kernel
theorem dX7_baseSize_1 : decode cX7_baseSize 1 = .ok (.iconst 0, 1) := by decide +kernel
theorem dX7_baseSize_2 : decode cX7_baseSize 2 = .ok (.putfield 48, 3) := by decide +kernel
theorem dX7_baseSize_5 : decode cX7_baseSize 5 = .ok (.aload_n 0, 1) := by decide +kernel
theorem dX7_baseSize_6 : decode cX7_baseSize 6 = .ok (.getfield 7, 3) := by decide +kernel
theorem dX7_baseSize_9 : decode cX7_baseSize 9 = .ok (.iconst 0, 1) := by decide +kernel
theorem dX7_baseSize_10 : decode cX7_baseSize 10 = .ok (.iaload, 1) := by decide +kernel
theorem dX7_baseSize_11 : decode cX7_baseSize 11 = .ok (.ireturn, 1) := by decide +kernel
theorem dX7_size_0 : decode cX7_size 0 = .ok (.aload_n 0, 1) := by decide +kernel
theorem dX7_size_1 : decode cX7_size 1 = .ok (.iload_n 1, 1) := by decide +kernel
theorem dX7_size_2 : decode cX7_size 2 = .ok (.invokestatic 62, 3) := by decide +kernel
theorem dX7_size_5 : decode cX7_size 5 = .ok (.ifCond .eq 7, 3) := by decide +kernel
theorem dX7_size_8 : decode cX7_size 8 = .ok (.iconst 0, 1) := by decide +kernel
theorem dX7_size_9 : decode cX7_size 9 = .ok (.goto 4, 3) := by decide +kernel
theorem dX7_size_12 : decode cX7_size 12 = .ok (.iconst 1, 1) := by decide +kernel
theorem dX7_size_13 : decode cX7_size 13 = .ok (.invokevirtual 89, 3) := by decide +kernel
theorem dX7_size_16 : decode cX7_size 16 = .ok (.ifCond .eq 5, 3) := by decide +kernel
theorem dX7_size_19 : decode cX7_size 19 = .ok (.iconst 0, 1) := by decide +kernel
theorem dX7_size_20 : decode cX7_size 20 = .ok (.ireturn, 1) := by decide +kernel
theorem dX7_size_21 : decode cX7_size 21 = .ok (.aload_n 0, 1) := by decide +kernel
theorem dX7_size_22 : decode cX7_size 22 = .ok (.iload_n 1, 1) := by decide +kernel
theorem dX7_size_23 : decode cX7_size 23 = .ok (.invokevirtual 66, 3) := by decide +kernel
theorem dX7_size_26 : decode cX7_size 26 = .ok (.ireturn, 1) := by decide +kernel
theorem dX7_block_0 : decode cX7_block 0 = .ok (.aload_n 0, 1) := by decide +kernel
theorem dX7_block_1 : decode cX7_block 1 = .ok (.aload_n 0, 1) := by decide +kernel
theorem dX7_block_2 : decode cX7_block 2 = .ok (.iload_n 1, 1) := by decide +kernel
theorem dX7_block_3 : decode cX7_block 3 = .ok (.iload_n 2, 1) := by decide +kernel
theorem dX7_block_4 : decode cX7_block 4 = .ok (.invokevirtual 99, 3) := by decide +kernel
theorem dX7_block_7 : decode cX7_block 7 = .ok (.ifCond .eq 7, 3) := by decide +kernel
theorem dX7_block_10 : decode cX7_block 10 = .ok (.iconst 0, 1) := by decide +kernel
theorem dX7_block_11 : decode cX7_block 11 = .ok (.goto 4, 3) := by decide +kernel
theorem dX7_block_14 : decode cX7_block 14 = .ok (.iconst 1, 1) := by decide +kernel
theorem dX7_block_15 : decode cX7_block 15 = .ok (.invokevirtual 89, 3) := by decide +kernel
theorem dX7_block_18 : decode cX7_block 18 = .ok (.ifCond .eq 5, 3) := by decide +kernel
theorem dX7_block_21 : decode cX7_block 21 = .ok (.iconst 0, 1) := by decide +kernel
theorem dX7_block_22 : decode cX7_block 22 = .ok (.ireturn, 1) := by decide +kernel
theorem dX7_block_23 : decode cX7_block 23 = .ok (.aload_n 0, 1) := by decide +kernel
theorem dX7_block_24 : decode cX7_block 24 = .ok (.iload_n 1, 1) := by decide +kernel
theorem dX7_block_25 : decode cX7_block 25 = .ok (.iload_n 2, 1) := by decide +kernel
theorem dX7_block_26 : decode cX7_block 26 = .ok (.invokevirtual 70, 3) := by decide +kernel
theorem dX7_block_29 : decode cX7_block 29 = .ok (.ireturn, 1) := by decide +kernel
theorem dX7_content_0 : decode cX7_content 0 = .ok (.aload_n 0, 1) := by decide +kernel
theorem dX7_content_1 : decode cX7_content 1 = .ok (.aload_n 0, 1) := by decide +kernel
theorem dX7_content_2 : decode cX7_content 2 = .ok (.iload_n 1, 1) := by decide +kernel
theorem dX7_content_3 : decode cX7_content 3 = .ok (.iload_n 2, 1) := by decide +kernel
theorem dX7_content_4 : decode cX7_content 4 = .ok (.invokevirtual 99, 3) := by decide +kernel
theorem dX7_content_7 : decode cX7_content 7 = .ok (.ifCond .eq 7, 3) := by decide +kernel
theorem dX7_content_10 : decode cX7_content 10 = .ok (.iconst 0, 1) := by decide +kernel
theorem dX7_content_11 : decode cX7_content 11 = .ok (.goto 4, 3) := by decide +kernel
theorem dX7_content_14 : decode cX7_content 14 = .ok (.iconst 1, 1) := by decide +kernel
theorem dX7_content_15 : decode cX7_content 15 = .ok (.invokevirtual 89, 3) := by decide +kernel
theorem dX7_content_18 : decode cX7_content 18 = .ok (.ifCond .eq 5, 3) := by decide +kernel
theorem dX7_content_21 : decode cX7_content 21 = .ok (.iconst 0, 1) := by decide +kernel
theorem dX7_content_22 : decode cX7_content 22 = .ok (.ireturn, 1) := by decide +kernel
theorem dX7_content_23 : decode cX7_content 23 = .ok (.aload_n 0, 1) := by decide +kernel
theorem dX7_content_24 : decode cX7_content 24 = .ok (.iload_n 1, 1) := by decide +kernel
theorem dX7_content_25 : decode cX7_content 25 = .ok (.iload_n 2, 1) := by decide +kernel
theorem dX7_content_26 : decode cX7_content 26 = .ok (.invokevirtual 76, 3) := by decide +kernel
theorem dX7_content_29 : decode cX7_content 29 = .ok (.ireturn, 1) := by decide +kernel
theorem dX7_keeps_0 : decode cX7_keeps 0 = .ok (.iconst 0, 1) := by decide +kernel
theorem dX7_keeps_1 : decode cX7_keeps 1 = .ok (.istore_n 2, 1) := by decide +kernel
theorem dX7_keeps_2 : decode cX7_keeps 2 = .ok (.iload_n 2, 1) := by decide +kernel
theorem dX7_keeps_3 : decode cX7_keeps 3 = .ok (.bipush 10, 2) := by decide +kernel
theorem dX7_keeps_5 : decode cX7_keeps 5 = .ok (.if_icmp .ge 21, 3) := by decide +kernel
theorem dX7_keeps_8 : decode cX7_keeps 8 = .ok (.aload_n 0, 1) := by decide +kernel
theorem dX7_keeps_9 : decode cX7_keeps 9 = .ok (.getfield 19, 3) := by decide +kernel
theorem dX7_keeps_12 : decode cX7_keeps 12 = .ok (.bipush 10, 2) := by decide +kernel
theorem dX7_keeps_14 : decode cX7_keeps 14 = .ok (.iload_n 1, 1) := by decide +kernel
theorem dX7_keeps_15 : decode cX7_keeps 15 = .ok (.imul, 1) := by decide +kernel
theorem dX7_keeps_16 : decode cX7_keeps 16 = .ok (.iload_n 2, 1) := by decide +kernel
theorem dX7_keeps_17 : decode cX7_keeps 17 = .ok (.iadd, 1) := by decide +kernel
theorem dX7_keeps_18 : decode cX7_keeps 18 = .ok (.iconst 0, 1) := by decide +kernel
theorem dX7_keeps_19 : decode cX7_keeps 19 = .ok (.bastore, 1) := by decide +kernel
theorem dX7_keeps_20 : decode cX7_keeps 20 = .ok (.iinc 2 1, 3) := by decide +kernel
theorem dX7_keeps_23 : decode cX7_keeps 23 = .ok (.goto (-21), 3) := by decide +kernel
theorem dX7_keeps_26 : decode cX7_keeps 26 = .ok (.iconst 0, 1) := by decide +kernel
theorem dX7_keeps_27 : decode cX7_keeps 27 = .ok (.istore_n 2, 1) := by decide +kernel
theorem dX7_keeps_28 : decode cX7_keeps 28 = .ok (.aload_n 0, 1) := by decide +kernel
theorem dX7_keeps_29 : decode cX7_keeps 29 = .ok (.iload_n 1, 1) := by decide +kernel
theorem dX7_keeps_30 : decode cX7_keeps 30 = .ok (.invokevirtual 66, 3) := by decide +kernel
theorem dX7_keeps_33 : decode cX7_keeps 33 = .ok (.iconst 1, 1) := by decide +kernel
theorem dX7_keeps_34 : decode cX7_keeps 34 = .ok (.isub, 1) := by decide +kernel
theorem dX7_keeps_35 : decode cX7_keeps 35 = .ok (.istore_n 3, 1) := by decide +kernel
theorem dX7_keeps_36 : decode cX7_keeps 36 = .ok (.iload_n 3, 1) := by decide +kernel
theorem dX7_keeps_37 : decode cX7_keeps 37 = .ok (.ifCond .lt 172, 3) := by decide +kernel
theorem dX7_keeps_40 : decode cX7_keeps 40 = .ok (.aload_n 0, 1) := by decide +kernel
theorem dX7_keeps_41 : decode cX7_keeps 41 = .ok (.iload_n 1, 1) := by decide +kernel
theorem dX7_keeps_42 : decode cX7_keeps 42 = .ok (.iload_n 3, 1) := by decide +kernel
theorem dX7_keeps_43 : decode cX7_keeps 43 = .ok (.invokevirtual 70, 3) := by decide +kernel
theorem dX7_keeps_46 : decode cX7_keeps 46 = .ok (.istore 4, 2) := by decide +kernel
theorem dX7_keeps_48 : decode cX7_keeps 48 = .ok (.aload_n 0, 1) := by decide +kernel
theorem dX7_keeps_49 : decode cX7_keeps 49 = .ok (.getfield 41, 3) := by decide +kernel
theorem dX7_keeps_52 : decode cX7_keeps 52 = .ok (.iload_n 3, 1) := by decide +kernel
theorem dX7_keeps_53 : decode cX7_keeps 53 = .ok (.iload 4, 2) := by decide +kernel
theorem dX7_keeps_55 : decode cX7_keeps 55 = .ok (.aload_n 0, 1) := by decide +kernel
theorem dX7_keeps_56 : decode cX7_keeps 56 = .ok (.getfield 7, 3) := by decide +kernel
theorem dX7_keeps_59 : decode cX7_keeps 59 = .ok (.iconst 0, 1) := by decide +kernel
theorem dX7_keeps_60 : decode cX7_keeps 60 = .ok (.iaload, 1) := by decide +kernel
theorem dX7_keeps_61 : decode cX7_keeps 61 = .ok (.if_icmp .ge 7, 3) := by decide +kernel
theorem dX7_keeps_64 : decode cX7_keeps 64 = .ok (.iconst 1, 1) := by decide +kernel
theorem dX7_keeps_65 : decode cX7_keeps 65 = .ok (.goto 4, 3) := by decide +kernel
theorem dX7_keeps_68 : decode cX7_keeps 68 = .ok (.iconst 0, 1) := by decide +kernel
theorem dX7_keeps_69 : decode cX7_keeps 69 = .ok (.iastore, 1) := by decide +kernel
theorem dX7_keeps_70 : decode cX7_keeps 70 = .ok (.iload_n 3, 1) := by decide +kernel
theorem dX7_keeps_71 : decode cX7_keeps 71 = .ok (.iconst 1, 1) := by decide +kernel
theorem dX7_keeps_72 : decode cX7_keeps 72 = .ok (.iadd, 1) := by decide +kernel
theorem dX7_keeps_73 : decode cX7_keeps 73 = .ok (.istore 5, 2) := by decide +kernel
theorem dX7_keeps_75 : decode cX7_keeps 75 = .ok (.iload 5, 2) := by decide +kernel
theorem dX7_keeps_77 : decode cX7_keeps 77 = .ok (.aload_n 0, 1) := by decide +kernel
theorem dX7_keeps_78 : decode cX7_keeps 78 = .ok (.iload_n 1, 1) := by decide +kernel
theorem dX7_keeps_79 : decode cX7_keeps 79 = .ok (.invokevirtual 66, 3) := by decide +kernel
theorem dX7_keeps_82 : decode cX7_keeps 82 = .ok (.if_icmp .ge 100, 3) := by decide +kernel
theorem dX7_keeps_85 : decode cX7_keeps 85 = .ok (.iload 4, 2) := by decide +kernel
theorem dX7_keeps_87 : decode cX7_keeps 87 = .ok (.aload_n 0, 1) := by decide +kernel
theorem dX7_keeps_88 : decode cX7_keeps 88 = .ok (.getfield 7, 3) := by decide +kernel
theorem dX7_keeps_91 : decode cX7_keeps 91 = .ok (.iconst 0, 1) := by decide +kernel
theorem dX7_keeps_92 : decode cX7_keeps 92 = .ok (.iaload, 1) := by decide +kernel
theorem dX7_keeps_93 : decode cX7_keeps 93 = .ok (.if_icmp .ge 89, 3) := by decide +kernel
theorem dX7_keeps_96 : decode cX7_keeps 96 = .ok (.aload_n 0, 1) := by decide +kernel
theorem dX7_keeps_97 : decode cX7_keeps 97 = .ok (.iload_n 1, 1) := by decide +kernel
theorem dX7_keeps_98 : decode cX7_keeps 98 = .ok (.iload 5, 2) := by decide +kernel
theorem dX7_keeps_100 : decode cX7_keeps 100 = .ok (.invokevirtual 70, 3) := by decide +kernel
theorem dX7_keeps_103 : decode cX7_keeps 103 = .ok (.aload_n 0, 1) := by decide +kernel
theorem dX7_keeps_104 : decode cX7_keeps 104 = .ok (.getfield 7, 3) := by decide +kernel
theorem dX7_keeps_107 : decode cX7_keeps 107 = .ok (.iconst 0, 1) := by decide +kernel
theorem dX7_keeps_108 : decode cX7_keeps 108 = .ok (.iaload, 1) := by decide +kernel
theorem dX7_keeps_109 : decode cX7_keeps 109 = .ok (.if_icmp .ge 35, 3) := by decide +kernel
theorem dX7_keeps_112 : decode cX7_keeps 112 = .ok (.aload_n 0, 1) := by decide +kernel
theorem dX7_keeps_113 : decode cX7_keeps 113 = .ok (.iload_n 1, 1) := by decide +kernel
theorem dX7_keeps_114 : decode cX7_keeps 114 = .ok (.iload 5, 2) := by decide +kernel
theorem dX7_keeps_116 : decode cX7_keeps 116 = .ok (.invokevirtual 70, 3) := by decide +kernel
theorem dX7_keeps_119 : decode cX7_keeps 119 = .ok (.iload 4, 2) := by decide +kernel
theorem dX7_keeps_121 : decode cX7_keeps 121 = .ok (.if_icmp .le 23, 3) := by decide +kernel
theorem dX7_keeps_124 : decode cX7_keeps 124 = .ok (.aload_n 0, 1) := by decide +kernel
theorem dX7_keeps_125 : decode cX7_keeps 125 = .ok (.getfield 41, 3) := by decide +kernel
theorem dX7_keeps_128 : decode cX7_keeps 128 = .ok (.iload 5, 2) := by decide +kernel
theorem dX7_keeps_130 : decode cX7_keeps 130 = .ok (.iaload, 1) := by decide +kernel
theorem dX7_keeps_131 : decode cX7_keeps 131 = .ok (.aload_n 0, 1) := by decide +kernel
theorem dX7_keeps_132 : decode cX7_keeps 132 = .ok (.getfield 41, 3) := by decide +kernel
theorem dX7_keeps_135 : decode cX7_keeps 135 = .ok (.iload_n 3, 1) := by decide +kernel
theorem dX7_keeps_136 : decode cX7_keeps 136 = .ok (.iaload, 1) := by decide +kernel
theorem dX7_keeps_137 : decode cX7_keeps 137 = .ok (.if_icmp .lt 7, 3) := by decide +kernel
theorem dX7_keeps_140 : decode cX7_keeps 140 = .ok (.iconst 1, 1) := by decide +kernel
theorem dX7_keeps_141 : decode cX7_keeps 141 = .ok (.goto 4, 3) := by decide +kernel
theorem dX7_keeps_144 : decode cX7_keeps 144 = .ok (.iconst 0, 1) := by decide +kernel
theorem dX7_keeps_145 : decode cX7_keeps 145 = .ok (.istore 6, 2) := by decide +kernel
theorem dX7_keeps_147 : decode cX7_keeps 147 = .ok (.aload_n 0, 1) := by decide +kernel
theorem dX7_keeps_148 : decode cX7_keeps 148 = .ok (.getfield 41, 3) := by decide +kernel
theorem dX7_keeps_151 : decode cX7_keeps 151 = .ok (.iload_n 3, 1) := by decide +kernel
theorem dX7_keeps_152 : decode cX7_keeps 152 = .ok (.iload 6, 2) := by decide +kernel
theorem dX7_keeps_154 : decode cX7_keeps 154 = .ok (.ifCond .eq 15, 3) := by decide +kernel
theorem dX7_keeps_157 : decode cX7_keeps 157 = .ok (.aload_n 0, 1) := by decide +kernel
theorem dX7_keeps_158 : decode cX7_keeps 158 = .ok (.getfield 41, 3) := by decide +kernel
theorem dX7_keeps_161 : decode cX7_keeps 161 = .ok (.iload 5, 2) := by decide +kernel
theorem dX7_keeps_163 : decode cX7_keeps 163 = .ok (.iaload, 1) := by decide +kernel
theorem dX7_keeps_164 : decode cX7_keeps 164 = .ok (.iconst 1, 1) := by decide +kernel
theorem dX7_keeps_165 : decode cX7_keeps 165 = .ok (.iadd, 1) := by decide +kernel
theorem dX7_keeps_166 : decode cX7_keeps 166 = .ok (.goto 9, 3) := by decide +kernel
theorem dX7_keeps_169 : decode cX7_keeps 169 = .ok (.aload_n 0, 1) := by decide +kernel
theorem dX7_keeps_170 : decode cX7_keeps 170 = .ok (.getfield 41, 3) := by decide +kernel
theorem dX7_keeps_173 : decode cX7_keeps 173 = .ok (.iload_n 3, 1) := by decide +kernel
theorem dX7_keeps_174 : decode cX7_keeps 174 = .ok (.iaload, 1) := by decide +kernel
theorem dX7_keeps_175 : decode cX7_keeps 175 = .ok (.iastore, 1) := by decide +kernel
theorem dX7_keeps_176 : decode cX7_keeps 176 = .ok (.iinc 5 1, 3) := by decide +kernel
theorem dX7_keeps_179 : decode cX7_keeps 179 = .ok (.goto (-104), 3) := by decide +kernel
theorem dX7_keeps_182 : decode cX7_keeps 182 = .ok (.aload_n 0, 1) := by decide +kernel
theorem dX7_keeps_183 : decode cX7_keeps 183 = .ok (.getfield 41, 3) := by decide +kernel
theorem dX7_keeps_186 : decode cX7_keeps 186 = .ok (.iload_n 3, 1) := by decide +kernel
theorem dX7_keeps_187 : decode cX7_keeps 187 = .ok (.iaload, 1) := by decide +kernel
theorem dX7_keeps_188 : decode cX7_keeps 188 = .ok (.iload_n 2, 1) := by decide +kernel
theorem dX7_keeps_189 : decode cX7_keeps 189 = .ok (.if_icmp .le 12, 3) := by decide +kernel
theorem dX7_keeps_192 : decode cX7_keeps 192 = .ok (.aload_n 0, 1) := by decide +kernel
theorem dX7_keeps_193 : decode cX7_keeps 193 = .ok (.getfield 41, 3) := by decide +kernel
theorem dX7_keeps_196 : decode cX7_keeps 196 = .ok (.iload_n 3, 1) := by decide +kernel
theorem dX7_keeps_197 : decode cX7_keeps 197 = .ok (.iaload, 1) := by decide +kernel
theorem dX7_keeps_198 : decode cX7_keeps 198 = .ok (.goto 4, 3) := by decide +kernel
theorem dX7_keeps_201 : decode cX7_keeps 201 = .ok (.iload_n 2, 1) := by decide +kernel
theorem dX7_keeps_202 : decode cX7_keeps 202 = .ok (.istore_n 2, 1) := by decide +kernel
theorem dX7_keeps_203 : decode cX7_keeps 203 = .ok (.iinc 3 (-1), 3) := by decide +kernel
theorem dX7_keeps_206 : decode cX7_keeps 206 = .ok (.goto (-170), 3) := by decide +kernel
theorem dX7_keeps_209 : decode cX7_keeps 209 = .ok (.iconst (-1), 1) := by decide +kernel
theorem dX7_keeps_210 : decode cX7_keeps 210 = .ok (.istore_n 3, 1) := by decide +kernel
theorem dX7_keeps_211 : decode cX7_keeps 211 = .ok (.iconst 0, 1) := by decide +kernel
theorem dX7_keeps_212 : decode cX7_keeps 212 = .ok (.istore 4, 2) := by decide +kernel
theorem dX7_keeps_214 : decode cX7_keeps 214 = .ok (.iload_n 2, 1) := by decide +kernel
theorem dX7_keeps_215 : decode cX7_keeps 215 = .ok (.istore 5, 2) := by decide +kernel
theorem dX7_keeps_217 : decode cX7_keeps 217 = .ok (.iload 5, 2) := by decide +kernel
theorem dX7_keeps_219 : decode cX7_keeps 219 = .ok (.ifCond .le 141, 3) := by decide +kernel
theorem dX7_keeps_222 : decode cX7_keeps 222 = .ok (.iconst (-1), 1) := by decide +kernel
theorem dX7_keeps_223 : decode cX7_keeps 223 = .ok (.istore 6, 2) := by decide +kernel
theorem dX7_keeps_225 : decode cX7_keeps 225 = .ok (.iload 4, 2) := by decide +kernel
theorem dX7_keeps_227 : decode cX7_keeps 227 = .ok (.istore 7, 2) := by decide +kernel
theorem dX7_keeps_229 : decode cX7_keeps 229 = .ok (.iload 7, 2) := by decide +kernel
theorem dX7_keeps_231 : decode cX7_keeps 231 = .ok (.aload_n 0, 1) := by decide +kernel
theorem dX7_keeps_232 : decode cX7_keeps 232 = .ok (.iload_n 1, 1) := by decide +kernel
theorem dX7_keeps_233 : decode cX7_keeps 233 = .ok (.invokevirtual 66, 3) := by decide +kernel
theorem dX7_keeps_236 : decode cX7_keeps 236 = .ok (.if_icmp .ge 92, 3) := by decide +kernel
theorem dX7_keeps_239 : decode cX7_keeps 239 = .ok (.aload_n 0, 1) := by decide +kernel
theorem dX7_keeps_240 : decode cX7_keeps 240 = .ok (.getfield 41, 3) := by decide +kernel
theorem dX7_keeps_243 : decode cX7_keeps 243 = .ok (.iload 7, 2) := by decide +kernel
theorem dX7_keeps_245 : decode cX7_keeps 245 = .ok (.iaload, 1) := by decide +kernel
theorem dX7_keeps_246 : decode cX7_keeps 246 = .ok (.iload 5, 2) := by decide +kernel
theorem dX7_keeps_248 : decode cX7_keeps 248 = .ok (.if_icmp .ne 34, 3) := by decide +kernel
theorem dX7_keeps_251 : decode cX7_keeps 251 = .ok (.aload_n 0, 1) := by decide +kernel
theorem dX7_keeps_252 : decode cX7_keeps 252 = .ok (.iload_n 1, 1) := by decide +kernel
theorem dX7_keeps_253 : decode cX7_keeps 253 = .ok (.iload 7, 2) := by decide +kernel
theorem dX7_keeps_255 : decode cX7_keeps 255 = .ok (.invokevirtual 70, 3) := by decide +kernel
theorem dX7_keeps_258 : decode cX7_keeps 258 = .ok (.iload_n 3, 1) := by decide +kernel
theorem dX7_keeps_259 : decode cX7_keeps 259 = .ok (.if_icmp .le 23, 3) := by decide +kernel
theorem dX7_keeps_262 : decode cX7_keeps 262 = .ok (.aload_n 0, 1) := by decide +kernel
theorem dX7_keeps_263 : decode cX7_keeps 263 = .ok (.iload_n 1, 1) := by decide +kernel
theorem dX7_keeps_264 : decode cX7_keeps 264 = .ok (.iload 7, 2) := by decide +kernel
theorem dX7_keeps_266 : decode cX7_keeps 266 = .ok (.invokevirtual 70, 3) := by decide +kernel
theorem dX7_keeps_269 : decode cX7_keeps 269 = .ok (.aload_n 0, 1) := by decide +kernel
theorem dX7_keeps_270 : decode cX7_keeps 270 = .ok (.getfield 7, 3) := by decide +kernel
theorem dX7_keeps_273 : decode cX7_keeps 273 = .ok (.iconst 0, 1) := by decide +kernel
theorem dX7_keeps_274 : decode cX7_keeps 274 = .ok (.iaload, 1) := by decide +kernel
theorem dX7_keeps_275 : decode cX7_keeps 275 = .ok (.if_icmp .ge 7, 3) := by decide +kernel
theorem dX7_keeps_278 : decode cX7_keeps 278 = .ok (.iconst 1, 1) := by decide +kernel
theorem dX7_keeps_279 : decode cX7_keeps 279 = .ok (.goto 4, 3) := by decide +kernel
theorem dX7_keeps_282 : decode cX7_keeps 282 = .ok (.iconst 0, 1) := by decide +kernel
theorem dX7_keeps_283 : decode cX7_keeps 283 = .ok (.istore 8, 2) := by decide +kernel
theorem dX7_keeps_285 : decode cX7_keeps 285 = .ok (.iload 8, 2) := by decide +kernel
theorem dX7_keeps_287 : decode cX7_keeps 287 = .ok (.ifCond .eq 31, 3) := by decide +kernel
theorem dX7_keeps_290 : decode cX7_keeps 290 = .ok (.iload 6, 2) := by decide +kernel
theorem dX7_keeps_292 : decode cX7_keeps 292 = .ok (.iconst (-1), 1) := by decide +kernel
theorem dX7_keeps_293 : decode cX7_keeps 293 = .ok (.if_icmp .eq 20, 3) := by decide +kernel
theorem dX7_keeps_296 : decode cX7_keeps 296 = .ok (.aload_n 0, 1) := by decide +kernel
theorem dX7_keeps_297 : decode cX7_keeps 297 = .ok (.iload_n 1, 1) := by decide +kernel
theorem dX7_keeps_298 : decode cX7_keeps 298 = .ok (.iload 7, 2) := by decide +kernel
theorem dX7_keeps_300 : decode cX7_keeps 300 = .ok (.invokevirtual 70, 3) := by decide +kernel
theorem dX7_keeps_303 : decode cX7_keeps 303 = .ok (.aload_n 0, 1) := by decide +kernel
theorem dX7_keeps_304 : decode cX7_keeps 304 = .ok (.iload_n 1, 1) := by decide +kernel
theorem dX7_keeps_305 : decode cX7_keeps 305 = .ok (.iload 6, 2) := by decide +kernel
theorem dX7_keeps_307 : decode cX7_keeps 307 = .ok (.invokevirtual 70, 3) := by decide +kernel
theorem dX7_keeps_310 : decode cX7_keeps 310 = .ok (.if_icmp .ge 8, 3) := by decide +kernel
theorem dX7_keeps_313 : decode cX7_keeps 313 = .ok (.iload 7, 2) := by decide +kernel
theorem dX7_keeps_315 : decode cX7_keeps 315 = .ok (.goto 5, 3) := by decide +kernel
theorem dX7_keeps_318 : decode cX7_keeps 318 = .ok (.iload 6, 2) := by decide +kernel
theorem dX7_keeps_320 : decode cX7_keeps 320 = .ok (.istore 6, 2) := by decide +kernel
theorem dX7_keeps_322 : decode cX7_keeps 322 = .ok (.iinc 7 1, 3) := by decide +kernel
theorem dX7_keeps_325 : decode cX7_keeps 325 = .ok (.goto (-96), 3) := by decide +kernel
theorem dX7_keeps_328 : decode cX7_keeps 328 = .ok (.aload_n 0, 1) := by decide +kernel
theorem dX7_keeps_329 : decode cX7_keeps 329 = .ok (.iload_n 1, 1) := by decide +kernel
theorem dX7_keeps_330 : decode cX7_keeps 330 = .ok (.iload 6, 2) := by decide +kernel
theorem dX7_keeps_332 : decode cX7_keeps 332 = .ok (.invokevirtual 70, 3) := by decide +kernel
theorem dX7_keeps_335 : decode cX7_keeps 335 = .ok (.istore_n 3, 1) := by decide +kernel
theorem dX7_keeps_336 : decode cX7_keeps 336 = .ok (.iload 6, 2) := by decide +kernel
theorem dX7_keeps_338 : decode cX7_keeps 338 = .ok (.iconst 1, 1) := by decide +kernel
theorem dX7_keeps_339 : decode cX7_keeps 339 = .ok (.iadd, 1) := by decide +kernel
theorem dX7_keeps_340 : decode cX7_keeps 340 = .ok (.istore 4, 2) := by decide +kernel
theorem dX7_keeps_342 : decode cX7_keeps 342 = .ok (.aload_n 0, 1) := by decide +kernel
theorem dX7_keeps_343 : decode cX7_keeps 343 = .ok (.getfield 19, 3) := by decide +kernel
theorem dX7_keeps_346 : decode cX7_keeps 346 = .ok (.bipush 10, 2) := by decide +kernel
theorem dX7_keeps_348 : decode cX7_keeps 348 = .ok (.iload_n 1, 1) := by decide +kernel
theorem dX7_keeps_349 : decode cX7_keeps 349 = .ok (.imul, 1) := by decide +kernel
theorem dX7_keeps_350 : decode cX7_keeps 350 = .ok (.iload_n 3, 1) := by decide +kernel
theorem dX7_keeps_351 : decode cX7_keeps 351 = .ok (.iadd, 1) := by decide +kernel
theorem dX7_keeps_352 : decode cX7_keeps 352 = .ok (.iconst 1, 1) := by decide +kernel
theorem dX7_keeps_353 : decode cX7_keeps 353 = .ok (.bastore, 1) := by decide +kernel
theorem dX7_keeps_354 : decode cX7_keeps 354 = .ok (.iinc 5 (-1), 3) := by decide +kernel
theorem dX7_keeps_357 : decode cX7_keeps 357 = .ok (.goto (-140), 3) := by decide +kernel
theorem dX7_keeps_360 : decode cX7_keeps 360 = .ok (.return_, 1) := by decide +kernel
theorem dX7_doesMove_0 : decode cX7_doesMove 0 = .ok (.aload_n 0, 1) := by decide +kernel
theorem dX7_doesMove_1 : decode cX7_doesMove 1 = .ok (.iload_n 1, 1) := by decide +kernel
theorem dX7_doesMove_2 : decode cX7_doesMove 2 = .ok (.iload_n 2, 1) := by decide +kernel
theorem dX7_doesMove_3 : decode cX7_doesMove 3 = .ok (.invokevirtual 79, 3) := by decide +kernel
theorem dX7_doesMove_6 : decode cX7_doesMove 6 = .ok (.ifCond .eq 21, 3) := by decide +kernel
theorem dX7_doesMove_9 : decode cX7_doesMove 9 = .ok (.aload_n 0, 1) := by decide +kernel
theorem dX7_doesMove_10 : decode cX7_doesMove 10 = .ok (.getfield 19, 3) := by decide +kernel
theorem dX7_doesMove_13 : decode cX7_doesMove 13 = .ok (.bipush 10, 2) := by decide +kernel
theorem dX7_doesMove_15 : decode cX7_doesMove 15 = .ok (.iload_n 1, 1) := by decide +kernel
theorem dX7_doesMove_16 : decode cX7_doesMove 16 = .ok (.imul, 1) := by decide +kernel
theorem dX7_doesMove_17 : decode cX7_doesMove 17 = .ok (.iload_n 2, 1) := by decide +kernel
theorem dX7_doesMove_18 : decode cX7_doesMove 18 = .ok (.iadd, 1) := by decide +kernel
theorem dX7_doesMove_19 : decode cX7_doesMove 19 = .ok (.baload, 1) := by decide +kernel
theorem dX7_doesMove_20 : decode cX7_doesMove 20 = .ok (.ifCond .ne 7, 3) := by decide +kernel
theorem dX7_doesMove_23 : decode cX7_doesMove 23 = .ok (.iconst 1, 1) := by decide +kernel
theorem dX7_doesMove_24 : decode cX7_doesMove 24 = .ok (.goto 4, 3) := by decide +kernel
theorem dX7_doesMove_27 : decode cX7_doesMove 27 = .ok (.iconst 0, 1) := by decide +kernel
theorem dX7_doesMove_28 : decode cX7_doesMove 28 = .ok (.ireturn, 1) := by decide +kernel
theorem dX7_changeOf_0 : decode cX7_changeOf 0 = .ok (.aload_n 0, 1) := by decide +kernel
theorem dX7_changeOf_1 : decode cX7_changeOf 1 = .ok (.iload_n 1, 1) := by decide +kernel
theorem dX7_changeOf_2 : decode cX7_changeOf 2 = .ok (.iload_n 2, 1) := by decide +kernel
theorem dX7_changeOf_3 : decode cX7_changeOf 3 = .ok (.invokevirtual 79, 3) := by decide +kernel
theorem dX7_changeOf_6 : decode cX7_changeOf 6 = .ok (.ifCond .ne 7, 3) := by decide +kernel
theorem dX7_changeOf_9 : decode cX7_changeOf 9 = .ok (.iconst 4, 1) := by decide +kernel
theorem dX7_changeOf_10 : decode cX7_changeOf 10 = .ok (.goto 32, 3) := by decide +kernel
theorem dX7_changeOf_13 : decode cX7_changeOf 13 = .ok (.aload_n 0, 1) := by decide +kernel
theorem dX7_changeOf_14 : decode cX7_changeOf 14 = .ok (.iload_n 1, 1) := by decide +kernel
theorem dX7_changeOf_15 : decode cX7_changeOf 15 = .ok (.iload_n 2, 1) := by decide +kernel
theorem dX7_changeOf_16 : decode cX7_changeOf 16 = .ok (.invokevirtual 131, 3) := by decide +kernel
theorem dX7_changeOf_19 : decode cX7_changeOf 19 = .ok (.ifCond .eq 7, 3) := by decide +kernel
theorem dX7_changeOf_22 : decode cX7_changeOf 22 = .ok (.iconst 1, 1) := by decide +kernel
theorem dX7_changeOf_23 : decode cX7_changeOf 23 = .ok (.goto 4, 3) := by decide +kernel
theorem dX7_changeOf_26 : decode cX7_changeOf 26 = .ok (.iconst 0, 1) := by decide +kernel
theorem dX7_changeOf_27 : decode cX7_changeOf 27 = .ok (.aload_n 0, 1) := by decide +kernel
theorem dX7_changeOf_28 : decode cX7_changeOf 28 = .ok (.iload_n 1, 1) := by decide +kernel
theorem dX7_changeOf_29 : decode cX7_changeOf 29 = .ok (.iload_n 2, 1) := by decide +kernel
theorem dX7_changeOf_30 : decode cX7_changeOf 30 = .ok (.invokevirtual 134, 3) := by decide +kernel
theorem dX7_changeOf_33 : decode cX7_changeOf 33 = .ok (.ifCond .eq 7, 3) := by decide +kernel
theorem dX7_changeOf_36 : decode cX7_changeOf 36 = .ok (.iconst 2, 1) := by decide +kernel
theorem dX7_changeOf_37 : decode cX7_changeOf 37 = .ok (.goto 4, 3) := by decide +kernel
theorem dX7_changeOf_40 : decode cX7_changeOf 40 = .ok (.iconst 0, 1) := by decide +kernel
theorem dX7_changeOf_41 : decode cX7_changeOf 41 = .ok (.iadd, 1) := by decide +kernel
theorem dX7_changeOf_42 : decode cX7_changeOf 42 = .ok (.ireturn, 1) := by decide +kernel
theorem dX7_change_0 : decode cX7_change 0 = .ok (.aload_n 0, 1) := by decide +kernel
theorem dX7_change_1 : decode cX7_change 1 = .ok (.iload_n 1, 1) := by decide +kernel
theorem dX7_change_2 : decode cX7_change 2 = .ok (.invokestatic 62, 3) := by decide +kernel
theorem dX7_change_5 : decode cX7_change 5 = .ok (.ifCond .eq 23, 3) := by decide +kernel
theorem dX7_change_8 : decode cX7_change 8 = .ok (.iload_n 2, 1) := by decide +kernel
theorem dX7_change_9 : decode cX7_change 9 = .ok (.iconst 0, 1) := by decide +kernel
theorem dX7_change_10 : decode cX7_change 10 = .ok (.aload_n 0, 1) := by decide +kernel
theorem dX7_change_11 : decode cX7_change 11 = .ok (.getfield 7, 3) := by decide +kernel
theorem dX7_change_14 : decode cX7_change 14 = .ok (.iconst 0, 1) := by decide +kernel
theorem dX7_change_15 : decode cX7_change 15 = .ok (.iaload, 1) := by decide +kernel
theorem dX7_change_16 : decode cX7_change 16 = .ok (.iconst 1, 1) := by decide +kernel
theorem dX7_change_17 : decode cX7_change 17 = .ok (.isub, 1) := by decide +kernel
theorem dX7_change_18 : decode cX7_change 18 = .ok (.invokestatic 54, 3) := by decide +kernel
theorem dX7_change_21 : decode cX7_change 21 = .ok (.ifCond .eq 7, 3) := by decide +kernel
theorem dX7_change_24 : decode cX7_change 24 = .ok (.iconst 0, 1) := by decide +kernel
theorem dX7_change_25 : decode cX7_change 25 = .ok (.goto 4, 3) := by decide +kernel
theorem dX7_change_28 : decode cX7_change 28 = .ok (.iconst 1, 1) := by decide +kernel
theorem dX7_change_29 : decode cX7_change 29 = .ok (.invokevirtual 89, 3) := by decide +kernel
theorem dX7_change_32 : decode cX7_change 32 = .ok (.ifCond .eq 5, 3) := by decide +kernel
theorem dX7_change_35 : decode cX7_change 35 = .ok (.iconst 0, 1) := by decide +kernel
theorem dX7_change_36 : decode cX7_change 36 = .ok (.ireturn, 1) := by decide +kernel
theorem dX7_change_37 : decode cX7_change 37 = .ok (.aload_n 0, 1) := by decide +kernel
theorem dX7_change_38 : decode cX7_change 38 = .ok (.iload_n 1, 1) := by decide +kernel
theorem dX7_change_39 : decode cX7_change 39 = .ok (.invokevirtual 137, 3) := by decide +kernel
theorem dX7_change_42 : decode cX7_change 42 = .ok (.aload_n 0, 1) := by decide +kernel
theorem dX7_change_43 : decode cX7_change 43 = .ok (.iload_n 1, 1) := by decide +kernel
theorem dX7_change_44 : decode cX7_change 44 = .ok (.iload_n 2, 1) := by decide +kernel
theorem dX7_change_45 : decode cX7_change 45 = .ok (.invokevirtual 141, 3) := by decide +kernel
theorem dX7_change_48 : decode cX7_change 48 = .ok (.ireturn, 1) := by decide +kernel
theorem dX7_moves_0 : decode cX7_moves 0 = .ok (.aload_n 0, 1) := by decide +kernel
theorem dX7_moves_1 : decode cX7_moves 1 = .ok (.iload_n 1, 1) := by decide +kernel
theorem dX7_moves_2 : decode cX7_moves 2 = .ok (.invokestatic 62, 3) := by decide +kernel
theorem dX7_moves_5 : decode cX7_moves 5 = .ok (.ifCond .eq 7, 3) := by decide +kernel
theorem dX7_moves_8 : decode cX7_moves 8 = .ok (.iconst 0, 1) := by decide +kernel
theorem dX7_moves_9 : decode cX7_moves 9 = .ok (.goto 4, 3) := by decide +kernel
theorem dX7_moves_12 : decode cX7_moves 12 = .ok (.iconst 1, 1) := by decide +kernel
theorem dX7_moves_13 : decode cX7_moves 13 = .ok (.invokevirtual 89, 3) := by decide +kernel
theorem dX7_moves_16 : decode cX7_moves 16 = .ok (.ifCond .eq 5, 3) := by decide +kernel
theorem dX7_moves_19 : decode cX7_moves 19 = .ok (.iconst 0, 1) := by decide +kernel
theorem dX7_moves_20 : decode cX7_moves 20 = .ok (.ireturn, 1) := by decide +kernel
theorem dX7_moves_21 : decode cX7_moves 21 = .ok (.aload_n 0, 1) := by decide +kernel
theorem dX7_moves_22 : decode cX7_moves 22 = .ok (.iload_n 1, 1) := by decide +kernel
theorem dX7_moves_23 : decode cX7_moves 23 = .ok (.invokevirtual 137, 3) := by decide +kernel
theorem dX7_moves_26 : decode cX7_moves 26 = .ok (.iconst 0, 1) := by decide +kernel
theorem dX7_moves_27 : decode cX7_moves 27 = .ok (.istore_n 2, 1) := by decide +kernel
theorem dX7_moves_28 : decode cX7_moves 28 = .ok (.iconst 0, 1) := by decide +kernel
theorem dX7_moves_29 : decode cX7_moves 29 = .ok (.istore_n 3, 1) := by decide +kernel
theorem dX7_moves_30 : decode cX7_moves 30 = .ok (.iload_n 3, 1) := by decide +kernel
theorem dX7_moves_31 : decode cX7_moves 31 = .ok (.aload_n 0, 1) := by decide +kernel
theorem dX7_moves_32 : decode cX7_moves 32 = .ok (.getfield 7, 3) := by decide +kernel
theorem dX7_moves_35 : decode cX7_moves 35 = .ok (.iconst 0, 1) := by decide +kernel
theorem dX7_moves_36 : decode cX7_moves 36 = .ok (.iaload, 1) := by decide +kernel
theorem dX7_moves_37 : decode cX7_moves 37 = .ok (.if_icmp .ge 26, 3) := by decide +kernel
theorem dX7_moves_40 : decode cX7_moves 40 = .ok (.iload_n 2, 1) := by decide +kernel
theorem dX7_moves_41 : decode cX7_moves 41 = .ok (.aload_n 0, 1) := by decide +kernel
theorem dX7_moves_42 : decode cX7_moves 42 = .ok (.iload_n 1, 1) := by decide +kernel
theorem dX7_moves_43 : decode cX7_moves 43 = .ok (.iload_n 3, 1) := by decide +kernel
theorem dX7_moves_44 : decode cX7_moves 44 = .ok (.invokevirtual 134, 3) := by decide +kernel
theorem dX7_moves_47 : decode cX7_moves 47 = .ok (.ifCond .eq 7, 3) := by decide +kernel
theorem dX7_moves_50 : decode cX7_moves 50 = .ok (.iconst 1, 1) := by decide +kernel
theorem dX7_moves_51 : decode cX7_moves 51 = .ok (.goto 4, 3) := by decide +kernel
theorem dX7_moves_54 : decode cX7_moves 54 = .ok (.iconst 0, 1) := by decide +kernel
theorem dX7_moves_55 : decode cX7_moves 55 = .ok (.iadd, 1) := by decide +kernel
theorem dX7_moves_56 : decode cX7_moves 56 = .ok (.istore_n 2, 1) := by decide +kernel
theorem dX7_moves_57 : decode cX7_moves 57 = .ok (.iinc 3 1, 3) := by decide +kernel
theorem dX7_moves_60 : decode cX7_moves 60 = .ok (.goto (-30), 3) := by decide +kernel
theorem dX7_moves_63 : decode cX7_moves 63 = .ok (.iload_n 2, 1) := by decide +kernel
theorem dX7_moves_64 : decode cX7_moves 64 = .ok (.ireturn, 1) := by decide +kernel
theorem dX7_chosen_0 : decode cX7_chosen 0 = .ok (.aload_n 0, 1) := by decide +kernel
theorem dX7_chosen_1 : decode cX7_chosen 1 = .ok (.getfield 29, 3) := by decide +kernel
theorem dX7_chosen_4 : decode cX7_chosen 4 = .ok (.aload_n 0, 1) := by decide +kernel
theorem dX7_chosen_5 : decode cX7_chosen 5 = .ok (.getfield 144, 3) := by decide +kernel
theorem dX7_chosen_8 : decode cX7_chosen 8 = .ok (.iload_n 1, 1) := by decide +kernel
theorem dX7_chosen_9 : decode cX7_chosen 9 = .ok (.iastore, 1) := by decide +kernel
theorem dX7_chosen_10 : decode cX7_chosen 10 = .ok (.aload_n 0, 1) := by decide +kernel
theorem dX7_chosen_11 : decode cX7_chosen 11 = .ok (.getfield 32, 3) := by decide +kernel
theorem dX7_chosen_14 : decode cX7_chosen 14 = .ok (.aload_n 0, 1) := by decide +kernel
theorem dX7_chosen_15 : decode cX7_chosen 15 = .ok (.getfield 144, 3) := by decide +kernel
theorem dX7_chosen_18 : decode cX7_chosen 18 = .ok (.iload_n 2, 1) := by decide +kernel
theorem dX7_chosen_19 : decode cX7_chosen 19 = .ok (.iastore, 1) := by decide +kernel
theorem dX7_chosen_20 : decode cX7_chosen 20 = .ok (.aload_n 0, 1) := by decide +kernel
theorem dX7_chosen_21 : decode cX7_chosen 21 = .ok (.dup, 1) := by decide +kernel
theorem dX7_chosen_22 : decode cX7_chosen 22 = .ok (.getfield 144, 3) := by decide +kernel
theorem dX7_chosen_25 : decode cX7_chosen 25 = .ok (.iconst 1, 1) := by decide +kernel
theorem dX7_chosen_26 : decode cX7_chosen 26 = .ok (.iadd, 1) := by decide +kernel
theorem dX7_chosen_27 : decode cX7_chosen 27 = .ok (.putfield 144, 3) := by decide +kernel
theorem dX7_chosen_30 : decode cX7_chosen 30 = .ok (.aload_n 0, 1) := by decide +kernel
theorem dX7_chosen_31 : decode cX7_chosen 31 = .ok (.getfield 7, 3) := by decide +kernel
theorem dX7_chosen_34 : decode cX7_chosen 34 = .ok (.bipush 74, 2) := by decide +kernel
theorem dX7_chosen_36 : decode cX7_chosen 36 = .ok (.iconst 3, 1) := by decide +kernel
theorem dX7_chosen_37 : decode cX7_chosen 37 = .ok (.iload_n 1, 1) := by decide +kernel
theorem dX7_chosen_38 : decode cX7_chosen 38 = .ok (.imul, 1) := by decide +kernel
theorem dX7_chosen_39 : decode cX7_chosen 39 = .ok (.iadd, 1) := by decide +kernel
theorem dX7_chosen_40 : decode cX7_chosen 40 = .ok (.iload_n 2, 1) := by decide +kernel
theorem dX7_chosen_41 : decode cX7_chosen 41 = .ok (.iadd, 1) := by decide +kernel
theorem dX7_chosen_42 : decode cX7_chosen 42 = .ok (.iconst 1, 1) := by decide +kernel
theorem dX7_chosen_43 : decode cX7_chosen 43 = .ok (.isub, 1) := by decide +kernel
theorem dX7_chosen_44 : decode cX7_chosen 44 = .ok (.iaload, 1) := by decide +kernel
theorem dX7_chosen_45 : decode cX7_chosen 45 = .ok (.istore_n 3, 1) := by decide +kernel
theorem dX7_chosen_46 : decode cX7_chosen 46 = .ok (.iload_n 3, 1) := by decide +kernel
theorem dX7_chosen_47 : decode cX7_chosen 47 = .ok (.ifCond .ne 13, 3) := by decide +kernel
theorem dX7_chosen_50 : decode cX7_chosen 50 = .ok (.aload_n 0, 1) := by decide +kernel
theorem dX7_chosen_51 : decode cX7_chosen 51 = .ok (.getfield 7, 3) := by decide +kernel
theorem dX7_chosen_54 : decode cX7_chosen 54 = .ok (.bipush 104, 2) := by decide +kernel
theorem dX7_chosen_56 : decode cX7_chosen 56 = .ok (.iaload, 1) := by decide +kernel
theorem dX7_chosen_57 : decode cX7_chosen 57 = .ok (.goto 6, 3) := by decide +kernel
theorem dX7_chosen_60 : decode cX7_chosen 60 = .ok (.iload_n 3, 1) := by decide +kernel
theorem dX7_chosen_61 : decode cX7_chosen 61 = .ok (.iconst 1, 1) := by decide +kernel
theorem dX7_chosen_62 : decode cX7_chosen 62 = .ok (.isub, 1) := by decide +kernel
theorem dX7_chosen_63 : decode cX7_chosen 63 = .ok (.ireturn, 1) := by decide +kernel
theorem dX7_ahead_0 : decode cX7_ahead 0 = .ok (.aload_n 0, 1) := by decide +kernel
theorem dX7_ahead_1 : decode cX7_ahead 1 = .ok (.iload_n 1, 1) := by decide +kernel
theorem dX7_ahead_2 : decode cX7_ahead 2 = .ok (.iload_n 2, 1) := by decide +kernel
theorem dX7_ahead_3 : decode cX7_ahead 3 = .ok (.invokevirtual 73, 3) := by decide +kernel
theorem dX7_ahead_6 : decode cX7_ahead 6 = .ok (.istore_n 3, 1) := by decide +kernel
theorem dX7_ahead_7 : decode cX7_ahead 7 = .ok (.iload_n 3, 1) := by decide +kernel
theorem dX7_ahead_8 : decode cX7_ahead 8 = .ok (.ifCond .ne 7, 3) := by decide +kernel
theorem dX7_ahead_11 : decode cX7_ahead 11 = .ok (.iconst (-1), 1) := by decide +kernel
theorem dX7_ahead_12 : decode cX7_ahead 12 = .ok (.goto 11, 3) := by decide +kernel
theorem dX7_ahead_15 : decode cX7_ahead 15 = .ok (.aload_n 0, 1) := by decide +kernel
theorem dX7_ahead_16 : decode cX7_ahead 16 = .ok (.iload_n 1, 1) := by decide +kernel
theorem dX7_ahead_17 : decode cX7_ahead 17 = .ok (.iload_n 3, 1) := by decide +kernel
theorem dX7_ahead_18 : decode cX7_ahead 18 = .ok (.iconst 1, 1) := by decide +kernel
theorem dX7_ahead_19 : decode cX7_ahead 19 = .ok (.isub, 1) := by decide +kernel
theorem dX7_ahead_20 : decode cX7_ahead 20 = .ok (.invokevirtual 70, 3) := by decide +kernel
theorem dX7_ahead_23 : decode cX7_ahead 23 = .ok (.ireturn, 1) := by decide +kernel
theorem dX7_judges_0 : decode cX7_judges 0 = .ok (.aload_n 0, 1) := by decide +kernel
theorem dX7_judges_1 : decode cX7_judges 1 = .ok (.getfield 35, 3) := by decide +kernel
theorem dX7_judges_4 : decode cX7_judges 4 = .ok (.iload_n 1, 1) := by decide +kernel
theorem dX7_judges_5 : decode cX7_judges 5 = .ok (.iconst (-1), 1) := by decide +kernel
theorem dX7_judges_6 : decode cX7_judges 6 = .ok (.iastore, 1) := by decide +kernel
theorem dX7_judges_7 : decode cX7_judges 7 = .ok (.aload_n 0, 1) := by decide +kernel
theorem dX7_judges_8 : decode cX7_judges 8 = .ok (.getfield 38, 3) := by decide +kernel
theorem dX7_judges_11 : decode cX7_judges 11 = .ok (.iload_n 1, 1) := by decide +kernel
theorem dX7_judges_12 : decode cX7_judges 12 = .ok (.aload_n 0, 1) := by decide +kernel
theorem dX7_judges_13 : decode cX7_judges 13 = .ok (.getfield 7, 3) := by decide +kernel
theorem dX7_judges_16 : decode cX7_judges 16 = .ok (.iconst 2, 1) := by decide +kernel
theorem dX7_judges_17 : decode cX7_judges 17 = .ok (.iload_n 1, 1) := by decide +kernel
theorem dX7_judges_18 : decode cX7_judges 18 = .ok (.iadd, 1) := by decide +kernel
theorem dX7_judges_19 : decode cX7_judges 19 = .ok (.iaload, 1) := by decide +kernel
theorem dX7_judges_20 : decode cX7_judges 20 = .ok (.iastore, 1) := by decide +kernel
theorem dX7_judges_21 : decode cX7_judges 21 = .ok (.aload_n 0, 1) := by decide +kernel
theorem dX7_judges_22 : decode cX7_judges 22 = .ok (.iconst 0, 1) := by decide +kernel
theorem dX7_judges_23 : decode cX7_judges 23 = .ok (.iload_n 1, 1) := by decide +kernel
theorem dX7_judges_24 : decode cX7_judges 24 = .ok (.invokevirtual 79, 3) := by decide +kernel
theorem dX7_judges_27 : decode cX7_judges 27 = .ok (.istore_n 2, 1) := by decide +kernel
theorem dX7_judges_28 : decode cX7_judges 28 = .ok (.aload_n 0, 1) := by decide +kernel
theorem dX7_judges_29 : decode cX7_judges 29 = .ok (.iconst 1, 1) := by decide +kernel
theorem dX7_judges_30 : decode cX7_judges 30 = .ok (.iload_n 1, 1) := by decide +kernel
theorem dX7_judges_31 : decode cX7_judges 31 = .ok (.invokevirtual 79, 3) := by decide +kernel
theorem dX7_judges_34 : decode cX7_judges 34 = .ok (.istore_n 3, 1) := by decide +kernel
theorem dX7_judges_35 : decode cX7_judges 35 = .ok (.iload_n 2, 1) := by decide +kernel
theorem dX7_judges_36 : decode cX7_judges 36 = .ok (.iload_n 3, 1) := by decide +kernel
theorem dX7_judges_37 : decode cX7_judges 37 = .ok (.if_icmp .eq 72, 3) := by decide +kernel
theorem dX7_judges_40 : decode cX7_judges 40 = .ok (.iload_n 2, 1) := by decide +kernel
theorem dX7_judges_41 : decode cX7_judges 41 = .ok (.ifCond .eq 7, 3) := by decide +kernel
theorem dX7_judges_44 : decode cX7_judges 44 = .ok (.iconst 0, 1) := by decide +kernel
theorem dX7_judges_45 : decode cX7_judges 45 = .ok (.goto 4, 3) := by decide +kernel
theorem dX7_judges_48 : decode cX7_judges 48 = .ok (.iconst 1, 1) := by decide +kernel
theorem dX7_judges_49 : decode cX7_judges 49 = .ok (.istore 4, 2) := by decide +kernel
theorem dX7_judges_51 : decode cX7_judges 51 = .ok (.aload_n 0, 1) := by decide +kernel
theorem dX7_judges_52 : decode cX7_judges 52 = .ok (.iload 4, 2) := by decide +kernel
theorem dX7_judges_54 : decode cX7_judges 54 = .ok (.iload_n 1, 1) := by decide +kernel
theorem dX7_judges_55 : decode cX7_judges 55 = .ok (.invokevirtual 131, 3) := by decide +kernel
theorem dX7_judges_58 : decode cX7_judges 58 = .ok (.ifCond .eq 14, 3) := by decide +kernel
theorem dX7_judges_61 : decode cX7_judges 61 = .ok (.aload_n 0, 1) := by decide +kernel
theorem dX7_judges_62 : decode cX7_judges 62 = .ok (.iload_n 1, 1) := by decide +kernel
theorem dX7_judges_63 : decode cX7_judges 63 = .ok (.iconst 2, 1) := by decide +kernel
theorem dX7_judges_64 : decode cX7_judges 64 = .ok (.invokevirtual 147, 3) := by decide +kernel
theorem dX7_judges_67 : decode cX7_judges 67 = .ok (.iload 4, 2) := by decide +kernel
theorem dX7_judges_69 : decode cX7_judges 69 = .ok (.if_icmp .eq 4, 3) := by decide +kernel
theorem dX7_judges_72 : decode cX7_judges 72 = .ok (.return_, 1) := by decide +kernel
theorem dX7_judges_73 : decode cX7_judges 73 = .ok (.aload_n 0, 1) := by decide +kernel
theorem dX7_judges_74 : decode cX7_judges 74 = .ok (.getfield 38, 3) := by decide +kernel
theorem dX7_judges_77 : decode cX7_judges 77 = .ok (.iload_n 1, 1) := by decide +kernel
theorem dX7_judges_78 : decode cX7_judges 78 = .ok (.aload_n 0, 1) := by decide +kernel
theorem dX7_judges_79 : decode cX7_judges 79 = .ok (.iload 4, 2) := by decide +kernel
theorem dX7_judges_81 : decode cX7_judges 81 = .ok (.iload_n 1, 1) := by decide +kernel
theorem dX7_judges_82 : decode cX7_judges 82 = .ok (.invokevirtual 83, 3) := by decide +kernel
theorem dX7_judges_85 : decode cX7_judges 85 = .ok (.iastore, 1) := by decide +kernel
theorem dX7_judges_86 : decode cX7_judges 86 = .ok (.aload_n 0, 1) := by decide +kernel
theorem dX7_judges_87 : decode cX7_judges 87 = .ok (.getfield 35, 3) := by decide +kernel
theorem dX7_judges_90 : decode cX7_judges 90 = .ok (.iload_n 1, 1) := by decide +kernel
theorem dX7_judges_91 : decode cX7_judges 91 = .ok (.aload_n 0, 1) := by decide +kernel
theorem dX7_judges_92 : decode cX7_judges 92 = .ok (.iload 4, 2) := by decide +kernel
theorem dX7_judges_94 : decode cX7_judges 94 = .ok (.iload_n 1, 1) := by decide +kernel
theorem dX7_judges_95 : decode cX7_judges 95 = .ok (.invokevirtual 134, 3) := by decide +kernel
theorem dX7_judges_98 : decode cX7_judges 98 = .ok (.ifCond .eq 8, 3) := by decide +kernel
theorem dX7_judges_101 : decode cX7_judges 101 = .ok (.iload 4, 2) := by decide +kernel
theorem dX7_judges_103 : decode cX7_judges 103 = .ok (.goto 4, 3) := by decide +kernel
theorem dX7_judges_106 : decode cX7_judges 106 = .ok (.iconst 2, 1) := by decide +kernel
theorem dX7_judges_107 : decode cX7_judges 107 = .ok (.iastore, 1) := by decide +kernel
theorem dX7_judges_108 : decode cX7_judges 108 = .ok (.return_, 1) := by decide +kernel
theorem dX7_judges_109 : decode cX7_judges 109 = .ok (.iload_n 2, 1) := by decide +kernel
theorem dX7_judges_110 : decode cX7_judges 110 = .ok (.ifCond .ne 4, 3) := by decide +kernel
theorem dX7_judges_113 : decode cX7_judges 113 = .ok (.return_, 1) := by decide +kernel
theorem dX7_judges_114 : decode cX7_judges 114 = .ok (.aload_n 0, 1) := by decide +kernel
theorem dX7_judges_115 : decode cX7_judges 115 = .ok (.iconst 0, 1) := by decide +kernel
theorem dX7_judges_116 : decode cX7_judges 116 = .ok (.iload_n 1, 1) := by decide +kernel
theorem dX7_judges_117 : decode cX7_judges 117 = .ok (.invokevirtual 131, 3) := by decide +kernel
theorem dX7_judges_120 : decode cX7_judges 120 = .ok (.ifCond .eq 47, 3) := by decide +kernel
theorem dX7_judges_123 : decode cX7_judges 123 = .ok (.aload_n 0, 1) := by decide +kernel
theorem dX7_judges_124 : decode cX7_judges 124 = .ok (.iconst 1, 1) := by decide +kernel
theorem dX7_judges_125 : decode cX7_judges 125 = .ok (.iload_n 1, 1) := by decide +kernel
theorem dX7_judges_126 : decode cX7_judges 126 = .ok (.invokevirtual 131, 3) := by decide +kernel
theorem dX7_judges_129 : decode cX7_judges 129 = .ok (.ifCond .eq 38, 3) := by decide +kernel
theorem dX7_judges_132 : decode cX7_judges 132 = .ok (.aload_n 0, 1) := by decide +kernel
theorem dX7_judges_133 : decode cX7_judges 133 = .ok (.iconst 0, 1) := by decide +kernel
theorem dX7_judges_134 : decode cX7_judges 134 = .ok (.iload_n 1, 1) := by decide +kernel
theorem dX7_judges_135 : decode cX7_judges 135 = .ok (.invokevirtual 83, 3) := by decide +kernel
theorem dX7_judges_138 : decode cX7_judges 138 = .ok (.aload_n 0, 1) := by decide +kernel
theorem dX7_judges_139 : decode cX7_judges 139 = .ok (.iconst 1, 1) := by decide +kernel
theorem dX7_judges_140 : decode cX7_judges 140 = .ok (.iload_n 1, 1) := by decide +kernel
theorem dX7_judges_141 : decode cX7_judges 141 = .ok (.invokevirtual 83, 3) := by decide +kernel
theorem dX7_judges_144 : decode cX7_judges 144 = .ok (.if_icmp .eq 23, 3) := by decide +kernel
theorem dX7_judges_147 : decode cX7_judges 147 = .ok (.aload_n 0, 1) := by decide +kernel
theorem dX7_judges_148 : decode cX7_judges 148 = .ok (.getfield 38, 3) := by decide +kernel
theorem dX7_judges_151 : decode cX7_judges 151 = .ok (.iload_n 1, 1) := by decide +kernel
theorem dX7_judges_152 : decode cX7_judges 152 = .ok (.aload_n 0, 1) := by decide +kernel
theorem dX7_judges_153 : decode cX7_judges 153 = .ok (.aload_n 0, 1) := by decide +kernel
theorem dX7_judges_154 : decode cX7_judges 154 = .ok (.iload_n 1, 1) := by decide +kernel
theorem dX7_judges_155 : decode cX7_judges 155 = .ok (.iconst 1, 1) := by decide +kernel
theorem dX7_judges_156 : decode cX7_judges 156 = .ok (.invokevirtual 147, 3) := by decide +kernel
theorem dX7_judges_159 : decode cX7_judges 159 = .ok (.iload_n 1, 1) := by decide +kernel
theorem dX7_judges_160 : decode cX7_judges 160 = .ok (.invokevirtual 83, 3) := by decide +kernel
theorem dX7_judges_163 : decode cX7_judges 163 = .ok (.iastore, 1) := by decide +kernel
theorem dX7_judges_164 : decode cX7_judges 164 = .ok (.goto 46, 3) := by decide +kernel
theorem dX7_judges_167 : decode cX7_judges 167 = .ok (.aload_n 0, 1) := by decide +kernel
theorem dX7_judges_168 : decode cX7_judges 168 = .ok (.iconst 0, 1) := by decide +kernel
theorem dX7_judges_169 : decode cX7_judges 169 = .ok (.iload_n 1, 1) := by decide +kernel
theorem dX7_judges_170 : decode cX7_judges 170 = .ok (.invokevirtual 131, 3) := by decide +kernel
theorem dX7_judges_173 : decode cX7_judges 173 = .ok (.ifCond .ne 12, 3) := by decide +kernel
theorem dX7_judges_176 : decode cX7_judges 176 = .ok (.aload_n 0, 1) := by decide +kernel
theorem dX7_judges_177 : decode cX7_judges 177 = .ok (.iconst 1, 1) := by decide +kernel
theorem dX7_judges_178 : decode cX7_judges 178 = .ok (.iload_n 1, 1) := by decide +kernel
theorem dX7_judges_179 : decode cX7_judges 179 = .ok (.invokevirtual 131, 3) := by decide +kernel
theorem dX7_judges_182 : decode cX7_judges 182 = .ok (.ifCond .eq 28, 3) := by decide +kernel
theorem dX7_judges_185 : decode cX7_judges 185 = .ok (.aload_n 0, 1) := by decide +kernel
theorem dX7_judges_186 : decode cX7_judges 186 = .ok (.getfield 38, 3) := by decide +kernel
theorem dX7_judges_189 : decode cX7_judges 189 = .ok (.iload_n 1, 1) := by decide +kernel
theorem dX7_judges_190 : decode cX7_judges 190 = .ok (.aload_n 0, 1) := by decide +kernel
theorem dX7_judges_191 : decode cX7_judges 191 = .ok (.aload_n 0, 1) := by decide +kernel
theorem dX7_judges_192 : decode cX7_judges 192 = .ok (.iconst 0, 1) := by decide +kernel
theorem dX7_judges_193 : decode cX7_judges 193 = .ok (.iload_n 1, 1) := by decide +kernel
theorem dX7_judges_194 : decode cX7_judges 194 = .ok (.invokevirtual 131, 3) := by decide +kernel
theorem dX7_judges_197 : decode cX7_judges 197 = .ok (.ifCond .eq 7, 3) := by decide +kernel
theorem dX7_judges_200 : decode cX7_judges 200 = .ok (.iconst 0, 1) := by decide +kernel
theorem dX7_judges_201 : decode cX7_judges 201 = .ok (.goto 4, 3) := by decide +kernel
theorem dX7_judges_204 : decode cX7_judges 204 = .ok (.iconst 1, 1) := by decide +kernel
theorem dX7_judges_205 : decode cX7_judges 205 = .ok (.iload_n 1, 1) := by decide +kernel
theorem dX7_judges_206 : decode cX7_judges 206 = .ok (.invokevirtual 83, 3) := by decide +kernel
theorem dX7_judges_209 : decode cX7_judges 209 = .ok (.iastore, 1) := by decide +kernel
theorem dX7_judges_210 : decode cX7_judges 210 = .ok (.aload_n 0, 1) := by decide +kernel
theorem dX7_judges_211 : decode cX7_judges 211 = .ok (.iconst 0, 1) := by decide +kernel
theorem dX7_judges_212 : decode cX7_judges 212 = .ok (.iload_n 1, 1) := by decide +kernel
theorem dX7_judges_213 : decode cX7_judges 213 = .ok (.invokevirtual 134, 3) := by decide +kernel
theorem dX7_judges_216 : decode cX7_judges 216 = .ok (.ifCond .eq 16, 3) := by decide +kernel
theorem dX7_judges_219 : decode cX7_judges 219 = .ok (.aload_n 0, 1) := by decide +kernel
theorem dX7_judges_220 : decode cX7_judges 220 = .ok (.iconst 1, 1) := by decide +kernel
theorem dX7_judges_221 : decode cX7_judges 221 = .ok (.iload_n 1, 1) := by decide +kernel
theorem dX7_judges_222 : decode cX7_judges 222 = .ok (.invokevirtual 134, 3) := by decide +kernel
theorem dX7_judges_225 : decode cX7_judges 225 = .ok (.ifCond .eq 7, 3) := by decide +kernel
theorem dX7_judges_228 : decode cX7_judges 228 = .ok (.iconst 1, 1) := by decide +kernel
theorem dX7_judges_229 : decode cX7_judges 229 = .ok (.goto 4, 3) := by decide +kernel
theorem dX7_judges_232 : decode cX7_judges 232 = .ok (.iconst 0, 1) := by decide +kernel
theorem dX7_judges_233 : decode cX7_judges 233 = .ok (.istore 4, 2) := by decide +kernel
theorem dX7_judges_235 : decode cX7_judges 235 = .ok (.iload 4, 2) := by decide +kernel
theorem dX7_judges_237 : decode cX7_judges 237 = .ok (.ifCond .eq 37, 3) := by decide +kernel
theorem dX7_judges_240 : decode cX7_judges 240 = .ok (.aload_n 0, 1) := by decide +kernel
theorem dX7_judges_241 : decode cX7_judges 241 = .ok (.getfield 35, 3) := by decide +kernel
theorem dX7_judges_244 : decode cX7_judges 244 = .ok (.iload_n 1, 1) := by decide +kernel
theorem dX7_judges_245 : decode cX7_judges 245 = .ok (.aload_n 0, 1) := by decide +kernel
theorem dX7_judges_246 : decode cX7_judges 246 = .ok (.iconst 0, 1) := by decide +kernel
theorem dX7_judges_247 : decode cX7_judges 247 = .ok (.iload_n 1, 1) := by decide +kernel
theorem dX7_judges_248 : decode cX7_judges 248 = .ok (.invokevirtual 150, 3) := by decide +kernel
theorem dX7_judges_251 : decode cX7_judges 251 = .ok (.aload_n 0, 1) := by decide +kernel
theorem dX7_judges_252 : decode cX7_judges 252 = .ok (.iconst 1, 1) := by decide +kernel
theorem dX7_judges_253 : decode cX7_judges 253 = .ok (.iload_n 1, 1) := by decide +kernel
theorem dX7_judges_254 : decode cX7_judges 254 = .ok (.invokevirtual 150, 3) := by decide +kernel
theorem dX7_judges_257 : decode cX7_judges 257 = .ok (.if_icmp .ne 7, 3) := by decide +kernel
theorem dX7_judges_260 : decode cX7_judges 260 = .ok (.iconst 0, 1) := by decide +kernel
theorem dX7_judges_261 : decode cX7_judges 261 = .ok (.goto 9, 3) := by decide +kernel
theorem dX7_judges_264 : decode cX7_judges 264 = .ok (.aload_n 0, 1) := by decide +kernel
theorem dX7_judges_265 : decode cX7_judges 265 = .ok (.iload_n 1, 1) := by decide +kernel
theorem dX7_judges_266 : decode cX7_judges 266 = .ok (.iconst 3, 1) := by decide +kernel
theorem dX7_judges_267 : decode cX7_judges 267 = .ok (.invokevirtual 147, 3) := by decide +kernel
theorem dX7_judges_270 : decode cX7_judges 270 = .ok (.iastore, 1) := by decide +kernel
theorem dX7_judges_271 : decode cX7_judges 271 = .ok (.goto 36, 3) := by decide +kernel
theorem dX7_judges_274 : decode cX7_judges 274 = .ok (.aload_n 0, 1) := by decide +kernel
theorem dX7_judges_275 : decode cX7_judges 275 = .ok (.getfield 35, 3) := by decide +kernel
theorem dX7_judges_278 : decode cX7_judges 278 = .ok (.iload_n 1, 1) := by decide +kernel
theorem dX7_judges_279 : decode cX7_judges 279 = .ok (.aload_n 0, 1) := by decide +kernel
theorem dX7_judges_280 : decode cX7_judges 280 = .ok (.iconst 0, 1) := by decide +kernel
theorem dX7_judges_281 : decode cX7_judges 281 = .ok (.iload_n 1, 1) := by decide +kernel
theorem dX7_judges_282 : decode cX7_judges 282 = .ok (.invokevirtual 134, 3) := by decide +kernel
theorem dX7_judges_285 : decode cX7_judges 285 = .ok (.ifCond .eq 7, 3) := by decide +kernel
theorem dX7_judges_288 : decode cX7_judges 288 = .ok (.iconst 0, 1) := by decide +kernel
theorem dX7_judges_289 : decode cX7_judges 289 = .ok (.goto 17, 3) := by decide +kernel
theorem dX7_judges_292 : decode cX7_judges 292 = .ok (.aload_n 0, 1) := by decide +kernel
theorem dX7_judges_293 : decode cX7_judges 293 = .ok (.iconst 1, 1) := by decide +kernel
theorem dX7_judges_294 : decode cX7_judges 294 = .ok (.iload_n 1, 1) := by decide +kernel
theorem dX7_judges_295 : decode cX7_judges 295 = .ok (.invokevirtual 134, 3) := by decide +kernel
theorem dX7_judges_298 : decode cX7_judges 298 = .ok (.ifCond .eq 7, 3) := by decide +kernel
theorem dX7_judges_301 : decode cX7_judges 301 = .ok (.iconst 1, 1) := by decide +kernel
theorem dX7_judges_302 : decode cX7_judges 302 = .ok (.goto 4, 3) := by decide +kernel
theorem dX7_judges_305 : decode cX7_judges 305 = .ok (.iconst 2, 1) := by decide +kernel
theorem dX7_judges_306 : decode cX7_judges 306 = .ok (.iastore, 1) := by decide +kernel
theorem dX7_judges_307 : decode cX7_judges 307 = .ok (.return_, 1) := by decide +kernel
theorem dX7_mergedAt_0 : decode cX7_mergedAt 0 = .ok (.iconst (-1), 1) := by decide +kernel
theorem dX7_mergedAt_1 : decode cX7_mergedAt 1 = .ok (.istore_n 2, 1) := by decide +kernel
theorem dX7_mergedAt_2 : decode cX7_mergedAt 2 = .ok (.iconst 0, 1) := by decide +kernel
theorem dX7_mergedAt_3 : decode cX7_mergedAt 3 = .ok (.istore_n 3, 1) := by decide +kernel
theorem dX7_mergedAt_4 : decode cX7_mergedAt 4 = .ok (.iload_n 3, 1) := by decide +kernel
theorem dX7_mergedAt_5 : decode cX7_mergedAt 5 = .ok (.aload_n 0, 1) := by decide +kernel
theorem dX7_mergedAt_6 : decode cX7_mergedAt 6 = .ok (.getfield 44, 3) := by decide +kernel
theorem dX7_mergedAt_9 : decode cX7_mergedAt 9 = .ok (.if_icmp .ge 25, 3) := by decide +kernel
theorem dX7_mergedAt_12 : decode cX7_mergedAt 12 = .ok (.aload_n 0, 1) := by decide +kernel
theorem dX7_mergedAt_13 : decode cX7_mergedAt 13 = .ok (.getfield 23, 3) := by decide +kernel
theorem dX7_mergedAt_16 : decode cX7_mergedAt 16 = .ok (.iload_n 3, 1) := by decide +kernel
theorem dX7_mergedAt_17 : decode cX7_mergedAt 17 = .ok (.iaload, 1) := by decide +kernel
theorem dX7_mergedAt_18 : decode cX7_mergedAt 18 = .ok (.iload_n 1, 1) := by decide +kernel
theorem dX7_mergedAt_19 : decode cX7_mergedAt 19 = .ok (.if_icmp .ne 7, 3) := by decide +kernel
theorem dX7_mergedAt_22 : decode cX7_mergedAt 22 = .ok (.iload_n 3, 1) := by decide +kernel
theorem dX7_mergedAt_23 : decode cX7_mergedAt 23 = .ok (.goto 4, 3) := by decide +kernel
theorem dX7_mergedAt_26 : decode cX7_mergedAt 26 = .ok (.iload_n 2, 1) := by decide +kernel
theorem dX7_mergedAt_27 : decode cX7_mergedAt 27 = .ok (.istore_n 2, 1) := by decide +kernel
theorem dX7_mergedAt_28 : decode cX7_mergedAt 28 = .ok (.iinc 3 1, 3) := by decide +kernel
theorem dX7_mergedAt_31 : decode cX7_mergedAt 31 = .ok (.goto (-27), 3) := by decide +kernel
theorem dX7_mergedAt_34 : decode cX7_mergedAt 34 = .ok (.iload_n 2, 1) := by decide +kernel
theorem dX7_mergedAt_35 : decode cX7_mergedAt 35 = .ok (.ireturn, 1) := by decide +kernel
theorem dX7_lays_0 : decode cX7_lays 0 = .ok (.aload_n 0, 1) := by decide +kernel
theorem dX7_lays_1 : decode cX7_lays 1 = .ok (.getfield 44, 3) := by decide +kernel
theorem dX7_lays_4 : decode cX7_lays 4 = .ok (.istore 4, 2) := by decide +kernel
theorem dX7_lays_6 : decode cX7_lays 6 = .ok (.iload 4, 2) := by decide +kernel
theorem dX7_lays_8 : decode cX7_lays 8 = .ok (.iload_n 1, 1) := by decide +kernel
theorem dX7_lays_9 : decode cX7_lays 9 = .ok (.if_icmp .le 41, 3) := by decide +kernel
theorem dX7_lays_12 : decode cX7_lays 12 = .ok (.aload_n 0, 1) := by decide +kernel
theorem dX7_lays_13 : decode cX7_lays 13 = .ok (.getfield 23, 3) := by decide +kernel
theorem dX7_lays_16 : decode cX7_lays 16 = .ok (.iload 4, 2) := by decide +kernel
theorem dX7_lays_18 : decode cX7_lays 18 = .ok (.aload_n 0, 1) := by decide +kernel
theorem dX7_lays_19 : decode cX7_lays 19 = .ok (.getfield 23, 3) := by decide +kernel
theorem dX7_lays_22 : decode cX7_lays 22 = .ok (.iload 4, 2) := by decide +kernel
theorem dX7_lays_24 : decode cX7_lays 24 = .ok (.iconst 1, 1) := by decide +kernel
theorem dX7_lays_25 : decode cX7_lays 25 = .ok (.isub, 1) := by decide +kernel
theorem dX7_lays_26 : decode cX7_lays 26 = .ok (.iaload, 1) := by decide +kernel
theorem dX7_lays_27 : decode cX7_lays 27 = .ok (.iastore, 1) := by decide +kernel
theorem dX7_lays_28 : decode cX7_lays 28 = .ok (.aload_n 0, 1) := by decide +kernel
theorem dX7_lays_29 : decode cX7_lays 29 = .ok (.getfield 26, 3) := by decide +kernel
theorem dX7_lays_32 : decode cX7_lays 32 = .ok (.iload 4, 2) := by decide +kernel
theorem dX7_lays_34 : decode cX7_lays 34 = .ok (.aload_n 0, 1) := by decide +kernel
theorem dX7_lays_35 : decode cX7_lays 35 = .ok (.getfield 26, 3) := by decide +kernel
theorem dX7_lays_38 : decode cX7_lays 38 = .ok (.iload 4, 2) := by decide +kernel
theorem dX7_lays_40 : decode cX7_lays 40 = .ok (.iconst 1, 1) := by decide +kernel
theorem dX7_lays_41 : decode cX7_lays 41 = .ok (.isub, 1) := by decide +kernel
theorem dX7_lays_42 : decode cX7_lays 42 = .ok (.iaload, 1) := by decide +kernel
theorem dX7_lays_43 : decode cX7_lays 43 = .ok (.iastore, 1) := by decide +kernel
theorem dX7_lays_44 : decode cX7_lays 44 = .ok (.iinc 4 (-1), 3) := by decide +kernel
theorem dX7_lays_47 : decode cX7_lays 47 = .ok (.goto (-41), 3) := by decide +kernel
theorem dX7_lays_50 : decode cX7_lays 50 = .ok (.aload_n 0, 1) := by decide +kernel
theorem dX7_lays_51 : decode cX7_lays 51 = .ok (.getfield 23, 3) := by decide +kernel
theorem dX7_lays_54 : decode cX7_lays 54 = .ok (.iload_n 1, 1) := by decide +kernel
theorem dX7_lays_55 : decode cX7_lays 55 = .ok (.iload_n 2, 1) := by decide +kernel
theorem dX7_lays_56 : decode cX7_lays 56 = .ok (.iastore, 1) := by decide +kernel
theorem dX7_lays_57 : decode cX7_lays 57 = .ok (.aload_n 0, 1) := by decide +kernel
theorem dX7_lays_58 : decode cX7_lays 58 = .ok (.getfield 26, 3) := by decide +kernel
theorem dX7_lays_61 : decode cX7_lays 61 = .ok (.iload_n 1, 1) := by decide +kernel
theorem dX7_lays_62 : decode cX7_lays 62 = .ok (.iload_n 3, 1) := by decide +kernel
theorem dX7_lays_63 : decode cX7_lays 63 = .ok (.iastore, 1) := by decide +kernel
theorem dX7_lays_64 : decode cX7_lays 64 = .ok (.aload_n 0, 1) := by decide +kernel
theorem dX7_lays_65 : decode cX7_lays 65 = .ok (.dup, 1) := by decide +kernel
theorem dX7_lays_66 : decode cX7_lays 66 = .ok (.getfield 44, 3) := by decide +kernel
theorem dX7_lays_69 : decode cX7_lays 69 = .ok (.iconst 1, 1) := by decide +kernel
theorem dX7_lays_70 : decode cX7_lays 70 = .ok (.iadd, 1) := by decide +kernel
theorem dX7_lays_71 : decode cX7_lays 71 = .ok (.putfield 44, 3) := by decide +kernel
theorem dX7_lays_74 : decode cX7_lays 74 = .ok (.return_, 1) := by decide +kernel
theorem dX7_laysOf_0 : decode cX7_laysOf 0 = .ok (.iconst (-1), 1) := by decide +kernel
theorem dX7_laysOf_1 : decode cX7_laysOf 1 = .ok (.istore_n 2, 1) := by decide +kernel
theorem dX7_laysOf_2 : decode cX7_laysOf 2 = .ok (.iconst 0, 1) := by decide +kernel
theorem dX7_laysOf_3 : decode cX7_laysOf 3 = .ok (.istore_n 3, 1) := by decide +kernel
theorem dX7_laysOf_4 : decode cX7_laysOf 4 = .ok (.iload_n 3, 1) := by decide +kernel
theorem dX7_laysOf_5 : decode cX7_laysOf 5 = .ok (.aload_n 0, 1) := by decide +kernel
theorem dX7_laysOf_6 : decode cX7_laysOf 6 = .ok (.iload_n 1, 1) := by decide +kernel
theorem dX7_laysOf_7 : decode cX7_laysOf 7 = .ok (.invokevirtual 66, 3) := by decide +kernel
theorem dX7_laysOf_10 : decode cX7_laysOf 10 = .ok (.if_icmp .ge 123, 3) := by decide +kernel
theorem dX7_laysOf_13 : decode cX7_laysOf 13 = .ok (.aload_n 0, 1) := by decide +kernel
theorem dX7_laysOf_14 : decode cX7_laysOf 14 = .ok (.iload_n 1, 1) := by decide +kernel
theorem dX7_laysOf_15 : decode cX7_laysOf 15 = .ok (.iload_n 3, 1) := by decide +kernel
theorem dX7_laysOf_16 : decode cX7_laysOf 16 = .ok (.invokevirtual 70, 3) := by decide +kernel
theorem dX7_laysOf_19 : decode cX7_laysOf 19 = .ok (.istore 4, 2) := by decide +kernel
theorem dX7_laysOf_21 : decode cX7_laysOf 21 = .ok (.iload 4, 2) := by decide +kernel
theorem dX7_laysOf_23 : decode cX7_laysOf 23 = .ok (.aload_n 0, 1) := by decide +kernel
theorem dX7_laysOf_24 : decode cX7_laysOf 24 = .ok (.getfield 7, 3) := by decide +kernel
theorem dX7_laysOf_27 : decode cX7_laysOf 27 = .ok (.iconst 0, 1) := by decide +kernel
theorem dX7_laysOf_28 : decode cX7_laysOf 28 = .ok (.iaload, 1) := by decide +kernel
theorem dX7_laysOf_29 : decode cX7_laysOf 29 = .ok (.if_icmp .lt 7, 3) := by decide +kernel
theorem dX7_laysOf_32 : decode cX7_laysOf 32 = .ok (.iconst 1, 1) := by decide +kernel
theorem dX7_laysOf_33 : decode cX7_laysOf 33 = .ok (.goto 4, 3) := by decide +kernel
theorem dX7_laysOf_36 : decode cX7_laysOf 36 = .ok (.iconst 0, 1) := by decide +kernel
theorem dX7_laysOf_37 : decode cX7_laysOf 37 = .ok (.istore 5, 2) := by decide +kernel
theorem dX7_laysOf_39 : decode cX7_laysOf 39 = .ok (.iload 5, 2) := by decide +kernel
theorem dX7_laysOf_41 : decode cX7_laysOf 41 = .ok (.ifCond .ne 14, 3) := by decide +kernel
theorem dX7_laysOf_44 : decode cX7_laysOf 44 = .ok (.aload_n 0, 1) := by decide +kernel
theorem dX7_laysOf_45 : decode cX7_laysOf 45 = .ok (.getfield 35, 3) := by decide +kernel
theorem dX7_laysOf_48 : decode cX7_laysOf 48 = .ok (.iload 4, 2) := by decide +kernel
theorem dX7_laysOf_50 : decode cX7_laysOf 50 = .ok (.iaload, 1) := by decide +kernel
theorem dX7_laysOf_51 : decode cX7_laysOf 51 = .ok (.iload_n 1, 1) := by decide +kernel
theorem dX7_laysOf_52 : decode cX7_laysOf 52 = .ok (.if_icmp .ne 7, 3) := by decide +kernel
theorem dX7_laysOf_55 : decode cX7_laysOf 55 = .ok (.iconst 1, 1) := by decide +kernel
theorem dX7_laysOf_56 : decode cX7_laysOf 56 = .ok (.goto 4, 3) := by decide +kernel
theorem dX7_laysOf_59 : decode cX7_laysOf 59 = .ok (.iconst 0, 1) := by decide +kernel
theorem dX7_laysOf_60 : decode cX7_laysOf 60 = .ok (.istore 6, 2) := by decide +kernel
theorem dX7_laysOf_62 : decode cX7_laysOf 62 = .ok (.iload 6, 2) := by decide +kernel
theorem dX7_laysOf_64 : decode cX7_laysOf 64 = .ok (.ifCond .eq 46, 3) := by decide +kernel
theorem dX7_laysOf_67 : decode cX7_laysOf 67 = .ok (.aload_n 0, 1) := by decide +kernel
theorem dX7_laysOf_68 : decode cX7_laysOf 68 = .ok (.iload_n 2, 1) := by decide +kernel
theorem dX7_laysOf_69 : decode cX7_laysOf 69 = .ok (.iconst (-1), 1) := by decide +kernel
theorem dX7_laysOf_70 : decode cX7_laysOf 70 = .ok (.if_icmp .ne 7, 3) := by decide +kernel
theorem dX7_laysOf_73 : decode cX7_laysOf 73 = .ok (.iconst 0, 1) := by decide +kernel
theorem dX7_laysOf_74 : decode cX7_laysOf 74 = .ok (.goto 10, 3) := by decide +kernel
theorem dX7_laysOf_77 : decode cX7_laysOf 77 = .ok (.aload_n 0, 1) := by decide +kernel
theorem dX7_laysOf_78 : decode cX7_laysOf 78 = .ok (.iload_n 2, 1) := by decide +kernel
theorem dX7_laysOf_79 : decode cX7_laysOf 79 = .ok (.invokevirtual 153, 3) := by decide +kernel
theorem dX7_laysOf_82 : decode cX7_laysOf 82 = .ok (.iconst 1, 1) := by decide +kernel
theorem dX7_laysOf_83 : decode cX7_laysOf 83 = .ok (.iadd, 1) := by decide +kernel
theorem dX7_laysOf_84 : decode cX7_laysOf 84 = .ok (.iload 4, 2) := by decide +kernel
theorem dX7_laysOf_86 : decode cX7_laysOf 86 = .ok (.iload 5, 2) := by decide +kernel
theorem dX7_laysOf_88 : decode cX7_laysOf 88 = .ok (.ifCond .eq 12, 3) := by decide +kernel
theorem dX7_laysOf_91 : decode cX7_laysOf 91 = .ok (.aload_n 0, 1) := by decide +kernel
theorem dX7_laysOf_92 : decode cX7_laysOf 92 = .ok (.iload_n 1, 1) := by decide +kernel
theorem dX7_laysOf_93 : decode cX7_laysOf 93 = .ok (.iload_n 3, 1) := by decide +kernel
theorem dX7_laysOf_94 : decode cX7_laysOf 94 = .ok (.invokevirtual 76, 3) := by decide +kernel
theorem dX7_laysOf_97 : decode cX7_laysOf 97 = .ok (.goto 10, 3) := by decide +kernel
theorem dX7_laysOf_100 : decode cX7_laysOf 100 = .ok (.aload_n 0, 1) := by decide +kernel
theorem dX7_laysOf_101 : decode cX7_laysOf 101 = .ok (.getfield 38, 3) := by decide +kernel
theorem dX7_laysOf_104 : decode cX7_laysOf 104 = .ok (.iload 4, 2) := by decide +kernel
theorem dX7_laysOf_106 : decode cX7_laysOf 106 = .ok (.iaload, 1) := by decide +kernel
theorem dX7_laysOf_107 : decode cX7_laysOf 107 = .ok (.invokevirtual 156, 3) := by decide +kernel
theorem dX7_laysOf_110 : decode cX7_laysOf 110 = .ok (.aload_n 0, 1) := by decide +kernel
theorem dX7_laysOf_111 : decode cX7_laysOf 111 = .ok (.iload 4, 2) := by decide +kernel
theorem dX7_laysOf_113 : decode cX7_laysOf 113 = .ok (.invokevirtual 153, 3) := by decide +kernel
theorem dX7_laysOf_116 : decode cX7_laysOf 116 = .ok (.iconst (-1), 1) := by decide +kernel
theorem dX7_laysOf_117 : decode cX7_laysOf 117 = .ok (.if_icmp .eq 8, 3) := by decide +kernel
theorem dX7_laysOf_120 : decode cX7_laysOf 120 = .ok (.iload 4, 2) := by decide +kernel
theorem dX7_laysOf_122 : decode cX7_laysOf 122 = .ok (.goto 4, 3) := by decide +kernel
theorem dX7_laysOf_125 : decode cX7_laysOf 125 = .ok (.iload_n 2, 1) := by decide +kernel
theorem dX7_laysOf_126 : decode cX7_laysOf 126 = .ok (.istore_n 2, 1) := by decide +kernel
theorem dX7_laysOf_127 : decode cX7_laysOf 127 = .ok (.iinc 3 1, 3) := by decide +kernel
theorem dX7_laysOf_130 : decode cX7_laysOf 130 = .ok (.goto (-126), 3) := by decide +kernel
theorem dX7_laysOf_133 : decode cX7_laysOf 133 = .ok (.return_, 1) := by decide +kernel
theorem dX7_merges_0 : decode cX7_merges 0 = .ok (.aload_n 0, 1) := by decide +kernel
theorem dX7_merges_1 : decode cX7_merges 1 = .ok (.iconst 0, 1) := by decide +kernel
theorem dX7_merges_2 : decode cX7_merges 2 = .ok (.invokevirtual 137, 3) := by decide +kernel
theorem dX7_merges_5 : decode cX7_merges 5 = .ok (.aload_n 0, 1) := by decide +kernel
theorem dX7_merges_6 : decode cX7_merges 6 = .ok (.iconst 1, 1) := by decide +kernel
theorem dX7_merges_7 : decode cX7_merges 7 = .ok (.invokevirtual 137, 3) := by decide +kernel
theorem dX7_merges_10 : decode cX7_merges 10 = .ok (.aload_n 0, 1) := by decide +kernel
theorem dX7_merges_11 : decode cX7_merges 11 = .ok (.iconst 0, 1) := by decide +kernel
theorem dX7_merges_12 : decode cX7_merges 12 = .ok (.putfield 44, 3) := by decide +kernel
theorem dX7_merges_15 : decode cX7_merges 15 = .ok (.aload_n 0, 1) := by decide +kernel
theorem dX7_merges_16 : decode cX7_merges 16 = .ok (.iconst 0, 1) := by decide +kernel
theorem dX7_merges_17 : decode cX7_merges 17 = .ok (.putfield 144, 3) := by decide +kernel
theorem dX7_merges_20 : decode cX7_merges 20 = .ok (.iconst 0, 1) := by decide +kernel
theorem dX7_merges_21 : decode cX7_merges 21 = .ok (.istore_n 1, 1) := by decide +kernel
theorem dX7_merges_22 : decode cX7_merges 22 = .ok (.iload_n 1, 1) := by decide +kernel
theorem dX7_merges_23 : decode cX7_merges 23 = .ok (.aload_n 0, 1) := by decide +kernel
theorem dX7_merges_24 : decode cX7_merges 24 = .ok (.getfield 7, 3) := by decide +kernel
theorem dX7_merges_27 : decode cX7_merges 27 = .ok (.iconst 0, 1) := by decide +kernel
theorem dX7_merges_28 : decode cX7_merges 28 = .ok (.iaload, 1) := by decide +kernel
theorem dX7_merges_29 : decode cX7_merges 29 = .ok (.if_icmp .ge 39, 3) := by decide +kernel
theorem dX7_merges_32 : decode cX7_merges 32 = .ok (.aload_n 0, 1) := by decide +kernel
theorem dX7_merges_33 : decode cX7_merges 33 = .ok (.iload_n 1, 1) := by decide +kernel
theorem dX7_merges_34 : decode cX7_merges 34 = .ok (.invokevirtual 160, 3) := by decide +kernel
theorem dX7_merges_37 : decode cX7_merges 37 = .ok (.aload_n 0, 1) := by decide +kernel
theorem dX7_merges_38 : decode cX7_merges 38 = .ok (.getfield 35, 3) := by decide +kernel
theorem dX7_merges_41 : decode cX7_merges 41 = .ok (.iload_n 1, 1) := by decide +kernel
theorem dX7_merges_42 : decode cX7_merges 42 = .ok (.iaload, 1) := by decide +kernel
theorem dX7_merges_43 : decode cX7_merges 43 = .ok (.iconst 2, 1) := by decide +kernel
theorem dX7_merges_44 : decode cX7_merges 44 = .ok (.if_icmp .ne 18, 3) := by decide +kernel
theorem dX7_merges_47 : decode cX7_merges 47 = .ok (.aload_n 0, 1) := by decide +kernel
theorem dX7_merges_48 : decode cX7_merges 48 = .ok (.aload_n 0, 1) := by decide +kernel
theorem dX7_merges_49 : decode cX7_merges 49 = .ok (.getfield 44, 3) := by decide +kernel
theorem dX7_merges_52 : decode cX7_merges 52 = .ok (.iload_n 1, 1) := by decide +kernel
theorem dX7_merges_53 : decode cX7_merges 53 = .ok (.aload_n 0, 1) := by decide +kernel
theorem dX7_merges_54 : decode cX7_merges 54 = .ok (.getfield 38, 3) := by decide +kernel
theorem dX7_merges_57 : decode cX7_merges 57 = .ok (.iload_n 1, 1) := by decide +kernel
theorem dX7_merges_58 : decode cX7_merges 58 = .ok (.iaload, 1) := by decide +kernel
theorem dX7_merges_59 : decode cX7_merges 59 = .ok (.invokevirtual 156, 3) := by decide +kernel
theorem dX7_merges_62 : decode cX7_merges 62 = .ok (.iinc 1 1, 3) := by decide +kernel
theorem dX7_merges_65 : decode cX7_merges 65 = .ok (.goto (-43), 3) := by decide +kernel
theorem dX7_merges_68 : decode cX7_merges 68 = .ok (.aload_n 0, 1) := by decide +kernel
theorem dX7_merges_69 : decode cX7_merges 69 = .ok (.iconst 0, 1) := by decide +kernel
theorem dX7_merges_70 : decode cX7_merges 70 = .ok (.invokevirtual 163, 3) := by decide +kernel
theorem dX7_merges_73 : decode cX7_merges 73 = .ok (.aload_n 0, 1) := by decide +kernel
theorem dX7_merges_74 : decode cX7_merges 74 = .ok (.iconst 1, 1) := by decide +kernel
theorem dX7_merges_75 : decode cX7_merges 75 = .ok (.invokevirtual 163, 3) := by decide +kernel
theorem dX7_merges_78 : decode cX7_merges 78 = .ok (.return_, 1) := by decide +kernel
theorem dX7_mergedSize_0 : decode cX7_mergedSize 0 = .ok (.aload_n 0, 1) := by decide +kernel
theorem dX7_mergedSize_1 : decode cX7_mergedSize 1 = .ok (.iconst 0, 1) := by decide +kernel
theorem dX7_mergedSize_2 : decode cX7_mergedSize 2 = .ok (.putfield 48, 3) := by decide +kernel
theorem dX7_mergedSize_5 : decode cX7_mergedSize 5 = .ok (.aload_n 0, 1) := by decide +kernel
theorem dX7_mergedSize_6 : decode cX7_mergedSize 6 = .ok (.invokevirtual 166, 3) := by decide +kernel
theorem dX7_mergedSize_9 : decode cX7_mergedSize 9 = .ok (.aload_n 0, 1) := by decide +kernel
theorem dX7_mergedSize_10 : decode cX7_mergedSize 10 = .ok (.getfield 44, 3) := by decide +kernel
theorem dX7_mergedSize_13 : decode cX7_mergedSize 13 = .ok (.ireturn, 1) := by decide +kernel
theorem dX7_mergedBlock_0 : decode cX7_mergedBlock 0 = .ok (.aload_n 0, 1) := by decide +kernel
theorem dX7_mergedBlock_1 : decode cX7_mergedBlock 1 = .ok (.invokevirtual 166, 3) := by decide +kernel
theorem dX7_mergedBlock_4 : decode cX7_mergedBlock 4 = .ok (.aload_n 0, 1) := by decide +kernel
theorem dX7_mergedBlock_5 : decode cX7_mergedBlock 5 = .ok (.iload_n 1, 1) := by decide +kernel
theorem dX7_mergedBlock_6 : decode cX7_mergedBlock 6 = .ok (.iconst 0, 1) := by decide +kernel
theorem dX7_mergedBlock_7 : decode cX7_mergedBlock 7 = .ok (.aload_n 0, 1) := by decide +kernel
theorem dX7_mergedBlock_8 : decode cX7_mergedBlock 8 = .ok (.getfield 44, 3) := by decide +kernel
theorem dX7_mergedBlock_11 : decode cX7_mergedBlock 11 = .ok (.iconst 1, 1) := by decide +kernel
theorem dX7_mergedBlock_12 : decode cX7_mergedBlock 12 = .ok (.isub, 1) := by decide +kernel
theorem dX7_mergedBlock_13 : decode cX7_mergedBlock 13 = .ok (.invokestatic 54, 3) := by decide +kernel
theorem dX7_mergedBlock_16 : decode cX7_mergedBlock 16 = .ok (.ifCond .eq 7, 3) := by decide +kernel
theorem dX7_mergedBlock_19 : decode cX7_mergedBlock 19 = .ok (.iconst 0, 1) := by decide +kernel
theorem dX7_mergedBlock_20 : decode cX7_mergedBlock 20 = .ok (.goto 4, 3) := by decide +kernel
theorem dX7_mergedBlock_23 : decode cX7_mergedBlock 23 = .ok (.iconst 1, 1) := by decide +kernel
theorem dX7_mergedBlock_24 : decode cX7_mergedBlock 24 = .ok (.invokevirtual 89, 3) := by decide +kernel
theorem dX7_mergedBlock_27 : decode cX7_mergedBlock 27 = .ok (.ifCond .eq 5, 3) := by decide +kernel
theorem dX7_mergedBlock_30 : decode cX7_mergedBlock 30 = .ok (.iconst 0, 1) := by decide +kernel
theorem dX7_mergedBlock_31 : decode cX7_mergedBlock 31 = .ok (.ireturn, 1) := by decide +kernel
theorem dX7_mergedBlock_32 : decode cX7_mergedBlock 32 = .ok (.aload_n 0, 1) := by decide +kernel
theorem dX7_mergedBlock_33 : decode cX7_mergedBlock 33 = .ok (.getfield 23, 3) := by decide +kernel
theorem dX7_mergedBlock_36 : decode cX7_mergedBlock 36 = .ok (.iload_n 1, 1) := by decide +kernel
theorem dX7_mergedBlock_37 : decode cX7_mergedBlock 37 = .ok (.iaload, 1) := by decide +kernel
theorem dX7_mergedBlock_38 : decode cX7_mergedBlock 38 = .ok (.ireturn, 1) := by decide +kernel
theorem dX7_mergedContent_0 : decode cX7_mergedContent 0 = .ok (.aload_n 0, 1) := by decide +kernel
theorem dX7_mergedContent_1 : decode cX7_mergedContent 1 = .ok (.invokevirtual 166, 3) := by decide +kernel
theorem dX7_mergedContent_4 : decode cX7_mergedContent 4 = .ok (.aload_n 0, 1) := by decide +kernel
theorem dX7_mergedContent_5 : decode cX7_mergedContent 5 = .ok (.iload_n 1, 1) := by decide +kernel
theorem dX7_mergedContent_6 : decode cX7_mergedContent 6 = .ok (.iconst 0, 1) := by decide +kernel
theorem dX7_mergedContent_7 : decode cX7_mergedContent 7 = .ok (.aload_n 0, 1) := by decide +kernel
theorem dX7_mergedContent_8 : decode cX7_mergedContent 8 = .ok (.getfield 44, 3) := by decide +kernel
theorem dX7_mergedContent_11 : decode cX7_mergedContent 11 = .ok (.iconst 1, 1) := by decide +kernel
theorem dX7_mergedContent_12 : decode cX7_mergedContent 12 = .ok (.isub, 1) := by decide +kernel
theorem dX7_mergedContent_13 : decode cX7_mergedContent 13 = .ok (.invokestatic 54, 3) := by decide +kernel
theorem dX7_mergedContent_16 : decode cX7_mergedContent 16 = .ok (.ifCond .eq 7, 3) := by decide +kernel
theorem dX7_mergedContent_19 : decode cX7_mergedContent 19 = .ok (.iconst 0, 1) := by decide +kernel
theorem dX7_mergedContent_20 : decode cX7_mergedContent 20 = .ok (.goto 4, 3) := by decide +kernel
theorem dX7_mergedContent_23 : decode cX7_mergedContent 23 = .ok (.iconst 1, 1) := by decide +kernel
theorem dX7_mergedContent_24 : decode cX7_mergedContent 24 = .ok (.invokevirtual 89, 3) := by decide +kernel
theorem dX7_mergedContent_27 : decode cX7_mergedContent 27 = .ok (.ifCond .eq 5, 3) := by decide +kernel
theorem dX7_mergedContent_30 : decode cX7_mergedContent 30 = .ok (.iconst 0, 1) := by decide +kernel
theorem dX7_mergedContent_31 : decode cX7_mergedContent 31 = .ok (.ireturn, 1) := by decide +kernel
theorem dX7_mergedContent_32 : decode cX7_mergedContent 32 = .ok (.aload_n 0, 1) := by decide +kernel
theorem dX7_mergedContent_33 : decode cX7_mergedContent 33 = .ok (.getfield 26, 3) := by decide +kernel
theorem dX7_mergedContent_36 : decode cX7_mergedContent 36 = .ok (.iload_n 1, 1) := by decide +kernel
theorem dX7_mergedContent_37 : decode cX7_mergedContent 37 = .ok (.iaload, 1) := by decide +kernel
theorem dX7_mergedContent_38 : decode cX7_mergedContent 38 = .ok (.ireturn, 1) := by decide +kernel
theorem dX7_conflicts_0 : decode cX7_conflicts 0 = .ok (.aload_n 0, 1) := by decide +kernel
theorem dX7_conflicts_1 : decode cX7_conflicts 1 = .ok (.iconst 0, 1) := by decide +kernel
theorem dX7_conflicts_2 : decode cX7_conflicts 2 = .ok (.putfield 48, 3) := by decide +kernel
theorem dX7_conflicts_5 : decode cX7_conflicts 5 = .ok (.aload_n 0, 1) := by decide +kernel
theorem dX7_conflicts_6 : decode cX7_conflicts 6 = .ok (.invokevirtual 166, 3) := by decide +kernel
theorem dX7_conflicts_9 : decode cX7_conflicts 9 = .ok (.aload_n 0, 1) := by decide +kernel
theorem dX7_conflicts_10 : decode cX7_conflicts 10 = .ok (.getfield 144, 3) := by decide +kernel
theorem dX7_conflicts_13 : decode cX7_conflicts 13 = .ok (.ireturn, 1) := by decide +kernel
theorem dX7_conflictBlock_0 : decode cX7_conflictBlock 0 = .ok (.aload_n 0, 1) := by decide +kernel
theorem dX7_conflictBlock_1 : decode cX7_conflictBlock 1 = .ok (.invokevirtual 166, 3) := by decide +kernel
theorem dX7_conflictBlock_4 : decode cX7_conflictBlock 4 = .ok (.aload_n 0, 1) := by decide +kernel
theorem dX7_conflictBlock_5 : decode cX7_conflictBlock 5 = .ok (.iload_n 1, 1) := by decide +kernel
theorem dX7_conflictBlock_6 : decode cX7_conflictBlock 6 = .ok (.iconst 0, 1) := by decide +kernel
theorem dX7_conflictBlock_7 : decode cX7_conflictBlock 7 = .ok (.aload_n 0, 1) := by decide +kernel
theorem dX7_conflictBlock_8 : decode cX7_conflictBlock 8 = .ok (.getfield 144, 3) := by decide +kernel
theorem dX7_conflictBlock_11 : decode cX7_conflictBlock 11 = .ok (.iconst 1, 1) := by decide +kernel
theorem dX7_conflictBlock_12 : decode cX7_conflictBlock 12 = .ok (.isub, 1) := by decide +kernel
theorem dX7_conflictBlock_13 : decode cX7_conflictBlock 13 = .ok (.invokestatic 54, 3) := by decide +kernel
theorem dX7_conflictBlock_16 : decode cX7_conflictBlock 16 = .ok (.ifCond .eq 7, 3) := by decide +kernel
theorem dX7_conflictBlock_19 : decode cX7_conflictBlock 19 = .ok (.iconst 0, 1) := by decide +kernel
theorem dX7_conflictBlock_20 : decode cX7_conflictBlock 20 = .ok (.goto 4, 3) := by decide +kernel
theorem dX7_conflictBlock_23 : decode cX7_conflictBlock 23 = .ok (.iconst 1, 1) := by decide +kernel
theorem dX7_conflictBlock_24 : decode cX7_conflictBlock 24 = .ok (.invokevirtual 89, 3) := by decide +kernel
theorem dX7_conflictBlock_27 : decode cX7_conflictBlock 27 = .ok (.ifCond .eq 5, 3) := by decide +kernel
theorem dX7_conflictBlock_30 : decode cX7_conflictBlock 30 = .ok (.iconst 0, 1) := by decide +kernel
theorem dX7_conflictBlock_31 : decode cX7_conflictBlock 31 = .ok (.ireturn, 1) := by decide +kernel
theorem dX7_conflictBlock_32 : decode cX7_conflictBlock 32 = .ok (.aload_n 0, 1) := by decide +kernel
theorem dX7_conflictBlock_33 : decode cX7_conflictBlock 33 = .ok (.getfield 29, 3) := by decide +kernel
theorem dX7_conflictBlock_36 : decode cX7_conflictBlock 36 = .ok (.iload_n 1, 1) := by decide +kernel
theorem dX7_conflictBlock_37 : decode cX7_conflictBlock 37 = .ok (.iaload, 1) := by decide +kernel
theorem dX7_conflictBlock_38 : decode cX7_conflictBlock 38 = .ok (.ireturn, 1) := by decide +kernel
theorem dX7_conflictKind_0 : decode cX7_conflictKind 0 = .ok (.aload_n 0, 1) := by decide +kernel
theorem dX7_conflictKind_1 : decode cX7_conflictKind 1 = .ok (.invokevirtual 166, 3) := by decide +kernel
theorem dX7_conflictKind_4 : decode cX7_conflictKind 4 = .ok (.aload_n 0, 1) := by decide +kernel
theorem dX7_conflictKind_5 : decode cX7_conflictKind 5 = .ok (.iload_n 1, 1) := by decide +kernel
theorem dX7_conflictKind_6 : decode cX7_conflictKind 6 = .ok (.iconst 0, 1) := by decide +kernel
theorem dX7_conflictKind_7 : decode cX7_conflictKind 7 = .ok (.aload_n 0, 1) := by decide +kernel
theorem dX7_conflictKind_8 : decode cX7_conflictKind 8 = .ok (.getfield 144, 3) := by decide +kernel
theorem dX7_conflictKind_11 : decode cX7_conflictKind 11 = .ok (.iconst 1, 1) := by decide +kernel
theorem dX7_conflictKind_12 : decode cX7_conflictKind 12 = .ok (.isub, 1) := by decide +kernel
theorem dX7_conflictKind_13 : decode cX7_conflictKind 13 = .ok (.invokestatic 54, 3) := by decide +kernel
theorem dX7_conflictKind_16 : decode cX7_conflictKind 16 = .ok (.ifCond .eq 7, 3) := by decide +kernel
theorem dX7_conflictKind_19 : decode cX7_conflictKind 19 = .ok (.iconst 0, 1) := by decide +kernel
theorem dX7_conflictKind_20 : decode cX7_conflictKind 20 = .ok (.goto 4, 3) := by decide +kernel
theorem dX7_conflictKind_23 : decode cX7_conflictKind 23 = .ok (.iconst 1, 1) := by decide +kernel
theorem dX7_conflictKind_24 : decode cX7_conflictKind 24 = .ok (.invokevirtual 89, 3) := by decide +kernel
theorem dX7_conflictKind_27 : decode cX7_conflictKind 27 = .ok (.ifCond .eq 5, 3) := by decide +kernel
theorem dX7_conflictKind_30 : decode cX7_conflictKind 30 = .ok (.iconst 0, 1) := by decide +kernel
theorem dX7_conflictKind_31 : decode cX7_conflictKind 31 = .ok (.ireturn, 1) := by decide +kernel
theorem dX7_conflictKind_32 : decode cX7_conflictKind 32 = .ok (.aload_n 0, 1) := by decide +kernel
theorem dX7_conflictKind_33 : decode cX7_conflictKind 33 = .ok (.getfield 32, 3) := by decide +kernel
theorem dX7_conflictKind_36 : decode cX7_conflictKind 36 = .ok (.iload_n 1, 1) := by decide +kernel
theorem dX7_conflictKind_37 : decode cX7_conflictKind 37 = .ok (.iaload, 1) := by decide +kernel
theorem dX7_conflictKind_38 : decode cX7_conflictKind 38 = .ok (.ireturn, 1) := by decide +kernel
theorem dX7_choose_0 : decode cX7_choose 0 = .ok (.aload_n 0, 1) := by decide +kernel
theorem dX7_choose_1 : decode cX7_choose 1 = .ok (.invokevirtual 166, 3) := by decide +kernel
theorem dX7_choose_4 : decode cX7_choose 4 = .ok (.aload_n 0, 1) := by decide +kernel
theorem dX7_choose_5 : decode cX7_choose 5 = .ok (.iload_n 1, 1) := by decide +kernel
theorem dX7_choose_6 : decode cX7_choose 6 = .ok (.iconst 0, 1) := by decide +kernel
theorem dX7_choose_7 : decode cX7_choose 7 = .ok (.aload_n 0, 1) := by decide +kernel
theorem dX7_choose_8 : decode cX7_choose 8 = .ok (.getfield 144, 3) := by decide +kernel
theorem dX7_choose_11 : decode cX7_choose 11 = .ok (.iconst 1, 1) := by decide +kernel
theorem dX7_choose_12 : decode cX7_choose 12 = .ok (.isub, 1) := by decide +kernel
theorem dX7_choose_13 : decode cX7_choose 13 = .ok (.invokestatic 54, 3) := by decide +kernel
theorem dX7_choose_16 : decode cX7_choose 16 = .ok (.ifCond .ne 7, 3) := by decide +kernel
theorem dX7_choose_19 : decode cX7_choose 19 = .ok (.iconst 1, 1) := by decide +kernel
theorem dX7_choose_20 : decode cX7_choose 20 = .ok (.goto 17, 3) := by decide +kernel
theorem dX7_choose_23 : decode cX7_choose 23 = .ok (.iload_n 2, 1) := by decide +kernel
theorem dX7_choose_24 : decode cX7_choose 24 = .ok (.iconst (-1), 1) := by decide +kernel
theorem dX7_choose_25 : decode cX7_choose 25 = .ok (.iconst 1, 1) := by decide +kernel
theorem dX7_choose_26 : decode cX7_choose 26 = .ok (.invokestatic 54, 3) := by decide +kernel
theorem dX7_choose_29 : decode cX7_choose 29 = .ok (.ifCond .eq 7, 3) := by decide +kernel
theorem dX7_choose_32 : decode cX7_choose 32 = .ok (.iconst 0, 1) := by decide +kernel
theorem dX7_choose_33 : decode cX7_choose 33 = .ok (.goto 4, 3) := by decide +kernel
theorem dX7_choose_36 : decode cX7_choose 36 = .ok (.iconst 2, 1) := by decide +kernel
theorem dX7_choose_37 : decode cX7_choose 37 = .ok (.invokevirtual 89, 3) := by decide +kernel
theorem dX7_choose_40 : decode cX7_choose 40 = .ok (.ifCond .eq 5, 3) := by decide +kernel
theorem dX7_choose_43 : decode cX7_choose 43 = .ok (.iconst 0, 1) := by decide +kernel
theorem dX7_choose_44 : decode cX7_choose 44 = .ok (.ireturn, 1) := by decide +kernel
theorem dX7_choose_45 : decode cX7_choose 45 = .ok (.aload_n 0, 1) := by decide +kernel
theorem dX7_choose_46 : decode cX7_choose 46 = .ok (.invokevirtual 92, 3) := by decide +kernel
theorem dX7_choose_49 : decode cX7_choose 49 = .ok (.bipush 74, 2) := by decide +kernel
theorem dX7_choose_51 : decode cX7_choose 51 = .ok (.iconst 3, 1) := by decide +kernel
theorem dX7_choose_52 : decode cX7_choose 52 = .ok (.aload_n 0, 1) := by decide +kernel
theorem dX7_choose_53 : decode cX7_choose 53 = .ok (.getfield 29, 3) := by decide +kernel
theorem dX7_choose_56 : decode cX7_choose 56 = .ok (.iload_n 1, 1) := by decide +kernel
theorem dX7_choose_57 : decode cX7_choose 57 = .ok (.iaload, 1) := by decide +kernel
theorem dX7_choose_58 : decode cX7_choose 58 = .ok (.imul, 1) := by decide +kernel
theorem dX7_choose_59 : decode cX7_choose 59 = .ok (.iadd, 1) := by decide +kernel
theorem dX7_choose_60 : decode cX7_choose 60 = .ok (.aload_n 0, 1) := by decide +kernel
theorem dX7_choose_61 : decode cX7_choose 61 = .ok (.getfield 32, 3) := by decide +kernel
theorem dX7_choose_64 : decode cX7_choose 64 = .ok (.iload_n 1, 1) := by decide +kernel
theorem dX7_choose_65 : decode cX7_choose 65 = .ok (.iaload, 1) := by decide +kernel
theorem dX7_choose_66 : decode cX7_choose 66 = .ok (.iadd, 1) := by decide +kernel
theorem dX7_choose_67 : decode cX7_choose 67 = .ok (.iconst 1, 1) := by decide +kernel
theorem dX7_choose_68 : decode cX7_choose 68 = .ok (.isub, 1) := by decide +kernel
theorem dX7_choose_69 : decode cX7_choose 69 = .ok (.istore_n 3, 1) := by decide +kernel
theorem dX7_choose_70 : decode cX7_choose 70 = .ok (.aload_n 0, 1) := by decide +kernel
theorem dX7_choose_71 : decode cX7_choose 71 = .ok (.getfield 7, 3) := by decide +kernel
theorem dX7_choose_74 : decode cX7_choose 74 = .ok (.iload_n 3, 1) := by decide +kernel
theorem dX7_choose_75 : decode cX7_choose 75 = .ok (.iaload, 1) := by decide +kernel
theorem dX7_choose_76 : decode cX7_choose 76 = .ok (.iconst 1, 1) := by decide +kernel
theorem dX7_choose_77 : decode cX7_choose 77 = .ok (.isub, 1) := by decide +kernel
theorem dX7_choose_78 : decode cX7_choose 78 = .ok (.istore 4, 2) := by decide +kernel
theorem dX7_choose_80 : decode cX7_choose 80 = .ok (.aload_n 0, 1) := by decide +kernel
theorem dX7_choose_81 : decode cX7_choose 81 = .ok (.getfield 7, 3) := by decide +kernel
theorem dX7_choose_84 : decode cX7_choose 84 = .ok (.iload_n 3, 1) := by decide +kernel
theorem dX7_choose_85 : decode cX7_choose 85 = .ok (.iload_n 2, 1) := by decide +kernel
theorem dX7_choose_86 : decode cX7_choose 86 = .ok (.iconst 1, 1) := by decide +kernel
theorem dX7_choose_87 : decode cX7_choose 87 = .ok (.iadd, 1) := by decide +kernel
theorem dX7_choose_88 : decode cX7_choose 88 = .ok (.iastore, 1) := by decide +kernel
theorem dX7_choose_89 : decode cX7_choose 89 = .ok (.iload 4, 2) := by decide +kernel
theorem dX7_choose_91 : decode cX7_choose 91 = .ok (.ireturn, 1) := by decide +kernel
theorem dX7_prefer_0 : decode cX7_prefer 0 = .ok (.aload_n 0, 1) := by decide +kernel
theorem dX7_prefer_1 : decode cX7_prefer 1 = .ok (.iload_n 1, 1) := by decide +kernel
theorem dX7_prefer_2 : decode cX7_prefer 2 = .ok (.invokestatic 62, 3) := by decide +kernel
theorem dX7_prefer_5 : decode cX7_prefer 5 = .ok (.ifCond .eq 7, 3) := by decide +kernel
theorem dX7_prefer_8 : decode cX7_prefer 8 = .ok (.iconst 0, 1) := by decide +kernel
theorem dX7_prefer_9 : decode cX7_prefer 9 = .ok (.goto 4, 3) := by decide +kernel
theorem dX7_prefer_12 : decode cX7_prefer 12 = .ok (.iconst 1, 1) := by decide +kernel
theorem dX7_prefer_13 : decode cX7_prefer 13 = .ok (.invokevirtual 89, 3) := by decide +kernel
theorem dX7_prefer_16 : decode cX7_prefer 16 = .ok (.ifCond .eq 5, 3) := by decide +kernel
theorem dX7_prefer_19 : decode cX7_prefer 19 = .ok (.iconst 0, 1) := by decide +kernel
theorem dX7_prefer_20 : decode cX7_prefer 20 = .ok (.ireturn, 1) := by decide +kernel
theorem dX7_prefer_21 : decode cX7_prefer 21 = .ok (.aload_n 0, 1) := by decide +kernel
theorem dX7_prefer_22 : decode cX7_prefer 22 = .ok (.invokevirtual 92, 3) := by decide +kernel
theorem dX7_prefer_25 : decode cX7_prefer 25 = .ok (.aload_n 0, 1) := by decide +kernel
theorem dX7_prefer_26 : decode cX7_prefer 26 = .ok (.getfield 7, 3) := by decide +kernel
theorem dX7_prefer_29 : decode cX7_prefer 29 = .ok (.bipush 104, 2) := by decide +kernel
theorem dX7_prefer_31 : decode cX7_prefer 31 = .ok (.iaload, 1) := by decide +kernel
theorem dX7_prefer_32 : decode cX7_prefer 32 = .ok (.istore_n 2, 1) := by decide +kernel
theorem dX7_prefer_33 : decode cX7_prefer 33 = .ok (.aload_n 0, 1) := by decide +kernel
theorem dX7_prefer_34 : decode cX7_prefer 34 = .ok (.getfield 7, 3) := by decide +kernel
theorem dX7_prefer_37 : decode cX7_prefer 37 = .ok (.bipush 104, 2) := by decide +kernel
theorem dX7_prefer_39 : decode cX7_prefer 39 = .ok (.iload_n 1, 1) := by decide +kernel
theorem dX7_prefer_40 : decode cX7_prefer 40 = .ok (.iastore, 1) := by decide +kernel
theorem dX7_prefer_41 : decode cX7_prefer 41 = .ok (.iload_n 2, 1) := by decide +kernel
theorem dX7_prefer_42 : decode cX7_prefer 42 = .ok (.ireturn, 1) := by decide +kernel
theorem dX7_openOnes_0 : decode cX7_openOnes 0 = .ok (.iconst 0, 1) := by decide +kernel
theorem dX7_openOnes_1 : decode cX7_openOnes 1 = .ok (.istore_n 1, 1) := by decide +kernel
theorem dX7_openOnes_2 : decode cX7_openOnes 2 = .ok (.iconst 0, 1) := by decide +kernel
theorem dX7_openOnes_3 : decode cX7_openOnes 3 = .ok (.istore_n 2, 1) := by decide +kernel
theorem dX7_openOnes_4 : decode cX7_openOnes 4 = .ok (.iload_n 2, 1) := by decide +kernel
theorem dX7_openOnes_5 : decode cX7_openOnes 5 = .ok (.aload_n 0, 1) := by decide +kernel
theorem dX7_openOnes_6 : decode cX7_openOnes 6 = .ok (.getfield 144, 3) := by decide +kernel
theorem dX7_openOnes_9 : decode cX7_openOnes 9 = .ok (.if_icmp .ge 45, 3) := by decide +kernel
theorem dX7_openOnes_12 : decode cX7_openOnes 12 = .ok (.iload_n 1, 1) := by decide +kernel
theorem dX7_openOnes_13 : decode cX7_openOnes 13 = .ok (.aload_n 0, 1) := by decide +kernel
theorem dX7_openOnes_14 : decode cX7_openOnes 14 = .ok (.getfield 7, 3) := by decide +kernel
theorem dX7_openOnes_17 : decode cX7_openOnes 17 = .ok (.bipush 74, 2) := by decide +kernel
theorem dX7_openOnes_19 : decode cX7_openOnes 19 = .ok (.iconst 3, 1) := by decide +kernel
theorem dX7_openOnes_20 : decode cX7_openOnes 20 = .ok (.aload_n 0, 1) := by decide +kernel
theorem dX7_openOnes_21 : decode cX7_openOnes 21 = .ok (.getfield 29, 3) := by decide +kernel
theorem dX7_openOnes_24 : decode cX7_openOnes 24 = .ok (.iload_n 2, 1) := by decide +kernel
theorem dX7_openOnes_25 : decode cX7_openOnes 25 = .ok (.iaload, 1) := by decide +kernel
theorem dX7_openOnes_26 : decode cX7_openOnes 26 = .ok (.imul, 1) := by decide +kernel
theorem dX7_openOnes_27 : decode cX7_openOnes 27 = .ok (.iadd, 1) := by decide +kernel
theorem dX7_openOnes_28 : decode cX7_openOnes 28 = .ok (.aload_n 0, 1) := by decide +kernel
theorem dX7_openOnes_29 : decode cX7_openOnes 29 = .ok (.getfield 32, 3) := by decide +kernel
theorem dX7_openOnes_32 : decode cX7_openOnes 32 = .ok (.iload_n 2, 1) := by decide +kernel
theorem dX7_openOnes_33 : decode cX7_openOnes 33 = .ok (.iaload, 1) := by decide +kernel
theorem dX7_openOnes_34 : decode cX7_openOnes 34 = .ok (.iadd, 1) := by decide +kernel
theorem dX7_openOnes_35 : decode cX7_openOnes 35 = .ok (.iconst 1, 1) := by decide +kernel
theorem dX7_openOnes_36 : decode cX7_openOnes 36 = .ok (.isub, 1) := by decide +kernel
theorem dX7_openOnes_37 : decode cX7_openOnes 37 = .ok (.iaload, 1) := by decide +kernel
theorem dX7_openOnes_38 : decode cX7_openOnes 38 = .ok (.ifCond .ne 7, 3) := by decide +kernel
theorem dX7_openOnes_41 : decode cX7_openOnes 41 = .ok (.iconst 1, 1) := by decide +kernel
theorem dX7_openOnes_42 : decode cX7_openOnes 42 = .ok (.goto 4, 3) := by decide +kernel
theorem dX7_openOnes_45 : decode cX7_openOnes 45 = .ok (.iconst 0, 1) := by decide +kernel
theorem dX7_openOnes_46 : decode cX7_openOnes 46 = .ok (.iadd, 1) := by decide +kernel
theorem dX7_openOnes_47 : decode cX7_openOnes 47 = .ok (.istore_n 1, 1) := by decide +kernel
theorem dX7_openOnes_48 : decode cX7_openOnes 48 = .ok (.iinc 2 1, 3) := by decide +kernel
theorem dX7_openOnes_51 : decode cX7_openOnes 51 = .ok (.goto (-47), 3) := by decide +kernel
theorem dX7_openOnes_54 : decode cX7_openOnes 54 = .ok (.iload_n 1, 1) := by decide +kernel
theorem dX7_openOnes_55 : decode cX7_openOnes 55 = .ok (.ireturn, 1) := by decide +kernel
theorem dX7_open_0 : decode cX7_open 0 = .ok (.aload_n 0, 1) := by decide +kernel
theorem dX7_open_1 : decode cX7_open 1 = .ok (.iconst 0, 1) := by decide +kernel
theorem dX7_open_2 : decode cX7_open 2 = .ok (.putfield 48, 3) := by decide +kernel
theorem dX7_open_5 : decode cX7_open 5 = .ok (.aload_n 0, 1) := by decide +kernel
theorem dX7_open_6 : decode cX7_open 6 = .ok (.invokevirtual 166, 3) := by decide +kernel
theorem dX7_open_9 : decode cX7_open 9 = .ok (.aload_n 0, 1) := by decide +kernel
theorem dX7_open_10 : decode cX7_open 10 = .ok (.invokevirtual 169, 3) := by decide +kernel
theorem dX7_open_13 : decode cX7_open 13 = .ok (.ireturn, 1) := by decide +kernel
theorem dX7_accept_0 : decode cX7_accept 0 = .ok (.aload_n 0, 1) := by decide +kernel
theorem dX7_accept_1 : decode cX7_accept 1 = .ok (.invokevirtual 166, 3) := by decide +kernel
theorem dX7_accept_4 : decode cX7_accept 4 = .ok (.aload_n 0, 1) := by decide +kernel
theorem dX7_accept_5 : decode cX7_accept 5 = .ok (.aload_n 0, 1) := by decide +kernel
theorem dX7_accept_6 : decode cX7_accept 6 = .ok (.invokevirtual 169, 3) := by decide +kernel
theorem dX7_accept_9 : decode cX7_accept 9 = .ok (.ifCond .gt 12, 3) := by decide +kernel
theorem dX7_accept_12 : decode cX7_accept 12 = .ok (.aload_n 0, 1) := by decide +kernel
theorem dX7_accept_13 : decode cX7_accept 13 = .ok (.getfield 44, 3) := by decide +kernel
theorem dX7_accept_16 : decode cX7_accept 16 = .ok (.bipush 10, 2) := by decide +kernel
theorem dX7_accept_18 : decode cX7_accept 18 = .ok (.if_icmp .le 7, 3) := by decide +kernel
theorem dX7_accept_21 : decode cX7_accept 21 = .ok (.iconst 1, 1) := by decide +kernel
theorem dX7_accept_22 : decode cX7_accept 22 = .ok (.goto 4, 3) := by decide +kernel
theorem dX7_accept_25 : decode cX7_accept 25 = .ok (.iconst 0, 1) := by decide +kernel
theorem dX7_accept_26 : decode cX7_accept 26 = .ok (.invokevirtual 89, 3) := by decide +kernel
theorem dX7_accept_29 : decode cX7_accept 29 = .ok (.ifCond .eq 5, 3) := by decide +kernel
theorem dX7_accept_32 : decode cX7_accept 32 = .ok (.iconst 0, 1) := by decide +kernel
theorem dX7_accept_33 : decode cX7_accept 33 = .ok (.ireturn, 1) := by decide +kernel
theorem dX7_accept_34 : decode cX7_accept 34 = .ok (.aload_n 0, 1) := by decide +kernel
theorem dX7_accept_35 : decode cX7_accept 35 = .ok (.invokevirtual 92, 3) := by decide +kernel
theorem dX7_accept_38 : decode cX7_accept 38 = .ok (.aload_n 0, 1) := by decide +kernel
theorem dX7_accept_39 : decode cX7_accept 39 = .ok (.getfield 7, 3) := by decide +kernel
theorem dX7_accept_42 : decode cX7_accept 42 = .ok (.iconst 0, 1) := by decide +kernel
theorem dX7_accept_43 : decode cX7_accept 43 = .ok (.aload_n 0, 1) := by decide +kernel
theorem dX7_accept_44 : decode cX7_accept 44 = .ok (.getfield 44, 3) := by decide +kernel
theorem dX7_accept_47 : decode cX7_accept 47 = .ok (.iastore, 1) := by decide +kernel
theorem dX7_accept_48 : decode cX7_accept 48 = .ok (.aload_n 0, 1) := by decide +kernel
theorem dX7_accept_49 : decode cX7_accept 49 = .ok (.getfield 7, 3) := by decide +kernel
theorem dX7_accept_52 : decode cX7_accept 52 = .ok (.iconst 1, 1) := by decide +kernel
theorem dX7_accept_53 : decode cX7_accept 53 = .ok (.aload_n 0, 1) := by decide +kernel
theorem dX7_accept_54 : decode cX7_accept 54 = .ok (.getfield 44, 3) := by decide +kernel
theorem dX7_accept_57 : decode cX7_accept 57 = .ok (.iastore, 1) := by decide +kernel
theorem dX7_accept_58 : decode cX7_accept 58 = .ok (.iconst 0, 1) := by decide +kernel
theorem dX7_accept_59 : decode cX7_accept 59 = .ok (.istore_n 1, 1) := by decide +kernel
theorem dX7_accept_60 : decode cX7_accept 60 = .ok (.iload_n 1, 1) := by decide +kernel
theorem dX7_accept_61 : decode cX7_accept 61 = .ok (.iconst 2, 1) := by decide +kernel
theorem dX7_accept_62 : decode cX7_accept 62 = .ok (.if_icmp .ge 63, 3) := by decide +kernel
theorem dX7_accept_65 : decode cX7_accept 65 = .ok (.aload_n 0, 1) := by decide +kernel
theorem dX7_accept_66 : decode cX7_accept 66 = .ok (.getfield 7, 3) := by decide +kernel
theorem dX7_accept_69 : decode cX7_accept 69 = .ok (.iload_n 1, 1) := by decide +kernel
theorem dX7_accept_70 : decode cX7_accept 70 = .ok (.iconst 0, 1) := by decide +kernel
theorem dX7_accept_71 : decode cX7_accept 71 = .ok (.invokestatic 58, 3) := by decide +kernel
theorem dX7_accept_74 : decode cX7_accept 74 = .ok (.iconst 0, 1) := by decide +kernel
theorem dX7_accept_75 : decode cX7_accept 75 = .ok (.iastore, 1) := by decide +kernel
theorem dX7_accept_76 : decode cX7_accept 76 = .ok (.iconst 0, 1) := by decide +kernel
theorem dX7_accept_77 : decode cX7_accept 77 = .ok (.istore_n 2, 1) := by decide +kernel
theorem dX7_accept_78 : decode cX7_accept 78 = .ok (.iload_n 2, 1) := by decide +kernel
theorem dX7_accept_79 : decode cX7_accept 79 = .ok (.aload_n 0, 1) := by decide +kernel
theorem dX7_accept_80 : decode cX7_accept 80 = .ok (.getfield 44, 3) := by decide +kernel
theorem dX7_accept_83 : decode cX7_accept 83 = .ok (.if_icmp .ge 36, 3) := by decide +kernel
theorem dX7_accept_86 : decode cX7_accept 86 = .ok (.aload_n 0, 1) := by decide +kernel
theorem dX7_accept_87 : decode cX7_accept 87 = .ok (.getfield 7, 3) := by decide +kernel
theorem dX7_accept_90 : decode cX7_accept 90 = .ok (.iconst 2, 1) := by decide +kernel
theorem dX7_accept_91 : decode cX7_accept 91 = .ok (.iload_n 2, 1) := by decide +kernel
theorem dX7_accept_92 : decode cX7_accept 92 = .ok (.iadd, 1) := by decide +kernel
theorem dX7_accept_93 : decode cX7_accept 93 = .ok (.aload_n 0, 1) := by decide +kernel
theorem dX7_accept_94 : decode cX7_accept 94 = .ok (.getfield 26, 3) := by decide +kernel
theorem dX7_accept_97 : decode cX7_accept 97 = .ok (.iload_n 2, 1) := by decide +kernel
theorem dX7_accept_98 : decode cX7_accept 98 = .ok (.iaload, 1) := by decide +kernel
theorem dX7_accept_99 : decode cX7_accept 99 = .ok (.iastore, 1) := by decide +kernel
theorem dX7_accept_100 : decode cX7_accept 100 = .ok (.aload_n 0, 1) := by decide +kernel
theorem dX7_accept_101 : decode cX7_accept 101 = .ok (.iload_n 1, 1) := by decide +kernel
theorem dX7_accept_102 : decode cX7_accept 102 = .ok (.iload_n 2, 1) := by decide +kernel
theorem dX7_accept_103 : decode cX7_accept 103 = .ok (.iload_n 2, 1) := by decide +kernel
theorem dX7_accept_104 : decode cX7_accept 104 = .ok (.aload_n 0, 1) := by decide +kernel
theorem dX7_accept_105 : decode cX7_accept 105 = .ok (.getfield 26, 3) := by decide +kernel
theorem dX7_accept_108 : decode cX7_accept 108 = .ok (.iload_n 2, 1) := by decide +kernel
theorem dX7_accept_109 : decode cX7_accept 109 = .ok (.iaload, 1) := by decide +kernel
theorem dX7_accept_110 : decode cX7_accept 110 = .ok (.invokevirtual 95, 3) := by decide +kernel
theorem dX7_accept_113 : decode cX7_accept 113 = .ok (.iinc 2 1, 3) := by decide +kernel
theorem dX7_accept_116 : decode cX7_accept 116 = .ok (.goto (-38), 3) := by decide +kernel
theorem dX7_accept_119 : decode cX7_accept 119 = .ok (.iinc 1 1, 3) := by decide +kernel
theorem dX7_accept_122 : decode cX7_accept 122 = .ok (.goto (-62), 3) := by decide +kernel
theorem dX7_accept_125 : decode cX7_accept 125 = .ok (.bipush 74, 2) := by decide +kernel
theorem dX7_accept_127 : decode cX7_accept 127 = .ok (.istore_n 1, 1) := by decide +kernel
theorem dX7_accept_128 : decode cX7_accept 128 = .ok (.iload_n 1, 1) := by decide +kernel
theorem dX7_accept_129 : decode cX7_accept 129 = .ok (.bipush 104, 2) := by decide +kernel
theorem dX7_accept_131 : decode cX7_accept 131 = .ok (.if_icmp .ge 16, 3) := by decide +kernel
theorem dX7_accept_134 : decode cX7_accept 134 = .ok (.aload_n 0, 1) := by decide +kernel
theorem dX7_accept_135 : decode cX7_accept 135 = .ok (.getfield 7, 3) := by decide +kernel
theorem dX7_accept_138 : decode cX7_accept 138 = .ok (.iload_n 1, 1) := by decide +kernel
theorem dX7_accept_139 : decode cX7_accept 139 = .ok (.iconst 0, 1) := by decide +kernel
theorem dX7_accept_140 : decode cX7_accept 140 = .ok (.iastore, 1) := by decide +kernel
theorem dX7_accept_141 : decode cX7_accept 141 = .ok (.iinc 1 1, 3) := by decide +kernel
theorem dX7_accept_144 : decode cX7_accept 144 = .ok (.goto (-16), 3) := by decide +kernel
theorem dX7_accept_147 : decode cX7_accept 147 = .ok (.aload_n 0, 1) := by decide +kernel
theorem dX7_accept_148 : decode cX7_accept 148 = .ok (.getfield 7, 3) := by decide +kernel
theorem dX7_accept_151 : decode cX7_accept 151 = .ok (.bipush 105, 2) := by decide +kernel
theorem dX7_accept_153 : decode cX7_accept 153 = .ok (.dup2, 1) := by decide +kernel
theorem dX7_accept_154 : decode cX7_accept 154 = .ok (.iaload, 1) := by decide +kernel
theorem dX7_accept_155 : decode cX7_accept 155 = .ok (.iconst 1, 1) := by decide +kernel
theorem dX7_accept_156 : decode cX7_accept 156 = .ok (.iadd, 1) := by decide +kernel
theorem dX7_accept_157 : decode cX7_accept 157 = .ok (.iastore, 1) := by decide +kernel
theorem dX7_accept_158 : decode cX7_accept 158 = .ok (.aload_n 0, 1) := by decide +kernel
theorem dX7_accept_159 : decode cX7_accept 159 = .ok (.getfield 44, 3) := by decide +kernel
theorem dX7_accept_162 : decode cX7_accept 162 = .ok (.ireturn, 1) := by decide +kernel
theorem dX7_accepted_0 : decode cX7_accepted 0 = .ok (.aload_n 0, 1) := by decide +kernel
theorem dX7_accepted_1 : decode cX7_accepted 1 = .ok (.iconst 0, 1) := by decide +kernel
theorem dX7_accepted_2 : decode cX7_accepted 2 = .ok (.putfield 48, 3) := by decide +kernel
theorem dX7_accepted_5 : decode cX7_accepted 5 = .ok (.aload_n 0, 1) := by decide +kernel
theorem dX7_accepted_6 : decode cX7_accepted 6 = .ok (.getfield 7, 3) := by decide +kernel
theorem dX7_accepted_9 : decode cX7_accepted 9 = .ok (.bipush 105, 2) := by decide +kernel
theorem dX7_accepted_11 : decode cX7_accepted 11 = .ok (.iaload, 1) := by decide +kernel
theorem dX7_accepted_12 : decode cX7_accepted 12 = .ok (.ireturn, 1) := by decide +kernel
theorem dX7_similarity_0 : decode cX7_similarity 0 = .ok (.aload_n 0, 1) := by decide +kernel
theorem dX7_similarity_1 : decode cX7_similarity 1 = .ok (.iload_n 1, 1) := by decide +kernel
theorem dX7_similarity_2 : decode cX7_similarity 2 = .ok (.invokestatic 62, 3) := by decide +kernel
theorem dX7_similarity_5 : decode cX7_similarity 5 = .ok (.ifCond .eq 7, 3) := by decide +kernel
theorem dX7_similarity_8 : decode cX7_similarity 8 = .ok (.iconst 0, 1) := by decide +kernel
theorem dX7_similarity_9 : decode cX7_similarity 9 = .ok (.goto 4, 3) := by decide +kernel
theorem dX7_similarity_12 : decode cX7_similarity 12 = .ok (.iconst 1, 1) := by decide +kernel
theorem dX7_similarity_13 : decode cX7_similarity 13 = .ok (.invokevirtual 89, 3) := by decide +kernel
theorem dX7_similarity_16 : decode cX7_similarity 16 = .ok (.ifCond .eq 5, 3) := by decide +kernel
theorem dX7_similarity_19 : decode cX7_similarity 19 = .ok (.dconst 0, 1) := by decide +kernel
theorem dX7_similarity_20 : decode cX7_similarity 20 = .ok (.dreturn, 1) := by decide +kernel
theorem dX7_similarity_21 : decode cX7_similarity 21 = .ok (.aload_n 0, 1) := by decide +kernel
theorem dX7_similarity_22 : decode cX7_similarity 22 = .ok (.invokevirtual 166, 3) := by decide +kernel
theorem dX7_similarity_25 : decode cX7_similarity 25 = .ok (.iconst 0, 1) := by decide +kernel
theorem dX7_similarity_26 : decode cX7_similarity 26 = .ok (.istore_n 2, 1) := by decide +kernel
theorem dX7_similarity_27 : decode cX7_similarity 27 = .ok (.aload_n 0, 1) := by decide +kernel
theorem dX7_similarity_28 : decode cX7_similarity 28 = .ok (.getfield 44, 3) := by decide +kernel
theorem dX7_similarity_31 : decode cX7_similarity 31 = .ok (.istore_n 3, 1) := by decide +kernel
theorem dX7_similarity_32 : decode cX7_similarity 32 = .ok (.iconst 0, 1) := by decide +kernel
theorem dX7_similarity_33 : decode cX7_similarity 33 = .ok (.istore 4, 2) := by decide +kernel
theorem dX7_similarity_35 : decode cX7_similarity 35 = .ok (.iload 4, 2) := by decide +kernel
theorem dX7_similarity_37 : decode cX7_similarity 37 = .ok (.aload_n 0, 1) := by decide +kernel
theorem dX7_similarity_38 : decode cX7_similarity 38 = .ok (.iload_n 1, 1) := by decide +kernel
theorem dX7_similarity_39 : decode cX7_similarity 39 = .ok (.invokevirtual 66, 3) := by decide +kernel
theorem dX7_similarity_42 : decode cX7_similarity 42 = .ok (.if_icmp .ge 67, 3) := by decide +kernel
theorem dX7_similarity_45 : decode cX7_similarity 45 = .ok (.aload_n 0, 1) := by decide +kernel
theorem dX7_similarity_46 : decode cX7_similarity 46 = .ok (.aload_n 0, 1) := by decide +kernel
theorem dX7_similarity_47 : decode cX7_similarity 47 = .ok (.iload_n 1, 1) := by decide +kernel
theorem dX7_similarity_48 : decode cX7_similarity 48 = .ok (.iload 4, 2) := by decide +kernel
theorem dX7_similarity_50 : decode cX7_similarity 50 = .ok (.invokevirtual 70, 3) := by decide +kernel
theorem dX7_similarity_53 : decode cX7_similarity 53 = .ok (.invokevirtual 153, 3) := by decide +kernel
theorem dX7_similarity_56 : decode cX7_similarity 56 = .ok (.istore 5, 2) := by decide +kernel
theorem dX7_similarity_58 : decode cX7_similarity 58 = .ok (.iload_n 2, 1) := by decide +kernel
theorem dX7_similarity_59 : decode cX7_similarity 59 = .ok (.iload 5, 2) := by decide +kernel
theorem dX7_similarity_61 : decode cX7_similarity 61 = .ok (.iconst (-1), 1) := by decide +kernel
theorem dX7_similarity_62 : decode cX7_similarity 62 = .ok (.if_icmp .eq 24, 3) := by decide +kernel
theorem dX7_similarity_65 : decode cX7_similarity 65 = .ok (.aload_n 0, 1) := by decide +kernel
theorem dX7_similarity_66 : decode cX7_similarity 66 = .ok (.getfield 26, 3) := by decide +kernel
theorem dX7_similarity_69 : decode cX7_similarity 69 = .ok (.iload 5, 2) := by decide +kernel
theorem dX7_similarity_71 : decode cX7_similarity 71 = .ok (.iaload, 1) := by decide +kernel
theorem dX7_similarity_72 : decode cX7_similarity 72 = .ok (.aload_n 0, 1) := by decide +kernel
theorem dX7_similarity_73 : decode cX7_similarity 73 = .ok (.iload_n 1, 1) := by decide +kernel
theorem dX7_similarity_74 : decode cX7_similarity 74 = .ok (.iload 4, 2) := by decide +kernel
theorem dX7_similarity_76 : decode cX7_similarity 76 = .ok (.invokevirtual 76, 3) := by decide +kernel
theorem dX7_similarity_79 : decode cX7_similarity 79 = .ok (.if_icmp .ne 7, 3) := by decide +kernel
theorem dX7_similarity_82 : decode cX7_similarity 82 = .ok (.iconst 1, 1) := by decide +kernel
theorem dX7_similarity_83 : decode cX7_similarity 83 = .ok (.goto 4, 3) := by decide +kernel
theorem dX7_similarity_86 : decode cX7_similarity 86 = .ok (.iconst 0, 1) := by decide +kernel
theorem dX7_similarity_87 : decode cX7_similarity 87 = .ok (.iadd, 1) := by decide +kernel
theorem dX7_similarity_88 : decode cX7_similarity 88 = .ok (.istore_n 2, 1) := by decide +kernel
theorem dX7_similarity_89 : decode cX7_similarity 89 = .ok (.iload_n 3, 1) := by decide +kernel
theorem dX7_similarity_90 : decode cX7_similarity 90 = .ok (.iload 5, 2) := by decide +kernel
theorem dX7_similarity_92 : decode cX7_similarity 92 = .ok (.iconst (-1), 1) := by decide +kernel
theorem dX7_similarity_93 : decode cX7_similarity 93 = .ok (.if_icmp .ne 7, 3) := by decide +kernel
theorem dX7_similarity_96 : decode cX7_similarity 96 = .ok (.iconst 1, 1) := by decide +kernel
theorem dX7_similarity_97 : decode cX7_similarity 97 = .ok (.goto 4, 3) := by decide +kernel
theorem dX7_similarity_100 : decode cX7_similarity 100 = .ok (.iconst 0, 1) := by decide +kernel
theorem dX7_similarity_101 : decode cX7_similarity 101 = .ok (.iadd, 1) := by decide +kernel
theorem dX7_similarity_102 : decode cX7_similarity 102 = .ok (.istore_n 3, 1) := by decide +kernel
theorem dX7_similarity_103 : decode cX7_similarity 103 = .ok (.iinc 4 1, 3) := by decide +kernel
theorem dX7_similarity_106 : decode cX7_similarity 106 = .ok (.goto (-71), 3) := by decide +kernel
theorem dX7_similarity_109 : decode cX7_similarity 109 = .ok (.iload_n 3, 1) := by decide +kernel
theorem dX7_similarity_110 : decode cX7_similarity 110 = .ok (.ifCond .ne 7, 3) := by decide +kernel
theorem dX7_similarity_113 : decode cX7_similarity 113 = .ok (.dconst 1, 1) := by decide +kernel
theorem dX7_similarity_114 : decode cX7_similarity 114 = .ok (.goto 8, 3) := by decide +kernel
theorem dX7_similarity_117 : decode cX7_similarity 117 = .ok (.iload_n 2, 1) := by decide +kernel
theorem dX7_similarity_118 : decode cX7_similarity 118 = .ok (.i2d, 1) := by decide +kernel
theorem dX7_similarity_119 : decode cX7_similarity 119 = .ok (.iload_n 3, 1) := by decide +kernel
theorem dX7_similarity_120 : decode cX7_similarity 120 = .ok (.i2d, 1) := by decide +kernel
theorem dX7_similarity_121 : decode cX7_similarity 121 = .ok (.ddiv, 1) := by decide +kernel
theorem dX7_similarity_122 : decode cX7_similarity 122 = .ok (.dreturn, 1) := by decide +kernel
theorem dX7_append_0 : decode cX7_append 0 = .ok (.aload_n 0, 1) := by decide +kernel
theorem dX7_append_1 : decode cX7_append 1 = .ok (.iload_n 1, 1) := by decide +kernel
theorem dX7_append_2 : decode cX7_append 2 = .ok (.bipush 33, 2) := by decide +kernel
theorem dX7_append_4 : decode cX7_append 4 = .ok (.bipush 126, 2) := by decide +kernel
theorem dX7_append_6 : decode cX7_append 6 = .ok (.invokestatic 54, 3) := by decide +kernel
theorem dX7_append_9 : decode cX7_append 9 = .ok (.ifCond .ne 7, 3) := by decide +kernel
theorem dX7_append_12 : decode cX7_append 12 = .ok (.iconst 1, 1) := by decide +kernel
theorem dX7_append_13 : decode cX7_append 13 = .ok (.goto 17, 3) := by decide +kernel
theorem dX7_append_16 : decode cX7_append 16 = .ok (.aload_n 0, 1) := by decide +kernel
theorem dX7_append_17 : decode cX7_append 17 = .ok (.getfield 173, 3) := by decide +kernel
theorem dX7_append_20 : decode cX7_append 20 = .ok (.bipush 60, 2) := by decide +kernel
theorem dX7_append_22 : decode cX7_append 22 = .ok (.if_icmp .ne 7, 3) := by decide +kernel
theorem dX7_append_25 : decode cX7_append 25 = .ok (.iconst 2, 1) := by decide +kernel
theorem dX7_append_26 : decode cX7_append 26 = .ok (.goto 4, 3) := by decide +kernel
theorem dX7_append_29 : decode cX7_append 29 = .ok (.iconst 0, 1) := by decide +kernel
theorem dX7_append_30 : decode cX7_append 30 = .ok (.invokevirtual 89, 3) := by decide +kernel
theorem dX7_append_33 : decode cX7_append 33 = .ok (.ifCond .eq 5, 3) := by decide +kernel
theorem dX7_append_36 : decode cX7_append 36 = .ok (.iconst 0, 1) := by decide +kernel
theorem dX7_append_37 : decode cX7_append 37 = .ok (.ireturn, 1) := by decide +kernel
theorem dX7_append_38 : decode cX7_append 38 = .ok (.aload_n 0, 1) := by decide +kernel
theorem dX7_append_39 : decode cX7_append 39 = .ok (.getfield 16, 3) := by decide +kernel
theorem dX7_append_42 : decode cX7_append 42 = .ok (.aload_n 0, 1) := by decide +kernel
theorem dX7_append_43 : decode cX7_append 43 = .ok (.getfield 173, 3) := by decide +kernel
theorem dX7_append_46 : decode cX7_append 46 = .ok (.iload_n 1, 1) := by decide +kernel
theorem dX7_append_47 : decode cX7_append 47 = .ok (.iastore, 1) := by decide +kernel
theorem dX7_append_48 : decode cX7_append 48 = .ok (.aload_n 0, 1) := by decide +kernel
theorem dX7_append_49 : decode cX7_append 49 = .ok (.dup, 1) := by decide +kernel
theorem dX7_append_50 : decode cX7_append 50 = .ok (.getfield 173, 3) := by decide +kernel
theorem dX7_append_53 : decode cX7_append 53 = .ok (.iconst 1, 1) := by decide +kernel
theorem dX7_append_54 : decode cX7_append 54 = .ok (.iadd, 1) := by decide +kernel
theorem dX7_append_55 : decode cX7_append 55 = .ok (.putfield 173, 3) := by decide +kernel
theorem dX7_append_58 : decode cX7_append 58 = .ok (.aload_n 0, 1) := by decide +kernel
theorem dX7_append_59 : decode cX7_append 59 = .ok (.getfield 173, 3) := by decide +kernel
theorem dX7_append_62 : decode cX7_append 62 = .ok (.ireturn, 1) := by decide +kernel
theorem dX7_clearText_0 : decode cX7_clearText 0 = .ok (.aload_n 0, 1) := by decide +kernel
theorem dX7_clearText_1 : decode cX7_clearText 1 = .ok (.iconst 0, 1) := by decide +kernel
theorem dX7_clearText_2 : decode cX7_clearText 2 = .ok (.putfield 48, 3) := by decide +kernel
theorem dX7_clearText_5 : decode cX7_clearText 5 = .ok (.aload_n 0, 1) := by decide +kernel
theorem dX7_clearText_6 : decode cX7_clearText 6 = .ok (.getfield 173, 3) := by decide +kernel
theorem dX7_clearText_9 : decode cX7_clearText 9 = .ok (.istore_n 1, 1) := by decide +kernel
theorem dX7_clearText_10 : decode cX7_clearText 10 = .ok (.aload_n 0, 1) := by decide +kernel
theorem dX7_clearText_11 : decode cX7_clearText 11 = .ok (.iconst 0, 1) := by decide +kernel
theorem dX7_clearText_12 : decode cX7_clearText 12 = .ok (.putfield 173, 3) := by decide +kernel
theorem dX7_clearText_15 : decode cX7_clearText 15 = .ok (.iload_n 1, 1) := by decide +kernel
theorem dX7_clearText_16 : decode cX7_clearText 16 = .ok (.ireturn, 1) := by decide +kernel
theorem dX7_next_0 : decode cX7_next 0 = .ok (.aload_n 0, 1) := by decide +kernel
theorem dX7_next_1 : decode cX7_next 1 = .ok (.getfield 176, 3) := by decide +kernel
theorem dX7_next_4 : decode cX7_next 4 = .ok (.aload_n 0, 1) := by decide +kernel
theorem dX7_next_5 : decode cX7_next 5 = .ok (.getfield 173, 3) := by decide +kernel
theorem dX7_next_8 : decode cX7_next 8 = .ok (.if_icmp .ge 15, 3) := by decide +kernel
theorem dX7_next_11 : decode cX7_next 11 = .ok (.aload_n 0, 1) := by decide +kernel
theorem dX7_next_12 : decode cX7_next 12 = .ok (.getfield 16, 3) := by decide +kernel
theorem dX7_next_15 : decode cX7_next 15 = .ok (.aload_n 0, 1) := by decide +kernel
theorem dX7_next_16 : decode cX7_next 16 = .ok (.getfield 176, 3) := by decide +kernel
theorem dX7_next_19 : decode cX7_next 19 = .ok (.iaload, 1) := by decide +kernel
theorem dX7_next_20 : decode cX7_next 20 = .ok (.goto 4, 3) := by decide +kernel
theorem dX7_next_23 : decode cX7_next 23 = .ok (.iconst 0, 1) := by decide +kernel
theorem dX7_next_24 : decode cX7_next 24 = .ok (.ireturn, 1) := by decide +kernel
theorem dX7_sign_0 : decode cX7_sign 0 = .ok (.aload_n 0, 1) := by decide +kernel
theorem dX7_sign_1 : decode cX7_sign 1 = .ok (.aload_n 0, 1) := by decide +kernel
theorem dX7_sign_2 : decode cX7_sign 2 = .ok (.getfield 179, 3) := by decide +kernel
theorem dX7_sign_5 : decode cX7_sign 5 = .ok (.ifCond .ne 11, 3) := by decide +kernel
theorem dX7_sign_8 : decode cX7_sign 8 = .ok (.aload_n 0, 1) := by decide +kernel
theorem dX7_sign_9 : decode cX7_sign 9 = .ok (.invokevirtual 183, 3) := by decide +kernel
theorem dX7_sign_12 : decode cX7_sign 12 = .ok (.iload_n 1, 1) := by decide +kernel
theorem dX7_sign_13 : decode cX7_sign 13 = .ok (.if_icmp .eq 7, 3) := by decide +kernel
theorem dX7_sign_16 : decode cX7_sign 16 = .ok (.iconst 1, 1) := by decide +kernel
theorem dX7_sign_17 : decode cX7_sign 17 = .ok (.goto 4, 3) := by decide +kernel
theorem dX7_sign_20 : decode cX7_sign 20 = .ok (.iconst 0, 1) := by decide +kernel
theorem dX7_sign_21 : decode cX7_sign 21 = .ok (.putfield 179, 3) := by decide +kernel
theorem dX7_sign_24 : decode cX7_sign 24 = .ok (.aload_n 0, 1) := by decide +kernel
theorem dX7_sign_25 : decode cX7_sign 25 = .ok (.dup, 1) := by decide +kernel
theorem dX7_sign_26 : decode cX7_sign 26 = .ok (.getfield 176, 3) := by decide +kernel
theorem dX7_sign_29 : decode cX7_sign 29 = .ok (.aload_n 0, 1) := by decide +kernel
theorem dX7_sign_30 : decode cX7_sign 30 = .ok (.getfield 179, 3) := by decide +kernel
theorem dX7_sign_33 : decode cX7_sign 33 = .ok (.ifCond .eq 7, 3) := by decide +kernel
theorem dX7_sign_36 : decode cX7_sign 36 = .ok (.iconst 0, 1) := by decide +kernel
theorem dX7_sign_37 : decode cX7_sign 37 = .ok (.goto 4, 3) := by decide +kernel
theorem dX7_sign_40 : decode cX7_sign 40 = .ok (.iconst 1, 1) := by decide +kernel
theorem dX7_sign_41 : decode cX7_sign 41 = .ok (.iadd, 1) := by decide +kernel
theorem dX7_sign_42 : decode cX7_sign 42 = .ok (.putfield 176, 3) := by decide +kernel
theorem dX7_sign_45 : decode cX7_sign 45 = .ok (.return_, 1) := by decide +kernel
theorem dX7_digit_0 : decode cX7_digit 0 = .ok (.aload_n 0, 1) := by decide +kernel
theorem dX7_digit_1 : decode cX7_digit 1 = .ok (.invokevirtual 183, 3) := by decide +kernel
theorem dX7_digit_4 : decode cX7_digit 4 = .ok (.bipush 48, 2) := by decide +kernel
theorem dX7_digit_6 : decode cX7_digit 6 = .ok (.isub, 1) := by decide +kernel
theorem dX7_digit_7 : decode cX7_digit 7 = .ok (.istore_n 2, 1) := by decide +kernel
theorem dX7_digit_8 : decode cX7_digit 8 = .ok (.aload_n 0, 1) := by decide +kernel
theorem dX7_digit_9 : decode cX7_digit 9 = .ok (.aload_n 0, 1) := by decide +kernel
theorem dX7_digit_10 : decode cX7_digit 10 = .ok (.getfield 179, 3) := by decide +kernel
theorem dX7_digit_13 : decode cX7_digit 13 = .ok (.ifCond .ne 12, 3) := by decide +kernel
theorem dX7_digit_16 : decode cX7_digit 16 = .ok (.iload_n 2, 1) := by decide +kernel
theorem dX7_digit_17 : decode cX7_digit 17 = .ok (.iconst 0, 1) := by decide +kernel
theorem dX7_digit_18 : decode cX7_digit 18 = .ok (.iload_n 1, 1) := by decide +kernel
theorem dX7_digit_19 : decode cX7_digit 19 = .ok (.invokestatic 54, 3) := by decide +kernel
theorem dX7_digit_22 : decode cX7_digit 22 = .ok (.ifCond .ne 7, 3) := by decide +kernel
theorem dX7_digit_25 : decode cX7_digit 25 = .ok (.iconst 1, 1) := by decide +kernel
theorem dX7_digit_26 : decode cX7_digit 26 = .ok (.goto 4, 3) := by decide +kernel
theorem dX7_digit_29 : decode cX7_digit 29 = .ok (.iconst 0, 1) := by decide +kernel
theorem dX7_digit_30 : decode cX7_digit 30 = .ok (.putfield 179, 3) := by decide +kernel
theorem dX7_digit_33 : decode cX7_digit 33 = .ok (.aload_n 0, 1) := by decide +kernel
theorem dX7_digit_34 : decode cX7_digit 34 = .ok (.dup, 1) := by decide +kernel
theorem dX7_digit_35 : decode cX7_digit 35 = .ok (.getfield 176, 3) := by decide +kernel
theorem dX7_digit_38 : decode cX7_digit 38 = .ok (.aload_n 0, 1) := by decide +kernel
theorem dX7_digit_39 : decode cX7_digit 39 = .ok (.getfield 179, 3) := by decide +kernel
theorem dX7_digit_42 : decode cX7_digit 42 = .ok (.ifCond .eq 7, 3) := by decide +kernel
theorem dX7_digit_45 : decode cX7_digit 45 = .ok (.iconst 0, 1) := by decide +kernel
theorem dX7_digit_46 : decode cX7_digit 46 = .ok (.goto 4, 3) := by decide +kernel
theorem dX7_digit_49 : decode cX7_digit 49 = .ok (.iconst 1, 1) := by decide +kernel
theorem dX7_digit_50 : decode cX7_digit 50 = .ok (.iadd, 1) := by decide +kernel
theorem dX7_digit_51 : decode cX7_digit 51 = .ok (.putfield 176, 3) := by decide +kernel
theorem dX7_digit_54 : decode cX7_digit 54 = .ok (.iload_n 2, 1) := by decide +kernel
theorem dX7_digit_55 : decode cX7_digit 55 = .ok (.ireturn, 1) := by decide +kernel
theorem dX7_number_0 : decode cX7_number 0 = .ok (.aload_n 0, 1) := by decide +kernel
theorem dX7_number_1 : decode cX7_number 1 = .ok (.bipush 9, 2) := by decide +kernel
theorem dX7_number_3 : decode cX7_number 3 = .ok (.invokevirtual 186, 3) := by decide +kernel
theorem dX7_number_6 : decode cX7_number 6 = .ok (.istore_n 2, 1) := by decide +kernel
theorem dX7_number_7 : decode cX7_number 7 = .ok (.bipush 10, 2) := by decide +kernel
theorem dX7_number_9 : decode cX7_number 9 = .ok (.iload_n 2, 1) := by decide +kernel
theorem dX7_number_10 : decode cX7_number 10 = .ok (.imul, 1) := by decide +kernel
theorem dX7_number_11 : decode cX7_number 11 = .ok (.aload_n 0, 1) := by decide +kernel
theorem dX7_number_12 : decode cX7_number 12 = .ok (.invokevirtual 183, 3) := by decide +kernel
theorem dX7_number_15 : decode cX7_number 15 = .ok (.iadd, 1) := by decide +kernel
theorem dX7_number_16 : decode cX7_number 16 = .ok (.bipush 48, 2) := by decide +kernel
theorem dX7_number_18 : decode cX7_number 18 = .ok (.isub, 1) := by decide +kernel
theorem dX7_number_19 : decode cX7_number 19 = .ok (.istore_n 3, 1) := by decide +kernel
theorem dX7_number_20 : decode cX7_number 20 = .ok (.aload_n 0, 1) := by decide +kernel
theorem dX7_number_21 : decode cX7_number 21 = .ok (.getfield 179, 3) := by decide +kernel
theorem dX7_number_24 : decode cX7_number 24 = .ok (.ifCond .ne 38, 3) := by decide +kernel
theorem dX7_number_27 : decode cX7_number 27 = .ok (.iload_n 2, 1) := by decide +kernel
theorem dX7_number_28 : decode cX7_number 28 = .ok (.ifCond .le 34, 3) := by decide +kernel
theorem dX7_number_31 : decode cX7_number 31 = .ok (.aload_n 0, 1) := by decide +kernel
theorem dX7_number_32 : decode cX7_number 32 = .ok (.invokevirtual 183, 3) := by decide +kernel
theorem dX7_number_35 : decode cX7_number 35 = .ok (.bipush 48, 2) := by decide +kernel
theorem dX7_number_37 : decode cX7_number 37 = .ok (.bipush 57, 2) := by decide +kernel
theorem dX7_number_39 : decode cX7_number 39 = .ok (.invokestatic 54, 3) := by decide +kernel
theorem dX7_number_42 : decode cX7_number 42 = .ok (.ifCond .eq 20, 3) := by decide +kernel
theorem dX7_number_45 : decode cX7_number 45 = .ok (.iload_n 3, 1) := by decide +kernel
theorem dX7_number_46 : decode cX7_number 46 = .ok (.iload_n 1, 1) := by decide +kernel
theorem dX7_number_47 : decode cX7_number 47 = .ok (.if_icmp .gt 15, 3) := by decide +kernel
theorem dX7_number_50 : decode cX7_number 50 = .ok (.aload_n 0, 1) := by decide +kernel
theorem dX7_number_51 : decode cX7_number 51 = .ok (.dup, 1) := by decide +kernel
theorem dX7_number_52 : decode cX7_number 52 = .ok (.getfield 176, 3) := by decide +kernel
theorem dX7_number_55 : decode cX7_number 55 = .ok (.iconst 1, 1) := by decide +kernel
theorem dX7_number_56 : decode cX7_number 56 = .ok (.iadd, 1) := by decide +kernel
theorem dX7_number_57 : decode cX7_number 57 = .ok (.putfield 176, 3) := by decide +kernel
theorem dX7_number_60 : decode cX7_number 60 = .ok (.iload_n 3, 1) := by decide +kernel
theorem dX7_number_61 : decode cX7_number 61 = .ok (.ireturn, 1) := by decide +kernel
theorem dX7_number_62 : decode cX7_number 62 = .ok (.iload_n 2, 1) := by decide +kernel
theorem dX7_number_63 : decode cX7_number 63 = .ok (.ireturn, 1) := by decide +kernel
theorem dX7_command_0 : decode cX7_command 0 = .ok (.aload_n 0, 1) := by decide +kernel
theorem dX7_command_1 : decode cX7_command 1 = .ok (.aload_n 0, 1) := by decide +kernel
theorem dX7_command_2 : decode cX7_command 2 = .ok (.iconst 1, 1) := by decide +kernel
theorem dX7_command_3 : decode cX7_command 3 = .ok (.invokevirtual 186, 3) := by decide +kernel
theorem dX7_command_6 : decode cX7_command 6 = .ok (.putfield 189, 3) := by decide +kernel
theorem dX7_command_9 : decode cX7_command 9 = .ok (.aload_n 0, 1) := by decide +kernel
theorem dX7_command_10 : decode cX7_command 10 = .ok (.aload_n 0, 1) := by decide +kernel
theorem dX7_command_11 : decode cX7_command 11 = .ok (.getfield 179, 3) := by decide +kernel
theorem dX7_command_14 : decode cX7_command 14 = .ok (.ifCond .eq 7, 3) := by decide +kernel
theorem dX7_command_17 : decode cX7_command 17 = .ok (.iconst 0, 1) := by decide +kernel
theorem dX7_command_18 : decode cX7_command 18 = .ok (.goto 7, 3) := by decide +kernel
theorem dX7_command_21 : decode cX7_command 21 = .ok (.aload_n 0, 1) := by decide +kernel
theorem dX7_command_22 : decode cX7_command 22 = .ok (.invokevirtual 183, 3) := by decide +kernel
theorem dX7_command_25 : decode cX7_command 25 = .ok (.putfield 192, 3) := by decide +kernel
theorem dX7_command_28 : decode cX7_command 28 = .ok (.aload_n 0, 1) := by decide +kernel
theorem dX7_command_29 : decode cX7_command 29 = .ok (.aload_n 0, 1) := by decide +kernel
theorem dX7_command_30 : decode cX7_command 30 = .ok (.getfield 179, 3) := by decide +kernel
theorem dX7_command_33 : decode cX7_command 33 = .ok (.ifCond .ne 39, 3) := by decide +kernel
theorem dX7_command_36 : decode cX7_command 36 = .ok (.aload_n 0, 1) := by decide +kernel
theorem dX7_command_37 : decode cX7_command 37 = .ok (.getfield 192, 3) := by decide +kernel
theorem dX7_command_40 : decode cX7_command 40 = .ok (.bipush 101, 2) := by decide +kernel
theorem dX7_command_42 : decode cX7_command 42 = .ok (.if_icmp .eq 34, 3) := by decide +kernel
theorem dX7_command_45 : decode cX7_command 45 = .ok (.aload_n 0, 1) := by decide +kernel
theorem dX7_command_46 : decode cX7_command 46 = .ok (.getfield 192, 3) := by decide +kernel
theorem dX7_command_49 : decode cX7_command 49 = .ok (.bipush 109, 2) := by decide +kernel
theorem dX7_command_51 : decode cX7_command 51 = .ok (.if_icmp .eq 25, 3) := by decide +kernel
theorem dX7_command_54 : decode cX7_command 54 = .ok (.aload_n 0, 1) := by decide +kernel
theorem dX7_command_55 : decode cX7_command 55 = .ok (.getfield 192, 3) := by decide +kernel
theorem dX7_command_58 : decode cX7_command 58 = .ok (.bipush 105, 2) := by decide +kernel
theorem dX7_command_60 : decode cX7_command 60 = .ok (.if_icmp .eq 16, 3) := by decide +kernel
theorem dX7_command_63 : decode cX7_command 63 = .ok (.aload_n 0, 1) := by decide +kernel
theorem dX7_command_64 : decode cX7_command 64 = .ok (.getfield 192, 3) := by decide +kernel
theorem dX7_command_67 : decode cX7_command 67 = .ok (.bipush 114, 2) := by decide +kernel
theorem dX7_command_69 : decode cX7_command 69 = .ok (.if_icmp .eq 7, 3) := by decide +kernel
theorem dX7_command_72 : decode cX7_command 72 = .ok (.iconst 1, 1) := by decide +kernel
theorem dX7_command_73 : decode cX7_command 73 = .ok (.goto 4, 3) := by decide +kernel
theorem dX7_command_76 : decode cX7_command 76 = .ok (.iconst 0, 1) := by decide +kernel
theorem dX7_command_77 : decode cX7_command 77 = .ok (.putfield 179, 3) := by decide +kernel
theorem dX7_command_80 : decode cX7_command 80 = .ok (.aload_n 0, 1) := by decide +kernel
theorem dX7_command_81 : decode cX7_command 81 = .ok (.dup, 1) := by decide +kernel
theorem dX7_command_82 : decode cX7_command 82 = .ok (.getfield 176, 3) := by decide +kernel
theorem dX7_command_85 : decode cX7_command 85 = .ok (.aload_n 0, 1) := by decide +kernel
theorem dX7_command_86 : decode cX7_command 86 = .ok (.getfield 179, 3) := by decide +kernel
theorem dX7_command_89 : decode cX7_command 89 = .ok (.ifCond .eq 7, 3) := by decide +kernel
theorem dX7_command_92 : decode cX7_command 92 = .ok (.iconst 0, 1) := by decide +kernel
theorem dX7_command_93 : decode cX7_command 93 = .ok (.goto 4, 3) := by decide +kernel
theorem dX7_command_96 : decode cX7_command 96 = .ok (.iconst 1, 1) := by decide +kernel
theorem dX7_command_97 : decode cX7_command 97 = .ok (.iadd, 1) := by decide +kernel
theorem dX7_command_98 : decode cX7_command 98 = .ok (.putfield 176, 3) := by decide +kernel
theorem dX7_command_101 : decode cX7_command 101 = .ok (.aload_n 0, 1) := by decide +kernel
theorem dX7_command_102 : decode cX7_command 102 = .ok (.aload_n 0, 1) := by decide +kernel
theorem dX7_command_103 : decode cX7_command 103 = .ok (.bipush 15, 2) := by decide +kernel
theorem dX7_command_105 : decode cX7_command 105 = .ok (.invokevirtual 195, 3) := by decide +kernel
theorem dX7_command_108 : decode cX7_command 108 = .ok (.putfield 198, 3) := by decide +kernel
theorem dX7_command_111 : decode cX7_command 111 = .ok (.aload_n 0, 1) := by decide +kernel
theorem dX7_command_112 : decode cX7_command 112 = .ok (.getfield 192, 3) := by decide +kernel
theorem dX7_command_115 : decode cX7_command 115 = .ok (.bipush 109, 2) := by decide +kernel
theorem dX7_command_117 : decode cX7_command 117 = .ok (.if_icmp .ne 22, 3) := by decide +kernel
theorem dX7_command_120 : decode cX7_command 120 = .ok (.aload_n 0, 1) := by decide +kernel
theorem dX7_command_121 : decode cX7_command 121 = .ok (.bipush 62, 2) := by decide +kernel
theorem dX7_command_123 : decode cX7_command 123 = .ok (.invokevirtual 201, 3) := by decide +kernel
theorem dX7_command_126 : decode cX7_command 126 = .ok (.aload_n 0, 1) := by decide +kernel
theorem dX7_command_127 : decode cX7_command 127 = .ok (.aload_n 0, 1) := by decide +kernel
theorem dX7_command_128 : decode cX7_command 128 = .ok (.bipush 15, 2) := by decide +kernel
theorem dX7_command_130 : decode cX7_command 130 = .ok (.invokevirtual 195, 3) := by decide +kernel
theorem dX7_command_133 : decode cX7_command 133 = .ok (.putfield 204, 3) := by decide +kernel
theorem dX7_command_136 : decode cX7_command 136 = .ok (.goto 28, 3) := by decide +kernel
theorem dX7_command_139 : decode cX7_command 139 = .ok (.aload_n 0, 1) := by decide +kernel
theorem dX7_command_140 : decode cX7_command 140 = .ok (.getfield 192, 3) := by decide +kernel
theorem dX7_command_143 : decode cX7_command 143 = .ok (.bipush 114, 2) := by decide +kernel
theorem dX7_command_145 : decode cX7_command 145 = .ok (.if_icmp .eq 19, 3) := by decide +kernel
theorem dX7_command_148 : decode cX7_command 148 = .ok (.aload_n 0, 1) := by decide +kernel
theorem dX7_command_149 : decode cX7_command 149 = .ok (.bipush 61, 2) := by decide +kernel
theorem dX7_command_151 : decode cX7_command 151 = .ok (.invokevirtual 201, 3) := by decide +kernel
theorem dX7_command_154 : decode cX7_command 154 = .ok (.aload_n 0, 1) := by decide +kernel
theorem dX7_command_155 : decode cX7_command 155 = .ok (.aload_n 0, 1) := by decide +kernel
theorem dX7_command_156 : decode cX7_command 156 = .ok (.bipush 99, 2) := by decide +kernel
theorem dX7_command_158 : decode cX7_command 158 = .ok (.invokevirtual 195, 3) := by decide +kernel
theorem dX7_command_161 : decode cX7_command 161 = .ok (.putfield 204, 3) := by decide +kernel
theorem dX7_command_164 : decode cX7_command 164 = .ok (.return_, 1) := by decide +kernel
theorem dX7_isWhole_0 : decode cX7_isWhole 0 = .ok (.aload_n 0, 1) := by decide +kernel
theorem dX7_isWhole_1 : decode cX7_isWhole 1 = .ok (.iconst 0, 1) := by decide +kernel
theorem dX7_isWhole_2 : decode cX7_isWhole 2 = .ok (.putfield 176, 3) := by decide +kernel
theorem dX7_isWhole_5 : decode cX7_isWhole 5 = .ok (.aload_n 0, 1) := by decide +kernel
theorem dX7_isWhole_6 : decode cX7_isWhole 6 = .ok (.iconst 0, 1) := by decide +kernel
theorem dX7_isWhole_7 : decode cX7_isWhole 7 = .ok (.putfield 179, 3) := by decide +kernel
theorem dX7_isWhole_10 : decode cX7_isWhole 10 = .ok (.iconst 1, 1) := by decide +kernel
theorem dX7_isWhole_11 : decode cX7_isWhole 11 = .ok (.istore_n 1, 1) := by decide +kernel
theorem dX7_isWhole_12 : decode cX7_isWhole 12 = .ok (.iload_n 1, 1) := by decide +kernel
theorem dX7_isWhole_13 : decode cX7_isWhole 13 = .ok (.ifCond .eq 57, 3) := by decide +kernel
theorem dX7_isWhole_16 : decode cX7_isWhole 16 = .ok (.aload_n 0, 1) := by decide +kernel
theorem dX7_isWhole_17 : decode cX7_isWhole 17 = .ok (.invokevirtual 207, 3) := by decide +kernel
theorem dX7_isWhole_20 : decode cX7_isWhole 20 = .ok (.aload_n 0, 1) := by decide +kernel
theorem dX7_isWhole_21 : decode cX7_isWhole 21 = .ok (.getfield 179, 3) := by decide +kernel
theorem dX7_isWhole_24 : decode cX7_isWhole 24 = .ok (.ifCond .ne 18, 3) := by decide +kernel
theorem dX7_isWhole_27 : decode cX7_isWhole 27 = .ok (.aload_n 0, 1) := by decide +kernel
theorem dX7_isWhole_28 : decode cX7_isWhole 28 = .ok (.getfield 176, 3) := by decide +kernel
theorem dX7_isWhole_31 : decode cX7_isWhole 31 = .ok (.aload_n 0, 1) := by decide +kernel
theorem dX7_isWhole_32 : decode cX7_isWhole 32 = .ok (.getfield 173, 3) := by decide +kernel
theorem dX7_isWhole_35 : decode cX7_isWhole 35 = .ok (.if_icmp .ge 7, 3) := by decide +kernel
theorem dX7_isWhole_38 : decode cX7_isWhole 38 = .ok (.iconst 1, 1) := by decide +kernel
theorem dX7_isWhole_39 : decode cX7_isWhole 39 = .ok (.goto 4, 3) := by decide +kernel
theorem dX7_isWhole_42 : decode cX7_isWhole 42 = .ok (.iconst 0, 1) := by decide +kernel
theorem dX7_isWhole_43 : decode cX7_isWhole 43 = .ok (.istore_n 1, 1) := by decide +kernel
theorem dX7_isWhole_44 : decode cX7_isWhole 44 = .ok (.iload_n 1, 1) := by decide +kernel
theorem dX7_isWhole_45 : decode cX7_isWhole 45 = .ok (.ifCond .eq (-33), 3) := by decide +kernel
theorem dX7_isWhole_48 : decode cX7_isWhole 48 = .ok (.aload_n 0, 1) := by decide +kernel
theorem dX7_isWhole_49 : decode cX7_isWhole 49 = .ok (.bipush 59, 2) := by decide +kernel
theorem dX7_isWhole_51 : decode cX7_isWhole 51 = .ok (.invokevirtual 201, 3) := by decide +kernel
theorem dX7_isWhole_54 : decode cX7_isWhole 54 = .ok (.aload_n 0, 1) := by decide +kernel
theorem dX7_isWhole_55 : decode cX7_isWhole 55 = .ok (.getfield 179, 3) := by decide +kernel
theorem dX7_isWhole_58 : decode cX7_isWhole 58 = .ok (.ifCond .ne 7, 3) := by decide +kernel
theorem dX7_isWhole_61 : decode cX7_isWhole 61 = .ok (.iconst 1, 1) := by decide +kernel
theorem dX7_isWhole_62 : decode cX7_isWhole 62 = .ok (.goto 4, 3) := by decide +kernel
theorem dX7_isWhole_65 : decode cX7_isWhole 65 = .ok (.iconst 0, 1) := by decide +kernel
theorem dX7_isWhole_66 : decode cX7_isWhole 66 = .ok (.istore_n 1, 1) := by decide +kernel
theorem dX7_isWhole_67 : decode cX7_isWhole 67 = .ok (.goto (-55), 3) := by decide +kernel
theorem dX7_isWhole_70 : decode cX7_isWhole 70 = .ok (.aload_n 0, 1) := by decide +kernel
theorem dX7_isWhole_71 : decode cX7_isWhole 71 = .ok (.getfield 179, 3) := by decide +kernel
theorem dX7_isWhole_74 : decode cX7_isWhole 74 = .ok (.ifCond .ne 7, 3) := by decide +kernel
theorem dX7_isWhole_77 : decode cX7_isWhole 77 = .ok (.iconst 1, 1) := by decide +kernel
theorem dX7_isWhole_78 : decode cX7_isWhole 78 = .ok (.goto 4, 3) := by decide +kernel
theorem dX7_isWhole_81 : decode cX7_isWhole 81 = .ok (.iconst 0, 1) := by decide +kernel
theorem dX7_isWhole_82 : decode cX7_isWhole 82 = .ok (.ireturn, 1) := by decide +kernel
theorem dX7_firstError_0 : decode cX7_firstError 0 = .ok (.aload_n 0, 1) := by decide +kernel
theorem dX7_firstError_1 : decode cX7_firstError 1 = .ok (.iconst 0, 1) := by decide +kernel
theorem dX7_firstError_2 : decode cX7_firstError 2 = .ok (.putfield 48, 3) := by decide +kernel
theorem dX7_firstError_5 : decode cX7_firstError 5 = .ok (.aload_n 0, 1) := by decide +kernel
theorem dX7_firstError_6 : decode cX7_firstError 6 = .ok (.invokevirtual 210, 3) := by decide +kernel
theorem dX7_firstError_9 : decode cX7_firstError 9 = .ok (.istore_n 1, 1) := by decide +kernel
theorem dX7_firstError_10 : decode cX7_firstError 10 = .ok (.iload_n 1, 1) := by decide +kernel
theorem dX7_firstError_11 : decode cX7_firstError 11 = .ok (.ifCond .eq 10, 3) := by decide +kernel
theorem dX7_firstError_14 : decode cX7_firstError 14 = .ok (.aload_n 0, 1) := by decide +kernel
theorem dX7_firstError_15 : decode cX7_firstError 15 = .ok (.getfield 173, 3) := by decide +kernel
theorem dX7_firstError_18 : decode cX7_firstError 18 = .ok (.goto 7, 3) := by decide +kernel
theorem dX7_firstError_21 : decode cX7_firstError 21 = .ok (.aload_n 0, 1) := by decide +kernel
theorem dX7_firstError_22 : decode cX7_firstError 22 = .ok (.getfield 176, 3) := by decide +kernel
theorem dX7_firstError_25 : decode cX7_firstError 25 = .ok (.ireturn, 1) := by decide +kernel
theorem dX7_bars_0 : decode cX7_bars 0 = .ok (.aload_n 0, 1) := by decide +kernel
theorem dX7_bars_1 : decode cX7_bars 1 = .ok (.getfield 192, 3) := by decide +kernel
theorem dX7_bars_4 : decode cX7_bars 4 = .ok (.lookupswitch 87 #[(101, 36), (105, 70), (109, 53)], 36) := by decide +kernel
theorem dX7_bars_40 : decode cX7_bars 40 = .ok (.aload_n 0, 1) := by decide +kernel
theorem dX7_bars_41 : decode cX7_bars 41 = .ok (.aload_n 0, 1) := by decide +kernel
theorem dX7_bars_42 : decode cX7_bars 42 = .ok (.getfield 189, 3) := by decide +kernel
theorem dX7_bars_45 : decode cX7_bars 45 = .ok (.aload_n 0, 1) := by decide +kernel
theorem dX7_bars_46 : decode cX7_bars 46 = .ok (.getfield 198, 3) := by decide +kernel
theorem dX7_bars_49 : decode cX7_bars 49 = .ok (.aload_n 0, 1) := by decide +kernel
theorem dX7_bars_50 : decode cX7_bars 50 = .ok (.getfield 204, 3) := by decide +kernel
theorem dX7_bars_53 : decode cX7_bars 53 = .ok (.invokevirtual 106, 3) := by decide +kernel
theorem dX7_bars_56 : decode cX7_bars 56 = .ok (.ireturn, 1) := by decide +kernel
theorem dX7_bars_57 : decode cX7_bars 57 = .ok (.aload_n 0, 1) := by decide +kernel
theorem dX7_bars_58 : decode cX7_bars 58 = .ok (.aload_n 0, 1) := by decide +kernel
theorem dX7_bars_59 : decode cX7_bars 59 = .ok (.getfield 189, 3) := by decide +kernel
theorem dX7_bars_62 : decode cX7_bars 62 = .ok (.aload_n 0, 1) := by decide +kernel
theorem dX7_bars_63 : decode cX7_bars 63 = .ok (.getfield 198, 3) := by decide +kernel
theorem dX7_bars_66 : decode cX7_bars 66 = .ok (.aload_n 0, 1) := by decide +kernel
theorem dX7_bars_67 : decode cX7_bars 67 = .ok (.getfield 204, 3) := by decide +kernel
theorem dX7_bars_70 : decode cX7_bars 70 = .ok (.invokevirtual 113, 3) := by decide +kernel
theorem dX7_bars_73 : decode cX7_bars 73 = .ok (.ireturn, 1) := by decide +kernel
theorem dX7_bars_74 : decode cX7_bars 74 = .ok (.aload_n 0, 1) := by decide +kernel
theorem dX7_bars_75 : decode cX7_bars 75 = .ok (.aload_n 0, 1) := by decide +kernel
theorem dX7_bars_76 : decode cX7_bars 76 = .ok (.getfield 189, 3) := by decide +kernel
theorem dX7_bars_79 : decode cX7_bars 79 = .ok (.aload_n 0, 1) := by decide +kernel
theorem dX7_bars_80 : decode cX7_bars 80 = .ok (.getfield 198, 3) := by decide +kernel
theorem dX7_bars_83 : decode cX7_bars 83 = .ok (.aload_n 0, 1) := by decide +kernel
theorem dX7_bars_84 : decode cX7_bars 84 = .ok (.getfield 204, 3) := by decide +kernel
theorem dX7_bars_87 : decode cX7_bars 87 = .ok (.invokevirtual 119, 3) := by decide +kernel
theorem dX7_bars_90 : decode cX7_bars 90 = .ok (.ireturn, 1) := by decide +kernel
theorem dX7_bars_91 : decode cX7_bars 91 = .ok (.aload_n 0, 1) := by decide +kernel
theorem dX7_bars_92 : decode cX7_bars 92 = .ok (.aload_n 0, 1) := by decide +kernel
theorem dX7_bars_93 : decode cX7_bars 93 = .ok (.getfield 189, 3) := by decide +kernel
theorem dX7_bars_96 : decode cX7_bars 96 = .ok (.aload_n 0, 1) := by decide +kernel
theorem dX7_bars_97 : decode cX7_bars 97 = .ok (.getfield 198, 3) := by decide +kernel
theorem dX7_bars_100 : decode cX7_bars 100 = .ok (.invokevirtual 125, 3) := by decide +kernel
theorem dX7_bars_103 : decode cX7_bars 103 = .ok (.ireturn, 1) := by decide +kernel
theorem dX7_does_0 : decode cX7_does 0 = .ok (.aload_n 0, 1) := by decide +kernel
theorem dX7_does_1 : decode cX7_does 1 = .ok (.getfield 192, 3) := by decide +kernel
theorem dX7_does_4 : decode cX7_does 4 = .ok (.lookupswitch 87 #[(101, 36), (105, 70), (109, 53)], 36) := by decide +kernel
theorem dX7_does_40 : decode cX7_does 40 = .ok (.aload_n 0, 1) := by decide +kernel
theorem dX7_does_41 : decode cX7_does 41 = .ok (.aload_n 0, 1) := by decide +kernel
theorem dX7_does_42 : decode cX7_does 42 = .ok (.getfield 189, 3) := by decide +kernel
theorem dX7_does_45 : decode cX7_does 45 = .ok (.aload_n 0, 1) := by decide +kernel
theorem dX7_does_46 : decode cX7_does 46 = .ok (.getfield 198, 3) := by decide +kernel
theorem dX7_does_49 : decode cX7_does 49 = .ok (.aload_n 0, 1) := by decide +kernel
theorem dX7_does_50 : decode cX7_does 50 = .ok (.getfield 204, 3) := by decide +kernel
theorem dX7_does_53 : decode cX7_does 53 = .ok (.invokevirtual 110, 3) := by decide +kernel
theorem dX7_does_56 : decode cX7_does 56 = .ok (.ireturn, 1) := by decide +kernel
theorem dX7_does_57 : decode cX7_does 57 = .ok (.aload_n 0, 1) := by decide +kernel
theorem dX7_does_58 : decode cX7_does 58 = .ok (.aload_n 0, 1) := by decide +kernel
theorem dX7_does_59 : decode cX7_does 59 = .ok (.getfield 189, 3) := by decide +kernel
theorem dX7_does_62 : decode cX7_does 62 = .ok (.aload_n 0, 1) := by decide +kernel
theorem dX7_does_63 : decode cX7_does 63 = .ok (.getfield 198, 3) := by decide +kernel
theorem dX7_does_66 : decode cX7_does 66 = .ok (.aload_n 0, 1) := by decide +kernel
theorem dX7_does_67 : decode cX7_does 67 = .ok (.getfield 204, 3) := by decide +kernel
theorem dX7_does_70 : decode cX7_does 70 = .ok (.invokevirtual 116, 3) := by decide +kernel
theorem dX7_does_73 : decode cX7_does 73 = .ok (.ireturn, 1) := by decide +kernel
theorem dX7_does_74 : decode cX7_does 74 = .ok (.aload_n 0, 1) := by decide +kernel
theorem dX7_does_75 : decode cX7_does 75 = .ok (.aload_n 0, 1) := by decide +kernel
theorem dX7_does_76 : decode cX7_does 76 = .ok (.getfield 189, 3) := by decide +kernel
theorem dX7_does_79 : decode cX7_does 79 = .ok (.aload_n 0, 1) := by decide +kernel
theorem dX7_does_80 : decode cX7_does 80 = .ok (.getfield 198, 3) := by decide +kernel
theorem dX7_does_83 : decode cX7_does 83 = .ok (.aload_n 0, 1) := by decide +kernel
theorem dX7_does_84 : decode cX7_does 84 = .ok (.getfield 204, 3) := by decide +kernel
theorem dX7_does_87 : decode cX7_does 87 = .ok (.invokevirtual 122, 3) := by decide +kernel
theorem dX7_does_90 : decode cX7_does 90 = .ok (.ireturn, 1) := by decide +kernel
theorem dX7_does_91 : decode cX7_does 91 = .ok (.aload_n 0, 1) := by decide +kernel
theorem dX7_does_92 : decode cX7_does 92 = .ok (.aload_n 0, 1) := by decide +kernel
theorem dX7_does_93 : decode cX7_does 93 = .ok (.getfield 189, 3) := by decide +kernel
theorem dX7_does_96 : decode cX7_does 96 = .ok (.aload_n 0, 1) := by decide +kernel
theorem dX7_does_97 : decode cX7_does 97 = .ok (.getfield 198, 3) := by decide +kernel
theorem dX7_does_100 : decode cX7_does 100 = .ok (.invokevirtual 128, 3) := by decide +kernel
theorem dX7_does_103 : decode cX7_does 103 = .ok (.ireturn, 1) := by decide +kernel
theorem dX7_run_0 : decode cX7_run 0 = .ok (.aload_n 0, 1) := by decide +kernel
theorem dX7_run_1 : decode cX7_run 1 = .ok (.aload_n 0, 1) := by decide +kernel
theorem dX7_run_2 : decode cX7_run 2 = .ok (.invokevirtual 210, 3) := by decide +kernel
theorem dX7_run_5 : decode cX7_run 5 = .ok (.ifCond .eq 7, 3) := by decide +kernel
theorem dX7_run_8 : decode cX7_run 8 = .ok (.iconst 0, 1) := by decide +kernel
theorem dX7_run_9 : decode cX7_run 9 = .ok (.goto 4, 3) := by decide +kernel
theorem dX7_run_12 : decode cX7_run 12 = .ok (.iconst 1, 1) := by decide +kernel
theorem dX7_run_13 : decode cX7_run 13 = .ok (.invokevirtual 89, 3) := by decide +kernel
theorem dX7_run_16 : decode cX7_run 16 = .ok (.ifCond .eq 5, 3) := by decide +kernel
theorem dX7_run_19 : decode cX7_run 19 = .ok (.iconst 0, 1) := by decide +kernel
theorem dX7_run_20 : decode cX7_run 20 = .ok (.ireturn, 1) := by decide +kernel
theorem dX7_run_21 : decode cX7_run 21 = .ok (.aload_n 0, 1) := by decide +kernel
theorem dX7_run_22 : decode cX7_run 22 = .ok (.invokevirtual 92, 3) := by decide +kernel
theorem dX7_run_25 : decode cX7_run 25 = .ok (.iconst 0, 1) := by decide +kernel
theorem dX7_run_26 : decode cX7_run 26 = .ok (.istore_n 1, 1) := by decide +kernel
theorem dX7_run_27 : decode cX7_run 27 = .ok (.aload_n 0, 1) := by decide +kernel
theorem dX7_run_28 : decode cX7_run 28 = .ok (.iconst 0, 1) := by decide +kernel
theorem dX7_run_29 : decode cX7_run 29 = .ok (.putfield 176, 3) := by decide +kernel
theorem dX7_run_32 : decode cX7_run 32 = .ok (.iconst 1, 1) := by decide +kernel
theorem dX7_run_33 : decode cX7_run 33 = .ok (.istore_n 2, 1) := by decide +kernel
theorem dX7_run_34 : decode cX7_run 34 = .ok (.iload_n 2, 1) := by decide +kernel
theorem dX7_run_35 : decode cX7_run 35 = .ok (.ifCond .eq 56, 3) := by decide +kernel
theorem dX7_run_38 : decode cX7_run 38 = .ok (.aload_n 0, 1) := by decide +kernel
theorem dX7_run_39 : decode cX7_run 39 = .ok (.getfield 176, 3) := by decide +kernel
theorem dX7_run_42 : decode cX7_run 42 = .ok (.aload_n 0, 1) := by decide +kernel
theorem dX7_run_43 : decode cX7_run 43 = .ok (.getfield 173, 3) := by decide +kernel
theorem dX7_run_46 : decode cX7_run 46 = .ok (.if_icmp .ge 45, 3) := by decide +kernel
theorem dX7_run_49 : decode cX7_run 49 = .ok (.aload_n 0, 1) := by decide +kernel
theorem dX7_run_50 : decode cX7_run 50 = .ok (.invokevirtual 207, 3) := by decide +kernel
theorem dX7_run_53 : decode cX7_run 53 = .ok (.aload_n 0, 1) := by decide +kernel
theorem dX7_run_54 : decode cX7_run 54 = .ok (.dup, 1) := by decide +kernel
theorem dX7_run_55 : decode cX7_run 55 = .ok (.getfield 176, 3) := by decide +kernel
theorem dX7_run_58 : decode cX7_run 58 = .ok (.iconst 1, 1) := by decide +kernel
theorem dX7_run_59 : decode cX7_run 59 = .ok (.iadd, 1) := by decide +kernel
theorem dX7_run_60 : decode cX7_run 60 = .ok (.putfield 176, 3) := by decide +kernel
theorem dX7_run_63 : decode cX7_run 63 = .ok (.aload_n 0, 1) := by decide +kernel
theorem dX7_run_64 : decode cX7_run 64 = .ok (.invokevirtual 214, 3) := by decide +kernel
theorem dX7_run_67 : decode cX7_run 67 = .ok (.ifCond .ne 7, 3) := by decide +kernel
theorem dX7_run_70 : decode cX7_run 70 = .ok (.iconst 1, 1) := by decide +kernel
theorem dX7_run_71 : decode cX7_run 71 = .ok (.goto 4, 3) := by decide +kernel
theorem dX7_run_74 : decode cX7_run 74 = .ok (.iconst 0, 1) := by decide +kernel
theorem dX7_run_75 : decode cX7_run 75 = .ok (.istore_n 2, 1) := by decide +kernel
theorem dX7_run_76 : decode cX7_run 76 = .ok (.iload_n 2, 1) := by decide +kernel
theorem dX7_run_77 : decode cX7_run 77 = .ok (.ifCond .eq (-43), 3) := by decide +kernel
theorem dX7_run_80 : decode cX7_run 80 = .ok (.aload_n 0, 1) := by decide +kernel
theorem dX7_run_81 : decode cX7_run 81 = .ok (.invokevirtual 217, 3) := by decide +kernel
theorem dX7_run_84 : decode cX7_run 84 = .ok (.istore_n 3, 1) := by decide +kernel
theorem dX7_run_85 : decode cX7_run 85 = .ok (.iinc 1 1, 3) := by decide +kernel
theorem dX7_run_88 : decode cX7_run 88 = .ok (.goto (-54), 3) := by decide +kernel
theorem dX7_run_91 : decode cX7_run 91 = .ok (.aload_n 0, 1) := by decide +kernel
theorem dX7_run_92 : decode cX7_run 92 = .ok (.iconst 0, 1) := by decide +kernel
theorem dX7_run_93 : decode cX7_run 93 = .ok (.putfield 173, 3) := by decide +kernel
theorem dX7_run_96 : decode cX7_run 96 = .ok (.iload_n 1, 1) := by decide +kernel
theorem dX7_run_97 : decode cX7_run 97 = .ok (.ireturn, 1) := by decide +kernel
theorem dX7_undo_0 : decode cX7_undo 0 = .ok (.aload_n 0, 1) := by decide +kernel
theorem dX7_undo_1 : decode cX7_undo 1 = .ok (.aload_n 0, 1) := by decide +kernel
theorem dX7_undo_2 : decode cX7_undo 2 = .ok (.getfield 51, 3) := by decide +kernel
theorem dX7_undo_5 : decode cX7_undo 5 = .ok (.ifCond .ne 7, 3) := by decide +kernel
theorem dX7_undo_8 : decode cX7_undo 8 = .ok (.iconst 1, 1) := by decide +kernel
theorem dX7_undo_9 : decode cX7_undo 9 = .ok (.goto 4, 3) := by decide +kernel
theorem dX7_undo_12 : decode cX7_undo 12 = .ok (.iconst 0, 1) := by decide +kernel
theorem dX7_undo_13 : decode cX7_undo 13 = .ok (.invokevirtual 89, 3) := by decide +kernel
theorem dX7_undo_16 : decode cX7_undo 16 = .ok (.ifCond .eq 5, 3) := by decide +kernel
theorem dX7_undo_19 : decode cX7_undo 19 = .ok (.iconst 0, 1) := by decide +kernel
theorem dX7_undo_20 : decode cX7_undo 20 = .ok (.ireturn, 1) := by decide +kernel
theorem dX7_undo_21 : decode cX7_undo 21 = .ok (.aload_n 0, 1) := by decide +kernel
theorem dX7_undo_22 : decode cX7_undo 22 = .ok (.dup, 1) := by decide +kernel
theorem dX7_undo_23 : decode cX7_undo 23 = .ok (.getfield 51, 3) := by decide +kernel
theorem dX7_undo_26 : decode cX7_undo 26 = .ok (.iconst 1, 1) := by decide +kernel
theorem dX7_undo_27 : decode cX7_undo 27 = .ok (.isub, 1) := by decide +kernel
theorem dX7_undo_28 : decode cX7_undo 28 = .ok (.putfield 51, 3) := by decide +kernel
theorem dX7_undo_31 : decode cX7_undo 31 = .ok (.iconst 0, 1) := by decide +kernel
theorem dX7_undo_32 : decode cX7_undo 32 = .ok (.istore_n 1, 1) := by decide +kernel
theorem dX7_undo_33 : decode cX7_undo 33 = .ok (.iload_n 1, 1) := by decide +kernel
theorem dX7_undo_34 : decode cX7_undo 34 = .ok (.bipush 106, 2) := by decide +kernel
theorem dX7_undo_36 : decode cX7_undo 36 = .ok (.if_icmp .ge 29, 3) := by decide +kernel
theorem dX7_undo_39 : decode cX7_undo 39 = .ok (.aload_n 0, 1) := by decide +kernel
theorem dX7_undo_40 : decode cX7_undo 40 = .ok (.getfield 7, 3) := by decide +kernel
theorem dX7_undo_43 : decode cX7_undo 43 = .ok (.iload_n 1, 1) := by decide +kernel
theorem dX7_undo_44 : decode cX7_undo 44 = .ok (.aload_n 0, 1) := by decide +kernel
theorem dX7_undo_45 : decode cX7_undo 45 = .ok (.getfield 13, 3) := by decide +kernel
theorem dX7_undo_48 : decode cX7_undo 48 = .ok (.bipush 106, 2) := by decide +kernel
theorem dX7_undo_50 : decode cX7_undo 50 = .ok (.aload_n 0, 1) := by decide +kernel
theorem dX7_undo_51 : decode cX7_undo 51 = .ok (.getfield 51, 3) := by decide +kernel
theorem dX7_undo_54 : decode cX7_undo 54 = .ok (.imul, 1) := by decide +kernel
theorem dX7_undo_55 : decode cX7_undo 55 = .ok (.iload_n 1, 1) := by decide +kernel
theorem dX7_undo_56 : decode cX7_undo 56 = .ok (.iadd, 1) := by decide +kernel
theorem dX7_undo_57 : decode cX7_undo 57 = .ok (.iaload, 1) := by decide +kernel
theorem dX7_undo_58 : decode cX7_undo 58 = .ok (.iastore, 1) := by decide +kernel
theorem dX7_undo_59 : decode cX7_undo 59 = .ok (.iinc 1 1, 3) := by decide +kernel
theorem dX7_undo_62 : decode cX7_undo 62 = .ok (.goto (-29), 3) := by decide +kernel
theorem dX7_undo_65 : decode cX7_undo 65 = .ok (.aload_n 0, 1) := by decide +kernel
theorem dX7_undo_66 : decode cX7_undo 66 = .ok (.getfield 51, 3) := by decide +kernel
theorem dX7_undo_69 : decode cX7_undo 69 = .ok (.ireturn, 1) := by decide +kernel
theorem dX7_savedStates_0 : decode cX7_savedStates 0 = .ok (.aload_n 0, 1) := by decide +kernel
theorem dX7_savedStates_1 : decode cX7_savedStates 1 = .ok (.iconst 0, 1) := by decide +kernel
theorem dX7_savedStates_2 : decode cX7_savedStates 2 = .ok (.putfield 48, 3) := by decide +kernel
theorem dX7_savedStates_5 : decode cX7_savedStates 5 = .ok (.aload_n 0, 1) := by decide +kernel
theorem dX7_savedStates_6 : decode cX7_savedStates 6 = .ok (.getfield 51, 3) := by decide +kernel
theorem dX7_savedStates_9 : decode cX7_savedStates 9 = .ok (.ireturn, 1) := by decide +kernel
theorem dX7_digest_0 : decode cX7_digest 0 = .ok (.aload_n 0, 1) := by decide +kernel
theorem dX7_digest_1 : decode cX7_digest 1 = .ok (.iconst 0, 1) := by decide +kernel
theorem dX7_digest_2 : decode cX7_digest 2 = .ok (.putfield 48, 3) := by decide +kernel
theorem dX7_digest_5 : decode cX7_digest 5 = .ok (.aload_n 0, 1) := by decide +kernel
theorem dX7_digest_6 : decode cX7_digest 6 = .ok (.invokevirtual 166, 3) := by decide +kernel
theorem dX7_digest_9 : decode cX7_digest 9 = .ok (.ldc2_w 220, 3) := by decide +kernel
theorem dX7_digest_12 : decode cX7_digest 12 = .ok (.aload_n 0, 1) := by decide +kernel
theorem dX7_digest_13 : decode cX7_digest 13 = .ok (.getfield 7, 3) := by decide +kernel
theorem dX7_digest_16 : decode cX7_digest 16 = .ok (.iconst 0, 1) := by decide +kernel
theorem dX7_digest_17 : decode cX7_digest 17 = .ok (.iaload, 1) := by decide +kernel
theorem dX7_digest_18 : decode cX7_digest 18 = .ok (.i2l, 1) := by decide +kernel
theorem dX7_digest_19 : decode cX7_digest 19 = .ok (.ladd, 1) := by decide +kernel
theorem dX7_digest_20 : decode cX7_digest 20 = .ok (.lstore_n 1, 1) := by decide +kernel
theorem dX7_digest_21 : decode cX7_digest 21 = .ok (.ldc2_w 222, 3) := by decide +kernel
theorem dX7_digest_24 : decode cX7_digest 24 = .ok (.lload_n 1, 1) := by decide +kernel
theorem dX7_digest_25 : decode cX7_digest 25 = .ok (.lmul, 1) := by decide +kernel
theorem dX7_digest_26 : decode cX7_digest 26 = .ok (.aload_n 0, 1) := by decide +kernel
theorem dX7_digest_27 : decode cX7_digest 27 = .ok (.getfield 44, 3) := by decide +kernel
theorem dX7_digest_30 : decode cX7_digest 30 = .ok (.i2l, 1) := by decide +kernel
theorem dX7_digest_31 : decode cX7_digest 31 = .ok (.ladd, 1) := by decide +kernel
theorem dX7_digest_32 : decode cX7_digest 32 = .ok (.lstore_n 1, 1) := by decide +kernel
theorem dX7_digest_33 : decode cX7_digest 33 = .ok (.ldc2_w 222, 3) := by decide +kernel
theorem dX7_digest_36 : decode cX7_digest 36 = .ok (.lload_n 1, 1) := by decide +kernel
theorem dX7_digest_37 : decode cX7_digest 37 = .ok (.lmul, 1) := by decide +kernel
theorem dX7_digest_38 : decode cX7_digest 38 = .ok (.aload_n 0, 1) := by decide +kernel
theorem dX7_digest_39 : decode cX7_digest 39 = .ok (.getfield 144, 3) := by decide +kernel
theorem dX7_digest_42 : decode cX7_digest 42 = .ok (.i2l, 1) := by decide +kernel
theorem dX7_digest_43 : decode cX7_digest 43 = .ok (.ladd, 1) := by decide +kernel
theorem dX7_digest_44 : decode cX7_digest 44 = .ok (.lstore_n 1, 1) := by decide +kernel
theorem dX7_digest_45 : decode cX7_digest 45 = .ok (.ldc2_w 222, 3) := by decide +kernel
theorem dX7_digest_48 : decode cX7_digest 48 = .ok (.lload_n 1, 1) := by decide +kernel
theorem dX7_digest_49 : decode cX7_digest 49 = .ok (.lmul, 1) := by decide +kernel
theorem dX7_digest_50 : decode cX7_digest 50 = .ok (.aload_n 0, 1) := by decide +kernel
theorem dX7_digest_51 : decode cX7_digest 51 = .ok (.invokevirtual 169, 3) := by decide +kernel
theorem dX7_digest_54 : decode cX7_digest 54 = .ok (.i2l, 1) := by decide +kernel
theorem dX7_digest_55 : decode cX7_digest 55 = .ok (.ladd, 1) := by decide +kernel
theorem dX7_digest_56 : decode cX7_digest 56 = .ok (.lstore_n 1, 1) := by decide +kernel
theorem dX7_digest_57 : decode cX7_digest 57 = .ok (.ldc2_w 222, 3) := by decide +kernel
theorem dX7_digest_60 : decode cX7_digest 60 = .ok (.lload_n 1, 1) := by decide +kernel
theorem dX7_digest_61 : decode cX7_digest 61 = .ok (.lmul, 1) := by decide +kernel
theorem dX7_digest_62 : decode cX7_digest 62 = .ok (.aload_n 0, 1) := by decide +kernel
theorem dX7_digest_63 : decode cX7_digest 63 = .ok (.getfield 7, 3) := by decide +kernel
theorem dX7_digest_66 : decode cX7_digest 66 = .ok (.bipush 105, 2) := by decide +kernel
theorem dX7_digest_68 : decode cX7_digest 68 = .ok (.iaload, 1) := by decide +kernel
theorem dX7_digest_69 : decode cX7_digest 69 = .ok (.i2l, 1) := by decide +kernel
theorem dX7_digest_70 : decode cX7_digest 70 = .ok (.ladd, 1) := by decide +kernel
theorem dX7_digest_71 : decode cX7_digest 71 = .ok (.lstore_n 1, 1) := by decide +kernel
theorem dX7_digest_72 : decode cX7_digest 72 = .ok (.iconst 0, 1) := by decide +kernel
theorem dX7_digest_73 : decode cX7_digest 73 = .ok (.istore_n 3, 1) := by decide +kernel
theorem dX7_digest_74 : decode cX7_digest 74 = .ok (.iload_n 3, 1) := by decide +kernel
theorem dX7_digest_75 : decode cX7_digest 75 = .ok (.iconst 2, 1) := by decide +kernel
theorem dX7_digest_76 : decode cX7_digest 76 = .ok (.if_icmp .ge 71, 3) := by decide +kernel
theorem dX7_digest_79 : decode cX7_digest 79 = .ok (.ldc2_w 222, 3) := by decide +kernel
theorem dX7_digest_82 : decode cX7_digest 82 = .ok (.lload_n 1, 1) := by decide +kernel
theorem dX7_digest_83 : decode cX7_digest 83 = .ok (.lmul, 1) := by decide +kernel
theorem dX7_digest_84 : decode cX7_digest 84 = .ok (.aload_n 0, 1) := by decide +kernel
theorem dX7_digest_85 : decode cX7_digest 85 = .ok (.iload_n 3, 1) := by decide +kernel
theorem dX7_digest_86 : decode cX7_digest 86 = .ok (.invokevirtual 66, 3) := by decide +kernel
theorem dX7_digest_89 : decode cX7_digest 89 = .ok (.i2l, 1) := by decide +kernel
theorem dX7_digest_90 : decode cX7_digest 90 = .ok (.ladd, 1) := by decide +kernel
theorem dX7_digest_91 : decode cX7_digest 91 = .ok (.lstore_n 1, 1) := by decide +kernel
theorem dX7_digest_92 : decode cX7_digest 92 = .ok (.iconst 0, 1) := by decide +kernel
theorem dX7_digest_93 : decode cX7_digest 93 = .ok (.istore 4, 2) := by decide +kernel
theorem dX7_digest_95 : decode cX7_digest 95 = .ok (.iload 4, 2) := by decide +kernel
theorem dX7_digest_97 : decode cX7_digest 97 = .ok (.aload_n 0, 1) := by decide +kernel
theorem dX7_digest_98 : decode cX7_digest 98 = .ok (.iload_n 3, 1) := by decide +kernel
theorem dX7_digest_99 : decode cX7_digest 99 = .ok (.invokevirtual 66, 3) := by decide +kernel
theorem dX7_digest_102 : decode cX7_digest 102 = .ok (.if_icmp .ge 39, 3) := by decide +kernel
theorem dX7_digest_105 : decode cX7_digest 105 = .ok (.ldc2_w 222, 3) := by decide +kernel
theorem dX7_digest_108 : decode cX7_digest 108 = .ok (.lload_n 1, 1) := by decide +kernel
theorem dX7_digest_109 : decode cX7_digest 109 = .ok (.lmul, 1) := by decide +kernel
theorem dX7_digest_110 : decode cX7_digest 110 = .ok (.aload_n 0, 1) := by decide +kernel
theorem dX7_digest_111 : decode cX7_digest 111 = .ok (.iload_n 3, 1) := by decide +kernel
theorem dX7_digest_112 : decode cX7_digest 112 = .ok (.iload 4, 2) := by decide +kernel
theorem dX7_digest_114 : decode cX7_digest 114 = .ok (.invokevirtual 70, 3) := by decide +kernel
theorem dX7_digest_117 : decode cX7_digest 117 = .ok (.i2l, 1) := by decide +kernel
theorem dX7_digest_118 : decode cX7_digest 118 = .ok (.ladd, 1) := by decide +kernel
theorem dX7_digest_119 : decode cX7_digest 119 = .ok (.lstore_n 1, 1) := by decide +kernel
theorem dX7_digest_120 : decode cX7_digest 120 = .ok (.ldc2_w 222, 3) := by decide +kernel
theorem dX7_digest_123 : decode cX7_digest 123 = .ok (.lload_n 1, 1) := by decide +kernel
theorem dX7_digest_124 : decode cX7_digest 124 = .ok (.lmul, 1) := by decide +kernel
theorem dX7_digest_125 : decode cX7_digest 125 = .ok (.aload_n 0, 1) := by decide +kernel
theorem dX7_digest_126 : decode cX7_digest 126 = .ok (.iload_n 3, 1) := by decide +kernel
theorem dX7_digest_127 : decode cX7_digest 127 = .ok (.iload 4, 2) := by decide +kernel
theorem dX7_digest_129 : decode cX7_digest 129 = .ok (.invokevirtual 76, 3) := by decide +kernel
theorem dX7_digest_132 : decode cX7_digest 132 = .ok (.i2l, 1) := by decide +kernel
theorem dX7_digest_133 : decode cX7_digest 133 = .ok (.ladd, 1) := by decide +kernel
theorem dX7_digest_134 : decode cX7_digest 134 = .ok (.lstore_n 1, 1) := by decide +kernel
theorem dX7_digest_135 : decode cX7_digest 135 = .ok (.iinc 4 1, 3) := by decide +kernel
theorem dX7_digest_138 : decode cX7_digest 138 = .ok (.goto (-43), 3) := by decide +kernel
theorem dX7_digest_141 : decode cX7_digest 141 = .ok (.iinc 3 1, 3) := by decide +kernel
theorem dX7_digest_144 : decode cX7_digest 144 = .ok (.goto (-70), 3) := by decide +kernel
theorem dX7_digest_147 : decode cX7_digest 147 = .ok (.iconst 0, 1) := by decide +kernel
theorem dX7_digest_148 : decode cX7_digest 148 = .ok (.istore_n 3, 1) := by decide +kernel
theorem dX7_digest_149 : decode cX7_digest 149 = .ok (.iload_n 3, 1) := by decide +kernel
theorem dX7_digest_150 : decode cX7_digest 150 = .ok (.aload_n 0, 1) := by decide +kernel
theorem dX7_digest_151 : decode cX7_digest 151 = .ok (.getfield 7, 3) := by decide +kernel
theorem dX7_digest_154 : decode cX7_digest 154 = .ok (.iconst 0, 1) := by decide +kernel
theorem dX7_digest_155 : decode cX7_digest 155 = .ok (.iaload, 1) := by decide +kernel
theorem dX7_digest_156 : decode cX7_digest 156 = .ok (.if_icmp .ge 37, 3) := by decide +kernel
theorem dX7_digest_159 : decode cX7_digest 159 = .ok (.ldc2_w 222, 3) := by decide +kernel
theorem dX7_digest_162 : decode cX7_digest 162 = .ok (.lload_n 1, 1) := by decide +kernel
theorem dX7_digest_163 : decode cX7_digest 163 = .ok (.lmul, 1) := by decide +kernel
theorem dX7_digest_164 : decode cX7_digest 164 = .ok (.aload_n 0, 1) := by decide +kernel
theorem dX7_digest_165 : decode cX7_digest 165 = .ok (.iconst 0, 1) := by decide +kernel
theorem dX7_digest_166 : decode cX7_digest 166 = .ok (.iload_n 3, 1) := by decide +kernel
theorem dX7_digest_167 : decode cX7_digest 167 = .ok (.invokevirtual 141, 3) := by decide +kernel
theorem dX7_digest_170 : decode cX7_digest 170 = .ok (.i2l, 1) := by decide +kernel
theorem dX7_digest_171 : decode cX7_digest 171 = .ok (.ladd, 1) := by decide +kernel
theorem dX7_digest_172 : decode cX7_digest 172 = .ok (.lstore_n 1, 1) := by decide +kernel
theorem dX7_digest_173 : decode cX7_digest 173 = .ok (.ldc2_w 222, 3) := by decide +kernel
theorem dX7_digest_176 : decode cX7_digest 176 = .ok (.lload_n 1, 1) := by decide +kernel
theorem dX7_digest_177 : decode cX7_digest 177 = .ok (.lmul, 1) := by decide +kernel
theorem dX7_digest_178 : decode cX7_digest 178 = .ok (.aload_n 0, 1) := by decide +kernel
theorem dX7_digest_179 : decode cX7_digest 179 = .ok (.iconst 1, 1) := by decide +kernel
theorem dX7_digest_180 : decode cX7_digest 180 = .ok (.iload_n 3, 1) := by decide +kernel
theorem dX7_digest_181 : decode cX7_digest 181 = .ok (.invokevirtual 141, 3) := by decide +kernel
theorem dX7_digest_184 : decode cX7_digest 184 = .ok (.i2l, 1) := by decide +kernel
theorem dX7_digest_185 : decode cX7_digest 185 = .ok (.ladd, 1) := by decide +kernel
theorem dX7_digest_186 : decode cX7_digest 186 = .ok (.lstore_n 1, 1) := by decide +kernel
theorem dX7_digest_187 : decode cX7_digest 187 = .ok (.iinc 3 1, 3) := by decide +kernel
theorem dX7_digest_190 : decode cX7_digest 190 = .ok (.goto (-41), 3) := by decide +kernel
theorem dX7_digest_193 : decode cX7_digest 193 = .ok (.iconst 0, 1) := by decide +kernel
theorem dX7_digest_194 : decode cX7_digest 194 = .ok (.istore_n 3, 1) := by decide +kernel
theorem dX7_digest_195 : decode cX7_digest 195 = .ok (.iload_n 3, 1) := by decide +kernel
theorem dX7_digest_196 : decode cX7_digest 196 = .ok (.aload_n 0, 1) := by decide +kernel
theorem dX7_digest_197 : decode cX7_digest 197 = .ok (.getfield 44, 3) := by decide +kernel
theorem dX7_digest_200 : decode cX7_digest 200 = .ok (.if_icmp .ge 37, 3) := by decide +kernel
theorem dX7_digest_203 : decode cX7_digest 203 = .ok (.ldc2_w 222, 3) := by decide +kernel
theorem dX7_digest_206 : decode cX7_digest 206 = .ok (.lload_n 1, 1) := by decide +kernel
theorem dX7_digest_207 : decode cX7_digest 207 = .ok (.lmul, 1) := by decide +kernel
theorem dX7_digest_208 : decode cX7_digest 208 = .ok (.aload_n 0, 1) := by decide +kernel
theorem dX7_digest_209 : decode cX7_digest 209 = .ok (.getfield 23, 3) := by decide +kernel
theorem dX7_digest_212 : decode cX7_digest 212 = .ok (.iload_n 3, 1) := by decide +kernel
theorem dX7_digest_213 : decode cX7_digest 213 = .ok (.iaload, 1) := by decide +kernel
theorem dX7_digest_214 : decode cX7_digest 214 = .ok (.i2l, 1) := by decide +kernel
theorem dX7_digest_215 : decode cX7_digest 215 = .ok (.ladd, 1) := by decide +kernel
theorem dX7_digest_216 : decode cX7_digest 216 = .ok (.lstore_n 1, 1) := by decide +kernel
theorem dX7_digest_217 : decode cX7_digest 217 = .ok (.ldc2_w 222, 3) := by decide +kernel
theorem dX7_digest_220 : decode cX7_digest 220 = .ok (.lload_n 1, 1) := by decide +kernel
theorem dX7_digest_221 : decode cX7_digest 221 = .ok (.lmul, 1) := by decide +kernel
theorem dX7_digest_222 : decode cX7_digest 222 = .ok (.aload_n 0, 1) := by decide +kernel
theorem dX7_digest_223 : decode cX7_digest 223 = .ok (.getfield 26, 3) := by decide +kernel
theorem dX7_digest_226 : decode cX7_digest 226 = .ok (.iload_n 3, 1) := by decide +kernel
theorem dX7_digest_227 : decode cX7_digest 227 = .ok (.iaload, 1) := by decide +kernel
theorem dX7_digest_228 : decode cX7_digest 228 = .ok (.i2l, 1) := by decide +kernel
theorem dX7_digest_229 : decode cX7_digest 229 = .ok (.ladd, 1) := by decide +kernel
theorem dX7_digest_230 : decode cX7_digest 230 = .ok (.lstore_n 1, 1) := by decide +kernel
theorem dX7_digest_231 : decode cX7_digest 231 = .ok (.iinc 3 1, 3) := by decide +kernel
theorem dX7_digest_234 : decode cX7_digest 234 = .ok (.goto (-39), 3) := by decide +kernel
theorem dX7_digest_237 : decode cX7_digest 237 = .ok (.iconst 0, 1) := by decide +kernel
theorem dX7_digest_238 : decode cX7_digest 238 = .ok (.istore_n 3, 1) := by decide +kernel
theorem dX7_digest_239 : decode cX7_digest 239 = .ok (.iload_n 3, 1) := by decide +kernel
theorem dX7_digest_240 : decode cX7_digest 240 = .ok (.aload_n 0, 1) := by decide +kernel
theorem dX7_digest_241 : decode cX7_digest 241 = .ok (.getfield 144, 3) := by decide +kernel
theorem dX7_digest_244 : decode cX7_digest 244 = .ok (.if_icmp .ge 37, 3) := by decide +kernel
theorem dX7_digest_247 : decode cX7_digest 247 = .ok (.ldc2_w 222, 3) := by decide +kernel
theorem dX7_digest_250 : decode cX7_digest 250 = .ok (.lload_n 1, 1) := by decide +kernel
theorem dX7_digest_251 : decode cX7_digest 251 = .ok (.lmul, 1) := by decide +kernel
theorem dX7_digest_252 : decode cX7_digest 252 = .ok (.aload_n 0, 1) := by decide +kernel
theorem dX7_digest_253 : decode cX7_digest 253 = .ok (.getfield 29, 3) := by decide +kernel
theorem dX7_digest_256 : decode cX7_digest 256 = .ok (.iload_n 3, 1) := by decide +kernel
theorem dX7_digest_257 : decode cX7_digest 257 = .ok (.iaload, 1) := by decide +kernel
theorem dX7_digest_258 : decode cX7_digest 258 = .ok (.i2l, 1) := by decide +kernel
theorem dX7_digest_259 : decode cX7_digest 259 = .ok (.ladd, 1) := by decide +kernel
theorem dX7_digest_260 : decode cX7_digest 260 = .ok (.lstore_n 1, 1) := by decide +kernel
theorem dX7_digest_261 : decode cX7_digest 261 = .ok (.ldc2_w 222, 3) := by decide +kernel
theorem dX7_digest_264 : decode cX7_digest 264 = .ok (.lload_n 1, 1) := by decide +kernel
theorem dX7_digest_265 : decode cX7_digest 265 = .ok (.lmul, 1) := by decide +kernel
theorem dX7_digest_266 : decode cX7_digest 266 = .ok (.aload_n 0, 1) := by decide +kernel
theorem dX7_digest_267 : decode cX7_digest 267 = .ok (.getfield 32, 3) := by decide +kernel
theorem dX7_digest_270 : decode cX7_digest 270 = .ok (.iload_n 3, 1) := by decide +kernel
theorem dX7_digest_271 : decode cX7_digest 271 = .ok (.iaload, 1) := by decide +kernel
theorem dX7_digest_272 : decode cX7_digest 272 = .ok (.i2l, 1) := by decide +kernel
theorem dX7_digest_273 : decode cX7_digest 273 = .ok (.ladd, 1) := by decide +kernel
theorem dX7_digest_274 : decode cX7_digest 274 = .ok (.lstore_n 1, 1) := by decide +kernel
theorem dX7_digest_275 : decode cX7_digest 275 = .ok (.iinc 3 1, 3) := by decide +kernel
theorem dX7_digest_278 : decode cX7_digest 278 = .ok (.goto (-39), 3) := by decide +kernel
theorem dX7_digest_281 : decode cX7_digest 281 = .ok (.lload_n 1, 1) := by decide +kernel
theorem dX7_digest_282 : decode cX7_digest 282 = .ok (.lreturn, 1) := by decide +kernel
theorem dL_addBase_0 : decode cL_addBase 0 = .ok (.aload_n 2, 1) := by decide +kernel
theorem dL_addBase_1 : decode cL_addBase 1 = .ok (.iconst 0, 1) := by decide +kernel
theorem dL_addBase_2 : decode cL_addBase 2 = .ok (.aload_n 0, 1) := by decide +kernel
theorem dL_addBase_3 : decode cL_addBase 3 = .ok (.iload_n 1, 1) := by decide +kernel
theorem dL_addBase_4 : decode cL_addBase 4 = .ok (.invokevirtual 7, 3) := by decide +kernel
theorem dL_addBase_7 : decode cL_addBase 7 = .ok (.i2l, 1) := by decide +kernel
theorem dL_addBase_8 : decode cL_addBase 8 = .ok (.lastore, 1) := by decide +kernel
theorem dL_addBase_9 : decode cL_addBase 9 = .ok (.goto 9, 3) := by decide +kernel
theorem dL_addBase_12 : decode cL_addBase 12 = .ok (.astore_n 3, 1) := by decide +kernel
theorem dL_addBase_13 : decode cL_addBase 13 = .ok (.iconst 1, 1) := by decide +kernel
theorem dL_addBase_14 : decode cL_addBase 14 = .ok (.ireturn, 1) := by decide +kernel
theorem dL_addBase_15 : decode cL_addBase 15 = .ok (.astore_n 3, 1) := by decide +kernel
theorem dL_addBase_16 : decode cL_addBase 16 = .ok (.iconst 2, 1) := by decide +kernel
theorem dL_addBase_17 : decode cL_addBase 17 = .ok (.ireturn, 1) := by decide +kernel
theorem dL_addBase_18 : decode cL_addBase 18 = .ok (.iconst 0, 1) := by decide +kernel
theorem dL_addBase_19 : decode cL_addBase 19 = .ok (.ireturn, 1) := by decide +kernel
theorem dL_edit_0 : decode cL_edit 0 = .ok (.aload 4, 2) := by decide +kernel
theorem dL_edit_2 : decode cL_edit 2 = .ok (.iconst 0, 1) := by decide +kernel
theorem dL_edit_3 : decode cL_edit 3 = .ok (.aload_n 0, 1) := by decide +kernel
theorem dL_edit_4 : decode cL_edit 4 = .ok (.iload_n 1, 1) := by decide +kernel
theorem dL_edit_5 : decode cL_edit 5 = .ok (.iload_n 2, 1) := by decide +kernel
theorem dL_edit_6 : decode cL_edit 6 = .ok (.iload_n 3, 1) := by decide +kernel
theorem dL_edit_7 : decode cL_edit 7 = .ok (.invokevirtual 17, 3) := by decide +kernel
theorem dL_edit_10 : decode cL_edit 10 = .ok (.i2l, 1) := by decide +kernel
theorem dL_edit_11 : decode cL_edit 11 = .ok (.lastore, 1) := by decide +kernel
theorem dL_edit_12 : decode cL_edit 12 = .ok (.goto 11, 3) := by decide +kernel
theorem dL_edit_15 : decode cL_edit 15 = .ok (.astore 5, 2) := by decide +kernel
theorem dL_edit_17 : decode cL_edit 17 = .ok (.iconst 1, 1) := by decide +kernel
theorem dL_edit_18 : decode cL_edit 18 = .ok (.ireturn, 1) := by decide +kernel
theorem dL_edit_19 : decode cL_edit 19 = .ok (.astore 5, 2) := by decide +kernel
theorem dL_edit_21 : decode cL_edit 21 = .ok (.iconst 2, 1) := by decide +kernel
theorem dL_edit_22 : decode cL_edit 22 = .ok (.ireturn, 1) := by decide +kernel
theorem dL_edit_23 : decode cL_edit 23 = .ok (.iconst 0, 1) := by decide +kernel
theorem dL_edit_24 : decode cL_edit 24 = .ok (.ireturn, 1) := by decide +kernel
theorem dL_move_0 : decode cL_move 0 = .ok (.aload 4, 2) := by decide +kernel
theorem dL_move_2 : decode cL_move 2 = .ok (.iconst 0, 1) := by decide +kernel
theorem dL_move_3 : decode cL_move 3 = .ok (.aload_n 0, 1) := by decide +kernel
theorem dL_move_4 : decode cL_move 4 = .ok (.iload_n 1, 1) := by decide +kernel
theorem dL_move_5 : decode cL_move 5 = .ok (.iload_n 2, 1) := by decide +kernel
theorem dL_move_6 : decode cL_move 6 = .ok (.iload_n 3, 1) := by decide +kernel
theorem dL_move_7 : decode cL_move 7 = .ok (.invokevirtual 23, 3) := by decide +kernel
theorem dL_move_10 : decode cL_move 10 = .ok (.i2l, 1) := by decide +kernel
theorem dL_move_11 : decode cL_move 11 = .ok (.lastore, 1) := by decide +kernel
theorem dL_move_12 : decode cL_move 12 = .ok (.goto 7, 3) := by decide +kernel
theorem dL_move_15 : decode cL_move 15 = .ok (.astore 5, 2) := by decide +kernel
theorem dL_move_17 : decode cL_move 17 = .ok (.iconst 1, 1) := by decide +kernel
theorem dL_move_18 : decode cL_move 18 = .ok (.ireturn, 1) := by decide +kernel
theorem dL_move_19 : decode cL_move 19 = .ok (.iconst 0, 1) := by decide +kernel
theorem dL_move_20 : decode cL_move 20 = .ok (.ireturn, 1) := by decide +kernel
theorem dL_insert_0 : decode cL_insert 0 = .ok (.aload 4, 2) := by decide +kernel
theorem dL_insert_2 : decode cL_insert 2 = .ok (.iconst 0, 1) := by decide +kernel
theorem dL_insert_3 : decode cL_insert 3 = .ok (.aload_n 0, 1) := by decide +kernel
theorem dL_insert_4 : decode cL_insert 4 = .ok (.iload_n 1, 1) := by decide +kernel
theorem dL_insert_5 : decode cL_insert 5 = .ok (.iload_n 2, 1) := by decide +kernel
theorem dL_insert_6 : decode cL_insert 6 = .ok (.iload_n 3, 1) := by decide +kernel
theorem dL_insert_7 : decode cL_insert 7 = .ok (.invokevirtual 26, 3) := by decide +kernel
theorem dL_insert_10 : decode cL_insert 10 = .ok (.i2l, 1) := by decide +kernel
theorem dL_insert_11 : decode cL_insert 11 = .ok (.lastore, 1) := by decide +kernel
theorem dL_insert_12 : decode cL_insert 12 = .ok (.goto 15, 3) := by decide +kernel
theorem dL_insert_15 : decode cL_insert 15 = .ok (.astore 5, 2) := by decide +kernel
theorem dL_insert_17 : decode cL_insert 17 = .ok (.iconst 1, 1) := by decide +kernel
theorem dL_insert_18 : decode cL_insert 18 = .ok (.ireturn, 1) := by decide +kernel
theorem dL_insert_19 : decode cL_insert 19 = .ok (.astore 5, 2) := by decide +kernel
theorem dL_insert_21 : decode cL_insert 21 = .ok (.iconst 2, 1) := by decide +kernel
theorem dL_insert_22 : decode cL_insert 22 = .ok (.ireturn, 1) := by decide +kernel
theorem dL_insert_23 : decode cL_insert 23 = .ok (.astore 5, 2) := by decide +kernel
theorem dL_insert_25 : decode cL_insert 25 = .ok (.iconst 3, 1) := by decide +kernel
theorem dL_insert_26 : decode cL_insert 26 = .ok (.ireturn, 1) := by decide +kernel
theorem dL_insert_27 : decode cL_insert 27 = .ok (.iconst 0, 1) := by decide +kernel
theorem dL_insert_28 : decode cL_insert 28 = .ok (.ireturn, 1) := by decide +kernel
theorem dL_remove_0 : decode cL_remove 0 = .ok (.aload_n 3, 1) := by decide +kernel
theorem dL_remove_1 : decode cL_remove 1 = .ok (.iconst 0, 1) := by decide +kernel
theorem dL_remove_2 : decode cL_remove 2 = .ok (.aload_n 0, 1) := by decide +kernel
theorem dL_remove_3 : decode cL_remove 3 = .ok (.iload_n 1, 1) := by decide +kernel
theorem dL_remove_4 : decode cL_remove 4 = .ok (.iload_n 2, 1) := by decide +kernel
theorem dL_remove_5 : decode cL_remove 5 = .ok (.invokevirtual 29, 3) := by decide +kernel
theorem dL_remove_8 : decode cL_remove 8 = .ok (.i2l, 1) := by decide +kernel
theorem dL_remove_9 : decode cL_remove 9 = .ok (.lastore, 1) := by decide +kernel
theorem dL_remove_10 : decode cL_remove 10 = .ok (.goto 7, 3) := by decide +kernel
theorem dL_remove_13 : decode cL_remove 13 = .ok (.astore 4, 2) := by decide +kernel
theorem dL_remove_15 : decode cL_remove 15 = .ok (.iconst 1, 1) := by decide +kernel
theorem dL_remove_16 : decode cL_remove 16 = .ok (.ireturn, 1) := by decide +kernel
theorem dL_remove_17 : decode cL_remove 17 = .ok (.iconst 0, 1) := by decide +kernel
theorem dL_remove_18 : decode cL_remove 18 = .ok (.ireturn, 1) := by decide +kernel
theorem dL_size_0 : decode cL_size 0 = .ok (.aload_n 2, 1) := by decide +kernel
theorem dL_size_1 : decode cL_size 1 = .ok (.iconst 0, 1) := by decide +kernel
theorem dL_size_2 : decode cL_size 2 = .ok (.aload_n 0, 1) := by decide +kernel
theorem dL_size_3 : decode cL_size 3 = .ok (.iload_n 1, 1) := by decide +kernel
theorem dL_size_4 : decode cL_size 4 = .ok (.invokevirtual 33, 3) := by decide +kernel
theorem dL_size_7 : decode cL_size 7 = .ok (.i2l, 1) := by decide +kernel
theorem dL_size_8 : decode cL_size 8 = .ok (.lastore, 1) := by decide +kernel
theorem dL_size_9 : decode cL_size 9 = .ok (.goto 6, 3) := by decide +kernel
theorem dL_size_12 : decode cL_size 12 = .ok (.astore_n 3, 1) := by decide +kernel
theorem dL_size_13 : decode cL_size 13 = .ok (.iconst 1, 1) := by decide +kernel
theorem dL_size_14 : decode cL_size 14 = .ok (.ireturn, 1) := by decide +kernel
theorem dL_size_15 : decode cL_size 15 = .ok (.iconst 0, 1) := by decide +kernel
theorem dL_size_16 : decode cL_size 16 = .ok (.ireturn, 1) := by decide +kernel
theorem dL_block_0 : decode cL_block 0 = .ok (.aload_n 3, 1) := by decide +kernel
theorem dL_block_1 : decode cL_block 1 = .ok (.iconst 0, 1) := by decide +kernel
theorem dL_block_2 : decode cL_block 2 = .ok (.aload_n 0, 1) := by decide +kernel
theorem dL_block_3 : decode cL_block 3 = .ok (.iload_n 1, 1) := by decide +kernel
theorem dL_block_4 : decode cL_block 4 = .ok (.iload_n 2, 1) := by decide +kernel
theorem dL_block_5 : decode cL_block 5 = .ok (.invokevirtual 36, 3) := by decide +kernel
theorem dL_block_8 : decode cL_block 8 = .ok (.i2l, 1) := by decide +kernel
theorem dL_block_9 : decode cL_block 9 = .ok (.lastore, 1) := by decide +kernel
theorem dL_block_10 : decode cL_block 10 = .ok (.goto 7, 3) := by decide +kernel
theorem dL_block_13 : decode cL_block 13 = .ok (.astore 4, 2) := by decide +kernel
theorem dL_block_15 : decode cL_block 15 = .ok (.iconst 1, 1) := by decide +kernel
theorem dL_block_16 : decode cL_block 16 = .ok (.ireturn, 1) := by decide +kernel
theorem dL_block_17 : decode cL_block 17 = .ok (.iconst 0, 1) := by decide +kernel
theorem dL_block_18 : decode cL_block 18 = .ok (.ireturn, 1) := by decide +kernel
theorem dL_content_0 : decode cL_content 0 = .ok (.aload_n 3, 1) := by decide +kernel
theorem dL_content_1 : decode cL_content 1 = .ok (.iconst 0, 1) := by decide +kernel
theorem dL_content_2 : decode cL_content 2 = .ok (.aload_n 0, 1) := by decide +kernel
theorem dL_content_3 : decode cL_content 3 = .ok (.iload_n 1, 1) := by decide +kernel
theorem dL_content_4 : decode cL_content 4 = .ok (.iload_n 2, 1) := by decide +kernel
theorem dL_content_5 : decode cL_content 5 = .ok (.invokevirtual 39, 3) := by decide +kernel
theorem dL_content_8 : decode cL_content 8 = .ok (.i2l, 1) := by decide +kernel
theorem dL_content_9 : decode cL_content 9 = .ok (.lastore, 1) := by decide +kernel
theorem dL_content_10 : decode cL_content 10 = .ok (.goto 7, 3) := by decide +kernel
theorem dL_content_13 : decode cL_content 13 = .ok (.astore 4, 2) := by decide +kernel
theorem dL_content_15 : decode cL_content 15 = .ok (.iconst 1, 1) := by decide +kernel
theorem dL_content_16 : decode cL_content 16 = .ok (.ireturn, 1) := by decide +kernel
theorem dL_content_17 : decode cL_content 17 = .ok (.iconst 0, 1) := by decide +kernel
theorem dL_content_18 : decode cL_content 18 = .ok (.ireturn, 1) := by decide +kernel
theorem dL_change_0 : decode cL_change 0 = .ok (.aload_n 3, 1) := by decide +kernel
theorem dL_change_1 : decode cL_change 1 = .ok (.iconst 0, 1) := by decide +kernel
theorem dL_change_2 : decode cL_change 2 = .ok (.aload_n 0, 1) := by decide +kernel
theorem dL_change_3 : decode cL_change 3 = .ok (.iload_n 1, 1) := by decide +kernel
theorem dL_change_4 : decode cL_change 4 = .ok (.iload_n 2, 1) := by decide +kernel
theorem dL_change_5 : decode cL_change 5 = .ok (.invokevirtual 42, 3) := by decide +kernel
theorem dL_change_8 : decode cL_change 8 = .ok (.i2l, 1) := by decide +kernel
theorem dL_change_9 : decode cL_change 9 = .ok (.lastore, 1) := by decide +kernel
theorem dL_change_10 : decode cL_change 10 = .ok (.goto 7, 3) := by decide +kernel
theorem dL_change_13 : decode cL_change 13 = .ok (.astore 4, 2) := by decide +kernel
theorem dL_change_15 : decode cL_change 15 = .ok (.iconst 1, 1) := by decide +kernel
theorem dL_change_16 : decode cL_change 16 = .ok (.ireturn, 1) := by decide +kernel
theorem dL_change_17 : decode cL_change 17 = .ok (.iconst 0, 1) := by decide +kernel
theorem dL_change_18 : decode cL_change 18 = .ok (.ireturn, 1) := by decide +kernel
theorem dL_moves_0 : decode cL_moves 0 = .ok (.aload_n 2, 1) := by decide +kernel
theorem dL_moves_1 : decode cL_moves 1 = .ok (.iconst 0, 1) := by decide +kernel
theorem dL_moves_2 : decode cL_moves 2 = .ok (.aload_n 0, 1) := by decide +kernel
theorem dL_moves_3 : decode cL_moves 3 = .ok (.iload_n 1, 1) := by decide +kernel
theorem dL_moves_4 : decode cL_moves 4 = .ok (.invokevirtual 45, 3) := by decide +kernel
theorem dL_moves_7 : decode cL_moves 7 = .ok (.i2l, 1) := by decide +kernel
theorem dL_moves_8 : decode cL_moves 8 = .ok (.lastore, 1) := by decide +kernel
theorem dL_moves_9 : decode cL_moves 9 = .ok (.goto 6, 3) := by decide +kernel
theorem dL_moves_12 : decode cL_moves 12 = .ok (.astore_n 3, 1) := by decide +kernel
theorem dL_moves_13 : decode cL_moves 13 = .ok (.iconst 1, 1) := by decide +kernel
theorem dL_moves_14 : decode cL_moves 14 = .ok (.ireturn, 1) := by decide +kernel
theorem dL_moves_15 : decode cL_moves 15 = .ok (.iconst 0, 1) := by decide +kernel
theorem dL_moves_16 : decode cL_moves 16 = .ok (.ireturn, 1) := by decide +kernel
theorem dL_mergedBlock_0 : decode cL_mergedBlock 0 = .ok (.aload_n 2, 1) := by decide +kernel
theorem dL_mergedBlock_1 : decode cL_mergedBlock 1 = .ok (.iconst 0, 1) := by decide +kernel
theorem dL_mergedBlock_2 : decode cL_mergedBlock 2 = .ok (.aload_n 0, 1) := by decide +kernel
theorem dL_mergedBlock_3 : decode cL_mergedBlock 3 = .ok (.iload_n 1, 1) := by decide +kernel
theorem dL_mergedBlock_4 : decode cL_mergedBlock 4 = .ok (.invokevirtual 48, 3) := by decide +kernel
theorem dL_mergedBlock_7 : decode cL_mergedBlock 7 = .ok (.i2l, 1) := by decide +kernel
theorem dL_mergedBlock_8 : decode cL_mergedBlock 8 = .ok (.lastore, 1) := by decide +kernel
theorem dL_mergedBlock_9 : decode cL_mergedBlock 9 = .ok (.goto 6, 3) := by decide +kernel
theorem dL_mergedBlock_12 : decode cL_mergedBlock 12 = .ok (.astore_n 3, 1) := by decide +kernel
theorem dL_mergedBlock_13 : decode cL_mergedBlock 13 = .ok (.iconst 1, 1) := by decide +kernel
theorem dL_mergedBlock_14 : decode cL_mergedBlock 14 = .ok (.ireturn, 1) := by decide +kernel
theorem dL_mergedBlock_15 : decode cL_mergedBlock 15 = .ok (.iconst 0, 1) := by decide +kernel
theorem dL_mergedBlock_16 : decode cL_mergedBlock 16 = .ok (.ireturn, 1) := by decide +kernel
theorem dL_mergedContent_0 : decode cL_mergedContent 0 = .ok (.aload_n 2, 1) := by decide +kernel
theorem dL_mergedContent_1 : decode cL_mergedContent 1 = .ok (.iconst 0, 1) := by decide +kernel
theorem dL_mergedContent_2 : decode cL_mergedContent 2 = .ok (.aload_n 0, 1) := by decide +kernel
theorem dL_mergedContent_3 : decode cL_mergedContent 3 = .ok (.iload_n 1, 1) := by decide +kernel
theorem dL_mergedContent_4 : decode cL_mergedContent 4 = .ok (.invokevirtual 51, 3) := by decide +kernel
theorem dL_mergedContent_7 : decode cL_mergedContent 7 = .ok (.i2l, 1) := by decide +kernel
theorem dL_mergedContent_8 : decode cL_mergedContent 8 = .ok (.lastore, 1) := by decide +kernel
theorem dL_mergedContent_9 : decode cL_mergedContent 9 = .ok (.goto 6, 3) := by decide +kernel
theorem dL_mergedContent_12 : decode cL_mergedContent 12 = .ok (.astore_n 3, 1) := by decide +kernel
theorem dL_mergedContent_13 : decode cL_mergedContent 13 = .ok (.iconst 1, 1) := by decide +kernel
theorem dL_mergedContent_14 : decode cL_mergedContent 14 = .ok (.ireturn, 1) := by decide +kernel
theorem dL_mergedContent_15 : decode cL_mergedContent 15 = .ok (.iconst 0, 1) := by decide +kernel
theorem dL_mergedContent_16 : decode cL_mergedContent 16 = .ok (.ireturn, 1) := by decide +kernel
theorem dL_conflictBlock_0 : decode cL_conflictBlock 0 = .ok (.aload_n 2, 1) := by decide +kernel
theorem dL_conflictBlock_1 : decode cL_conflictBlock 1 = .ok (.iconst 0, 1) := by decide +kernel
theorem dL_conflictBlock_2 : decode cL_conflictBlock 2 = .ok (.aload_n 0, 1) := by decide +kernel
theorem dL_conflictBlock_3 : decode cL_conflictBlock 3 = .ok (.iload_n 1, 1) := by decide +kernel
theorem dL_conflictBlock_4 : decode cL_conflictBlock 4 = .ok (.invokevirtual 54, 3) := by decide +kernel
theorem dL_conflictBlock_7 : decode cL_conflictBlock 7 = .ok (.i2l, 1) := by decide +kernel
theorem dL_conflictBlock_8 : decode cL_conflictBlock 8 = .ok (.lastore, 1) := by decide +kernel
theorem dL_conflictBlock_9 : decode cL_conflictBlock 9 = .ok (.goto 6, 3) := by decide +kernel
theorem dL_conflictBlock_12 : decode cL_conflictBlock 12 = .ok (.astore_n 3, 1) := by decide +kernel
theorem dL_conflictBlock_13 : decode cL_conflictBlock 13 = .ok (.iconst 1, 1) := by decide +kernel
theorem dL_conflictBlock_14 : decode cL_conflictBlock 14 = .ok (.ireturn, 1) := by decide +kernel
theorem dL_conflictBlock_15 : decode cL_conflictBlock 15 = .ok (.iconst 0, 1) := by decide +kernel
theorem dL_conflictBlock_16 : decode cL_conflictBlock 16 = .ok (.ireturn, 1) := by decide +kernel
theorem dL_conflictKind_0 : decode cL_conflictKind 0 = .ok (.aload_n 2, 1) := by decide +kernel
theorem dL_conflictKind_1 : decode cL_conflictKind 1 = .ok (.iconst 0, 1) := by decide +kernel
theorem dL_conflictKind_2 : decode cL_conflictKind 2 = .ok (.aload_n 0, 1) := by decide +kernel
theorem dL_conflictKind_3 : decode cL_conflictKind 3 = .ok (.iload_n 1, 1) := by decide +kernel
theorem dL_conflictKind_4 : decode cL_conflictKind 4 = .ok (.invokevirtual 57, 3) := by decide +kernel
theorem dL_conflictKind_7 : decode cL_conflictKind 7 = .ok (.i2l, 1) := by decide +kernel
theorem dL_conflictKind_8 : decode cL_conflictKind 8 = .ok (.lastore, 1) := by decide +kernel
theorem dL_conflictKind_9 : decode cL_conflictKind 9 = .ok (.goto 6, 3) := by decide +kernel
theorem dL_conflictKind_12 : decode cL_conflictKind 12 = .ok (.astore_n 3, 1) := by decide +kernel
theorem dL_conflictKind_13 : decode cL_conflictKind 13 = .ok (.iconst 1, 1) := by decide +kernel
theorem dL_conflictKind_14 : decode cL_conflictKind 14 = .ok (.ireturn, 1) := by decide +kernel
theorem dL_conflictKind_15 : decode cL_conflictKind 15 = .ok (.iconst 0, 1) := by decide +kernel
theorem dL_conflictKind_16 : decode cL_conflictKind 16 = .ok (.ireturn, 1) := by decide +kernel
theorem dL_choose_0 : decode cL_choose 0 = .ok (.aload_n 3, 1) := by decide +kernel
theorem dL_choose_1 : decode cL_choose 1 = .ok (.iconst 0, 1) := by decide +kernel
theorem dL_choose_2 : decode cL_choose 2 = .ok (.aload_n 0, 1) := by decide +kernel
theorem dL_choose_3 : decode cL_choose 3 = .ok (.iload_n 1, 1) := by decide +kernel
theorem dL_choose_4 : decode cL_choose 4 = .ok (.iload_n 2, 1) := by decide +kernel
theorem dL_choose_5 : decode cL_choose 5 = .ok (.invokevirtual 60, 3) := by decide +kernel
theorem dL_choose_8 : decode cL_choose 8 = .ok (.i2l, 1) := by decide +kernel
theorem dL_choose_9 : decode cL_choose 9 = .ok (.lastore, 1) := by decide +kernel
theorem dL_choose_10 : decode cL_choose 10 = .ok (.goto 11, 3) := by decide +kernel
theorem dL_choose_13 : decode cL_choose 13 = .ok (.astore 4, 2) := by decide +kernel
theorem dL_choose_15 : decode cL_choose 15 = .ok (.iconst 1, 1) := by decide +kernel
theorem dL_choose_16 : decode cL_choose 16 = .ok (.ireturn, 1) := by decide +kernel
theorem dL_choose_17 : decode cL_choose 17 = .ok (.astore 4, 2) := by decide +kernel
theorem dL_choose_19 : decode cL_choose 19 = .ok (.iconst 2, 1) := by decide +kernel
theorem dL_choose_20 : decode cL_choose 20 = .ok (.ireturn, 1) := by decide +kernel
theorem dL_choose_21 : decode cL_choose 21 = .ok (.iconst 0, 1) := by decide +kernel
theorem dL_choose_22 : decode cL_choose 22 = .ok (.ireturn, 1) := by decide +kernel
theorem dL_prefer_0 : decode cL_prefer 0 = .ok (.aload_n 2, 1) := by decide +kernel
theorem dL_prefer_1 : decode cL_prefer 1 = .ok (.iconst 0, 1) := by decide +kernel
theorem dL_prefer_2 : decode cL_prefer 2 = .ok (.aload_n 0, 1) := by decide +kernel
theorem dL_prefer_3 : decode cL_prefer 3 = .ok (.iload_n 1, 1) := by decide +kernel
theorem dL_prefer_4 : decode cL_prefer 4 = .ok (.invokevirtual 63, 3) := by decide +kernel
theorem dL_prefer_7 : decode cL_prefer 7 = .ok (.i2l, 1) := by decide +kernel
theorem dL_prefer_8 : decode cL_prefer 8 = .ok (.lastore, 1) := by decide +kernel
theorem dL_prefer_9 : decode cL_prefer 9 = .ok (.goto 6, 3) := by decide +kernel
theorem dL_prefer_12 : decode cL_prefer 12 = .ok (.astore_n 3, 1) := by decide +kernel
theorem dL_prefer_13 : decode cL_prefer 13 = .ok (.iconst 1, 1) := by decide +kernel
theorem dL_prefer_14 : decode cL_prefer 14 = .ok (.ireturn, 1) := by decide +kernel
theorem dL_prefer_15 : decode cL_prefer 15 = .ok (.iconst 0, 1) := by decide +kernel
theorem dL_prefer_16 : decode cL_prefer 16 = .ok (.ireturn, 1) := by decide +kernel
theorem dL_accept_0 : decode cL_accept 0 = .ok (.aload_n 1, 1) := by decide +kernel
theorem dL_accept_1 : decode cL_accept 1 = .ok (.iconst 0, 1) := by decide +kernel
theorem dL_accept_2 : decode cL_accept 2 = .ok (.aload_n 0, 1) := by decide +kernel
theorem dL_accept_3 : decode cL_accept 3 = .ok (.invokevirtual 66, 3) := by decide +kernel
theorem dL_accept_6 : decode cL_accept 6 = .ok (.i2l, 1) := by decide +kernel
theorem dL_accept_7 : decode cL_accept 7 = .ok (.lastore, 1) := by decide +kernel
theorem dL_accept_8 : decode cL_accept 8 = .ok (.goto 6, 3) := by decide +kernel
theorem dL_accept_11 : decode cL_accept 11 = .ok (.astore_n 2, 1) := by decide +kernel
theorem dL_accept_12 : decode cL_accept 12 = .ok (.iconst 1, 1) := by decide +kernel
theorem dL_accept_13 : decode cL_accept 13 = .ok (.ireturn, 1) := by decide +kernel
theorem dL_accept_14 : decode cL_accept 14 = .ok (.iconst 0, 1) := by decide +kernel
theorem dL_accept_15 : decode cL_accept 15 = .ok (.ireturn, 1) := by decide +kernel
theorem dL_similarity_0 : decode cL_similarity 0 = .ok (.aload_n 2, 1) := by decide +kernel
theorem dL_similarity_1 : decode cL_similarity 1 = .ok (.iconst 0, 1) := by decide +kernel
theorem dL_similarity_2 : decode cL_similarity 2 = .ok (.aload_n 0, 1) := by decide +kernel
theorem dL_similarity_3 : decode cL_similarity 3 = .ok (.iload_n 1, 1) := by decide +kernel
theorem dL_similarity_4 : decode cL_similarity 4 = .ok (.invokevirtual 70, 3) := by decide +kernel
theorem dL_similarity_7 : decode cL_similarity 7 = .ok (.dastore, 1) := by decide +kernel
theorem dL_similarity_8 : decode cL_similarity 8 = .ok (.goto 6, 3) := by decide +kernel
theorem dL_similarity_11 : decode cL_similarity 11 = .ok (.astore_n 3, 1) := by decide +kernel
theorem dL_similarity_12 : decode cL_similarity 12 = .ok (.iconst 1, 1) := by decide +kernel
theorem dL_similarity_13 : decode cL_similarity 13 = .ok (.ireturn, 1) := by decide +kernel
theorem dL_similarity_14 : decode cL_similarity 14 = .ok (.iconst 0, 1) := by decide +kernel
theorem dL_similarity_15 : decode cL_similarity 15 = .ok (.ireturn, 1) := by decide +kernel
theorem dL_append_0 : decode cL_append 0 = .ok (.aload_n 2, 1) := by decide +kernel
theorem dL_append_1 : decode cL_append 1 = .ok (.iconst 0, 1) := by decide +kernel
theorem dL_append_2 : decode cL_append 2 = .ok (.aload_n 0, 1) := by decide +kernel
theorem dL_append_3 : decode cL_append 3 = .ok (.iload_n 1, 1) := by decide +kernel
theorem dL_append_4 : decode cL_append 4 = .ok (.invokevirtual 74, 3) := by decide +kernel
theorem dL_append_7 : decode cL_append 7 = .ok (.i2l, 1) := by decide +kernel
theorem dL_append_8 : decode cL_append 8 = .ok (.lastore, 1) := by decide +kernel
theorem dL_append_9 : decode cL_append 9 = .ok (.goto 9, 3) := by decide +kernel
theorem dL_append_12 : decode cL_append 12 = .ok (.astore_n 3, 1) := by decide +kernel
theorem dL_append_13 : decode cL_append 13 = .ok (.iconst 1, 1) := by decide +kernel
theorem dL_append_14 : decode cL_append 14 = .ok (.ireturn, 1) := by decide +kernel
theorem dL_append_15 : decode cL_append 15 = .ok (.astore_n 3, 1) := by decide +kernel
theorem dL_append_16 : decode cL_append 16 = .ok (.iconst 2, 1) := by decide +kernel
theorem dL_append_17 : decode cL_append 17 = .ok (.ireturn, 1) := by decide +kernel
theorem dL_append_18 : decode cL_append 18 = .ok (.iconst 0, 1) := by decide +kernel
theorem dL_append_19 : decode cL_append 19 = .ok (.ireturn, 1) := by decide +kernel
theorem dL_run_0 : decode cL_run 0 = .ok (.aload_n 1, 1) := by decide +kernel
theorem dL_run_1 : decode cL_run 1 = .ok (.iconst 0, 1) := by decide +kernel
theorem dL_run_2 : decode cL_run 2 = .ok (.aload_n 0, 1) := by decide +kernel
theorem dL_run_3 : decode cL_run 3 = .ok (.invokevirtual 77, 3) := by decide +kernel
theorem dL_run_6 : decode cL_run 6 = .ok (.i2l, 1) := by decide +kernel
theorem dL_run_7 : decode cL_run 7 = .ok (.lastore, 1) := by decide +kernel
theorem dL_run_8 : decode cL_run 8 = .ok (.goto 6, 3) := by decide +kernel
theorem dL_run_11 : decode cL_run 11 = .ok (.astore_n 2, 1) := by decide +kernel
theorem dL_run_12 : decode cL_run 12 = .ok (.iconst 1, 1) := by decide +kernel
theorem dL_run_13 : decode cL_run 13 = .ok (.ireturn, 1) := by decide +kernel
theorem dL_run_14 : decode cL_run 14 = .ok (.iconst 0, 1) := by decide +kernel
theorem dL_run_15 : decode cL_run 15 = .ok (.ireturn, 1) := by decide +kernel
theorem dL_undo_0 : decode cL_undo 0 = .ok (.aload_n 1, 1) := by decide +kernel
theorem dL_undo_1 : decode cL_undo 1 = .ok (.iconst 0, 1) := by decide +kernel
theorem dL_undo_2 : decode cL_undo 2 = .ok (.aload_n 0, 1) := by decide +kernel
theorem dL_undo_3 : decode cL_undo 3 = .ok (.invokevirtual 80, 3) := by decide +kernel
theorem dL_undo_6 : decode cL_undo 6 = .ok (.i2l, 1) := by decide +kernel
theorem dL_undo_7 : decode cL_undo 7 = .ok (.lastore, 1) := by decide +kernel
theorem dL_undo_8 : decode cL_undo 8 = .ok (.goto 6, 3) := by decide +kernel
theorem dL_undo_11 : decode cL_undo 11 = .ok (.astore_n 2, 1) := by decide +kernel
theorem dL_undo_12 : decode cL_undo 12 = .ok (.iconst 1, 1) := by decide +kernel
theorem dL_undo_13 : decode cL_undo 13 = .ok (.ireturn, 1) := by decide +kernel
theorem dL_undo_14 : decode cL_undo 14 = .ok (.iconst 0, 1) := by decide +kernel
theorem dL_undo_15 : decode cL_undo 15 = .ok (.ireturn, 1) := by decide +kernel
theorem dL_law_0 : decode cL_law 0 = .ok (.new 8, 3) := by decide +kernel
theorem dL_law_3 : decode cL_law 3 = .ok (.dup, 1) := by decide +kernel
theorem dL_law_4 : decode cL_law 4 = .ok (.invokespecial 83, 3) := by decide +kernel
theorem dL_law_7 : decode cL_law 7 = .ok (.astore_n 1, 1) := by decide +kernel
theorem dL_law_8 : decode cL_law 8 = .ok (.new 84, 3) := by decide +kernel
theorem dL_law_11 : decode cL_law 11 = .ok (.dup, 1) := by decide +kernel
theorem dL_law_12 : decode cL_law 12 = .ok (.invokespecial 86, 3) := by decide +kernel
theorem dL_law_15 : decode cL_law 15 = .ok (.astore_n 2, 1) := by decide +kernel
theorem dL_law_16 : decode cL_law 16 = .ok (.iconst 1, 1) := by decide +kernel
theorem dL_law_17 : decode cL_law 17 = .ok (.newarray .long, 2) := by decide +kernel
theorem dL_law_19 : decode cL_law 19 = .ok (.astore_n 3, 1) := by decide +kernel
theorem dL_law_20 : decode cL_law 20 = .ok (.iconst 1, 1) := by decide +kernel
theorem dL_law_21 : decode cL_law 21 = .ok (.newarray .double, 2) := by decide +kernel
theorem dL_law_23 : decode cL_law 23 = .ok (.astore 4, 2) := by decide +kernel
theorem dL_law_25 : decode cL_law 25 = .ok (.iconst 0, 1) := by decide +kernel
theorem dL_law_26 : decode cL_law 26 = .ok (.istore 5, 2) := by decide +kernel
theorem dL_law_28 : decode cL_law 28 = .ok (.iload 5, 2) := by decide +kernel
theorem dL_law_30 : decode cL_law 30 = .ok (.aload_n 0, 1) := by decide +kernel
theorem dL_law_31 : decode cL_law 31 = .ok (.arraylength, 1) := by decide +kernel
theorem dL_law_32 : decode cL_law 32 = .ok (.iconst 4, 1) := by decide +kernel
theorem dL_law_33 : decode cL_law 33 = .ok (.isub, 1) := by decide +kernel
theorem dL_law_34 : decode cL_law 34 = .ok (.if_icmp .gt 1563, 3) := by decide +kernel
theorem dL_law_37 : decode cL_law 37 = .ok (.aload_n 0, 1) := by decide +kernel
theorem dL_law_38 : decode cL_law 38 = .ok (.iload 5, 2) := by decide +kernel
theorem dL_law_40 : decode cL_law 40 = .ok (.iaload, 1) := by decide +kernel
theorem dL_law_41 : decode cL_law 41 = .ok (.bipush 31, 2) := by decide +kernel
theorem dL_law_43 : decode cL_law 43 = .ok (.iand, 1) := by decide +kernel
theorem dL_law_44 : decode cL_law 44 = .ok (.tableswitch 1547 0 29 #[136, 192, 272, 352, 432, 500, 513, 569, 637, 705, 773, 829, 842, 898, 954, 967, 1023, 1079, 1147, 1203, 1216, 1260, 1273, 1350, 1406, 1419, 1432, 1476, 1520, 1533], 136) := by decide +kernel
theorem dL_law_180 : decode cL_law 180 = .ok (.aload_n 1, 1) := by decide +kernel
theorem dL_law_181 : decode cL_law 181 = .ok (.aload_n 0, 1) := by decide +kernel
theorem dL_law_182 : decode cL_law 182 = .ok (.iload 5, 2) := by decide +kernel
theorem dL_law_184 : decode cL_law 184 = .ok (.iconst 1, 1) := by decide +kernel
theorem dL_law_185 : decode cL_law 185 = .ok (.iadd, 1) := by decide +kernel
theorem dL_law_186 : decode cL_law 186 = .ok (.iaload, 1) := by decide +kernel
theorem dL_law_187 : decode cL_law 187 = .ok (.aload_n 3, 1) := by decide +kernel
theorem dL_law_188 : decode cL_law 188 = .ok (.invokestatic 87, 3) := by decide +kernel
theorem dL_law_191 : decode cL_law 191 = .ok (.istore 6, 2) := by decide +kernel
theorem dL_law_193 : decode cL_law 193 = .ok (.aload_n 2, 1) := by decide +kernel
theorem dL_law_194 : decode cL_law 194 = .ok (.aload_n 0, 1) := by decide +kernel
theorem dL_law_195 : decode cL_law 195 = .ok (.iload 5, 2) := by decide +kernel
theorem dL_law_197 : decode cL_law 197 = .ok (.iconst 1, 1) := by decide +kernel
theorem dL_law_198 : decode cL_law 198 = .ok (.iadd, 1) := by decide +kernel
theorem dL_law_199 : decode cL_law 199 = .ok (.iaload, 1) := by decide +kernel
theorem dL_law_200 : decode cL_law 200 = .ok (.invokevirtual 92, 3) := by decide +kernel
theorem dL_law_203 : decode cL_law 203 = .ok (.istore 7, 2) := by decide +kernel
theorem dL_law_205 : decode cL_law 205 = .ok (.aload_n 2, 1) := by decide +kernel
theorem dL_law_206 : decode cL_law 206 = .ok (.invokevirtual 93, 3) := by decide +kernel
theorem dL_law_209 : decode cL_law 209 = .ok (.iload 6, 2) := by decide +kernel
theorem dL_law_211 : decode cL_law 211 = .ok (.if_icmp .eq 5, 3) := by decide +kernel
theorem dL_law_214 : decode cL_law 214 = .ok (.iconst 0, 1) := by decide +kernel
theorem dL_law_215 : decode cL_law 215 = .ok (.ireturn, 1) := by decide +kernel
theorem dL_law_216 : decode cL_law 216 = .ok (.iload 6, 2) := by decide +kernel
theorem dL_law_218 : decode cL_law 218 = .ok (.ifCond .ne 15, 3) := by decide +kernel
theorem dL_law_221 : decode cL_law 221 = .ok (.aload_n 3, 1) := by decide +kernel
theorem dL_law_222 : decode cL_law 222 = .ok (.iconst 0, 1) := by decide +kernel
theorem dL_law_223 : decode cL_law 223 = .ok (.laload, 1) := by decide +kernel
theorem dL_law_224 : decode cL_law 224 = .ok (.iload 7, 2) := by decide +kernel
theorem dL_law_226 : decode cL_law 226 = .ok (.i2l, 1) := by decide +kernel
theorem dL_law_227 : decode cL_law 227 = .ok (.lcmp, 1) := by decide +kernel
theorem dL_law_228 : decode cL_law 228 = .ok (.ifCond .eq 5, 3) := by decide +kernel
theorem dL_law_231 : decode cL_law 231 = .ok (.iconst 0, 1) := by decide +kernel
theorem dL_law_232 : decode cL_law 232 = .ok (.ireturn, 1) := by decide +kernel
theorem dL_law_233 : decode cL_law 233 = .ok (.goto 1358, 3) := by decide +kernel
theorem dL_law_236 : decode cL_law 236 = .ok (.aload_n 1, 1) := by decide +kernel
theorem dL_law_237 : decode cL_law 237 = .ok (.aload_n 0, 1) := by decide +kernel
theorem dL_law_238 : decode cL_law 238 = .ok (.iload 5, 2) := by decide +kernel
theorem dL_law_240 : decode cL_law 240 = .ok (.iconst 1, 1) := by decide +kernel
theorem dL_law_241 : decode cL_law 241 = .ok (.iadd, 1) := by decide +kernel
theorem dL_law_242 : decode cL_law 242 = .ok (.iaload, 1) := by decide +kernel
theorem dL_law_243 : decode cL_law 243 = .ok (.aload_n 0, 1) := by decide +kernel
theorem dL_law_244 : decode cL_law 244 = .ok (.iload 5, 2) := by decide +kernel
theorem dL_law_246 : decode cL_law 246 = .ok (.iconst 2, 1) := by decide +kernel
theorem dL_law_247 : decode cL_law 247 = .ok (.iadd, 1) := by decide +kernel
theorem dL_law_248 : decode cL_law 248 = .ok (.iaload, 1) := by decide +kernel
theorem dL_law_249 : decode cL_law 249 = .ok (.aload_n 0, 1) := by decide +kernel
theorem dL_law_250 : decode cL_law 250 = .ok (.iload 5, 2) := by decide +kernel
theorem dL_law_252 : decode cL_law 252 = .ok (.iconst 3, 1) := by decide +kernel
theorem dL_law_253 : decode cL_law 253 = .ok (.iadd, 1) := by decide +kernel
theorem dL_law_254 : decode cL_law 254 = .ok (.iaload, 1) := by decide +kernel
theorem dL_law_255 : decode cL_law 255 = .ok (.aload_n 3, 1) := by decide +kernel
theorem dL_law_256 : decode cL_law 256 = .ok (.invokestatic 96, 3) := by decide +kernel
theorem dL_law_259 : decode cL_law 259 = .ok (.istore 6, 2) := by decide +kernel
theorem dL_law_261 : decode cL_law 261 = .ok (.aload_n 2, 1) := by decide +kernel
theorem dL_law_262 : decode cL_law 262 = .ok (.aload_n 0, 1) := by decide +kernel
theorem dL_law_263 : decode cL_law 263 = .ok (.iload 5, 2) := by decide +kernel
theorem dL_law_265 : decode cL_law 265 = .ok (.iconst 1, 1) := by decide +kernel
theorem dL_law_266 : decode cL_law 266 = .ok (.iadd, 1) := by decide +kernel
theorem dL_law_267 : decode cL_law 267 = .ok (.iaload, 1) := by decide +kernel
theorem dL_law_268 : decode cL_law 268 = .ok (.aload_n 0, 1) := by decide +kernel
theorem dL_law_269 : decode cL_law 269 = .ok (.iload 5, 2) := by decide +kernel
theorem dL_law_271 : decode cL_law 271 = .ok (.iconst 2, 1) := by decide +kernel
theorem dL_law_272 : decode cL_law 272 = .ok (.iadd, 1) := by decide +kernel
theorem dL_law_273 : decode cL_law 273 = .ok (.iaload, 1) := by decide +kernel
theorem dL_law_274 : decode cL_law 274 = .ok (.aload_n 0, 1) := by decide +kernel
theorem dL_law_275 : decode cL_law 275 = .ok (.iload 5, 2) := by decide +kernel
theorem dL_law_277 : decode cL_law 277 = .ok (.iconst 3, 1) := by decide +kernel
theorem dL_law_278 : decode cL_law 278 = .ok (.iadd, 1) := by decide +kernel
theorem dL_law_279 : decode cL_law 279 = .ok (.iaload, 1) := by decide +kernel
theorem dL_law_280 : decode cL_law 280 = .ok (.invokevirtual 99, 3) := by decide +kernel
theorem dL_law_283 : decode cL_law 283 = .ok (.istore 7, 2) := by decide +kernel
theorem dL_law_285 : decode cL_law 285 = .ok (.aload_n 2, 1) := by decide +kernel
theorem dL_law_286 : decode cL_law 286 = .ok (.invokevirtual 93, 3) := by decide +kernel
theorem dL_law_289 : decode cL_law 289 = .ok (.iload 6, 2) := by decide +kernel
theorem dL_law_291 : decode cL_law 291 = .ok (.if_icmp .eq 5, 3) := by decide +kernel
theorem dL_law_294 : decode cL_law 294 = .ok (.iconst 0, 1) := by decide +kernel
theorem dL_law_295 : decode cL_law 295 = .ok (.ireturn, 1) := by decide +kernel
theorem dL_law_296 : decode cL_law 296 = .ok (.iload 6, 2) := by decide +kernel
theorem dL_law_298 : decode cL_law 298 = .ok (.ifCond .ne 15, 3) := by decide +kernel
theorem dL_law_301 : decode cL_law 301 = .ok (.aload_n 3, 1) := by decide +kernel
theorem dL_law_302 : decode cL_law 302 = .ok (.iconst 0, 1) := by decide +kernel
theorem dL_law_303 : decode cL_law 303 = .ok (.laload, 1) := by decide +kernel
theorem dL_law_304 : decode cL_law 304 = .ok (.iload 7, 2) := by decide +kernel
theorem dL_law_306 : decode cL_law 306 = .ok (.i2l, 1) := by decide +kernel
theorem dL_law_307 : decode cL_law 307 = .ok (.lcmp, 1) := by decide +kernel
theorem dL_law_308 : decode cL_law 308 = .ok (.ifCond .eq 5, 3) := by decide +kernel
theorem dL_law_311 : decode cL_law 311 = .ok (.iconst 0, 1) := by decide +kernel
theorem dL_law_312 : decode cL_law 312 = .ok (.ireturn, 1) := by decide +kernel
theorem dL_law_313 : decode cL_law 313 = .ok (.goto 1278, 3) := by decide +kernel
theorem dL_law_316 : decode cL_law 316 = .ok (.aload_n 1, 1) := by decide +kernel
theorem dL_law_317 : decode cL_law 317 = .ok (.aload_n 0, 1) := by decide +kernel
theorem dL_law_318 : decode cL_law 318 = .ok (.iload 5, 2) := by decide +kernel
theorem dL_law_320 : decode cL_law 320 = .ok (.iconst 1, 1) := by decide +kernel
theorem dL_law_321 : decode cL_law 321 = .ok (.iadd, 1) := by decide +kernel
theorem dL_law_322 : decode cL_law 322 = .ok (.iaload, 1) := by decide +kernel
theorem dL_law_323 : decode cL_law 323 = .ok (.aload_n 0, 1) := by decide +kernel
theorem dL_law_324 : decode cL_law 324 = .ok (.iload 5, 2) := by decide +kernel
theorem dL_law_326 : decode cL_law 326 = .ok (.iconst 2, 1) := by decide +kernel
theorem dL_law_327 : decode cL_law 327 = .ok (.iadd, 1) := by decide +kernel
theorem dL_law_328 : decode cL_law 328 = .ok (.iaload, 1) := by decide +kernel
theorem dL_law_329 : decode cL_law 329 = .ok (.aload_n 0, 1) := by decide +kernel
theorem dL_law_330 : decode cL_law 330 = .ok (.iload 5, 2) := by decide +kernel
theorem dL_law_332 : decode cL_law 332 = .ok (.iconst 3, 1) := by decide +kernel
theorem dL_law_333 : decode cL_law 333 = .ok (.iadd, 1) := by decide +kernel
theorem dL_law_334 : decode cL_law 334 = .ok (.iaload, 1) := by decide +kernel
theorem dL_law_335 : decode cL_law 335 = .ok (.aload_n 3, 1) := by decide +kernel
theorem dL_law_336 : decode cL_law 336 = .ok (.invokestatic 100, 3) := by decide +kernel
theorem dL_law_339 : decode cL_law 339 = .ok (.istore 6, 2) := by decide +kernel
theorem dL_law_341 : decode cL_law 341 = .ok (.aload_n 2, 1) := by decide +kernel
theorem dL_law_342 : decode cL_law 342 = .ok (.aload_n 0, 1) := by decide +kernel
theorem dL_law_343 : decode cL_law 343 = .ok (.iload 5, 2) := by decide +kernel
theorem dL_law_345 : decode cL_law 345 = .ok (.iconst 1, 1) := by decide +kernel
theorem dL_law_346 : decode cL_law 346 = .ok (.iadd, 1) := by decide +kernel
theorem dL_law_347 : decode cL_law 347 = .ok (.iaload, 1) := by decide +kernel
theorem dL_law_348 : decode cL_law 348 = .ok (.aload_n 0, 1) := by decide +kernel
theorem dL_law_349 : decode cL_law 349 = .ok (.iload 5, 2) := by decide +kernel
theorem dL_law_351 : decode cL_law 351 = .ok (.iconst 2, 1) := by decide +kernel
theorem dL_law_352 : decode cL_law 352 = .ok (.iadd, 1) := by decide +kernel
theorem dL_law_353 : decode cL_law 353 = .ok (.iaload, 1) := by decide +kernel
theorem dL_law_354 : decode cL_law 354 = .ok (.aload_n 0, 1) := by decide +kernel
theorem dL_law_355 : decode cL_law 355 = .ok (.iload 5, 2) := by decide +kernel
theorem dL_law_357 : decode cL_law 357 = .ok (.iconst 3, 1) := by decide +kernel
theorem dL_law_358 : decode cL_law 358 = .ok (.iadd, 1) := by decide +kernel
theorem dL_law_359 : decode cL_law 359 = .ok (.iaload, 1) := by decide +kernel
theorem dL_law_360 : decode cL_law 360 = .ok (.invokevirtual 102, 3) := by decide +kernel
theorem dL_law_363 : decode cL_law 363 = .ok (.istore 7, 2) := by decide +kernel
theorem dL_law_365 : decode cL_law 365 = .ok (.aload_n 2, 1) := by decide +kernel
theorem dL_law_366 : decode cL_law 366 = .ok (.invokevirtual 93, 3) := by decide +kernel
theorem dL_law_369 : decode cL_law 369 = .ok (.iload 6, 2) := by decide +kernel
theorem dL_law_371 : decode cL_law 371 = .ok (.if_icmp .eq 5, 3) := by decide +kernel
theorem dL_law_374 : decode cL_law 374 = .ok (.iconst 0, 1) := by decide +kernel
theorem dL_law_375 : decode cL_law 375 = .ok (.ireturn, 1) := by decide +kernel
theorem dL_law_376 : decode cL_law 376 = .ok (.iload 6, 2) := by decide +kernel
theorem dL_law_378 : decode cL_law 378 = .ok (.ifCond .ne 15, 3) := by decide +kernel
theorem dL_law_381 : decode cL_law 381 = .ok (.aload_n 3, 1) := by decide +kernel
theorem dL_law_382 : decode cL_law 382 = .ok (.iconst 0, 1) := by decide +kernel
theorem dL_law_383 : decode cL_law 383 = .ok (.laload, 1) := by decide +kernel
theorem dL_law_384 : decode cL_law 384 = .ok (.iload 7, 2) := by decide +kernel
theorem dL_law_386 : decode cL_law 386 = .ok (.i2l, 1) := by decide +kernel
theorem dL_law_387 : decode cL_law 387 = .ok (.lcmp, 1) := by decide +kernel
theorem dL_law_388 : decode cL_law 388 = .ok (.ifCond .eq 5, 3) := by decide +kernel
theorem dL_law_391 : decode cL_law 391 = .ok (.iconst 0, 1) := by decide +kernel
theorem dL_law_392 : decode cL_law 392 = .ok (.ireturn, 1) := by decide +kernel
theorem dL_law_393 : decode cL_law 393 = .ok (.goto 1198, 3) := by decide +kernel
theorem dL_law_396 : decode cL_law 396 = .ok (.aload_n 1, 1) := by decide +kernel
theorem dL_law_397 : decode cL_law 397 = .ok (.aload_n 0, 1) := by decide +kernel
theorem dL_law_398 : decode cL_law 398 = .ok (.iload 5, 2) := by decide +kernel
theorem dL_law_400 : decode cL_law 400 = .ok (.iconst 1, 1) := by decide +kernel
theorem dL_law_401 : decode cL_law 401 = .ok (.iadd, 1) := by decide +kernel
theorem dL_law_402 : decode cL_law 402 = .ok (.iaload, 1) := by decide +kernel
theorem dL_law_403 : decode cL_law 403 = .ok (.aload_n 0, 1) := by decide +kernel
theorem dL_law_404 : decode cL_law 404 = .ok (.iload 5, 2) := by decide +kernel
theorem dL_law_406 : decode cL_law 406 = .ok (.iconst 2, 1) := by decide +kernel
theorem dL_law_407 : decode cL_law 407 = .ok (.iadd, 1) := by decide +kernel
theorem dL_law_408 : decode cL_law 408 = .ok (.iaload, 1) := by decide +kernel
theorem dL_law_409 : decode cL_law 409 = .ok (.aload_n 0, 1) := by decide +kernel
theorem dL_law_410 : decode cL_law 410 = .ok (.iload 5, 2) := by decide +kernel
theorem dL_law_412 : decode cL_law 412 = .ok (.iconst 3, 1) := by decide +kernel
theorem dL_law_413 : decode cL_law 413 = .ok (.iadd, 1) := by decide +kernel
theorem dL_law_414 : decode cL_law 414 = .ok (.iaload, 1) := by decide +kernel
theorem dL_law_415 : decode cL_law 415 = .ok (.aload_n 3, 1) := by decide +kernel
theorem dL_law_416 : decode cL_law 416 = .ok (.invokestatic 103, 3) := by decide +kernel
theorem dL_law_419 : decode cL_law 419 = .ok (.istore 6, 2) := by decide +kernel
theorem dL_law_421 : decode cL_law 421 = .ok (.aload_n 2, 1) := by decide +kernel
theorem dL_law_422 : decode cL_law 422 = .ok (.aload_n 0, 1) := by decide +kernel
theorem dL_law_423 : decode cL_law 423 = .ok (.iload 5, 2) := by decide +kernel
theorem dL_law_425 : decode cL_law 425 = .ok (.iconst 1, 1) := by decide +kernel
theorem dL_law_426 : decode cL_law 426 = .ok (.iadd, 1) := by decide +kernel
theorem dL_law_427 : decode cL_law 427 = .ok (.iaload, 1) := by decide +kernel
theorem dL_law_428 : decode cL_law 428 = .ok (.aload_n 0, 1) := by decide +kernel
theorem dL_law_429 : decode cL_law 429 = .ok (.iload 5, 2) := by decide +kernel
theorem dL_law_431 : decode cL_law 431 = .ok (.iconst 2, 1) := by decide +kernel
theorem dL_law_432 : decode cL_law 432 = .ok (.iadd, 1) := by decide +kernel
theorem dL_law_433 : decode cL_law 433 = .ok (.iaload, 1) := by decide +kernel
theorem dL_law_434 : decode cL_law 434 = .ok (.aload_n 0, 1) := by decide +kernel
theorem dL_law_435 : decode cL_law 435 = .ok (.iload 5, 2) := by decide +kernel
theorem dL_law_437 : decode cL_law 437 = .ok (.iconst 3, 1) := by decide +kernel
theorem dL_law_438 : decode cL_law 438 = .ok (.iadd, 1) := by decide +kernel
theorem dL_law_439 : decode cL_law 439 = .ok (.iaload, 1) := by decide +kernel
theorem dL_law_440 : decode cL_law 440 = .ok (.invokevirtual 105, 3) := by decide +kernel
theorem dL_law_443 : decode cL_law 443 = .ok (.istore 7, 2) := by decide +kernel
theorem dL_law_445 : decode cL_law 445 = .ok (.aload_n 2, 1) := by decide +kernel
theorem dL_law_446 : decode cL_law 446 = .ok (.invokevirtual 93, 3) := by decide +kernel
theorem dL_law_449 : decode cL_law 449 = .ok (.iload 6, 2) := by decide +kernel
theorem dL_law_451 : decode cL_law 451 = .ok (.if_icmp .eq 5, 3) := by decide +kernel
theorem dL_law_454 : decode cL_law 454 = .ok (.iconst 0, 1) := by decide +kernel
theorem dL_law_455 : decode cL_law 455 = .ok (.ireturn, 1) := by decide +kernel
theorem dL_law_456 : decode cL_law 456 = .ok (.iload 6, 2) := by decide +kernel
theorem dL_law_458 : decode cL_law 458 = .ok (.ifCond .ne 15, 3) := by decide +kernel
theorem dL_law_461 : decode cL_law 461 = .ok (.aload_n 3, 1) := by decide +kernel
theorem dL_law_462 : decode cL_law 462 = .ok (.iconst 0, 1) := by decide +kernel
theorem dL_law_463 : decode cL_law 463 = .ok (.laload, 1) := by decide +kernel
theorem dL_law_464 : decode cL_law 464 = .ok (.iload 7, 2) := by decide +kernel
theorem dL_law_466 : decode cL_law 466 = .ok (.i2l, 1) := by decide +kernel
theorem dL_law_467 : decode cL_law 467 = .ok (.lcmp, 1) := by decide +kernel
theorem dL_law_468 : decode cL_law 468 = .ok (.ifCond .eq 5, 3) := by decide +kernel
theorem dL_law_471 : decode cL_law 471 = .ok (.iconst 0, 1) := by decide +kernel
theorem dL_law_472 : decode cL_law 472 = .ok (.ireturn, 1) := by decide +kernel
theorem dL_law_473 : decode cL_law 473 = .ok (.goto 1118, 3) := by decide +kernel
theorem dL_law_476 : decode cL_law 476 = .ok (.aload_n 1, 1) := by decide +kernel
theorem dL_law_477 : decode cL_law 477 = .ok (.aload_n 0, 1) := by decide +kernel
theorem dL_law_478 : decode cL_law 478 = .ok (.iload 5, 2) := by decide +kernel
theorem dL_law_480 : decode cL_law 480 = .ok (.iconst 1, 1) := by decide +kernel
theorem dL_law_481 : decode cL_law 481 = .ok (.iadd, 1) := by decide +kernel
theorem dL_law_482 : decode cL_law 482 = .ok (.iaload, 1) := by decide +kernel
theorem dL_law_483 : decode cL_law 483 = .ok (.aload_n 0, 1) := by decide +kernel
theorem dL_law_484 : decode cL_law 484 = .ok (.iload 5, 2) := by decide +kernel
theorem dL_law_486 : decode cL_law 486 = .ok (.iconst 2, 1) := by decide +kernel
theorem dL_law_487 : decode cL_law 487 = .ok (.iadd, 1) := by decide +kernel
theorem dL_law_488 : decode cL_law 488 = .ok (.iaload, 1) := by decide +kernel
theorem dL_law_489 : decode cL_law 489 = .ok (.aload_n 3, 1) := by decide +kernel
theorem dL_law_490 : decode cL_law 490 = .ok (.invokestatic 106, 3) := by decide +kernel
theorem dL_law_493 : decode cL_law 493 = .ok (.istore 6, 2) := by decide +kernel
theorem dL_law_495 : decode cL_law 495 = .ok (.aload_n 2, 1) := by decide +kernel
theorem dL_law_496 : decode cL_law 496 = .ok (.aload_n 0, 1) := by decide +kernel
theorem dL_law_497 : decode cL_law 497 = .ok (.iload 5, 2) := by decide +kernel
theorem dL_law_499 : decode cL_law 499 = .ok (.iconst 1, 1) := by decide +kernel
theorem dL_law_500 : decode cL_law 500 = .ok (.iadd, 1) := by decide +kernel
theorem dL_law_501 : decode cL_law 501 = .ok (.iaload, 1) := by decide +kernel
theorem dL_law_502 : decode cL_law 502 = .ok (.aload_n 0, 1) := by decide +kernel
theorem dL_law_503 : decode cL_law 503 = .ok (.iload 5, 2) := by decide +kernel
theorem dL_law_505 : decode cL_law 505 = .ok (.iconst 2, 1) := by decide +kernel
theorem dL_law_506 : decode cL_law 506 = .ok (.iadd, 1) := by decide +kernel
theorem dL_law_507 : decode cL_law 507 = .ok (.iaload, 1) := by decide +kernel
theorem dL_law_508 : decode cL_law 508 = .ok (.invokevirtual 109, 3) := by decide +kernel
theorem dL_law_511 : decode cL_law 511 = .ok (.istore 7, 2) := by decide +kernel
theorem dL_law_513 : decode cL_law 513 = .ok (.aload_n 2, 1) := by decide +kernel
theorem dL_law_514 : decode cL_law 514 = .ok (.invokevirtual 93, 3) := by decide +kernel
theorem dL_law_517 : decode cL_law 517 = .ok (.iload 6, 2) := by decide +kernel
theorem dL_law_519 : decode cL_law 519 = .ok (.if_icmp .eq 5, 3) := by decide +kernel
theorem dL_law_522 : decode cL_law 522 = .ok (.iconst 0, 1) := by decide +kernel
theorem dL_law_523 : decode cL_law 523 = .ok (.ireturn, 1) := by decide +kernel
theorem dL_law_524 : decode cL_law 524 = .ok (.iload 6, 2) := by decide +kernel
theorem dL_law_526 : decode cL_law 526 = .ok (.ifCond .ne 15, 3) := by decide +kernel
theorem dL_law_529 : decode cL_law 529 = .ok (.aload_n 3, 1) := by decide +kernel
theorem dL_law_530 : decode cL_law 530 = .ok (.iconst 0, 1) := by decide +kernel
theorem dL_law_531 : decode cL_law 531 = .ok (.laload, 1) := by decide +kernel
theorem dL_law_532 : decode cL_law 532 = .ok (.iload 7, 2) := by decide +kernel
theorem dL_law_534 : decode cL_law 534 = .ok (.i2l, 1) := by decide +kernel
theorem dL_law_535 : decode cL_law 535 = .ok (.lcmp, 1) := by decide +kernel
theorem dL_law_536 : decode cL_law 536 = .ok (.ifCond .eq 5, 3) := by decide +kernel
theorem dL_law_539 : decode cL_law 539 = .ok (.iconst 0, 1) := by decide +kernel
theorem dL_law_540 : decode cL_law 540 = .ok (.ireturn, 1) := by decide +kernel
theorem dL_law_541 : decode cL_law 541 = .ok (.goto 1050, 3) := by decide +kernel
theorem dL_law_544 : decode cL_law 544 = .ok (.aload_n 1, 1) := by decide +kernel
theorem dL_law_545 : decode cL_law 545 = .ok (.invokevirtual 110, 3) := by decide +kernel
theorem dL_law_548 : decode cL_law 548 = .ok (.aload_n 2, 1) := by decide +kernel
theorem dL_law_549 : decode cL_law 549 = .ok (.invokevirtual 113, 3) := by decide +kernel
theorem dL_law_552 : decode cL_law 552 = .ok (.if_icmp .eq 1039, 3) := by decide +kernel
theorem dL_law_555 : decode cL_law 555 = .ok (.iconst 0, 1) := by decide +kernel
theorem dL_law_556 : decode cL_law 556 = .ok (.ireturn, 1) := by decide +kernel
theorem dL_law_557 : decode cL_law 557 = .ok (.aload_n 1, 1) := by decide +kernel
theorem dL_law_558 : decode cL_law 558 = .ok (.aload_n 0, 1) := by decide +kernel
theorem dL_law_559 : decode cL_law 559 = .ok (.iload 5, 2) := by decide +kernel
theorem dL_law_561 : decode cL_law 561 = .ok (.iconst 1, 1) := by decide +kernel
theorem dL_law_562 : decode cL_law 562 = .ok (.iadd, 1) := by decide +kernel
theorem dL_law_563 : decode cL_law 563 = .ok (.iaload, 1) := by decide +kernel
theorem dL_law_564 : decode cL_law 564 = .ok (.aload_n 3, 1) := by decide +kernel
theorem dL_law_565 : decode cL_law 565 = .ok (.invokestatic 114, 3) := by decide +kernel
theorem dL_law_568 : decode cL_law 568 = .ok (.istore 6, 2) := by decide +kernel
theorem dL_law_570 : decode cL_law 570 = .ok (.aload_n 2, 1) := by decide +kernel
theorem dL_law_571 : decode cL_law 571 = .ok (.aload_n 0, 1) := by decide +kernel
theorem dL_law_572 : decode cL_law 572 = .ok (.iload 5, 2) := by decide +kernel
theorem dL_law_574 : decode cL_law 574 = .ok (.iconst 1, 1) := by decide +kernel
theorem dL_law_575 : decode cL_law 575 = .ok (.iadd, 1) := by decide +kernel
theorem dL_law_576 : decode cL_law 576 = .ok (.iaload, 1) := by decide +kernel
theorem dL_law_577 : decode cL_law 577 = .ok (.invokevirtual 116, 3) := by decide +kernel
theorem dL_law_580 : decode cL_law 580 = .ok (.istore 7, 2) := by decide +kernel
theorem dL_law_582 : decode cL_law 582 = .ok (.aload_n 2, 1) := by decide +kernel
theorem dL_law_583 : decode cL_law 583 = .ok (.invokevirtual 93, 3) := by decide +kernel
theorem dL_law_586 : decode cL_law 586 = .ok (.iload 6, 2) := by decide +kernel
theorem dL_law_588 : decode cL_law 588 = .ok (.if_icmp .eq 5, 3) := by decide +kernel
theorem dL_law_591 : decode cL_law 591 = .ok (.iconst 0, 1) := by decide +kernel
theorem dL_law_592 : decode cL_law 592 = .ok (.ireturn, 1) := by decide +kernel
theorem dL_law_593 : decode cL_law 593 = .ok (.iload 6, 2) := by decide +kernel
theorem dL_law_595 : decode cL_law 595 = .ok (.ifCond .ne 15, 3) := by decide +kernel
theorem dL_law_598 : decode cL_law 598 = .ok (.aload_n 3, 1) := by decide +kernel
theorem dL_law_599 : decode cL_law 599 = .ok (.iconst 0, 1) := by decide +kernel
theorem dL_law_600 : decode cL_law 600 = .ok (.laload, 1) := by decide +kernel
theorem dL_law_601 : decode cL_law 601 = .ok (.iload 7, 2) := by decide +kernel
theorem dL_law_603 : decode cL_law 603 = .ok (.i2l, 1) := by decide +kernel
theorem dL_law_604 : decode cL_law 604 = .ok (.lcmp, 1) := by decide +kernel
theorem dL_law_605 : decode cL_law 605 = .ok (.ifCond .eq 5, 3) := by decide +kernel
theorem dL_law_608 : decode cL_law 608 = .ok (.iconst 0, 1) := by decide +kernel
theorem dL_law_609 : decode cL_law 609 = .ok (.ireturn, 1) := by decide +kernel
theorem dL_law_610 : decode cL_law 610 = .ok (.goto 981, 3) := by decide +kernel
theorem dL_law_613 : decode cL_law 613 = .ok (.aload_n 1, 1) := by decide +kernel
theorem dL_law_614 : decode cL_law 614 = .ok (.aload_n 0, 1) := by decide +kernel
theorem dL_law_615 : decode cL_law 615 = .ok (.iload 5, 2) := by decide +kernel
theorem dL_law_617 : decode cL_law 617 = .ok (.iconst 1, 1) := by decide +kernel
theorem dL_law_618 : decode cL_law 618 = .ok (.iadd, 1) := by decide +kernel
theorem dL_law_619 : decode cL_law 619 = .ok (.iaload, 1) := by decide +kernel
theorem dL_law_620 : decode cL_law 620 = .ok (.aload_n 0, 1) := by decide +kernel
theorem dL_law_621 : decode cL_law 621 = .ok (.iload 5, 2) := by decide +kernel
theorem dL_law_623 : decode cL_law 623 = .ok (.iconst 2, 1) := by decide +kernel
theorem dL_law_624 : decode cL_law 624 = .ok (.iadd, 1) := by decide +kernel
theorem dL_law_625 : decode cL_law 625 = .ok (.iaload, 1) := by decide +kernel
theorem dL_law_626 : decode cL_law 626 = .ok (.aload_n 3, 1) := by decide +kernel
theorem dL_law_627 : decode cL_law 627 = .ok (.invokestatic 117, 3) := by decide +kernel
theorem dL_law_630 : decode cL_law 630 = .ok (.istore 6, 2) := by decide +kernel
theorem dL_law_632 : decode cL_law 632 = .ok (.aload_n 2, 1) := by decide +kernel
theorem dL_law_633 : decode cL_law 633 = .ok (.aload_n 0, 1) := by decide +kernel
theorem dL_law_634 : decode cL_law 634 = .ok (.iload 5, 2) := by decide +kernel
theorem dL_law_636 : decode cL_law 636 = .ok (.iconst 1, 1) := by decide +kernel
theorem dL_law_637 : decode cL_law 637 = .ok (.iadd, 1) := by decide +kernel
theorem dL_law_638 : decode cL_law 638 = .ok (.iaload, 1) := by decide +kernel
theorem dL_law_639 : decode cL_law 639 = .ok (.aload_n 0, 1) := by decide +kernel
theorem dL_law_640 : decode cL_law 640 = .ok (.iload 5, 2) := by decide +kernel
theorem dL_law_642 : decode cL_law 642 = .ok (.iconst 2, 1) := by decide +kernel
theorem dL_law_643 : decode cL_law 643 = .ok (.iadd, 1) := by decide +kernel
theorem dL_law_644 : decode cL_law 644 = .ok (.iaload, 1) := by decide +kernel
theorem dL_law_645 : decode cL_law 645 = .ok (.invokevirtual 119, 3) := by decide +kernel
theorem dL_law_648 : decode cL_law 648 = .ok (.istore 7, 2) := by decide +kernel
theorem dL_law_650 : decode cL_law 650 = .ok (.aload_n 2, 1) := by decide +kernel
theorem dL_law_651 : decode cL_law 651 = .ok (.invokevirtual 93, 3) := by decide +kernel
theorem dL_law_654 : decode cL_law 654 = .ok (.iload 6, 2) := by decide +kernel
theorem dL_law_656 : decode cL_law 656 = .ok (.if_icmp .eq 5, 3) := by decide +kernel
theorem dL_law_659 : decode cL_law 659 = .ok (.iconst 0, 1) := by decide +kernel
theorem dL_law_660 : decode cL_law 660 = .ok (.ireturn, 1) := by decide +kernel
theorem dL_law_661 : decode cL_law 661 = .ok (.iload 6, 2) := by decide +kernel
theorem dL_law_663 : decode cL_law 663 = .ok (.ifCond .ne 15, 3) := by decide +kernel
theorem dL_law_666 : decode cL_law 666 = .ok (.aload_n 3, 1) := by decide +kernel
theorem dL_law_667 : decode cL_law 667 = .ok (.iconst 0, 1) := by decide +kernel
theorem dL_law_668 : decode cL_law 668 = .ok (.laload, 1) := by decide +kernel
theorem dL_law_669 : decode cL_law 669 = .ok (.iload 7, 2) := by decide +kernel
theorem dL_law_671 : decode cL_law 671 = .ok (.i2l, 1) := by decide +kernel
theorem dL_law_672 : decode cL_law 672 = .ok (.lcmp, 1) := by decide +kernel
theorem dL_law_673 : decode cL_law 673 = .ok (.ifCond .eq 5, 3) := by decide +kernel
theorem dL_law_676 : decode cL_law 676 = .ok (.iconst 0, 1) := by decide +kernel
theorem dL_law_677 : decode cL_law 677 = .ok (.ireturn, 1) := by decide +kernel
theorem dL_law_678 : decode cL_law 678 = .ok (.goto 913, 3) := by decide +kernel
theorem dL_law_681 : decode cL_law 681 = .ok (.aload_n 1, 1) := by decide +kernel
theorem dL_law_682 : decode cL_law 682 = .ok (.aload_n 0, 1) := by decide +kernel
theorem dL_law_683 : decode cL_law 683 = .ok (.iload 5, 2) := by decide +kernel
theorem dL_law_685 : decode cL_law 685 = .ok (.iconst 1, 1) := by decide +kernel
theorem dL_law_686 : decode cL_law 686 = .ok (.iadd, 1) := by decide +kernel
theorem dL_law_687 : decode cL_law 687 = .ok (.iaload, 1) := by decide +kernel
theorem dL_law_688 : decode cL_law 688 = .ok (.aload_n 0, 1) := by decide +kernel
theorem dL_law_689 : decode cL_law 689 = .ok (.iload 5, 2) := by decide +kernel
theorem dL_law_691 : decode cL_law 691 = .ok (.iconst 2, 1) := by decide +kernel
theorem dL_law_692 : decode cL_law 692 = .ok (.iadd, 1) := by decide +kernel
theorem dL_law_693 : decode cL_law 693 = .ok (.iaload, 1) := by decide +kernel
theorem dL_law_694 : decode cL_law 694 = .ok (.aload_n 3, 1) := by decide +kernel
theorem dL_law_695 : decode cL_law 695 = .ok (.invokestatic 120, 3) := by decide +kernel
theorem dL_law_698 : decode cL_law 698 = .ok (.istore 6, 2) := by decide +kernel
theorem dL_law_700 : decode cL_law 700 = .ok (.aload_n 2, 1) := by decide +kernel
theorem dL_law_701 : decode cL_law 701 = .ok (.aload_n 0, 1) := by decide +kernel
theorem dL_law_702 : decode cL_law 702 = .ok (.iload 5, 2) := by decide +kernel
theorem dL_law_704 : decode cL_law 704 = .ok (.iconst 1, 1) := by decide +kernel
theorem dL_law_705 : decode cL_law 705 = .ok (.iadd, 1) := by decide +kernel
theorem dL_law_706 : decode cL_law 706 = .ok (.iaload, 1) := by decide +kernel
theorem dL_law_707 : decode cL_law 707 = .ok (.aload_n 0, 1) := by decide +kernel
theorem dL_law_708 : decode cL_law 708 = .ok (.iload 5, 2) := by decide +kernel
theorem dL_law_710 : decode cL_law 710 = .ok (.iconst 2, 1) := by decide +kernel
theorem dL_law_711 : decode cL_law 711 = .ok (.iadd, 1) := by decide +kernel
theorem dL_law_712 : decode cL_law 712 = .ok (.iaload, 1) := by decide +kernel
theorem dL_law_713 : decode cL_law 713 = .ok (.invokevirtual 122, 3) := by decide +kernel
theorem dL_law_716 : decode cL_law 716 = .ok (.istore 7, 2) := by decide +kernel
theorem dL_law_718 : decode cL_law 718 = .ok (.aload_n 2, 1) := by decide +kernel
theorem dL_law_719 : decode cL_law 719 = .ok (.invokevirtual 93, 3) := by decide +kernel
theorem dL_law_722 : decode cL_law 722 = .ok (.iload 6, 2) := by decide +kernel
theorem dL_law_724 : decode cL_law 724 = .ok (.if_icmp .eq 5, 3) := by decide +kernel
theorem dL_law_727 : decode cL_law 727 = .ok (.iconst 0, 1) := by decide +kernel
theorem dL_law_728 : decode cL_law 728 = .ok (.ireturn, 1) := by decide +kernel
theorem dL_law_729 : decode cL_law 729 = .ok (.iload 6, 2) := by decide +kernel
theorem dL_law_731 : decode cL_law 731 = .ok (.ifCond .ne 15, 3) := by decide +kernel
theorem dL_law_734 : decode cL_law 734 = .ok (.aload_n 3, 1) := by decide +kernel
theorem dL_law_735 : decode cL_law 735 = .ok (.iconst 0, 1) := by decide +kernel
theorem dL_law_736 : decode cL_law 736 = .ok (.laload, 1) := by decide +kernel
theorem dL_law_737 : decode cL_law 737 = .ok (.iload 7, 2) := by decide +kernel
theorem dL_law_739 : decode cL_law 739 = .ok (.i2l, 1) := by decide +kernel
theorem dL_law_740 : decode cL_law 740 = .ok (.lcmp, 1) := by decide +kernel
theorem dL_law_741 : decode cL_law 741 = .ok (.ifCond .eq 5, 3) := by decide +kernel
theorem dL_law_744 : decode cL_law 744 = .ok (.iconst 0, 1) := by decide +kernel
theorem dL_law_745 : decode cL_law 745 = .ok (.ireturn, 1) := by decide +kernel
theorem dL_law_746 : decode cL_law 746 = .ok (.goto 845, 3) := by decide +kernel
theorem dL_law_749 : decode cL_law 749 = .ok (.aload_n 1, 1) := by decide +kernel
theorem dL_law_750 : decode cL_law 750 = .ok (.aload_n 0, 1) := by decide +kernel
theorem dL_law_751 : decode cL_law 751 = .ok (.iload 5, 2) := by decide +kernel
theorem dL_law_753 : decode cL_law 753 = .ok (.iconst 1, 1) := by decide +kernel
theorem dL_law_754 : decode cL_law 754 = .ok (.iadd, 1) := by decide +kernel
theorem dL_law_755 : decode cL_law 755 = .ok (.iaload, 1) := by decide +kernel
theorem dL_law_756 : decode cL_law 756 = .ok (.aload_n 0, 1) := by decide +kernel
theorem dL_law_757 : decode cL_law 757 = .ok (.iload 5, 2) := by decide +kernel
theorem dL_law_759 : decode cL_law 759 = .ok (.iconst 2, 1) := by decide +kernel
theorem dL_law_760 : decode cL_law 760 = .ok (.iadd, 1) := by decide +kernel
theorem dL_law_761 : decode cL_law 761 = .ok (.iaload, 1) := by decide +kernel
theorem dL_law_762 : decode cL_law 762 = .ok (.aload_n 3, 1) := by decide +kernel
theorem dL_law_763 : decode cL_law 763 = .ok (.invokestatic 123, 3) := by decide +kernel
theorem dL_law_766 : decode cL_law 766 = .ok (.istore 6, 2) := by decide +kernel
theorem dL_law_768 : decode cL_law 768 = .ok (.aload_n 2, 1) := by decide +kernel
theorem dL_law_769 : decode cL_law 769 = .ok (.aload_n 0, 1) := by decide +kernel
theorem dL_law_770 : decode cL_law 770 = .ok (.iload 5, 2) := by decide +kernel
theorem dL_law_772 : decode cL_law 772 = .ok (.iconst 1, 1) := by decide +kernel
theorem dL_law_773 : decode cL_law 773 = .ok (.iadd, 1) := by decide +kernel
theorem dL_law_774 : decode cL_law 774 = .ok (.iaload, 1) := by decide +kernel
theorem dL_law_775 : decode cL_law 775 = .ok (.aload_n 0, 1) := by decide +kernel
theorem dL_law_776 : decode cL_law 776 = .ok (.iload 5, 2) := by decide +kernel
theorem dL_law_778 : decode cL_law 778 = .ok (.iconst 2, 1) := by decide +kernel
theorem dL_law_779 : decode cL_law 779 = .ok (.iadd, 1) := by decide +kernel
theorem dL_law_780 : decode cL_law 780 = .ok (.iaload, 1) := by decide +kernel
theorem dL_law_781 : decode cL_law 781 = .ok (.invokevirtual 125, 3) := by decide +kernel
theorem dL_law_784 : decode cL_law 784 = .ok (.istore 7, 2) := by decide +kernel
theorem dL_law_786 : decode cL_law 786 = .ok (.aload_n 2, 1) := by decide +kernel
theorem dL_law_787 : decode cL_law 787 = .ok (.invokevirtual 93, 3) := by decide +kernel
theorem dL_law_790 : decode cL_law 790 = .ok (.iload 6, 2) := by decide +kernel
theorem dL_law_792 : decode cL_law 792 = .ok (.if_icmp .eq 5, 3) := by decide +kernel
theorem dL_law_795 : decode cL_law 795 = .ok (.iconst 0, 1) := by decide +kernel
theorem dL_law_796 : decode cL_law 796 = .ok (.ireturn, 1) := by decide +kernel
theorem dL_law_797 : decode cL_law 797 = .ok (.iload 6, 2) := by decide +kernel
theorem dL_law_799 : decode cL_law 799 = .ok (.ifCond .ne 15, 3) := by decide +kernel
theorem dL_law_802 : decode cL_law 802 = .ok (.aload_n 3, 1) := by decide +kernel
theorem dL_law_803 : decode cL_law 803 = .ok (.iconst 0, 1) := by decide +kernel
theorem dL_law_804 : decode cL_law 804 = .ok (.laload, 1) := by decide +kernel
theorem dL_law_805 : decode cL_law 805 = .ok (.iload 7, 2) := by decide +kernel
theorem dL_law_807 : decode cL_law 807 = .ok (.i2l, 1) := by decide +kernel
theorem dL_law_808 : decode cL_law 808 = .ok (.lcmp, 1) := by decide +kernel
theorem dL_law_809 : decode cL_law 809 = .ok (.ifCond .eq 5, 3) := by decide +kernel
theorem dL_law_812 : decode cL_law 812 = .ok (.iconst 0, 1) := by decide +kernel
theorem dL_law_813 : decode cL_law 813 = .ok (.ireturn, 1) := by decide +kernel
theorem dL_law_814 : decode cL_law 814 = .ok (.goto 777, 3) := by decide +kernel
theorem dL_law_817 : decode cL_law 817 = .ok (.aload_n 1, 1) := by decide +kernel
theorem dL_law_818 : decode cL_law 818 = .ok (.aload_n 0, 1) := by decide +kernel
theorem dL_law_819 : decode cL_law 819 = .ok (.iload 5, 2) := by decide +kernel
theorem dL_law_821 : decode cL_law 821 = .ok (.iconst 1, 1) := by decide +kernel
theorem dL_law_822 : decode cL_law 822 = .ok (.iadd, 1) := by decide +kernel
theorem dL_law_823 : decode cL_law 823 = .ok (.iaload, 1) := by decide +kernel
theorem dL_law_824 : decode cL_law 824 = .ok (.aload_n 3, 1) := by decide +kernel
theorem dL_law_825 : decode cL_law 825 = .ok (.invokestatic 126, 3) := by decide +kernel
theorem dL_law_828 : decode cL_law 828 = .ok (.istore 6, 2) := by decide +kernel
theorem dL_law_830 : decode cL_law 830 = .ok (.aload_n 2, 1) := by decide +kernel
theorem dL_law_831 : decode cL_law 831 = .ok (.aload_n 0, 1) := by decide +kernel
theorem dL_law_832 : decode cL_law 832 = .ok (.iload 5, 2) := by decide +kernel
theorem dL_law_834 : decode cL_law 834 = .ok (.iconst 1, 1) := by decide +kernel
theorem dL_law_835 : decode cL_law 835 = .ok (.iadd, 1) := by decide +kernel
theorem dL_law_836 : decode cL_law 836 = .ok (.iaload, 1) := by decide +kernel
theorem dL_law_837 : decode cL_law 837 = .ok (.invokevirtual 128, 3) := by decide +kernel
theorem dL_law_840 : decode cL_law 840 = .ok (.istore 7, 2) := by decide +kernel
theorem dL_law_842 : decode cL_law 842 = .ok (.aload_n 2, 1) := by decide +kernel
theorem dL_law_843 : decode cL_law 843 = .ok (.invokevirtual 93, 3) := by decide +kernel
theorem dL_law_846 : decode cL_law 846 = .ok (.iload 6, 2) := by decide +kernel
theorem dL_law_848 : decode cL_law 848 = .ok (.if_icmp .eq 5, 3) := by decide +kernel
theorem dL_law_851 : decode cL_law 851 = .ok (.iconst 0, 1) := by decide +kernel
theorem dL_law_852 : decode cL_law 852 = .ok (.ireturn, 1) := by decide +kernel
theorem dL_law_853 : decode cL_law 853 = .ok (.iload 6, 2) := by decide +kernel
theorem dL_law_855 : decode cL_law 855 = .ok (.ifCond .ne 15, 3) := by decide +kernel
theorem dL_law_858 : decode cL_law 858 = .ok (.aload_n 3, 1) := by decide +kernel
theorem dL_law_859 : decode cL_law 859 = .ok (.iconst 0, 1) := by decide +kernel
theorem dL_law_860 : decode cL_law 860 = .ok (.laload, 1) := by decide +kernel
theorem dL_law_861 : decode cL_law 861 = .ok (.iload 7, 2) := by decide +kernel
theorem dL_law_863 : decode cL_law 863 = .ok (.i2l, 1) := by decide +kernel
theorem dL_law_864 : decode cL_law 864 = .ok (.lcmp, 1) := by decide +kernel
theorem dL_law_865 : decode cL_law 865 = .ok (.ifCond .eq 5, 3) := by decide +kernel
theorem dL_law_868 : decode cL_law 868 = .ok (.iconst 0, 1) := by decide +kernel
theorem dL_law_869 : decode cL_law 869 = .ok (.ireturn, 1) := by decide +kernel
theorem dL_law_870 : decode cL_law 870 = .ok (.goto 721, 3) := by decide +kernel
theorem dL_law_873 : decode cL_law 873 = .ok (.aload_n 1, 1) := by decide +kernel
theorem dL_law_874 : decode cL_law 874 = .ok (.invokevirtual 129, 3) := by decide +kernel
theorem dL_law_877 : decode cL_law 877 = .ok (.aload_n 2, 1) := by decide +kernel
theorem dL_law_878 : decode cL_law 878 = .ok (.invokevirtual 132, 3) := by decide +kernel
theorem dL_law_881 : decode cL_law 881 = .ok (.if_icmp .eq 710, 3) := by decide +kernel
theorem dL_law_884 : decode cL_law 884 = .ok (.iconst 0, 1) := by decide +kernel
theorem dL_law_885 : decode cL_law 885 = .ok (.ireturn, 1) := by decide +kernel
theorem dL_law_886 : decode cL_law 886 = .ok (.aload_n 1, 1) := by decide +kernel
theorem dL_law_887 : decode cL_law 887 = .ok (.aload_n 0, 1) := by decide +kernel
theorem dL_law_888 : decode cL_law 888 = .ok (.iload 5, 2) := by decide +kernel
theorem dL_law_890 : decode cL_law 890 = .ok (.iconst 1, 1) := by decide +kernel
theorem dL_law_891 : decode cL_law 891 = .ok (.iadd, 1) := by decide +kernel
theorem dL_law_892 : decode cL_law 892 = .ok (.iaload, 1) := by decide +kernel
theorem dL_law_893 : decode cL_law 893 = .ok (.aload_n 3, 1) := by decide +kernel
theorem dL_law_894 : decode cL_law 894 = .ok (.invokestatic 133, 3) := by decide +kernel
theorem dL_law_897 : decode cL_law 897 = .ok (.istore 6, 2) := by decide +kernel
theorem dL_law_899 : decode cL_law 899 = .ok (.aload_n 2, 1) := by decide +kernel
theorem dL_law_900 : decode cL_law 900 = .ok (.aload_n 0, 1) := by decide +kernel
theorem dL_law_901 : decode cL_law 901 = .ok (.iload 5, 2) := by decide +kernel
theorem dL_law_903 : decode cL_law 903 = .ok (.iconst 1, 1) := by decide +kernel
theorem dL_law_904 : decode cL_law 904 = .ok (.iadd, 1) := by decide +kernel
theorem dL_law_905 : decode cL_law 905 = .ok (.iaload, 1) := by decide +kernel
theorem dL_law_906 : decode cL_law 906 = .ok (.invokevirtual 135, 3) := by decide +kernel
theorem dL_law_909 : decode cL_law 909 = .ok (.istore 7, 2) := by decide +kernel
theorem dL_law_911 : decode cL_law 911 = .ok (.aload_n 2, 1) := by decide +kernel
theorem dL_law_912 : decode cL_law 912 = .ok (.invokevirtual 93, 3) := by decide +kernel
theorem dL_law_915 : decode cL_law 915 = .ok (.iload 6, 2) := by decide +kernel
theorem dL_law_917 : decode cL_law 917 = .ok (.if_icmp .eq 5, 3) := by decide +kernel
theorem dL_law_920 : decode cL_law 920 = .ok (.iconst 0, 1) := by decide +kernel
theorem dL_law_921 : decode cL_law 921 = .ok (.ireturn, 1) := by decide +kernel
theorem dL_law_922 : decode cL_law 922 = .ok (.iload 6, 2) := by decide +kernel
theorem dL_law_924 : decode cL_law 924 = .ok (.ifCond .ne 15, 3) := by decide +kernel
theorem dL_law_927 : decode cL_law 927 = .ok (.aload_n 3, 1) := by decide +kernel
theorem dL_law_928 : decode cL_law 928 = .ok (.iconst 0, 1) := by decide +kernel
theorem dL_law_929 : decode cL_law 929 = .ok (.laload, 1) := by decide +kernel
theorem dL_law_930 : decode cL_law 930 = .ok (.iload 7, 2) := by decide +kernel
theorem dL_law_932 : decode cL_law 932 = .ok (.i2l, 1) := by decide +kernel
theorem dL_law_933 : decode cL_law 933 = .ok (.lcmp, 1) := by decide +kernel
theorem dL_law_934 : decode cL_law 934 = .ok (.ifCond .eq 5, 3) := by decide +kernel
theorem dL_law_937 : decode cL_law 937 = .ok (.iconst 0, 1) := by decide +kernel
theorem dL_law_938 : decode cL_law 938 = .ok (.ireturn, 1) := by decide +kernel
theorem dL_law_939 : decode cL_law 939 = .ok (.goto 652, 3) := by decide +kernel
theorem dL_law_942 : decode cL_law 942 = .ok (.aload_n 1, 1) := by decide +kernel
theorem dL_law_943 : decode cL_law 943 = .ok (.aload_n 0, 1) := by decide +kernel
theorem dL_law_944 : decode cL_law 944 = .ok (.iload 5, 2) := by decide +kernel
theorem dL_law_946 : decode cL_law 946 = .ok (.iconst 1, 1) := by decide +kernel
theorem dL_law_947 : decode cL_law 947 = .ok (.iadd, 1) := by decide +kernel
theorem dL_law_948 : decode cL_law 948 = .ok (.iaload, 1) := by decide +kernel
theorem dL_law_949 : decode cL_law 949 = .ok (.aload_n 3, 1) := by decide +kernel
theorem dL_law_950 : decode cL_law 950 = .ok (.invokestatic 136, 3) := by decide +kernel
theorem dL_law_953 : decode cL_law 953 = .ok (.istore 6, 2) := by decide +kernel
theorem dL_law_955 : decode cL_law 955 = .ok (.aload_n 2, 1) := by decide +kernel
theorem dL_law_956 : decode cL_law 956 = .ok (.aload_n 0, 1) := by decide +kernel
theorem dL_law_957 : decode cL_law 957 = .ok (.iload 5, 2) := by decide +kernel
theorem dL_law_959 : decode cL_law 959 = .ok (.iconst 1, 1) := by decide +kernel
theorem dL_law_960 : decode cL_law 960 = .ok (.iadd, 1) := by decide +kernel
theorem dL_law_961 : decode cL_law 961 = .ok (.iaload, 1) := by decide +kernel
theorem dL_law_962 : decode cL_law 962 = .ok (.invokevirtual 138, 3) := by decide +kernel
theorem dL_law_965 : decode cL_law 965 = .ok (.istore 7, 2) := by decide +kernel
theorem dL_law_967 : decode cL_law 967 = .ok (.aload_n 2, 1) := by decide +kernel
theorem dL_law_968 : decode cL_law 968 = .ok (.invokevirtual 93, 3) := by decide +kernel
theorem dL_law_971 : decode cL_law 971 = .ok (.iload 6, 2) := by decide +kernel
theorem dL_law_973 : decode cL_law 973 = .ok (.if_icmp .eq 5, 3) := by decide +kernel
theorem dL_law_976 : decode cL_law 976 = .ok (.iconst 0, 1) := by decide +kernel
theorem dL_law_977 : decode cL_law 977 = .ok (.ireturn, 1) := by decide +kernel
theorem dL_law_978 : decode cL_law 978 = .ok (.iload 6, 2) := by decide +kernel
theorem dL_law_980 : decode cL_law 980 = .ok (.ifCond .ne 15, 3) := by decide +kernel
theorem dL_law_983 : decode cL_law 983 = .ok (.aload_n 3, 1) := by decide +kernel
theorem dL_law_984 : decode cL_law 984 = .ok (.iconst 0, 1) := by decide +kernel
theorem dL_law_985 : decode cL_law 985 = .ok (.laload, 1) := by decide +kernel
theorem dL_law_986 : decode cL_law 986 = .ok (.iload 7, 2) := by decide +kernel
theorem dL_law_988 : decode cL_law 988 = .ok (.i2l, 1) := by decide +kernel
theorem dL_law_989 : decode cL_law 989 = .ok (.lcmp, 1) := by decide +kernel
theorem dL_law_990 : decode cL_law 990 = .ok (.ifCond .eq 5, 3) := by decide +kernel
theorem dL_law_993 : decode cL_law 993 = .ok (.iconst 0, 1) := by decide +kernel
theorem dL_law_994 : decode cL_law 994 = .ok (.ireturn, 1) := by decide +kernel
theorem dL_law_995 : decode cL_law 995 = .ok (.goto 596, 3) := by decide +kernel
theorem dL_law_998 : decode cL_law 998 = .ok (.aload_n 1, 1) := by decide +kernel
theorem dL_law_999 : decode cL_law 999 = .ok (.invokevirtual 139, 3) := by decide +kernel
theorem dL_law_1002 : decode cL_law 1002 = .ok (.aload_n 2, 1) := by decide +kernel
theorem dL_law_1003 : decode cL_law 1003 = .ok (.invokevirtual 142, 3) := by decide +kernel
theorem dL_law_1006 : decode cL_law 1006 = .ok (.if_icmp .eq 585, 3) := by decide +kernel
theorem dL_law_1009 : decode cL_law 1009 = .ok (.iconst 0, 1) := by decide +kernel
theorem dL_law_1010 : decode cL_law 1010 = .ok (.ireturn, 1) := by decide +kernel
theorem dL_law_1011 : decode cL_law 1011 = .ok (.aload_n 1, 1) := by decide +kernel
theorem dL_law_1012 : decode cL_law 1012 = .ok (.aload_n 0, 1) := by decide +kernel
theorem dL_law_1013 : decode cL_law 1013 = .ok (.iload 5, 2) := by decide +kernel
theorem dL_law_1015 : decode cL_law 1015 = .ok (.iconst 1, 1) := by decide +kernel
theorem dL_law_1016 : decode cL_law 1016 = .ok (.iadd, 1) := by decide +kernel
theorem dL_law_1017 : decode cL_law 1017 = .ok (.iaload, 1) := by decide +kernel
theorem dL_law_1018 : decode cL_law 1018 = .ok (.aload_n 3, 1) := by decide +kernel
theorem dL_law_1019 : decode cL_law 1019 = .ok (.invokestatic 143, 3) := by decide +kernel
theorem dL_law_1022 : decode cL_law 1022 = .ok (.istore 6, 2) := by decide +kernel
theorem dL_law_1024 : decode cL_law 1024 = .ok (.aload_n 2, 1) := by decide +kernel
theorem dL_law_1025 : decode cL_law 1025 = .ok (.aload_n 0, 1) := by decide +kernel
theorem dL_law_1026 : decode cL_law 1026 = .ok (.iload 5, 2) := by decide +kernel
theorem dL_law_1028 : decode cL_law 1028 = .ok (.iconst 1, 1) := by decide +kernel
theorem dL_law_1029 : decode cL_law 1029 = .ok (.iadd, 1) := by decide +kernel
theorem dL_law_1030 : decode cL_law 1030 = .ok (.iaload, 1) := by decide +kernel
theorem dL_law_1031 : decode cL_law 1031 = .ok (.invokevirtual 145, 3) := by decide +kernel
theorem dL_law_1034 : decode cL_law 1034 = .ok (.istore 7, 2) := by decide +kernel
theorem dL_law_1036 : decode cL_law 1036 = .ok (.aload_n 2, 1) := by decide +kernel
theorem dL_law_1037 : decode cL_law 1037 = .ok (.invokevirtual 93, 3) := by decide +kernel
theorem dL_law_1040 : decode cL_law 1040 = .ok (.iload 6, 2) := by decide +kernel
theorem dL_law_1042 : decode cL_law 1042 = .ok (.if_icmp .eq 5, 3) := by decide +kernel
theorem dL_law_1045 : decode cL_law 1045 = .ok (.iconst 0, 1) := by decide +kernel
theorem dL_law_1046 : decode cL_law 1046 = .ok (.ireturn, 1) := by decide +kernel
theorem dL_law_1047 : decode cL_law 1047 = .ok (.iload 6, 2) := by decide +kernel
theorem dL_law_1049 : decode cL_law 1049 = .ok (.ifCond .ne 15, 3) := by decide +kernel
theorem dL_law_1052 : decode cL_law 1052 = .ok (.aload_n 3, 1) := by decide +kernel
theorem dL_law_1053 : decode cL_law 1053 = .ok (.iconst 0, 1) := by decide +kernel
theorem dL_law_1054 : decode cL_law 1054 = .ok (.laload, 1) := by decide +kernel
theorem dL_law_1055 : decode cL_law 1055 = .ok (.iload 7, 2) := by decide +kernel
theorem dL_law_1057 : decode cL_law 1057 = .ok (.i2l, 1) := by decide +kernel
theorem dL_law_1058 : decode cL_law 1058 = .ok (.lcmp, 1) := by decide +kernel
theorem dL_law_1059 : decode cL_law 1059 = .ok (.ifCond .eq 5, 3) := by decide +kernel
theorem dL_law_1062 : decode cL_law 1062 = .ok (.iconst 0, 1) := by decide +kernel
theorem dL_law_1063 : decode cL_law 1063 = .ok (.ireturn, 1) := by decide +kernel
theorem dL_law_1064 : decode cL_law 1064 = .ok (.goto 527, 3) := by decide +kernel
theorem dL_law_1067 : decode cL_law 1067 = .ok (.aload_n 1, 1) := by decide +kernel
theorem dL_law_1068 : decode cL_law 1068 = .ok (.aload_n 0, 1) := by decide +kernel
theorem dL_law_1069 : decode cL_law 1069 = .ok (.iload 5, 2) := by decide +kernel
theorem dL_law_1071 : decode cL_law 1071 = .ok (.iconst 1, 1) := by decide +kernel
theorem dL_law_1072 : decode cL_law 1072 = .ok (.iadd, 1) := by decide +kernel
theorem dL_law_1073 : decode cL_law 1073 = .ok (.iaload, 1) := by decide +kernel
theorem dL_law_1074 : decode cL_law 1074 = .ok (.aload_n 3, 1) := by decide +kernel
theorem dL_law_1075 : decode cL_law 1075 = .ok (.invokestatic 146, 3) := by decide +kernel
theorem dL_law_1078 : decode cL_law 1078 = .ok (.istore 6, 2) := by decide +kernel
theorem dL_law_1080 : decode cL_law 1080 = .ok (.aload_n 2, 1) := by decide +kernel
theorem dL_law_1081 : decode cL_law 1081 = .ok (.aload_n 0, 1) := by decide +kernel
theorem dL_law_1082 : decode cL_law 1082 = .ok (.iload 5, 2) := by decide +kernel
theorem dL_law_1084 : decode cL_law 1084 = .ok (.iconst 1, 1) := by decide +kernel
theorem dL_law_1085 : decode cL_law 1085 = .ok (.iadd, 1) := by decide +kernel
theorem dL_law_1086 : decode cL_law 1086 = .ok (.iaload, 1) := by decide +kernel
theorem dL_law_1087 : decode cL_law 1087 = .ok (.invokevirtual 148, 3) := by decide +kernel
theorem dL_law_1090 : decode cL_law 1090 = .ok (.istore 7, 2) := by decide +kernel
theorem dL_law_1092 : decode cL_law 1092 = .ok (.aload_n 2, 1) := by decide +kernel
theorem dL_law_1093 : decode cL_law 1093 = .ok (.invokevirtual 93, 3) := by decide +kernel
theorem dL_law_1096 : decode cL_law 1096 = .ok (.iload 6, 2) := by decide +kernel
theorem dL_law_1098 : decode cL_law 1098 = .ok (.if_icmp .eq 5, 3) := by decide +kernel
theorem dL_law_1101 : decode cL_law 1101 = .ok (.iconst 0, 1) := by decide +kernel
theorem dL_law_1102 : decode cL_law 1102 = .ok (.ireturn, 1) := by decide +kernel
theorem dL_law_1103 : decode cL_law 1103 = .ok (.iload 6, 2) := by decide +kernel
theorem dL_law_1105 : decode cL_law 1105 = .ok (.ifCond .ne 15, 3) := by decide +kernel
theorem dL_law_1108 : decode cL_law 1108 = .ok (.aload_n 3, 1) := by decide +kernel
theorem dL_law_1109 : decode cL_law 1109 = .ok (.iconst 0, 1) := by decide +kernel
theorem dL_law_1110 : decode cL_law 1110 = .ok (.laload, 1) := by decide +kernel
theorem dL_law_1111 : decode cL_law 1111 = .ok (.iload 7, 2) := by decide +kernel
theorem dL_law_1113 : decode cL_law 1113 = .ok (.i2l, 1) := by decide +kernel
theorem dL_law_1114 : decode cL_law 1114 = .ok (.lcmp, 1) := by decide +kernel
theorem dL_law_1115 : decode cL_law 1115 = .ok (.ifCond .eq 5, 3) := by decide +kernel
theorem dL_law_1118 : decode cL_law 1118 = .ok (.iconst 0, 1) := by decide +kernel
theorem dL_law_1119 : decode cL_law 1119 = .ok (.ireturn, 1) := by decide +kernel
theorem dL_law_1120 : decode cL_law 1120 = .ok (.goto 471, 3) := by decide +kernel
theorem dL_law_1123 : decode cL_law 1123 = .ok (.aload_n 1, 1) := by decide +kernel
theorem dL_law_1124 : decode cL_law 1124 = .ok (.aload_n 0, 1) := by decide +kernel
theorem dL_law_1125 : decode cL_law 1125 = .ok (.iload 5, 2) := by decide +kernel
theorem dL_law_1127 : decode cL_law 1127 = .ok (.iconst 1, 1) := by decide +kernel
theorem dL_law_1128 : decode cL_law 1128 = .ok (.iadd, 1) := by decide +kernel
theorem dL_law_1129 : decode cL_law 1129 = .ok (.iaload, 1) := by decide +kernel
theorem dL_law_1130 : decode cL_law 1130 = .ok (.aload_n 0, 1) := by decide +kernel
theorem dL_law_1131 : decode cL_law 1131 = .ok (.iload 5, 2) := by decide +kernel
theorem dL_law_1133 : decode cL_law 1133 = .ok (.iconst 2, 1) := by decide +kernel
theorem dL_law_1134 : decode cL_law 1134 = .ok (.iadd, 1) := by decide +kernel
theorem dL_law_1135 : decode cL_law 1135 = .ok (.iaload, 1) := by decide +kernel
theorem dL_law_1136 : decode cL_law 1136 = .ok (.aload_n 3, 1) := by decide +kernel
theorem dL_law_1137 : decode cL_law 1137 = .ok (.invokestatic 149, 3) := by decide +kernel
theorem dL_law_1140 : decode cL_law 1140 = .ok (.istore 6, 2) := by decide +kernel
theorem dL_law_1142 : decode cL_law 1142 = .ok (.aload_n 2, 1) := by decide +kernel
theorem dL_law_1143 : decode cL_law 1143 = .ok (.aload_n 0, 1) := by decide +kernel
theorem dL_law_1144 : decode cL_law 1144 = .ok (.iload 5, 2) := by decide +kernel
theorem dL_law_1146 : decode cL_law 1146 = .ok (.iconst 1, 1) := by decide +kernel
theorem dL_law_1147 : decode cL_law 1147 = .ok (.iadd, 1) := by decide +kernel
theorem dL_law_1148 : decode cL_law 1148 = .ok (.iaload, 1) := by decide +kernel
theorem dL_law_1149 : decode cL_law 1149 = .ok (.aload_n 0, 1) := by decide +kernel
theorem dL_law_1150 : decode cL_law 1150 = .ok (.iload 5, 2) := by decide +kernel
theorem dL_law_1152 : decode cL_law 1152 = .ok (.iconst 2, 1) := by decide +kernel
theorem dL_law_1153 : decode cL_law 1153 = .ok (.iadd, 1) := by decide +kernel
theorem dL_law_1154 : decode cL_law 1154 = .ok (.iaload, 1) := by decide +kernel
theorem dL_law_1155 : decode cL_law 1155 = .ok (.invokevirtual 151, 3) := by decide +kernel
theorem dL_law_1158 : decode cL_law 1158 = .ok (.istore 7, 2) := by decide +kernel
theorem dL_law_1160 : decode cL_law 1160 = .ok (.aload_n 2, 1) := by decide +kernel
theorem dL_law_1161 : decode cL_law 1161 = .ok (.invokevirtual 93, 3) := by decide +kernel
theorem dL_law_1164 : decode cL_law 1164 = .ok (.iload 6, 2) := by decide +kernel
theorem dL_law_1166 : decode cL_law 1166 = .ok (.if_icmp .eq 5, 3) := by decide +kernel
theorem dL_law_1169 : decode cL_law 1169 = .ok (.iconst 0, 1) := by decide +kernel
theorem dL_law_1170 : decode cL_law 1170 = .ok (.ireturn, 1) := by decide +kernel
theorem dL_law_1171 : decode cL_law 1171 = .ok (.iload 6, 2) := by decide +kernel
theorem dL_law_1173 : decode cL_law 1173 = .ok (.ifCond .ne 15, 3) := by decide +kernel
theorem dL_law_1176 : decode cL_law 1176 = .ok (.aload_n 3, 1) := by decide +kernel
theorem dL_law_1177 : decode cL_law 1177 = .ok (.iconst 0, 1) := by decide +kernel
theorem dL_law_1178 : decode cL_law 1178 = .ok (.laload, 1) := by decide +kernel
theorem dL_law_1179 : decode cL_law 1179 = .ok (.iload 7, 2) := by decide +kernel
theorem dL_law_1181 : decode cL_law 1181 = .ok (.i2l, 1) := by decide +kernel
theorem dL_law_1182 : decode cL_law 1182 = .ok (.lcmp, 1) := by decide +kernel
theorem dL_law_1183 : decode cL_law 1183 = .ok (.ifCond .eq 5, 3) := by decide +kernel
theorem dL_law_1186 : decode cL_law 1186 = .ok (.iconst 0, 1) := by decide +kernel
theorem dL_law_1187 : decode cL_law 1187 = .ok (.ireturn, 1) := by decide +kernel
theorem dL_law_1188 : decode cL_law 1188 = .ok (.goto 403, 3) := by decide +kernel
theorem dL_law_1191 : decode cL_law 1191 = .ok (.aload_n 1, 1) := by decide +kernel
theorem dL_law_1192 : decode cL_law 1192 = .ok (.aload_n 0, 1) := by decide +kernel
theorem dL_law_1193 : decode cL_law 1193 = .ok (.iload 5, 2) := by decide +kernel
theorem dL_law_1195 : decode cL_law 1195 = .ok (.iconst 1, 1) := by decide +kernel
theorem dL_law_1196 : decode cL_law 1196 = .ok (.iadd, 1) := by decide +kernel
theorem dL_law_1197 : decode cL_law 1197 = .ok (.iaload, 1) := by decide +kernel
theorem dL_law_1198 : decode cL_law 1198 = .ok (.aload_n 3, 1) := by decide +kernel
theorem dL_law_1199 : decode cL_law 1199 = .ok (.invokestatic 152, 3) := by decide +kernel
theorem dL_law_1202 : decode cL_law 1202 = .ok (.istore 6, 2) := by decide +kernel
theorem dL_law_1204 : decode cL_law 1204 = .ok (.aload_n 2, 1) := by decide +kernel
theorem dL_law_1205 : decode cL_law 1205 = .ok (.aload_n 0, 1) := by decide +kernel
theorem dL_law_1206 : decode cL_law 1206 = .ok (.iload 5, 2) := by decide +kernel
theorem dL_law_1208 : decode cL_law 1208 = .ok (.iconst 1, 1) := by decide +kernel
theorem dL_law_1209 : decode cL_law 1209 = .ok (.iadd, 1) := by decide +kernel
theorem dL_law_1210 : decode cL_law 1210 = .ok (.iaload, 1) := by decide +kernel
theorem dL_law_1211 : decode cL_law 1211 = .ok (.invokevirtual 154, 3) := by decide +kernel
theorem dL_law_1214 : decode cL_law 1214 = .ok (.istore 7, 2) := by decide +kernel
theorem dL_law_1216 : decode cL_law 1216 = .ok (.aload_n 2, 1) := by decide +kernel
theorem dL_law_1217 : decode cL_law 1217 = .ok (.invokevirtual 93, 3) := by decide +kernel
theorem dL_law_1220 : decode cL_law 1220 = .ok (.iload 6, 2) := by decide +kernel
theorem dL_law_1222 : decode cL_law 1222 = .ok (.if_icmp .eq 5, 3) := by decide +kernel
theorem dL_law_1225 : decode cL_law 1225 = .ok (.iconst 0, 1) := by decide +kernel
theorem dL_law_1226 : decode cL_law 1226 = .ok (.ireturn, 1) := by decide +kernel
theorem dL_law_1227 : decode cL_law 1227 = .ok (.iload 6, 2) := by decide +kernel
theorem dL_law_1229 : decode cL_law 1229 = .ok (.ifCond .ne 15, 3) := by decide +kernel
theorem dL_law_1232 : decode cL_law 1232 = .ok (.aload_n 3, 1) := by decide +kernel
theorem dL_law_1233 : decode cL_law 1233 = .ok (.iconst 0, 1) := by decide +kernel
theorem dL_law_1234 : decode cL_law 1234 = .ok (.laload, 1) := by decide +kernel
theorem dL_law_1235 : decode cL_law 1235 = .ok (.iload 7, 2) := by decide +kernel
theorem dL_law_1237 : decode cL_law 1237 = .ok (.i2l, 1) := by decide +kernel
theorem dL_law_1238 : decode cL_law 1238 = .ok (.lcmp, 1) := by decide +kernel
theorem dL_law_1239 : decode cL_law 1239 = .ok (.ifCond .eq 5, 3) := by decide +kernel
theorem dL_law_1242 : decode cL_law 1242 = .ok (.iconst 0, 1) := by decide +kernel
theorem dL_law_1243 : decode cL_law 1243 = .ok (.ireturn, 1) := by decide +kernel
theorem dL_law_1244 : decode cL_law 1244 = .ok (.goto 347, 3) := by decide +kernel
theorem dL_law_1247 : decode cL_law 1247 = .ok (.aload_n 1, 1) := by decide +kernel
theorem dL_law_1248 : decode cL_law 1248 = .ok (.invokevirtual 155, 3) := by decide +kernel
theorem dL_law_1251 : decode cL_law 1251 = .ok (.aload_n 2, 1) := by decide +kernel
theorem dL_law_1252 : decode cL_law 1252 = .ok (.invokevirtual 158, 3) := by decide +kernel
theorem dL_law_1255 : decode cL_law 1255 = .ok (.if_icmp .eq 336, 3) := by decide +kernel
theorem dL_law_1258 : decode cL_law 1258 = .ok (.iconst 0, 1) := by decide +kernel
theorem dL_law_1259 : decode cL_law 1259 = .ok (.ireturn, 1) := by decide +kernel
theorem dL_law_1260 : decode cL_law 1260 = .ok (.aload_n 1, 1) := by decide +kernel
theorem dL_law_1261 : decode cL_law 1261 = .ok (.aload_n 3, 1) := by decide +kernel
theorem dL_law_1262 : decode cL_law 1262 = .ok (.invokestatic 159, 3) := by decide +kernel
theorem dL_law_1265 : decode cL_law 1265 = .ok (.istore 6, 2) := by decide +kernel
theorem dL_law_1267 : decode cL_law 1267 = .ok (.aload_n 2, 1) := by decide +kernel
theorem dL_law_1268 : decode cL_law 1268 = .ok (.invokevirtual 162, 3) := by decide +kernel
theorem dL_law_1271 : decode cL_law 1271 = .ok (.istore 7, 2) := by decide +kernel
theorem dL_law_1273 : decode cL_law 1273 = .ok (.aload_n 2, 1) := by decide +kernel
theorem dL_law_1274 : decode cL_law 1274 = .ok (.invokevirtual 93, 3) := by decide +kernel
theorem dL_law_1277 : decode cL_law 1277 = .ok (.iload 6, 2) := by decide +kernel
theorem dL_law_1279 : decode cL_law 1279 = .ok (.if_icmp .eq 5, 3) := by decide +kernel
theorem dL_law_1282 : decode cL_law 1282 = .ok (.iconst 0, 1) := by decide +kernel
theorem dL_law_1283 : decode cL_law 1283 = .ok (.ireturn, 1) := by decide +kernel
theorem dL_law_1284 : decode cL_law 1284 = .ok (.iload 6, 2) := by decide +kernel
theorem dL_law_1286 : decode cL_law 1286 = .ok (.ifCond .ne 15, 3) := by decide +kernel
theorem dL_law_1289 : decode cL_law 1289 = .ok (.aload_n 3, 1) := by decide +kernel
theorem dL_law_1290 : decode cL_law 1290 = .ok (.iconst 0, 1) := by decide +kernel
theorem dL_law_1291 : decode cL_law 1291 = .ok (.laload, 1) := by decide +kernel
theorem dL_law_1292 : decode cL_law 1292 = .ok (.iload 7, 2) := by decide +kernel
theorem dL_law_1294 : decode cL_law 1294 = .ok (.i2l, 1) := by decide +kernel
theorem dL_law_1295 : decode cL_law 1295 = .ok (.lcmp, 1) := by decide +kernel
theorem dL_law_1296 : decode cL_law 1296 = .ok (.ifCond .eq 5, 3) := by decide +kernel
theorem dL_law_1299 : decode cL_law 1299 = .ok (.iconst 0, 1) := by decide +kernel
theorem dL_law_1300 : decode cL_law 1300 = .ok (.ireturn, 1) := by decide +kernel
theorem dL_law_1301 : decode cL_law 1301 = .ok (.goto 290, 3) := by decide +kernel
theorem dL_law_1304 : decode cL_law 1304 = .ok (.aload_n 1, 1) := by decide +kernel
theorem dL_law_1305 : decode cL_law 1305 = .ok (.invokevirtual 163, 3) := by decide +kernel
theorem dL_law_1308 : decode cL_law 1308 = .ok (.aload_n 2, 1) := by decide +kernel
theorem dL_law_1309 : decode cL_law 1309 = .ok (.invokevirtual 166, 3) := by decide +kernel
theorem dL_law_1312 : decode cL_law 1312 = .ok (.if_icmp .eq 279, 3) := by decide +kernel
theorem dL_law_1315 : decode cL_law 1315 = .ok (.iconst 0, 1) := by decide +kernel
theorem dL_law_1316 : decode cL_law 1316 = .ok (.ireturn, 1) := by decide +kernel
theorem dL_law_1317 : decode cL_law 1317 = .ok (.aload_n 1, 1) := by decide +kernel
theorem dL_law_1318 : decode cL_law 1318 = .ok (.aload_n 0, 1) := by decide +kernel
theorem dL_law_1319 : decode cL_law 1319 = .ok (.iload 5, 2) := by decide +kernel
theorem dL_law_1321 : decode cL_law 1321 = .ok (.iconst 1, 1) := by decide +kernel
theorem dL_law_1322 : decode cL_law 1322 = .ok (.iadd, 1) := by decide +kernel
theorem dL_law_1323 : decode cL_law 1323 = .ok (.iaload, 1) := by decide +kernel
theorem dL_law_1324 : decode cL_law 1324 = .ok (.aload 4, 2) := by decide +kernel
theorem dL_law_1326 : decode cL_law 1326 = .ok (.invokestatic 167, 3) := by decide +kernel
theorem dL_law_1329 : decode cL_law 1329 = .ok (.istore 6, 2) := by decide +kernel
theorem dL_law_1331 : decode cL_law 1331 = .ok (.aload_n 2, 1) := by decide +kernel
theorem dL_law_1332 : decode cL_law 1332 = .ok (.aload_n 0, 1) := by decide +kernel
theorem dL_law_1333 : decode cL_law 1333 = .ok (.iload 5, 2) := by decide +kernel
theorem dL_law_1335 : decode cL_law 1335 = .ok (.iconst 1, 1) := by decide +kernel
theorem dL_law_1336 : decode cL_law 1336 = .ok (.iadd, 1) := by decide +kernel
theorem dL_law_1337 : decode cL_law 1337 = .ok (.iaload, 1) := by decide +kernel
theorem dL_law_1338 : decode cL_law 1338 = .ok (.invokevirtual 170, 3) := by decide +kernel
theorem dL_law_1341 : decode cL_law 1341 = .ok (.dstore 7, 2) := by decide +kernel
theorem dL_law_1343 : decode cL_law 1343 = .ok (.aload_n 2, 1) := by decide +kernel
theorem dL_law_1344 : decode cL_law 1344 = .ok (.invokevirtual 93, 3) := by decide +kernel
theorem dL_law_1347 : decode cL_law 1347 = .ok (.iload 6, 2) := by decide +kernel
theorem dL_law_1349 : decode cL_law 1349 = .ok (.if_icmp .eq 5, 3) := by decide +kernel
theorem dL_law_1352 : decode cL_law 1352 = .ok (.iconst 0, 1) := by decide +kernel
theorem dL_law_1353 : decode cL_law 1353 = .ok (.ireturn, 1) := by decide +kernel
theorem dL_law_1354 : decode cL_law 1354 = .ok (.iload 6, 2) := by decide +kernel
theorem dL_law_1356 : decode cL_law 1356 = .ok (.ifCond .ne 35, 3) := by decide +kernel
theorem dL_law_1359 : decode cL_law 1359 = .ok (.aload 4, 2) := by decide +kernel
theorem dL_law_1361 : decode cL_law 1361 = .ok (.iconst 0, 1) := by decide +kernel
theorem dL_law_1362 : decode cL_law 1362 = .ok (.daload, 1) := by decide +kernel
theorem dL_law_1363 : decode cL_law 1363 = .ok (.dload 7, 2) := by decide +kernel
theorem dL_law_1365 : decode cL_law 1365 = .ok (.dcmp .l, 1) := by decide +kernel
theorem dL_law_1366 : decode cL_law 1366 = .ok (.ifCond .eq 25, 3) := by decide +kernel
theorem dL_law_1369 : decode cL_law 1369 = .ok (.aload 4, 2) := by decide +kernel
theorem dL_law_1371 : decode cL_law 1371 = .ok (.iconst 0, 1) := by decide +kernel
theorem dL_law_1372 : decode cL_law 1372 = .ok (.daload, 1) := by decide +kernel
theorem dL_law_1373 : decode cL_law 1373 = .ok (.aload 4, 2) := by decide +kernel
theorem dL_law_1375 : decode cL_law 1375 = .ok (.iconst 0, 1) := by decide +kernel
theorem dL_law_1376 : decode cL_law 1376 = .ok (.daload, 1) := by decide +kernel
theorem dL_law_1377 : decode cL_law 1377 = .ok (.dcmp .l, 1) := by decide +kernel
theorem dL_law_1378 : decode cL_law 1378 = .ok (.ifCond .eq 11, 3) := by decide +kernel
theorem dL_law_1381 : decode cL_law 1381 = .ok (.dload 7, 2) := by decide +kernel
theorem dL_law_1383 : decode cL_law 1383 = .ok (.dload 7, 2) := by decide +kernel
theorem dL_law_1385 : decode cL_law 1385 = .ok (.dcmp .l, 1) := by decide +kernel
theorem dL_law_1386 : decode cL_law 1386 = .ok (.ifCond .ne 5, 3) := by decide +kernel
theorem dL_law_1389 : decode cL_law 1389 = .ok (.iconst 0, 1) := by decide +kernel
theorem dL_law_1390 : decode cL_law 1390 = .ok (.ireturn, 1) := by decide +kernel
theorem dL_law_1391 : decode cL_law 1391 = .ok (.goto 200, 3) := by decide +kernel
theorem dL_law_1394 : decode cL_law 1394 = .ok (.aload_n 1, 1) := by decide +kernel
theorem dL_law_1395 : decode cL_law 1395 = .ok (.aload_n 0, 1) := by decide +kernel
theorem dL_law_1396 : decode cL_law 1396 = .ok (.iload 5, 2) := by decide +kernel
theorem dL_law_1398 : decode cL_law 1398 = .ok (.iconst 1, 1) := by decide +kernel
theorem dL_law_1399 : decode cL_law 1399 = .ok (.iadd, 1) := by decide +kernel
theorem dL_law_1400 : decode cL_law 1400 = .ok (.iaload, 1) := by decide +kernel
theorem dL_law_1401 : decode cL_law 1401 = .ok (.aload_n 3, 1) := by decide +kernel
theorem dL_law_1402 : decode cL_law 1402 = .ok (.invokestatic 171, 3) := by decide +kernel
theorem dL_law_1405 : decode cL_law 1405 = .ok (.istore 6, 2) := by decide +kernel
theorem dL_law_1407 : decode cL_law 1407 = .ok (.aload_n 2, 1) := by decide +kernel
theorem dL_law_1408 : decode cL_law 1408 = .ok (.aload_n 0, 1) := by decide +kernel
theorem dL_law_1409 : decode cL_law 1409 = .ok (.iload 5, 2) := by decide +kernel
theorem dL_law_1411 : decode cL_law 1411 = .ok (.iconst 1, 1) := by decide +kernel
theorem dL_law_1412 : decode cL_law 1412 = .ok (.iadd, 1) := by decide +kernel
theorem dL_law_1413 : decode cL_law 1413 = .ok (.iaload, 1) := by decide +kernel
theorem dL_law_1414 : decode cL_law 1414 = .ok (.invokevirtual 173, 3) := by decide +kernel
theorem dL_law_1417 : decode cL_law 1417 = .ok (.istore 7, 2) := by decide +kernel
theorem dL_law_1419 : decode cL_law 1419 = .ok (.aload_n 2, 1) := by decide +kernel
theorem dL_law_1420 : decode cL_law 1420 = .ok (.invokevirtual 93, 3) := by decide +kernel
theorem dL_law_1423 : decode cL_law 1423 = .ok (.iload 6, 2) := by decide +kernel
theorem dL_law_1425 : decode cL_law 1425 = .ok (.if_icmp .eq 5, 3) := by decide +kernel
theorem dL_law_1428 : decode cL_law 1428 = .ok (.iconst 0, 1) := by decide +kernel
theorem dL_law_1429 : decode cL_law 1429 = .ok (.ireturn, 1) := by decide +kernel
theorem dL_law_1430 : decode cL_law 1430 = .ok (.iload 6, 2) := by decide +kernel
theorem dL_law_1432 : decode cL_law 1432 = .ok (.ifCond .ne 15, 3) := by decide +kernel
theorem dL_law_1435 : decode cL_law 1435 = .ok (.aload_n 3, 1) := by decide +kernel
theorem dL_law_1436 : decode cL_law 1436 = .ok (.iconst 0, 1) := by decide +kernel
theorem dL_law_1437 : decode cL_law 1437 = .ok (.laload, 1) := by decide +kernel
theorem dL_law_1438 : decode cL_law 1438 = .ok (.iload 7, 2) := by decide +kernel
theorem dL_law_1440 : decode cL_law 1440 = .ok (.i2l, 1) := by decide +kernel
theorem dL_law_1441 : decode cL_law 1441 = .ok (.lcmp, 1) := by decide +kernel
theorem dL_law_1442 : decode cL_law 1442 = .ok (.ifCond .eq 5, 3) := by decide +kernel
theorem dL_law_1445 : decode cL_law 1445 = .ok (.iconst 0, 1) := by decide +kernel
theorem dL_law_1446 : decode cL_law 1446 = .ok (.ireturn, 1) := by decide +kernel
theorem dL_law_1447 : decode cL_law 1447 = .ok (.goto 144, 3) := by decide +kernel
theorem dL_law_1450 : decode cL_law 1450 = .ok (.aload_n 1, 1) := by decide +kernel
theorem dL_law_1451 : decode cL_law 1451 = .ok (.invokevirtual 174, 3) := by decide +kernel
theorem dL_law_1454 : decode cL_law 1454 = .ok (.aload_n 2, 1) := by decide +kernel
theorem dL_law_1455 : decode cL_law 1455 = .ok (.invokevirtual 177, 3) := by decide +kernel
theorem dL_law_1458 : decode cL_law 1458 = .ok (.if_icmp .eq 133, 3) := by decide +kernel
theorem dL_law_1461 : decode cL_law 1461 = .ok (.iconst 0, 1) := by decide +kernel
theorem dL_law_1462 : decode cL_law 1462 = .ok (.ireturn, 1) := by decide +kernel
theorem dL_law_1463 : decode cL_law 1463 = .ok (.aload_n 1, 1) := by decide +kernel
theorem dL_law_1464 : decode cL_law 1464 = .ok (.invokevirtual 178, 3) := by decide +kernel
theorem dL_law_1467 : decode cL_law 1467 = .ok (.aload_n 2, 1) := by decide +kernel
theorem dL_law_1468 : decode cL_law 1468 = .ok (.invokevirtual 181, 3) := by decide +kernel
theorem dL_law_1471 : decode cL_law 1471 = .ok (.if_icmp .eq 120, 3) := by decide +kernel
theorem dL_law_1474 : decode cL_law 1474 = .ok (.iconst 0, 1) := by decide +kernel
theorem dL_law_1475 : decode cL_law 1475 = .ok (.ireturn, 1) := by decide +kernel
theorem dL_law_1476 : decode cL_law 1476 = .ok (.aload_n 1, 1) := by decide +kernel
theorem dL_law_1477 : decode cL_law 1477 = .ok (.aload_n 3, 1) := by decide +kernel
theorem dL_law_1478 : decode cL_law 1478 = .ok (.invokestatic 182, 3) := by decide +kernel
theorem dL_law_1481 : decode cL_law 1481 = .ok (.istore 6, 2) := by decide +kernel
theorem dL_law_1483 : decode cL_law 1483 = .ok (.aload_n 2, 1) := by decide +kernel
theorem dL_law_1484 : decode cL_law 1484 = .ok (.invokevirtual 184, 3) := by decide +kernel
theorem dL_law_1487 : decode cL_law 1487 = .ok (.istore 7, 2) := by decide +kernel
theorem dL_law_1489 : decode cL_law 1489 = .ok (.aload_n 2, 1) := by decide +kernel
theorem dL_law_1490 : decode cL_law 1490 = .ok (.invokevirtual 93, 3) := by decide +kernel
theorem dL_law_1493 : decode cL_law 1493 = .ok (.iload 6, 2) := by decide +kernel
theorem dL_law_1495 : decode cL_law 1495 = .ok (.if_icmp .eq 5, 3) := by decide +kernel
theorem dL_law_1498 : decode cL_law 1498 = .ok (.iconst 0, 1) := by decide +kernel
theorem dL_law_1499 : decode cL_law 1499 = .ok (.ireturn, 1) := by decide +kernel
theorem dL_law_1500 : decode cL_law 1500 = .ok (.iload 6, 2) := by decide +kernel
theorem dL_law_1502 : decode cL_law 1502 = .ok (.ifCond .ne 15, 3) := by decide +kernel
theorem dL_law_1505 : decode cL_law 1505 = .ok (.aload_n 3, 1) := by decide +kernel
theorem dL_law_1506 : decode cL_law 1506 = .ok (.iconst 0, 1) := by decide +kernel
theorem dL_law_1507 : decode cL_law 1507 = .ok (.laload, 1) := by decide +kernel
theorem dL_law_1508 : decode cL_law 1508 = .ok (.iload 7, 2) := by decide +kernel
theorem dL_law_1510 : decode cL_law 1510 = .ok (.i2l, 1) := by decide +kernel
theorem dL_law_1511 : decode cL_law 1511 = .ok (.lcmp, 1) := by decide +kernel
theorem dL_law_1512 : decode cL_law 1512 = .ok (.ifCond .eq 5, 3) := by decide +kernel
theorem dL_law_1515 : decode cL_law 1515 = .ok (.iconst 0, 1) := by decide +kernel
theorem dL_law_1516 : decode cL_law 1516 = .ok (.ireturn, 1) := by decide +kernel
theorem dL_law_1517 : decode cL_law 1517 = .ok (.goto 74, 3) := by decide +kernel
theorem dL_law_1520 : decode cL_law 1520 = .ok (.aload_n 1, 1) := by decide +kernel
theorem dL_law_1521 : decode cL_law 1521 = .ok (.aload_n 3, 1) := by decide +kernel
theorem dL_law_1522 : decode cL_law 1522 = .ok (.invokestatic 185, 3) := by decide +kernel
theorem dL_law_1525 : decode cL_law 1525 = .ok (.istore 6, 2) := by decide +kernel
theorem dL_law_1527 : decode cL_law 1527 = .ok (.aload_n 2, 1) := by decide +kernel
theorem dL_law_1528 : decode cL_law 1528 = .ok (.invokevirtual 187, 3) := by decide +kernel
theorem dL_law_1531 : decode cL_law 1531 = .ok (.istore 7, 2) := by decide +kernel
theorem dL_law_1533 : decode cL_law 1533 = .ok (.aload_n 2, 1) := by decide +kernel
theorem dL_law_1534 : decode cL_law 1534 = .ok (.invokevirtual 93, 3) := by decide +kernel
theorem dL_law_1537 : decode cL_law 1537 = .ok (.iload 6, 2) := by decide +kernel
theorem dL_law_1539 : decode cL_law 1539 = .ok (.if_icmp .eq 5, 3) := by decide +kernel
theorem dL_law_1542 : decode cL_law 1542 = .ok (.iconst 0, 1) := by decide +kernel
theorem dL_law_1543 : decode cL_law 1543 = .ok (.ireturn, 1) := by decide +kernel
theorem dL_law_1544 : decode cL_law 1544 = .ok (.iload 6, 2) := by decide +kernel
theorem dL_law_1546 : decode cL_law 1546 = .ok (.ifCond .ne 15, 3) := by decide +kernel
theorem dL_law_1549 : decode cL_law 1549 = .ok (.aload_n 3, 1) := by decide +kernel
theorem dL_law_1550 : decode cL_law 1550 = .ok (.iconst 0, 1) := by decide +kernel
theorem dL_law_1551 : decode cL_law 1551 = .ok (.laload, 1) := by decide +kernel
theorem dL_law_1552 : decode cL_law 1552 = .ok (.iload 7, 2) := by decide +kernel
theorem dL_law_1554 : decode cL_law 1554 = .ok (.i2l, 1) := by decide +kernel
theorem dL_law_1555 : decode cL_law 1555 = .ok (.lcmp, 1) := by decide +kernel
theorem dL_law_1556 : decode cL_law 1556 = .ok (.ifCond .eq 5, 3) := by decide +kernel
theorem dL_law_1559 : decode cL_law 1559 = .ok (.iconst 0, 1) := by decide +kernel
theorem dL_law_1560 : decode cL_law 1560 = .ok (.ireturn, 1) := by decide +kernel
theorem dL_law_1561 : decode cL_law 1561 = .ok (.goto 30, 3) := by decide +kernel
theorem dL_law_1564 : decode cL_law 1564 = .ok (.aload_n 1, 1) := by decide +kernel
theorem dL_law_1565 : decode cL_law 1565 = .ok (.invokevirtual 188, 3) := by decide +kernel
theorem dL_law_1568 : decode cL_law 1568 = .ok (.aload_n 2, 1) := by decide +kernel
theorem dL_law_1569 : decode cL_law 1569 = .ok (.invokevirtual 191, 3) := by decide +kernel
theorem dL_law_1572 : decode cL_law 1572 = .ok (.if_icmp .eq 19, 3) := by decide +kernel
theorem dL_law_1575 : decode cL_law 1575 = .ok (.iconst 0, 1) := by decide +kernel
theorem dL_law_1576 : decode cL_law 1576 = .ok (.ireturn, 1) := by decide +kernel
theorem dL_law_1577 : decode cL_law 1577 = .ok (.aload_n 1, 1) := by decide +kernel
theorem dL_law_1578 : decode cL_law 1578 = .ok (.invokevirtual 192, 3) := by decide +kernel
theorem dL_law_1581 : decode cL_law 1581 = .ok (.aload_n 2, 1) := by decide +kernel
theorem dL_law_1582 : decode cL_law 1582 = .ok (.invokevirtual 196, 3) := by decide +kernel
theorem dL_law_1585 : decode cL_law 1585 = .ok (.lcmp, 1) := by decide +kernel
theorem dL_law_1586 : decode cL_law 1586 = .ok (.ifCond .eq 5, 3) := by decide +kernel
theorem dL_law_1589 : decode cL_law 1589 = .ok (.iconst 0, 1) := by decide +kernel
theorem dL_law_1590 : decode cL_law 1590 = .ok (.ireturn, 1) := by decide +kernel
theorem dL_law_1591 : decode cL_law 1591 = .ok (.iinc 5 4, 3) := by decide +kernel
theorem dL_law_1594 : decode cL_law 1594 = .ok (.goto (-1566), 3) := by decide +kernel
theorem dL_law_1597 : decode cL_law 1597 = .ok (.iconst 1, 1) := by decide +kernel
theorem dL_law_1598 : decode cL_law 1598 = .ok (.ireturn, 1) := by decide +kernel
