theorem dX3_init_0 : decode cX3_init 0 = .ok (.aload_n 0, 1) := by decide +kernel
theorem dX3_init_1 : decode cX3_init 1 = .ok (.invokespecial 3, 3) := by decide +kernel
theorem dX3_init_4 : decode cX3_init 4 = .ok (.aload_n 0, 1) := by decide +kernel
theorem dX3_init_5 : decode cX3_init 5 = .ok (.new 9, 3) := by decide +kernel
theorem dX3_init_8 : decode cX3_init 8 = .ok (.dup, 1) := by decide +kernel
theorem dX3_init_9 : decode cX3_init 9 = .ok (.invokespecial 11, 3) := by decide +kernel
theorem dX3_init_12 : decode cX3_init 12 = .ok (.putfield 12, 3) := by decide +kernel
theorem dX3_init_15 : decode cX3_init 15 = .ok (.aload_n 0, 1) := by decide +kernel
theorem dX3_init_16 : decode cX3_init 16 = .ok (.new 18, 3) := by decide +kernel
theorem dX3_init_19 : decode cX3_init 19 = .ok (.dup, 1) := by decide +kernel
theorem dX3_init_20 : decode cX3_init 20 = .ok (.invokespecial 20, 3) := by decide +kernel
theorem dX3_init_23 : decode cX3_init 23 = .ok (.putfield 21, 3) := by decide +kernel
theorem dX3_init_26 : decode cX3_init 26 = .ok (.aload_n 0, 1) := by decide +kernel
theorem dX3_init_27 : decode cX3_init 27 = .ok (.new 25, 3) := by decide +kernel
theorem dX3_init_30 : decode cX3_init 30 = .ok (.dup, 1) := by decide +kernel
theorem dX3_init_31 : decode cX3_init 31 = .ok (.invokespecial 27, 3) := by decide +kernel
theorem dX3_init_34 : decode cX3_init 34 = .ok (.putfield 28, 3) := by decide +kernel
theorem dX3_init_37 : decode cX3_init 37 = .ok (.return_, 1) := by decide +kernel
theorem dX3_pass_0 : decode cX3_pass 0 = .ok (.aload_n 0, 1) := by decide +kernel
theorem dX3_pass_1 : decode cX3_pass 1 = .ok (.aload_n 0, 1) := by decide +kernel
theorem dX3_pass_2 : decode cX3_pass 2 = .ok (.getfield 12, 3) := by decide +kernel
theorem dX3_pass_5 : decode cX3_pass 5 = .ok (.iload_n 1, 1) := by decide +kernel
theorem dX3_pass_6 : decode cX3_pass 6 = .ok (.invokevirtual 32, 3) := by decide +kernel
theorem dX3_pass_9 : decode cX3_pass 9 = .ok (.aload_n 0, 1) := by decide +kernel
theorem dX3_pass_10 : decode cX3_pass 10 = .ok (.getfield 21, 3) := by decide +kernel
theorem dX3_pass_13 : decode cX3_pass 13 = .ok (.iload_n 1, 1) := by decide +kernel
theorem dX3_pass_14 : decode cX3_pass 14 = .ok (.invokevirtual 36, 3) := by decide +kernel
theorem dX3_pass_17 : decode cX3_pass 17 = .ok (.aload_n 0, 1) := by decide +kernel
theorem dX3_pass_18 : decode cX3_pass 18 = .ok (.getfield 28, 3) := by decide +kernel
theorem dX3_pass_21 : decode cX3_pass 21 = .ok (.iload_n 1, 1) := by decide +kernel
theorem dX3_pass_22 : decode cX3_pass 22 = .ok (.invokevirtual 37, 3) := by decide +kernel
theorem dX3_pass_25 : decode cX3_pass 25 = .ok (.invokevirtual 38, 3) := by decide +kernel
theorem dX3_pass_28 : decode cX3_pass 28 = .ok (.ireturn, 1) := by decide +kernel
theorem dX3_insert_0 : decode cX3_insert 0 = .ok (.aload_n 0, 1) := by decide +kernel
theorem dX3_insert_1 : decode cX3_insert 1 = .ok (.aload_n 0, 1) := by decide +kernel
theorem dX3_insert_2 : decode cX3_insert 2 = .ok (.getfield 12, 3) := by decide +kernel
theorem dX3_insert_5 : decode cX3_insert 5 = .ok (.iload_n 1, 1) := by decide +kernel
theorem dX3_insert_6 : decode cX3_insert 6 = .ok (.invokevirtual 42, 3) := by decide +kernel
theorem dX3_insert_9 : decode cX3_insert 9 = .ok (.aload_n 0, 1) := by decide +kernel
theorem dX3_insert_10 : decode cX3_insert 10 = .ok (.getfield 21, 3) := by decide +kernel
theorem dX3_insert_13 : decode cX3_insert 13 = .ok (.iload_n 1, 1) := by decide +kernel
theorem dX3_insert_14 : decode cX3_insert 14 = .ok (.invokevirtual 46, 3) := by decide +kernel
theorem dX3_insert_17 : decode cX3_insert 17 = .ok (.aload_n 0, 1) := by decide +kernel
theorem dX3_insert_18 : decode cX3_insert 18 = .ok (.getfield 28, 3) := by decide +kernel
theorem dX3_insert_21 : decode cX3_insert 21 = .ok (.iload_n 1, 1) := by decide +kernel
theorem dX3_insert_22 : decode cX3_insert 22 = .ok (.invokevirtual 47, 3) := by decide +kernel
theorem dX3_insert_25 : decode cX3_insert 25 = .ok (.invokevirtual 38, 3) := by decide +kernel
theorem dX3_insert_28 : decode cX3_insert 28 = .ok (.ireturn, 1) := by decide +kernel
theorem dX3_exchange_0 : decode cX3_exchange 0 = .ok (.aload_n 0, 1) := by decide +kernel
theorem dX3_exchange_1 : decode cX3_exchange 1 = .ok (.aload_n 0, 1) := by decide +kernel
theorem dX3_exchange_2 : decode cX3_exchange 2 = .ok (.getfield 12, 3) := by decide +kernel
theorem dX3_exchange_5 : decode cX3_exchange 5 = .ok (.iload_n 1, 1) := by decide +kernel
theorem dX3_exchange_6 : decode cX3_exchange 6 = .ok (.iload_n 2, 1) := by decide +kernel
theorem dX3_exchange_7 : decode cX3_exchange 7 = .ok (.invokevirtual 48, 3) := by decide +kernel
theorem dX3_exchange_10 : decode cX3_exchange 10 = .ok (.aload_n 0, 1) := by decide +kernel
theorem dX3_exchange_11 : decode cX3_exchange 11 = .ok (.getfield 21, 3) := by decide +kernel
theorem dX3_exchange_14 : decode cX3_exchange 14 = .ok (.iload_n 1, 1) := by decide +kernel
theorem dX3_exchange_15 : decode cX3_exchange 15 = .ok (.iload_n 2, 1) := by decide +kernel
theorem dX3_exchange_16 : decode cX3_exchange 16 = .ok (.invokevirtual 52, 3) := by decide +kernel
theorem dX3_exchange_19 : decode cX3_exchange 19 = .ok (.aload_n 0, 1) := by decide +kernel
theorem dX3_exchange_20 : decode cX3_exchange 20 = .ok (.getfield 28, 3) := by decide +kernel
theorem dX3_exchange_23 : decode cX3_exchange 23 = .ok (.iload_n 1, 1) := by decide +kernel
theorem dX3_exchange_24 : decode cX3_exchange 24 = .ok (.iload_n 2, 1) := by decide +kernel
theorem dX3_exchange_25 : decode cX3_exchange 25 = .ok (.invokevirtual 53, 3) := by decide +kernel
theorem dX3_exchange_28 : decode cX3_exchange 28 = .ok (.invokevirtual 38, 3) := by decide +kernel
theorem dX3_exchange_31 : decode cX3_exchange 31 = .ok (.ireturn, 1) := by decide +kernel
theorem dX3_drop_0 : decode cX3_drop 0 = .ok (.aload_n 0, 1) := by decide +kernel
theorem dX3_drop_1 : decode cX3_drop 1 = .ok (.aload_n 0, 1) := by decide +kernel
theorem dX3_drop_2 : decode cX3_drop 2 = .ok (.getfield 12, 3) := by decide +kernel
theorem dX3_drop_5 : decode cX3_drop 5 = .ok (.iload_n 1, 1) := by decide +kernel
theorem dX3_drop_6 : decode cX3_drop 6 = .ok (.invokevirtual 54, 3) := by decide +kernel
theorem dX3_drop_9 : decode cX3_drop 9 = .ok (.aload_n 0, 1) := by decide +kernel
theorem dX3_drop_10 : decode cX3_drop 10 = .ok (.getfield 21, 3) := by decide +kernel
theorem dX3_drop_13 : decode cX3_drop 13 = .ok (.iload_n 1, 1) := by decide +kernel
theorem dX3_drop_14 : decode cX3_drop 14 = .ok (.invokevirtual 57, 3) := by decide +kernel
theorem dX3_drop_17 : decode cX3_drop 17 = .ok (.aload_n 0, 1) := by decide +kernel
theorem dX3_drop_18 : decode cX3_drop 18 = .ok (.getfield 28, 3) := by decide +kernel
theorem dX3_drop_21 : decode cX3_drop 21 = .ok (.iload_n 1, 1) := by decide +kernel
theorem dX3_drop_22 : decode cX3_drop 22 = .ok (.invokevirtual 58, 3) := by decide +kernel
theorem dX3_drop_25 : decode cX3_drop 25 = .ok (.invokevirtual 38, 3) := by decide +kernel
theorem dX3_drop_28 : decode cX3_drop 28 = .ok (.ireturn, 1) := by decide +kernel
theorem dX3_empty_0 : decode cX3_empty 0 = .ok (.aload_n 0, 1) := by decide +kernel
theorem dX3_empty_1 : decode cX3_empty 1 = .ok (.getfield 12, 3) := by decide +kernel
theorem dX3_empty_4 : decode cX3_empty 4 = .ok (.invokevirtual 59, 3) := by decide +kernel
theorem dX3_empty_7 : decode cX3_empty 7 = .ok (.aload_n 0, 1) := by decide +kernel
theorem dX3_empty_8 : decode cX3_empty 8 = .ok (.getfield 21, 3) := by decide +kernel
theorem dX3_empty_11 : decode cX3_empty 11 = .ok (.invokevirtual 62, 3) := by decide +kernel
theorem dX3_empty_14 : decode cX3_empty 14 = .ok (.aload_n 0, 1) := by decide +kernel
theorem dX3_empty_15 : decode cX3_empty 15 = .ok (.getfield 28, 3) := by decide +kernel
theorem dX3_empty_18 : decode cX3_empty 18 = .ok (.invokevirtual 63, 3) := by decide +kernel
theorem dX3_empty_21 : decode cX3_empty 21 = .ok (.return_, 1) := by decide +kernel
theorem dX3_go_0 : decode cX3_go 0 = .ok (.iload_n 1, 1) := by decide +kernel
theorem dX3_go_1 : decode cX3_go 1 = .ok (.aload_n 0, 1) := by decide +kernel
theorem dX3_go_2 : decode cX3_go 2 = .ok (.invokevirtual 64, 3) := by decide +kernel
theorem dX3_go_5 : decode cX3_go 5 = .ok (.if_icmp .ge 7, 3) := by decide +kernel
theorem dX3_go_8 : decode cX3_go 8 = .ok (.iconst 1, 1) := by decide +kernel
theorem dX3_go_9 : decode cX3_go 9 = .ok (.goto 4, 3) := by decide +kernel
theorem dX3_go_12 : decode cX3_go 12 = .ok (.iconst 0, 1) := by decide +kernel
theorem dX3_go_13 : decode cX3_go 13 = .ok (.istore_n 2, 1) := by decide +kernel
theorem dX3_go_14 : decode cX3_go 14 = .ok (.iconst 0, 1) := by decide +kernel
theorem dX3_go_15 : decode cX3_go 15 = .ok (.istore_n 3, 1) := by decide +kernel
theorem dX3_go_16 : decode cX3_go 16 = .ok (.iload_n 3, 1) := by decide +kernel
theorem dX3_go_17 : decode cX3_go 17 = .ok (.bipush 100, 2) := by decide +kernel
theorem dX3_go_19 : decode cX3_go 19 = .ok (.if_icmp .ge 46, 3) := by decide +kernel
theorem dX3_go_22 : decode cX3_go 22 = .ok (.aload_n 0, 1) := by decide +kernel
theorem dX3_go_23 : decode cX3_go 23 = .ok (.invokevirtual 64, 3) := by decide +kernel
theorem dX3_go_26 : decode cX3_go 26 = .ok (.iload_n 1, 1) := by decide +kernel
theorem dX3_go_27 : decode cX3_go 27 = .ok (.if_icmp .eq 38, 3) := by decide +kernel
theorem dX3_go_30 : decode cX3_go 30 = .ok (.aload_n 0, 1) := by decide +kernel
theorem dX3_go_31 : decode cX3_go 31 = .ok (.aload_n 0, 1) := by decide +kernel
theorem dX3_go_32 : decode cX3_go 32 = .ok (.getfield 12, 3) := by decide +kernel
theorem dX3_go_35 : decode cX3_go 35 = .ok (.iload_n 2, 1) := by decide +kernel
theorem dX3_go_36 : decode cX3_go 36 = .ok (.invokevirtual 32, 3) := by decide +kernel
theorem dX3_go_39 : decode cX3_go 39 = .ok (.aload_n 0, 1) := by decide +kernel
theorem dX3_go_40 : decode cX3_go 40 = .ok (.getfield 21, 3) := by decide +kernel
theorem dX3_go_43 : decode cX3_go 43 = .ok (.iload_n 2, 1) := by decide +kernel
theorem dX3_go_44 : decode cX3_go 44 = .ok (.invokevirtual 36, 3) := by decide +kernel
theorem dX3_go_47 : decode cX3_go 47 = .ok (.aload_n 0, 1) := by decide +kernel
theorem dX3_go_48 : decode cX3_go 48 = .ok (.getfield 28, 3) := by decide +kernel
theorem dX3_go_51 : decode cX3_go 51 = .ok (.iload_n 2, 1) := by decide +kernel
theorem dX3_go_52 : decode cX3_go 52 = .ok (.invokevirtual 37, 3) := by decide +kernel
theorem dX3_go_55 : decode cX3_go 55 = .ok (.invokevirtual 38, 3) := by decide +kernel
theorem dX3_go_58 : decode cX3_go 58 = .ok (.pop, 1) := by decide +kernel
theorem dX3_go_59 : decode cX3_go 59 = .ok (.iinc 3 1, 3) := by decide +kernel
theorem dX3_go_62 : decode cX3_go 62 = .ok (.goto (-46), 3) := by decide +kernel
theorem dX3_go_65 : decode cX3_go 65 = .ok (.return_, 1) := by decide +kernel
theorem dX3_cross_0 : decode cX3_cross 0 = .ok (.aload_n 0, 1) := by decide +kernel
theorem dX3_cross_1 : decode cX3_cross 1 = .ok (.aload_n 0, 1) := by decide +kernel
theorem dX3_cross_2 : decode cX3_cross 2 = .ok (.getfield 12, 3) := by decide +kernel
theorem dX3_cross_5 : decode cX3_cross 5 = .ok (.invokevirtual 68, 3) := by decide +kernel
theorem dX3_cross_8 : decode cX3_cross 8 = .ok (.aload_n 0, 1) := by decide +kernel
theorem dX3_cross_9 : decode cX3_cross 9 = .ok (.getfield 21, 3) := by decide +kernel
theorem dX3_cross_12 : decode cX3_cross 12 = .ok (.invokevirtual 71, 3) := by decide +kernel
theorem dX3_cross_15 : decode cX3_cross 15 = .ok (.aload_n 0, 1) := by decide +kernel
theorem dX3_cross_16 : decode cX3_cross 16 = .ok (.getfield 28, 3) := by decide +kernel
theorem dX3_cross_19 : decode cX3_cross 19 = .ok (.invokevirtual 72, 3) := by decide +kernel
theorem dX3_cross_22 : decode cX3_cross 22 = .ok (.invokevirtual 38, 3) := by decide +kernel
theorem dX3_cross_25 : decode cX3_cross 25 = .ok (.ireturn, 1) := by decide +kernel
theorem dX3_caret_0 : decode cX3_caret 0 = .ok (.aload_n 0, 1) := by decide +kernel
theorem dX3_caret_1 : decode cX3_caret 1 = .ok (.getfield 28, 3) := by decide +kernel
theorem dX3_caret_4 : decode cX3_caret 4 = .ok (.invokevirtual 73, 3) := by decide +kernel
theorem dX3_caret_7 : decode cX3_caret 7 = .ok (.ireturn, 1) := by decide +kernel
theorem dX3_length_0 : decode cX3_length 0 = .ok (.aload_n 0, 1) := by decide +kernel
theorem dX3_length_1 : decode cX3_length 1 = .ok (.getfield 28, 3) := by decide +kernel
theorem dX3_length_4 : decode cX3_length 4 = .ok (.invokevirtual 74, 3) := by decide +kernel
theorem dX3_length_7 : decode cX3_length 7 = .ok (.ireturn, 1) := by decide +kernel
theorem dX3_has_0 : decode cX3_has 0 = .ok (.iload_n 1, 1) := by decide +kernel
theorem dX3_has_1 : decode cX3_has 1 = .ok (.ifCond .eq 21, 3) := by decide +kernel
theorem dX3_has_4 : decode cX3_has 4 = .ok (.aload_n 0, 1) := by decide +kernel
theorem dX3_has_5 : decode cX3_has 5 = .ok (.getfield 28, 3) := by decide +kernel
theorem dX3_has_8 : decode cX3_has 8 = .ok (.invokevirtual 73, 3) := by decide +kernel
theorem dX3_has_11 : decode cX3_has 11 = .ok (.ifCond .le 7, 3) := by decide +kernel
theorem dX3_has_14 : decode cX3_has 14 = .ok (.iconst 1, 1) := by decide +kernel
theorem dX3_has_15 : decode cX3_has 15 = .ok (.goto 29, 3) := by decide +kernel
theorem dX3_has_18 : decode cX3_has 18 = .ok (.iconst 0, 1) := by decide +kernel
theorem dX3_has_19 : decode cX3_has 19 = .ok (.goto 25, 3) := by decide +kernel
theorem dX3_has_22 : decode cX3_has 22 = .ok (.aload_n 0, 1) := by decide +kernel
theorem dX3_has_23 : decode cX3_has 23 = .ok (.getfield 28, 3) := by decide +kernel
theorem dX3_has_26 : decode cX3_has 26 = .ok (.invokevirtual 73, 3) := by decide +kernel
theorem dX3_has_29 : decode cX3_has 29 = .ok (.aload_n 0, 1) := by decide +kernel
theorem dX3_has_30 : decode cX3_has 30 = .ok (.getfield 28, 3) := by decide +kernel
theorem dX3_has_33 : decode cX3_has 33 = .ok (.invokevirtual 74, 3) := by decide +kernel
theorem dX3_has_36 : decode cX3_has 36 = .ok (.if_icmp .ge 7, 3) := by decide +kernel
theorem dX3_has_39 : decode cX3_has 39 = .ok (.iconst 1, 1) := by decide +kernel
theorem dX3_has_40 : decode cX3_has 40 = .ok (.goto 4, 3) := by decide +kernel
theorem dX3_has_43 : decode cX3_has 43 = .ok (.iconst 0, 1) := by decide +kernel
theorem dX3_has_44 : decode cX3_has 44 = .ok (.ireturn, 1) := by decide +kernel
theorem dX3_wordOf_0 : decode cX3_wordOf 0 = .ok (.aload_n 0, 1) := by decide +kernel
theorem dX3_wordOf_1 : decode cX3_wordOf 1 = .ok (.getfield 28, 3) := by decide +kernel
theorem dX3_wordOf_4 : decode cX3_wordOf 4 = .ok (.iload_n 1, 1) := by decide +kernel
theorem dX3_wordOf_5 : decode cX3_wordOf 5 = .ok (.invokevirtual 77, 3) := by decide +kernel
theorem dX3_wordOf_8 : decode cX3_wordOf 8 = .ok (.ireturn, 1) := by decide +kernel
theorem dX3_stepsTo_0 : decode cX3_stepsTo 0 = .ok (.iload_n 2, 1) := by decide +kernel
theorem dX3_stepsTo_1 : decode cX3_stepsTo 1 = .ok (.ifCond .eq 10, 3) := by decide +kernel
theorem dX3_stepsTo_4 : decode cX3_stepsTo 4 = .ok (.aload_n 0, 1) := by decide +kernel
theorem dX3_stepsTo_5 : decode cX3_stepsTo 5 = .ok (.invokevirtual 64, 3) := by decide +kernel
theorem dX3_stepsTo_8 : decode cX3_stepsTo 8 = .ok (.goto 12, 3) := by decide +kernel
theorem dX3_stepsTo_11 : decode cX3_stepsTo 11 = .ok (.aload_n 0, 1) := by decide +kernel
theorem dX3_stepsTo_12 : decode cX3_stepsTo 12 = .ok (.invokevirtual 80, 3) := by decide +kernel
theorem dX3_stepsTo_15 : decode cX3_stepsTo 15 = .ok (.aload_n 0, 1) := by decide +kernel
theorem dX3_stepsTo_16 : decode cX3_stepsTo 16 = .ok (.invokevirtual 64, 3) := by decide +kernel
theorem dX3_stepsTo_19 : decode cX3_stepsTo 19 = .ok (.isub, 1) := by decide +kernel
theorem dX3_stepsTo_20 : decode cX3_stepsTo 20 = .ok (.istore_n 3, 1) := by decide +kernel
theorem dX3_stepsTo_21 : decode cX3_stepsTo 21 = .ok (.iload_n 2, 1) := by decide +kernel
theorem dX3_stepsTo_22 : decode cX3_stepsTo 22 = .ok (.ifCond .eq 12, 3) := by decide +kernel
theorem dX3_stepsTo_25 : decode cX3_stepsTo 25 = .ok (.aload_n 0, 1) := by decide +kernel
theorem dX3_stepsTo_26 : decode cX3_stepsTo 26 = .ok (.invokevirtual 64, 3) := by decide +kernel
theorem dX3_stepsTo_29 : decode cX3_stepsTo 29 = .ok (.iconst 1, 1) := by decide +kernel
theorem dX3_stepsTo_30 : decode cX3_stepsTo 30 = .ok (.isub, 1) := by decide +kernel
theorem dX3_stepsTo_31 : decode cX3_stepsTo 31 = .ok (.goto 7, 3) := by decide +kernel
theorem dX3_stepsTo_34 : decode cX3_stepsTo 34 = .ok (.aload_n 0, 1) := by decide +kernel
theorem dX3_stepsTo_35 : decode cX3_stepsTo 35 = .ok (.invokevirtual 64, 3) := by decide +kernel
theorem dX3_stepsTo_38 : decode cX3_stepsTo 38 = .ok (.istore 4, 2) := by decide +kernel
theorem dX3_stepsTo_40 : decode cX3_stepsTo 40 = .ok (.iconst 0, 1) := by decide +kernel
theorem dX3_stepsTo_41 : decode cX3_stepsTo 41 = .ok (.istore 5, 2) := by decide +kernel
theorem dX3_stepsTo_43 : decode cX3_stepsTo 43 = .ok (.iload 5, 2) := by decide +kernel
theorem dX3_stepsTo_45 : decode cX3_stepsTo 45 = .ok (.iload_n 3, 1) := by decide +kernel
theorem dX3_stepsTo_46 : decode cX3_stepsTo 46 = .ok (.if_icmp .ge 39, 3) := by decide +kernel
theorem dX3_stepsTo_49 : decode cX3_stepsTo 49 = .ok (.aload_n 0, 1) := by decide +kernel
theorem dX3_stepsTo_50 : decode cX3_stepsTo 50 = .ok (.iload_n 2, 1) := by decide +kernel
theorem dX3_stepsTo_51 : decode cX3_stepsTo 51 = .ok (.ifCond .eq 11, 3) := by decide +kernel
theorem dX3_stepsTo_54 : decode cX3_stepsTo 54 = .ok (.iload 4, 2) := by decide +kernel
theorem dX3_stepsTo_56 : decode cX3_stepsTo 56 = .ok (.iload 5, 2) := by decide +kernel
theorem dX3_stepsTo_58 : decode cX3_stepsTo 58 = .ok (.isub, 1) := by decide +kernel
theorem dX3_stepsTo_59 : decode cX3_stepsTo 59 = .ok (.goto 8, 3) := by decide +kernel
theorem dX3_stepsTo_62 : decode cX3_stepsTo 62 = .ok (.iload 4, 2) := by decide +kernel
theorem dX3_stepsTo_64 : decode cX3_stepsTo 64 = .ok (.iload 5, 2) := by decide +kernel
theorem dX3_stepsTo_66 : decode cX3_stepsTo 66 = .ok (.iadd, 1) := by decide +kernel
theorem dX3_stepsTo_67 : decode cX3_stepsTo 67 = .ok (.invokevirtual 81, 3) := by decide +kernel
theorem dX3_stepsTo_70 : decode cX3_stepsTo 70 = .ok (.iload_n 1, 1) := by decide +kernel
theorem dX3_stepsTo_71 : decode cX3_stepsTo 71 = .ok (.if_icmp .ne 8, 3) := by decide +kernel
theorem dX3_stepsTo_74 : decode cX3_stepsTo 74 = .ok (.iload 5, 2) := by decide +kernel
theorem dX3_stepsTo_76 : decode cX3_stepsTo 76 = .ok (.iconst 1, 1) := by decide +kernel
theorem dX3_stepsTo_77 : decode cX3_stepsTo 77 = .ok (.iadd, 1) := by decide +kernel
theorem dX3_stepsTo_78 : decode cX3_stepsTo 78 = .ok (.ireturn, 1) := by decide +kernel
theorem dX3_stepsTo_79 : decode cX3_stepsTo 79 = .ok (.iinc 5 1, 3) := by decide +kernel
theorem dX3_stepsTo_82 : decode cX3_stepsTo 82 = .ok (.goto (-39), 3) := by decide +kernel
theorem dX3_stepsTo_85 : decode cX3_stepsTo 85 = .ok (.iconst 0, 1) := by decide +kernel
theorem dX3_stepsTo_86 : decode cX3_stepsTo 86 = .ok (.ireturn, 1) := by decide +kernel
theorem dX3_areListAndChainAlike_0 : decode cX3_areListAndChainAlike 0 = .ok (.aload_n 0, 1) := by decide +kernel
theorem dX3_areListAndChainAlike_1 : decode cX3_areListAndChainAlike 1 = .ok (.getfield 12, 3) := by decide +kernel
theorem dX3_areListAndChainAlike_4 : decode cX3_areListAndChainAlike 4 = .ok (.invokevirtual 82, 3) := by decide +kernel
theorem dX3_areListAndChainAlike_7 : decode cX3_areListAndChainAlike 7 = .ok (.aload_n 0, 1) := by decide +kernel
theorem dX3_areListAndChainAlike_8 : decode cX3_areListAndChainAlike 8 = .ok (.getfield 21, 3) := by decide +kernel
theorem dX3_areListAndChainAlike_11 : decode cX3_areListAndChainAlike 11 = .ok (.getfield 83, 3) := by decide +kernel
theorem dX3_areListAndChainAlike_14 : decode cX3_areListAndChainAlike 14 = .ok (.if_icmp .ne 20, 3) := by decide +kernel
theorem dX3_areListAndChainAlike_17 : decode cX3_areListAndChainAlike 17 = .ok (.aload_n 0, 1) := by decide +kernel
theorem dX3_areListAndChainAlike_18 : decode cX3_areListAndChainAlike 18 = .ok (.getfield 12, 3) := by decide +kernel
theorem dX3_areListAndChainAlike_21 : decode cX3_areListAndChainAlike 21 = .ok (.getfield 87, 3) := by decide +kernel
theorem dX3_areListAndChainAlike_24 : decode cX3_areListAndChainAlike 24 = .ok (.aload_n 0, 1) := by decide +kernel
theorem dX3_areListAndChainAlike_25 : decode cX3_areListAndChainAlike 25 = .ok (.getfield 21, 3) := by decide +kernel
theorem dX3_areListAndChainAlike_28 : decode cX3_areListAndChainAlike 28 = .ok (.getfield 89, 3) := by decide +kernel
theorem dX3_areListAndChainAlike_31 : decode cX3_areListAndChainAlike 31 = .ok (.if_icmp .eq 5, 3) := by decide +kernel
theorem dX3_areListAndChainAlike_34 : decode cX3_areListAndChainAlike 34 = .ok (.iconst 0, 1) := by decide +kernel
theorem dX3_areListAndChainAlike_35 : decode cX3_areListAndChainAlike 35 = .ok (.ireturn, 1) := by decide +kernel
theorem dX3_areListAndChainAlike_36 : decode cX3_areListAndChainAlike 36 = .ok (.iconst 0, 1) := by decide +kernel
theorem dX3_areListAndChainAlike_37 : decode cX3_areListAndChainAlike 37 = .ok (.istore_n 1, 1) := by decide +kernel
theorem dX3_areListAndChainAlike_38 : decode cX3_areListAndChainAlike 38 = .ok (.iload_n 1, 1) := by decide +kernel
theorem dX3_areListAndChainAlike_39 : decode cX3_areListAndChainAlike 39 = .ok (.aload_n 0, 1) := by decide +kernel
theorem dX3_areListAndChainAlike_40 : decode cX3_areListAndChainAlike 40 = .ok (.getfield 12, 3) := by decide +kernel
theorem dX3_areListAndChainAlike_43 : decode cX3_areListAndChainAlike 43 = .ok (.invokevirtual 82, 3) := by decide +kernel
theorem dX3_areListAndChainAlike_46 : decode cX3_areListAndChainAlike 46 = .ok (.if_icmp .ge 30, 3) := by decide +kernel
theorem dX3_areListAndChainAlike_49 : decode cX3_areListAndChainAlike 49 = .ok (.aload_n 0, 1) := by decide +kernel
theorem dX3_areListAndChainAlike_50 : decode cX3_areListAndChainAlike 50 = .ok (.getfield 12, 3) := by decide +kernel
theorem dX3_areListAndChainAlike_53 : decode cX3_areListAndChainAlike 53 = .ok (.iload_n 1, 1) := by decide +kernel
theorem dX3_areListAndChainAlike_54 : decode cX3_areListAndChainAlike 54 = .ok (.invokevirtual 90, 3) := by decide +kernel
theorem dX3_areListAndChainAlike_57 : decode cX3_areListAndChainAlike 57 = .ok (.aload_n 0, 1) := by decide +kernel
theorem dX3_areListAndChainAlike_58 : decode cX3_areListAndChainAlike 58 = .ok (.getfield 21, 3) := by decide +kernel
theorem dX3_areListAndChainAlike_61 : decode cX3_areListAndChainAlike 61 = .ok (.iload_n 1, 1) := by decide +kernel
theorem dX3_areListAndChainAlike_62 : decode cX3_areListAndChainAlike 62 = .ok (.invokevirtual 91, 3) := by decide +kernel
theorem dX3_areListAndChainAlike_65 : decode cX3_areListAndChainAlike 65 = .ok (.if_icmp .eq 5, 3) := by decide +kernel
theorem dX3_areListAndChainAlike_68 : decode cX3_areListAndChainAlike 68 = .ok (.iconst 0, 1) := by decide +kernel
theorem dX3_areListAndChainAlike_69 : decode cX3_areListAndChainAlike 69 = .ok (.ireturn, 1) := by decide +kernel
theorem dX3_areListAndChainAlike_70 : decode cX3_areListAndChainAlike 70 = .ok (.iinc 1 1, 3) := by decide +kernel
theorem dX3_areListAndChainAlike_73 : decode cX3_areListAndChainAlike 73 = .ok (.goto (-35), 3) := by decide +kernel
theorem dX3_areListAndChainAlike_76 : decode cX3_areListAndChainAlike 76 = .ok (.iconst 1, 1) := by decide +kernel
theorem dX3_areListAndChainAlike_77 : decode cX3_areListAndChainAlike 77 = .ok (.ireturn, 1) := by decide +kernel
theorem dX3_common_0 : decode cX3_common 0 = .ok (.iload_n 1, 1) := by decide +kernel
theorem dX3_common_1 : decode cX3_common 1 = .ok (.iload_n 2, 1) := by decide +kernel
theorem dX3_common_2 : decode cX3_common 2 = .ok (.if_icmp .ne 8, 3) := by decide +kernel
theorem dX3_common_5 : decode cX3_common 5 = .ok (.iload_n 2, 1) := by decide +kernel
theorem dX3_common_6 : decode cX3_common 6 = .ok (.iload_n 3, 1) := by decide +kernel
theorem dX3_common_7 : decode cX3_common 7 = .ok (.if_icmp .eq 13, 3) := by decide +kernel
theorem dX3_common_10 : decode cX3_common 10 = .ok (.aload_n 0, 1) := by decide +kernel
theorem dX3_common_11 : decode cX3_common 11 = .ok (.dup, 1) := by decide +kernel
theorem dX3_common_12 : decode cX3_common 12 = .ok (.getfield 92, 3) := by decide +kernel
theorem dX3_common_15 : decode cX3_common 15 = .ok (.iconst 1, 1) := by decide +kernel
theorem dX3_common_16 : decode cX3_common 16 = .ok (.iadd, 1) := by decide +kernel
theorem dX3_common_17 : decode cX3_common 17 = .ok (.putfield 92, 3) := by decide +kernel
theorem dX3_common_20 : decode cX3_common 20 = .ok (.iload_n 3, 1) := by decide +kernel
theorem dX3_common_21 : decode cX3_common 21 = .ok (.ireturn, 1) := by decide +kernel
theorem dX4_init_0 : decode cX4_init 0 = .ok (.aload_n 0, 1) := by decide +kernel
theorem dX4_init_1 : decode cX4_init 1 = .ok (.invokespecial 3, 3) := by decide +kernel
theorem dX4_init_4 : decode cX4_init 4 = .ok (.aload_n 0, 1) := by decide +kernel
theorem dX4_init_5 : decode cX4_init 5 = .ok (.new 9, 3) := by decide +kernel
theorem dX4_init_8 : decode cX4_init 8 = .ok (.dup, 1) := by decide +kernel
theorem dX4_init_9 : decode cX4_init 9 = .ok (.invokespecial 11, 3) := by decide +kernel
theorem dX4_init_12 : decode cX4_init 12 = .ok (.putfield 12, 3) := by decide +kernel
theorem dX4_init_15 : decode cX4_init 15 = .ok (.return_, 1) := by decide +kernel
theorem dX4_pass_0 : decode cX4_pass 0 = .ok (.iload_n 1, 1) := by decide +kernel
theorem dX4_pass_1 : decode cX4_pass 1 = .ok (.ifCond .eq 12, 3) := by decide +kernel
theorem dX4_pass_4 : decode cX4_pass 4 = .ok (.aload_n 0, 1) := by decide +kernel
theorem dX4_pass_5 : decode cX4_pass 5 = .ok (.getfield 18, 3) := by decide +kernel
theorem dX4_pass_8 : decode cX4_pass 8 = .ok (.iconst 1, 1) := by decide +kernel
theorem dX4_pass_9 : decode cX4_pass 9 = .ok (.isub, 1) := by decide +kernel
theorem dX4_pass_10 : decode cX4_pass 10 = .ok (.goto 7, 3) := by decide +kernel
theorem dX4_pass_13 : decode cX4_pass 13 = .ok (.aload_n 0, 1) := by decide +kernel
theorem dX4_pass_14 : decode cX4_pass 14 = .ok (.getfield 18, 3) := by decide +kernel
theorem dX4_pass_17 : decode cX4_pass 17 = .ok (.istore_n 2, 1) := by decide +kernel
theorem dX4_pass_18 : decode cX4_pass 18 = .ok (.iload_n 2, 1) := by decide +kernel
theorem dX4_pass_19 : decode cX4_pass 19 = .ok (.ifCond .lt 14, 3) := by decide +kernel
theorem dX4_pass_22 : decode cX4_pass 22 = .ok (.iload_n 2, 1) := by decide +kernel
theorem dX4_pass_23 : decode cX4_pass 23 = .ok (.aload_n 0, 1) := by decide +kernel
theorem dX4_pass_24 : decode cX4_pass 24 = .ok (.getfield 12, 3) := by decide +kernel
theorem dX4_pass_27 : decode cX4_pass 27 = .ok (.invokevirtual 22, 3) := by decide +kernel
theorem dX4_pass_30 : decode cX4_pass 30 = .ok (.if_icmp .lt 6, 3) := by decide +kernel
theorem dX4_pass_33 : decode cX4_pass 33 = .ok (.bipush (-2), 2) := by decide +kernel
theorem dX4_pass_35 : decode cX4_pass 35 = .ok (.ireturn, 1) := by decide +kernel
theorem dX4_pass_36 : decode cX4_pass 36 = .ok (.aload_n 0, 1) := by decide +kernel
theorem dX4_pass_37 : decode cX4_pass 37 = .ok (.dup, 1) := by decide +kernel
theorem dX4_pass_38 : decode cX4_pass 38 = .ok (.getfield 18, 3) := by decide +kernel
theorem dX4_pass_41 : decode cX4_pass 41 = .ok (.iload_n 1, 1) := by decide +kernel
theorem dX4_pass_42 : decode cX4_pass 42 = .ok (.ifCond .eq 7, 3) := by decide +kernel
theorem dX4_pass_45 : decode cX4_pass 45 = .ok (.iconst (-1), 1) := by decide +kernel
theorem dX4_pass_46 : decode cX4_pass 46 = .ok (.goto 4, 3) := by decide +kernel
theorem dX4_pass_49 : decode cX4_pass 49 = .ok (.iconst 1, 1) := by decide +kernel
theorem dX4_pass_50 : decode cX4_pass 50 = .ok (.iadd, 1) := by decide +kernel
theorem dX4_pass_51 : decode cX4_pass 51 = .ok (.putfield 18, 3) := by decide +kernel
theorem dX4_pass_54 : decode cX4_pass 54 = .ok (.aload_n 0, 1) := by decide +kernel
theorem dX4_pass_55 : decode cX4_pass 55 = .ok (.getfield 12, 3) := by decide +kernel
theorem dX4_pass_58 : decode cX4_pass 58 = .ok (.iload_n 2, 1) := by decide +kernel
theorem dX4_pass_59 : decode cX4_pass 59 = .ok (.invokevirtual 26, 3) := by decide +kernel
theorem dX4_pass_62 : decode cX4_pass 62 = .ok (.checkcast 30, 3) := by decide +kernel
theorem dX4_pass_65 : decode cX4_pass 65 = .ok (.invokevirtual 32, 3) := by decide +kernel
theorem dX4_pass_68 : decode cX4_pass 68 = .ok (.ireturn, 1) := by decide +kernel
theorem dX4_insert_0 : decode cX4_insert 0 = .ok (.aload_n 0, 1) := by decide +kernel
theorem dX4_insert_1 : decode cX4_insert 1 = .ok (.getfield 12, 3) := by decide +kernel
theorem dX4_insert_4 : decode cX4_insert 4 = .ok (.invokevirtual 22, 3) := by decide +kernel
theorem dX4_insert_7 : decode cX4_insert 7 = .ok (.bipush 100, 2) := by decide +kernel
theorem dX4_insert_9 : decode cX4_insert 9 = .ok (.if_icmp .ge 24, 3) := by decide +kernel
theorem dX4_insert_12 : decode cX4_insert 12 = .ok (.aload_n 0, 1) := by decide +kernel
theorem dX4_insert_13 : decode cX4_insert 13 = .ok (.getfield 18, 3) := by decide +kernel
theorem dX4_insert_16 : decode cX4_insert 16 = .ok (.ifCond .lt 17, 3) := by decide +kernel
theorem dX4_insert_19 : decode cX4_insert 19 = .ok (.aload_n 0, 1) := by decide +kernel
theorem dX4_insert_20 : decode cX4_insert 20 = .ok (.getfield 18, 3) := by decide +kernel
theorem dX4_insert_23 : decode cX4_insert 23 = .ok (.aload_n 0, 1) := by decide +kernel
theorem dX4_insert_24 : decode cX4_insert 24 = .ok (.getfield 12, 3) := by decide +kernel
theorem dX4_insert_27 : decode cX4_insert 27 = .ok (.invokevirtual 22, 3) := by decide +kernel
theorem dX4_insert_30 : decode cX4_insert 30 = .ok (.if_icmp .le 6, 3) := by decide +kernel
theorem dX4_insert_33 : decode cX4_insert 33 = .ok (.bipush (-5), 2) := by decide +kernel
theorem dX4_insert_35 : decode cX4_insert 35 = .ok (.ireturn, 1) := by decide +kernel
theorem dX4_insert_36 : decode cX4_insert 36 = .ok (.aload_n 0, 1) := by decide +kernel
theorem dX4_insert_37 : decode cX4_insert 37 = .ok (.getfield 12, 3) := by decide +kernel
theorem dX4_insert_40 : decode cX4_insert 40 = .ok (.aload_n 0, 1) := by decide +kernel
theorem dX4_insert_41 : decode cX4_insert 41 = .ok (.getfield 18, 3) := by decide +kernel
theorem dX4_insert_44 : decode cX4_insert 44 = .ok (.iload_n 1, 1) := by decide +kernel
theorem dX4_insert_45 : decode cX4_insert 45 = .ok (.invokestatic 35, 3) := by decide +kernel
theorem dX4_insert_48 : decode cX4_insert 48 = .ok (.invokevirtual 39, 3) := by decide +kernel
theorem dX4_insert_51 : decode cX4_insert 51 = .ok (.aload_n 0, 1) := by decide +kernel
theorem dX4_insert_52 : decode cX4_insert 52 = .ok (.dup, 1) := by decide +kernel
theorem dX4_insert_53 : decode cX4_insert 53 = .ok (.getfield 18, 3) := by decide +kernel
theorem dX4_insert_56 : decode cX4_insert 56 = .ok (.iconst 1, 1) := by decide +kernel
theorem dX4_insert_57 : decode cX4_insert 57 = .ok (.iadd, 1) := by decide +kernel
theorem dX4_insert_58 : decode cX4_insert 58 = .ok (.putfield 18, 3) := by decide +kernel
theorem dX4_insert_61 : decode cX4_insert 61 = .ok (.aload_n 0, 1) := by decide +kernel
theorem dX4_insert_62 : decode cX4_insert 62 = .ok (.getfield 12, 3) := by decide +kernel
theorem dX4_insert_65 : decode cX4_insert 65 = .ok (.invokevirtual 22, 3) := by decide +kernel
theorem dX4_insert_68 : decode cX4_insert 68 = .ok (.ireturn, 1) := by decide +kernel
theorem dX4_exchange_0 : decode cX4_exchange 0 = .ok (.iload_n 2, 1) := by decide +kernel
theorem dX4_exchange_1 : decode cX4_exchange 1 = .ok (.ifCond .eq 12, 3) := by decide +kernel
theorem dX4_exchange_4 : decode cX4_exchange 4 = .ok (.aload_n 0, 1) := by decide +kernel
theorem dX4_exchange_5 : decode cX4_exchange 5 = .ok (.getfield 18, 3) := by decide +kernel
theorem dX4_exchange_8 : decode cX4_exchange 8 = .ok (.iconst 1, 1) := by decide +kernel
theorem dX4_exchange_9 : decode cX4_exchange 9 = .ok (.isub, 1) := by decide +kernel
theorem dX4_exchange_10 : decode cX4_exchange 10 = .ok (.goto 7, 3) := by decide +kernel
theorem dX4_exchange_13 : decode cX4_exchange 13 = .ok (.aload_n 0, 1) := by decide +kernel
theorem dX4_exchange_14 : decode cX4_exchange 14 = .ok (.getfield 18, 3) := by decide +kernel
theorem dX4_exchange_17 : decode cX4_exchange 17 = .ok (.istore_n 3, 1) := by decide +kernel
theorem dX4_exchange_18 : decode cX4_exchange 18 = .ok (.iload_n 3, 1) := by decide +kernel
theorem dX4_exchange_19 : decode cX4_exchange 19 = .ok (.ifCond .lt 14, 3) := by decide +kernel
theorem dX4_exchange_22 : decode cX4_exchange 22 = .ok (.iload_n 3, 1) := by decide +kernel
theorem dX4_exchange_23 : decode cX4_exchange 23 = .ok (.aload_n 0, 1) := by decide +kernel
theorem dX4_exchange_24 : decode cX4_exchange 24 = .ok (.getfield 12, 3) := by decide +kernel
theorem dX4_exchange_27 : decode cX4_exchange 27 = .ok (.invokevirtual 22, 3) := by decide +kernel
theorem dX4_exchange_30 : decode cX4_exchange 30 = .ok (.if_icmp .lt 6, 3) := by decide +kernel
theorem dX4_exchange_33 : decode cX4_exchange 33 = .ok (.bipush (-3), 2) := by decide +kernel
theorem dX4_exchange_35 : decode cX4_exchange 35 = .ok (.ireturn, 1) := by decide +kernel
theorem dX4_exchange_36 : decode cX4_exchange 36 = .ok (.aload_n 0, 1) := by decide +kernel
theorem dX4_exchange_37 : decode cX4_exchange 37 = .ok (.getfield 12, 3) := by decide +kernel
theorem dX4_exchange_40 : decode cX4_exchange 40 = .ok (.iload_n 3, 1) := by decide +kernel
theorem dX4_exchange_41 : decode cX4_exchange 41 = .ok (.iload_n 1, 1) := by decide +kernel
theorem dX4_exchange_42 : decode cX4_exchange 42 = .ok (.invokestatic 35, 3) := by decide +kernel
theorem dX4_exchange_45 : decode cX4_exchange 45 = .ok (.invokevirtual 43, 3) := by decide +kernel
theorem dX4_exchange_48 : decode cX4_exchange 48 = .ok (.checkcast 30, 3) := by decide +kernel
theorem dX4_exchange_51 : decode cX4_exchange 51 = .ok (.invokevirtual 32, 3) := by decide +kernel
theorem dX4_exchange_54 : decode cX4_exchange 54 = .ok (.ireturn, 1) := by decide +kernel
theorem dX4_drop_0 : decode cX4_drop 0 = .ok (.iload_n 1, 1) := by decide +kernel
theorem dX4_drop_1 : decode cX4_drop 1 = .ok (.ifCond .eq 12, 3) := by decide +kernel
theorem dX4_drop_4 : decode cX4_drop 4 = .ok (.aload_n 0, 1) := by decide +kernel
theorem dX4_drop_5 : decode cX4_drop 5 = .ok (.getfield 18, 3) := by decide +kernel
theorem dX4_drop_8 : decode cX4_drop 8 = .ok (.iconst 1, 1) := by decide +kernel
theorem dX4_drop_9 : decode cX4_drop 9 = .ok (.isub, 1) := by decide +kernel
theorem dX4_drop_10 : decode cX4_drop 10 = .ok (.goto 7, 3) := by decide +kernel
theorem dX4_drop_13 : decode cX4_drop 13 = .ok (.aload_n 0, 1) := by decide +kernel
theorem dX4_drop_14 : decode cX4_drop 14 = .ok (.getfield 18, 3) := by decide +kernel
theorem dX4_drop_17 : decode cX4_drop 17 = .ok (.istore_n 2, 1) := by decide +kernel
theorem dX4_drop_18 : decode cX4_drop 18 = .ok (.iload_n 2, 1) := by decide +kernel
theorem dX4_drop_19 : decode cX4_drop 19 = .ok (.ifCond .lt 14, 3) := by decide +kernel
theorem dX4_drop_22 : decode cX4_drop 22 = .ok (.iload_n 2, 1) := by decide +kernel
theorem dX4_drop_23 : decode cX4_drop 23 = .ok (.aload_n 0, 1) := by decide +kernel
theorem dX4_drop_24 : decode cX4_drop 24 = .ok (.getfield 12, 3) := by decide +kernel
theorem dX4_drop_27 : decode cX4_drop 27 = .ok (.invokevirtual 22, 3) := by decide +kernel
theorem dX4_drop_30 : decode cX4_drop 30 = .ok (.if_icmp .lt 6, 3) := by decide +kernel
theorem dX4_drop_33 : decode cX4_drop 33 = .ok (.bipush (-3), 2) := by decide +kernel
theorem dX4_drop_35 : decode cX4_drop 35 = .ok (.ireturn, 1) := by decide +kernel
theorem dX4_drop_36 : decode cX4_drop 36 = .ok (.aload_n 0, 1) := by decide +kernel
theorem dX4_drop_37 : decode cX4_drop 37 = .ok (.dup, 1) := by decide +kernel
theorem dX4_drop_38 : decode cX4_drop 38 = .ok (.getfield 18, 3) := by decide +kernel
theorem dX4_drop_41 : decode cX4_drop 41 = .ok (.iload_n 1, 1) := by decide +kernel
theorem dX4_drop_42 : decode cX4_drop 42 = .ok (.ifCond .eq 7, 3) := by decide +kernel
theorem dX4_drop_45 : decode cX4_drop 45 = .ok (.iconst 1, 1) := by decide +kernel
theorem dX4_drop_46 : decode cX4_drop 46 = .ok (.goto 4, 3) := by decide +kernel
theorem dX4_drop_49 : decode cX4_drop 49 = .ok (.iconst 0, 1) := by decide +kernel
theorem dX4_drop_50 : decode cX4_drop 50 = .ok (.isub, 1) := by decide +kernel
theorem dX4_drop_51 : decode cX4_drop 51 = .ok (.putfield 18, 3) := by decide +kernel
theorem dX4_drop_54 : decode cX4_drop 54 = .ok (.aload_n 0, 1) := by decide +kernel
theorem dX4_drop_55 : decode cX4_drop 55 = .ok (.getfield 12, 3) := by decide +kernel
theorem dX4_drop_58 : decode cX4_drop 58 = .ok (.iload_n 2, 1) := by decide +kernel
theorem dX4_drop_59 : decode cX4_drop 59 = .ok (.invokevirtual 47, 3) := by decide +kernel
theorem dX4_drop_62 : decode cX4_drop 62 = .ok (.checkcast 30, 3) := by decide +kernel
theorem dX4_drop_65 : decode cX4_drop 65 = .ok (.invokevirtual 32, 3) := by decide +kernel
theorem dX4_drop_68 : decode cX4_drop 68 = .ok (.ireturn, 1) := by decide +kernel
theorem dX4_cross_0 : decode cX4_cross 0 = .ok (.aload_n 0, 1) := by decide +kernel
theorem dX4_cross_1 : decode cX4_cross 1 = .ok (.getfield 18, 3) := by decide +kernel
theorem dX4_cross_4 : decode cX4_cross 4 = .ok (.iconst 1, 1) := by decide +kernel
theorem dX4_cross_5 : decode cX4_cross 5 = .ok (.if_icmp .lt 17, 3) := by decide +kernel
theorem dX4_cross_8 : decode cX4_cross 8 = .ok (.aload_n 0, 1) := by decide +kernel
theorem dX4_cross_9 : decode cX4_cross 9 = .ok (.getfield 18, 3) := by decide +kernel
theorem dX4_cross_12 : decode cX4_cross 12 = .ok (.aload_n 0, 1) := by decide +kernel
theorem dX4_cross_13 : decode cX4_cross 13 = .ok (.getfield 12, 3) := by decide +kernel
theorem dX4_cross_16 : decode cX4_cross 16 = .ok (.invokevirtual 22, 3) := by decide +kernel
theorem dX4_cross_19 : decode cX4_cross 19 = .ok (.if_icmp .lt 6, 3) := by decide +kernel
theorem dX4_cross_22 : decode cX4_cross 22 = .ok (.bipush (-2), 2) := by decide +kernel
theorem dX4_cross_24 : decode cX4_cross 24 = .ok (.ireturn, 1) := by decide +kernel
theorem dX4_cross_25 : decode cX4_cross 25 = .ok (.aload_n 0, 1) := by decide +kernel
theorem dX4_cross_26 : decode cX4_cross 26 = .ok (.getfield 12, 3) := by decide +kernel
theorem dX4_cross_29 : decode cX4_cross 29 = .ok (.aload_n 0, 1) := by decide +kernel
theorem dX4_cross_30 : decode cX4_cross 30 = .ok (.getfield 18, 3) := by decide +kernel
theorem dX4_cross_33 : decode cX4_cross 33 = .ok (.iconst 1, 1) := by decide +kernel
theorem dX4_cross_34 : decode cX4_cross 34 = .ok (.isub, 1) := by decide +kernel
theorem dX4_cross_35 : decode cX4_cross 35 = .ok (.aload_n 0, 1) := by decide +kernel
theorem dX4_cross_36 : decode cX4_cross 36 = .ok (.getfield 12, 3) := by decide +kernel
theorem dX4_cross_39 : decode cX4_cross 39 = .ok (.aload_n 0, 1) := by decide +kernel
theorem dX4_cross_40 : decode cX4_cross 40 = .ok (.getfield 18, 3) := by decide +kernel
theorem dX4_cross_43 : decode cX4_cross 43 = .ok (.invokevirtual 47, 3) := by decide +kernel
theorem dX4_cross_46 : decode cX4_cross 46 = .ok (.checkcast 30, 3) := by decide +kernel
theorem dX4_cross_49 : decode cX4_cross 49 = .ok (.invokevirtual 39, 3) := by decide +kernel
theorem dX4_cross_52 : decode cX4_cross 52 = .ok (.aload_n 0, 1) := by decide +kernel
theorem dX4_cross_53 : decode cX4_cross 53 = .ok (.getfield 12, 3) := by decide +kernel
theorem dX4_cross_56 : decode cX4_cross 56 = .ok (.aload_n 0, 1) := by decide +kernel
theorem dX4_cross_57 : decode cX4_cross 57 = .ok (.getfield 18, 3) := by decide +kernel
theorem dX4_cross_60 : decode cX4_cross 60 = .ok (.iconst 1, 1) := by decide +kernel
theorem dX4_cross_61 : decode cX4_cross 61 = .ok (.isub, 1) := by decide +kernel
theorem dX4_cross_62 : decode cX4_cross 62 = .ok (.invokevirtual 26, 3) := by decide +kernel
theorem dX4_cross_65 : decode cX4_cross 65 = .ok (.checkcast 30, 3) := by decide +kernel
theorem dX4_cross_68 : decode cX4_cross 68 = .ok (.invokevirtual 32, 3) := by decide +kernel
theorem dX4_cross_71 : decode cX4_cross 71 = .ok (.ireturn, 1) := by decide +kernel
theorem dX4_empty_0 : decode cX4_empty 0 = .ok (.aload_n 0, 1) := by decide +kernel
theorem dX4_empty_1 : decode cX4_empty 1 = .ok (.getfield 12, 3) := by decide +kernel
theorem dX4_empty_4 : decode cX4_empty 4 = .ok (.invokevirtual 50, 3) := by decide +kernel
theorem dX4_empty_7 : decode cX4_empty 7 = .ok (.aload_n 0, 1) := by decide +kernel
theorem dX4_empty_8 : decode cX4_empty 8 = .ok (.iconst 0, 1) := by decide +kernel
theorem dX4_empty_9 : decode cX4_empty 9 = .ok (.putfield 18, 3) := by decide +kernel
theorem dX4_empty_12 : decode cX4_empty 12 = .ok (.return_, 1) := by decide +kernel
theorem dX4_length_0 : decode cX4_length 0 = .ok (.aload_n 0, 1) := by decide +kernel
theorem dX4_length_1 : decode cX4_length 1 = .ok (.getfield 12, 3) := by decide +kernel
theorem dX4_length_4 : decode cX4_length 4 = .ok (.invokevirtual 22, 3) := by decide +kernel
theorem dX4_length_7 : decode cX4_length 7 = .ok (.ireturn, 1) := by decide +kernel
theorem dX4_wordOf_0 : decode cX4_wordOf 0 = .ok (.iload_n 1, 1) := by decide +kernel
theorem dX4_wordOf_1 : decode cX4_wordOf 1 = .ok (.ifCond .lt 31, 3) := by decide +kernel
theorem dX4_wordOf_4 : decode cX4_wordOf 4 = .ok (.iload_n 1, 1) := by decide +kernel
theorem dX4_wordOf_5 : decode cX4_wordOf 5 = .ok (.aload_n 0, 1) := by decide +kernel
theorem dX4_wordOf_6 : decode cX4_wordOf 6 = .ok (.getfield 12, 3) := by decide +kernel
theorem dX4_wordOf_9 : decode cX4_wordOf 9 = .ok (.invokevirtual 22, 3) := by decide +kernel
theorem dX4_wordOf_12 : decode cX4_wordOf 12 = .ok (.if_icmp .ge 20, 3) := by decide +kernel
theorem dX4_wordOf_15 : decode cX4_wordOf 15 = .ok (.aload_n 0, 1) := by decide +kernel
theorem dX4_wordOf_16 : decode cX4_wordOf 16 = .ok (.getfield 12, 3) := by decide +kernel
theorem dX4_wordOf_19 : decode cX4_wordOf 19 = .ok (.iload_n 1, 1) := by decide +kernel
theorem dX4_wordOf_20 : decode cX4_wordOf 20 = .ok (.invokevirtual 26, 3) := by decide +kernel
theorem dX4_wordOf_23 : decode cX4_wordOf 23 = .ok (.checkcast 30, 3) := by decide +kernel
theorem dX4_wordOf_26 : decode cX4_wordOf 26 = .ok (.invokevirtual 32, 3) := by decide +kernel
theorem dX4_wordOf_29 : decode cX4_wordOf 29 = .ok (.goto 4, 3) := by decide +kernel
theorem dX4_wordOf_32 : decode cX4_wordOf 32 = .ok (.iconst (-1), 1) := by decide +kernel
theorem dX4_wordOf_33 : decode cX4_wordOf 33 = .ok (.ireturn, 1) := by decide +kernel
theorem dX5_init_0 : decode cX5_init 0 = .ok (.aload_n 0, 1) := by decide +kernel
theorem dX5_init_1 : decode cX5_init 1 = .ok (.invokespecial 1, 3) := by decide +kernel
theorem dX5_init_4 : decode cX5_init 4 = .ok (.return_, 1) := by decide +kernel
theorem dX6_init_0 : decode cX6_init 0 = .ok (.aload_n 0, 1) := by decide +kernel
theorem dX6_init_1 : decode cX6_init 1 = .ok (.invokespecial 3, 3) := by decide +kernel
theorem dX6_init_4 : decode cX6_init 4 = .ok (.aload_n 0, 1) := by decide +kernel
theorem dX6_init_5 : decode cX6_init 5 = .ok (.iconst 2, 1) := by decide +kernel
theorem dX6_init_6 : decode cX6_init 6 = .ok (.bipush 100, 2) := by decide +kernel
theorem dX6_init_8 : decode cX6_init 8 = .ok (.multianewarray 9 2, 4) := by decide +kernel
theorem dX6_init_12 : decode cX6_init 12 = .ok (.putfield 11, 3) := by decide +kernel
theorem dX6_init_15 : decode cX6_init 15 = .ok (.aload_n 0, 1) := by decide +kernel
theorem dX6_init_16 : decode cX6_init 16 = .ok (.iconst 2, 1) := by decide +kernel
theorem dX6_init_17 : decode cX6_init 17 = .ok (.newarray .int, 2) := by decide +kernel
theorem dX6_init_19 : decode cX6_init 19 = .ok (.putfield 16, 3) := by decide +kernel
theorem dX6_init_22 : decode cX6_init 22 = .ok (.return_, 1) := by decide +kernel
theorem dX6_pass_0 : decode cX6_pass 0 = .ok (.iload_n 1, 1) := by decide +kernel
theorem dX6_pass_1 : decode cX6_pass 1 = .ok (.ifCond .eq 7, 3) := by decide +kernel
theorem dX6_pass_4 : decode cX6_pass 4 = .ok (.iconst 0, 1) := by decide +kernel
theorem dX6_pass_5 : decode cX6_pass 5 = .ok (.goto 4, 3) := by decide +kernel
theorem dX6_pass_8 : decode cX6_pass 8 = .ok (.iconst 1, 1) := by decide +kernel
theorem dX6_pass_9 : decode cX6_pass 9 = .ok (.istore_n 2, 1) := by decide +kernel
theorem dX6_pass_10 : decode cX6_pass 10 = .ok (.iload_n 1, 1) := by decide +kernel
theorem dX6_pass_11 : decode cX6_pass 11 = .ok (.ifCond .eq 7, 3) := by decide +kernel
theorem dX6_pass_14 : decode cX6_pass 14 = .ok (.iconst 1, 1) := by decide +kernel
theorem dX6_pass_15 : decode cX6_pass 15 = .ok (.goto 4, 3) := by decide +kernel
theorem dX6_pass_18 : decode cX6_pass 18 = .ok (.iconst 0, 1) := by decide +kernel
theorem dX6_pass_19 : decode cX6_pass 19 = .ok (.istore_n 3, 1) := by decide +kernel
theorem dX6_pass_20 : decode cX6_pass 20 = .ok (.aload_n 0, 1) := by decide +kernel
theorem dX6_pass_21 : decode cX6_pass 21 = .ok (.getfield 16, 3) := by decide +kernel
theorem dX6_pass_24 : decode cX6_pass 24 = .ok (.iload_n 2, 1) := by decide +kernel
theorem dX6_pass_25 : decode cX6_pass 25 = .ok (.iaload, 1) := by decide +kernel
theorem dX6_pass_26 : decode cX6_pass 26 = .ok (.iconst 1, 1) := by decide +kernel
theorem dX6_pass_27 : decode cX6_pass 27 = .ok (.if_icmp .lt 14, 3) := by decide +kernel
theorem dX6_pass_30 : decode cX6_pass 30 = .ok (.aload_n 0, 1) := by decide +kernel
theorem dX6_pass_31 : decode cX6_pass 31 = .ok (.getfield 16, 3) := by decide +kernel
theorem dX6_pass_34 : decode cX6_pass 34 = .ok (.iload_n 3, 1) := by decide +kernel
theorem dX6_pass_35 : decode cX6_pass 35 = .ok (.iaload, 1) := by decide +kernel
theorem dX6_pass_36 : decode cX6_pass 36 = .ok (.bipush 100, 2) := by decide +kernel
theorem dX6_pass_38 : decode cX6_pass 38 = .ok (.if_icmp .lt 6, 3) := by decide +kernel
theorem dX6_pass_41 : decode cX6_pass 41 = .ok (.bipush (-2), 2) := by decide +kernel
theorem dX6_pass_43 : decode cX6_pass 43 = .ok (.ireturn, 1) := by decide +kernel
theorem dX6_pass_44 : decode cX6_pass 44 = .ok (.aload_n 0, 1) := by decide +kernel
theorem dX6_pass_45 : decode cX6_pass 45 = .ok (.getfield 16, 3) := by decide +kernel
theorem dX6_pass_48 : decode cX6_pass 48 = .ok (.iload_n 2, 1) := by decide +kernel
theorem dX6_pass_49 : decode cX6_pass 49 = .ok (.dup2, 1) := by decide +kernel
theorem dX6_pass_50 : decode cX6_pass 50 = .ok (.iaload, 1) := by decide +kernel
theorem dX6_pass_51 : decode cX6_pass 51 = .ok (.iconst 1, 1) := by decide +kernel
theorem dX6_pass_52 : decode cX6_pass 52 = .ok (.isub, 1) := by decide +kernel
theorem dX6_pass_53 : decode cX6_pass 53 = .ok (.iastore, 1) := by decide +kernel
theorem dX6_pass_54 : decode cX6_pass 54 = .ok (.aload_n 0, 1) := by decide +kernel
theorem dX6_pass_55 : decode cX6_pass 55 = .ok (.getfield 11, 3) := by decide +kernel
theorem dX6_pass_58 : decode cX6_pass 58 = .ok (.iload_n 2, 1) := by decide +kernel
theorem dX6_pass_59 : decode cX6_pass 59 = .ok (.aaload, 1) := by decide +kernel
theorem dX6_pass_60 : decode cX6_pass 60 = .ok (.aload_n 0, 1) := by decide +kernel
theorem dX6_pass_61 : decode cX6_pass 61 = .ok (.getfield 16, 3) := by decide +kernel
theorem dX6_pass_64 : decode cX6_pass 64 = .ok (.iload_n 2, 1) := by decide +kernel
theorem dX6_pass_65 : decode cX6_pass 65 = .ok (.iaload, 1) := by decide +kernel
theorem dX6_pass_66 : decode cX6_pass 66 = .ok (.iaload, 1) := by decide +kernel
theorem dX6_pass_67 : decode cX6_pass 67 = .ok (.istore 4, 2) := by decide +kernel
theorem dX6_pass_69 : decode cX6_pass 69 = .ok (.aload_n 0, 1) := by decide +kernel
theorem dX6_pass_70 : decode cX6_pass 70 = .ok (.getfield 11, 3) := by decide +kernel
theorem dX6_pass_73 : decode cX6_pass 73 = .ok (.iload_n 3, 1) := by decide +kernel
theorem dX6_pass_74 : decode cX6_pass 74 = .ok (.aaload, 1) := by decide +kernel
theorem dX6_pass_75 : decode cX6_pass 75 = .ok (.aload_n 0, 1) := by decide +kernel
theorem dX6_pass_76 : decode cX6_pass 76 = .ok (.getfield 16, 3) := by decide +kernel
theorem dX6_pass_79 : decode cX6_pass 79 = .ok (.iload_n 3, 1) := by decide +kernel
theorem dX6_pass_80 : decode cX6_pass 80 = .ok (.iaload, 1) := by decide +kernel
theorem dX6_pass_81 : decode cX6_pass 81 = .ok (.iload 4, 2) := by decide +kernel
theorem dX6_pass_83 : decode cX6_pass 83 = .ok (.iastore, 1) := by decide +kernel
theorem dX6_pass_84 : decode cX6_pass 84 = .ok (.aload_n 0, 1) := by decide +kernel
theorem dX6_pass_85 : decode cX6_pass 85 = .ok (.getfield 16, 3) := by decide +kernel
theorem dX6_pass_88 : decode cX6_pass 88 = .ok (.iload_n 3, 1) := by decide +kernel
theorem dX6_pass_89 : decode cX6_pass 89 = .ok (.dup2, 1) := by decide +kernel
theorem dX6_pass_90 : decode cX6_pass 90 = .ok (.iaload, 1) := by decide +kernel
theorem dX6_pass_91 : decode cX6_pass 91 = .ok (.iconst 1, 1) := by decide +kernel
theorem dX6_pass_92 : decode cX6_pass 92 = .ok (.iadd, 1) := by decide +kernel
theorem dX6_pass_93 : decode cX6_pass 93 = .ok (.iastore, 1) := by decide +kernel
theorem dX6_pass_94 : decode cX6_pass 94 = .ok (.iload 4, 2) := by decide +kernel
theorem dX6_pass_96 : decode cX6_pass 96 = .ok (.ireturn, 1) := by decide +kernel
theorem dX6_insert_0 : decode cX6_insert 0 = .ok (.aload_n 0, 1) := by decide +kernel
theorem dX6_insert_1 : decode cX6_insert 1 = .ok (.invokevirtual 20, 3) := by decide +kernel
theorem dX6_insert_4 : decode cX6_insert 4 = .ok (.bipush 100, 2) := by decide +kernel
theorem dX6_insert_6 : decode cX6_insert 6 = .ok (.if_icmp .lt 6, 3) := by decide +kernel
theorem dX6_insert_9 : decode cX6_insert 9 = .ok (.bipush (-5), 2) := by decide +kernel
theorem dX6_insert_11 : decode cX6_insert 11 = .ok (.ireturn, 1) := by decide +kernel
theorem dX6_insert_12 : decode cX6_insert 12 = .ok (.aload_n 0, 1) := by decide +kernel
theorem dX6_insert_13 : decode cX6_insert 13 = .ok (.getfield 11, 3) := by decide +kernel
theorem dX6_insert_16 : decode cX6_insert 16 = .ok (.iconst 0, 1) := by decide +kernel
theorem dX6_insert_17 : decode cX6_insert 17 = .ok (.aaload, 1) := by decide +kernel
theorem dX6_insert_18 : decode cX6_insert 18 = .ok (.aload_n 0, 1) := by decide +kernel
theorem dX6_insert_19 : decode cX6_insert 19 = .ok (.getfield 16, 3) := by decide +kernel
theorem dX6_insert_22 : decode cX6_insert 22 = .ok (.iconst 0, 1) := by decide +kernel
theorem dX6_insert_23 : decode cX6_insert 23 = .ok (.iaload, 1) := by decide +kernel
theorem dX6_insert_24 : decode cX6_insert 24 = .ok (.iload_n 1, 1) := by decide +kernel
theorem dX6_insert_25 : decode cX6_insert 25 = .ok (.iastore, 1) := by decide +kernel
theorem dX6_insert_26 : decode cX6_insert 26 = .ok (.aload_n 0, 1) := by decide +kernel
theorem dX6_insert_27 : decode cX6_insert 27 = .ok (.getfield 16, 3) := by decide +kernel
theorem dX6_insert_30 : decode cX6_insert 30 = .ok (.iconst 0, 1) := by decide +kernel
theorem dX6_insert_31 : decode cX6_insert 31 = .ok (.dup2, 1) := by decide +kernel
theorem dX6_insert_32 : decode cX6_insert 32 = .ok (.iaload, 1) := by decide +kernel
theorem dX6_insert_33 : decode cX6_insert 33 = .ok (.iconst 1, 1) := by decide +kernel
theorem dX6_insert_34 : decode cX6_insert 34 = .ok (.iadd, 1) := by decide +kernel
theorem dX6_insert_35 : decode cX6_insert 35 = .ok (.iastore, 1) := by decide +kernel
theorem dX6_insert_36 : decode cX6_insert 36 = .ok (.aload_n 0, 1) := by decide +kernel
theorem dX6_insert_37 : decode cX6_insert 37 = .ok (.invokevirtual 20, 3) := by decide +kernel
theorem dX6_insert_40 : decode cX6_insert 40 = .ok (.ireturn, 1) := by decide +kernel
theorem dX6_exchange_0 : decode cX6_exchange 0 = .ok (.iload_n 2, 1) := by decide +kernel
theorem dX6_exchange_1 : decode cX6_exchange 1 = .ok (.ifCond .eq 7, 3) := by decide +kernel
theorem dX6_exchange_4 : decode cX6_exchange 4 = .ok (.iconst 0, 1) := by decide +kernel
theorem dX6_exchange_5 : decode cX6_exchange 5 = .ok (.goto 4, 3) := by decide +kernel
theorem dX6_exchange_8 : decode cX6_exchange 8 = .ok (.iconst 1, 1) := by decide +kernel
theorem dX6_exchange_9 : decode cX6_exchange 9 = .ok (.istore_n 3, 1) := by decide +kernel
theorem dX6_exchange_10 : decode cX6_exchange 10 = .ok (.aload_n 0, 1) := by decide +kernel
theorem dX6_exchange_11 : decode cX6_exchange 11 = .ok (.getfield 16, 3) := by decide +kernel
theorem dX6_exchange_14 : decode cX6_exchange 14 = .ok (.iload_n 3, 1) := by decide +kernel
theorem dX6_exchange_15 : decode cX6_exchange 15 = .ok (.iaload, 1) := by decide +kernel
theorem dX6_exchange_16 : decode cX6_exchange 16 = .ok (.iconst 1, 1) := by decide +kernel
theorem dX6_exchange_17 : decode cX6_exchange 17 = .ok (.if_icmp .ge 6, 3) := by decide +kernel
theorem dX6_exchange_20 : decode cX6_exchange 20 = .ok (.bipush (-3), 2) := by decide +kernel
theorem dX6_exchange_22 : decode cX6_exchange 22 = .ok (.ireturn, 1) := by decide +kernel
theorem dX6_exchange_23 : decode cX6_exchange 23 = .ok (.aload_n 0, 1) := by decide +kernel
theorem dX6_exchange_24 : decode cX6_exchange 24 = .ok (.getfield 11, 3) := by decide +kernel
theorem dX6_exchange_27 : decode cX6_exchange 27 = .ok (.iload_n 3, 1) := by decide +kernel
theorem dX6_exchange_28 : decode cX6_exchange 28 = .ok (.aaload, 1) := by decide +kernel
theorem dX6_exchange_29 : decode cX6_exchange 29 = .ok (.aload_n 0, 1) := by decide +kernel
theorem dX6_exchange_30 : decode cX6_exchange 30 = .ok (.getfield 16, 3) := by decide +kernel
theorem dX6_exchange_33 : decode cX6_exchange 33 = .ok (.iload_n 3, 1) := by decide +kernel
theorem dX6_exchange_34 : decode cX6_exchange 34 = .ok (.iaload, 1) := by decide +kernel
theorem dX6_exchange_35 : decode cX6_exchange 35 = .ok (.iconst 1, 1) := by decide +kernel
theorem dX6_exchange_36 : decode cX6_exchange 36 = .ok (.isub, 1) := by decide +kernel
theorem dX6_exchange_37 : decode cX6_exchange 37 = .ok (.iaload, 1) := by decide +kernel
theorem dX6_exchange_38 : decode cX6_exchange 38 = .ok (.istore 4, 2) := by decide +kernel
theorem dX6_exchange_40 : decode cX6_exchange 40 = .ok (.aload_n 0, 1) := by decide +kernel
theorem dX6_exchange_41 : decode cX6_exchange 41 = .ok (.getfield 11, 3) := by decide +kernel
theorem dX6_exchange_44 : decode cX6_exchange 44 = .ok (.iload_n 3, 1) := by decide +kernel
theorem dX6_exchange_45 : decode cX6_exchange 45 = .ok (.aaload, 1) := by decide +kernel
theorem dX6_exchange_46 : decode cX6_exchange 46 = .ok (.aload_n 0, 1) := by decide +kernel
theorem dX6_exchange_47 : decode cX6_exchange 47 = .ok (.getfield 16, 3) := by decide +kernel
theorem dX6_exchange_50 : decode cX6_exchange 50 = .ok (.iload_n 3, 1) := by decide +kernel
theorem dX6_exchange_51 : decode cX6_exchange 51 = .ok (.iaload, 1) := by decide +kernel
theorem dX6_exchange_52 : decode cX6_exchange 52 = .ok (.iconst 1, 1) := by decide +kernel
theorem dX6_exchange_53 : decode cX6_exchange 53 = .ok (.isub, 1) := by decide +kernel
theorem dX6_exchange_54 : decode cX6_exchange 54 = .ok (.iload_n 1, 1) := by decide +kernel
theorem dX6_exchange_55 : decode cX6_exchange 55 = .ok (.iastore, 1) := by decide +kernel
theorem dX6_exchange_56 : decode cX6_exchange 56 = .ok (.iload 4, 2) := by decide +kernel
theorem dX6_exchange_58 : decode cX6_exchange 58 = .ok (.ireturn, 1) := by decide +kernel
theorem dX6_drop_0 : decode cX6_drop 0 = .ok (.iload_n 1, 1) := by decide +kernel
theorem dX6_drop_1 : decode cX6_drop 1 = .ok (.ifCond .eq 7, 3) := by decide +kernel
theorem dX6_drop_4 : decode cX6_drop 4 = .ok (.iconst 0, 1) := by decide +kernel
theorem dX6_drop_5 : decode cX6_drop 5 = .ok (.goto 4, 3) := by decide +kernel
theorem dX6_drop_8 : decode cX6_drop 8 = .ok (.iconst 1, 1) := by decide +kernel
theorem dX6_drop_9 : decode cX6_drop 9 = .ok (.istore_n 2, 1) := by decide +kernel
theorem dX6_drop_10 : decode cX6_drop 10 = .ok (.aload_n 0, 1) := by decide +kernel
theorem dX6_drop_11 : decode cX6_drop 11 = .ok (.getfield 16, 3) := by decide +kernel
theorem dX6_drop_14 : decode cX6_drop 14 = .ok (.iload_n 2, 1) := by decide +kernel
theorem dX6_drop_15 : decode cX6_drop 15 = .ok (.iaload, 1) := by decide +kernel
theorem dX6_drop_16 : decode cX6_drop 16 = .ok (.iconst 1, 1) := by decide +kernel
theorem dX6_drop_17 : decode cX6_drop 17 = .ok (.if_icmp .ge 6, 3) := by decide +kernel
theorem dX6_drop_20 : decode cX6_drop 20 = .ok (.bipush (-3), 2) := by decide +kernel
theorem dX6_drop_22 : decode cX6_drop 22 = .ok (.ireturn, 1) := by decide +kernel
theorem dX6_drop_23 : decode cX6_drop 23 = .ok (.aload_n 0, 1) := by decide +kernel
theorem dX6_drop_24 : decode cX6_drop 24 = .ok (.getfield 16, 3) := by decide +kernel
theorem dX6_drop_27 : decode cX6_drop 27 = .ok (.iload_n 2, 1) := by decide +kernel
theorem dX6_drop_28 : decode cX6_drop 28 = .ok (.dup2, 1) := by decide +kernel
theorem dX6_drop_29 : decode cX6_drop 29 = .ok (.iaload, 1) := by decide +kernel
theorem dX6_drop_30 : decode cX6_drop 30 = .ok (.iconst 1, 1) := by decide +kernel
theorem dX6_drop_31 : decode cX6_drop 31 = .ok (.isub, 1) := by decide +kernel
theorem dX6_drop_32 : decode cX6_drop 32 = .ok (.iastore, 1) := by decide +kernel
theorem dX6_drop_33 : decode cX6_drop 33 = .ok (.aload_n 0, 1) := by decide +kernel
theorem dX6_drop_34 : decode cX6_drop 34 = .ok (.getfield 11, 3) := by decide +kernel
theorem dX6_drop_37 : decode cX6_drop 37 = .ok (.iload_n 2, 1) := by decide +kernel
theorem dX6_drop_38 : decode cX6_drop 38 = .ok (.aaload, 1) := by decide +kernel
theorem dX6_drop_39 : decode cX6_drop 39 = .ok (.aload_n 0, 1) := by decide +kernel
theorem dX6_drop_40 : decode cX6_drop 40 = .ok (.getfield 16, 3) := by decide +kernel
theorem dX6_drop_43 : decode cX6_drop 43 = .ok (.iload_n 2, 1) := by decide +kernel
theorem dX6_drop_44 : decode cX6_drop 44 = .ok (.iaload, 1) := by decide +kernel
theorem dX6_drop_45 : decode cX6_drop 45 = .ok (.iaload, 1) := by decide +kernel
theorem dX6_drop_46 : decode cX6_drop 46 = .ok (.ireturn, 1) := by decide +kernel
theorem dX6_cross_0 : decode cX6_cross 0 = .ok (.aload_n 0, 1) := by decide +kernel
theorem dX6_cross_1 : decode cX6_cross 1 = .ok (.getfield 16, 3) := by decide +kernel
theorem dX6_cross_4 : decode cX6_cross 4 = .ok (.iconst 0, 1) := by decide +kernel
theorem dX6_cross_5 : decode cX6_cross 5 = .ok (.iaload, 1) := by decide +kernel
theorem dX6_cross_6 : decode cX6_cross 6 = .ok (.iconst 1, 1) := by decide +kernel
theorem dX6_cross_7 : decode cX6_cross 7 = .ok (.isub, 1) := by decide +kernel
theorem dX6_cross_8 : decode cX6_cross 8 = .ok (.istore_n 1, 1) := by decide +kernel
theorem dX6_cross_9 : decode cX6_cross 9 = .ok (.aload_n 0, 1) := by decide +kernel
theorem dX6_cross_10 : decode cX6_cross 10 = .ok (.getfield 16, 3) := by decide +kernel
theorem dX6_cross_13 : decode cX6_cross 13 = .ok (.iconst 1, 1) := by decide +kernel
theorem dX6_cross_14 : decode cX6_cross 14 = .ok (.iaload, 1) := by decide +kernel
theorem dX6_cross_15 : decode cX6_cross 15 = .ok (.iconst 1, 1) := by decide +kernel
theorem dX6_cross_16 : decode cX6_cross 16 = .ok (.isub, 1) := by decide +kernel
theorem dX6_cross_17 : decode cX6_cross 17 = .ok (.istore_n 2, 1) := by decide +kernel
theorem dX6_cross_18 : decode cX6_cross 18 = .ok (.iload_n 1, 1) := by decide +kernel
theorem dX6_cross_19 : decode cX6_cross 19 = .ok (.ifCond .lt 7, 3) := by decide +kernel
theorem dX6_cross_22 : decode cX6_cross 22 = .ok (.iload_n 2, 1) := by decide +kernel
theorem dX6_cross_23 : decode cX6_cross 23 = .ok (.ifCond .ge 6, 3) := by decide +kernel
theorem dX6_cross_26 : decode cX6_cross 26 = .ok (.bipush (-2), 2) := by decide +kernel
theorem dX6_cross_28 : decode cX6_cross 28 = .ok (.ireturn, 1) := by decide +kernel
theorem dX6_cross_29 : decode cX6_cross 29 = .ok (.aload_n 0, 1) := by decide +kernel
theorem dX6_cross_30 : decode cX6_cross 30 = .ok (.getfield 11, 3) := by decide +kernel
theorem dX6_cross_33 : decode cX6_cross 33 = .ok (.iconst 1, 1) := by decide +kernel
theorem dX6_cross_34 : decode cX6_cross 34 = .ok (.aaload, 1) := by decide +kernel
theorem dX6_cross_35 : decode cX6_cross 35 = .ok (.iload_n 2, 1) := by decide +kernel
theorem dX6_cross_36 : decode cX6_cross 36 = .ok (.iaload, 1) := by decide +kernel
theorem dX6_cross_37 : decode cX6_cross 37 = .ok (.istore_n 3, 1) := by decide +kernel
theorem dX6_cross_38 : decode cX6_cross 38 = .ok (.aload_n 0, 1) := by decide +kernel
theorem dX6_cross_39 : decode cX6_cross 39 = .ok (.getfield 11, 3) := by decide +kernel
theorem dX6_cross_42 : decode cX6_cross 42 = .ok (.iconst 1, 1) := by decide +kernel
theorem dX6_cross_43 : decode cX6_cross 43 = .ok (.aaload, 1) := by decide +kernel
theorem dX6_cross_44 : decode cX6_cross 44 = .ok (.iload_n 2, 1) := by decide +kernel
theorem dX6_cross_45 : decode cX6_cross 45 = .ok (.aload_n 0, 1) := by decide +kernel
theorem dX6_cross_46 : decode cX6_cross 46 = .ok (.getfield 11, 3) := by decide +kernel
theorem dX6_cross_49 : decode cX6_cross 49 = .ok (.iconst 0, 1) := by decide +kernel
theorem dX6_cross_50 : decode cX6_cross 50 = .ok (.aaload, 1) := by decide +kernel
theorem dX6_cross_51 : decode cX6_cross 51 = .ok (.iload_n 1, 1) := by decide +kernel
theorem dX6_cross_52 : decode cX6_cross 52 = .ok (.iaload, 1) := by decide +kernel
theorem dX6_cross_53 : decode cX6_cross 53 = .ok (.iastore, 1) := by decide +kernel
theorem dX6_cross_54 : decode cX6_cross 54 = .ok (.aload_n 0, 1) := by decide +kernel
theorem dX6_cross_55 : decode cX6_cross 55 = .ok (.getfield 11, 3) := by decide +kernel
theorem dX6_cross_58 : decode cX6_cross 58 = .ok (.iconst 0, 1) := by decide +kernel
theorem dX6_cross_59 : decode cX6_cross 59 = .ok (.aaload, 1) := by decide +kernel
theorem dX6_cross_60 : decode cX6_cross 60 = .ok (.iload_n 1, 1) := by decide +kernel
theorem dX6_cross_61 : decode cX6_cross 61 = .ok (.iload_n 3, 1) := by decide +kernel
theorem dX6_cross_62 : decode cX6_cross 62 = .ok (.iastore, 1) := by decide +kernel
theorem dX6_cross_63 : decode cX6_cross 63 = .ok (.iload_n 3, 1) := by decide +kernel
theorem dX6_cross_64 : decode cX6_cross 64 = .ok (.ireturn, 1) := by decide +kernel
theorem dX6_empty_0 : decode cX6_empty 0 = .ok (.aload_n 0, 1) := by decide +kernel
theorem dX6_empty_1 : decode cX6_empty 1 = .ok (.getfield 16, 3) := by decide +kernel
theorem dX6_empty_4 : decode cX6_empty 4 = .ok (.iconst 0, 1) := by decide +kernel
theorem dX6_empty_5 : decode cX6_empty 5 = .ok (.iconst 0, 1) := by decide +kernel
theorem dX6_empty_6 : decode cX6_empty 6 = .ok (.iastore, 1) := by decide +kernel
theorem dX6_empty_7 : decode cX6_empty 7 = .ok (.aload_n 0, 1) := by decide +kernel
theorem dX6_empty_8 : decode cX6_empty 8 = .ok (.getfield 16, 3) := by decide +kernel
theorem dX6_empty_11 : decode cX6_empty 11 = .ok (.iconst 1, 1) := by decide +kernel
theorem dX6_empty_12 : decode cX6_empty 12 = .ok (.iconst 0, 1) := by decide +kernel
theorem dX6_empty_13 : decode cX6_empty 13 = .ok (.iastore, 1) := by decide +kernel
theorem dX6_empty_14 : decode cX6_empty 14 = .ok (.return_, 1) := by decide +kernel
