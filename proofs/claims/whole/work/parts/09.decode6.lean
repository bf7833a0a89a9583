theorem dX10_next_0 : decode cX10_next 0 = .ok (.aload_n 0, 1) := by decide +kernel
theorem dX10_next_1 : decode cX10_next 1 = .ok (.iconst 0, 1) := by decide +kernel
theorem dX10_next_2 : decode cX10_next 2 = .ok (.putfield 1, 3) := by decide +kernel
theorem dX10_next_5 : decode cX10_next 5 = .ok (.aload_n 0, 1) := by decide +kernel
theorem dX10_next_6 : decode cX10_next 6 = .ok (.invokevirtual 119, 3) := by decide +kernel
theorem dX10_next_9 : decode cX10_next 9 = .ok (.ireturn, 1) := by decide +kernel
theorem dX10_previous_0 : decode cX10_previous 0 = .ok (.aload_n 0, 1) := by decide +kernel
theorem dX10_previous_1 : decode cX10_previous 1 = .ok (.iconst 0, 1) := by decide +kernel
theorem dX10_previous_2 : decode cX10_previous 2 = .ok (.putfield 1, 3) := by decide +kernel
theorem dX10_previous_5 : decode cX10_previous 5 = .ok (.aload_n 0, 1) := by decide +kernel
theorem dX10_previous_6 : decode cX10_previous 6 = .ok (.invokevirtual 122, 3) := by decide +kernel
theorem dX10_previous_9 : decode cX10_previous 9 = .ok (.ireturn, 1) := by decide +kernel
theorem dX10_add_0 : decode cX10_add 0 = .ok (.aload_n 0, 1) := by decide +kernel
theorem dX10_add_1 : decode cX10_add 1 = .ok (.iconst 0, 1) := by decide +kernel
theorem dX10_add_2 : decode cX10_add 2 = .ok (.putfield 1, 3) := by decide +kernel
theorem dX10_add_5 : decode cX10_add 5 = .ok (.aload_n 0, 1) := by decide +kernel
theorem dX10_add_6 : decode cX10_add 6 = .ok (.iload_n 1, 1) := by decide +kernel
theorem dX10_add_7 : decode cX10_add 7 = .ok (.invokevirtual 125, 3) := by decide +kernel
theorem dX10_add_10 : decode cX10_add 10 = .ok (.ifCond .eq 7, 3) := by decide +kernel
theorem dX10_add_13 : decode cX10_add 13 = .ok (.iconst 0, 1) := by decide +kernel
theorem dX10_add_14 : decode cX10_add 14 = .ok (.goto 8, 3) := by decide +kernel
theorem dX10_add_17 : decode cX10_add 17 = .ok (.aload_n 0, 1) := by decide +kernel
theorem dX10_add_18 : decode cX10_add 18 = .ok (.iload_n 1, 1) := by decide +kernel
theorem dX10_add_19 : decode cX10_add 19 = .ok (.invokevirtual 128, 3) := by decide +kernel
theorem dX10_add_22 : decode cX10_add 22 = .ok (.ireturn, 1) := by decide +kernel
theorem dX10_set_0 : decode cX10_set 0 = .ok (.aload_n 0, 1) := by decide +kernel
theorem dX10_set_1 : decode cX10_set 1 = .ok (.iconst 0, 1) := by decide +kernel
theorem dX10_set_2 : decode cX10_set 2 = .ok (.putfield 1, 3) := by decide +kernel
theorem dX10_set_5 : decode cX10_set 5 = .ok (.aload_n 0, 1) := by decide +kernel
theorem dX10_set_6 : decode cX10_set 6 = .ok (.iload_n 1, 1) := by decide +kernel
theorem dX10_set_7 : decode cX10_set 7 = .ok (.invokevirtual 125, 3) := by decide +kernel
theorem dX10_set_10 : decode cX10_set 10 = .ok (.ifCond .eq 7, 3) := by decide +kernel
theorem dX10_set_13 : decode cX10_set 13 = .ok (.iconst 0, 1) := by decide +kernel
theorem dX10_set_14 : decode cX10_set 14 = .ok (.goto 8, 3) := by decide +kernel
theorem dX10_set_17 : decode cX10_set 17 = .ok (.aload_n 0, 1) := by decide +kernel
theorem dX10_set_18 : decode cX10_set 18 = .ok (.iload_n 1, 1) := by decide +kernel
theorem dX10_set_19 : decode cX10_set 19 = .ok (.invokevirtual 131, 3) := by decide +kernel
theorem dX10_set_22 : decode cX10_set 22 = .ok (.ireturn, 1) := by decide +kernel
theorem dX10_remove_0 : decode cX10_remove 0 = .ok (.aload_n 0, 1) := by decide +kernel
theorem dX10_remove_1 : decode cX10_remove 1 = .ok (.iconst 0, 1) := by decide +kernel
theorem dX10_remove_2 : decode cX10_remove 2 = .ok (.putfield 1, 3) := by decide +kernel
theorem dX10_remove_5 : decode cX10_remove 5 = .ok (.aload_n 0, 1) := by decide +kernel
theorem dX10_remove_6 : decode cX10_remove 6 = .ok (.invokevirtual 134, 3) := by decide +kernel
theorem dX10_remove_9 : decode cX10_remove 9 = .ok (.ireturn, 1) := by decide +kernel
theorem dX10_move_0 : decode cX10_move 0 = .ok (.aload_n 0, 1) := by decide +kernel
theorem dX10_move_1 : decode cX10_move 1 = .ok (.iconst 0, 1) := by decide +kernel
theorem dX10_move_2 : decode cX10_move 2 = .ok (.putfield 1, 3) := by decide +kernel
theorem dX10_move_5 : decode cX10_move 5 = .ok (.aload_n 0, 1) := by decide +kernel
theorem dX10_move_6 : decode cX10_move 6 = .ok (.iload_n 1, 1) := by decide +kernel
theorem dX10_move_7 : decode cX10_move 7 = .ok (.invokevirtual 137, 3) := by decide +kernel
theorem dX10_move_10 : decode cX10_move 10 = .ok (.ireturn, 1) := by decide +kernel
theorem dX10_find_0 : decode cX10_find 0 = .ok (.aload_n 0, 1) := by decide +kernel
theorem dX10_find_1 : decode cX10_find 1 = .ok (.iconst 0, 1) := by decide +kernel
theorem dX10_find_2 : decode cX10_find 2 = .ok (.putfield 1, 3) := by decide +kernel
theorem dX10_find_5 : decode cX10_find 5 = .ok (.aload_n 0, 1) := by decide +kernel
theorem dX10_find_6 : decode cX10_find 6 = .ok (.iload_n 1, 1) := by decide +kernel
theorem dX10_find_7 : decode cX10_find 7 = .ok (.invokevirtual 125, 3) := by decide +kernel
theorem dX10_find_10 : decode cX10_find 10 = .ok (.ifCond .eq 7, 3) := by decide +kernel
theorem dX10_find_13 : decode cX10_find 13 = .ok (.iconst 0, 1) := by decide +kernel
theorem dX10_find_14 : decode cX10_find 14 = .ok (.goto 9, 3) := by decide +kernel
theorem dX10_find_17 : decode cX10_find 17 = .ok (.aload_n 0, 1) := by decide +kernel
theorem dX10_find_18 : decode cX10_find 18 = .ok (.iload_n 1, 1) := by decide +kernel
theorem dX10_find_19 : decode cX10_find 19 = .ok (.iload_n 2, 1) := by decide +kernel
theorem dX10_find_20 : decode cX10_find 20 = .ok (.invokevirtual 140, 3) := by decide +kernel
theorem dX10_find_23 : decode cX10_find 23 = .ok (.ireturn, 1) := by decide +kernel
theorem dX10_swap_0 : decode cX10_swap 0 = .ok (.aload_n 0, 1) := by decide +kernel
theorem dX10_swap_1 : decode cX10_swap 1 = .ok (.iconst 0, 1) := by decide +kernel
theorem dX10_swap_2 : decode cX10_swap 2 = .ok (.putfield 1, 3) := by decide +kernel
theorem dX10_swap_5 : decode cX10_swap 5 = .ok (.aload_n 0, 1) := by decide +kernel
theorem dX10_swap_6 : decode cX10_swap 6 = .ok (.invokevirtual 144, 3) := by decide +kernel
theorem dX10_swap_9 : decode cX10_swap 9 = .ok (.ireturn, 1) := by decide +kernel
theorem dX10_undo_0 : decode cX10_undo 0 = .ok (.aload_n 0, 1) := by decide +kernel
theorem dX10_undo_1 : decode cX10_undo 1 = .ok (.iconst 0, 1) := by decide +kernel
theorem dX10_undo_2 : decode cX10_undo 2 = .ok (.putfield 1, 3) := by decide +kernel
theorem dX10_undo_5 : decode cX10_undo 5 = .ok (.aload_n 0, 1) := by decide +kernel
theorem dX10_undo_6 : decode cX10_undo 6 = .ok (.getfield 78, 3) := by decide +kernel
theorem dX10_undo_9 : decode cX10_undo 9 = .ok (.ifCond .ne 5, 3) := by decide +kernel
theorem dX10_undo_12 : decode cX10_undo 12 = .ok (.iconst (-1), 1) := by decide +kernel
theorem dX10_undo_13 : decode cX10_undo 13 = .ok (.ireturn, 1) := by decide +kernel
theorem dX10_undo_14 : decode cX10_undo 14 = .ok (.aload_n 0, 1) := by decide +kernel
theorem dX10_undo_15 : decode cX10_undo 15 = .ok (.dup, 1) := by decide +kernel
theorem dX10_undo_16 : decode cX10_undo 16 = .ok (.getfield 78, 3) := by decide +kernel
theorem dX10_undo_19 : decode cX10_undo 19 = .ok (.iconst 1, 1) := by decide +kernel
theorem dX10_undo_20 : decode cX10_undo 20 = .ok (.isub, 1) := by decide +kernel
theorem dX10_undo_21 : decode cX10_undo 21 = .ok (.putfield 78, 3) := by decide +kernel
theorem dX10_undo_24 : decode cX10_undo 24 = .ok (.aload_n 0, 1) := by decide +kernel
theorem dX10_undo_25 : decode cX10_undo 25 = .ok (.iconst 0, 1) := by decide +kernel
theorem dX10_undo_26 : decode cX10_undo 26 = .ok (.putfield 81, 3) := by decide +kernel
theorem dX10_undo_29 : decode cX10_undo 29 = .ok (.aload_n 0, 1) := by decide +kernel
theorem dX10_undo_30 : decode cX10_undo 30 = .ok (.iconst 0, 1) := by decide +kernel
theorem dX10_undo_31 : decode cX10_undo 31 = .ok (.putfield 94, 3) := by decide +kernel
theorem dX10_undo_34 : decode cX10_undo 34 = .ok (.aload_n 0, 1) := by decide +kernel
theorem dX10_undo_35 : decode cX10_undo 35 = .ok (.iconst 0, 1) := by decide +kernel
theorem dX10_undo_36 : decode cX10_undo 36 = .ok (.putfield 109, 3) := by decide +kernel
theorem dX10_undo_39 : decode cX10_undo 39 = .ok (.aload_n 0, 1) := by decide +kernel
theorem dX10_undo_40 : decode cX10_undo 40 = .ok (.getfield 29, 3) := by decide +kernel
theorem dX10_undo_43 : decode cX10_undo 43 = .ok (.aload_n 0, 1) := by decide +kernel
theorem dX10_undo_44 : decode cX10_undo 44 = .ok (.getfield 78, 3) := by decide +kernel
theorem dX10_undo_47 : decode cX10_undo 47 = .ok (.iaload, 1) := by decide +kernel
theorem dX10_undo_48 : decode cX10_undo 48 = .ok (.iconst 1, 1) := by decide +kernel
theorem dX10_undo_49 : decode cX10_undo 49 = .ok (.isub, 1) := by decide +kernel
theorem dX10_undo_50 : decode cX10_undo 50 = .ok (.istore_n 1, 1) := by decide +kernel
theorem dX10_undo_51 : decode cX10_undo 51 = .ok (.iload_n 1, 1) := by decide +kernel
theorem dX10_undo_52 : decode cX10_undo 52 = .ok (.ifCond .lt 42, 3) := by decide +kernel
theorem dX10_undo_55 : decode cX10_undo 55 = .ok (.aload_n 0, 1) := by decide +kernel
theorem dX10_undo_56 : decode cX10_undo 56 = .ok (.getfield 17, 3) := by decide +kernel
theorem dX10_undo_59 : decode cX10_undo 59 = .ok (.aload_n 0, 1) := by decide +kernel
theorem dX10_undo_60 : decode cX10_undo 60 = .ok (.getfield 94, 3) := by decide +kernel
theorem dX10_undo_63 : decode cX10_undo 63 = .ok (.aload_n 0, 1) := by decide +kernel
theorem dX10_undo_64 : decode cX10_undo 64 = .ok (.getfield 23, 3) := by decide +kernel
theorem dX10_undo_67 : decode cX10_undo 67 = .ok (.bipush 100, 2) := by decide +kernel
theorem dX10_undo_69 : decode cX10_undo 69 = .ok (.aload_n 0, 1) := by decide +kernel
theorem dX10_undo_70 : decode cX10_undo 70 = .ok (.getfield 78, 3) := by decide +kernel
theorem dX10_undo_73 : decode cX10_undo 73 = .ok (.imul, 1) := by decide +kernel
theorem dX10_undo_74 : decode cX10_undo 74 = .ok (.iload_n 1, 1) := by decide +kernel
theorem dX10_undo_75 : decode cX10_undo 75 = .ok (.iadd, 1) := by decide +kernel
theorem dX10_undo_76 : decode cX10_undo 76 = .ok (.iaload, 1) := by decide +kernel
theorem dX10_undo_77 : decode cX10_undo 77 = .ok (.iastore, 1) := by decide +kernel
theorem dX10_undo_78 : decode cX10_undo 78 = .ok (.aload_n 0, 1) := by decide +kernel
theorem dX10_undo_79 : decode cX10_undo 79 = .ok (.dup, 1) := by decide +kernel
theorem dX10_undo_80 : decode cX10_undo 80 = .ok (.getfield 94, 3) := by decide +kernel
theorem dX10_undo_83 : decode cX10_undo 83 = .ok (.iconst 1, 1) := by decide +kernel
theorem dX10_undo_84 : decode cX10_undo 84 = .ok (.iadd, 1) := by decide +kernel
theorem dX10_undo_85 : decode cX10_undo 85 = .ok (.putfield 94, 3) := by decide +kernel
theorem dX10_undo_88 : decode cX10_undo 88 = .ok (.iinc 1 (-1), 3) := by decide +kernel
theorem dX10_undo_91 : decode cX10_undo 91 = .ok (.goto (-40), 3) := by decide +kernel
theorem dX10_undo_94 : decode cX10_undo 94 = .ok (.aload_n 0, 1) := by decide +kernel
theorem dX10_undo_95 : decode cX10_undo 95 = .ok (.aload_n 0, 1) := by decide +kernel
theorem dX10_undo_96 : decode cX10_undo 96 = .ok (.getfield 26, 3) := by decide +kernel
theorem dX10_undo_99 : decode cX10_undo 99 = .ok (.aload_n 0, 1) := by decide +kernel
theorem dX10_undo_100 : decode cX10_undo 100 = .ok (.getfield 78, 3) := by decide +kernel
theorem dX10_undo_103 : decode cX10_undo 103 = .ok (.iaload, 1) := by decide +kernel
theorem dX10_undo_104 : decode cX10_undo 104 = .ok (.invokevirtual 115, 3) := by decide +kernel
theorem dX10_undo_107 : decode cX10_undo 107 = .ok (.aload_n 0, 1) := by decide +kernel
theorem dX10_undo_108 : decode cX10_undo 108 = .ok (.getfield 78, 3) := by decide +kernel
theorem dX10_undo_111 : decode cX10_undo 111 = .ok (.ireturn, 1) := by decide +kernel
theorem dX10_undoable_0 : decode cX10_undoable 0 = .ok (.aload_n 0, 1) := by decide +kernel
theorem dX10_undoable_1 : decode cX10_undoable 1 = .ok (.iconst 0, 1) := by decide +kernel
theorem dX10_undoable_2 : decode cX10_undoable 2 = .ok (.putfield 1, 3) := by decide +kernel
theorem dX10_undoable_5 : decode cX10_undoable 5 = .ok (.aload_n 0, 1) := by decide +kernel
theorem dX10_undoable_6 : decode cX10_undoable 6 = .ok (.getfield 78, 3) := by decide +kernel
theorem dX10_undoable_9 : decode cX10_undoable 9 = .ok (.ireturn, 1) := by decide +kernel
theorem dX10_bytesIn_0 : decode cX10_bytesIn 0 = .ok (.iconst 0, 1) := by decide +kernel
theorem dX10_bytesIn_1 : decode cX10_bytesIn 1 = .ok (.istore_n 1, 1) := by decide +kernel
theorem dX10_bytesIn_2 : decode cX10_bytesIn 2 = .ok (.iconst 0, 1) := by decide +kernel
theorem dX10_bytesIn_3 : decode cX10_bytesIn 3 = .ok (.istore_n 2, 1) := by decide +kernel
theorem dX10_bytesIn_4 : decode cX10_bytesIn 4 = .ok (.iload_n 2, 1) := by decide +kernel
theorem dX10_bytesIn_5 : decode cX10_bytesIn 5 = .ok (.bipush 32, 2) := by decide +kernel
theorem dX10_bytesIn_7 : decode cX10_bytesIn 7 = .ok (.if_icmp .ge 27, 3) := by decide +kernel
theorem dX10_bytesIn_10 : decode cX10_bytesIn 10 = .ok (.iload_n 1, 1) := by decide +kernel
theorem dX10_bytesIn_11 : decode cX10_bytesIn 11 = .ok (.iload_n 0, 1) := by decide +kernel
theorem dX10_bytesIn_12 : decode cX10_bytesIn 12 = .ok (.iload_n 2, 1) := by decide +kernel
theorem dX10_bytesIn_13 : decode cX10_bytesIn 13 = .ok (.ishr, 1) := by decide +kernel
theorem dX10_bytesIn_14 : decode cX10_bytesIn 14 = .ok (.sipush 255, 3) := by decide +kernel
theorem dX10_bytesIn_17 : decode cX10_bytesIn 17 = .ok (.iand, 1) := by decide +kernel
theorem dX10_bytesIn_18 : decode cX10_bytesIn 18 = .ok (.ifCond .ne 7, 3) := by decide +kernel
theorem dX10_bytesIn_21 : decode cX10_bytesIn 21 = .ok (.iconst 0, 1) := by decide +kernel
theorem dX10_bytesIn_22 : decode cX10_bytesIn 22 = .ok (.goto 4, 3) := by decide +kernel
theorem dX10_bytesIn_25 : decode cX10_bytesIn 25 = .ok (.iconst 1, 1) := by decide +kernel
theorem dX10_bytesIn_26 : decode cX10_bytesIn 26 = .ok (.iadd, 1) := by decide +kernel
theorem dX10_bytesIn_27 : decode cX10_bytesIn 27 = .ok (.istore_n 1, 1) := by decide +kernel
theorem dX10_bytesIn_28 : decode cX10_bytesIn 28 = .ok (.iinc 2 8, 3) := by decide +kernel
theorem dX10_bytesIn_31 : decode cX10_bytesIn 31 = .ok (.goto (-27), 3) := by decide +kernel
theorem dX10_bytesIn_34 : decode cX10_bytesIn 34 = .ok (.iload_n 1, 1) := by decide +kernel
theorem dX10_bytesIn_35 : decode cX10_bytesIn 35 = .ok (.ireturn, 1) := by decide +kernel
theorem dX10_takesBytes_0 : decode cX10_takesBytes 0 = .ok (.bipush 24, 2) := by decide +kernel
theorem dX10_takesBytes_2 : decode cX10_takesBytes 2 = .ok (.istore_n 2, 1) := by decide +kernel
theorem dX10_takesBytes_3 : decode cX10_takesBytes 3 = .ok (.iload_n 2, 1) := by decide +kernel
theorem dX10_takesBytes_4 : decode cX10_takesBytes 4 = .ok (.ifCond .lt 44, 3) := by decide +kernel
theorem dX10_takesBytes_7 : decode cX10_takesBytes 7 = .ok (.iload_n 1, 1) := by decide +kernel
theorem dX10_takesBytes_8 : decode cX10_takesBytes 8 = .ok (.iload_n 2, 1) := by decide +kernel
theorem dX10_takesBytes_9 : decode cX10_takesBytes 9 = .ok (.ishr, 1) := by decide +kernel
theorem dX10_takesBytes_10 : decode cX10_takesBytes 10 = .ok (.sipush 255, 3) := by decide +kernel
theorem dX10_takesBytes_13 : decode cX10_takesBytes 13 = .ok (.iand, 1) := by decide +kernel
theorem dX10_takesBytes_14 : decode cX10_takesBytes 14 = .ok (.istore_n 3, 1) := by decide +kernel
theorem dX10_takesBytes_15 : decode cX10_takesBytes 15 = .ok (.iload_n 3, 1) := by decide +kernel
theorem dX10_takesBytes_16 : decode cX10_takesBytes 16 = .ok (.ifCond .ne 6, 3) := by decide +kernel
theorem dX10_takesBytes_19 : decode cX10_takesBytes 19 = .ok (.goto 23, 3) := by decide +kernel
theorem dX10_takesBytes_22 : decode cX10_takesBytes 22 = .ok (.aload_n 0, 1) := by decide +kernel
theorem dX10_takesBytes_23 : decode cX10_takesBytes 23 = .ok (.getfield 32, 3) := by decide +kernel
theorem dX10_takesBytes_26 : decode cX10_takesBytes 26 = .ok (.aload_n 0, 1) := by decide +kernel
theorem dX10_takesBytes_27 : decode cX10_takesBytes 27 = .ok (.getfield 147, 3) := by decide +kernel
theorem dX10_takesBytes_30 : decode cX10_takesBytes 30 = .ok (.iload_n 3, 1) := by decide +kernel
theorem dX10_takesBytes_31 : decode cX10_takesBytes 31 = .ok (.iastore, 1) := by decide +kernel
theorem dX10_takesBytes_32 : decode cX10_takesBytes 32 = .ok (.aload_n 0, 1) := by decide +kernel
theorem dX10_takesBytes_33 : decode cX10_takesBytes 33 = .ok (.dup, 1) := by decide +kernel
theorem dX10_takesBytes_34 : decode cX10_takesBytes 34 = .ok (.getfield 147, 3) := by decide +kernel
theorem dX10_takesBytes_37 : decode cX10_takesBytes 37 = .ok (.iconst 1, 1) := by decide +kernel
theorem dX10_takesBytes_38 : decode cX10_takesBytes 38 = .ok (.iadd, 1) := by decide +kernel
theorem dX10_takesBytes_39 : decode cX10_takesBytes 39 = .ok (.putfield 147, 3) := by decide +kernel
theorem dX10_takesBytes_42 : decode cX10_takesBytes 42 = .ok (.iinc 2 (-8), 3) := by decide +kernel
theorem dX10_takesBytes_45 : decode cX10_takesBytes 45 = .ok (.goto (-42), 3) := by decide +kernel
theorem dX10_takesBytes_48 : decode cX10_takesBytes 48 = .ok (.return_, 1) := by decide +kernel
theorem dX10_append_0 : decode cX10_append 0 = .ok (.aload_n 0, 1) := by decide +kernel
theorem dX10_append_1 : decode cX10_append 1 = .ok (.iconst 0, 1) := by decide +kernel
theorem dX10_append_2 : decode cX10_append 2 = .ok (.putfield 1, 3) := by decide +kernel
theorem dX10_append_5 : decode cX10_append 5 = .ok (.iload_n 1, 1) := by decide +kernel
theorem dX10_append_6 : decode cX10_append 6 = .ok (.invokestatic 150, 3) := by decide +kernel
theorem dX10_append_9 : decode cX10_append 9 = .ok (.iload_n 2, 1) := by decide +kernel
theorem dX10_append_10 : decode cX10_append 10 = .ok (.invokestatic 150, 3) := by decide +kernel
theorem dX10_append_13 : decode cX10_append 13 = .ok (.iadd, 1) := by decide +kernel
theorem dX10_append_14 : decode cX10_append 14 = .ok (.iload_n 3, 1) := by decide +kernel
theorem dX10_append_15 : decode cX10_append 15 = .ok (.invokestatic 150, 3) := by decide +kernel
theorem dX10_append_18 : decode cX10_append 18 = .ok (.iadd, 1) := by decide +kernel
theorem dX10_append_19 : decode cX10_append 19 = .ok (.iload 4, 2) := by decide +kernel
theorem dX10_append_21 : decode cX10_append 21 = .ok (.invokestatic 150, 3) := by decide +kernel
theorem dX10_append_24 : decode cX10_append 24 = .ok (.iadd, 1) := by decide +kernel
theorem dX10_append_25 : decode cX10_append 25 = .ok (.iload 5, 2) := by decide +kernel
theorem dX10_append_27 : decode cX10_append 27 = .ok (.invokestatic 150, 3) := by decide +kernel
theorem dX10_append_30 : decode cX10_append 30 = .ok (.iadd, 1) := by decide +kernel
theorem dX10_append_31 : decode cX10_append 31 = .ok (.istore 6, 2) := by decide +kernel
theorem dX10_append_33 : decode cX10_append 33 = .ok (.aload_n 0, 1) := by decide +kernel
theorem dX10_append_34 : decode cX10_append 34 = .ok (.aload_n 0, 1) := by decide +kernel
theorem dX10_append_35 : decode cX10_append 35 = .ok (.getfield 147, 3) := by decide +kernel
theorem dX10_append_38 : decode cX10_append 38 = .ok (.iload 6, 2) := by decide +kernel
theorem dX10_append_40 : decode cX10_append 40 = .ok (.iadd, 1) := by decide +kernel
theorem dX10_append_41 : decode cX10_append 41 = .ok (.sipush 300, 3) := by decide +kernel
theorem dX10_append_44 : decode cX10_append 44 = .ok (.if_icmp .gt 7, 3) := by decide +kernel
theorem dX10_append_47 : decode cX10_append 47 = .ok (.iconst 1, 1) := by decide +kernel
theorem dX10_append_48 : decode cX10_append 48 = .ok (.goto 4, 3) := by decide +kernel
theorem dX10_append_51 : decode cX10_append 51 = .ok (.iconst 0, 1) := by decide +kernel
theorem dX10_append_52 : decode cX10_append 52 = .ok (.iconst 1, 1) := by decide +kernel
theorem dX10_append_53 : decode cX10_append 53 = .ok (.invokevirtual 74, 3) := by decide +kernel
theorem dX10_append_56 : decode cX10_append 56 = .ok (.ifCond .eq 5, 3) := by decide +kernel
theorem dX10_append_59 : decode cX10_append 59 = .ok (.iconst 0, 1) := by decide +kernel
theorem dX10_append_60 : decode cX10_append 60 = .ok (.ireturn, 1) := by decide +kernel
theorem dX10_append_61 : decode cX10_append 61 = .ok (.aload_n 0, 1) := by decide +kernel
theorem dX10_append_62 : decode cX10_append 62 = .ok (.iload_n 1, 1) := by decide +kernel
theorem dX10_append_63 : decode cX10_append 63 = .ok (.invokevirtual 153, 3) := by decide +kernel
theorem dX10_append_66 : decode cX10_append 66 = .ok (.aload_n 0, 1) := by decide +kernel
theorem dX10_append_67 : decode cX10_append 67 = .ok (.iload_n 2, 1) := by decide +kernel
theorem dX10_append_68 : decode cX10_append 68 = .ok (.invokevirtual 153, 3) := by decide +kernel
theorem dX10_append_71 : decode cX10_append 71 = .ok (.aload_n 0, 1) := by decide +kernel
theorem dX10_append_72 : decode cX10_append 72 = .ok (.iload_n 3, 1) := by decide +kernel
theorem dX10_append_73 : decode cX10_append 73 = .ok (.invokevirtual 153, 3) := by decide +kernel
theorem dX10_append_76 : decode cX10_append 76 = .ok (.aload_n 0, 1) := by decide +kernel
theorem dX10_append_77 : decode cX10_append 77 = .ok (.iload 4, 2) := by decide +kernel
theorem dX10_append_79 : decode cX10_append 79 = .ok (.invokevirtual 153, 3) := by decide +kernel
theorem dX10_append_82 : decode cX10_append 82 = .ok (.aload_n 0, 1) := by decide +kernel
theorem dX10_append_83 : decode cX10_append 83 = .ok (.iload 5, 2) := by decide +kernel
theorem dX10_append_85 : decode cX10_append 85 = .ok (.invokevirtual 153, 3) := by decide +kernel
theorem dX10_append_88 : decode cX10_append 88 = .ok (.aload_n 0, 1) := by decide +kernel
theorem dX10_append_89 : decode cX10_append 89 = .ok (.getfield 147, 3) := by decide +kernel
theorem dX10_append_92 : decode cX10_append 92 = .ok (.ireturn, 1) := by decide +kernel
theorem dX10_clearTape_0 : decode cX10_clearTape 0 = .ok (.aload_n 0, 1) := by decide +kernel
theorem dX10_clearTape_1 : decode cX10_clearTape 1 = .ok (.iconst 0, 1) := by decide +kernel
theorem dX10_clearTape_2 : decode cX10_clearTape 2 = .ok (.putfield 1, 3) := by decide +kernel
theorem dX10_clearTape_5 : decode cX10_clearTape 5 = .ok (.aload_n 0, 1) := by decide +kernel
theorem dX10_clearTape_6 : decode cX10_clearTape 6 = .ok (.getfield 147, 3) := by decide +kernel
theorem dX10_clearTape_9 : decode cX10_clearTape 9 = .ok (.istore_n 1, 1) := by decide +kernel
theorem dX10_clearTape_10 : decode cX10_clearTape 10 = .ok (.aload_n 0, 1) := by decide +kernel
theorem dX10_clearTape_11 : decode cX10_clearTape 11 = .ok (.iconst 0, 1) := by decide +kernel
theorem dX10_clearTape_12 : decode cX10_clearTape 12 = .ok (.putfield 147, 3) := by decide +kernel
theorem dX10_clearTape_15 : decode cX10_clearTape 15 = .ok (.iload_n 1, 1) := by decide +kernel
theorem dX10_clearTape_16 : decode cX10_clearTape 16 = .ok (.ireturn, 1) := by decide +kernel
theorem dX10_isLetter_0 : decode cX10_isLetter 0 = .ok (.iload_n 0, 1) := by decide +kernel
theorem dX10_isLetter_1 : decode cX10_isLetter 1 = .ok (.bipush 97, 2) := by decide +kernel
theorem dX10_isLetter_3 : decode cX10_isLetter 3 = .ok (.bipush 122, 2) := by decide +kernel
theorem dX10_isLetter_5 : decode cX10_isLetter 5 = .ok (.invokestatic 66, 3) := by decide +kernel
theorem dX10_isLetter_8 : decode cX10_isLetter 8 = .ok (.ireturn, 1) := by decide +kernel
theorem dX10_isDigit_0 : decode cX10_isDigit 0 = .ok (.iload_n 0, 1) := by decide +kernel
theorem dX10_isDigit_1 : decode cX10_isDigit 1 = .ok (.bipush 48, 2) := by decide +kernel
theorem dX10_isDigit_3 : decode cX10_isDigit 3 = .ok (.bipush 57, 2) := by decide +kernel
theorem dX10_isDigit_5 : decode cX10_isDigit 5 = .ok (.invokestatic 66, 3) := by decide +kernel
theorem dX10_isDigit_8 : decode cX10_isDigit 8 = .ok (.ireturn, 1) := by decide +kernel
theorem dX10_isBlank_0 : decode cX10_isBlank 0 = .ok (.iload_n 0, 1) := by decide +kernel
theorem dX10_isBlank_1 : decode cX10_isBlank 1 = .ok (.bipush 32, 2) := by decide +kernel
theorem dX10_isBlank_3 : decode cX10_isBlank 3 = .ok (.if_icmp .eq 9, 3) := by decide +kernel
theorem dX10_isBlank_6 : decode cX10_isBlank 6 = .ok (.iload_n 0, 1) := by decide +kernel
theorem dX10_isBlank_7 : decode cX10_isBlank 7 = .ok (.bipush 10, 2) := by decide +kernel
theorem dX10_isBlank_9 : decode cX10_isBlank 9 = .ok (.if_icmp .ne 7, 3) := by decide +kernel
theorem dX10_isBlank_12 : decode cX10_isBlank 12 = .ok (.iconst 1, 1) := by decide +kernel
theorem dX10_isBlank_13 : decode cX10_isBlank 13 = .ok (.goto 4, 3) := by decide +kernel
theorem dX10_isBlank_16 : decode cX10_isBlank 16 = .ok (.iconst 0, 1) := by decide +kernel
theorem dX10_isBlank_17 : decode cX10_isBlank 17 = .ok (.ireturn, 1) := by decide +kernel
theorem dX10_isSign_0 : decode cX10_isSign 0 = .ok (.iload_n 0, 1) := by decide +kernel
theorem dX10_isSign_1 : decode cX10_isSign 1 = .ok (.bipush 46, 2) := by decide +kernel
theorem dX10_isSign_3 : decode cX10_isSign 3 = .ok (.if_icmp .eq 69, 3) := by decide +kernel
theorem dX10_isSign_6 : decode cX10_isSign 6 = .ok (.iload_n 0, 1) := by decide +kernel
theorem dX10_isSign_7 : decode cX10_isSign 7 = .ok (.bipush 44, 2) := by decide +kernel
theorem dX10_isSign_9 : decode cX10_isSign 9 = .ok (.if_icmp .eq 63, 3) := by decide +kernel
theorem dX10_isSign_12 : decode cX10_isSign 12 = .ok (.iload_n 0, 1) := by decide +kernel
theorem dX10_isSign_13 : decode cX10_isSign 13 = .ok (.bipush 45, 2) := by decide +kernel
theorem dX10_isSign_15 : decode cX10_isSign 15 = .ok (.if_icmp .eq 57, 3) := by decide +kernel
theorem dX10_isSign_18 : decode cX10_isSign 18 = .ok (.iload_n 0, 1) := by decide +kernel
theorem dX10_isSign_19 : decode cX10_isSign 19 = .ok (.bipush 37, 2) := by decide +kernel
theorem dX10_isSign_21 : decode cX10_isSign 21 = .ok (.if_icmp .eq 51, 3) := by decide +kernel
theorem dX10_isSign_24 : decode cX10_isSign 24 = .ok (.iload_n 0, 1) := by decide +kernel
theorem dX10_isSign_25 : decode cX10_isSign 25 = .ok (.bipush 43, 2) := by decide +kernel
theorem dX10_isSign_27 : decode cX10_isSign 27 = .ok (.if_icmp .eq 45, 3) := by decide +kernel
theorem dX10_isSign_30 : decode cX10_isSign 30 = .ok (.iload_n 0, 1) := by decide +kernel
theorem dX10_isSign_31 : decode cX10_isSign 31 = .ok (.bipush 61, 2) := by decide +kernel
theorem dX10_isSign_33 : decode cX10_isSign 33 = .ok (.if_icmp .eq 39, 3) := by decide +kernel
theorem dX10_isSign_36 : decode cX10_isSign 36 = .ok (.iload_n 0, 1) := by decide +kernel
theorem dX10_isSign_37 : decode cX10_isSign 37 = .ok (.bipush 62, 2) := by decide +kernel
theorem dX10_isSign_39 : decode cX10_isSign 39 = .ok (.if_icmp .eq 33, 3) := by decide +kernel
theorem dX10_isSign_42 : decode cX10_isSign 42 = .ok (.iload_n 0, 1) := by decide +kernel
theorem dX10_isSign_43 : decode cX10_isSign 43 = .ok (.bipush 60, 2) := by decide +kernel
theorem dX10_isSign_45 : decode cX10_isSign 45 = .ok (.if_icmp .eq 27, 3) := by decide +kernel
theorem dX10_isSign_48 : decode cX10_isSign 48 = .ok (.iload_n 0, 1) := by decide +kernel
theorem dX10_isSign_49 : decode cX10_isSign 49 = .ok (.bipush 64, 2) := by decide +kernel
theorem dX10_isSign_51 : decode cX10_isSign 51 = .ok (.if_icmp .eq 21, 3) := by decide +kernel
theorem dX10_isSign_54 : decode cX10_isSign 54 = .ok (.iload_n 0, 1) := by decide +kernel
theorem dX10_isSign_55 : decode cX10_isSign 55 = .ok (.bipush 42, 2) := by decide +kernel
theorem dX10_isSign_57 : decode cX10_isSign 57 = .ok (.if_icmp .eq 15, 3) := by decide +kernel
theorem dX10_isSign_60 : decode cX10_isSign 60 = .ok (.iload_n 0, 1) := by decide +kernel
theorem dX10_isSign_61 : decode cX10_isSign 61 = .ok (.bipush 123, 2) := by decide +kernel
theorem dX10_isSign_63 : decode cX10_isSign 63 = .ok (.if_icmp .eq 9, 3) := by decide +kernel
theorem dX10_isSign_66 : decode cX10_isSign 66 = .ok (.iload_n 0, 1) := by decide +kernel
theorem dX10_isSign_67 : decode cX10_isSign 67 = .ok (.bipush 125, 2) := by decide +kernel
theorem dX10_isSign_69 : decode cX10_isSign 69 = .ok (.if_icmp .ne 7, 3) := by decide +kernel
theorem dX10_isSign_72 : decode cX10_isSign 72 = .ok (.iconst 1, 1) := by decide +kernel
theorem dX10_isSign_73 : decode cX10_isSign 73 = .ok (.goto 4, 3) := by decide +kernel
theorem dX10_isSign_76 : decode cX10_isSign 76 = .ok (.iconst 0, 1) := by decide +kernel
theorem dX10_isSign_77 : decode cX10_isSign 77 = .ok (.ireturn, 1) := by decide +kernel
theorem dX10_readsWord_0 : decode cX10_readsWord 0 = .ok (.aload_n 0, 1) := by decide +kernel
theorem dX10_readsWord_1 : decode cX10_readsWord 1 = .ok (.iconst 0, 1) := by decide +kernel
theorem dX10_readsWord_2 : decode cX10_readsWord 2 = .ok (.putfield 156, 3) := by decide +kernel
theorem dX10_readsWord_5 : decode cX10_readsWord 5 = .ok (.iconst 0, 1) := by decide +kernel
theorem dX10_readsWord_6 : decode cX10_readsWord 6 = .ok (.istore_n 1, 1) := by decide +kernel
theorem dX10_readsWord_7 : decode cX10_readsWord 7 = .ok (.aload_n 0, 1) := by decide +kernel
theorem dX10_readsWord_8 : decode cX10_readsWord 8 = .ok (.getfield 159, 3) := by decide +kernel
theorem dX10_readsWord_11 : decode cX10_readsWord 11 = .ok (.aload_n 0, 1) := by decide +kernel
theorem dX10_readsWord_12 : decode cX10_readsWord 12 = .ok (.getfield 147, 3) := by decide +kernel
theorem dX10_readsWord_15 : decode cX10_readsWord 15 = .ok (.if_icmp .ge 66, 3) := by decide +kernel
theorem dX10_readsWord_18 : decode cX10_readsWord 18 = .ok (.aload_n 0, 1) := by decide +kernel
theorem dX10_readsWord_19 : decode cX10_readsWord 19 = .ok (.getfield 32, 3) := by decide +kernel
theorem dX10_readsWord_22 : decode cX10_readsWord 22 = .ok (.aload_n 0, 1) := by decide +kernel
theorem dX10_readsWord_23 : decode cX10_readsWord 23 = .ok (.getfield 159, 3) := by decide +kernel
theorem dX10_readsWord_26 : decode cX10_readsWord 26 = .ok (.iaload, 1) := by decide +kernel
theorem dX10_readsWord_27 : decode cX10_readsWord 27 = .ok (.invokestatic 162, 3) := by decide +kernel
theorem dX10_readsWord_30 : decode cX10_readsWord 30 = .ok (.ifCond .eq 51, 3) := by decide +kernel
theorem dX10_readsWord_33 : decode cX10_readsWord 33 = .ok (.iload_n 1, 1) := by decide +kernel
theorem dX10_readsWord_34 : decode cX10_readsWord 34 = .ok (.bipush 6, 2) := by decide +kernel
theorem dX10_readsWord_36 : decode cX10_readsWord 36 = .ok (.if_icmp .ge 29, 3) := by decide +kernel
theorem dX10_readsWord_39 : decode cX10_readsWord 39 = .ok (.aload_n 0, 1) := by decide +kernel
theorem dX10_readsWord_40 : decode cX10_readsWord 40 = .ok (.bipush 27, 2) := by decide +kernel
theorem dX10_readsWord_42 : decode cX10_readsWord 42 = .ok (.aload_n 0, 1) := by decide +kernel
theorem dX10_readsWord_43 : decode cX10_readsWord 43 = .ok (.getfield 156, 3) := by decide +kernel
theorem dX10_readsWord_46 : decode cX10_readsWord 46 = .ok (.imul, 1) := by decide +kernel
theorem dX10_readsWord_47 : decode cX10_readsWord 47 = .ok (.aload_n 0, 1) := by decide +kernel
theorem dX10_readsWord_48 : decode cX10_readsWord 48 = .ok (.getfield 32, 3) := by decide +kernel
theorem dX10_readsWord_51 : decode cX10_readsWord 51 = .ok (.aload_n 0, 1) := by decide +kernel
theorem dX10_readsWord_52 : decode cX10_readsWord 52 = .ok (.getfield 159, 3) := by decide +kernel
theorem dX10_readsWord_55 : decode cX10_readsWord 55 = .ok (.iaload, 1) := by decide +kernel
theorem dX10_readsWord_56 : decode cX10_readsWord 56 = .ok (.iadd, 1) := by decide +kernel
theorem dX10_readsWord_57 : decode cX10_readsWord 57 = .ok (.bipush 97, 2) := by decide +kernel
theorem dX10_readsWord_59 : decode cX10_readsWord 59 = .ok (.isub, 1) := by decide +kernel
theorem dX10_readsWord_60 : decode cX10_readsWord 60 = .ok (.iconst 1, 1) := by decide +kernel
theorem dX10_readsWord_61 : decode cX10_readsWord 61 = .ok (.iadd, 1) := by decide +kernel
theorem dX10_readsWord_62 : decode cX10_readsWord 62 = .ok (.putfield 156, 3) := by decide +kernel
theorem dX10_readsWord_65 : decode cX10_readsWord 65 = .ok (.iinc 1 1, 3) := by decide +kernel
theorem dX10_readsWord_68 : decode cX10_readsWord 68 = .ok (.aload_n 0, 1) := by decide +kernel
theorem dX10_readsWord_69 : decode cX10_readsWord 69 = .ok (.dup, 1) := by decide +kernel
theorem dX10_readsWord_70 : decode cX10_readsWord 70 = .ok (.getfield 159, 3) := by decide +kernel
theorem dX10_readsWord_73 : decode cX10_readsWord 73 = .ok (.iconst 1, 1) := by decide +kernel
theorem dX10_readsWord_74 : decode cX10_readsWord 74 = .ok (.iadd, 1) := by decide +kernel
theorem dX10_readsWord_75 : decode cX10_readsWord 75 = .ok (.putfield 159, 3) := by decide +kernel
theorem dX10_readsWord_78 : decode cX10_readsWord 78 = .ok (.goto (-71), 3) := by decide +kernel
theorem dX10_readsWord_81 : decode cX10_readsWord 81 = .ok (.aload_n 0, 1) := by decide +kernel
theorem dX10_readsWord_82 : decode cX10_readsWord 82 = .ok (.iload_n 1, 1) := by decide +kernel
theorem dX10_readsWord_83 : decode cX10_readsWord 83 = .ok (.bipush 6, 2) := by decide +kernel
theorem dX10_readsWord_85 : decode cX10_readsWord 85 = .ok (.if_icmp .gt 7, 3) := by decide +kernel
theorem dX10_readsWord_88 : decode cX10_readsWord 88 = .ok (.iconst 3, 1) := by decide +kernel
theorem dX10_readsWord_89 : decode cX10_readsWord 89 = .ok (.goto 4, 3) := by decide +kernel
theorem dX10_readsWord_92 : decode cX10_readsWord 92 = .ok (.iconst 4, 1) := by decide +kernel
theorem dX10_readsWord_93 : decode cX10_readsWord 93 = .ok (.putfield 165, 3) := by decide +kernel
theorem dX10_readsWord_96 : decode cX10_readsWord 96 = .ok (.return_, 1) := by decide +kernel
theorem dX10_readsNumber_0 : decode cX10_readsNumber 0 = .ok (.aload_n 0, 1) := by decide +kernel
theorem dX10_readsNumber_1 : decode cX10_readsNumber 1 = .ok (.iconst 0, 1) := by decide +kernel
theorem dX10_readsNumber_2 : decode cX10_readsNumber 2 = .ok (.putfield 156, 3) := by decide +kernel
theorem dX10_readsNumber_5 : decode cX10_readsNumber 5 = .ok (.iconst 0, 1) := by decide +kernel
theorem dX10_readsNumber_6 : decode cX10_readsNumber 6 = .ok (.istore_n 1, 1) := by decide +kernel
theorem dX10_readsNumber_7 : decode cX10_readsNumber 7 = .ok (.aload_n 0, 1) := by decide +kernel
theorem dX10_readsNumber_8 : decode cX10_readsNumber 8 = .ok (.getfield 159, 3) := by decide +kernel
theorem dX10_readsNumber_11 : decode cX10_readsNumber 11 = .ok (.aload_n 0, 1) := by decide +kernel
theorem dX10_readsNumber_12 : decode cX10_readsNumber 12 = .ok (.getfield 147, 3) := by decide +kernel
theorem dX10_readsNumber_15 : decode cX10_readsNumber 15 = .ok (.if_icmp .ge 63, 3) := by decide +kernel
theorem dX10_readsNumber_18 : decode cX10_readsNumber 18 = .ok (.aload_n 0, 1) := by decide +kernel
theorem dX10_readsNumber_19 : decode cX10_readsNumber 19 = .ok (.getfield 32, 3) := by decide +kernel
theorem dX10_readsNumber_22 : decode cX10_readsNumber 22 = .ok (.aload_n 0, 1) := by decide +kernel
theorem dX10_readsNumber_23 : decode cX10_readsNumber 23 = .ok (.getfield 159, 3) := by decide +kernel
theorem dX10_readsNumber_26 : decode cX10_readsNumber 26 = .ok (.iaload, 1) := by decide +kernel
theorem dX10_readsNumber_27 : decode cX10_readsNumber 27 = .ok (.invokestatic 168, 3) := by decide +kernel
theorem dX10_readsNumber_30 : decode cX10_readsNumber 30 = .ok (.ifCond .eq 48, 3) := by decide +kernel
theorem dX10_readsNumber_33 : decode cX10_readsNumber 33 = .ok (.iload_n 1, 1) := by decide +kernel
theorem dX10_readsNumber_34 : decode cX10_readsNumber 34 = .ok (.iconst 3, 1) := by decide +kernel
theorem dX10_readsNumber_35 : decode cX10_readsNumber 35 = .ok (.if_icmp .ge 27, 3) := by decide +kernel
theorem dX10_readsNumber_38 : decode cX10_readsNumber 38 = .ok (.aload_n 0, 1) := by decide +kernel
theorem dX10_readsNumber_39 : decode cX10_readsNumber 39 = .ok (.bipush 10, 2) := by decide +kernel
theorem dX10_readsNumber_41 : decode cX10_readsNumber 41 = .ok (.aload_n 0, 1) := by decide +kernel
theorem dX10_readsNumber_42 : decode cX10_readsNumber 42 = .ok (.getfield 156, 3) := by decide +kernel
theorem dX10_readsNumber_45 : decode cX10_readsNumber 45 = .ok (.imul, 1) := by decide +kernel
theorem dX10_readsNumber_46 : decode cX10_readsNumber 46 = .ok (.aload_n 0, 1) := by decide +kernel
theorem dX10_readsNumber_47 : decode cX10_readsNumber 47 = .ok (.getfield 32, 3) := by decide +kernel
theorem dX10_readsNumber_50 : decode cX10_readsNumber 50 = .ok (.aload_n 0, 1) := by decide +kernel
theorem dX10_readsNumber_51 : decode cX10_readsNumber 51 = .ok (.getfield 159, 3) := by decide +kernel
theorem dX10_readsNumber_54 : decode cX10_readsNumber 54 = .ok (.iaload, 1) := by decide +kernel
theorem dX10_readsNumber_55 : decode cX10_readsNumber 55 = .ok (.iadd, 1) := by decide +kernel
theorem dX10_readsNumber_56 : decode cX10_readsNumber 56 = .ok (.bipush 48, 2) := by decide +kernel
theorem dX10_readsNumber_58 : decode cX10_readsNumber 58 = .ok (.isub, 1) := by decide +kernel
theorem dX10_readsNumber_59 : decode cX10_readsNumber 59 = .ok (.putfield 156, 3) := by decide +kernel
theorem dX10_readsNumber_62 : decode cX10_readsNumber 62 = .ok (.iinc 1 1, 3) := by decide +kernel
theorem dX10_readsNumber_65 : decode cX10_readsNumber 65 = .ok (.aload_n 0, 1) := by decide +kernel
theorem dX10_readsNumber_66 : decode cX10_readsNumber 66 = .ok (.dup, 1) := by decide +kernel
theorem dX10_readsNumber_67 : decode cX10_readsNumber 67 = .ok (.getfield 159, 3) := by decide +kernel
theorem dX10_readsNumber_70 : decode cX10_readsNumber 70 = .ok (.iconst 1, 1) := by decide +kernel
theorem dX10_readsNumber_71 : decode cX10_readsNumber 71 = .ok (.iadd, 1) := by decide +kernel
theorem dX10_readsNumber_72 : decode cX10_readsNumber 72 = .ok (.putfield 159, 3) := by decide +kernel
theorem dX10_readsNumber_75 : decode cX10_readsNumber 75 = .ok (.goto (-68), 3) := by decide +kernel
theorem dX10_readsNumber_78 : decode cX10_readsNumber 78 = .ok (.aload_n 0, 1) := by decide +kernel
theorem dX10_readsNumber_79 : decode cX10_readsNumber 79 = .ok (.iload_n 1, 1) := by decide +kernel
theorem dX10_readsNumber_80 : decode cX10_readsNumber 80 = .ok (.iconst 3, 1) := by decide +kernel
theorem dX10_readsNumber_81 : decode cX10_readsNumber 81 = .ok (.if_icmp .gt 7, 3) := by decide +kernel
theorem dX10_readsNumber_84 : decode cX10_readsNumber 84 = .ok (.iconst 2, 1) := by decide +kernel
theorem dX10_readsNumber_85 : decode cX10_readsNumber 85 = .ok (.goto 4, 3) := by decide +kernel
theorem dX10_readsNumber_88 : decode cX10_readsNumber 88 = .ok (.iconst 4, 1) := by decide +kernel
theorem dX10_readsNumber_89 : decode cX10_readsNumber 89 = .ok (.putfield 165, 3) := by decide +kernel
theorem dX10_readsNumber_92 : decode cX10_readsNumber 92 = .ok (.return_, 1) := by decide +kernel
theorem dX10_reads_0 : decode cX10_reads 0 = .ok (.aload_n 0, 1) := by decide +kernel
theorem dX10_reads_1 : decode cX10_reads 1 = .ok (.getfield 159, 3) := by decide +kernel
theorem dX10_reads_4 : decode cX10_reads 4 = .ok (.aload_n 0, 1) := by decide +kernel
theorem dX10_reads_5 : decode cX10_reads 5 = .ok (.getfield 147, 3) := by decide +kernel
theorem dX10_reads_8 : decode cX10_reads 8 = .ok (.if_icmp .ge 31, 3) := by decide +kernel
theorem dX10_reads_11 : decode cX10_reads 11 = .ok (.aload_n 0, 1) := by decide +kernel
theorem dX10_reads_12 : decode cX10_reads 12 = .ok (.getfield 32, 3) := by decide +kernel
theorem dX10_reads_15 : decode cX10_reads 15 = .ok (.aload_n 0, 1) := by decide +kernel
theorem dX10_reads_16 : decode cX10_reads 16 = .ok (.getfield 159, 3) := by decide +kernel
theorem dX10_reads_19 : decode cX10_reads 19 = .ok (.iaload, 1) := by decide +kernel
theorem dX10_reads_20 : decode cX10_reads 20 = .ok (.invokestatic 171, 3) := by decide +kernel
theorem dX10_reads_23 : decode cX10_reads 23 = .ok (.ifCond .eq 16, 3) := by decide +kernel
theorem dX10_reads_26 : decode cX10_reads 26 = .ok (.aload_n 0, 1) := by decide +kernel
theorem dX10_reads_27 : decode cX10_reads 27 = .ok (.dup, 1) := by decide +kernel
theorem dX10_reads_28 : decode cX10_reads 28 = .ok (.getfield 159, 3) := by decide +kernel
theorem dX10_reads_31 : decode cX10_reads 31 = .ok (.iconst 1, 1) := by decide +kernel
theorem dX10_reads_32 : decode cX10_reads 32 = .ok (.iadd, 1) := by decide +kernel
theorem dX10_reads_33 : decode cX10_reads 33 = .ok (.putfield 159, 3) := by decide +kernel
theorem dX10_reads_36 : decode cX10_reads 36 = .ok (.goto (-36), 3) := by decide +kernel
theorem dX10_reads_39 : decode cX10_reads 39 = .ok (.aload_n 0, 1) := by decide +kernel
theorem dX10_reads_40 : decode cX10_reads 40 = .ok (.aload_n 0, 1) := by decide +kernel
theorem dX10_reads_41 : decode cX10_reads 41 = .ok (.getfield 159, 3) := by decide +kernel
theorem dX10_reads_44 : decode cX10_reads 44 = .ok (.putfield 174, 3) := by decide +kernel
theorem dX10_reads_47 : decode cX10_reads 47 = .ok (.aload_n 0, 1) := by decide +kernel
theorem dX10_reads_48 : decode cX10_reads 48 = .ok (.iconst 0, 1) := by decide +kernel
theorem dX10_reads_49 : decode cX10_reads 49 = .ok (.putfield 165, 3) := by decide +kernel
theorem dX10_reads_52 : decode cX10_reads 52 = .ok (.aload_n 0, 1) := by decide +kernel
theorem dX10_reads_53 : decode cX10_reads 53 = .ok (.getfield 159, 3) := by decide +kernel
theorem dX10_reads_56 : decode cX10_reads 56 = .ok (.aload_n 0, 1) := by decide +kernel
theorem dX10_reads_57 : decode cX10_reads 57 = .ok (.getfield 147, 3) := by decide +kernel
theorem dX10_reads_60 : decode cX10_reads 60 = .ok (.if_icmp .ne 4, 3) := by decide +kernel
theorem dX10_reads_63 : decode cX10_reads 63 = .ok (.return_, 1) := by decide +kernel
theorem dX10_reads_64 : decode cX10_reads 64 = .ok (.aload_n 0, 1) := by decide +kernel
theorem dX10_reads_65 : decode cX10_reads 65 = .ok (.getfield 32, 3) := by decide +kernel
theorem dX10_reads_68 : decode cX10_reads 68 = .ok (.aload_n 0, 1) := by decide +kernel
theorem dX10_reads_69 : decode cX10_reads 69 = .ok (.getfield 159, 3) := by decide +kernel
theorem dX10_reads_72 : decode cX10_reads 72 = .ok (.iaload, 1) := by decide +kernel
theorem dX10_reads_73 : decode cX10_reads 73 = .ok (.invokestatic 162, 3) := by decide +kernel
theorem dX10_reads_76 : decode cX10_reads 76 = .ok (.ifCond .eq 10, 3) := by decide +kernel
theorem dX10_reads_79 : decode cX10_reads 79 = .ok (.aload_n 0, 1) := by decide +kernel
theorem dX10_reads_80 : decode cX10_reads 80 = .ok (.invokevirtual 177, 3) := by decide +kernel
theorem dX10_reads_83 : decode cX10_reads 83 = .ok (.goto 67, 3) := by decide +kernel
theorem dX10_reads_86 : decode cX10_reads 86 = .ok (.aload_n 0, 1) := by decide +kernel
theorem dX10_reads_87 : decode cX10_reads 87 = .ok (.getfield 32, 3) := by decide +kernel
theorem dX10_reads_90 : decode cX10_reads 90 = .ok (.aload_n 0, 1) := by decide +kernel
theorem dX10_reads_91 : decode cX10_reads 91 = .ok (.getfield 159, 3) := by decide +kernel
theorem dX10_reads_94 : decode cX10_reads 94 = .ok (.iaload, 1) := by decide +kernel
theorem dX10_reads_95 : decode cX10_reads 95 = .ok (.invokestatic 168, 3) := by decide +kernel
theorem dX10_reads_98 : decode cX10_reads 98 = .ok (.ifCond .eq 10, 3) := by decide +kernel
theorem dX10_reads_101 : decode cX10_reads 101 = .ok (.aload_n 0, 1) := by decide +kernel
theorem dX10_reads_102 : decode cX10_reads 102 = .ok (.invokevirtual 180, 3) := by decide +kernel
theorem dX10_reads_105 : decode cX10_reads 105 = .ok (.goto 45, 3) := by decide +kernel
theorem dX10_reads_108 : decode cX10_reads 108 = .ok (.aload_n 0, 1) := by decide +kernel
theorem dX10_reads_109 : decode cX10_reads 109 = .ok (.aload_n 0, 1) := by decide +kernel
theorem dX10_reads_110 : decode cX10_reads 110 = .ok (.getfield 32, 3) := by decide +kernel
theorem dX10_reads_113 : decode cX10_reads 113 = .ok (.aload_n 0, 1) := by decide +kernel
theorem dX10_reads_114 : decode cX10_reads 114 = .ok (.getfield 159, 3) := by decide +kernel
theorem dX10_reads_117 : decode cX10_reads 117 = .ok (.iaload, 1) := by decide +kernel
theorem dX10_reads_118 : decode cX10_reads 118 = .ok (.putfield 156, 3) := by decide +kernel
theorem dX10_reads_121 : decode cX10_reads 121 = .ok (.aload_n 0, 1) := by decide +kernel
theorem dX10_reads_122 : decode cX10_reads 122 = .ok (.aload_n 0, 1) := by decide +kernel
theorem dX10_reads_123 : decode cX10_reads 123 = .ok (.getfield 156, 3) := by decide +kernel
theorem dX10_reads_126 : decode cX10_reads 126 = .ok (.invokestatic 183, 3) := by decide +kernel
theorem dX10_reads_129 : decode cX10_reads 129 = .ok (.ifCond .eq 7, 3) := by decide +kernel
theorem dX10_reads_132 : decode cX10_reads 132 = .ok (.iconst 1, 1) := by decide +kernel
theorem dX10_reads_133 : decode cX10_reads 133 = .ok (.goto 4, 3) := by decide +kernel
theorem dX10_reads_136 : decode cX10_reads 136 = .ok (.iconst 4, 1) := by decide +kernel
theorem dX10_reads_137 : decode cX10_reads 137 = .ok (.putfield 165, 3) := by decide +kernel
theorem dX10_reads_140 : decode cX10_reads 140 = .ok (.aload_n 0, 1) := by decide +kernel
theorem dX10_reads_141 : decode cX10_reads 141 = .ok (.dup, 1) := by decide +kernel
theorem dX10_reads_142 : decode cX10_reads 142 = .ok (.getfield 159, 3) := by decide +kernel
theorem dX10_reads_145 : decode cX10_reads 145 = .ok (.iconst 1, 1) := by decide +kernel
theorem dX10_reads_146 : decode cX10_reads 146 = .ok (.iadd, 1) := by decide +kernel
theorem dX10_reads_147 : decode cX10_reads 147 = .ok (.putfield 159, 3) := by decide +kernel
theorem dX10_reads_150 : decode cX10_reads 150 = .ok (.return_, 1) := by decide +kernel
theorem dX10_isSignNow_0 : decode cX10_isSignNow 0 = .ok (.aload_n 0, 1) := by decide +kernel
theorem dX10_isSignNow_1 : decode cX10_isSignNow 1 = .ok (.getfield 165, 3) := by decide +kernel
theorem dX10_isSignNow_4 : decode cX10_isSignNow 4 = .ok (.iconst 1, 1) := by decide +kernel
theorem dX10_isSignNow_5 : decode cX10_isSignNow 5 = .ok (.if_icmp .ne 15, 3) := by decide +kernel
theorem dX10_isSignNow_8 : decode cX10_isSignNow 8 = .ok (.aload_n 0, 1) := by decide +kernel
theorem dX10_isSignNow_9 : decode cX10_isSignNow 9 = .ok (.getfield 156, 3) := by decide +kernel
theorem dX10_isSignNow_12 : decode cX10_isSignNow 12 = .ok (.iload_n 1, 1) := by decide +kernel
theorem dX10_isSignNow_13 : decode cX10_isSignNow 13 = .ok (.if_icmp .ne 7, 3) := by decide +kernel
theorem dX10_isSignNow_16 : decode cX10_isSignNow 16 = .ok (.iconst 1, 1) := by decide +kernel
theorem dX10_isSignNow_17 : decode cX10_isSignNow 17 = .ok (.goto 4, 3) := by decide +kernel
theorem dX10_isSignNow_20 : decode cX10_isSignNow 20 = .ok (.iconst 0, 1) := by decide +kernel
theorem dX10_isSignNow_21 : decode cX10_isSignNow 21 = .ok (.ireturn, 1) := by decide +kernel
theorem dX10_fill_0 : decode cX10_fill 0 = .ok (.aload_n 0, 1) := by decide +kernel
theorem dX10_fill_1 : decode cX10_fill 1 = .ok (.iconst 0, 1) := by decide +kernel
theorem dX10_fill_2 : decode cX10_fill 2 = .ok (.putfield 1, 3) := by decide +kernel
theorem dX10_fill_5 : decode cX10_fill 5 = .ok (.aload_n 0, 1) := by decide +kernel
theorem dX10_fill_6 : decode cX10_fill 6 = .ok (.iconst 0, 1) := by decide +kernel
theorem dX10_fill_7 : decode cX10_fill 7 = .ok (.putfield 159, 3) := by decide +kernel
theorem dX10_fill_10 : decode cX10_fill 10 = .ok (.iconst 0, 1) := by decide +kernel
theorem dX10_fill_11 : decode cX10_fill 11 = .ok (.istore_n 1, 1) := by decide +kernel
theorem dX10_fill_12 : decode cX10_fill 12 = .ok (.aload_n 0, 1) := by decide +kernel
theorem dX10_fill_13 : decode cX10_fill 13 = .ok (.iconst (-1), 1) := by decide +kernel
theorem dX10_fill_14 : decode cX10_fill 14 = .ok (.putfield 35, 3) := by decide +kernel
theorem dX10_fill_17 : decode cX10_fill 17 = .ok (.aload_n 0, 1) := by decide +kernel
theorem dX10_fill_18 : decode cX10_fill 18 = .ok (.invokevirtual 186, 3) := by decide +kernel
theorem dX10_fill_21 : decode cX10_fill 21 = .ok (.aload_n 0, 1) := by decide +kernel
theorem dX10_fill_22 : decode cX10_fill 22 = .ok (.getfield 165, 3) := by decide +kernel
theorem dX10_fill_25 : decode cX10_fill 25 = .ok (.iconst 3, 1) := by decide +kernel
theorem dX10_fill_26 : decode cX10_fill 26 = .ok (.if_icmp .ne 29, 3) := by decide +kernel
theorem dX10_fill_29 : decode cX10_fill 29 = .ok (.iload_n 1, 1) := by decide +kernel
theorem dX10_fill_30 : decode cX10_fill 30 = .ok (.bipush 100, 2) := by decide +kernel
theorem dX10_fill_32 : decode cX10_fill 32 = .ok (.if_icmp .ge 23, 3) := by decide +kernel
theorem dX10_fill_35 : decode cX10_fill 35 = .ok (.aload_n 0, 1) := by decide +kernel
theorem dX10_fill_36 : decode cX10_fill 36 = .ok (.getfield 38, 3) := by decide +kernel
theorem dX10_fill_39 : decode cX10_fill 39 = .ok (.iload_n 1, 1) := by decide +kernel
theorem dX10_fill_40 : decode cX10_fill 40 = .ok (.aload_n 0, 1) := by decide +kernel
theorem dX10_fill_41 : decode cX10_fill 41 = .ok (.getfield 156, 3) := by decide +kernel
theorem dX10_fill_44 : decode cX10_fill 44 = .ok (.iastore, 1) := by decide +kernel
theorem dX10_fill_45 : decode cX10_fill 45 = .ok (.iinc 1 1, 3) := by decide +kernel
theorem dX10_fill_48 : decode cX10_fill 48 = .ok (.aload_n 0, 1) := by decide +kernel
theorem dX10_fill_49 : decode cX10_fill 49 = .ok (.invokevirtual 186, 3) := by decide +kernel
theorem dX10_fill_52 : decode cX10_fill 52 = .ok (.goto (-31), 3) := by decide +kernel
theorem dX10_fill_55 : decode cX10_fill 55 = .ok (.aload_n 0, 1) := by decide +kernel
theorem dX10_fill_56 : decode cX10_fill 56 = .ok (.getfield 165, 3) := by decide +kernel
theorem dX10_fill_59 : decode cX10_fill 59 = .ok (.ifCond .eq 11, 3) := by decide +kernel
theorem dX10_fill_62 : decode cX10_fill 62 = .ok (.aload_n 0, 1) := by decide +kernel
theorem dX10_fill_63 : decode cX10_fill 63 = .ok (.aload_n 0, 1) := by decide +kernel
theorem dX10_fill_64 : decode cX10_fill 64 = .ok (.getfield 174, 3) := by decide +kernel
theorem dX10_fill_67 : decode cX10_fill 67 = .ok (.putfield 35, 3) := by decide +kernel
theorem dX10_fill_70 : decode cX10_fill 70 = .ok (.aload_n 0, 1) := by decide +kernel
theorem dX10_fill_71 : decode cX10_fill 71 = .ok (.iconst 0, 1) := by decide +kernel
theorem dX10_fill_72 : decode cX10_fill 72 = .ok (.putfield 147, 3) := by decide +kernel
theorem dX10_fill_75 : decode cX10_fill 75 = .ok (.aload_n 0, 1) := by decide +kernel
theorem dX10_fill_76 : decode cX10_fill 76 = .ok (.aload_n 0, 1) := by decide +kernel
theorem dX10_fill_77 : decode cX10_fill 77 = .ok (.getfield 35, 3) := by decide +kernel
theorem dX10_fill_80 : decode cX10_fill 80 = .ok (.iconst (-1), 1) := by decide +kernel
theorem dX10_fill_81 : decode cX10_fill 81 = .ok (.if_icmp .ne 7, 3) := by decide +kernel
theorem dX10_fill_84 : decode cX10_fill 84 = .ok (.iconst 1, 1) := by decide +kernel
theorem dX10_fill_85 : decode cX10_fill 85 = .ok (.goto 4, 3) := by decide +kernel
theorem dX10_fill_88 : decode cX10_fill 88 = .ok (.iconst 0, 1) := by decide +kernel
theorem dX10_fill_89 : decode cX10_fill 89 = .ok (.iconst 1, 1) := by decide +kernel
theorem dX10_fill_90 : decode cX10_fill 90 = .ok (.invokevirtual 74, 3) := by decide +kernel
theorem dX10_fill_93 : decode cX10_fill 93 = .ok (.ifCond .eq 5, 3) := by decide +kernel
theorem dX10_fill_96 : decode cX10_fill 96 = .ok (.iconst 0, 1) := by decide +kernel
theorem dX10_fill_97 : decode cX10_fill 97 = .ok (.ireturn, 1) := by decide +kernel
theorem dX10_fill_98 : decode cX10_fill 98 = .ok (.aload_n 0, 1) := by decide +kernel
theorem dX10_fill_99 : decode cX10_fill 99 = .ok (.invokevirtual 189, 3) := by decide +kernel
theorem dX10_fill_102 : decode cX10_fill 102 = .ok (.iload_n 1, 1) := by decide +kernel
theorem dX10_fill_103 : decode cX10_fill 103 = .ok (.iconst 1, 1) := by decide +kernel
theorem dX10_fill_104 : decode cX10_fill 104 = .ok (.isub, 1) := by decide +kernel
theorem dX10_fill_105 : decode cX10_fill 105 = .ok (.istore_n 2, 1) := by decide +kernel
theorem dX10_fill_106 : decode cX10_fill 106 = .ok (.iload_n 2, 1) := by decide +kernel
theorem dX10_fill_107 : decode cX10_fill 107 = .ok (.ifCond .lt 34, 3) := by decide +kernel
theorem dX10_fill_110 : decode cX10_fill 110 = .ok (.aload_n 0, 1) := by decide +kernel
theorem dX10_fill_111 : decode cX10_fill 111 = .ok (.getfield 17, 3) := by decide +kernel
theorem dX10_fill_114 : decode cX10_fill 114 = .ok (.aload_n 0, 1) := by decide +kernel
theorem dX10_fill_115 : decode cX10_fill 115 = .ok (.getfield 94, 3) := by decide +kernel
theorem dX10_fill_118 : decode cX10_fill 118 = .ok (.aload_n 0, 1) := by decide +kernel
theorem dX10_fill_119 : decode cX10_fill 119 = .ok (.getfield 38, 3) := by decide +kernel
theorem dX10_fill_122 : decode cX10_fill 122 = .ok (.iload_n 2, 1) := by decide +kernel
theorem dX10_fill_123 : decode cX10_fill 123 = .ok (.iaload, 1) := by decide +kernel
theorem dX10_fill_124 : decode cX10_fill 124 = .ok (.iastore, 1) := by decide +kernel
theorem dX10_fill_125 : decode cX10_fill 125 = .ok (.aload_n 0, 1) := by decide +kernel
theorem dX10_fill_126 : decode cX10_fill 126 = .ok (.dup, 1) := by decide +kernel
theorem dX10_fill_127 : decode cX10_fill 127 = .ok (.getfield 94, 3) := by decide +kernel
theorem dX10_fill_130 : decode cX10_fill 130 = .ok (.iconst 1, 1) := by decide +kernel
theorem dX10_fill_131 : decode cX10_fill 131 = .ok (.iadd, 1) := by decide +kernel
theorem dX10_fill_132 : decode cX10_fill 132 = .ok (.putfield 94, 3) := by decide +kernel
theorem dX10_fill_135 : decode cX10_fill 135 = .ok (.iinc 2 (-1), 3) := by decide +kernel
theorem dX10_fill_138 : decode cX10_fill 138 = .ok (.goto (-32), 3) := by decide +kernel
theorem dX10_fill_141 : decode cX10_fill 141 = .ok (.iload_n 1, 1) := by decide +kernel
theorem dX10_fill_142 : decode cX10_fill 142 = .ok (.ireturn, 1) := by decide +kernel
theorem dX10_clears_0 : decode cX10_clears 0 = .ok (.aload_n 0, 1) := by decide +kernel
theorem dX10_clears_1 : decode cX10_clears 1 = .ok (.iconst 0, 1) := by decide +kernel
theorem dX10_clears_2 : decode cX10_clears 2 = .ok (.putfield 81, 3) := by decide +kernel
theorem dX10_clears_5 : decode cX10_clears 5 = .ok (.aload_n 0, 1) := by decide +kernel
theorem dX10_clears_6 : decode cX10_clears 6 = .ok (.iconst 0, 1) := by decide +kernel
theorem dX10_clears_7 : decode cX10_clears 7 = .ok (.putfield 94, 3) := by decide +kernel
theorem dX10_clears_10 : decode cX10_clears 10 = .ok (.aload_n 0, 1) := by decide +kernel
theorem dX10_clears_11 : decode cX10_clears 11 = .ok (.iconst 0, 1) := by decide +kernel
theorem dX10_clears_12 : decode cX10_clears 12 = .ok (.putfield 109, 3) := by decide +kernel
theorem dX10_clears_15 : decode cX10_clears 15 = .ok (.aload_n 0, 1) := by decide +kernel
theorem dX10_clears_16 : decode cX10_clears 16 = .ok (.iconst 0, 1) := by decide +kernel
theorem dX10_clears_17 : decode cX10_clears 17 = .ok (.putfield 78, 3) := by decide +kernel
theorem dX10_clears_20 : decode cX10_clears 20 = .ok (.return_, 1) := by decide +kernel
theorem dX10_keepsItem_0 : decode cX10_keepsItem 0 = .ok (.aload_n 0, 1) := by decide +kernel
theorem dX10_keepsItem_1 : decode cX10_keepsItem 1 = .ok (.getfield 41, 3) := by decide +kernel
theorem dX10_keepsItem_4 : decode cX10_keepsItem 4 = .ok (.aload_n 0, 1) := by decide +kernel
theorem dX10_keepsItem_5 : decode cX10_keepsItem 5 = .ok (.getfield 192, 3) := by decide +kernel
theorem dX10_keepsItem_8 : decode cX10_keepsItem 8 = .ok (.iload_n 1, 1) := by decide +kernel
theorem dX10_keepsItem_9 : decode cX10_keepsItem 9 = .ok (.iastore, 1) := by decide +kernel
theorem dX10_keepsItem_10 : decode cX10_keepsItem 10 = .ok (.aload_n 0, 1) := by decide +kernel
theorem dX10_keepsItem_11 : decode cX10_keepsItem 11 = .ok (.getfield 44, 3) := by decide +kernel
theorem dX10_keepsItem_14 : decode cX10_keepsItem 14 = .ok (.aload_n 0, 1) := by decide +kernel
theorem dX10_keepsItem_15 : decode cX10_keepsItem 15 = .ok (.getfield 192, 3) := by decide +kernel
theorem dX10_keepsItem_18 : decode cX10_keepsItem 18 = .ok (.iload_n 2, 1) := by decide +kernel
theorem dX10_keepsItem_19 : decode cX10_keepsItem 19 = .ok (.iastore, 1) := by decide +kernel
theorem dX10_keepsItem_20 : decode cX10_keepsItem 20 = .ok (.aload_n 0, 1) := by decide +kernel
theorem dX10_keepsItem_21 : decode cX10_keepsItem 21 = .ok (.dup, 1) := by decide +kernel
theorem dX10_keepsItem_22 : decode cX10_keepsItem 22 = .ok (.getfield 192, 3) := by decide +kernel
theorem dX10_keepsItem_25 : decode cX10_keepsItem 25 = .ok (.iconst 1, 1) := by decide +kernel
theorem dX10_keepsItem_26 : decode cX10_keepsItem 26 = .ok (.iadd, 1) := by decide +kernel
theorem dX10_keepsItem_27 : decode cX10_keepsItem 27 = .ok (.putfield 192, 3) := by decide +kernel
theorem dX10_keepsItem_30 : decode cX10_keepsItem 30 = .ok (.return_, 1) := by decide +kernel
theorem dX10_opens_0 : decode cX10_opens 0 = .ok (.aload_n 0, 1) := by decide +kernel
theorem dX10_opens_1 : decode cX10_opens 1 = .ok (.bipush 123, 2) := by decide +kernel
theorem dX10_opens_3 : decode cX10_opens 3 = .ok (.invokevirtual 195, 3) := by decide +kernel
theorem dX10_opens_6 : decode cX10_opens 6 = .ok (.ifCond .eq 8, 3) := by decide +kernel
theorem dX10_opens_9 : decode cX10_opens 9 = .ok (.iload_n 1, 1) := by decide +kernel
theorem dX10_opens_10 : decode cX10_opens 10 = .ok (.iconst 4, 1) := by decide +kernel
theorem dX10_opens_11 : decode cX10_opens 11 = .ok (.if_icmp .ne 5, 3) := by decide +kernel
theorem dX10_opens_14 : decode cX10_opens 14 = .ok (.iconst 0, 1) := by decide +kernel
theorem dX10_opens_15 : decode cX10_opens 15 = .ok (.ireturn, 1) := by decide +kernel
theorem dX10_opens_16 : decode cX10_opens 16 = .ok (.aload_n 0, 1) := by decide +kernel
theorem dX10_opens_17 : decode cX10_opens 17 = .ok (.bipush 123, 2) := by decide +kernel
theorem dX10_opens_19 : decode cX10_opens 19 = .ok (.iload_n 2, 1) := by decide +kernel
theorem dX10_opens_20 : decode cX10_opens 20 = .ok (.invokevirtual 198, 3) := by decide +kernel
theorem dX10_opens_23 : decode cX10_opens 23 = .ok (.aload_n 0, 1) := by decide +kernel
theorem dX10_opens_24 : decode cX10_opens 24 = .ok (.invokevirtual 186, 3) := by decide +kernel
theorem dX10_opens_27 : decode cX10_opens 27 = .ok (.iconst 1, 1) := by decide +kernel
theorem dX10_opens_28 : decode cX10_opens 28 = .ok (.ireturn, 1) := by decide +kernel
theorem dX10_readsItem_0 : decode cX10_readsItem 0 = .ok (.aload_n 0, 1) := by decide +kernel
theorem dX10_readsItem_1 : decode cX10_readsItem 1 = .ok (.getfield 165, 3) := by decide +kernel
theorem dX10_readsItem_4 : decode cX10_readsItem 4 = .ok (.iconst 2, 1) := by decide +kernel
theorem dX10_readsItem_5 : decode cX10_readsItem 5 = .ok (.if_icmp .ne 31, 3) := by decide +kernel
theorem dX10_readsItem_8 : decode cX10_readsItem 8 = .ok (.aload_n 0, 1) := by decide +kernel
theorem dX10_readsItem_9 : decode cX10_readsItem 9 = .ok (.getfield 156, 3) := by decide +kernel
theorem dX10_readsItem_12 : decode cX10_readsItem 12 = .ok (.istore_n 2, 1) := by decide +kernel
theorem dX10_readsItem_13 : decode cX10_readsItem 13 = .ok (.iload_n 2, 1) := by decide +kernel
theorem dX10_readsItem_14 : decode cX10_readsItem 14 = .ok (.iconst 1, 1) := by decide +kernel
theorem dX10_readsItem_15 : decode cX10_readsItem 15 = .ok (.bipush 20, 2) := by decide +kernel
theorem dX10_readsItem_17 : decode cX10_readsItem 17 = .ok (.invokestatic 66, 3) := by decide +kernel
theorem dX10_readsItem_20 : decode cX10_readsItem 20 = .ok (.ifCond .ne 5, 3) := by decide +kernel
theorem dX10_readsItem_23 : decode cX10_readsItem 23 = .ok (.iconst 0, 1) := by decide +kernel
theorem dX10_readsItem_24 : decode cX10_readsItem 24 = .ok (.ireturn, 1) := by decide +kernel
theorem dX10_readsItem_25 : decode cX10_readsItem 25 = .ok (.aload_n 0, 1) := by decide +kernel
theorem dX10_readsItem_26 : decode cX10_readsItem 26 = .ok (.invokevirtual 186, 3) := by decide +kernel
theorem dX10_readsItem_29 : decode cX10_readsItem 29 = .ok (.aload_n 0, 1) := by decide +kernel
theorem dX10_readsItem_30 : decode cX10_readsItem 30 = .ok (.iload_n 1, 1) := by decide +kernel
theorem dX10_readsItem_31 : decode cX10_readsItem 31 = .ok (.iload_n 2, 1) := by decide +kernel
theorem dX10_readsItem_32 : decode cX10_readsItem 32 = .ok (.invokevirtual 202, 3) := by decide +kernel
theorem dX10_readsItem_35 : decode cX10_readsItem 35 = .ok (.ireturn, 1) := by decide +kernel
theorem dX10_readsItem_36 : decode cX10_readsItem 36 = .ok (.aload_n 0, 1) := by decide +kernel
theorem dX10_readsItem_37 : decode cX10_readsItem 37 = .ok (.getfield 165, 3) := by decide +kernel
theorem dX10_readsItem_40 : decode cX10_readsItem 40 = .ok (.iconst 1, 1) := by decide +kernel
theorem dX10_readsItem_41 : decode cX10_readsItem 41 = .ok (.if_icmp .ne 21, 3) := by decide +kernel
theorem dX10_readsItem_44 : decode cX10_readsItem 44 = .ok (.aload_n 0, 1) := by decide +kernel
theorem dX10_readsItem_45 : decode cX10_readsItem 45 = .ok (.getfield 156, 3) := by decide +kernel
theorem dX10_readsItem_48 : decode cX10_readsItem 48 = .ok (.bipush 123, 2) := by decide +kernel
theorem dX10_readsItem_50 : decode cX10_readsItem 50 = .ok (.if_icmp .eq 12, 3) := by decide +kernel
theorem dX10_readsItem_53 : decode cX10_readsItem 53 = .ok (.aload_n 0, 1) := by decide +kernel
theorem dX10_readsItem_54 : decode cX10_readsItem 54 = .ok (.getfield 156, 3) := by decide +kernel
theorem dX10_readsItem_57 : decode cX10_readsItem 57 = .ok (.bipush 125, 2) := by decide +kernel
theorem dX10_readsItem_59 : decode cX10_readsItem 59 = .ok (.if_icmp .ne 5, 3) := by decide +kernel
theorem dX10_readsItem_62 : decode cX10_readsItem 62 = .ok (.iconst 0, 1) := by decide +kernel
theorem dX10_readsItem_63 : decode cX10_readsItem 63 = .ok (.ireturn, 1) := by decide +kernel
theorem dX10_readsItem_64 : decode cX10_readsItem 64 = .ok (.aload_n 0, 1) := by decide +kernel
theorem dX10_readsItem_65 : decode cX10_readsItem 65 = .ok (.getfield 156, 3) := by decide +kernel
theorem dX10_readsItem_68 : decode cX10_readsItem 68 = .ok (.istore_n 2, 1) := by decide +kernel
theorem dX10_readsItem_69 : decode cX10_readsItem 69 = .ok (.aload_n 0, 1) := by decide +kernel
theorem dX10_readsItem_70 : decode cX10_readsItem 70 = .ok (.invokevirtual 186, 3) := by decide +kernel
theorem dX10_readsItem_73 : decode cX10_readsItem 73 = .ok (.iload_n 2, 1) := by decide +kernel
theorem dX10_readsItem_74 : decode cX10_readsItem 74 = .ok (.bipush 42, 2) := by decide +kernel
theorem dX10_readsItem_76 : decode cX10_readsItem 76 = .ok (.if_icmp .ne 10, 3) := by decide +kernel
theorem dX10_readsItem_79 : decode cX10_readsItem 79 = .ok (.aload_n 0, 1) := by decide +kernel
theorem dX10_readsItem_80 : decode cX10_readsItem 80 = .ok (.iload_n 1, 1) := by decide +kernel
theorem dX10_readsItem_81 : decode cX10_readsItem 81 = .ok (.iconst 0, 1) := by decide +kernel
theorem dX10_readsItem_82 : decode cX10_readsItem 82 = .ok (.invokevirtual 202, 3) := by decide +kernel
theorem dX10_readsItem_85 : decode cX10_readsItem 85 = .ok (.ireturn, 1) := by decide +kernel
theorem dX10_readsItem_86 : decode cX10_readsItem 86 = .ok (.iload_n 2, 1) := by decide +kernel
theorem dX10_readsItem_87 : decode cX10_readsItem 87 = .ok (.bipush 46, 2) := by decide +kernel
theorem dX10_readsItem_89 : decode cX10_readsItem 89 = .ok (.if_icmp .eq 21, 3) := by decide +kernel
theorem dX10_readsItem_92 : decode cX10_readsItem 92 = .ok (.iload_n 2, 1) := by decide +kernel
theorem dX10_readsItem_93 : decode cX10_readsItem 93 = .ok (.bipush 44, 2) := by decide +kernel
theorem dX10_readsItem_95 : decode cX10_readsItem 95 = .ok (.if_icmp .eq 15, 3) := by decide +kernel
theorem dX10_readsItem_98 : decode cX10_readsItem 98 = .ok (.iload_n 2, 1) := by decide +kernel
theorem dX10_readsItem_99 : decode cX10_readsItem 99 = .ok (.bipush 45, 2) := by decide +kernel
theorem dX10_readsItem_101 : decode cX10_readsItem 101 = .ok (.if_icmp .eq 9, 3) := by decide +kernel
theorem dX10_readsItem_104 : decode cX10_readsItem 104 = .ok (.iload_n 2, 1) := by decide +kernel
theorem dX10_readsItem_105 : decode cX10_readsItem 105 = .ok (.bipush 37, 2) := by decide +kernel
theorem dX10_readsItem_107 : decode cX10_readsItem 107 = .ok (.if_icmp .ne 7, 3) := by decide +kernel
theorem dX10_readsItem_110 : decode cX10_readsItem 110 = .ok (.iconst 1, 1) := by decide +kernel
theorem dX10_readsItem_111 : decode cX10_readsItem 111 = .ok (.goto 4, 3) := by decide +kernel
theorem dX10_readsItem_114 : decode cX10_readsItem 114 = .ok (.iconst 0, 1) := by decide +kernel
theorem dX10_readsItem_115 : decode cX10_readsItem 115 = .ok (.istore_n 3, 1) := by decide +kernel
theorem dX10_readsItem_116 : decode cX10_readsItem 116 = .ok (.iload_n 3, 1) := by decide +kernel
theorem dX10_readsItem_117 : decode cX10_readsItem 117 = .ok (.ifCond .ne 23, 3) := by decide +kernel
theorem dX10_readsItem_120 : decode cX10_readsItem 120 = .ok (.aload_n 0, 1) := by decide +kernel
theorem dX10_readsItem_121 : decode cX10_readsItem 121 = .ok (.getfield 165, 3) := by decide +kernel
theorem dX10_readsItem_124 : decode cX10_readsItem 124 = .ok (.iload_n 2, 1) := by decide +kernel
theorem dX10_readsItem_125 : decode cX10_readsItem 125 = .ok (.bipush 64, 2) := by decide +kernel
theorem dX10_readsItem_127 : decode cX10_readsItem 127 = .ok (.if_icmp .ne 7, 3) := by decide +kernel
theorem dX10_readsItem_130 : decode cX10_readsItem 130 = .ok (.iconst 2, 1) := by decide +kernel
theorem dX10_readsItem_131 : decode cX10_readsItem 131 = .ok (.goto 4, 3) := by decide +kernel
theorem dX10_readsItem_134 : decode cX10_readsItem 134 = .ok (.iconst 3, 1) := by decide +kernel
theorem dX10_readsItem_135 : decode cX10_readsItem 135 = .ok (.if_icmp .eq 5, 3) := by decide +kernel
theorem dX10_readsItem_138 : decode cX10_readsItem 138 = .ok (.iconst 0, 1) := by decide +kernel
theorem dX10_readsItem_139 : decode cX10_readsItem 139 = .ok (.ireturn, 1) := by decide +kernel
theorem dX10_readsItem_140 : decode cX10_readsItem 140 = .ok (.aload_n 0, 1) := by decide +kernel
theorem dX10_readsItem_141 : decode cX10_readsItem 141 = .ok (.iload_n 2, 1) := by decide +kernel
theorem dX10_readsItem_142 : decode cX10_readsItem 142 = .ok (.iload_n 3, 1) := by decide +kernel
theorem dX10_readsItem_143 : decode cX10_readsItem 143 = .ok (.ifCond .eq 7, 3) := by decide +kernel
theorem dX10_readsItem_146 : decode cX10_readsItem 146 = .ok (.iconst 0, 1) := by decide +kernel
theorem dX10_readsItem_147 : decode cX10_readsItem 147 = .ok (.goto 7, 3) := by decide +kernel
theorem dX10_readsItem_150 : decode cX10_readsItem 150 = .ok (.aload_n 0, 1) := by decide +kernel
theorem dX10_readsItem_151 : decode cX10_readsItem 151 = .ok (.getfield 156, 3) := by decide +kernel
theorem dX10_readsItem_154 : decode cX10_readsItem 154 = .ok (.invokevirtual 198, 3) := by decide +kernel
theorem dX10_readsItem_157 : decode cX10_readsItem 157 = .ok (.iload_n 3, 1) := by decide +kernel
theorem dX10_readsItem_158 : decode cX10_readsItem 158 = .ok (.ifCond .ne 7, 3) := by decide +kernel
theorem dX10_readsItem_161 : decode cX10_readsItem 161 = .ok (.aload_n 0, 1) := by decide +kernel
theorem dX10_readsItem_162 : decode cX10_readsItem 162 = .ok (.invokevirtual 186, 3) := by decide +kernel
theorem dX10_readsItem_165 : decode cX10_readsItem 165 = .ok (.iconst 1, 1) := by decide +kernel
theorem dX10_readsItem_166 : decode cX10_readsItem 166 = .ok (.ireturn, 1) := by decide +kernel
