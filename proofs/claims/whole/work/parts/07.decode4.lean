theorem dX9_run_0 : decode cX9_run 0 = .ok (.aload_n 0, 1) := by decide +kernel
theorem dX9_run_1 : decode cX9_run 1 = .ok (.getfield 26, 3) := by decide +kernel
theorem dX9_run_4 : decode cX9_run 4 = .ok (.aload_n 0, 1) := by decide +kernel
theorem dX9_run_5 : decode cX9_run 5 = .ok (.getfield 19, 3) := by decide +kernel
theorem dX9_run_8 : decode cX9_run 8 = .ok (.invokevirtual 94, 3) := by decide +kernel
theorem dX9_run_11 : decode cX9_run 11 = .ok (.aload_n 0, 1) := by decide +kernel
theorem dX9_run_12 : decode cX9_run 12 = .ok (.aload_n 0, 1) := by decide +kernel
theorem dX9_run_13 : decode cX9_run 13 = .ok (.getfield 26, 3) := by decide +kernel
theorem dX9_run_16 : decode cX9_run 16 = .ok (.aload_n 0, 1) := by decide +kernel
theorem dX9_run_17 : decode cX9_run 17 = .ok (.getfield 19, 3) := by decide +kernel
theorem dX9_run_20 : decode cX9_run 20 = .ok (.getfield 85, 3) := by decide +kernel
theorem dX9_run_23 : decode cX9_run 23 = .ok (.invokevirtual 124, 3) := by decide +kernel
theorem dX9_run_26 : decode cX9_run 26 = .ok (.putfield 30, 3) := by decide +kernel
theorem dX9_run_29 : decode cX9_run 29 = .ok (.aload_n 0, 1) := by decide +kernel
theorem dX9_run_30 : decode cX9_run 30 = .ok (.getfield 19, 3) := by decide +kernel
theorem dX9_run_33 : decode cX9_run 33 = .ok (.iconst 0, 1) := by decide +kernel
theorem dX9_run_34 : decode cX9_run 34 = .ok (.putfield 85, 3) := by decide +kernel
theorem dX9_run_37 : decode cX9_run 37 = .ok (.aload_n 0, 1) := by decide +kernel
theorem dX9_run_38 : decode cX9_run 38 = .ok (.iconst 0, 1) := by decide +kernel
theorem dX9_run_39 : decode cX9_run 39 = .ok (.putfield 34, 3) := by decide +kernel
theorem dX9_run_42 : decode cX9_run 42 = .ok (.aload_n 0, 1) := by decide +kernel
theorem dX9_run_43 : decode cX9_run 43 = .ok (.getfield 30, 3) := by decide +kernel
theorem dX9_run_46 : decode cX9_run 46 = .ok (.iconst (-1), 1) := by decide +kernel
theorem dX9_run_47 : decode cX9_run 47 = .ok (.if_icmp .eq 11, 3) := by decide +kernel
theorem dX9_run_50 : decode cX9_run 50 = .ok (.new 101, 3) := by decide +kernel
theorem dX9_run_53 : decode cX9_run 53 = .ok (.dup, 1) := by decide +kernel
theorem dX9_run_54 : decode cX9_run 54 = .ok (.invokespecial 103, 3) := by decide +kernel
theorem dX9_run_57 : decode cX9_run 57 = .ok (.athrow, 1) := by decide +kernel
theorem dX9_run_58 : decode cX9_run 58 = .ok (.aload_n 0, 1) := by decide +kernel
theorem dX9_run_59 : decode cX9_run 59 = .ok (.aload_n 0, 1) := by decide +kernel
theorem dX9_run_60 : decode cX9_run 60 = .ok (.getfield 10, 3) := by decide +kernel
theorem dX9_run_63 : decode cX9_run 63 = .ok (.getfield 127, 3) := by decide +kernel
theorem dX9_run_66 : decode cX9_run 66 = .ok (.putfield 130, 3) := by decide +kernel
theorem dX9_run_69 : decode cX9_run 69 = .ok (.aload_n 0, 1) := by decide +kernel
theorem dX9_run_70 : decode cX9_run 70 = .ok (.aload_n 0, 1) := by decide +kernel
theorem dX9_run_71 : decode cX9_run 71 = .ok (.iconst 0, 1) := by decide +kernel
theorem dX9_run_72 : decode cX9_run 72 = .ok (.aload_n 0, 1) := by decide +kernel
theorem dX9_run_73 : decode cX9_run 73 = .ok (.getfield 26, 3) := by decide +kernel
theorem dX9_run_76 : decode cX9_run 76 = .ok (.getfield 107, 3) := by decide +kernel
theorem dX9_run_79 : decode cX9_run 79 = .ok (.iconst 0, 1) := by decide +kernel
theorem dX9_run_80 : decode cX9_run 80 = .ok (.invokevirtual 133, 3) := by decide +kernel
theorem dX9_run_83 : decode cX9_run 83 = .ok (.putfield 34, 3) := by decide +kernel
theorem dX9_run_86 : decode cX9_run 86 = .ok (.aload_n 0, 1) := by decide +kernel
theorem dX9_run_87 : decode cX9_run 87 = .ok (.getfield 10, 3) := by decide +kernel
theorem dX9_run_90 : decode cX9_run 90 = .ok (.getfield 127, 3) := by decide +kernel
theorem dX9_run_93 : decode cX9_run 93 = .ok (.aload_n 0, 1) := by decide +kernel
theorem dX9_run_94 : decode cX9_run 94 = .ok (.getfield 130, 3) := by decide +kernel
theorem dX9_run_97 : decode cX9_run 97 = .ok (.isub, 1) := by decide +kernel
theorem dX9_run_98 : decode cX9_run 98 = .ok (.ireturn, 1) := by decide +kernel
theorem dX9_errorPosition_0 : decode cX9_errorPosition 0 = .ok (.aload_n 0, 1) := by decide +kernel
theorem dX9_errorPosition_1 : decode cX9_errorPosition 1 = .ok (.getfield 30, 3) := by decide +kernel
theorem dX9_errorPosition_4 : decode cX9_errorPosition 4 = .ok (.ireturn, 1) := by decide +kernel
theorem dX9_endedBy_0 : decode cX9_endedBy 0 = .ok (.aload_n 0, 1) := by decide +kernel
theorem dX9_endedBy_1 : decode cX9_endedBy 1 = .ok (.getfield 34, 3) := by decide +kernel
theorem dX9_endedBy_4 : decode cX9_endedBy 4 = .ok (.ireturn, 1) := by decide +kernel
theorem dX9_nextIndex_0 : decode cX9_nextIndex 0 = .ok (.aload_n 0, 1) := by decide +kernel
theorem dX9_nextIndex_1 : decode cX9_nextIndex 1 = .ok (.getfield 10, 3) := by decide +kernel
theorem dX9_nextIndex_4 : decode cX9_nextIndex 4 = .ok (.getfield 110, 3) := by decide +kernel
theorem dX9_nextIndex_7 : decode cX9_nextIndex 7 = .ok (.invokevirtual 137, 3) := by decide +kernel
theorem dX9_nextIndex_10 : decode cX9_nextIndex 10 = .ok (.ireturn, 1) := by decide +kernel
theorem dX9_previousIndex_0 : decode cX9_previousIndex 0 = .ok (.aload_n 0, 1) := by decide +kernel
theorem dX9_previousIndex_1 : decode cX9_previousIndex 1 = .ok (.getfield 10, 3) := by decide +kernel
theorem dX9_previousIndex_4 : decode cX9_previousIndex 4 = .ok (.getfield 110, 3) := by decide +kernel
theorem dX9_previousIndex_7 : decode cX9_previousIndex 7 = .ok (.invokevirtual 137, 3) := by decide +kernel
theorem dX9_previousIndex_10 : decode cX9_previousIndex 10 = .ok (.iconst 1, 1) := by decide +kernel
theorem dX9_previousIndex_11 : decode cX9_previousIndex 11 = .ok (.isub, 1) := by decide +kernel
theorem dX9_previousIndex_12 : decode cX9_previousIndex 12 = .ok (.ireturn, 1) := by decide +kernel
theorem dX9_hasNext_0 : decode cX9_hasNext 0 = .ok (.aload_n 0, 1) := by decide +kernel
theorem dX9_hasNext_1 : decode cX9_hasNext 1 = .ok (.getfield 10, 3) := by decide +kernel
theorem dX9_hasNext_4 : decode cX9_hasNext 4 = .ok (.getfield 110, 3) := by decide +kernel
theorem dX9_hasNext_7 : decode cX9_hasNext 7 = .ok (.iconst 0, 1) := by decide +kernel
theorem dX9_hasNext_8 : decode cX9_hasNext 8 = .ok (.invokevirtual 140, 3) := by decide +kernel
theorem dX9_hasNext_11 : decode cX9_hasNext 11 = .ok (.ireturn, 1) := by decide +kernel
theorem dX9_hasPrevious_0 : decode cX9_hasPrevious 0 = .ok (.aload_n 0, 1) := by decide +kernel
theorem dX9_hasPrevious_1 : decode cX9_hasPrevious 1 = .ok (.getfield 10, 3) := by decide +kernel
theorem dX9_hasPrevious_4 : decode cX9_hasPrevious 4 = .ok (.getfield 110, 3) := by decide +kernel
theorem dX9_hasPrevious_7 : decode cX9_hasPrevious 7 = .ok (.iconst 1, 1) := by decide +kernel
theorem dX9_hasPrevious_8 : decode cX9_hasPrevious 8 = .ok (.invokevirtual 140, 3) := by decide +kernel
theorem dX9_hasPrevious_11 : decode cX9_hasPrevious 11 = .ok (.ireturn, 1) := by decide +kernel
theorem dX9_ahead_0 : decode cX9_ahead 0 = .ok (.aload_n 0, 1) := by decide +kernel
theorem dX9_ahead_1 : decode cX9_ahead 1 = .ok (.getfield 10, 3) := by decide +kernel
theorem dX9_ahead_4 : decode cX9_ahead 4 = .ok (.getfield 110, 3) := by decide +kernel
theorem dX9_ahead_7 : decode cX9_ahead 7 = .ok (.astore_n 2, 1) := by decide +kernel
theorem dX9_ahead_8 : decode cX9_ahead 8 = .ok (.iload_n 1, 1) := by decide +kernel
theorem dX9_ahead_9 : decode cX9_ahead 9 = .ok (.ifCond .lt 16, 3) := by decide +kernel
theorem dX9_ahead_12 : decode cX9_ahead 12 = .ok (.iload_n 1, 1) := by decide +kernel
theorem dX9_ahead_13 : decode cX9_ahead 13 = .ok (.aload_n 2, 1) := by decide +kernel
theorem dX9_ahead_14 : decode cX9_ahead 14 = .ok (.invokevirtual 122, 3) := by decide +kernel
theorem dX9_ahead_17 : decode cX9_ahead 17 = .ok (.aload_n 2, 1) := by decide +kernel
theorem dX9_ahead_18 : decode cX9_ahead 18 = .ok (.invokevirtual 137, 3) := by decide +kernel
theorem dX9_ahead_21 : decode cX9_ahead 21 = .ok (.isub, 1) := by decide +kernel
theorem dX9_ahead_22 : decode cX9_ahead 22 = .ok (.if_icmp .lt 5, 3) := by decide +kernel
theorem dX9_ahead_25 : decode cX9_ahead 25 = .ok (.iconst (-1), 1) := by decide +kernel
theorem dX9_ahead_26 : decode cX9_ahead 26 = .ok (.ireturn, 1) := by decide +kernel
theorem dX9_ahead_27 : decode cX9_ahead 27 = .ok (.aload_n 2, 1) := by decide +kernel
theorem dX9_ahead_28 : decode cX9_ahead 28 = .ok (.aload_n 2, 1) := by decide +kernel
theorem dX9_ahead_29 : decode cX9_ahead 29 = .ok (.invokevirtual 137, 3) := by decide +kernel
theorem dX9_ahead_32 : decode cX9_ahead 32 = .ok (.iload_n 1, 1) := by decide +kernel
theorem dX9_ahead_33 : decode cX9_ahead 33 = .ok (.iadd, 1) := by decide +kernel
theorem dX9_ahead_34 : decode cX9_ahead 34 = .ok (.invokevirtual 144, 3) := by decide +kernel
theorem dX9_ahead_37 : decode cX9_ahead 37 = .ok (.ireturn, 1) := by decide +kernel
theorem dX9_behind_0 : decode cX9_behind 0 = .ok (.aload_n 0, 1) := by decide +kernel
theorem dX9_behind_1 : decode cX9_behind 1 = .ok (.getfield 10, 3) := by decide +kernel
theorem dX9_behind_4 : decode cX9_behind 4 = .ok (.getfield 110, 3) := by decide +kernel
theorem dX9_behind_7 : decode cX9_behind 7 = .ok (.astore_n 2, 1) := by decide +kernel
theorem dX9_behind_8 : decode cX9_behind 8 = .ok (.iload_n 1, 1) := by decide +kernel
theorem dX9_behind_9 : decode cX9_behind 9 = .ok (.ifCond .lt 11, 3) := by decide +kernel
theorem dX9_behind_12 : decode cX9_behind 12 = .ok (.iload_n 1, 1) := by decide +kernel
theorem dX9_behind_13 : decode cX9_behind 13 = .ok (.aload_n 2, 1) := by decide +kernel
theorem dX9_behind_14 : decode cX9_behind 14 = .ok (.invokevirtual 137, 3) := by decide +kernel
theorem dX9_behind_17 : decode cX9_behind 17 = .ok (.if_icmp .lt 5, 3) := by decide +kernel
theorem dX9_behind_20 : decode cX9_behind 20 = .ok (.iconst (-1), 1) := by decide +kernel
theorem dX9_behind_21 : decode cX9_behind 21 = .ok (.ireturn, 1) := by decide +kernel
theorem dX9_behind_22 : decode cX9_behind 22 = .ok (.aload_n 2, 1) := by decide +kernel
theorem dX9_behind_23 : decode cX9_behind 23 = .ok (.aload_n 2, 1) := by decide +kernel
theorem dX9_behind_24 : decode cX9_behind 24 = .ok (.invokevirtual 137, 3) := by decide +kernel
theorem dX9_behind_27 : decode cX9_behind 27 = .ok (.iconst 1, 1) := by decide +kernel
theorem dX9_behind_28 : decode cX9_behind 28 = .ok (.isub, 1) := by decide +kernel
theorem dX9_behind_29 : decode cX9_behind 29 = .ok (.iload_n 1, 1) := by decide +kernel
theorem dX9_behind_30 : decode cX9_behind 30 = .ok (.isub, 1) := by decide +kernel
theorem dX9_behind_31 : decode cX9_behind 31 = .ok (.invokevirtual 144, 3) := by decide +kernel
theorem dX9_behind_34 : decode cX9_behind 34 = .ok (.ireturn, 1) := by decide +kernel
theorem dX9_given_0 : decode cX9_given 0 = .ok (.aload_n 0, 1) := by decide +kernel
theorem dX9_given_1 : decode cX9_given 1 = .ok (.getfield 10, 3) := by decide +kernel
theorem dX9_given_4 : decode cX9_given 4 = .ok (.getfield 110, 3) := by decide +kernel
theorem dX9_given_7 : decode cX9_given 7 = .ok (.invokevirtual 137, 3) := by decide +kernel
theorem dX9_given_10 : decode cX9_given 10 = .ok (.istore_n 1, 1) := by decide +kernel
theorem dX9_given_11 : decode cX9_given 11 = .ok (.aload_n 0, 1) := by decide +kernel
theorem dX9_given_12 : decode cX9_given 12 = .ok (.getfield 10, 3) := by decide +kernel
theorem dX9_given_15 : decode cX9_given 15 = .ok (.getfield 147, 3) := by decide +kernel
theorem dX9_given_18 : decode cX9_given 18 = .ok (.ifCond .ne 5, 3) := by decide +kernel
theorem dX9_given_21 : decode cX9_given 21 = .ok (.iconst (-1), 1) := by decide +kernel
theorem dX9_given_22 : decode cX9_given 22 = .ok (.ireturn, 1) := by decide +kernel
theorem dX9_given_23 : decode cX9_given 23 = .ok (.aload_n 0, 1) := by decide +kernel
theorem dX9_given_24 : decode cX9_given 24 = .ok (.getfield 10, 3) := by decide +kernel
theorem dX9_given_27 : decode cX9_given 27 = .ok (.getfield 110, 3) := by decide +kernel
theorem dX9_given_30 : decode cX9_given 30 = .ok (.aload_n 0, 1) := by decide +kernel
theorem dX9_given_31 : decode cX9_given 31 = .ok (.getfield 10, 3) := by decide +kernel
theorem dX9_given_34 : decode cX9_given 34 = .ok (.getfield 147, 3) := by decide +kernel
theorem dX9_given_37 : decode cX9_given 37 = .ok (.iconst 1, 1) := by decide +kernel
theorem dX9_given_38 : decode cX9_given 38 = .ok (.if_icmp .ne 9, 3) := by decide +kernel
theorem dX9_given_41 : decode cX9_given 41 = .ok (.iload_n 1, 1) := by decide +kernel
theorem dX9_given_42 : decode cX9_given 42 = .ok (.iconst 1, 1) := by decide +kernel
theorem dX9_given_43 : decode cX9_given 43 = .ok (.isub, 1) := by decide +kernel
theorem dX9_given_44 : decode cX9_given 44 = .ok (.goto 4, 3) := by decide +kernel
theorem dX9_given_47 : decode cX9_given 47 = .ok (.iload_n 1, 1) := by decide +kernel
theorem dX9_given_48 : decode cX9_given 48 = .ok (.invokevirtual 144, 3) := by decide +kernel
theorem dX9_given_51 : decode cX9_given 51 = .ok (.ireturn, 1) := by decide +kernel
theorem dX9_givenBy_0 : decode cX9_givenBy 0 = .ok (.aload_n 0, 1) := by decide +kernel
theorem dX9_givenBy_1 : decode cX9_givenBy 1 = .ok (.getfield 10, 3) := by decide +kernel
theorem dX9_givenBy_4 : decode cX9_givenBy 4 = .ok (.getfield 147, 3) := by decide +kernel
theorem dX9_givenBy_7 : decode cX9_givenBy 7 = .ok (.ireturn, 1) := by decide +kernel
theorem dX9_refusedNow_0 : decode cX9_refusedNow 0 = .ok (.aload_n 0, 1) := by decide +kernel
theorem dX9_refusedNow_1 : decode cX9_refusedNow 1 = .ok (.getfield 10, 3) := by decide +kernel
theorem dX9_refusedNow_4 : decode cX9_refusedNow 4 = .ok (.getfield 110, 3) := by decide +kernel
theorem dX9_refusedNow_7 : decode cX9_refusedNow 7 = .ok (.iconst 0, 1) := by decide +kernel
theorem dX9_refusedNow_8 : decode cX9_refusedNow 8 = .ok (.invokevirtual 140, 3) := by decide +kernel
theorem dX9_refusedNow_11 : decode cX9_refusedNow 11 = .ok (.ifCond .ne 7, 3) := by decide +kernel
theorem dX9_refusedNow_14 : decode cX9_refusedNow 14 = .ok (.iconst 1, 1) := by decide +kernel
theorem dX9_refusedNow_15 : decode cX9_refusedNow 15 = .ok (.goto 4, 3) := by decide +kernel
theorem dX9_refusedNow_18 : decode cX9_refusedNow 18 = .ok (.iconst 0, 1) := by decide +kernel
theorem dX9_refusedNow_19 : decode cX9_refusedNow 19 = .ok (.istore_n 1, 1) := by decide +kernel
theorem dX9_refusedNow_20 : decode cX9_refusedNow 20 = .ok (.aload_n 0, 1) := by decide +kernel
theorem dX9_refusedNow_21 : decode cX9_refusedNow 21 = .ok (.getfield 10, 3) := by decide +kernel
theorem dX9_refusedNow_24 : decode cX9_refusedNow 24 = .ok (.getfield 110, 3) := by decide +kernel
theorem dX9_refusedNow_27 : decode cX9_refusedNow 27 = .ok (.iconst 1, 1) := by decide +kernel
theorem dX9_refusedNow_28 : decode cX9_refusedNow 28 = .ok (.invokevirtual 140, 3) := by decide +kernel
theorem dX9_refusedNow_31 : decode cX9_refusedNow 31 = .ok (.ifCond .ne 7, 3) := by decide +kernel
theorem dX9_refusedNow_34 : decode cX9_refusedNow 34 = .ok (.iconst 1, 1) := by decide +kernel
theorem dX9_refusedNow_35 : decode cX9_refusedNow 35 = .ok (.goto 4, 3) := by decide +kernel
theorem dX9_refusedNow_38 : decode cX9_refusedNow 38 = .ok (.iconst 0, 1) := by decide +kernel
theorem dX9_refusedNow_39 : decode cX9_refusedNow 39 = .ok (.istore_n 2, 1) := by decide +kernel
theorem dX9_refusedNow_40 : decode cX9_refusedNow 40 = .ok (.iload_n 1, 1) := by decide +kernel
theorem dX9_refusedNow_41 : decode cX9_refusedNow 41 = .ok (.ifCond .eq 7, 3) := by decide +kernel
theorem dX9_refusedNow_44 : decode cX9_refusedNow 44 = .ok (.iconst 1, 1) := by decide +kernel
theorem dX9_refusedNow_45 : decode cX9_refusedNow 45 = .ok (.goto 4, 3) := by decide +kernel
theorem dX9_refusedNow_48 : decode cX9_refusedNow 48 = .ok (.iconst 0, 1) := by decide +kernel
theorem dX9_refusedNow_49 : decode cX9_refusedNow 49 = .ok (.istore_n 3, 1) := by decide +kernel
theorem dX9_refusedNow_50 : decode cX9_refusedNow 50 = .ok (.iload_n 3, 1) := by decide +kernel
theorem dX9_refusedNow_51 : decode cX9_refusedNow 51 = .ok (.iload_n 2, 1) := by decide +kernel
theorem dX9_refusedNow_52 : decode cX9_refusedNow 52 = .ok (.ifCond .eq 7, 3) := by decide +kernel
theorem dX9_refusedNow_55 : decode cX9_refusedNow 55 = .ok (.iconst 2, 1) := by decide +kernel
theorem dX9_refusedNow_56 : decode cX9_refusedNow 56 = .ok (.goto 4, 3) := by decide +kernel
theorem dX9_refusedNow_59 : decode cX9_refusedNow 59 = .ok (.iconst 0, 1) := by decide +kernel
theorem dX9_refusedNow_60 : decode cX9_refusedNow 60 = .ok (.iadd, 1) := by decide +kernel
theorem dX9_refusedNow_61 : decode cX9_refusedNow 61 = .ok (.istore_n 3, 1) := by decide +kernel
theorem dX9_refusedNow_62 : decode cX9_refusedNow 62 = .ok (.iload_n 3, 1) := by decide +kernel
theorem dX9_refusedNow_63 : decode cX9_refusedNow 63 = .ok (.aload_n 0, 1) := by decide +kernel
theorem dX9_refusedNow_64 : decode cX9_refusedNow 64 = .ok (.getfield 10, 3) := by decide +kernel
theorem dX9_refusedNow_67 : decode cX9_refusedNow 67 = .ok (.getfield 110, 3) := by decide +kernel
theorem dX9_refusedNow_70 : decode cX9_refusedNow 70 = .ok (.invokevirtual 122, 3) := by decide +kernel
theorem dX9_refusedNow_73 : decode cX9_refusedNow 73 = .ok (.bipush 100, 2) := by decide +kernel
theorem dX9_refusedNow_75 : decode cX9_refusedNow 75 = .ok (.if_icmp .lt 7, 3) := by decide +kernel
theorem dX9_refusedNow_78 : decode cX9_refusedNow 78 = .ok (.iconst 4, 1) := by decide +kernel
theorem dX9_refusedNow_79 : decode cX9_refusedNow 79 = .ok (.goto 4, 3) := by decide +kernel
theorem dX9_refusedNow_82 : decode cX9_refusedNow 82 = .ok (.iconst 0, 1) := by decide +kernel
theorem dX9_refusedNow_83 : decode cX9_refusedNow 83 = .ok (.iadd, 1) := by decide +kernel
theorem dX9_refusedNow_84 : decode cX9_refusedNow 84 = .ok (.istore_n 3, 1) := by decide +kernel
theorem dX9_refusedNow_85 : decode cX9_refusedNow 85 = .ok (.iload_n 3, 1) := by decide +kernel
theorem dX9_refusedNow_86 : decode cX9_refusedNow 86 = .ok (.aload_n 0, 1) := by decide +kernel
theorem dX9_refusedNow_87 : decode cX9_refusedNow 87 = .ok (.getfield 10, 3) := by decide +kernel
theorem dX9_refusedNow_90 : decode cX9_refusedNow 90 = .ok (.getfield 147, 3) := by decide +kernel
theorem dX9_refusedNow_93 : decode cX9_refusedNow 93 = .ok (.ifCond .ne 8, 3) := by decide +kernel
theorem dX9_refusedNow_96 : decode cX9_refusedNow 96 = .ok (.bipush 8, 2) := by decide +kernel
theorem dX9_refusedNow_98 : decode cX9_refusedNow 98 = .ok (.goto 4, 3) := by decide +kernel
theorem dX9_refusedNow_101 : decode cX9_refusedNow 101 = .ok (.iconst 0, 1) := by decide +kernel
theorem dX9_refusedNow_102 : decode cX9_refusedNow 102 = .ok (.iadd, 1) := by decide +kernel
theorem dX9_refusedNow_103 : decode cX9_refusedNow 103 = .ok (.istore_n 3, 1) := by decide +kernel
theorem dX9_refusedNow_104 : decode cX9_refusedNow 104 = .ok (.iload_n 3, 1) := by decide +kernel
theorem dX9_refusedNow_105 : decode cX9_refusedNow 105 = .ok (.iload_n 1, 1) := by decide +kernel
theorem dX9_refusedNow_106 : decode cX9_refusedNow 106 = .ok (.ifCond .ne 7, 3) := by decide +kernel
theorem dX9_refusedNow_109 : decode cX9_refusedNow 109 = .ok (.iload_n 2, 1) := by decide +kernel
theorem dX9_refusedNow_110 : decode cX9_refusedNow 110 = .ok (.ifCond .eq 8, 3) := by decide +kernel
theorem dX9_refusedNow_113 : decode cX9_refusedNow 113 = .ok (.bipush 16, 2) := by decide +kernel
theorem dX9_refusedNow_115 : decode cX9_refusedNow 115 = .ok (.goto 4, 3) := by decide +kernel
theorem dX9_refusedNow_118 : decode cX9_refusedNow 118 = .ok (.iconst 0, 1) := by decide +kernel
theorem dX9_refusedNow_119 : decode cX9_refusedNow 119 = .ok (.iadd, 1) := by decide +kernel
theorem dX9_refusedNow_120 : decode cX9_refusedNow 120 = .ok (.istore_n 3, 1) := by decide +kernel
theorem dX9_refusedNow_121 : decode cX9_refusedNow 121 = .ok (.iload_n 3, 1) := by decide +kernel
theorem dX9_refusedNow_122 : decode cX9_refusedNow 122 = .ok (.ireturn, 1) := by decide +kernel
theorem dX9_size_0 : decode cX9_size 0 = .ok (.aload_n 0, 1) := by decide +kernel
theorem dX9_size_1 : decode cX9_size 1 = .ok (.getfield 10, 3) := by decide +kernel
theorem dX9_size_4 : decode cX9_size 4 = .ok (.getfield 110, 3) := by decide +kernel
theorem dX9_size_7 : decode cX9_size 7 = .ok (.invokevirtual 122, 3) := by decide +kernel
theorem dX9_size_10 : decode cX9_size 10 = .ok (.ireturn, 1) := by decide +kernel
theorem dX9_wordAt_0 : decode cX9_wordAt 0 = .ok (.iload_n 1, 1) := by decide +kernel
theorem dX9_wordAt_1 : decode cX9_wordAt 1 = .ok (.ifCond .lt 17, 3) := by decide +kernel
theorem dX9_wordAt_4 : decode cX9_wordAt 4 = .ok (.iload_n 1, 1) := by decide +kernel
theorem dX9_wordAt_5 : decode cX9_wordAt 5 = .ok (.aload_n 0, 1) := by decide +kernel
theorem dX9_wordAt_6 : decode cX9_wordAt 6 = .ok (.getfield 10, 3) := by decide +kernel
theorem dX9_wordAt_9 : decode cX9_wordAt 9 = .ok (.getfield 110, 3) := by decide +kernel
theorem dX9_wordAt_12 : decode cX9_wordAt 12 = .ok (.invokevirtual 122, 3) := by decide +kernel
theorem dX9_wordAt_15 : decode cX9_wordAt 15 = .ok (.if_icmp .lt 11, 3) := by decide +kernel
theorem dX9_wordAt_18 : decode cX9_wordAt 18 = .ok (.new 150, 3) := by decide +kernel
theorem dX9_wordAt_21 : decode cX9_wordAt 21 = .ok (.dup, 1) := by decide +kernel
theorem dX9_wordAt_22 : decode cX9_wordAt 22 = .ok (.invokespecial 152, 3) := by decide +kernel
theorem dX9_wordAt_25 : decode cX9_wordAt 25 = .ok (.athrow, 1) := by decide +kernel
theorem dX9_wordAt_26 : decode cX9_wordAt 26 = .ok (.aload_n 0, 1) := by decide +kernel
theorem dX9_wordAt_27 : decode cX9_wordAt 27 = .ok (.getfield 10, 3) := by decide +kernel
theorem dX9_wordAt_30 : decode cX9_wordAt 30 = .ok (.getfield 110, 3) := by decide +kernel
theorem dX9_wordAt_33 : decode cX9_wordAt 33 = .ok (.iload_n 1, 1) := by decide +kernel
theorem dX9_wordAt_34 : decode cX9_wordAt 34 = .ok (.invokevirtual 144, 3) := by decide +kernel
theorem dX9_wordAt_37 : decode cX9_wordAt 37 = .ok (.ireturn, 1) := by decide +kernel
theorem dX9_indexOf_0 : decode cX9_indexOf 0 = .ok (.iload_n 1, 1) := by decide +kernel
theorem dX9_indexOf_1 : decode cX9_indexOf 1 = .ok (.invokestatic 45, 3) := by decide +kernel
theorem dX9_indexOf_4 : decode cX9_indexOf 4 = .ok (.aload_n 0, 1) := by decide +kernel
theorem dX9_indexOf_5 : decode cX9_indexOf 5 = .ok (.iload_n 1, 1) := by decide +kernel
theorem dX9_indexOf_6 : decode cX9_indexOf 6 = .ok (.invokevirtual 153, 3) := by decide +kernel
theorem dX9_indexOf_9 : decode cX9_indexOf 9 = .ok (.ireturn, 1) := by decide +kernel
theorem dX9_lastIndexOf_0 : decode cX9_lastIndexOf 0 = .ok (.iload_n 1, 1) := by decide +kernel
theorem dX9_lastIndexOf_1 : decode cX9_lastIndexOf 1 = .ok (.invokestatic 45, 3) := by decide +kernel
theorem dX9_lastIndexOf_4 : decode cX9_lastIndexOf 4 = .ok (.aload_n 0, 1) := by decide +kernel
theorem dX9_lastIndexOf_5 : decode cX9_lastIndexOf 5 = .ok (.getfield 10, 3) := by decide +kernel
theorem dX9_lastIndexOf_8 : decode cX9_lastIndexOf 8 = .ok (.getfield 110, 3) := by decide +kernel
theorem dX9_lastIndexOf_11 : decode cX9_lastIndexOf 11 = .ok (.invokevirtual 122, 3) := by decide +kernel
theorem dX9_lastIndexOf_14 : decode cX9_lastIndexOf 14 = .ok (.iconst 1, 1) := by decide +kernel
theorem dX9_lastIndexOf_15 : decode cX9_lastIndexOf 15 = .ok (.isub, 1) := by decide +kernel
theorem dX9_lastIndexOf_16 : decode cX9_lastIndexOf 16 = .ok (.istore_n 2, 1) := by decide +kernel
theorem dX9_lastIndexOf_17 : decode cX9_lastIndexOf 17 = .ok (.iload_n 2, 1) := by decide +kernel
theorem dX9_lastIndexOf_18 : decode cX9_lastIndexOf 18 = .ok (.ifCond .lt 26, 3) := by decide +kernel
theorem dX9_lastIndexOf_21 : decode cX9_lastIndexOf 21 = .ok (.aload_n 0, 1) := by decide +kernel
theorem dX9_lastIndexOf_22 : decode cX9_lastIndexOf 22 = .ok (.getfield 10, 3) := by decide +kernel
theorem dX9_lastIndexOf_25 : decode cX9_lastIndexOf 25 = .ok (.getfield 110, 3) := by decide +kernel
theorem dX9_lastIndexOf_28 : decode cX9_lastIndexOf 28 = .ok (.iload_n 2, 1) := by decide +kernel
theorem dX9_lastIndexOf_29 : decode cX9_lastIndexOf 29 = .ok (.invokevirtual 144, 3) := by decide +kernel
theorem dX9_lastIndexOf_32 : decode cX9_lastIndexOf 32 = .ok (.iload_n 1, 1) := by decide +kernel
theorem dX9_lastIndexOf_33 : decode cX9_lastIndexOf 33 = .ok (.if_icmp .ne 5, 3) := by decide +kernel
theorem dX9_lastIndexOf_36 : decode cX9_lastIndexOf 36 = .ok (.iload_n 2, 1) := by decide +kernel
theorem dX9_lastIndexOf_37 : decode cX9_lastIndexOf 37 = .ok (.ireturn, 1) := by decide +kernel
theorem dX9_lastIndexOf_38 : decode cX9_lastIndexOf 38 = .ok (.iinc 2 (-1), 3) := by decide +kernel
theorem dX9_lastIndexOf_41 : decode cX9_lastIndexOf 41 = .ok (.goto (-24), 3) := by decide +kernel
theorem dX9_lastIndexOf_44 : decode cX9_lastIndexOf 44 = .ok (.iconst (-1), 1) := by decide +kernel
theorem dX9_lastIndexOf_45 : decode cX9_lastIndexOf 45 = .ok (.ireturn, 1) := by decide +kernel
theorem dX9_count_0 : decode cX9_count 0 = .ok (.iload_n 1, 1) := by decide +kernel
theorem dX9_count_1 : decode cX9_count 1 = .ok (.invokestatic 45, 3) := by decide +kernel
theorem dX9_count_4 : decode cX9_count 4 = .ok (.iconst 0, 1) := by decide +kernel
theorem dX9_count_5 : decode cX9_count 5 = .ok (.istore_n 2, 1) := by decide +kernel
theorem dX9_count_6 : decode cX9_count 6 = .ok (.iconst 0, 1) := by decide +kernel
theorem dX9_count_7 : decode cX9_count 7 = .ok (.istore_n 3, 1) := by decide +kernel
theorem dX9_count_8 : decode cX9_count 8 = .ok (.iload_n 3, 1) := by decide +kernel
theorem dX9_count_9 : decode cX9_count 9 = .ok (.aload_n 0, 1) := by decide +kernel
theorem dX9_count_10 : decode cX9_count 10 = .ok (.getfield 10, 3) := by decide +kernel
theorem dX9_count_13 : decode cX9_count 13 = .ok (.getfield 110, 3) := by decide +kernel
theorem dX9_count_16 : decode cX9_count 16 = .ok (.invokevirtual 122, 3) := by decide +kernel
theorem dX9_count_19 : decode cX9_count 19 = .ok (.if_icmp .ge 27, 3) := by decide +kernel
theorem dX9_count_22 : decode cX9_count 22 = .ok (.aload_n 0, 1) := by decide +kernel
theorem dX9_count_23 : decode cX9_count 23 = .ok (.getfield 10, 3) := by decide +kernel
theorem dX9_count_26 : decode cX9_count 26 = .ok (.getfield 110, 3) := by decide +kernel
theorem dX9_count_29 : decode cX9_count 29 = .ok (.iload_n 3, 1) := by decide +kernel
theorem dX9_count_30 : decode cX9_count 30 = .ok (.invokevirtual 144, 3) := by decide +kernel
theorem dX9_count_33 : decode cX9_count 33 = .ok (.iload_n 1, 1) := by decide +kernel
theorem dX9_count_34 : decode cX9_count 34 = .ok (.if_icmp .ne 6, 3) := by decide +kernel
theorem dX9_count_37 : decode cX9_count 37 = .ok (.iinc 2 1, 3) := by decide +kernel
theorem dX9_count_40 : decode cX9_count 40 = .ok (.iinc 3 1, 3) := by decide +kernel
theorem dX9_count_43 : decode cX9_count 43 = .ok (.goto (-35), 3) := by decide +kernel
theorem dX9_count_46 : decode cX9_count 46 = .ok (.iload_n 2, 1) := by decide +kernel
theorem dX9_count_47 : decode cX9_count 47 = .ok (.ireturn, 1) := by decide +kernel
theorem dX9_unlike_0 : decode cX9_unlike 0 = .ok (.iconst 0, 1) := by decide +kernel
theorem dX9_unlike_1 : decode cX9_unlike 1 = .ok (.istore_n 1, 1) := by decide +kernel
theorem dX9_unlike_2 : decode cX9_unlike 2 = .ok (.iconst 0, 1) := by decide +kernel
theorem dX9_unlike_3 : decode cX9_unlike 3 = .ok (.istore_n 2, 1) := by decide +kernel
theorem dX9_unlike_4 : decode cX9_unlike 4 = .ok (.iload_n 2, 1) := by decide +kernel
theorem dX9_unlike_5 : decode cX9_unlike 5 = .ok (.aload_n 0, 1) := by decide +kernel
theorem dX9_unlike_6 : decode cX9_unlike 6 = .ok (.getfield 10, 3) := by decide +kernel
theorem dX9_unlike_9 : decode cX9_unlike 9 = .ok (.getfield 110, 3) := by decide +kernel
theorem dX9_unlike_12 : decode cX9_unlike 12 = .ok (.invokevirtual 122, 3) := by decide +kernel
theorem dX9_unlike_15 : decode cX9_unlike 15 = .ok (.if_icmp .ge 31, 3) := by decide +kernel
theorem dX9_unlike_18 : decode cX9_unlike 18 = .ok (.aload_n 0, 1) := by decide +kernel
theorem dX9_unlike_19 : decode cX9_unlike 19 = .ok (.aload_n 0, 1) := by decide +kernel
theorem dX9_unlike_20 : decode cX9_unlike 20 = .ok (.getfield 10, 3) := by decide +kernel
theorem dX9_unlike_23 : decode cX9_unlike 23 = .ok (.getfield 110, 3) := by decide +kernel
theorem dX9_unlike_26 : decode cX9_unlike 26 = .ok (.iload_n 2, 1) := by decide +kernel
theorem dX9_unlike_27 : decode cX9_unlike 27 = .ok (.invokevirtual 144, 3) := by decide +kernel
theorem dX9_unlike_30 : decode cX9_unlike 30 = .ok (.invokevirtual 153, 3) := by decide +kernel
theorem dX9_unlike_33 : decode cX9_unlike 33 = .ok (.iload_n 2, 1) := by decide +kernel
theorem dX9_unlike_34 : decode cX9_unlike 34 = .ok (.if_icmp .ne 6, 3) := by decide +kernel
theorem dX9_unlike_37 : decode cX9_unlike 37 = .ok (.iinc 1 1, 3) := by decide +kernel
theorem dX9_unlike_40 : decode cX9_unlike 40 = .ok (.iinc 2 1, 3) := by decide +kernel
theorem dX9_unlike_43 : decode cX9_unlike 43 = .ok (.goto (-39), 3) := by decide +kernel
theorem dX9_unlike_46 : decode cX9_unlike 46 = .ok (.iload_n 1, 1) := by decide +kernel
theorem dX9_unlike_47 : decode cX9_unlike 47 = .ok (.ireturn, 1) := by decide +kernel
theorem dX9_clear_0 : decode cX9_clear 0 = .ok (.aload_n 0, 1) := by decide +kernel
theorem dX9_clear_1 : decode cX9_clear 1 = .ok (.getfield 10, 3) := by decide +kernel
theorem dX9_clear_4 : decode cX9_clear 4 = .ok (.getfield 110, 3) := by decide +kernel
theorem dX9_clear_7 : decode cX9_clear 7 = .ok (.invokevirtual 122, 3) := by decide +kernel
theorem dX9_clear_10 : decode cX9_clear 10 = .ok (.istore_n 1, 1) := by decide +kernel
theorem dX9_clear_11 : decode cX9_clear 11 = .ok (.aload_n 0, 1) := by decide +kernel
theorem dX9_clear_12 : decode cX9_clear 12 = .ok (.getfield 10, 3) := by decide +kernel
theorem dX9_clear_15 : decode cX9_clear 15 = .ok (.invokevirtual 104, 3) := by decide +kernel
theorem dX9_clear_18 : decode cX9_clear 18 = .ok (.iload_n 1, 1) := by decide +kernel
theorem dX9_clear_19 : decode cX9_clear 19 = .ok (.ireturn, 1) := by decide +kernel
theorem dX9_write_0 : decode cX9_write 0 = .ok (.aload_n 0, 1) := by decide +kernel
theorem dX9_write_1 : decode cX9_write 1 = .ok (.iconst 0, 1) := by decide +kernel
theorem dX9_write_2 : decode cX9_write 2 = .ok (.putfield 156, 3) := by decide +kernel
theorem dX9_write_5 : decode cX9_write 5 = .ok (.aload_n 0, 1) := by decide +kernel
theorem dX9_write_6 : decode cX9_write 6 = .ok (.getfield 10, 3) := by decide +kernel
theorem dX9_write_9 : decode cX9_write 9 = .ok (.getfield 110, 3) := by decide +kernel
theorem dX9_write_12 : decode cX9_write 12 = .ok (.invokevirtual 137, 3) := by decide +kernel
theorem dX9_write_15 : decode cX9_write 15 = .ok (.istore_n 1, 1) := by decide +kernel
theorem dX9_write_16 : decode cX9_write 16 = .ok (.iconst 0, 1) := by decide +kernel
theorem dX9_write_17 : decode cX9_write 17 = .ok (.istore_n 2, 1) := by decide +kernel
theorem dX9_write_18 : decode cX9_write 18 = .ok (.iload_n 2, 1) := by decide +kernel
theorem dX9_write_19 : decode cX9_write 19 = .ok (.iload_n 1, 1) := by decide +kernel
theorem dX9_write_20 : decode cX9_write 20 = .ok (.if_icmp .ge 30, 3) := by decide +kernel
theorem dX9_write_23 : decode cX9_write 23 = .ok (.aload_n 0, 1) := by decide +kernel
theorem dX9_write_24 : decode cX9_write 24 = .ok (.aload_n 0, 1) := by decide +kernel
theorem dX9_write_25 : decode cX9_write 25 = .ok (.getfield 10, 3) := by decide +kernel
theorem dX9_write_28 : decode cX9_write 28 = .ok (.getfield 110, 3) := by decide +kernel
theorem dX9_write_31 : decode cX9_write 31 = .ok (.iload_n 2, 1) := by decide +kernel
theorem dX9_write_32 : decode cX9_write 32 = .ok (.invokevirtual 144, 3) := by decide +kernel
theorem dX9_write_35 : decode cX9_write 35 = .ok (.invokevirtual 159, 3) := by decide +kernel
theorem dX9_write_38 : decode cX9_write 38 = .ok (.aload_n 0, 1) := by decide +kernel
theorem dX9_write_39 : decode cX9_write 39 = .ok (.bipush 32, 2) := by decide +kernel
theorem dX9_write_41 : decode cX9_write 41 = .ok (.invokevirtual 162, 3) := by decide +kernel
theorem dX9_write_44 : decode cX9_write 44 = .ok (.iinc 2 1, 3) := by decide +kernel
theorem dX9_write_47 : decode cX9_write 47 = .ok (.goto (-29), 3) := by decide +kernel
theorem dX9_write_50 : decode cX9_write 50 = .ok (.aload_n 0, 1) := by decide +kernel
theorem dX9_write_51 : decode cX9_write 51 = .ok (.bipush 124, 2) := by decide +kernel
theorem dX9_write_53 : decode cX9_write 53 = .ok (.invokevirtual 162, 3) := by decide +kernel
theorem dX9_write_56 : decode cX9_write 56 = .ok (.iload_n 1, 1) := by decide +kernel
theorem dX9_write_57 : decode cX9_write 57 = .ok (.istore_n 2, 1) := by decide +kernel
theorem dX9_write_58 : decode cX9_write 58 = .ok (.iload_n 2, 1) := by decide +kernel
theorem dX9_write_59 : decode cX9_write 59 = .ok (.aload_n 0, 1) := by decide +kernel
theorem dX9_write_60 : decode cX9_write 60 = .ok (.getfield 10, 3) := by decide +kernel
theorem dX9_write_63 : decode cX9_write 63 = .ok (.getfield 110, 3) := by decide +kernel
theorem dX9_write_66 : decode cX9_write 66 = .ok (.invokevirtual 122, 3) := by decide +kernel
theorem dX9_write_69 : decode cX9_write 69 = .ok (.if_icmp .ge 30, 3) := by decide +kernel
theorem dX9_write_72 : decode cX9_write 72 = .ok (.aload_n 0, 1) := by decide +kernel
theorem dX9_write_73 : decode cX9_write 73 = .ok (.bipush 32, 2) := by decide +kernel
theorem dX9_write_75 : decode cX9_write 75 = .ok (.invokevirtual 162, 3) := by decide +kernel
theorem dX9_write_78 : decode cX9_write 78 = .ok (.aload_n 0, 1) := by decide +kernel
theorem dX9_write_79 : decode cX9_write 79 = .ok (.aload_n 0, 1) := by decide +kernel
theorem dX9_write_80 : decode cX9_write 80 = .ok (.getfield 10, 3) := by decide +kernel
theorem dX9_write_83 : decode cX9_write 83 = .ok (.getfield 110, 3) := by decide +kernel
theorem dX9_write_86 : decode cX9_write 86 = .ok (.iload_n 2, 1) := by decide +kernel
theorem dX9_write_87 : decode cX9_write 87 = .ok (.invokevirtual 144, 3) := by decide +kernel
theorem dX9_write_90 : decode cX9_write 90 = .ok (.invokevirtual 159, 3) := by decide +kernel
theorem dX9_write_93 : decode cX9_write 93 = .ok (.iinc 2 1, 3) := by decide +kernel
theorem dX9_write_96 : decode cX9_write 96 = .ok (.goto (-38), 3) := by decide +kernel
theorem dX9_write_99 : decode cX9_write 99 = .ok (.aload_n 0, 1) := by decide +kernel
theorem dX9_write_100 : decode cX9_write 100 = .ok (.getfield 156, 3) := by decide +kernel
theorem dX9_write_103 : decode cX9_write 103 = .ok (.ireturn, 1) := by decide +kernel
theorem dX9_writtenAt_0 : decode cX9_writtenAt 0 = .ok (.iload_n 1, 1) := by decide +kernel
theorem dX9_writtenAt_1 : decode cX9_writtenAt 1 = .ok (.ifCond .lt 11, 3) := by decide +kernel
theorem dX9_writtenAt_4 : decode cX9_writtenAt 4 = .ok (.iload_n 1, 1) := by decide +kernel
theorem dX9_writtenAt_5 : decode cX9_writtenAt 5 = .ok (.aload_n 0, 1) := by decide +kernel
theorem dX9_writtenAt_6 : decode cX9_writtenAt 6 = .ok (.getfield 156, 3) := by decide +kernel
theorem dX9_writtenAt_9 : decode cX9_writtenAt 9 = .ok (.if_icmp .lt 11, 3) := by decide +kernel
theorem dX9_writtenAt_12 : decode cX9_writtenAt 12 = .ok (.new 150, 3) := by decide +kernel
theorem dX9_writtenAt_15 : decode cX9_writtenAt 15 = .ok (.dup, 1) := by decide +kernel
theorem dX9_writtenAt_16 : decode cX9_writtenAt 16 = .ok (.invokespecial 152, 3) := by decide +kernel
theorem dX9_writtenAt_19 : decode cX9_writtenAt 19 = .ok (.athrow, 1) := by decide +kernel
theorem dX9_writtenAt_20 : decode cX9_writtenAt 20 = .ok (.aload_n 0, 1) := by decide +kernel
theorem dX9_writtenAt_21 : decode cX9_writtenAt 21 = .ok (.getfield 37, 3) := by decide +kernel
theorem dX9_writtenAt_24 : decode cX9_writtenAt 24 = .ok (.iload_n 1, 1) := by decide +kernel
theorem dX9_writtenAt_25 : decode cX9_writtenAt 25 = .ok (.caload, 1) := by decide +kernel
theorem dX9_writtenAt_26 : decode cX9_writtenAt 26 = .ok (.ireturn, 1) := by decide +kernel
theorem dX9_refusals_0 : decode cX9_refusals 0 = .ok (.iload_n 1, 1) := by decide +kernel
theorem dX9_refusals_1 : decode cX9_refusals 1 = .ok (.bipush (-2), 2) := by decide +kernel
theorem dX9_refusals_3 : decode cX9_refusals 3 = .ok (.if_icmp .gt 9, 3) := by decide +kernel
theorem dX9_refusals_6 : decode cX9_refusals 6 = .ok (.iload_n 1, 1) := by decide +kernel
theorem dX9_refusals_7 : decode cX9_refusals 7 = .ok (.bipush (-5), 2) := by decide +kernel
theorem dX9_refusals_9 : decode cX9_refusals 9 = .ok (.if_icmp .ge 11, 3) := by decide +kernel
theorem dX9_refusals_12 : decode cX9_refusals 12 = .ok (.new 101, 3) := by decide +kernel
theorem dX9_refusals_15 : decode cX9_refusals 15 = .ok (.dup, 1) := by decide +kernel
theorem dX9_refusals_16 : decode cX9_refusals 16 = .ok (.invokespecial 103, 3) := by decide +kernel
theorem dX9_refusals_19 : decode cX9_refusals 19 = .ok (.athrow, 1) := by decide +kernel
theorem dX9_refusals_20 : decode cX9_refusals 20 = .ok (.aload_n 0, 1) := by decide +kernel
theorem dX9_refusals_21 : decode cX9_refusals 21 = .ok (.getfield 10, 3) := by decide +kernel
theorem dX9_refusals_24 : decode cX9_refusals 24 = .ok (.getfield 166, 3) := by decide +kernel
theorem dX9_refusals_27 : decode cX9_refusals 27 = .ok (.bipush (-2), 2) := by decide +kernel
theorem dX9_refusals_29 : decode cX9_refusals 29 = .ok (.iload_n 1, 1) := by decide +kernel
theorem dX9_refusals_30 : decode cX9_refusals 30 = .ok (.isub, 1) := by decide +kernel
theorem dX9_refusals_31 : decode cX9_refusals 31 = .ok (.iaload, 1) := by decide +kernel
theorem dX9_refusals_32 : decode cX9_refusals 32 = .ok (.ireturn, 1) := by decide +kernel
theorem dX9_acts_0 : decode cX9_acts 0 = .ok (.aload_n 0, 1) := by decide +kernel
theorem dX9_acts_1 : decode cX9_acts 1 = .ok (.getfield 10, 3) := by decide +kernel
theorem dX9_acts_4 : decode cX9_acts 4 = .ok (.getfield 127, 3) := by decide +kernel
theorem dX9_acts_7 : decode cX9_acts 7 = .ok (.ireturn, 1) := by decide +kernel
theorem dX9_meanLetters_0 : decode cX9_meanLetters 0 = .ok (.aload_n 0, 1) := by decide +kernel
theorem dX9_meanLetters_1 : decode cX9_meanLetters 1 = .ok (.getfield 10, 3) := by decide +kernel
theorem dX9_meanLetters_4 : decode cX9_meanLetters 4 = .ok (.getfield 110, 3) := by decide +kernel
theorem dX9_meanLetters_7 : decode cX9_meanLetters 7 = .ok (.invokevirtual 122, 3) := by decide +kernel
theorem dX9_meanLetters_10 : decode cX9_meanLetters 10 = .ok (.istore_n 1, 1) := by decide +kernel
theorem dX9_meanLetters_11 : decode cX9_meanLetters 11 = .ok (.iload_n 1, 1) := by decide +kernel
theorem dX9_meanLetters_12 : decode cX9_meanLetters 12 = .ok (.ifCond .ne 5, 3) := by decide +kernel
theorem dX9_meanLetters_15 : decode cX9_meanLetters 15 = .ok (.dconst 0, 1) := by decide +kernel
theorem dX9_meanLetters_16 : decode cX9_meanLetters 16 = .ok (.dreturn, 1) := by decide +kernel
theorem dX9_meanLetters_17 : decode cX9_meanLetters 17 = .ok (.iconst 0, 1) := by decide +kernel
theorem dX9_meanLetters_18 : decode cX9_meanLetters 18 = .ok (.istore_n 2, 1) := by decide +kernel
theorem dX9_meanLetters_19 : decode cX9_meanLetters 19 = .ok (.iconst 0, 1) := by decide +kernel
theorem dX9_meanLetters_20 : decode cX9_meanLetters 20 = .ok (.istore_n 3, 1) := by decide +kernel
theorem dX9_meanLetters_21 : decode cX9_meanLetters 21 = .ok (.iload_n 3, 1) := by decide +kernel
theorem dX9_meanLetters_22 : decode cX9_meanLetters 22 = .ok (.iload_n 1, 1) := by decide +kernel
theorem dX9_meanLetters_23 : decode cX9_meanLetters 23 = .ok (.if_icmp .ge 26, 3) := by decide +kernel
theorem dX9_meanLetters_26 : decode cX9_meanLetters 26 = .ok (.iload_n 2, 1) := by decide +kernel
theorem dX9_meanLetters_27 : decode cX9_meanLetters 27 = .ok (.aload_n 0, 1) := by decide +kernel
theorem dX9_meanLetters_28 : decode cX9_meanLetters 28 = .ok (.getfield 10, 3) := by decide +kernel
theorem dX9_meanLetters_31 : decode cX9_meanLetters 31 = .ok (.getfield 110, 3) := by decide +kernel
theorem dX9_meanLetters_34 : decode cX9_meanLetters 34 = .ok (.iload_n 3, 1) := by decide +kernel
theorem dX9_meanLetters_35 : decode cX9_meanLetters 35 = .ok (.invokevirtual 144, 3) := by decide +kernel
theorem dX9_meanLetters_38 : decode cX9_meanLetters 38 = .ok (.invokestatic 170, 3) := by decide +kernel
theorem dX9_meanLetters_41 : decode cX9_meanLetters 41 = .ok (.iadd, 1) := by decide +kernel
theorem dX9_meanLetters_42 : decode cX9_meanLetters 42 = .ok (.istore_n 2, 1) := by decide +kernel
theorem dX9_meanLetters_43 : decode cX9_meanLetters 43 = .ok (.iinc 3 1, 3) := by decide +kernel
theorem dX9_meanLetters_46 : decode cX9_meanLetters 46 = .ok (.goto (-25), 3) := by decide +kernel
theorem dX9_meanLetters_49 : decode cX9_meanLetters 49 = .ok (.iload_n 2, 1) := by decide +kernel
theorem dX9_meanLetters_50 : decode cX9_meanLetters 50 = .ok (.i2d, 1) := by decide +kernel
theorem dX9_meanLetters_51 : decode cX9_meanLetters 51 = .ok (.iload_n 1, 1) := by decide +kernel
theorem dX9_meanLetters_52 : decode cX9_meanLetters 52 = .ok (.i2d, 1) := by decide +kernel
theorem dX9_meanLetters_53 : decode cX9_meanLetters 53 = .ok (.ddiv, 1) := by decide +kernel
theorem dX9_meanLetters_54 : decode cX9_meanLetters 54 = .ok (.dreturn, 1) := by decide +kernel
theorem dX9_caretShare_0 : decode cX9_caretShare 0 = .ok (.aload_n 0, 1) := by decide +kernel
theorem dX9_caretShare_1 : decode cX9_caretShare 1 = .ok (.getfield 10, 3) := by decide +kernel
theorem dX9_caretShare_4 : decode cX9_caretShare 4 = .ok (.getfield 110, 3) := by decide +kernel
theorem dX9_caretShare_7 : decode cX9_caretShare 7 = .ok (.invokevirtual 122, 3) := by decide +kernel
theorem dX9_caretShare_10 : decode cX9_caretShare 10 = .ok (.istore_n 1, 1) := by decide +kernel
theorem dX9_caretShare_11 : decode cX9_caretShare 11 = .ok (.iload_n 1, 1) := by decide +kernel
theorem dX9_caretShare_12 : decode cX9_caretShare 12 = .ok (.ifCond .ne 5, 3) := by decide +kernel
theorem dX9_caretShare_15 : decode cX9_caretShare 15 = .ok (.fconst 0, 1) := by decide +kernel
theorem dX9_caretShare_16 : decode cX9_caretShare 16 = .ok (.freturn, 1) := by decide +kernel
theorem dX9_caretShare_17 : decode cX9_caretShare 17 = .ok (.aload_n 0, 1) := by decide +kernel
theorem dX9_caretShare_18 : decode cX9_caretShare 18 = .ok (.getfield 10, 3) := by decide +kernel
theorem dX9_caretShare_21 : decode cX9_caretShare 21 = .ok (.getfield 110, 3) := by decide +kernel
theorem dX9_caretShare_24 : decode cX9_caretShare 24 = .ok (.invokevirtual 137, 3) := by decide +kernel
theorem dX9_caretShare_27 : decode cX9_caretShare 27 = .ok (.i2f, 1) := by decide +kernel
theorem dX9_caretShare_28 : decode cX9_caretShare 28 = .ok (.iload_n 1, 1) := by decide +kernel
theorem dX9_caretShare_29 : decode cX9_caretShare 29 = .ok (.i2f, 1) := by decide +kernel
theorem dX9_caretShare_30 : decode cX9_caretShare 30 = .ok (.fdiv, 1) := by decide +kernel
theorem dX9_caretShare_31 : decode cX9_caretShare 31 = .ok (.freturn, 1) := by decide +kernel
theorem dX9_agree_0 : decode cX9_agree 0 = .ok (.aload_n 0, 1) := by decide +kernel
theorem dX9_agree_1 : decode cX9_agree 1 = .ok (.getfield 10, 3) := by decide +kernel
theorem dX9_agree_4 : decode cX9_agree 4 = .ok (.getfield 110, 3) := by decide +kernel
theorem dX9_agree_7 : decode cX9_agree 7 = .ok (.invokevirtual 173, 3) := by decide +kernel
theorem dX9_agree_10 : decode cX9_agree 10 = .ok (.ireturn, 1) := by decide +kernel
theorem dX9_errors_0 : decode cX9_errors 0 = .ok (.aload_n 0, 1) := by decide +kernel
theorem dX9_errors_1 : decode cX9_errors 1 = .ok (.getfield 10, 3) := by decide +kernel
theorem dX9_errors_4 : decode cX9_errors 4 = .ok (.getfield 110, 3) := by decide +kernel
theorem dX9_errors_7 : decode cX9_errors 7 = .ok (.getfield 177, 3) := by decide +kernel
theorem dX9_errors_10 : decode cX9_errors 10 = .ok (.ireturn, 1) := by decide +kernel
theorem dX9_requireWord_0 : decode cX9_requireWord 0 = .ok (.iload_n 0, 1) := by decide +kernel
theorem dX9_requireWord_1 : decode cX9_requireWord 1 = .ok (.invokestatic 180, 3) := by decide +kernel
theorem dX9_requireWord_4 : decode cX9_requireWord 4 = .ok (.ifCond .ne 11, 3) := by decide +kernel
theorem dX9_requireWord_7 : decode cX9_requireWord 7 = .ok (.new 101, 3) := by decide +kernel
theorem dX9_requireWord_10 : decode cX9_requireWord 10 = .ok (.dup, 1) := by decide +kernel
theorem dX9_requireWord_11 : decode cX9_requireWord 11 = .ok (.invokespecial 103, 3) := by decide +kernel
theorem dX9_requireWord_14 : decode cX9_requireWord 14 = .ok (.athrow, 1) := by decide +kernel
theorem dX9_requireWord_15 : decode cX9_requireWord 15 = .ok (.return_, 1) := by decide +kernel
theorem dX9_isWord_0 : decode cX9_isWord 0 = .ok (.iload_n 0, 1) := by decide +kernel
theorem dX9_isWord_1 : decode cX9_isWord 1 = .ok (.iconst 1, 1) := by decide +kernel
theorem dX9_isWord_2 : decode cX9_isWord 2 = .ok (.if_icmp .lt 9, 3) := by decide +kernel
theorem dX9_isWord_5 : decode cX9_isWord 5 = .ok (.iload_n 0, 1) := by decide +kernel
theorem dX9_isWord_6 : decode cX9_isWord 6 = .ok (.ldc 184, 2) := by decide +kernel
theorem dX9_isWord_8 : decode cX9_isWord 8 = .ok (.if_icmp .le 5, 3) := by decide +kernel
theorem dX9_isWord_11 : decode cX9_isWord 11 = .ok (.iconst 0, 1) := by decide +kernel
theorem dX9_isWord_12 : decode cX9_isWord 12 = .ok (.ireturn, 1) := by decide +kernel
theorem dX9_isWord_13 : decode cX9_isWord 13 = .ok (.iload_n 0, 1) := by decide +kernel
theorem dX9_isWord_14 : decode cX9_isWord 14 = .ok (.istore_n 1, 1) := by decide +kernel
theorem dX9_isWord_15 : decode cX9_isWord 15 = .ok (.iload_n 1, 1) := by decide +kernel
theorem dX9_isWord_16 : decode cX9_isWord 16 = .ok (.ifCond .le 20, 3) := by decide +kernel
theorem dX9_isWord_19 : decode cX9_isWord 19 = .ok (.iload_n 1, 1) := by decide +kernel
theorem dX9_isWord_20 : decode cX9_isWord 20 = .ok (.bipush 27, 2) := by decide +kernel
theorem dX9_isWord_22 : decode cX9_isWord 22 = .ok (.irem, 1) := by decide +kernel
theorem dX9_isWord_23 : decode cX9_isWord 23 = .ok (.ifCond .ne 5, 3) := by decide +kernel
theorem dX9_isWord_26 : decode cX9_isWord 26 = .ok (.iconst 0, 1) := by decide +kernel
theorem dX9_isWord_27 : decode cX9_isWord 27 = .ok (.ireturn, 1) := by decide +kernel
theorem dX9_isWord_28 : decode cX9_isWord 28 = .ok (.iload_n 1, 1) := by decide +kernel
theorem dX9_isWord_29 : decode cX9_isWord 29 = .ok (.bipush 27, 2) := by decide +kernel
theorem dX9_isWord_31 : decode cX9_isWord 31 = .ok (.idiv, 1) := by decide +kernel
theorem dX9_isWord_32 : decode cX9_isWord 32 = .ok (.istore_n 1, 1) := by decide +kernel
theorem dX9_isWord_33 : decode cX9_isWord 33 = .ok (.goto (-18), 3) := by decide +kernel
theorem dX9_isWord_36 : decode cX9_isWord 36 = .ok (.iconst 1, 1) := by decide +kernel
theorem dX9_isWord_37 : decode cX9_isWord 37 = .ok (.ireturn, 1) := by decide +kernel
theorem dX9_lettersOf_0 : decode cX9_lettersOf 0 = .ok (.iconst 0, 1) := by decide +kernel
theorem dX9_lettersOf_1 : decode cX9_lettersOf 1 = .ok (.istore_n 1, 1) := by decide +kernel
theorem dX9_lettersOf_2 : decode cX9_lettersOf 2 = .ok (.iload_n 0, 1) := by decide +kernel
theorem dX9_lettersOf_3 : decode cX9_lettersOf 3 = .ok (.istore_n 2, 1) := by decide +kernel
theorem dX9_lettersOf_4 : decode cX9_lettersOf 4 = .ok (.iload_n 2, 1) := by decide +kernel
theorem dX9_lettersOf_5 : decode cX9_lettersOf 5 = .ok (.ifCond .le 14, 3) := by decide +kernel
theorem dX9_lettersOf_8 : decode cX9_lettersOf 8 = .ok (.iinc 1 1, 3) := by decide +kernel
theorem dX9_lettersOf_11 : decode cX9_lettersOf 11 = .ok (.iload_n 2, 1) := by decide +kernel
theorem dX9_lettersOf_12 : decode cX9_lettersOf 12 = .ok (.bipush 27, 2) := by decide +kernel
theorem dX9_lettersOf_14 : decode cX9_lettersOf 14 = .ok (.idiv, 1) := by decide +kernel
theorem dX9_lettersOf_15 : decode cX9_lettersOf 15 = .ok (.istore_n 2, 1) := by decide +kernel
theorem dX9_lettersOf_16 : decode cX9_lettersOf 16 = .ok (.goto (-12), 3) := by decide +kernel
theorem dX9_lettersOf_19 : decode cX9_lettersOf 19 = .ok (.iload_n 1, 1) := by decide +kernel
theorem dX9_lettersOf_20 : decode cX9_lettersOf 20 = .ok (.ireturn, 1) := by decide +kernel
theorem dX9_firstIndex_0 : decode cX9_firstIndex 0 = .ok (.iconst 0, 1) := by decide +kernel
theorem dX9_firstIndex_1 : decode cX9_firstIndex 1 = .ok (.istore_n 2, 1) := by decide +kernel
theorem dX9_firstIndex_2 : decode cX9_firstIndex 2 = .ok (.iload_n 2, 1) := by decide +kernel
theorem dX9_firstIndex_3 : decode cX9_firstIndex 3 = .ok (.aload_n 0, 1) := by decide +kernel
theorem dX9_firstIndex_4 : decode cX9_firstIndex 4 = .ok (.getfield 10, 3) := by decide +kernel
theorem dX9_firstIndex_7 : decode cX9_firstIndex 7 = .ok (.getfield 110, 3) := by decide +kernel
theorem dX9_firstIndex_10 : decode cX9_firstIndex 10 = .ok (.invokevirtual 122, 3) := by decide +kernel
theorem dX9_firstIndex_13 : decode cX9_firstIndex 13 = .ok (.if_icmp .ge 26, 3) := by decide +kernel
theorem dX9_firstIndex_16 : decode cX9_firstIndex 16 = .ok (.aload_n 0, 1) := by decide +kernel
theorem dX9_firstIndex_17 : decode cX9_firstIndex 17 = .ok (.getfield 10, 3) := by decide +kernel
theorem dX9_firstIndex_20 : decode cX9_firstIndex 20 = .ok (.getfield 110, 3) := by decide +kernel
theorem dX9_firstIndex_23 : decode cX9_firstIndex 23 = .ok (.iload_n 2, 1) := by decide +kernel
theorem dX9_firstIndex_24 : decode cX9_firstIndex 24 = .ok (.invokevirtual 144, 3) := by decide +kernel
theorem dX9_firstIndex_27 : decode cX9_firstIndex 27 = .ok (.iload_n 1, 1) := by decide +kernel
theorem dX9_firstIndex_28 : decode cX9_firstIndex 28 = .ok (.if_icmp .ne 5, 3) := by decide +kernel
theorem dX9_firstIndex_31 : decode cX9_firstIndex 31 = .ok (.iload_n 2, 1) := by decide +kernel
theorem dX9_firstIndex_32 : decode cX9_firstIndex 32 = .ok (.ireturn, 1) := by decide +kernel
theorem dX9_firstIndex_33 : decode cX9_firstIndex 33 = .ok (.iinc 2 1, 3) := by decide +kernel
theorem dX9_firstIndex_36 : decode cX9_firstIndex 36 = .ok (.goto (-34), 3) := by decide +kernel
theorem dX9_firstIndex_39 : decode cX9_firstIndex 39 = .ok (.iconst (-1), 1) := by decide +kernel
theorem dX9_firstIndex_40 : decode cX9_firstIndex 40 = .ok (.ireturn, 1) := by decide +kernel
theorem dX9_spell_0 : decode cX9_spell 0 = .ok (.ldc 185, 2) := by decide +kernel
theorem dX9_spell_2 : decode cX9_spell 2 = .ok (.istore_n 2, 1) := by decide +kernel
theorem dX9_spell_3 : decode cX9_spell 3 = .ok (.iload_n 2, 1) := by decide +kernel
theorem dX9_spell_4 : decode cX9_spell 4 = .ok (.ifCond .le 33, 3) := by decide +kernel
theorem dX9_spell_7 : decode cX9_spell 7 = .ok (.iload_n 1, 1) := by decide +kernel
theorem dX9_spell_8 : decode cX9_spell 8 = .ok (.iload_n 2, 1) := by decide +kernel
theorem dX9_spell_9 : decode cX9_spell 9 = .ok (.idiv, 1) := by decide +kernel
theorem dX9_spell_10 : decode cX9_spell 10 = .ok (.bipush 27, 2) := by decide +kernel
theorem dX9_spell_12 : decode cX9_spell 12 = .ok (.irem, 1) := by decide +kernel
theorem dX9_spell_13 : decode cX9_spell 13 = .ok (.istore_n 3, 1) := by decide +kernel
theorem dX9_spell_14 : decode cX9_spell 14 = .ok (.iload_n 3, 1) := by decide +kernel
theorem dX9_spell_15 : decode cX9_spell 15 = .ok (.ifCond .eq 14, 3) := by decide +kernel
theorem dX9_spell_18 : decode cX9_spell 18 = .ok (.aload_n 0, 1) := by decide +kernel
theorem dX9_spell_19 : decode cX9_spell 19 = .ok (.bipush 97, 2) := by decide +kernel
theorem dX9_spell_21 : decode cX9_spell 21 = .ok (.iload_n 3, 1) := by decide +kernel
theorem dX9_spell_22 : decode cX9_spell 22 = .ok (.iadd, 1) := by decide +kernel
theorem dX9_spell_23 : decode cX9_spell 23 = .ok (.iconst 1, 1) := by decide +kernel
theorem dX9_spell_24 : decode cX9_spell 24 = .ok (.isub, 1) := by decide +kernel
theorem dX9_spell_25 : decode cX9_spell 25 = .ok (.i2c, 1) := by decide +kernel
theorem dX9_spell_26 : decode cX9_spell 26 = .ok (.invokevirtual 162, 3) := by decide +kernel
theorem dX9_spell_29 : decode cX9_spell 29 = .ok (.iload_n 2, 1) := by decide +kernel
theorem dX9_spell_30 : decode cX9_spell 30 = .ok (.bipush 27, 2) := by decide +kernel
theorem dX9_spell_32 : decode cX9_spell 32 = .ok (.idiv, 1) := by decide +kernel
theorem dX9_spell_33 : decode cX9_spell 33 = .ok (.istore_n 2, 1) := by decide +kernel
theorem dX9_spell_34 : decode cX9_spell 34 = .ok (.goto (-31), 3) := by decide +kernel
theorem dX9_spell_37 : decode cX9_spell 37 = .ok (.return_, 1) := by decide +kernel
theorem dX9_put_0 : decode cX9_put 0 = .ok (.aload_n 0, 1) := by decide +kernel
theorem dX9_put_1 : decode cX9_put 1 = .ok (.getfield 156, 3) := by decide +kernel
theorem dX9_put_4 : decode cX9_put 4 = .ok (.aload_n 0, 1) := by decide +kernel
theorem dX9_put_5 : decode cX9_put 5 = .ok (.getfield 37, 3) := by decide +kernel
theorem dX9_put_8 : decode cX9_put 8 = .ok (.arraylength, 1) := by decide +kernel
theorem dX9_put_9 : decode cX9_put 9 = .ok (.if_icmp .ge 23, 3) := by decide +kernel
theorem dX9_put_12 : decode cX9_put 12 = .ok (.aload_n 0, 1) := by decide +kernel
theorem dX9_put_13 : decode cX9_put 13 = .ok (.getfield 37, 3) := by decide +kernel
theorem dX9_put_16 : decode cX9_put 16 = .ok (.aload_n 0, 1) := by decide +kernel
theorem dX9_put_17 : decode cX9_put 17 = .ok (.getfield 156, 3) := by decide +kernel
theorem dX9_put_20 : decode cX9_put 20 = .ok (.iload_n 1, 1) := by decide +kernel
theorem dX9_put_21 : decode cX9_put 21 = .ok (.castore, 1) := by decide +kernel
theorem dX9_put_22 : decode cX9_put 22 = .ok (.aload_n 0, 1) := by decide +kernel
theorem dX9_put_23 : decode cX9_put 23 = .ok (.dup, 1) := by decide +kernel
theorem dX9_put_24 : decode cX9_put 24 = .ok (.getfield 156, 3) := by decide +kernel
theorem dX9_put_27 : decode cX9_put 27 = .ok (.iconst 1, 1) := by decide +kernel
theorem dX9_put_28 : decode cX9_put 28 = .ok (.iadd, 1) := by decide +kernel
theorem dX9_put_29 : decode cX9_put 29 = .ok (.putfield 156, 3) := by decide +kernel
theorem dX9_put_32 : decode cX9_put 32 = .ok (.return_, 1) := by decide +kernel
theorem dX9_perform_0 : decode cX9_perform 0 = .ok (.iconst 0, 1) := by decide +kernel
theorem dX9_perform_1 : decode cX9_perform 1 = .ok (.istore 4, 2) := by decide +kernel
theorem dX9_perform_3 : decode cX9_perform 3 = .ok (.iload_n 1, 1) := by decide +kernel
theorem dX9_perform_4 : decode cX9_perform 4 = .ok (.istore 5, 2) := by decide +kernel
theorem dX9_perform_6 : decode cX9_perform 6 = .ok (.iload_n 1, 1) := by decide +kernel
theorem dX9_perform_7 : decode cX9_perform 7 = .ok (.istore 6, 2) := by decide +kernel
theorem dX9_perform_9 : decode cX9_perform 9 = .ok (.iload 6, 2) := by decide +kernel
theorem dX9_perform_11 : decode cX9_perform 11 = .ok (.iload_n 2, 1) := by decide +kernel
theorem dX9_perform_12 : decode cX9_perform 12 = .ok (.if_icmp .ge 99, 3) := by decide +kernel
theorem dX9_perform_15 : decode cX9_perform 15 = .ok (.iload 4, 2) := by decide +kernel
theorem dX9_perform_17 : decode cX9_perform 17 = .ok (.ifCond .ne 94, 3) := by decide +kernel
theorem dX9_perform_20 : decode cX9_perform 20 = .ok (.iload 6, 2) := by decide +kernel
theorem dX9_perform_22 : decode cX9_perform 22 = .ok (.iload 5, 2) := by decide +kernel
theorem dX9_perform_24 : decode cX9_perform 24 = .ok (.if_icmp .ne 81, 3) := by decide +kernel
theorem dX9_perform_27 : decode cX9_perform 27 = .ok (.aload_n 0, 1) := by decide +kernel
theorem dX9_perform_28 : decode cX9_perform 28 = .ok (.getfield 26, 3) := by decide +kernel
theorem dX9_perform_31 : decode cX9_perform 31 = .ok (.iload 6, 2) := by decide +kernel
theorem dX9_perform_33 : decode cX9_perform 33 = .ok (.invokevirtual 186, 3) := by decide +kernel
theorem dX9_perform_36 : decode cX9_perform 36 = .ok (.istore 5, 2) := by decide +kernel
theorem dX9_perform_38 : decode cX9_perform 38 = .ok (.aload_n 0, 1) := by decide +kernel
theorem dX9_perform_39 : decode cX9_perform 39 = .ok (.getfield 26, 3) := by decide +kernel
theorem dX9_perform_42 : decode cX9_perform 42 = .ok (.iload 6, 2) := by decide +kernel
theorem dX9_perform_44 : decode cX9_perform 44 = .ok (.invokevirtual 189, 3) := by decide +kernel
theorem dX9_perform_47 : decode cX9_perform 47 = .ok (.istore 7, 2) := by decide +kernel
theorem dX9_perform_49 : decode cX9_perform 49 = .ok (.iload 7, 2) := by decide +kernel
theorem dX9_perform_51 : decode cX9_perform 51 = .ok (.bipush 42, 2) := by decide +kernel
theorem dX9_perform_53 : decode cX9_perform 53 = .ok (.if_icmp .ne 15, 3) := by decide +kernel
theorem dX9_perform_56 : decode cX9_perform 56 = .ok (.aload_n 0, 1) := by decide +kernel
theorem dX9_perform_57 : decode cX9_perform 57 = .ok (.iload 6, 2) := by decide +kernel
theorem dX9_perform_59 : decode cX9_perform 59 = .ok (.iload_n 3, 1) := by decide +kernel
theorem dX9_perform_60 : decode cX9_perform 60 = .ok (.invokevirtual 192, 3) := by decide +kernel
theorem dX9_perform_63 : decode cX9_perform 63 = .ok (.istore 4, 2) := by decide +kernel
theorem dX9_perform_65 : decode cX9_perform 65 = .ok (.goto 40, 3) := by decide +kernel
theorem dX9_perform_68 : decode cX9_perform 68 = .ok (.iload 7, 2) := by decide +kernel
theorem dX9_perform_70 : decode cX9_perform 70 = .ok (.iconst 2, 1) := by decide +kernel
theorem dX9_perform_71 : decode cX9_perform 71 = .ok (.if_icmp .ne 15, 3) := by decide +kernel
theorem dX9_perform_74 : decode cX9_perform 74 = .ok (.aload_n 0, 1) := by decide +kernel
theorem dX9_perform_75 : decode cX9_perform 75 = .ok (.iload 6, 2) := by decide +kernel
theorem dX9_perform_77 : decode cX9_perform 77 = .ok (.iload_n 3, 1) := by decide +kernel
theorem dX9_perform_78 : decode cX9_perform 78 = .ok (.invokevirtual 196, 3) := by decide +kernel
theorem dX9_perform_81 : decode cX9_perform 81 = .ok (.istore 4, 2) := by decide +kernel
theorem dX9_perform_83 : decode cX9_perform 83 = .ok (.goto 22, 3) := by decide +kernel
theorem dX9_perform_86 : decode cX9_perform 86 = .ok (.aload_n 0, 1) := by decide +kernel
theorem dX9_perform_87 : decode cX9_perform 87 = .ok (.iload 7, 2) := by decide +kernel
theorem dX9_perform_89 : decode cX9_perform 89 = .ok (.aload_n 0, 1) := by decide +kernel
theorem dX9_perform_90 : decode cX9_perform 90 = .ok (.getfield 26, 3) := by decide +kernel
theorem dX9_perform_93 : decode cX9_perform 93 = .ok (.iload 6, 2) := by decide +kernel
theorem dX9_perform_95 : decode cX9_perform 95 = .ok (.iconst 1, 1) := by decide +kernel
theorem dX9_perform_96 : decode cX9_perform 96 = .ok (.iadd, 1) := by decide +kernel
theorem dX9_perform_97 : decode cX9_perform 97 = .ok (.invokevirtual 114, 3) := by decide +kernel
theorem dX9_perform_100 : decode cX9_perform 100 = .ok (.invokevirtual 199, 3) := by decide +kernel
theorem dX9_perform_103 : decode cX9_perform 103 = .ok (.istore 4, 2) := by decide +kernel
theorem dX9_perform_105 : decode cX9_perform 105 = .ok (.iinc 6 1, 3) := by decide +kernel
theorem dX9_perform_108 : decode cX9_perform 108 = .ok (.goto (-99), 3) := by decide +kernel
theorem dX9_perform_111 : decode cX9_perform 111 = .ok (.iload 4, 2) := by decide +kernel
theorem dX9_perform_113 : decode cX9_perform 113 = .ok (.ireturn, 1) := by decide +kernel
theorem dX9_repeatTimes_0 : decode cX9_repeatTimes 0 = .ok (.iconst 0, 1) := by decide +kernel
theorem dX9_repeatTimes_1 : decode cX9_repeatTimes 1 = .ok (.istore_n 3, 1) := by decide +kernel
theorem dX9_repeatTimes_2 : decode cX9_repeatTimes 2 = .ok (.iload_n 2, 1) := by decide +kernel
theorem dX9_repeatTimes_3 : decode cX9_repeatTimes 3 = .ok (.iconst 4, 1) := by decide +kernel
theorem dX9_repeatTimes_4 : decode cX9_repeatTimes 4 = .ok (.if_icmp .ge 14, 3) := by decide +kernel
theorem dX9_repeatTimes_7 : decode cX9_repeatTimes 7 = .ok (.aload_n 0, 1) := by decide +kernel
theorem dX9_repeatTimes_8 : decode cX9_repeatTimes 8 = .ok (.getfield 26, 3) := by decide +kernel
theorem dX9_repeatTimes_11 : decode cX9_repeatTimes 11 = .ok (.iload_n 1, 1) := by decide +kernel
theorem dX9_repeatTimes_12 : decode cX9_repeatTimes 12 = .ok (.invokevirtual 114, 3) := by decide +kernel
theorem dX9_repeatTimes_15 : decode cX9_repeatTimes 15 = .ok (.goto 4, 3) := by decide +kernel
theorem dX9_repeatTimes_18 : decode cX9_repeatTimes 18 = .ok (.iconst 0, 1) := by decide +kernel
theorem dX9_repeatTimes_19 : decode cX9_repeatTimes 19 = .ok (.istore 4, 2) := by decide +kernel
theorem dX9_repeatTimes_21 : decode cX9_repeatTimes 21 = .ok (.iconst 0, 1) := by decide +kernel
theorem dX9_repeatTimes_22 : decode cX9_repeatTimes 22 = .ok (.istore 5, 2) := by decide +kernel
theorem dX9_repeatTimes_24 : decode cX9_repeatTimes 24 = .ok (.iload 5, 2) := by decide +kernel
theorem dX9_repeatTimes_26 : decode cX9_repeatTimes 26 = .ok (.iload 4, 2) := by decide +kernel
theorem dX9_repeatTimes_28 : decode cX9_repeatTimes 28 = .ok (.if_icmp .ge 34, 3) := by decide +kernel
theorem dX9_repeatTimes_31 : decode cX9_repeatTimes 31 = .ok (.iload_n 3, 1) := by decide +kernel
theorem dX9_repeatTimes_32 : decode cX9_repeatTimes 32 = .ok (.ifCond .ne 30, 3) := by decide +kernel
theorem dX9_repeatTimes_35 : decode cX9_repeatTimes 35 = .ok (.aload_n 0, 1) := by decide +kernel
theorem dX9_repeatTimes_36 : decode cX9_repeatTimes 36 = .ok (.iload_n 1, 1) := by decide +kernel
theorem dX9_repeatTimes_37 : decode cX9_repeatTimes 37 = .ok (.iconst 2, 1) := by decide +kernel
theorem dX9_repeatTimes_38 : decode cX9_repeatTimes 38 = .ok (.iadd, 1) := by decide +kernel
theorem dX9_repeatTimes_39 : decode cX9_repeatTimes 39 = .ok (.aload_n 0, 1) := by decide +kernel
theorem dX9_repeatTimes_40 : decode cX9_repeatTimes 40 = .ok (.getfield 26, 3) := by decide +kernel
theorem dX9_repeatTimes_43 : decode cX9_repeatTimes 43 = .ok (.iload_n 1, 1) := by decide +kernel
theorem dX9_repeatTimes_44 : decode cX9_repeatTimes 44 = .ok (.invokevirtual 186, 3) := by decide +kernel
theorem dX9_repeatTimes_47 : decode cX9_repeatTimes 47 = .ok (.iconst 1, 1) := by decide +kernel
theorem dX9_repeatTimes_48 : decode cX9_repeatTimes 48 = .ok (.isub, 1) := by decide +kernel
theorem dX9_repeatTimes_49 : decode cX9_repeatTimes 49 = .ok (.iload_n 2, 1) := by decide +kernel
theorem dX9_repeatTimes_50 : decode cX9_repeatTimes 50 = .ok (.iconst 1, 1) := by decide +kernel
theorem dX9_repeatTimes_51 : decode cX9_repeatTimes 51 = .ok (.iadd, 1) := by decide +kernel
theorem dX9_repeatTimes_52 : decode cX9_repeatTimes 52 = .ok (.invokevirtual 133, 3) := by decide +kernel
theorem dX9_repeatTimes_55 : decode cX9_repeatTimes 55 = .ok (.istore_n 3, 1) := by decide +kernel
theorem dX9_repeatTimes_56 : decode cX9_repeatTimes 56 = .ok (.iinc 5 1, 3) := by decide +kernel
theorem dX9_repeatTimes_59 : decode cX9_repeatTimes 59 = .ok (.goto (-35), 3) := by decide +kernel
theorem dX9_repeatTimes_62 : decode cX9_repeatTimes 62 = .ok (.iload_n 3, 1) := by decide +kernel
theorem dX9_repeatTimes_63 : decode cX9_repeatTimes 63 = .ok (.ireturn, 1) := by decide +kernel
theorem dX9_repeatUntilRefused_0 : decode cX9_repeatUntilRefused 0 = .ok (.iload_n 2, 1) := by decide +kernel
theorem dX9_repeatUntilRefused_1 : decode cX9_repeatUntilRefused 1 = .ok (.iconst 4, 1) := by decide +kernel
theorem dX9_repeatUntilRefused_2 : decode cX9_repeatUntilRefused 2 = .ok (.if_icmp .ge 9, 3) := by decide +kernel
theorem dX9_repeatUntilRefused_5 : decode cX9_repeatUntilRefused 5 = .ok (.sipush 301, 3) := by decide +kernel
theorem dX9_repeatUntilRefused_8 : decode cX9_repeatUntilRefused 8 = .ok (.goto 4, 3) := by decide +kernel
theorem dX9_repeatUntilRefused_11 : decode cX9_repeatUntilRefused 11 = .ok (.iconst 0, 1) := by decide +kernel
theorem dX9_repeatUntilRefused_12 : decode cX9_repeatUntilRefused 12 = .ok (.istore_n 3, 1) := by decide +kernel
theorem dX9_repeatUntilRefused_13 : decode cX9_repeatUntilRefused 13 = .ok (.iconst 0, 1) := by decide +kernel
theorem dX9_repeatUntilRefused_14 : decode cX9_repeatUntilRefused 14 = .ok (.istore 4, 2) := by decide +kernel
theorem dX9_repeatUntilRefused_16 : decode cX9_repeatUntilRefused 16 = .ok (.iload 4, 2) := by decide +kernel
theorem dX9_repeatUntilRefused_18 : decode cX9_repeatUntilRefused 18 = .ok (.iload_n 3, 1) := by decide +kernel
theorem dX9_repeatUntilRefused_19 : decode cX9_repeatUntilRefused 19 = .ok (.if_icmp .ge 69, 3) := by decide +kernel
theorem dX9_repeatUntilRefused_22 : decode cX9_repeatUntilRefused 22 = .ok (.aload_n 0, 1) := by decide +kernel
theorem dX9_repeatUntilRefused_23 : decode cX9_repeatUntilRefused 23 = .ok (.getfield 10, 3) := by decide +kernel
theorem dX9_repeatUntilRefused_26 : decode cX9_repeatUntilRefused 26 = .ok (.getfield 127, 3) := by decide +kernel
theorem dX9_repeatUntilRefused_29 : decode cX9_repeatUntilRefused 29 = .ok (.istore 5, 2) := by decide +kernel
theorem dX9_repeatUntilRefused_31 : decode cX9_repeatUntilRefused 31 = .ok (.aload_n 0, 1) := by decide +kernel
theorem dX9_repeatUntilRefused_32 : decode cX9_repeatUntilRefused 32 = .ok (.iload_n 1, 1) := by decide +kernel
theorem dX9_repeatUntilRefused_33 : decode cX9_repeatUntilRefused 33 = .ok (.iconst 2, 1) := by decide +kernel
theorem dX9_repeatUntilRefused_34 : decode cX9_repeatUntilRefused 34 = .ok (.iadd, 1) := by decide +kernel
theorem dX9_repeatUntilRefused_35 : decode cX9_repeatUntilRefused 35 = .ok (.aload_n 0, 1) := by decide +kernel
theorem dX9_repeatUntilRefused_36 : decode cX9_repeatUntilRefused 36 = .ok (.getfield 26, 3) := by decide +kernel
theorem dX9_repeatUntilRefused_39 : decode cX9_repeatUntilRefused 39 = .ok (.iload_n 1, 1) := by decide +kernel
theorem dX9_repeatUntilRefused_40 : decode cX9_repeatUntilRefused 40 = .ok (.invokevirtual 186, 3) := by decide +kernel
theorem dX9_repeatUntilRefused_43 : decode cX9_repeatUntilRefused 43 = .ok (.iconst 1, 1) := by decide +kernel
theorem dX9_repeatUntilRefused_44 : decode cX9_repeatUntilRefused 44 = .ok (.isub, 1) := by decide +kernel
theorem dX9_repeatUntilRefused_45 : decode cX9_repeatUntilRefused 45 = .ok (.iload_n 2, 1) := by decide +kernel
theorem dX9_repeatUntilRefused_46 : decode cX9_repeatUntilRefused 46 = .ok (.iconst 1, 1) := by decide +kernel
theorem dX9_repeatUntilRefused_47 : decode cX9_repeatUntilRefused 47 = .ok (.iadd, 1) := by decide +kernel
theorem dX9_repeatUntilRefused_48 : decode cX9_repeatUntilRefused 48 = .ok (.invokevirtual 133, 3) := by decide +kernel
theorem dX9_repeatUntilRefused_51 : decode cX9_repeatUntilRefused 51 = .ok (.istore 6, 2) := by decide +kernel
theorem dX9_repeatUntilRefused_53 : decode cX9_repeatUntilRefused 53 = .ok (.iload 6, 2) := by decide +kernel
theorem dX9_repeatUntilRefused_55 : decode cX9_repeatUntilRefused 55 = .ok (.bipush (-6), 2) := by decide +kernel
theorem dX9_repeatUntilRefused_57 : decode cX9_repeatUntilRefused 57 = .ok (.if_icmp .ne 6, 3) := by decide +kernel
theorem dX9_repeatUntilRefused_60 : decode cX9_repeatUntilRefused 60 = .ok (.bipush (-6), 2) := by decide +kernel
theorem dX9_repeatUntilRefused_62 : decode cX9_repeatUntilRefused 62 = .ok (.ireturn, 1) := by decide +kernel
theorem dX9_repeatUntilRefused_63 : decode cX9_repeatUntilRefused 63 = .ok (.iload 6, 2) := by decide +kernel
theorem dX9_repeatUntilRefused_65 : decode cX9_repeatUntilRefused 65 = .ok (.ifCond .ne 15, 3) := by decide +kernel
theorem dX9_repeatUntilRefused_68 : decode cX9_repeatUntilRefused 68 = .ok (.aload_n 0, 1) := by decide +kernel
theorem dX9_repeatUntilRefused_69 : decode cX9_repeatUntilRefused 69 = .ok (.getfield 10, 3) := by decide +kernel
theorem dX9_repeatUntilRefused_72 : decode cX9_repeatUntilRefused 72 = .ok (.getfield 127, 3) := by decide +kernel
theorem dX9_repeatUntilRefused_75 : decode cX9_repeatUntilRefused 75 = .ok (.iload 5, 2) := by decide +kernel
theorem dX9_repeatUntilRefused_77 : decode cX9_repeatUntilRefused 77 = .ok (.if_icmp .ne 5, 3) := by decide +kernel
theorem dX9_repeatUntilRefused_80 : decode cX9_repeatUntilRefused 80 = .ok (.iconst 0, 1) := by decide +kernel
theorem dX9_repeatUntilRefused_81 : decode cX9_repeatUntilRefused 81 = .ok (.ireturn, 1) := by decide +kernel
theorem dX9_repeatUntilRefused_82 : decode cX9_repeatUntilRefused 82 = .ok (.iinc 4 1, 3) := by decide +kernel
theorem dX9_repeatUntilRefused_85 : decode cX9_repeatUntilRefused 85 = .ok (.goto (-69), 3) := by decide +kernel
theorem dX9_repeatUntilRefused_88 : decode cX9_repeatUntilRefused 88 = .ok (.iconst 0, 1) := by decide +kernel
theorem dX9_repeatUntilRefused_89 : decode cX9_repeatUntilRefused 89 = .ok (.ireturn, 1) := by decide +kernel
