theorem dX0_init_0 : decode cX0_init 0 = .ok (.aload_n 0, 1) := by decide +kernel
theorem dX0_init_1 : decode cX0_init 1 = .ok (.invokespecial 3, 3) := by decide +kernel
theorem dX0_init_4 : decode cX0_init 4 = .ok (.iconst 0, 1) := by decide +kernel
theorem dX0_init_5 : decode cX0_init 5 = .ok (.istore_n 1, 1) := by decide +kernel
theorem dX0_init_6 : decode cX0_init 6 = .ok (.iload_n 1, 1) := by decide +kernel
theorem dX0_init_7 : decode cX0_init 7 = .ok (.bipush 100, 2) := by decide +kernel
theorem dX0_init_9 : decode cX0_init 9 = .ok (.if_icmp .ge 30, 3) := by decide +kernel
theorem dX0_init_12 : decode cX0_init 12 = .ok (.new 9, 3) := by decide +kernel
theorem dX0_init_15 : decode cX0_init 15 = .ok (.dup, 1) := by decide +kernel
theorem dX0_init_16 : decode cX0_init 16 = .ok (.invokespecial 11, 3) := by decide +kernel
theorem dX0_init_19 : decode cX0_init 19 = .ok (.astore_n 2, 1) := by decide +kernel
theorem dX0_init_20 : decode cX0_init 20 = .ok (.aload_n 2, 1) := by decide +kernel
theorem dX0_init_21 : decode cX0_init 21 = .ok (.aload_n 0, 1) := by decide +kernel
theorem dX0_init_22 : decode cX0_init 22 = .ok (.getfield 12, 3) := by decide +kernel
theorem dX0_init_25 : decode cX0_init 25 = .ok (.putfield 18, 3) := by decide +kernel
theorem dX0_init_28 : decode cX0_init 28 = .ok (.aload_n 0, 1) := by decide +kernel
theorem dX0_init_29 : decode cX0_init 29 = .ok (.aload_n 2, 1) := by decide +kernel
theorem dX0_init_30 : decode cX0_init 30 = .ok (.putfield 12, 3) := by decide +kernel
theorem dX0_init_33 : decode cX0_init 33 = .ok (.iinc 1 1, 3) := by decide +kernel
theorem dX0_init_36 : decode cX0_init 36 = .ok (.goto (-30), 3) := by decide +kernel
theorem dX0_init_39 : decode cX0_init 39 = .ok (.return_, 1) := by decide +kernel
theorem dX0_pass_0 : decode cX0_pass 0 = .ok (.iload_n 1, 1) := by decide +kernel
theorem dX0_pass_1 : decode cX0_pass 1 = .ok (.ifCond .eq 10, 3) := by decide +kernel
theorem dX0_pass_4 : decode cX0_pass 4 = .ok (.aload_n 0, 1) := by decide +kernel
theorem dX0_pass_5 : decode cX0_pass 5 = .ok (.getfield 21, 3) := by decide +kernel
theorem dX0_pass_8 : decode cX0_pass 8 = .ok (.goto 7, 3) := by decide +kernel
theorem dX0_pass_11 : decode cX0_pass 11 = .ok (.aload_n 0, 1) := by decide +kernel
theorem dX0_pass_12 : decode cX0_pass 12 = .ok (.getfield 24, 3) := by decide +kernel
theorem dX0_pass_15 : decode cX0_pass 15 = .ok (.astore_n 2, 1) := by decide +kernel
theorem dX0_pass_16 : decode cX0_pass 16 = .ok (.aload_n 2, 1) := by decide +kernel
theorem dX0_pass_17 : decode cX0_pass 17 = .ok (.ifnonnull 6, 3) := by decide +kernel
theorem dX0_pass_20 : decode cX0_pass 20 = .ok (.bipush (-2), 2) := by decide +kernel
theorem dX0_pass_22 : decode cX0_pass 22 = .ok (.ireturn, 1) := by decide +kernel
theorem dX0_pass_23 : decode cX0_pass 23 = .ok (.aload_n 0, 1) := by decide +kernel
theorem dX0_pass_24 : decode cX0_pass 24 = .ok (.iload_n 1, 1) := by decide +kernel
theorem dX0_pass_25 : decode cX0_pass 25 = .ok (.ifCond .eq 10, 3) := by decide +kernel
theorem dX0_pass_28 : decode cX0_pass 28 = .ok (.aload_n 2, 1) := by decide +kernel
theorem dX0_pass_29 : decode cX0_pass 29 = .ok (.getfield 27, 3) := by decide +kernel
theorem dX0_pass_32 : decode cX0_pass 32 = .ok (.goto 4, 3) := by decide +kernel
theorem dX0_pass_35 : decode cX0_pass 35 = .ok (.aload_n 2, 1) := by decide +kernel
theorem dX0_pass_36 : decode cX0_pass 36 = .ok (.putfield 21, 3) := by decide +kernel
theorem dX0_pass_39 : decode cX0_pass 39 = .ok (.aload_n 0, 1) := by decide +kernel
theorem dX0_pass_40 : decode cX0_pass 40 = .ok (.iload_n 1, 1) := by decide +kernel
theorem dX0_pass_41 : decode cX0_pass 41 = .ok (.ifCond .eq 7, 3) := by decide +kernel
theorem dX0_pass_44 : decode cX0_pass 44 = .ok (.aload_n 2, 1) := by decide +kernel
theorem dX0_pass_45 : decode cX0_pass 45 = .ok (.goto 7, 3) := by decide +kernel
theorem dX0_pass_48 : decode cX0_pass 48 = .ok (.aload_n 2, 1) := by decide +kernel
theorem dX0_pass_49 : decode cX0_pass 49 = .ok (.getfield 18, 3) := by decide +kernel
theorem dX0_pass_52 : decode cX0_pass 52 = .ok (.putfield 24, 3) := by decide +kernel
theorem dX0_pass_55 : decode cX0_pass 55 = .ok (.aload_n 0, 1) := by decide +kernel
theorem dX0_pass_56 : decode cX0_pass 56 = .ok (.dup, 1) := by decide +kernel
theorem dX0_pass_57 : decode cX0_pass 57 = .ok (.getfield 30, 3) := by decide +kernel
theorem dX0_pass_60 : decode cX0_pass 60 = .ok (.iload_n 1, 1) := by decide +kernel
theorem dX0_pass_61 : decode cX0_pass 61 = .ok (.ifCond .eq 7, 3) := by decide +kernel
theorem dX0_pass_64 : decode cX0_pass 64 = .ok (.iconst (-1), 1) := by decide +kernel
theorem dX0_pass_65 : decode cX0_pass 65 = .ok (.goto 4, 3) := by decide +kernel
theorem dX0_pass_68 : decode cX0_pass 68 = .ok (.iconst 1, 1) := by decide +kernel
theorem dX0_pass_69 : decode cX0_pass 69 = .ok (.iadd, 1) := by decide +kernel
theorem dX0_pass_70 : decode cX0_pass 70 = .ok (.putfield 30, 3) := by decide +kernel
theorem dX0_pass_73 : decode cX0_pass 73 = .ok (.aload_n 2, 1) := by decide +kernel
theorem dX0_pass_74 : decode cX0_pass 74 = .ok (.getfield 34, 3) := by decide +kernel
theorem dX0_pass_77 : decode cX0_pass 77 = .ok (.ireturn, 1) := by decide +kernel
theorem dX0_insert_0 : decode cX0_insert 0 = .ok (.aload_n 0, 1) := by decide +kernel
theorem dX0_insert_1 : decode cX0_insert 1 = .ok (.getfield 12, 3) := by decide +kernel
theorem dX0_insert_4 : decode cX0_insert 4 = .ok (.astore_n 2, 1) := by decide +kernel
theorem dX0_insert_5 : decode cX0_insert 5 = .ok (.aload_n 2, 1) := by decide +kernel
theorem dX0_insert_6 : decode cX0_insert 6 = .ok (.ifnonnull 6, 3) := by decide +kernel
theorem dX0_insert_9 : decode cX0_insert 9 = .ok (.bipush (-5), 2) := by decide +kernel
theorem dX0_insert_11 : decode cX0_insert 11 = .ok (.ireturn, 1) := by decide +kernel
theorem dX0_insert_12 : decode cX0_insert 12 = .ok (.aload_n 0, 1) := by decide +kernel
theorem dX0_insert_13 : decode cX0_insert 13 = .ok (.aload_n 2, 1) := by decide +kernel
theorem dX0_insert_14 : decode cX0_insert 14 = .ok (.getfield 18, 3) := by decide +kernel
theorem dX0_insert_17 : decode cX0_insert 17 = .ok (.putfield 12, 3) := by decide +kernel
theorem dX0_insert_20 : decode cX0_insert 20 = .ok (.aload_n 2, 1) := by decide +kernel
theorem dX0_insert_21 : decode cX0_insert 21 = .ok (.iload_n 1, 1) := by decide +kernel
theorem dX0_insert_22 : decode cX0_insert 22 = .ok (.putfield 34, 3) := by decide +kernel
theorem dX0_insert_25 : decode cX0_insert 25 = .ok (.aload_n 0, 1) := by decide +kernel
theorem dX0_insert_26 : decode cX0_insert 26 = .ok (.getfield 21, 3) := by decide +kernel
theorem dX0_insert_29 : decode cX0_insert 29 = .ok (.aload_n 2, 1) := by decide +kernel
theorem dX0_insert_30 : decode cX0_insert 30 = .ok (.invokestatic 37, 3) := by decide +kernel
theorem dX0_insert_33 : decode cX0_insert 33 = .ok (.aload_n 2, 1) := by decide +kernel
theorem dX0_insert_34 : decode cX0_insert 34 = .ok (.aload_n 0, 1) := by decide +kernel
theorem dX0_insert_35 : decode cX0_insert 35 = .ok (.getfield 24, 3) := by decide +kernel
theorem dX0_insert_38 : decode cX0_insert 38 = .ok (.invokestatic 37, 3) := by decide +kernel
theorem dX0_insert_41 : decode cX0_insert 41 = .ok (.aload_n 0, 1) := by decide +kernel
theorem dX0_insert_42 : decode cX0_insert 42 = .ok (.aload_n 2, 1) := by decide +kernel
theorem dX0_insert_43 : decode cX0_insert 43 = .ok (.putfield 21, 3) := by decide +kernel
theorem dX0_insert_46 : decode cX0_insert 46 = .ok (.aload_n 0, 1) := by decide +kernel
theorem dX0_insert_47 : decode cX0_insert 47 = .ok (.dup, 1) := by decide +kernel
theorem dX0_insert_48 : decode cX0_insert 48 = .ok (.getfield 30, 3) := by decide +kernel
theorem dX0_insert_51 : decode cX0_insert 51 = .ok (.iconst 1, 1) := by decide +kernel
theorem dX0_insert_52 : decode cX0_insert 52 = .ok (.iadd, 1) := by decide +kernel
theorem dX0_insert_53 : decode cX0_insert 53 = .ok (.putfield 30, 3) := by decide +kernel
theorem dX0_insert_56 : decode cX0_insert 56 = .ok (.aload_n 0, 1) := by decide +kernel
theorem dX0_insert_57 : decode cX0_insert 57 = .ok (.dup, 1) := by decide +kernel
theorem dX0_insert_58 : decode cX0_insert 58 = .ok (.getfield 41, 3) := by decide +kernel
theorem dX0_insert_61 : decode cX0_insert 61 = .ok (.iconst 1, 1) := by decide +kernel
theorem dX0_insert_62 : decode cX0_insert 62 = .ok (.iadd, 1) := by decide +kernel
theorem dX0_insert_63 : decode cX0_insert 63 = .ok (.putfield 41, 3) := by decide +kernel
theorem dX0_insert_66 : decode cX0_insert 66 = .ok (.aload_n 0, 1) := by decide +kernel
theorem dX0_insert_67 : decode cX0_insert 67 = .ok (.getfield 41, 3) := by decide +kernel
theorem dX0_insert_70 : decode cX0_insert 70 = .ok (.ireturn, 1) := by decide +kernel
theorem dX0_exchange_0 : decode cX0_exchange 0 = .ok (.iload_n 2, 1) := by decide +kernel
theorem dX0_exchange_1 : decode cX0_exchange 1 = .ok (.ifCond .eq 10, 3) := by decide +kernel
theorem dX0_exchange_4 : decode cX0_exchange 4 = .ok (.aload_n 0, 1) := by decide +kernel
theorem dX0_exchange_5 : decode cX0_exchange 5 = .ok (.getfield 21, 3) := by decide +kernel
theorem dX0_exchange_8 : decode cX0_exchange 8 = .ok (.goto 7, 3) := by decide +kernel
theorem dX0_exchange_11 : decode cX0_exchange 11 = .ok (.aload_n 0, 1) := by decide +kernel
theorem dX0_exchange_12 : decode cX0_exchange 12 = .ok (.getfield 24, 3) := by decide +kernel
theorem dX0_exchange_15 : decode cX0_exchange 15 = .ok (.astore_n 3, 1) := by decide +kernel
theorem dX0_exchange_16 : decode cX0_exchange 16 = .ok (.aload_n 3, 1) := by decide +kernel
theorem dX0_exchange_17 : decode cX0_exchange 17 = .ok (.ifnonnull 6, 3) := by decide +kernel
theorem dX0_exchange_20 : decode cX0_exchange 20 = .ok (.bipush (-3), 2) := by decide +kernel
theorem dX0_exchange_22 : decode cX0_exchange 22 = .ok (.ireturn, 1) := by decide +kernel
theorem dX0_exchange_23 : decode cX0_exchange 23 = .ok (.aload_n 3, 1) := by decide +kernel
theorem dX0_exchange_24 : decode cX0_exchange 24 = .ok (.getfield 34, 3) := by decide +kernel
theorem dX0_exchange_27 : decode cX0_exchange 27 = .ok (.istore 4, 2) := by decide +kernel
theorem dX0_exchange_29 : decode cX0_exchange 29 = .ok (.aload_n 3, 1) := by decide +kernel
theorem dX0_exchange_30 : decode cX0_exchange 30 = .ok (.iload_n 1, 1) := by decide +kernel
theorem dX0_exchange_31 : decode cX0_exchange 31 = .ok (.putfield 34, 3) := by decide +kernel
theorem dX0_exchange_34 : decode cX0_exchange 34 = .ok (.iload 4, 2) := by decide +kernel
theorem dX0_exchange_36 : decode cX0_exchange 36 = .ok (.ireturn, 1) := by decide +kernel
theorem dX0_drop_0 : decode cX0_drop 0 = .ok (.iload_n 1, 1) := by decide +kernel
theorem dX0_drop_1 : decode cX0_drop 1 = .ok (.ifCond .eq 10, 3) := by decide +kernel
theorem dX0_drop_4 : decode cX0_drop 4 = .ok (.aload_n 0, 1) := by decide +kernel
theorem dX0_drop_5 : decode cX0_drop 5 = .ok (.getfield 21, 3) := by decide +kernel
theorem dX0_drop_8 : decode cX0_drop 8 = .ok (.goto 7, 3) := by decide +kernel
theorem dX0_drop_11 : decode cX0_drop 11 = .ok (.aload_n 0, 1) := by decide +kernel
theorem dX0_drop_12 : decode cX0_drop 12 = .ok (.getfield 24, 3) := by decide +kernel
theorem dX0_drop_15 : decode cX0_drop 15 = .ok (.astore_n 2, 1) := by decide +kernel
theorem dX0_drop_16 : decode cX0_drop 16 = .ok (.aload_n 2, 1) := by decide +kernel
theorem dX0_drop_17 : decode cX0_drop 17 = .ok (.ifnonnull 6, 3) := by decide +kernel
theorem dX0_drop_20 : decode cX0_drop 20 = .ok (.bipush (-3), 2) := by decide +kernel
theorem dX0_drop_22 : decode cX0_drop 22 = .ok (.ireturn, 1) := by decide +kernel
theorem dX0_drop_23 : decode cX0_drop 23 = .ok (.aload_n 0, 1) := by decide +kernel
theorem dX0_drop_24 : decode cX0_drop 24 = .ok (.iload_n 1, 1) := by decide +kernel
theorem dX0_drop_25 : decode cX0_drop 25 = .ok (.ifCond .eq 10, 3) := by decide +kernel
theorem dX0_drop_28 : decode cX0_drop 28 = .ok (.aload_n 2, 1) := by decide +kernel
theorem dX0_drop_29 : decode cX0_drop 29 = .ok (.getfield 27, 3) := by decide +kernel
theorem dX0_drop_32 : decode cX0_drop 32 = .ok (.goto 7, 3) := by decide +kernel
theorem dX0_drop_35 : decode cX0_drop 35 = .ok (.aload_n 0, 1) := by decide +kernel
theorem dX0_drop_36 : decode cX0_drop 36 = .ok (.getfield 21, 3) := by decide +kernel
theorem dX0_drop_39 : decode cX0_drop 39 = .ok (.putfield 21, 3) := by decide +kernel
theorem dX0_drop_42 : decode cX0_drop 42 = .ok (.aload_n 0, 1) := by decide +kernel
theorem dX0_drop_43 : decode cX0_drop 43 = .ok (.iload_n 1, 1) := by decide +kernel
theorem dX0_drop_44 : decode cX0_drop 44 = .ok (.ifCond .eq 10, 3) := by decide +kernel
theorem dX0_drop_47 : decode cX0_drop 47 = .ok (.aload_n 0, 1) := by decide +kernel
theorem dX0_drop_48 : decode cX0_drop 48 = .ok (.getfield 24, 3) := by decide +kernel
theorem dX0_drop_51 : decode cX0_drop 51 = .ok (.goto 7, 3) := by decide +kernel
theorem dX0_drop_54 : decode cX0_drop 54 = .ok (.aload_n 2, 1) := by decide +kernel
theorem dX0_drop_55 : decode cX0_drop 55 = .ok (.getfield 18, 3) := by decide +kernel
theorem dX0_drop_58 : decode cX0_drop 58 = .ok (.putfield 24, 3) := by decide +kernel
theorem dX0_drop_61 : decode cX0_drop 61 = .ok (.aload_n 0, 1) := by decide +kernel
theorem dX0_drop_62 : decode cX0_drop 62 = .ok (.getfield 21, 3) := by decide +kernel
theorem dX0_drop_65 : decode cX0_drop 65 = .ok (.aload_n 0, 1) := by decide +kernel
theorem dX0_drop_66 : decode cX0_drop 66 = .ok (.getfield 24, 3) := by decide +kernel
theorem dX0_drop_69 : decode cX0_drop 69 = .ok (.invokestatic 37, 3) := by decide +kernel
theorem dX0_drop_72 : decode cX0_drop 72 = .ok (.aload_n 2, 1) := by decide +kernel
theorem dX0_drop_73 : decode cX0_drop 73 = .ok (.aconst_null, 1) := by decide +kernel
theorem dX0_drop_74 : decode cX0_drop 74 = .ok (.putfield 27, 3) := by decide +kernel
theorem dX0_drop_77 : decode cX0_drop 77 = .ok (.aload_n 2, 1) := by decide +kernel
theorem dX0_drop_78 : decode cX0_drop 78 = .ok (.aload_n 0, 1) := by decide +kernel
theorem dX0_drop_79 : decode cX0_drop 79 = .ok (.getfield 12, 3) := by decide +kernel
theorem dX0_drop_82 : decode cX0_drop 82 = .ok (.putfield 18, 3) := by decide +kernel
theorem dX0_drop_85 : decode cX0_drop 85 = .ok (.aload_n 0, 1) := by decide +kernel
theorem dX0_drop_86 : decode cX0_drop 86 = .ok (.aload_n 2, 1) := by decide +kernel
theorem dX0_drop_87 : decode cX0_drop 87 = .ok (.putfield 12, 3) := by decide +kernel
theorem dX0_drop_90 : decode cX0_drop 90 = .ok (.aload_n 0, 1) := by decide +kernel
theorem dX0_drop_91 : decode cX0_drop 91 = .ok (.dup, 1) := by decide +kernel
theorem dX0_drop_92 : decode cX0_drop 92 = .ok (.getfield 30, 3) := by decide +kernel
theorem dX0_drop_95 : decode cX0_drop 95 = .ok (.iload_n 1, 1) := by decide +kernel
theorem dX0_drop_96 : decode cX0_drop 96 = .ok (.ifCond .eq 7, 3) := by decide +kernel
theorem dX0_drop_99 : decode cX0_drop 99 = .ok (.iconst 1, 1) := by decide +kernel
theorem dX0_drop_100 : decode cX0_drop 100 = .ok (.goto 4, 3) := by decide +kernel
theorem dX0_drop_103 : decode cX0_drop 103 = .ok (.iconst 0, 1) := by decide +kernel
theorem dX0_drop_104 : decode cX0_drop 104 = .ok (.isub, 1) := by decide +kernel
theorem dX0_drop_105 : decode cX0_drop 105 = .ok (.putfield 30, 3) := by decide +kernel
theorem dX0_drop_108 : decode cX0_drop 108 = .ok (.aload_n 0, 1) := by decide +kernel
theorem dX0_drop_109 : decode cX0_drop 109 = .ok (.dup, 1) := by decide +kernel
theorem dX0_drop_110 : decode cX0_drop 110 = .ok (.getfield 41, 3) := by decide +kernel
theorem dX0_drop_113 : decode cX0_drop 113 = .ok (.iconst 1, 1) := by decide +kernel
theorem dX0_drop_114 : decode cX0_drop 114 = .ok (.isub, 1) := by decide +kernel
theorem dX0_drop_115 : decode cX0_drop 115 = .ok (.putfield 41, 3) := by decide +kernel
theorem dX0_drop_118 : decode cX0_drop 118 = .ok (.aload_n 2, 1) := by decide +kernel
theorem dX0_drop_119 : decode cX0_drop 119 = .ok (.getfield 34, 3) := by decide +kernel
theorem dX0_drop_122 : decode cX0_drop 122 = .ok (.ireturn, 1) := by decide +kernel
theorem dX0_cross_0 : decode cX0_cross 0 = .ok (.aload_n 0, 1) := by decide +kernel
theorem dX0_cross_1 : decode cX0_cross 1 = .ok (.getfield 21, 3) := by decide +kernel
theorem dX0_cross_4 : decode cX0_cross 4 = .ok (.ifnull 10, 3) := by decide +kernel
theorem dX0_cross_7 : decode cX0_cross 7 = .ok (.aload_n 0, 1) := by decide +kernel
theorem dX0_cross_8 : decode cX0_cross 8 = .ok (.getfield 24, 3) := by decide +kernel
theorem dX0_cross_11 : decode cX0_cross 11 = .ok (.ifnonnull 6, 3) := by decide +kernel
theorem dX0_cross_14 : decode cX0_cross 14 = .ok (.bipush (-2), 2) := by decide +kernel
theorem dX0_cross_16 : decode cX0_cross 16 = .ok (.ireturn, 1) := by decide +kernel
theorem dX0_cross_17 : decode cX0_cross 17 = .ok (.aload_n 0, 1) := by decide +kernel
theorem dX0_cross_18 : decode cX0_cross 18 = .ok (.getfield 24, 3) := by decide +kernel
theorem dX0_cross_21 : decode cX0_cross 21 = .ok (.getfield 34, 3) := by decide +kernel
theorem dX0_cross_24 : decode cX0_cross 24 = .ok (.istore_n 1, 1) := by decide +kernel
theorem dX0_cross_25 : decode cX0_cross 25 = .ok (.aload_n 0, 1) := by decide +kernel
theorem dX0_cross_26 : decode cX0_cross 26 = .ok (.getfield 24, 3) := by decide +kernel
theorem dX0_cross_29 : decode cX0_cross 29 = .ok (.aload_n 0, 1) := by decide +kernel
theorem dX0_cross_30 : decode cX0_cross 30 = .ok (.getfield 21, 3) := by decide +kernel
theorem dX0_cross_33 : decode cX0_cross 33 = .ok (.getfield 34, 3) := by decide +kernel
theorem dX0_cross_36 : decode cX0_cross 36 = .ok (.putfield 34, 3) := by decide +kernel
theorem dX0_cross_39 : decode cX0_cross 39 = .ok (.aload_n 0, 1) := by decide +kernel
theorem dX0_cross_40 : decode cX0_cross 40 = .ok (.getfield 21, 3) := by decide +kernel
theorem dX0_cross_43 : decode cX0_cross 43 = .ok (.iload_n 1, 1) := by decide +kernel
theorem dX0_cross_44 : decode cX0_cross 44 = .ok (.putfield 34, 3) := by decide +kernel
theorem dX0_cross_47 : decode cX0_cross 47 = .ok (.iload_n 1, 1) := by decide +kernel
theorem dX0_cross_48 : decode cX0_cross 48 = .ok (.ireturn, 1) := by decide +kernel
theorem dX0_empty_0 : decode cX0_empty 0 = .ok (.iconst 0, 1) := by decide +kernel
theorem dX0_empty_1 : decode cX0_empty 1 = .ok (.istore_n 1, 1) := by decide +kernel
theorem dX0_empty_2 : decode cX0_empty 2 = .ok (.iload_n 1, 1) := by decide +kernel
theorem dX0_empty_3 : decode cX0_empty 3 = .ok (.bipush 100, 2) := by decide +kernel
theorem dX0_empty_5 : decode cX0_empty 5 = .ok (.if_icmp .ge 21, 3) := by decide +kernel
theorem dX0_empty_8 : decode cX0_empty 8 = .ok (.aload_n 0, 1) := by decide +kernel
theorem dX0_empty_9 : decode cX0_empty 9 = .ok (.iconst 1, 1) := by decide +kernel
theorem dX0_empty_10 : decode cX0_empty 10 = .ok (.invokevirtual 44, 3) := by decide +kernel
theorem dX0_empty_13 : decode cX0_empty 13 = .ok (.pop, 1) := by decide +kernel
theorem dX0_empty_14 : decode cX0_empty 14 = .ok (.aload_n 0, 1) := by decide +kernel
theorem dX0_empty_15 : decode cX0_empty 15 = .ok (.iconst 0, 1) := by decide +kernel
theorem dX0_empty_16 : decode cX0_empty 16 = .ok (.invokevirtual 44, 3) := by decide +kernel
theorem dX0_empty_19 : decode cX0_empty 19 = .ok (.pop, 1) := by decide +kernel
theorem dX0_empty_20 : decode cX0_empty 20 = .ok (.iinc 1 1, 3) := by decide +kernel
theorem dX0_empty_23 : decode cX0_empty 23 = .ok (.goto (-21), 3) := by decide +kernel
theorem dX0_empty_26 : decode cX0_empty 26 = .ok (.return_, 1) := by decide +kernel
theorem dX0_wordOf_0 : decode cX0_wordOf 0 = .ok (.iload_n 1, 1) := by decide +kernel
theorem dX0_wordOf_1 : decode cX0_wordOf 1 = .ok (.aload_n 0, 1) := by decide +kernel
theorem dX0_wordOf_2 : decode cX0_wordOf 2 = .ok (.getfield 30, 3) := by decide +kernel
theorem dX0_wordOf_5 : decode cX0_wordOf 5 = .ok (.if_icmp .ge 7, 3) := by decide +kernel
theorem dX0_wordOf_8 : decode cX0_wordOf 8 = .ok (.iconst 1, 1) := by decide +kernel
theorem dX0_wordOf_9 : decode cX0_wordOf 9 = .ok (.goto 4, 3) := by decide +kernel
theorem dX0_wordOf_12 : decode cX0_wordOf 12 = .ok (.iconst 0, 1) := by decide +kernel
theorem dX0_wordOf_13 : decode cX0_wordOf 13 = .ok (.istore_n 2, 1) := by decide +kernel
theorem dX0_wordOf_14 : decode cX0_wordOf 14 = .ok (.iload_n 2, 1) := by decide +kernel
theorem dX0_wordOf_15 : decode cX0_wordOf 15 = .ok (.ifCond .eq 10, 3) := by decide +kernel
theorem dX0_wordOf_18 : decode cX0_wordOf 18 = .ok (.aload_n 0, 1) := by decide +kernel
theorem dX0_wordOf_19 : decode cX0_wordOf 19 = .ok (.getfield 21, 3) := by decide +kernel
theorem dX0_wordOf_22 : decode cX0_wordOf 22 = .ok (.goto 7, 3) := by decide +kernel
theorem dX0_wordOf_25 : decode cX0_wordOf 25 = .ok (.aload_n 0, 1) := by decide +kernel
theorem dX0_wordOf_26 : decode cX0_wordOf 26 = .ok (.getfield 24, 3) := by decide +kernel
theorem dX0_wordOf_29 : decode cX0_wordOf 29 = .ok (.astore_n 3, 1) := by decide +kernel
theorem dX0_wordOf_30 : decode cX0_wordOf 30 = .ok (.iload_n 2, 1) := by decide +kernel
theorem dX0_wordOf_31 : decode cX0_wordOf 31 = .ok (.ifCond .eq 14, 3) := by decide +kernel
theorem dX0_wordOf_34 : decode cX0_wordOf 34 = .ok (.aload_n 0, 1) := by decide +kernel
theorem dX0_wordOf_35 : decode cX0_wordOf 35 = .ok (.getfield 30, 3) := by decide +kernel
theorem dX0_wordOf_38 : decode cX0_wordOf 38 = .ok (.iconst 1, 1) := by decide +kernel
theorem dX0_wordOf_39 : decode cX0_wordOf 39 = .ok (.isub, 1) := by decide +kernel
theorem dX0_wordOf_40 : decode cX0_wordOf 40 = .ok (.iload_n 1, 1) := by decide +kernel
theorem dX0_wordOf_41 : decode cX0_wordOf 41 = .ok (.isub, 1) := by decide +kernel
theorem dX0_wordOf_42 : decode cX0_wordOf 42 = .ok (.goto 9, 3) := by decide +kernel
theorem dX0_wordOf_45 : decode cX0_wordOf 45 = .ok (.iload_n 1, 1) := by decide +kernel
theorem dX0_wordOf_46 : decode cX0_wordOf 46 = .ok (.aload_n 0, 1) := by decide +kernel
theorem dX0_wordOf_47 : decode cX0_wordOf 47 = .ok (.getfield 30, 3) := by decide +kernel
theorem dX0_wordOf_50 : decode cX0_wordOf 50 = .ok (.isub, 1) := by decide +kernel
theorem dX0_wordOf_51 : decode cX0_wordOf 51 = .ok (.istore 4, 2) := by decide +kernel
theorem dX0_wordOf_53 : decode cX0_wordOf 53 = .ok (.iconst 0, 1) := by decide +kernel
theorem dX0_wordOf_54 : decode cX0_wordOf 54 = .ok (.istore 5, 2) := by decide +kernel
theorem dX0_wordOf_56 : decode cX0_wordOf 56 = .ok (.iload 5, 2) := by decide +kernel
theorem dX0_wordOf_58 : decode cX0_wordOf 58 = .ok (.iload 4, 2) := by decide +kernel
theorem dX0_wordOf_60 : decode cX0_wordOf 60 = .ok (.if_icmp .ge 29, 3) := by decide +kernel
theorem dX0_wordOf_63 : decode cX0_wordOf 63 = .ok (.aload_n 3, 1) := by decide +kernel
theorem dX0_wordOf_64 : decode cX0_wordOf 64 = .ok (.ifnull 25, 3) := by decide +kernel
theorem dX0_wordOf_67 : decode cX0_wordOf 67 = .ok (.iload_n 2, 1) := by decide +kernel
theorem dX0_wordOf_68 : decode cX0_wordOf 68 = .ok (.ifCond .eq 10, 3) := by decide +kernel
theorem dX0_wordOf_71 : decode cX0_wordOf 71 = .ok (.aload_n 3, 1) := by decide +kernel
theorem dX0_wordOf_72 : decode cX0_wordOf 72 = .ok (.getfield 27, 3) := by decide +kernel
theorem dX0_wordOf_75 : decode cX0_wordOf 75 = .ok (.goto 7, 3) := by decide +kernel
theorem dX0_wordOf_78 : decode cX0_wordOf 78 = .ok (.aload_n 3, 1) := by decide +kernel
theorem dX0_wordOf_79 : decode cX0_wordOf 79 = .ok (.getfield 18, 3) := by decide +kernel
theorem dX0_wordOf_82 : decode cX0_wordOf 82 = .ok (.astore_n 3, 1) := by decide +kernel
theorem dX0_wordOf_83 : decode cX0_wordOf 83 = .ok (.iinc 5 1, 3) := by decide +kernel
theorem dX0_wordOf_86 : decode cX0_wordOf 86 = .ok (.goto (-30), 3) := by decide +kernel
theorem dX0_wordOf_89 : decode cX0_wordOf 89 = .ok (.aload_n 3, 1) := by decide +kernel
theorem dX0_wordOf_90 : decode cX0_wordOf 90 = .ok (.ifnonnull 7, 3) := by decide +kernel
theorem dX0_wordOf_93 : decode cX0_wordOf 93 = .ok (.iconst (-1), 1) := by decide +kernel
theorem dX0_wordOf_94 : decode cX0_wordOf 94 = .ok (.goto 7, 3) := by decide +kernel
theorem dX0_wordOf_97 : decode cX0_wordOf 97 = .ok (.aload_n 3, 1) := by decide +kernel
theorem dX0_wordOf_98 : decode cX0_wordOf 98 = .ok (.getfield 34, 3) := by decide +kernel
theorem dX0_wordOf_101 : decode cX0_wordOf 101 = .ok (.ireturn, 1) := by decide +kernel
theorem dX0_join_0 : decode cX0_join 0 = .ok (.aload_n 0, 1) := by decide +kernel
theorem dX0_join_1 : decode cX0_join 1 = .ok (.ifnull 8, 3) := by decide +kernel
theorem dX0_join_4 : decode cX0_join 4 = .ok (.aload_n 0, 1) := by decide +kernel
theorem dX0_join_5 : decode cX0_join 5 = .ok (.aload_n 1, 1) := by decide +kernel
theorem dX0_join_6 : decode cX0_join 6 = .ok (.putfield 18, 3) := by decide +kernel
theorem dX0_join_9 : decode cX0_join 9 = .ok (.aload_n 1, 1) := by decide +kernel
theorem dX0_join_10 : decode cX0_join 10 = .ok (.ifnull 8, 3) := by decide +kernel
theorem dX0_join_13 : decode cX0_join 13 = .ok (.aload_n 1, 1) := by decide +kernel
theorem dX0_join_14 : decode cX0_join 14 = .ok (.aload_n 0, 1) := by decide +kernel
theorem dX0_join_15 : decode cX0_join 15 = .ok (.putfield 27, 3) := by decide +kernel
theorem dX0_join_18 : decode cX0_join 18 = .ok (.return_, 1) := by decide +kernel
theorem dX1_init_0 : decode cX1_init 0 = .ok (.aload_n 0, 1) := by decide +kernel
theorem dX1_init_1 : decode cX1_init 1 = .ok (.invokespecial 3, 3) := by decide +kernel
theorem dX1_init_4 : decode cX1_init 4 = .ok (.aload_n 0, 1) := by decide +kernel
theorem dX1_init_5 : decode cX1_init 5 = .ok (.new 9, 3) := by decide +kernel
theorem dX1_init_8 : decode cX1_init 8 = .ok (.dup, 1) := by decide +kernel
theorem dX1_init_9 : decode cX1_init 9 = .ok (.invokespecial 11, 3) := by decide +kernel
theorem dX1_init_12 : decode cX1_init 12 = .ok (.putfield 12, 3) := by decide +kernel
theorem dX1_init_15 : decode cX1_init 15 = .ok (.aload_n 0, 1) := by decide +kernel
theorem dX1_init_16 : decode cX1_init 16 = .ok (.new 18, 3) := by decide +kernel
theorem dX1_init_19 : decode cX1_init 19 = .ok (.dup, 1) := by decide +kernel
theorem dX1_init_20 : decode cX1_init 20 = .ok (.invokespecial 20, 3) := by decide +kernel
theorem dX1_init_23 : decode cX1_init 23 = .ok (.putfield 21, 3) := by decide +kernel
theorem dX1_init_26 : decode cX1_init 26 = .ok (.aload_n 0, 1) := by decide +kernel
theorem dX1_init_27 : decode cX1_init 27 = .ok (.iconst 4, 1) := by decide +kernel
theorem dX1_init_28 : decode cX1_init 28 = .ok (.newarray .int, 2) := by decide +kernel
theorem dX1_init_30 : decode cX1_init 30 = .ok (.putfield 25, 3) := by decide +kernel
theorem dX1_init_33 : decode cX1_init 33 = .ok (.aload_n 0, 1) := by decide +kernel
theorem dX1_init_34 : decode cX1_init 34 = .ok (.iconst 0, 1) := by decide +kernel
theorem dX1_init_35 : decode cX1_init 35 = .ok (.putfield 29, 3) := by decide +kernel
theorem dX1_init_38 : decode cX1_init 38 = .ok (.return_, 1) := by decide +kernel
theorem dX1_pass_0 : decode cX1_pass 0 = .ok (.aload_n 0, 1) := by decide +kernel
theorem dX1_pass_1 : decode cX1_pass 1 = .ok (.getfield 12, 3) := by decide +kernel
theorem dX1_pass_4 : decode cX1_pass 4 = .ok (.iload_n 1, 1) := by decide +kernel
theorem dX1_pass_5 : decode cX1_pass 5 = .ok (.invokevirtual 33, 3) := by decide +kernel
theorem dX1_pass_8 : decode cX1_pass 8 = .ok (.ifCond .ne 10, 3) := by decide +kernel
theorem dX1_pass_11 : decode cX1_pass 11 = .ok (.aload_n 0, 1) := by decide +kernel
theorem dX1_pass_12 : decode cX1_pass 12 = .ok (.bipush (-2), 2) := by decide +kernel
theorem dX1_pass_14 : decode cX1_pass 14 = .ok (.invokevirtual 37, 3) := by decide +kernel
theorem dX1_pass_17 : decode cX1_pass 17 = .ok (.ireturn, 1) := by decide +kernel
theorem dX1_pass_18 : decode cX1_pass 18 = .ok (.aload_n 0, 1) := by decide +kernel
theorem dX1_pass_19 : decode cX1_pass 19 = .ok (.getfield 12, 3) := by decide +kernel
theorem dX1_pass_22 : decode cX1_pass 22 = .ok (.invokevirtual 41, 3) := by decide +kernel
theorem dX1_pass_25 : decode cX1_pass 25 = .ok (.istore_n 2, 1) := by decide +kernel
theorem dX1_pass_26 : decode cX1_pass 26 = .ok (.aload_n 0, 1) := by decide +kernel
theorem dX1_pass_27 : decode cX1_pass 27 = .ok (.getfield 12, 3) := by decide +kernel
theorem dX1_pass_30 : decode cX1_pass 30 = .ok (.iload_n 1, 1) := by decide +kernel
theorem dX1_pass_31 : decode cX1_pass 31 = .ok (.invokevirtual 45, 3) := by decide +kernel
theorem dX1_pass_34 : decode cX1_pass 34 = .ok (.istore_n 3, 1) := by decide +kernel
theorem dX1_pass_35 : decode cX1_pass 35 = .ok (.aload_n 0, 1) := by decide +kernel
theorem dX1_pass_36 : decode cX1_pass 36 = .ok (.iconst 0, 1) := by decide +kernel
theorem dX1_pass_37 : decode cX1_pass 37 = .ok (.iload_n 2, 1) := by decide +kernel
theorem dX1_pass_38 : decode cX1_pass 38 = .ok (.iload_n 1, 1) := by decide +kernel
theorem dX1_pass_39 : decode cX1_pass 39 = .ok (.ifCond .eq 7, 3) := by decide +kernel
theorem dX1_pass_42 : decode cX1_pass 42 = .ok (.iconst 2, 1) := by decide +kernel
theorem dX1_pass_43 : decode cX1_pass 43 = .ok (.goto 4, 3) := by decide +kernel
theorem dX1_pass_46 : decode cX1_pass 46 = .ok (.iconst 1, 1) := by decide +kernel
theorem dX1_pass_47 : decode cX1_pass 47 = .ok (.invokevirtual 49, 3) := by decide +kernel
theorem dX1_pass_50 : decode cX1_pass 50 = .ok (.iload_n 3, 1) := by decide +kernel
theorem dX1_pass_51 : decode cX1_pass 51 = .ok (.ireturn, 1) := by decide +kernel
theorem dX1_insert_0 : decode cX1_insert 0 = .ok (.aload_n 0, 1) := by decide +kernel
theorem dX1_insert_1 : decode cX1_insert 1 = .ok (.getfield 12, 3) := by decide +kernel
theorem dX1_insert_4 : decode cX1_insert 4 = .ok (.invokevirtual 53, 3) := by decide +kernel
theorem dX1_insert_7 : decode cX1_insert 7 = .ok (.bipush 100, 2) := by decide +kernel
theorem dX1_insert_9 : decode cX1_insert 9 = .ok (.if_icmp .lt 10, 3) := by decide +kernel
theorem dX1_insert_12 : decode cX1_insert 12 = .ok (.aload_n 0, 1) := by decide +kernel
theorem dX1_insert_13 : decode cX1_insert 13 = .ok (.bipush (-5), 2) := by decide +kernel
theorem dX1_insert_15 : decode cX1_insert 15 = .ok (.invokevirtual 37, 3) := by decide +kernel
theorem dX1_insert_18 : decode cX1_insert 18 = .ok (.ireturn, 1) := by decide +kernel
theorem dX1_insert_19 : decode cX1_insert 19 = .ok (.aload_n 0, 1) := by decide +kernel
theorem dX1_insert_20 : decode cX1_insert 20 = .ok (.getfield 12, 3) := by decide +kernel
theorem dX1_insert_23 : decode cX1_insert 23 = .ok (.iload_n 1, 1) := by decide +kernel
theorem dX1_insert_24 : decode cX1_insert 24 = .ok (.invokevirtual 56, 3) := by decide +kernel
theorem dX1_insert_27 : decode cX1_insert 27 = .ok (.pop, 1) := by decide +kernel
theorem dX1_insert_28 : decode cX1_insert 28 = .ok (.aload_n 0, 1) := by decide +kernel
theorem dX1_insert_29 : decode cX1_insert 29 = .ok (.iconst 1, 1) := by decide +kernel
theorem dX1_insert_30 : decode cX1_insert 30 = .ok (.iconst 0, 1) := by decide +kernel
theorem dX1_insert_31 : decode cX1_insert 31 = .ok (.iconst 0, 1) := by decide +kernel
theorem dX1_insert_32 : decode cX1_insert 32 = .ok (.invokevirtual 49, 3) := by decide +kernel
theorem dX1_insert_35 : decode cX1_insert 35 = .ok (.aload_n 0, 1) := by decide +kernel
theorem dX1_insert_36 : decode cX1_insert 36 = .ok (.getfield 12, 3) := by decide +kernel
theorem dX1_insert_39 : decode cX1_insert 39 = .ok (.invokevirtual 53, 3) := by decide +kernel
theorem dX1_insert_42 : decode cX1_insert 42 = .ok (.ireturn, 1) := by decide +kernel
theorem dX1_exchange_0 : decode cX1_exchange 0 = .ok (.aload_n 0, 1) := by decide +kernel
theorem dX1_exchange_1 : decode cX1_exchange 1 = .ok (.getfield 29, 3) := by decide +kernel
theorem dX1_exchange_4 : decode cX1_exchange 4 = .ok (.ifCond .ne 10, 3) := by decide +kernel
theorem dX1_exchange_7 : decode cX1_exchange 7 = .ok (.aload_n 0, 1) := by decide +kernel
theorem dX1_exchange_8 : decode cX1_exchange 8 = .ok (.bipush (-3), 2) := by decide +kernel
theorem dX1_exchange_10 : decode cX1_exchange 10 = .ok (.invokevirtual 37, 3) := by decide +kernel
theorem dX1_exchange_13 : decode cX1_exchange 13 = .ok (.ireturn, 1) := by decide +kernel
theorem dX1_exchange_14 : decode cX1_exchange 14 = .ok (.aload_n 0, 1) := by decide +kernel
theorem dX1_exchange_15 : decode cX1_exchange 15 = .ok (.getfield 29, 3) := by decide +kernel
theorem dX1_exchange_18 : decode cX1_exchange 18 = .ok (.iconst 1, 1) := by decide +kernel
theorem dX1_exchange_19 : decode cX1_exchange 19 = .ok (.if_icmp .ne 7, 3) := by decide +kernel
theorem dX1_exchange_22 : decode cX1_exchange 22 = .ok (.iconst 1, 1) := by decide +kernel
theorem dX1_exchange_23 : decode cX1_exchange 23 = .ok (.goto 4, 3) := by decide +kernel
theorem dX1_exchange_26 : decode cX1_exchange 26 = .ok (.iconst 0, 1) := by decide +kernel
theorem dX1_exchange_27 : decode cX1_exchange 27 = .ok (.istore_n 2, 1) := by decide +kernel
theorem dX1_exchange_28 : decode cX1_exchange 28 = .ok (.aload_n 0, 1) := by decide +kernel
theorem dX1_exchange_29 : decode cX1_exchange 29 = .ok (.getfield 12, 3) := by decide +kernel
theorem dX1_exchange_32 : decode cX1_exchange 32 = .ok (.iload_n 1, 1) := by decide +kernel
theorem dX1_exchange_33 : decode cX1_exchange 33 = .ok (.iload_n 2, 1) := by decide +kernel
theorem dX1_exchange_34 : decode cX1_exchange 34 = .ok (.invokevirtual 59, 3) := by decide +kernel
theorem dX1_exchange_37 : decode cX1_exchange 37 = .ok (.istore_n 3, 1) := by decide +kernel
theorem dX1_exchange_38 : decode cX1_exchange 38 = .ok (.aload_n 0, 1) := by decide +kernel
theorem dX1_exchange_39 : decode cX1_exchange 39 = .ok (.iload_n 2, 1) := by decide +kernel
theorem dX1_exchange_40 : decode cX1_exchange 40 = .ok (.ifCond .eq 7, 3) := by decide +kernel
theorem dX1_exchange_43 : decode cX1_exchange 43 = .ok (.iconst 2, 1) := by decide +kernel
theorem dX1_exchange_44 : decode cX1_exchange 44 = .ok (.goto 4, 3) := by decide +kernel
theorem dX1_exchange_47 : decode cX1_exchange 47 = .ok (.iconst 3, 1) := by decide +kernel
theorem dX1_exchange_48 : decode cX1_exchange 48 = .ok (.iload_n 3, 1) := by decide +kernel
theorem dX1_exchange_49 : decode cX1_exchange 49 = .ok (.aload_n 0, 1) := by decide +kernel
theorem dX1_exchange_50 : decode cX1_exchange 50 = .ok (.getfield 29, 3) := by decide +kernel
theorem dX1_exchange_53 : decode cX1_exchange 53 = .ok (.invokevirtual 49, 3) := by decide +kernel
theorem dX1_exchange_56 : decode cX1_exchange 56 = .ok (.iload_n 3, 1) := by decide +kernel
theorem dX1_exchange_57 : decode cX1_exchange 57 = .ok (.ireturn, 1) := by decide +kernel
theorem dX1_drop_0 : decode cX1_drop 0 = .ok (.aload_n 0, 1) := by decide +kernel
theorem dX1_drop_1 : decode cX1_drop 1 = .ok (.getfield 29, 3) := by decide +kernel
theorem dX1_drop_4 : decode cX1_drop 4 = .ok (.ifCond .ne 10, 3) := by decide +kernel
theorem dX1_drop_7 : decode cX1_drop 7 = .ok (.aload_n 0, 1) := by decide +kernel
theorem dX1_drop_8 : decode cX1_drop 8 = .ok (.bipush (-3), 2) := by decide +kernel
theorem dX1_drop_10 : decode cX1_drop 10 = .ok (.invokevirtual 37, 3) := by decide +kernel
theorem dX1_drop_13 : decode cX1_drop 13 = .ok (.ireturn, 1) := by decide +kernel
theorem dX1_drop_14 : decode cX1_drop 14 = .ok (.aload_n 0, 1) := by decide +kernel
theorem dX1_drop_15 : decode cX1_drop 15 = .ok (.getfield 29, 3) := by decide +kernel
theorem dX1_drop_18 : decode cX1_drop 18 = .ok (.iconst 1, 1) := by decide +kernel
theorem dX1_drop_19 : decode cX1_drop 19 = .ok (.if_icmp .ne 7, 3) := by decide +kernel
theorem dX1_drop_22 : decode cX1_drop 22 = .ok (.iconst 1, 1) := by decide +kernel
theorem dX1_drop_23 : decode cX1_drop 23 = .ok (.goto 4, 3) := by decide +kernel
theorem dX1_drop_26 : decode cX1_drop 26 = .ok (.iconst 0, 1) := by decide +kernel
theorem dX1_drop_27 : decode cX1_drop 27 = .ok (.istore_n 1, 1) := by decide +kernel
theorem dX1_drop_28 : decode cX1_drop 28 = .ok (.aload_n 0, 1) := by decide +kernel
theorem dX1_drop_29 : decode cX1_drop 29 = .ok (.getfield 12, 3) := by decide +kernel
theorem dX1_drop_32 : decode cX1_drop 32 = .ok (.iload_n 1, 1) := by decide +kernel
theorem dX1_drop_33 : decode cX1_drop 33 = .ok (.invokevirtual 63, 3) := by decide +kernel
theorem dX1_drop_36 : decode cX1_drop 36 = .ok (.istore_n 2, 1) := by decide +kernel
theorem dX1_drop_37 : decode cX1_drop 37 = .ok (.aload_n 0, 1) := by decide +kernel
theorem dX1_drop_38 : decode cX1_drop 38 = .ok (.iload_n 1, 1) := by decide +kernel
theorem dX1_drop_39 : decode cX1_drop 39 = .ok (.ifCond .eq 7, 3) := by decide +kernel
theorem dX1_drop_42 : decode cX1_drop 42 = .ok (.iconst 4, 1) := by decide +kernel
theorem dX1_drop_43 : decode cX1_drop 43 = .ok (.goto 4, 3) := by decide +kernel
theorem dX1_drop_46 : decode cX1_drop 46 = .ok (.iconst 5, 1) := by decide +kernel
theorem dX1_drop_47 : decode cX1_drop 47 = .ok (.iload_n 2, 1) := by decide +kernel
theorem dX1_drop_48 : decode cX1_drop 48 = .ok (.iconst 0, 1) := by decide +kernel
theorem dX1_drop_49 : decode cX1_drop 49 = .ok (.invokevirtual 49, 3) := by decide +kernel
theorem dX1_drop_52 : decode cX1_drop 52 = .ok (.iload_n 2, 1) := by decide +kernel
theorem dX1_drop_53 : decode cX1_drop 53 = .ok (.ireturn, 1) := by decide +kernel
theorem dX1_go_0 : decode cX1_go 0 = .ok (.iload_n 1, 1) := by decide +kernel
theorem dX1_go_1 : decode cX1_go 1 = .ok (.ifCond .lt 14, 3) := by decide +kernel
theorem dX1_go_4 : decode cX1_go 4 = .ok (.iload_n 1, 1) := by decide +kernel
theorem dX1_go_5 : decode cX1_go 5 = .ok (.aload_n 0, 1) := by decide +kernel
theorem dX1_go_6 : decode cX1_go 6 = .ok (.getfield 12, 3) := by decide +kernel
theorem dX1_go_9 : decode cX1_go 9 = .ok (.invokevirtual 53, 3) := by decide +kernel
theorem dX1_go_12 : decode cX1_go 12 = .ok (.if_icmp .le 10, 3) := by decide +kernel
theorem dX1_go_15 : decode cX1_go 15 = .ok (.aload_n 0, 1) := by decide +kernel
theorem dX1_go_16 : decode cX1_go 16 = .ok (.bipush (-4), 2) := by decide +kernel
theorem dX1_go_18 : decode cX1_go 18 = .ok (.invokevirtual 37, 3) := by decide +kernel
theorem dX1_go_21 : decode cX1_go 21 = .ok (.ireturn, 1) := by decide +kernel
theorem dX1_go_22 : decode cX1_go 22 = .ok (.aload_n 0, 1) := by decide +kernel
theorem dX1_go_23 : decode cX1_go 23 = .ok (.getfield 12, 3) := by decide +kernel
theorem dX1_go_26 : decode cX1_go 26 = .ok (.invokevirtual 41, 3) := by decide +kernel
theorem dX1_go_29 : decode cX1_go 29 = .ok (.istore_n 2, 1) := by decide +kernel
theorem dX1_go_30 : decode cX1_go 30 = .ok (.aload_n 0, 1) := by decide +kernel
theorem dX1_go_31 : decode cX1_go 31 = .ok (.getfield 12, 3) := by decide +kernel
theorem dX1_go_34 : decode cX1_go 34 = .ok (.iload_n 1, 1) := by decide +kernel
theorem dX1_go_35 : decode cX1_go 35 = .ok (.invokevirtual 66, 3) := by decide +kernel
theorem dX1_go_38 : decode cX1_go 38 = .ok (.aload_n 0, 1) := by decide +kernel
theorem dX1_go_39 : decode cX1_go 39 = .ok (.iconst 0, 1) := by decide +kernel
theorem dX1_go_40 : decode cX1_go 40 = .ok (.iload_n 2, 1) := by decide +kernel
theorem dX1_go_41 : decode cX1_go 41 = .ok (.iconst 0, 1) := by decide +kernel
theorem dX1_go_42 : decode cX1_go 42 = .ok (.invokevirtual 49, 3) := by decide +kernel
theorem dX1_go_45 : decode cX1_go 45 = .ok (.iload_n 1, 1) := by decide +kernel
theorem dX1_go_46 : decode cX1_go 46 = .ok (.ireturn, 1) := by decide +kernel
theorem dX1_seek_0 : decode cX1_seek 0 = .ok (.aload_n 0, 1) := by decide +kernel
theorem dX1_seek_1 : decode cX1_seek 1 = .ok (.getfield 12, 3) := by decide +kernel
theorem dX1_seek_4 : decode cX1_seek 4 = .ok (.iload_n 1, 1) := by decide +kernel
theorem dX1_seek_5 : decode cX1_seek 5 = .ok (.iload_n 2, 1) := by decide +kernel
theorem dX1_seek_6 : decode cX1_seek 6 = .ok (.invokevirtual 70, 3) := by decide +kernel
theorem dX1_seek_9 : decode cX1_seek 9 = .ok (.istore_n 3, 1) := by decide +kernel
theorem dX1_seek_10 : decode cX1_seek 10 = .ok (.iload_n 3, 1) := by decide +kernel
theorem dX1_seek_11 : decode cX1_seek 11 = .ok (.ifCond .ne 10, 3) := by decide +kernel
theorem dX1_seek_14 : decode cX1_seek 14 = .ok (.aload_n 0, 1) := by decide +kernel
theorem dX1_seek_15 : decode cX1_seek 15 = .ok (.bipush (-2), 2) := by decide +kernel
theorem dX1_seek_17 : decode cX1_seek 17 = .ok (.invokevirtual 37, 3) := by decide +kernel
theorem dX1_seek_20 : decode cX1_seek 20 = .ok (.ireturn, 1) := by decide +kernel
theorem dX1_seek_21 : decode cX1_seek 21 = .ok (.aload_n 0, 1) := by decide +kernel
theorem dX1_seek_22 : decode cX1_seek 22 = .ok (.getfield 12, 3) := by decide +kernel
theorem dX1_seek_25 : decode cX1_seek 25 = .ok (.invokevirtual 41, 3) := by decide +kernel
theorem dX1_seek_28 : decode cX1_seek 28 = .ok (.istore 4, 2) := by decide +kernel
theorem dX1_seek_30 : decode cX1_seek 30 = .ok (.iconst 0, 1) := by decide +kernel
theorem dX1_seek_31 : decode cX1_seek 31 = .ok (.istore 5, 2) := by decide +kernel
theorem dX1_seek_33 : decode cX1_seek 33 = .ok (.iload 5, 2) := by decide +kernel
theorem dX1_seek_35 : decode cX1_seek 35 = .ok (.iload_n 3, 1) := by decide +kernel
theorem dX1_seek_36 : decode cX1_seek 36 = .ok (.if_icmp .ge 18, 3) := by decide +kernel
theorem dX1_seek_39 : decode cX1_seek 39 = .ok (.aload_n 0, 1) := by decide +kernel
theorem dX1_seek_40 : decode cX1_seek 40 = .ok (.getfield 12, 3) := by decide +kernel
theorem dX1_seek_43 : decode cX1_seek 43 = .ok (.iload_n 2, 1) := by decide +kernel
theorem dX1_seek_44 : decode cX1_seek 44 = .ok (.invokevirtual 45, 3) := by decide +kernel
theorem dX1_seek_47 : decode cX1_seek 47 = .ok (.pop, 1) := by decide +kernel
theorem dX1_seek_48 : decode cX1_seek 48 = .ok (.iinc 5 1, 3) := by decide +kernel
theorem dX1_seek_51 : decode cX1_seek 51 = .ok (.goto (-18), 3) := by decide +kernel
theorem dX1_seek_54 : decode cX1_seek 54 = .ok (.aload_n 0, 1) := by decide +kernel
theorem dX1_seek_55 : decode cX1_seek 55 = .ok (.iconst 0, 1) := by decide +kernel
theorem dX1_seek_56 : decode cX1_seek 56 = .ok (.iload 4, 2) := by decide +kernel
theorem dX1_seek_58 : decode cX1_seek 58 = .ok (.iload_n 2, 1) := by decide +kernel
theorem dX1_seek_59 : decode cX1_seek 59 = .ok (.ifCond .eq 7, 3) := by decide +kernel
theorem dX1_seek_62 : decode cX1_seek 62 = .ok (.iconst 2, 1) := by decide +kernel
theorem dX1_seek_63 : decode cX1_seek 63 = .ok (.goto 4, 3) := by decide +kernel
theorem dX1_seek_66 : decode cX1_seek 66 = .ok (.iconst 1, 1) := by decide +kernel
theorem dX1_seek_67 : decode cX1_seek 67 = .ok (.invokevirtual 49, 3) := by decide +kernel
theorem dX1_seek_70 : decode cX1_seek 70 = .ok (.iload_n 3, 1) := by decide +kernel
theorem dX1_seek_71 : decode cX1_seek 71 = .ok (.ireturn, 1) := by decide +kernel
theorem dX1_cross_0 : decode cX1_cross 0 = .ok (.aload_n 0, 1) := by decide +kernel
theorem dX1_cross_1 : decode cX1_cross 1 = .ok (.getfield 12, 3) := by decide +kernel
theorem dX1_cross_4 : decode cX1_cross 4 = .ok (.iconst 1, 1) := by decide +kernel
theorem dX1_cross_5 : decode cX1_cross 5 = .ok (.invokevirtual 33, 3) := by decide +kernel
theorem dX1_cross_8 : decode cX1_cross 8 = .ok (.ifCond .eq 14, 3) := by decide +kernel
theorem dX1_cross_11 : decode cX1_cross 11 = .ok (.aload_n 0, 1) := by decide +kernel
theorem dX1_cross_12 : decode cX1_cross 12 = .ok (.getfield 12, 3) := by decide +kernel
theorem dX1_cross_15 : decode cX1_cross 15 = .ok (.iconst 0, 1) := by decide +kernel
theorem dX1_cross_16 : decode cX1_cross 16 = .ok (.invokevirtual 33, 3) := by decide +kernel
theorem dX1_cross_19 : decode cX1_cross 19 = .ok (.ifCond .ne 10, 3) := by decide +kernel
theorem dX1_cross_22 : decode cX1_cross 22 = .ok (.aload_n 0, 1) := by decide +kernel
theorem dX1_cross_23 : decode cX1_cross 23 = .ok (.bipush (-2), 2) := by decide +kernel
theorem dX1_cross_25 : decode cX1_cross 25 = .ok (.invokevirtual 37, 3) := by decide +kernel
theorem dX1_cross_28 : decode cX1_cross 28 = .ok (.ireturn, 1) := by decide +kernel
theorem dX1_cross_29 : decode cX1_cross 29 = .ok (.aload_n 0, 1) := by decide +kernel
theorem dX1_cross_30 : decode cX1_cross 30 = .ok (.getfield 12, 3) := by decide +kernel
theorem dX1_cross_33 : decode cX1_cross 33 = .ok (.invokevirtual 73, 3) := by decide +kernel
theorem dX1_cross_36 : decode cX1_cross 36 = .ok (.istore_n 1, 1) := by decide +kernel
theorem dX1_cross_37 : decode cX1_cross 37 = .ok (.aload_n 0, 1) := by decide +kernel
theorem dX1_cross_38 : decode cX1_cross 38 = .ok (.bipush 6, 2) := by decide +kernel
theorem dX1_cross_40 : decode cX1_cross 40 = .ok (.iconst 0, 1) := by decide +kernel
theorem dX1_cross_41 : decode cX1_cross 41 = .ok (.iconst 1, 1) := by decide +kernel
theorem dX1_cross_42 : decode cX1_cross 42 = .ok (.invokevirtual 49, 3) := by decide +kernel
theorem dX1_cross_45 : decode cX1_cross 45 = .ok (.iload_n 1, 1) := by decide +kernel
theorem dX1_cross_46 : decode cX1_cross 46 = .ok (.ireturn, 1) := by decide +kernel
theorem dX1_takeBack_0 : decode cX1_takeBack 0 = .ok (.aload_n 0, 1) := by decide +kernel
theorem dX1_takeBack_1 : decode cX1_takeBack 1 = .ok (.getfield 21, 3) := by decide +kernel
theorem dX1_takeBack_4 : decode cX1_takeBack 4 = .ok (.getfield 76, 3) := by decide +kernel
theorem dX1_takeBack_7 : decode cX1_takeBack 7 = .ok (.ifCond .ne 5, 3) := by decide +kernel
theorem dX1_takeBack_10 : decode cX1_takeBack 10 = .ok (.iconst (-1), 1) := by decide +kernel
theorem dX1_takeBack_11 : decode cX1_takeBack 11 = .ok (.ireturn, 1) := by decide +kernel
theorem dX1_takeBack_12 : decode cX1_takeBack 12 = .ok (.aload_n 0, 1) := by decide +kernel
theorem dX1_takeBack_13 : decode cX1_takeBack 13 = .ok (.getfield 21, 3) := by decide +kernel
theorem dX1_takeBack_16 : decode cX1_takeBack 16 = .ok (.invokevirtual 79, 3) := by decide +kernel
theorem dX1_takeBack_19 : decode cX1_takeBack 19 = .ok (.istore_n 1, 1) := by decide +kernel
theorem dX1_takeBack_20 : decode cX1_takeBack 20 = .ok (.aload_n 0, 1) := by decide +kernel
theorem dX1_takeBack_21 : decode cX1_takeBack 21 = .ok (.getfield 21, 3) := by decide +kernel
theorem dX1_takeBack_24 : decode cX1_takeBack 24 = .ok (.invokevirtual 82, 3) := by decide +kernel
theorem dX1_takeBack_27 : decode cX1_takeBack 27 = .ok (.tableswitch 119 0 5 #[37, 48, 60, 73, 86, 98], 37) := by decide +kernel
theorem dX1_takeBack_64 : decode cX1_takeBack 64 = .ok (.aload_n 0, 1) := by decide +kernel
theorem dX1_takeBack_65 : decode cX1_takeBack 65 = .ok (.getfield 12, 3) := by decide +kernel
theorem dX1_takeBack_68 : decode cX1_takeBack 68 = .ok (.iload_n 1, 1) := by decide +kernel
theorem dX1_takeBack_69 : decode cX1_takeBack 69 = .ok (.invokevirtual 66, 3) := by decide +kernel
theorem dX1_takeBack_72 : decode cX1_takeBack 72 = .ok (.goto 82, 3) := by decide +kernel
theorem dX1_takeBack_75 : decode cX1_takeBack 75 = .ok (.aload_n 0, 1) := by decide +kernel
theorem dX1_takeBack_76 : decode cX1_takeBack 76 = .ok (.getfield 12, 3) := by decide +kernel
theorem dX1_takeBack_79 : decode cX1_takeBack 79 = .ok (.iconst 1, 1) := by decide +kernel
theorem dX1_takeBack_80 : decode cX1_takeBack 80 = .ok (.invokevirtual 63, 3) := by decide +kernel
theorem dX1_takeBack_83 : decode cX1_takeBack 83 = .ok (.pop, 1) := by decide +kernel
theorem dX1_takeBack_84 : decode cX1_takeBack 84 = .ok (.goto 70, 3) := by decide +kernel
theorem dX1_takeBack_87 : decode cX1_takeBack 87 = .ok (.aload_n 0, 1) := by decide +kernel
theorem dX1_takeBack_88 : decode cX1_takeBack 88 = .ok (.getfield 12, 3) := by decide +kernel
theorem dX1_takeBack_91 : decode cX1_takeBack 91 = .ok (.iload_n 1, 1) := by decide +kernel
theorem dX1_takeBack_92 : decode cX1_takeBack 92 = .ok (.iconst 1, 1) := by decide +kernel
theorem dX1_takeBack_93 : decode cX1_takeBack 93 = .ok (.invokevirtual 59, 3) := by decide +kernel
theorem dX1_takeBack_96 : decode cX1_takeBack 96 = .ok (.pop, 1) := by decide +kernel
theorem dX1_takeBack_97 : decode cX1_takeBack 97 = .ok (.goto 57, 3) := by decide +kernel
theorem dX1_takeBack_100 : decode cX1_takeBack 100 = .ok (.aload_n 0, 1) := by decide +kernel
theorem dX1_takeBack_101 : decode cX1_takeBack 101 = .ok (.getfield 12, 3) := by decide +kernel
theorem dX1_takeBack_104 : decode cX1_takeBack 104 = .ok (.iload_n 1, 1) := by decide +kernel
theorem dX1_takeBack_105 : decode cX1_takeBack 105 = .ok (.iconst 0, 1) := by decide +kernel
theorem dX1_takeBack_106 : decode cX1_takeBack 106 = .ok (.invokevirtual 59, 3) := by decide +kernel
theorem dX1_takeBack_109 : decode cX1_takeBack 109 = .ok (.pop, 1) := by decide +kernel
theorem dX1_takeBack_110 : decode cX1_takeBack 110 = .ok (.goto 44, 3) := by decide +kernel
theorem dX1_takeBack_113 : decode cX1_takeBack 113 = .ok (.aload_n 0, 1) := by decide +kernel
theorem dX1_takeBack_114 : decode cX1_takeBack 114 = .ok (.getfield 12, 3) := by decide +kernel
theorem dX1_takeBack_117 : decode cX1_takeBack 117 = .ok (.iload_n 1, 1) := by decide +kernel
theorem dX1_takeBack_118 : decode cX1_takeBack 118 = .ok (.invokevirtual 56, 3) := by decide +kernel
theorem dX1_takeBack_121 : decode cX1_takeBack 121 = .ok (.pop, 1) := by decide +kernel
theorem dX1_takeBack_122 : decode cX1_takeBack 122 = .ok (.goto 32, 3) := by decide +kernel
theorem dX1_takeBack_125 : decode cX1_takeBack 125 = .ok (.aload_n 0, 1) := by decide +kernel
theorem dX1_takeBack_126 : decode cX1_takeBack 126 = .ok (.getfield 12, 3) := by decide +kernel
theorem dX1_takeBack_129 : decode cX1_takeBack 129 = .ok (.iload_n 1, 1) := by decide +kernel
theorem dX1_takeBack_130 : decode cX1_takeBack 130 = .ok (.invokevirtual 56, 3) := by decide +kernel
theorem dX1_takeBack_133 : decode cX1_takeBack 133 = .ok (.pop, 1) := by decide +kernel
theorem dX1_takeBack_134 : decode cX1_takeBack 134 = .ok (.aload_n 0, 1) := by decide +kernel
theorem dX1_takeBack_135 : decode cX1_takeBack 135 = .ok (.getfield 12, 3) := by decide +kernel
theorem dX1_takeBack_138 : decode cX1_takeBack 138 = .ok (.iconst 1, 1) := by decide +kernel
theorem dX1_takeBack_139 : decode cX1_takeBack 139 = .ok (.invokevirtual 45, 3) := by decide +kernel
theorem dX1_takeBack_142 : decode cX1_takeBack 142 = .ok (.pop, 1) := by decide +kernel
theorem dX1_takeBack_143 : decode cX1_takeBack 143 = .ok (.goto 11, 3) := by decide +kernel
theorem dX1_takeBack_146 : decode cX1_takeBack 146 = .ok (.aload_n 0, 1) := by decide +kernel
theorem dX1_takeBack_147 : decode cX1_takeBack 147 = .ok (.getfield 12, 3) := by decide +kernel
theorem dX1_takeBack_150 : decode cX1_takeBack 150 = .ok (.invokevirtual 73, 3) := by decide +kernel
theorem dX1_takeBack_153 : decode cX1_takeBack 153 = .ok (.pop, 1) := by decide +kernel
theorem dX1_takeBack_154 : decode cX1_takeBack 154 = .ok (.aload_n 0, 1) := by decide +kernel
theorem dX1_takeBack_155 : decode cX1_takeBack 155 = .ok (.getfield 21, 3) := by decide +kernel
theorem dX1_takeBack_158 : decode cX1_takeBack 158 = .ok (.invokevirtual 85, 3) := by decide +kernel
theorem dX1_takeBack_161 : decode cX1_takeBack 161 = .ok (.aload_n 0, 1) := by decide +kernel
theorem dX1_takeBack_162 : decode cX1_takeBack 162 = .ok (.iconst 0, 1) := by decide +kernel
theorem dX1_takeBack_163 : decode cX1_takeBack 163 = .ok (.putfield 29, 3) := by decide +kernel
theorem dX1_takeBack_166 : decode cX1_takeBack 166 = .ok (.aload_n 0, 1) := by decide +kernel
theorem dX1_takeBack_167 : decode cX1_takeBack 167 = .ok (.getfield 21, 3) := by decide +kernel
theorem dX1_takeBack_170 : decode cX1_takeBack 170 = .ok (.getfield 76, 3) := by decide +kernel
theorem dX1_takeBack_173 : decode cX1_takeBack 173 = .ok (.ireturn, 1) := by decide +kernel
theorem dX1_startAnew_0 : decode cX1_startAnew 0 = .ok (.aload_n 0, 1) := by decide +kernel
theorem dX1_startAnew_1 : decode cX1_startAnew 1 = .ok (.getfield 12, 3) := by decide +kernel
theorem dX1_startAnew_4 : decode cX1_startAnew 4 = .ok (.invokevirtual 88, 3) := by decide +kernel
theorem dX1_startAnew_7 : decode cX1_startAnew 7 = .ok (.aload_n 0, 1) := by decide +kernel
theorem dX1_startAnew_8 : decode cX1_startAnew 8 = .ok (.getfield 21, 3) := by decide +kernel
theorem dX1_startAnew_11 : decode cX1_startAnew 11 = .ok (.iconst 0, 1) := by decide +kernel
theorem dX1_startAnew_12 : decode cX1_startAnew 12 = .ok (.putfield 76, 3) := by decide +kernel
theorem dX1_startAnew_15 : decode cX1_startAnew 15 = .ok (.aload_n 0, 1) := by decide +kernel
theorem dX1_startAnew_16 : decode cX1_startAnew 16 = .ok (.iconst 0, 1) := by decide +kernel
theorem dX1_startAnew_17 : decode cX1_startAnew 17 = .ok (.putfield 29, 3) := by decide +kernel
theorem dX1_startAnew_20 : decode cX1_startAnew 20 = .ok (.return_, 1) := by decide +kernel
theorem dX1_conclude_0 : decode cX1_conclude 0 = .ok (.aload_n 0, 1) := by decide +kernel
theorem dX1_conclude_1 : decode cX1_conclude 1 = .ok (.getfield 21, 3) := by decide +kernel
theorem dX1_conclude_4 : decode cX1_conclude 4 = .ok (.iload_n 1, 1) := by decide +kernel
theorem dX1_conclude_5 : decode cX1_conclude 5 = .ok (.iload_n 2, 1) := by decide +kernel
theorem dX1_conclude_6 : decode cX1_conclude 6 = .ok (.invokevirtual 91, 3) := by decide +kernel
theorem dX1_conclude_9 : decode cX1_conclude 9 = .ok (.aload_n 0, 1) := by decide +kernel
theorem dX1_conclude_10 : decode cX1_conclude 10 = .ok (.dup, 1) := by decide +kernel
theorem dX1_conclude_11 : decode cX1_conclude 11 = .ok (.getfield 95, 3) := by decide +kernel
theorem dX1_conclude_14 : decode cX1_conclude 14 = .ok (.iconst 1, 1) := by decide +kernel
theorem dX1_conclude_15 : decode cX1_conclude 15 = .ok (.iadd, 1) := by decide +kernel
theorem dX1_conclude_16 : decode cX1_conclude 16 = .ok (.putfield 95, 3) := by decide +kernel
theorem dX1_conclude_19 : decode cX1_conclude 19 = .ok (.aload_n 0, 1) := by decide +kernel
theorem dX1_conclude_20 : decode cX1_conclude 20 = .ok (.iload_n 3, 1) := by decide +kernel
theorem dX1_conclude_21 : decode cX1_conclude 21 = .ok (.putfield 29, 3) := by decide +kernel
theorem dX1_conclude_24 : decode cX1_conclude 24 = .ok (.return_, 1) := by decide +kernel
theorem dX1_refuse_0 : decode cX1_refuse 0 = .ok (.bipush (-2), 2) := by decide +kernel
theorem dX1_refuse_2 : decode cX1_refuse 2 = .ok (.iload_n 1, 1) := by decide +kernel
theorem dX1_refuse_3 : decode cX1_refuse 3 = .ok (.isub, 1) := by decide +kernel
theorem dX1_refuse_4 : decode cX1_refuse 4 = .ok (.istore_n 2, 1) := by decide +kernel
theorem dX1_refuse_5 : decode cX1_refuse 5 = .ok (.iload_n 2, 1) := by decide +kernel
theorem dX1_refuse_6 : decode cX1_refuse 6 = .ok (.ifCond .lt 22, 3) := by decide +kernel
theorem dX1_refuse_9 : decode cX1_refuse 9 = .ok (.iload_n 2, 1) := by decide +kernel
theorem dX1_refuse_10 : decode cX1_refuse 10 = .ok (.aload_n 0, 1) := by decide +kernel
theorem dX1_refuse_11 : decode cX1_refuse 11 = .ok (.getfield 25, 3) := by decide +kernel
theorem dX1_refuse_14 : decode cX1_refuse 14 = .ok (.arraylength, 1) := by decide +kernel
theorem dX1_refuse_15 : decode cX1_refuse 15 = .ok (.if_icmp .ge 13, 3) := by decide +kernel
theorem dX1_refuse_18 : decode cX1_refuse 18 = .ok (.aload_n 0, 1) := by decide +kernel
theorem dX1_refuse_19 : decode cX1_refuse 19 = .ok (.getfield 25, 3) := by decide +kernel
theorem dX1_refuse_22 : decode cX1_refuse 22 = .ok (.iload_n 2, 1) := by decide +kernel
theorem dX1_refuse_23 : decode cX1_refuse 23 = .ok (.dup2, 1) := by decide +kernel
theorem dX1_refuse_24 : decode cX1_refuse 24 = .ok (.iaload, 1) := by decide +kernel
theorem dX1_refuse_25 : decode cX1_refuse 25 = .ok (.iconst 1, 1) := by decide +kernel
theorem dX1_refuse_26 : decode cX1_refuse 26 = .ok (.iadd, 1) := by decide +kernel
theorem dX1_refuse_27 : decode cX1_refuse 27 = .ok (.iastore, 1) := by decide +kernel
theorem dX1_refuse_28 : decode cX1_refuse 28 = .ok (.iload_n 1, 1) := by decide +kernel
theorem dX1_refuse_29 : decode cX1_refuse 29 = .ok (.ireturn, 1) := by decide +kernel
theorem dX2_init_0 : decode cX2_init 0 = .ok (.aload_n 0, 1) := by decide +kernel
theorem dX2_init_1 : decode cX2_init 1 = .ok (.invokespecial 3, 3) := by decide +kernel
theorem dX2_init_4 : decode cX2_init 4 = .ok (.aload_n 0, 1) := by decide +kernel
theorem dX2_init_5 : decode cX2_init 5 = .ok (.bipush 50, 2) := by decide +kernel
theorem dX2_init_7 : decode cX2_init 7 = .ok (.newarray .int, 2) := by decide +kernel
theorem dX2_init_9 : decode cX2_init 9 = .ok (.putfield 9, 3) := by decide +kernel
theorem dX2_init_12 : decode cX2_init 12 = .ok (.aload_n 0, 1) := by decide +kernel
theorem dX2_init_13 : decode cX2_init 13 = .ok (.bipush 50, 2) := by decide +kernel
theorem dX2_init_15 : decode cX2_init 15 = .ok (.newarray .int, 2) := by decide +kernel
theorem dX2_init_17 : decode cX2_init 17 = .ok (.putfield 15, 3) := by decide +kernel
theorem dX2_init_20 : decode cX2_init 20 = .ok (.return_, 1) := by decide +kernel
theorem dX2_keep_0 : decode cX2_keep 0 = .ok (.aload_n 0, 1) := by decide +kernel
theorem dX2_keep_1 : decode cX2_keep 1 = .ok (.aload_n 0, 1) := by decide +kernel
theorem dX2_keep_2 : decode cX2_keep 2 = .ok (.getfield 18, 3) := by decide +kernel
theorem dX2_keep_5 : decode cX2_keep 5 = .ok (.iconst 1, 1) := by decide +kernel
theorem dX2_keep_6 : decode cX2_keep 6 = .ok (.iadd, 1) := by decide +kernel
theorem dX2_keep_7 : decode cX2_keep 7 = .ok (.bipush 50, 2) := by decide +kernel
theorem dX2_keep_9 : decode cX2_keep 9 = .ok (.irem, 1) := by decide +kernel
theorem dX2_keep_10 : decode cX2_keep 10 = .ok (.putfield 18, 3) := by decide +kernel
theorem dX2_keep_13 : decode cX2_keep 13 = .ok (.aload_n 0, 1) := by decide +kernel
theorem dX2_keep_14 : decode cX2_keep 14 = .ok (.getfield 9, 3) := by decide +kernel
theorem dX2_keep_17 : decode cX2_keep 17 = .ok (.aload_n 0, 1) := by decide +kernel
theorem dX2_keep_18 : decode cX2_keep 18 = .ok (.getfield 18, 3) := by decide +kernel
theorem dX2_keep_21 : decode cX2_keep 21 = .ok (.iload_n 1, 1) := by decide +kernel
theorem dX2_keep_22 : decode cX2_keep 22 = .ok (.iastore, 1) := by decide +kernel
theorem dX2_keep_23 : decode cX2_keep 23 = .ok (.aload_n 0, 1) := by decide +kernel
theorem dX2_keep_24 : decode cX2_keep 24 = .ok (.getfield 15, 3) := by decide +kernel
theorem dX2_keep_27 : decode cX2_keep 27 = .ok (.aload_n 0, 1) := by decide +kernel
theorem dX2_keep_28 : decode cX2_keep 28 = .ok (.getfield 18, 3) := by decide +kernel
theorem dX2_keep_31 : decode cX2_keep 31 = .ok (.iload_n 2, 1) := by decide +kernel
theorem dX2_keep_32 : decode cX2_keep 32 = .ok (.iastore, 1) := by decide +kernel
theorem dX2_keep_33 : decode cX2_keep 33 = .ok (.aload_n 0, 1) := by decide +kernel
theorem dX2_keep_34 : decode cX2_keep 34 = .ok (.aload_n 0, 1) := by decide +kernel
theorem dX2_keep_35 : decode cX2_keep 35 = .ok (.getfield 22, 3) := by decide +kernel
theorem dX2_keep_38 : decode cX2_keep 38 = .ok (.iconst 1, 1) := by decide +kernel
theorem dX2_keep_39 : decode cX2_keep 39 = .ok (.iadd, 1) := by decide +kernel
theorem dX2_keep_40 : decode cX2_keep 40 = .ok (.bipush 50, 2) := by decide +kernel
theorem dX2_keep_42 : decode cX2_keep 42 = .ok (.invokestatic 25, 3) := by decide +kernel
theorem dX2_keep_45 : decode cX2_keep 45 = .ok (.putfield 22, 3) := by decide +kernel
theorem dX2_keep_48 : decode cX2_keep 48 = .ok (.return_, 1) := by decide +kernel
theorem dX2_latestKind_0 : decode cX2_latestKind 0 = .ok (.aload_n 0, 1) := by decide +kernel
theorem dX2_latestKind_1 : decode cX2_latestKind 1 = .ok (.getfield 9, 3) := by decide +kernel
theorem dX2_latestKind_4 : decode cX2_latestKind 4 = .ok (.aload_n 0, 1) := by decide +kernel
theorem dX2_latestKind_5 : decode cX2_latestKind 5 = .ok (.getfield 18, 3) := by decide +kernel
theorem dX2_latestKind_8 : decode cX2_latestKind 8 = .ok (.iaload, 1) := by decide +kernel
theorem dX2_latestKind_9 : decode cX2_latestKind 9 = .ok (.ireturn, 1) := by decide +kernel
theorem dX2_latestNumber_0 : decode cX2_latestNumber 0 = .ok (.aload_n 0, 1) := by decide +kernel
theorem dX2_latestNumber_1 : decode cX2_latestNumber 1 = .ok (.getfield 15, 3) := by decide +kernel
theorem dX2_latestNumber_4 : decode cX2_latestNumber 4 = .ok (.aload_n 0, 1) := by decide +kernel
theorem dX2_latestNumber_5 : decode cX2_latestNumber 5 = .ok (.getfield 18, 3) := by decide +kernel
theorem dX2_latestNumber_8 : decode cX2_latestNumber 8 = .ok (.iaload, 1) := by decide +kernel
theorem dX2_latestNumber_9 : decode cX2_latestNumber 9 = .ok (.ireturn, 1) := by decide +kernel
theorem dX2_forgetLatest_0 : decode cX2_forgetLatest 0 = .ok (.aload_n 0, 1) := by decide +kernel
theorem dX2_forgetLatest_1 : decode cX2_forgetLatest 1 = .ok (.aload_n 0, 1) := by decide +kernel
theorem dX2_forgetLatest_2 : decode cX2_forgetLatest 2 = .ok (.getfield 18, 3) := by decide +kernel
theorem dX2_forgetLatest_5 : decode cX2_forgetLatest 5 = .ok (.bipush 50, 2) := by decide +kernel
theorem dX2_forgetLatest_7 : decode cX2_forgetLatest 7 = .ok (.iadd, 1) := by decide +kernel
theorem dX2_forgetLatest_8 : decode cX2_forgetLatest 8 = .ok (.iconst 1, 1) := by decide +kernel
theorem dX2_forgetLatest_9 : decode cX2_forgetLatest 9 = .ok (.isub, 1) := by decide +kernel
theorem dX2_forgetLatest_10 : decode cX2_forgetLatest 10 = .ok (.bipush 50, 2) := by decide +kernel
theorem dX2_forgetLatest_12 : decode cX2_forgetLatest 12 = .ok (.irem, 1) := by decide +kernel
theorem dX2_forgetLatest_13 : decode cX2_forgetLatest 13 = .ok (.putfield 18, 3) := by decide +kernel
theorem dX2_forgetLatest_16 : decode cX2_forgetLatest 16 = .ok (.aload_n 0, 1) := by decide +kernel
theorem dX2_forgetLatest_17 : decode cX2_forgetLatest 17 = .ok (.dup, 1) := by decide +kernel
theorem dX2_forgetLatest_18 : decode cX2_forgetLatest 18 = .ok (.getfield 22, 3) := by decide +kernel
theorem dX2_forgetLatest_21 : decode cX2_forgetLatest 21 = .ok (.iconst 1, 1) := by decide +kernel
theorem dX2_forgetLatest_22 : decode cX2_forgetLatest 22 = .ok (.isub, 1) := by decide +kernel
theorem dX2_forgetLatest_23 : decode cX2_forgetLatest 23 = .ok (.putfield 22, 3) := by decide +kernel
theorem dX2_forgetLatest_26 : decode cX2_forgetLatest 26 = .ok (.return_, 1) := by decide +kernel
