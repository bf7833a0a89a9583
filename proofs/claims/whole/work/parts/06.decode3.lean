theorem dX6_caret_0 : decode cX6_caret 0 = .ok (.aload_n 0, 1) := by decide +kernel
theorem dX6_caret_1 : decode cX6_caret 1 = .ok (.getfield 16, 3) := by decide +kernel
theorem dX6_caret_4 : decode cX6_caret 4 = .ok (.iconst 0, 1) := by decide +kernel
theorem dX6_caret_5 : decode cX6_caret 5 = .ok (.iaload, 1) := by decide +kernel
theorem dX6_caret_6 : decode cX6_caret 6 = .ok (.ireturn, 1) := by decide +kernel
theorem dX6_length_0 : decode cX6_length 0 = .ok (.aload_n 0, 1) := by decide +kernel
theorem dX6_length_1 : decode cX6_length 1 = .ok (.getfield 16, 3) := by decide +kernel
theorem dX6_length_4 : decode cX6_length 4 = .ok (.iconst 0, 1) := by decide +kernel
theorem dX6_length_5 : decode cX6_length 5 = .ok (.iaload, 1) := by decide +kernel
theorem dX6_length_6 : decode cX6_length 6 = .ok (.aload_n 0, 1) := by decide +kernel
theorem dX6_length_7 : decode cX6_length 7 = .ok (.getfield 16, 3) := by decide +kernel
theorem dX6_length_10 : decode cX6_length 10 = .ok (.iconst 1, 1) := by decide +kernel
theorem dX6_length_11 : decode cX6_length 11 = .ok (.iaload, 1) := by decide +kernel
theorem dX6_length_12 : decode cX6_length 12 = .ok (.iadd, 1) := by decide +kernel
theorem dX6_length_13 : decode cX6_length 13 = .ok (.ireturn, 1) := by decide +kernel
theorem dX6_wordOf_0 : decode cX6_wordOf 0 = .ok (.aload_n 0, 1) := by decide +kernel
theorem dX6_wordOf_1 : decode cX6_wordOf 1 = .ok (.getfield 16, 3) := by decide +kernel
theorem dX6_wordOf_4 : decode cX6_wordOf 4 = .ok (.iconst 0, 1) := by decide +kernel
theorem dX6_wordOf_5 : decode cX6_wordOf 5 = .ok (.iaload, 1) := by decide +kernel
theorem dX6_wordOf_6 : decode cX6_wordOf 6 = .ok (.aload_n 0, 1) := by decide +kernel
theorem dX6_wordOf_7 : decode cX6_wordOf 7 = .ok (.getfield 16, 3) := by decide +kernel
theorem dX6_wordOf_10 : decode cX6_wordOf 10 = .ok (.iconst 1, 1) := by decide +kernel
theorem dX6_wordOf_11 : decode cX6_wordOf 11 = .ok (.iaload, 1) := by decide +kernel
theorem dX6_wordOf_12 : decode cX6_wordOf 12 = .ok (.iadd, 1) := by decide +kernel
theorem dX6_wordOf_13 : decode cX6_wordOf 13 = .ok (.iconst 1, 1) := by decide +kernel
theorem dX6_wordOf_14 : decode cX6_wordOf 14 = .ok (.isub, 1) := by decide +kernel
theorem dX6_wordOf_15 : decode cX6_wordOf 15 = .ok (.iload_n 1, 1) := by decide +kernel
theorem dX6_wordOf_16 : decode cX6_wordOf 16 = .ok (.isub, 1) := by decide +kernel
theorem dX6_wordOf_17 : decode cX6_wordOf 17 = .ok (.istore_n 2, 1) := by decide +kernel
theorem dX6_wordOf_18 : decode cX6_wordOf 18 = .ok (.iload_n 1, 1) := by decide +kernel
theorem dX6_wordOf_19 : decode cX6_wordOf 19 = .ok (.ifCond .lt 7, 3) := by decide +kernel
theorem dX6_wordOf_22 : decode cX6_wordOf 22 = .ok (.iload_n 2, 1) := by decide +kernel
theorem dX6_wordOf_23 : decode cX6_wordOf 23 = .ok (.ifCond .ge 5, 3) := by decide +kernel
theorem dX6_wordOf_26 : decode cX6_wordOf 26 = .ok (.iconst (-1), 1) := by decide +kernel
theorem dX6_wordOf_27 : decode cX6_wordOf 27 = .ok (.ireturn, 1) := by decide +kernel
theorem dX6_wordOf_28 : decode cX6_wordOf 28 = .ok (.iload_n 1, 1) := by decide +kernel
theorem dX6_wordOf_29 : decode cX6_wordOf 29 = .ok (.aload_n 0, 1) := by decide +kernel
theorem dX6_wordOf_30 : decode cX6_wordOf 30 = .ok (.getfield 16, 3) := by decide +kernel
theorem dX6_wordOf_33 : decode cX6_wordOf 33 = .ok (.iconst 0, 1) := by decide +kernel
theorem dX6_wordOf_34 : decode cX6_wordOf 34 = .ok (.iaload, 1) := by decide +kernel
theorem dX6_wordOf_35 : decode cX6_wordOf 35 = .ok (.if_icmp .ge 14, 3) := by decide +kernel
theorem dX6_wordOf_38 : decode cX6_wordOf 38 = .ok (.aload_n 0, 1) := by decide +kernel
theorem dX6_wordOf_39 : decode cX6_wordOf 39 = .ok (.getfield 11, 3) := by decide +kernel
theorem dX6_wordOf_42 : decode cX6_wordOf 42 = .ok (.iconst 0, 1) := by decide +kernel
theorem dX6_wordOf_43 : decode cX6_wordOf 43 = .ok (.aaload, 1) := by decide +kernel
theorem dX6_wordOf_44 : decode cX6_wordOf 44 = .ok (.iload_n 1, 1) := by decide +kernel
theorem dX6_wordOf_45 : decode cX6_wordOf 45 = .ok (.iaload, 1) := by decide +kernel
theorem dX6_wordOf_46 : decode cX6_wordOf 46 = .ok (.goto 11, 3) := by decide +kernel
theorem dX6_wordOf_49 : decode cX6_wordOf 49 = .ok (.aload_n 0, 1) := by decide +kernel
theorem dX6_wordOf_50 : decode cX6_wordOf 50 = .ok (.getfield 11, 3) := by decide +kernel
theorem dX6_wordOf_53 : decode cX6_wordOf 53 = .ok (.iconst 1, 1) := by decide +kernel
theorem dX6_wordOf_54 : decode cX6_wordOf 54 = .ok (.aaload, 1) := by decide +kernel
theorem dX6_wordOf_55 : decode cX6_wordOf 55 = .ok (.iload_n 2, 1) := by decide +kernel
theorem dX6_wordOf_56 : decode cX6_wordOf 56 = .ok (.iaload, 1) := by decide +kernel
theorem dX6_wordOf_57 : decode cX6_wordOf 57 = .ok (.ireturn, 1) := by decide +kernel
theorem dX7_init_0 : decode cX7_init 0 = .ok (.aload_n 0, 1) := by decide +kernel
theorem dX7_init_1 : decode cX7_init 1 = .ok (.invokespecial 3, 3) := by decide +kernel
theorem dX7_init_4 : decode cX7_init 4 = .ok (.aload_n 0, 1) := by decide +kernel
theorem dX7_init_5 : decode cX7_init 5 = .ok (.sipush 300, 3) := by decide +kernel
theorem dX7_init_8 : decode cX7_init 8 = .ok (.newarray .int, 2) := by decide +kernel
theorem dX7_init_10 : decode cX7_init 10 = .ok (.putfield 9, 3) := by decide +kernel
theorem dX7_init_13 : decode cX7_init 13 = .ok (.aload_n 0, 1) := by decide +kernel
theorem dX7_init_14 : decode cX7_init 14 = .ok (.sipush 300, 3) := by decide +kernel
theorem dX7_init_17 : decode cX7_init 17 = .ok (.newarray .int, 2) := by decide +kernel
theorem dX7_init_19 : decode cX7_init 19 = .ok (.putfield 15, 3) := by decide +kernel
theorem dX7_init_22 : decode cX7_init 22 = .ok (.aload_n 0, 1) := by decide +kernel
theorem dX7_init_23 : decode cX7_init 23 = .ok (.sipush 300, 3) := by decide +kernel
theorem dX7_init_26 : decode cX7_init 26 = .ok (.newarray .int, 2) := by decide +kernel
theorem dX7_init_28 : decode cX7_init 28 = .ok (.putfield 18, 3) := by decide +kernel
theorem dX7_init_31 : decode cX7_init 31 = .ok (.aload_n 0, 1) := by decide +kernel
theorem dX7_init_32 : decode cX7_init 32 = .ok (.sipush 300, 3) := by decide +kernel
theorem dX7_init_35 : decode cX7_init 35 = .ok (.newarray .int, 2) := by decide +kernel
theorem dX7_init_37 : decode cX7_init 37 = .ok (.putfield 21, 3) := by decide +kernel
theorem dX7_init_40 : decode cX7_init 40 = .ok (.aload_n 0, 1) := by decide +kernel
theorem dX7_init_41 : decode cX7_init 41 = .ok (.iconst 4, 1) := by decide +kernel
theorem dX7_init_42 : decode cX7_init 42 = .ok (.newarray .int, 2) := by decide +kernel
theorem dX7_init_44 : decode cX7_init 44 = .ok (.putfield 24, 3) := by decide +kernel
theorem dX7_init_47 : decode cX7_init 47 = .ok (.return_, 1) := by decide +kernel
theorem dX7_kindOf_0 : decode cX7_kindOf 0 = .ok (.iload_n 1, 1) := by decide +kernel
theorem dX7_kindOf_1 : decode cX7_kindOf 1 = .ok (.ifCond .lt 20, 3) := by decide +kernel
theorem dX7_kindOf_4 : decode cX7_kindOf 4 = .ok (.iload_n 1, 1) := by decide +kernel
theorem dX7_kindOf_5 : decode cX7_kindOf 5 = .ok (.aload_n 0, 1) := by decide +kernel
theorem dX7_kindOf_6 : decode cX7_kindOf 6 = .ok (.getfield 27, 3) := by decide +kernel
theorem dX7_kindOf_9 : decode cX7_kindOf 9 = .ok (.if_icmp .ge 12, 3) := by decide +kernel
theorem dX7_kindOf_12 : decode cX7_kindOf 12 = .ok (.aload_n 0, 1) := by decide +kernel
theorem dX7_kindOf_13 : decode cX7_kindOf 13 = .ok (.getfield 9, 3) := by decide +kernel
theorem dX7_kindOf_16 : decode cX7_kindOf 16 = .ok (.iload_n 1, 1) := by decide +kernel
theorem dX7_kindOf_17 : decode cX7_kindOf 17 = .ok (.iaload, 1) := by decide +kernel
theorem dX7_kindOf_18 : decode cX7_kindOf 18 = .ok (.goto 4, 3) := by decide +kernel
theorem dX7_kindOf_21 : decode cX7_kindOf 21 = .ok (.iconst 0, 1) := by decide +kernel
theorem dX7_kindOf_22 : decode cX7_kindOf 22 = .ok (.ireturn, 1) := by decide +kernel
theorem dX7_numberOf_0 : decode cX7_numberOf 0 = .ok (.iload_n 1, 1) := by decide +kernel
theorem dX7_numberOf_1 : decode cX7_numberOf 1 = .ok (.ifCond .lt 20, 3) := by decide +kernel
theorem dX7_numberOf_4 : decode cX7_numberOf 4 = .ok (.iload_n 1, 1) := by decide +kernel
theorem dX7_numberOf_5 : decode cX7_numberOf 5 = .ok (.aload_n 0, 1) := by decide +kernel
theorem dX7_numberOf_6 : decode cX7_numberOf 6 = .ok (.getfield 27, 3) := by decide +kernel
theorem dX7_numberOf_9 : decode cX7_numberOf 9 = .ok (.if_icmp .ge 12, 3) := by decide +kernel
theorem dX7_numberOf_12 : decode cX7_numberOf 12 = .ok (.aload_n 0, 1) := by decide +kernel
theorem dX7_numberOf_13 : decode cX7_numberOf 13 = .ok (.getfield 15, 3) := by decide +kernel
theorem dX7_numberOf_16 : decode cX7_numberOf 16 = .ok (.iload_n 1, 1) := by decide +kernel
theorem dX7_numberOf_17 : decode cX7_numberOf 17 = .ok (.iaload, 1) := by decide +kernel
theorem dX7_numberOf_18 : decode cX7_numberOf 18 = .ok (.goto 4, 3) := by decide +kernel
theorem dX7_numberOf_21 : decode cX7_numberOf 21 = .ok (.iconst 0, 1) := by decide +kernel
theorem dX7_numberOf_22 : decode cX7_numberOf 22 = .ok (.ireturn, 1) := by decide +kernel
theorem dX7_endOf_0 : decode cX7_endOf 0 = .ok (.iload_n 1, 1) := by decide +kernel
theorem dX7_endOf_1 : decode cX7_endOf 1 = .ok (.ifCond .lt 20, 3) := by decide +kernel
theorem dX7_endOf_4 : decode cX7_endOf 4 = .ok (.iload_n 1, 1) := by decide +kernel
theorem dX7_endOf_5 : decode cX7_endOf 5 = .ok (.aload_n 0, 1) := by decide +kernel
theorem dX7_endOf_6 : decode cX7_endOf 6 = .ok (.getfield 27, 3) := by decide +kernel
theorem dX7_endOf_9 : decode cX7_endOf 9 = .ok (.if_icmp .ge 12, 3) := by decide +kernel
theorem dX7_endOf_12 : decode cX7_endOf 12 = .ok (.aload_n 0, 1) := by decide +kernel
theorem dX7_endOf_13 : decode cX7_endOf 13 = .ok (.getfield 21, 3) := by decide +kernel
theorem dX7_endOf_16 : decode cX7_endOf 16 = .ok (.iload_n 1, 1) := by decide +kernel
theorem dX7_endOf_17 : decode cX7_endOf 17 = .ok (.iaload, 1) := by decide +kernel
theorem dX7_endOf_18 : decode cX7_endOf 18 = .ok (.goto 4, 3) := by decide +kernel
theorem dX7_endOf_21 : decode cX7_endOf 21 = .ok (.iconst 0, 1) := by decide +kernel
theorem dX7_endOf_22 : decode cX7_endOf 22 = .ok (.ireturn, 1) := by decide +kernel
theorem dX7_split_0 : decode cX7_split 0 = .ok (.aload_n 0, 1) := by decide +kernel
theorem dX7_split_1 : decode cX7_split 1 = .ok (.iconst 0, 1) := by decide +kernel
theorem dX7_split_2 : decode cX7_split 2 = .ok (.putfield 27, 3) := by decide +kernel
theorem dX7_split_5 : decode cX7_split 5 = .ok (.iconst 3, 1) := by decide +kernel
theorem dX7_split_6 : decode cX7_split 6 = .ok (.istore_n 2, 1) := by decide +kernel
theorem dX7_split_7 : decode cX7_split 7 = .ok (.iconst 0, 1) := by decide +kernel
theorem dX7_split_8 : decode cX7_split 8 = .ok (.istore_n 3, 1) := by decide +kernel
theorem dX7_split_9 : decode cX7_split 9 = .ok (.iload_n 3, 1) := by decide +kernel
theorem dX7_split_10 : decode cX7_split 10 = .ok (.aload_n 1, 1) := by decide +kernel
theorem dX7_split_11 : decode cX7_split 11 = .ok (.getfield 31, 3) := by decide +kernel
theorem dX7_split_14 : decode cX7_split 14 = .ok (.if_icmp .ge 79, 3) := by decide +kernel
theorem dX7_split_17 : decode cX7_split 17 = .ok (.iload_n 3, 1) := by decide +kernel
theorem dX7_split_18 : decode cX7_split 18 = .ok (.sipush 300, 3) := by decide +kernel
theorem dX7_split_21 : decode cX7_split 21 = .ok (.if_icmp .ge 72, 3) := by decide +kernel
theorem dX7_split_24 : decode cX7_split 24 = .ok (.aload_n 1, 1) := by decide +kernel
theorem dX7_split_25 : decode cX7_split 25 = .ok (.getfield 36, 3) := by decide +kernel
theorem dX7_split_28 : decode cX7_split 28 = .ok (.iload_n 3, 1) := by decide +kernel
theorem dX7_split_29 : decode cX7_split 29 = .ok (.iaload, 1) := by decide +kernel
theorem dX7_split_30 : decode cX7_split 30 = .ok (.istore 4, 2) := by decide +kernel
theorem dX7_split_32 : decode cX7_split 32 = .ok (.iload 4, 2) := by decide +kernel
theorem dX7_split_34 : decode cX7_split 34 = .ok (.invokestatic 39, 3) := by decide +kernel
theorem dX7_split_37 : decode cX7_split 37 = .ok (.istore 5, 2) := by decide +kernel
theorem dX7_split_39 : decode cX7_split 39 = .ok (.iload 5, 2) := by decide +kernel
theorem dX7_split_41 : decode cX7_split 41 = .ok (.iload_n 2, 1) := by decide +kernel
theorem dX7_split_42 : decode cX7_split 42 = .ok (.if_icmp .ne 27, 3) := by decide +kernel
theorem dX7_split_45 : decode cX7_split 45 = .ok (.iload 5, 2) := by decide +kernel
theorem dX7_split_47 : decode cX7_split 47 = .ok (.iconst 1, 1) := by decide +kernel
theorem dX7_split_48 : decode cX7_split 48 = .ok (.if_icmp .eq 9, 3) := by decide +kernel
theorem dX7_split_51 : decode cX7_split 51 = .ok (.iload 5, 2) := by decide +kernel
theorem dX7_split_53 : decode cX7_split 53 = .ok (.iconst 2, 1) := by decide +kernel
theorem dX7_split_54 : decode cX7_split 54 = .ok (.if_icmp .ne 15, 3) := by decide +kernel
theorem dX7_split_57 : decode cX7_split 57 = .ok (.aload_n 0, 1) := by decide +kernel
theorem dX7_split_58 : decode cX7_split 58 = .ok (.iload 5, 2) := by decide +kernel
theorem dX7_split_60 : decode cX7_split 60 = .ok (.iload_n 3, 1) := by decide +kernel
theorem dX7_split_61 : decode cX7_split 61 = .ok (.iload 4, 2) := by decide +kernel
theorem dX7_split_63 : decode cX7_split 63 = .ok (.invokevirtual 43, 3) := by decide +kernel
theorem dX7_split_66 : decode cX7_split 66 = .ok (.goto 18, 3) := by decide +kernel
theorem dX7_split_69 : decode cX7_split 69 = .ok (.iload 5, 2) := by decide +kernel
theorem dX7_split_71 : decode cX7_split 71 = .ok (.iconst 3, 1) := by decide +kernel
theorem dX7_split_72 : decode cX7_split 72 = .ok (.if_icmp .eq 12, 3) := by decide +kernel
theorem dX7_split_75 : decode cX7_split 75 = .ok (.aload_n 0, 1) := by decide +kernel
theorem dX7_split_76 : decode cX7_split 76 = .ok (.iload 5, 2) := by decide +kernel
theorem dX7_split_78 : decode cX7_split 78 = .ok (.iload_n 3, 1) := by decide +kernel
theorem dX7_split_79 : decode cX7_split 79 = .ok (.iload 4, 2) := by decide +kernel
theorem dX7_split_81 : decode cX7_split 81 = .ok (.invokevirtual 47, 3) := by decide +kernel
theorem dX7_split_84 : decode cX7_split 84 = .ok (.iload 5, 2) := by decide +kernel
theorem dX7_split_86 : decode cX7_split 86 = .ok (.istore_n 2, 1) := by decide +kernel
theorem dX7_split_87 : decode cX7_split 87 = .ok (.iinc 3 1, 3) := by decide +kernel
theorem dX7_split_90 : decode cX7_split 90 = .ok (.goto (-81), 3) := by decide +kernel
theorem dX7_split_93 : decode cX7_split 93 = .ok (.return_, 1) := by decide +kernel
theorem dX7_kindOfByte_0 : decode cX7_kindOfByte 0 = .ok (.iload_n 0, 1) := by decide +kernel
theorem dX7_kindOfByte_1 : decode cX7_kindOfByte 1 = .ok (.bipush 97, 2) := by decide +kernel
theorem dX7_kindOfByte_3 : decode cX7_kindOfByte 3 = .ok (.if_icmp .lt 11, 3) := by decide +kernel
theorem dX7_kindOfByte_6 : decode cX7_kindOfByte 6 = .ok (.iload_n 0, 1) := by decide +kernel
theorem dX7_kindOfByte_7 : decode cX7_kindOfByte 7 = .ok (.bipush 122, 2) := by decide +kernel
theorem dX7_kindOfByte_9 : decode cX7_kindOfByte 9 = .ok (.if_icmp .gt 5, 3) := by decide +kernel
theorem dX7_kindOfByte_12 : decode cX7_kindOfByte 12 = .ok (.iconst 1, 1) := by decide +kernel
theorem dX7_kindOfByte_13 : decode cX7_kindOfByte 13 = .ok (.ireturn, 1) := by decide +kernel
theorem dX7_kindOfByte_14 : decode cX7_kindOfByte 14 = .ok (.iload_n 0, 1) := by decide +kernel
theorem dX7_kindOfByte_15 : decode cX7_kindOfByte 15 = .ok (.bipush 48, 2) := by decide +kernel
theorem dX7_kindOfByte_17 : decode cX7_kindOfByte 17 = .ok (.if_icmp .lt 11, 3) := by decide +kernel
theorem dX7_kindOfByte_20 : decode cX7_kindOfByte 20 = .ok (.iload_n 0, 1) := by decide +kernel
theorem dX7_kindOfByte_21 : decode cX7_kindOfByte 21 = .ok (.bipush 57, 2) := by decide +kernel
theorem dX7_kindOfByte_23 : decode cX7_kindOfByte 23 = .ok (.if_icmp .gt 5, 3) := by decide +kernel
theorem dX7_kindOfByte_26 : decode cX7_kindOfByte 26 = .ok (.iconst 2, 1) := by decide +kernel
theorem dX7_kindOfByte_27 : decode cX7_kindOfByte 27 = .ok (.ireturn, 1) := by decide +kernel
theorem dX7_kindOfByte_28 : decode cX7_kindOfByte 28 = .ok (.iload_n 0, 1) := by decide +kernel
theorem dX7_kindOfByte_29 : decode cX7_kindOfByte 29 = .ok (.lookupswitch 127 #[(10, 123), (32, 123), (37, 125), (42, 125), (43, 125), (44, 125), (45, 125), (46, 125), (60, 125), (61, 125), (62, 125), (64, 125), (123, 125), (125, 125)], 123) := by decide +kernel
theorem dX7_kindOfByte_152 : decode cX7_kindOfByte 152 = .ok (.iconst 3, 1) := by decide +kernel
theorem dX7_kindOfByte_153 : decode cX7_kindOfByte 153 = .ok (.ireturn, 1) := by decide +kernel
theorem dX7_kindOfByte_154 : decode cX7_kindOfByte 154 = .ok (.iload_n 0, 1) := by decide +kernel
theorem dX7_kindOfByte_155 : decode cX7_kindOfByte 155 = .ok (.ireturn, 1) := by decide +kernel
theorem dX7_kindOfByte_156 : decode cX7_kindOfByte 156 = .ok (.iconst 0, 1) := by decide +kernel
theorem dX7_kindOfByte_157 : decode cX7_kindOfByte 157 = .ok (.ireturn, 1) := by decide +kernel
theorem dX7_begin_0 : decode cX7_begin 0 = .ok (.aload_n 0, 1) := by decide +kernel
theorem dX7_begin_1 : decode cX7_begin 1 = .ok (.getfield 27, 3) := by decide +kernel
theorem dX7_begin_4 : decode cX7_begin 4 = .ok (.sipush 300, 3) := by decide +kernel
theorem dX7_begin_7 : decode cX7_begin 7 = .ok (.if_icmp .ge 47, 3) := by decide +kernel
theorem dX7_begin_10 : decode cX7_begin 10 = .ok (.aload_n 0, 1) := by decide +kernel
theorem dX7_begin_11 : decode cX7_begin 11 = .ok (.getfield 9, 3) := by decide +kernel
theorem dX7_begin_14 : decode cX7_begin 14 = .ok (.aload_n 0, 1) := by decide +kernel
theorem dX7_begin_15 : decode cX7_begin 15 = .ok (.getfield 27, 3) := by decide +kernel
theorem dX7_begin_18 : decode cX7_begin 18 = .ok (.iload_n 1, 1) := by decide +kernel
theorem dX7_begin_19 : decode cX7_begin 19 = .ok (.iastore, 1) := by decide +kernel
theorem dX7_begin_20 : decode cX7_begin 20 = .ok (.aload_n 0, 1) := by decide +kernel
theorem dX7_begin_21 : decode cX7_begin 21 = .ok (.getfield 15, 3) := by decide +kernel
theorem dX7_begin_24 : decode cX7_begin 24 = .ok (.aload_n 0, 1) := by decide +kernel
theorem dX7_begin_25 : decode cX7_begin 25 = .ok (.getfield 27, 3) := by decide +kernel
theorem dX7_begin_28 : decode cX7_begin 28 = .ok (.iload_n 1, 1) := by decide +kernel
theorem dX7_begin_29 : decode cX7_begin 29 = .ok (.iload_n 3, 1) := by decide +kernel
theorem dX7_begin_30 : decode cX7_begin 30 = .ok (.invokestatic 50, 3) := by decide +kernel
theorem dX7_begin_33 : decode cX7_begin 33 = .ok (.iastore, 1) := by decide +kernel
theorem dX7_begin_34 : decode cX7_begin 34 = .ok (.aload_n 0, 1) := by decide +kernel
theorem dX7_begin_35 : decode cX7_begin 35 = .ok (.getfield 18, 3) := by decide +kernel
theorem dX7_begin_38 : decode cX7_begin 38 = .ok (.aload_n 0, 1) := by decide +kernel
theorem dX7_begin_39 : decode cX7_begin 39 = .ok (.getfield 27, 3) := by decide +kernel
theorem dX7_begin_42 : decode cX7_begin 42 = .ok (.iload_n 2, 1) := by decide +kernel
theorem dX7_begin_43 : decode cX7_begin 43 = .ok (.iastore, 1) := by decide +kernel
theorem dX7_begin_44 : decode cX7_begin 44 = .ok (.aload_n 0, 1) := by decide +kernel
theorem dX7_begin_45 : decode cX7_begin 45 = .ok (.dup, 1) := by decide +kernel
theorem dX7_begin_46 : decode cX7_begin 46 = .ok (.getfield 27, 3) := by decide +kernel
theorem dX7_begin_49 : decode cX7_begin 49 = .ok (.iconst 1, 1) := by decide +kernel
theorem dX7_begin_50 : decode cX7_begin 50 = .ok (.iadd, 1) := by decide +kernel
theorem dX7_begin_51 : decode cX7_begin 51 = .ok (.putfield 27, 3) := by decide +kernel
theorem dX7_begin_54 : decode cX7_begin 54 = .ok (.return_, 1) := by decide +kernel
theorem dX7_lengthen_0 : decode cX7_lengthen 0 = .ok (.aload_n 0, 1) := by decide +kernel
theorem dX7_lengthen_1 : decode cX7_lengthen 1 = .ok (.getfield 27, 3) := by decide +kernel
theorem dX7_lengthen_4 : decode cX7_lengthen 4 = .ok (.iconst 1, 1) := by decide +kernel
theorem dX7_lengthen_5 : decode cX7_lengthen 5 = .ok (.isub, 1) := by decide +kernel
theorem dX7_lengthen_6 : decode cX7_lengthen 6 = .ok (.istore 4, 2) := by decide +kernel
theorem dX7_lengthen_8 : decode cX7_lengthen 8 = .ok (.iload 4, 2) := by decide +kernel
theorem dX7_lengthen_10 : decode cX7_lengthen 10 = .ok (.ifCond .ge 4, 3) := by decide +kernel
theorem dX7_lengthen_13 : decode cX7_lengthen 13 = .ok (.return_, 1) := by decide +kernel
theorem dX7_lengthen_14 : decode cX7_lengthen 14 = .ok (.iload_n 1, 1) := by decide +kernel
theorem dX7_lengthen_15 : decode cX7_lengthen 15 = .ok (.iconst 1, 1) := by decide +kernel
theorem dX7_lengthen_16 : decode cX7_lengthen 16 = .ok (.if_icmp .ne 8, 3) := by decide +kernel
theorem dX7_lengthen_19 : decode cX7_lengthen 19 = .ok (.bipush 6, 2) := by decide +kernel
theorem dX7_lengthen_21 : decode cX7_lengthen 21 = .ok (.goto 4, 3) := by decide +kernel
theorem dX7_lengthen_24 : decode cX7_lengthen 24 = .ok (.iconst 3, 1) := by decide +kernel
theorem dX7_lengthen_25 : decode cX7_lengthen 25 = .ok (.istore 5, 2) := by decide +kernel
theorem dX7_lengthen_27 : decode cX7_lengthen 27 = .ok (.iload_n 1, 1) := by decide +kernel
theorem dX7_lengthen_28 : decode cX7_lengthen 28 = .ok (.iconst 1, 1) := by decide +kernel
theorem dX7_lengthen_29 : decode cX7_lengthen 29 = .ok (.if_icmp .ne 8, 3) := by decide +kernel
theorem dX7_lengthen_32 : decode cX7_lengthen 32 = .ok (.bipush 27, 2) := by decide +kernel
theorem dX7_lengthen_34 : decode cX7_lengthen 34 = .ok (.goto 5, 3) := by decide +kernel
theorem dX7_lengthen_37 : decode cX7_lengthen 37 = .ok (.bipush 10, 2) := by decide +kernel
theorem dX7_lengthen_39 : decode cX7_lengthen 39 = .ok (.istore 6, 2) := by decide +kernel
theorem dX7_lengthen_41 : decode cX7_lengthen 41 = .ok (.iload_n 2, 1) := by decide +kernel
theorem dX7_lengthen_42 : decode cX7_lengthen 42 = .ok (.aload_n 0, 1) := by decide +kernel
theorem dX7_lengthen_43 : decode cX7_lengthen 43 = .ok (.getfield 18, 3) := by decide +kernel
theorem dX7_lengthen_46 : decode cX7_lengthen 46 = .ok (.iload 4, 2) := by decide +kernel
theorem dX7_lengthen_48 : decode cX7_lengthen 48 = .ok (.iaload, 1) := by decide +kernel
theorem dX7_lengthen_49 : decode cX7_lengthen 49 = .ok (.isub, 1) := by decide +kernel
theorem dX7_lengthen_50 : decode cX7_lengthen 50 = .ok (.iload 5, 2) := by decide +kernel
theorem dX7_lengthen_52 : decode cX7_lengthen 52 = .ok (.if_icmp .lt 14, 3) := by decide +kernel
theorem dX7_lengthen_55 : decode cX7_lengthen 55 = .ok (.aload_n 0, 1) := by decide +kernel
theorem dX7_lengthen_56 : decode cX7_lengthen 56 = .ok (.getfield 9, 3) := by decide +kernel
theorem dX7_lengthen_59 : decode cX7_lengthen 59 = .ok (.iload 4, 2) := by decide +kernel
theorem dX7_lengthen_61 : decode cX7_lengthen 61 = .ok (.iconst 0, 1) := by decide +kernel
theorem dX7_lengthen_62 : decode cX7_lengthen 62 = .ok (.iastore, 1) := by decide +kernel
theorem dX7_lengthen_63 : decode cX7_lengthen 63 = .ok (.goto 26, 3) := by decide +kernel
theorem dX7_lengthen_66 : decode cX7_lengthen 66 = .ok (.aload_n 0, 1) := by decide +kernel
theorem dX7_lengthen_67 : decode cX7_lengthen 67 = .ok (.getfield 15, 3) := by decide +kernel
theorem dX7_lengthen_70 : decode cX7_lengthen 70 = .ok (.iload 4, 2) := by decide +kernel
theorem dX7_lengthen_72 : decode cX7_lengthen 72 = .ok (.aload_n 0, 1) := by decide +kernel
theorem dX7_lengthen_73 : decode cX7_lengthen 73 = .ok (.getfield 15, 3) := by decide +kernel
theorem dX7_lengthen_76 : decode cX7_lengthen 76 = .ok (.iload 4, 2) := by decide +kernel
theorem dX7_lengthen_78 : decode cX7_lengthen 78 = .ok (.iaload, 1) := by decide +kernel
theorem dX7_lengthen_79 : decode cX7_lengthen 79 = .ok (.iload 6, 2) := by decide +kernel
theorem dX7_lengthen_81 : decode cX7_lengthen 81 = .ok (.imul, 1) := by decide +kernel
theorem dX7_lengthen_82 : decode cX7_lengthen 82 = .ok (.iload_n 1, 1) := by decide +kernel
theorem dX7_lengthen_83 : decode cX7_lengthen 83 = .ok (.iload_n 3, 1) := by decide +kernel
theorem dX7_lengthen_84 : decode cX7_lengthen 84 = .ok (.invokestatic 50, 3) := by decide +kernel
theorem dX7_lengthen_87 : decode cX7_lengthen 87 = .ok (.iadd, 1) := by decide +kernel
theorem dX7_lengthen_88 : decode cX7_lengthen 88 = .ok (.iastore, 1) := by decide +kernel
theorem dX7_lengthen_89 : decode cX7_lengthen 89 = .ok (.return_, 1) := by decide +kernel
theorem dX7_digitOf_0 : decode cX7_digitOf 0 = .ok (.iload_n 0, 1) := by decide +kernel
theorem dX7_digitOf_1 : decode cX7_digitOf 1 = .ok (.iconst 1, 1) := by decide +kernel
theorem dX7_digitOf_2 : decode cX7_digitOf 2 = .ok (.if_icmp .ne 12, 3) := by decide +kernel
theorem dX7_digitOf_5 : decode cX7_digitOf 5 = .ok (.iload_n 1, 1) := by decide +kernel
theorem dX7_digitOf_6 : decode cX7_digitOf 6 = .ok (.bipush 97, 2) := by decide +kernel
theorem dX7_digitOf_8 : decode cX7_digitOf 8 = .ok (.isub, 1) := by decide +kernel
theorem dX7_digitOf_9 : decode cX7_digitOf 9 = .ok (.iconst 1, 1) := by decide +kernel
theorem dX7_digitOf_10 : decode cX7_digitOf 10 = .ok (.iadd, 1) := by decide +kernel
theorem dX7_digitOf_11 : decode cX7_digitOf 11 = .ok (.goto 7, 3) := by decide +kernel
theorem dX7_digitOf_14 : decode cX7_digitOf 14 = .ok (.iload_n 1, 1) := by decide +kernel
theorem dX7_digitOf_15 : decode cX7_digitOf 15 = .ok (.bipush 48, 2) := by decide +kernel
theorem dX7_digitOf_17 : decode cX7_digitOf 17 = .ok (.isub, 1) := by decide +kernel
theorem dX7_digitOf_18 : decode cX7_digitOf 18 = .ok (.ireturn, 1) := by decide +kernel
theorem dX7_misfitOfWords_0 : decode cX7_misfitOfWords 0 = .ok (.iconst 0, 1) := by decide +kernel
theorem dX7_misfitOfWords_1 : decode cX7_misfitOfWords 1 = .ok (.istore_n 1, 1) := by decide +kernel
theorem dX7_misfitOfWords_2 : decode cX7_misfitOfWords 2 = .ok (.iload_n 1, 1) := by decide +kernel
theorem dX7_misfitOfWords_3 : decode cX7_misfitOfWords 3 = .ok (.aload_n 0, 1) := by decide +kernel
theorem dX7_misfitOfWords_4 : decode cX7_misfitOfWords 4 = .ok (.getfield 27, 3) := by decide +kernel
theorem dX7_misfitOfWords_7 : decode cX7_misfitOfWords 7 = .ok (.if_icmp .ge 32, 3) := by decide +kernel
theorem dX7_misfitOfWords_10 : decode cX7_misfitOfWords 10 = .ok (.aload_n 0, 1) := by decide +kernel
theorem dX7_misfitOfWords_11 : decode cX7_misfitOfWords 11 = .ok (.getfield 9, 3) := by decide +kernel
theorem dX7_misfitOfWords_14 : decode cX7_misfitOfWords 14 = .ok (.iload_n 1, 1) := by decide +kernel
theorem dX7_misfitOfWords_15 : decode cX7_misfitOfWords 15 = .ok (.iaload, 1) := by decide +kernel
theorem dX7_misfitOfWords_16 : decode cX7_misfitOfWords 16 = .ok (.iconst 1, 1) := by decide +kernel
theorem dX7_misfitOfWords_17 : decode cX7_misfitOfWords 17 = .ok (.if_icmp .ne 9, 3) := by decide +kernel
theorem dX7_misfitOfWords_20 : decode cX7_misfitOfWords 20 = .ok (.iload_n 1, 1) := by decide +kernel
theorem dX7_misfitOfWords_21 : decode cX7_misfitOfWords 21 = .ok (.bipush 100, 2) := by decide +kernel
theorem dX7_misfitOfWords_23 : decode cX7_misfitOfWords 23 = .ok (.if_icmp .lt 10, 3) := by decide +kernel
theorem dX7_misfitOfWords_26 : decode cX7_misfitOfWords 26 = .ok (.aload_n 0, 1) := by decide +kernel
theorem dX7_misfitOfWords_27 : decode cX7_misfitOfWords 27 = .ok (.getfield 18, 3) := by decide +kernel
theorem dX7_misfitOfWords_30 : decode cX7_misfitOfWords 30 = .ok (.iload_n 1, 1) := by decide +kernel
theorem dX7_misfitOfWords_31 : decode cX7_misfitOfWords 31 = .ok (.iaload, 1) := by decide +kernel
theorem dX7_misfitOfWords_32 : decode cX7_misfitOfWords 32 = .ok (.ireturn, 1) := by decide +kernel
theorem dX7_misfitOfWords_33 : decode cX7_misfitOfWords 33 = .ok (.iinc 1 1, 3) := by decide +kernel
theorem dX7_misfitOfWords_36 : decode cX7_misfitOfWords 36 = .ok (.goto (-34), 3) := by decide +kernel
theorem dX7_misfitOfWords_39 : decode cX7_misfitOfWords 39 = .ok (.iconst (-1), 1) := by decide +kernel
theorem dX7_misfitOfWords_40 : decode cX7_misfitOfWords 40 = .ok (.ireturn, 1) := by decide +kernel
theorem dX7_misfitOfScript_0 : decode cX7_misfitOfScript 0 = .ok (.aload_n 0, 1) := by decide +kernel
theorem dX7_misfitOfScript_1 : decode cX7_misfitOfScript 1 = .ok (.iconst 0, 1) := by decide +kernel
theorem dX7_misfitOfScript_2 : decode cX7_misfitOfScript 2 = .ok (.putfield 54, 3) := by decide +kernel
theorem dX7_misfitOfScript_5 : decode cX7_misfitOfScript 5 = .ok (.iconst 0, 1) := by decide +kernel
theorem dX7_misfitOfScript_6 : decode cX7_misfitOfScript 6 = .ok (.istore_n 2, 1) := by decide +kernel
theorem dX7_misfitOfScript_7 : decode cX7_misfitOfScript 7 = .ok (.iconst 0, 1) := by decide +kernel
theorem dX7_misfitOfScript_8 : decode cX7_misfitOfScript 8 = .ok (.istore_n 3, 1) := by decide +kernel
theorem dX7_misfitOfScript_9 : decode cX7_misfitOfScript 9 = .ok (.iload_n 3, 1) := by decide +kernel
theorem dX7_misfitOfScript_10 : decode cX7_misfitOfScript 10 = .ok (.aload_n 0, 1) := by decide +kernel
theorem dX7_misfitOfScript_11 : decode cX7_misfitOfScript 11 = .ok (.getfield 27, 3) := by decide +kernel
theorem dX7_misfitOfScript_14 : decode cX7_misfitOfScript 14 = .ok (.if_icmp .ge 28, 3) := by decide +kernel
theorem dX7_misfitOfScript_17 : decode cX7_misfitOfScript 17 = .ok (.aload_n 0, 1) := by decide +kernel
theorem dX7_misfitOfScript_18 : decode cX7_misfitOfScript 18 = .ok (.iload_n 3, 1) := by decide +kernel
theorem dX7_misfitOfScript_19 : decode cX7_misfitOfScript 19 = .ok (.iload_n 2, 1) := by decide +kernel
theorem dX7_misfitOfScript_20 : decode cX7_misfitOfScript 20 = .ok (.invokevirtual 57, 3) := by decide +kernel
theorem dX7_misfitOfScript_23 : decode cX7_misfitOfScript 23 = .ok (.istore_n 2, 1) := by decide +kernel
theorem dX7_misfitOfScript_24 : decode cX7_misfitOfScript 24 = .ok (.iload_n 2, 1) := by decide +kernel
theorem dX7_misfitOfScript_25 : decode cX7_misfitOfScript 25 = .ok (.iconst 4, 1) := by decide +kernel
theorem dX7_misfitOfScript_26 : decode cX7_misfitOfScript 26 = .ok (.if_icmp .ne 10, 3) := by decide +kernel
theorem dX7_misfitOfScript_29 : decode cX7_misfitOfScript 29 = .ok (.aload_n 0, 1) := by decide +kernel
theorem dX7_misfitOfScript_30 : decode cX7_misfitOfScript 30 = .ok (.getfield 18, 3) := by decide +kernel
theorem dX7_misfitOfScript_33 : decode cX7_misfitOfScript 33 = .ok (.iload_n 3, 1) := by decide +kernel
theorem dX7_misfitOfScript_34 : decode cX7_misfitOfScript 34 = .ok (.iaload, 1) := by decide +kernel
theorem dX7_misfitOfScript_35 : decode cX7_misfitOfScript 35 = .ok (.ireturn, 1) := by decide +kernel
theorem dX7_misfitOfScript_36 : decode cX7_misfitOfScript 36 = .ok (.iinc 3 1, 3) := by decide +kernel
theorem dX7_misfitOfScript_39 : decode cX7_misfitOfScript 39 = .ok (.goto (-30), 3) := by decide +kernel
theorem dX7_misfitOfScript_42 : decode cX7_misfitOfScript 42 = .ok (.iload_n 2, 1) := by decide +kernel
theorem dX7_misfitOfScript_43 : decode cX7_misfitOfScript 43 = .ok (.ifCond .ne 14, 3) := by decide +kernel
theorem dX7_misfitOfScript_46 : decode cX7_misfitOfScript 46 = .ok (.aload_n 0, 1) := by decide +kernel
theorem dX7_misfitOfScript_47 : decode cX7_misfitOfScript 47 = .ok (.getfield 54, 3) := by decide +kernel
theorem dX7_misfitOfScript_50 : decode cX7_misfitOfScript 50 = .ok (.ifCond .ne 7, 3) := by decide +kernel
theorem dX7_misfitOfScript_53 : decode cX7_misfitOfScript 53 = .ok (.iconst (-1), 1) := by decide +kernel
theorem dX7_misfitOfScript_54 : decode cX7_misfitOfScript 54 = .ok (.goto 4, 3) := by decide +kernel
theorem dX7_misfitOfScript_57 : decode cX7_misfitOfScript 57 = .ok (.iload_n 1, 1) := by decide +kernel
theorem dX7_misfitOfScript_58 : decode cX7_misfitOfScript 58 = .ok (.ireturn, 1) := by decide +kernel
theorem dX7_wantedBehind_0 : decode cX7_wantedBehind 0 = .ok (.aload_n 0, 1) := by decide +kernel
theorem dX7_wantedBehind_1 : decode cX7_wantedBehind 1 = .ok (.iload_n 1, 1) := by decide +kernel
theorem dX7_wantedBehind_2 : decode cX7_wantedBehind 2 = .ok (.invokevirtual 60, 3) := by decide +kernel
theorem dX7_wantedBehind_5 : decode cX7_wantedBehind 5 = .ok (.istore_n 3, 1) := by decide +kernel
theorem dX7_wantedBehind_6 : decode cX7_wantedBehind 6 = .ok (.iload_n 2, 1) := by decide +kernel
theorem dX7_wantedBehind_7 : decode cX7_wantedBehind 7 = .ok (.tableswitch 65 1 3 #[25, 36, 47], 25) := by decide +kernel
theorem dX7_wantedBehind_32 : decode cX7_wantedBehind 32 = .ok (.iload_n 3, 1) := by decide +kernel
theorem dX7_wantedBehind_33 : decode cX7_wantedBehind 33 = .ok (.iconst 1, 1) := by decide +kernel
theorem dX7_wantedBehind_34 : decode cX7_wantedBehind 34 = .ok (.if_icmp .ne 7, 3) := by decide +kernel
theorem dX7_wantedBehind_37 : decode cX7_wantedBehind 37 = .ok (.iconst 0, 1) := by decide +kernel
theorem dX7_wantedBehind_38 : decode cX7_wantedBehind 38 = .ok (.goto 4, 3) := by decide +kernel
theorem dX7_wantedBehind_41 : decode cX7_wantedBehind 41 = .ok (.iconst 4, 1) := by decide +kernel
theorem dX7_wantedBehind_42 : decode cX7_wantedBehind 42 = .ok (.ireturn, 1) := by decide +kernel
theorem dX7_wantedBehind_43 : decode cX7_wantedBehind 43 = .ok (.iload_n 3, 1) := by decide +kernel
theorem dX7_wantedBehind_44 : decode cX7_wantedBehind 44 = .ok (.iconst 2, 1) := by decide +kernel
theorem dX7_wantedBehind_45 : decode cX7_wantedBehind 45 = .ok (.if_icmp .ne 7, 3) := by decide +kernel
theorem dX7_wantedBehind_48 : decode cX7_wantedBehind 48 = .ok (.iconst 0, 1) := by decide +kernel
theorem dX7_wantedBehind_49 : decode cX7_wantedBehind 49 = .ok (.goto 4, 3) := by decide +kernel
theorem dX7_wantedBehind_52 : decode cX7_wantedBehind 52 = .ok (.iconst 4, 1) := by decide +kernel
theorem dX7_wantedBehind_53 : decode cX7_wantedBehind 53 = .ok (.ireturn, 1) := by decide +kernel
theorem dX7_wantedBehind_54 : decode cX7_wantedBehind 54 = .ok (.iload_n 3, 1) := by decide +kernel
theorem dX7_wantedBehind_55 : decode cX7_wantedBehind 55 = .ok (.bipush 123, 2) := by decide +kernel
theorem dX7_wantedBehind_57 : decode cX7_wantedBehind 57 = .ok (.if_icmp .ne 13, 3) := by decide +kernel
theorem dX7_wantedBehind_60 : decode cX7_wantedBehind 60 = .ok (.aload_n 0, 1) := by decide +kernel
theorem dX7_wantedBehind_61 : decode cX7_wantedBehind 61 = .ok (.iload_n 1, 1) := by decide +kernel
theorem dX7_wantedBehind_62 : decode cX7_wantedBehind 62 = .ok (.iconst 1, 1) := by decide +kernel
theorem dX7_wantedBehind_63 : decode cX7_wantedBehind 63 = .ok (.isub, 1) := by decide +kernel
theorem dX7_wantedBehind_64 : decode cX7_wantedBehind 64 = .ok (.invokevirtual 63, 3) := by decide +kernel
theorem dX7_wantedBehind_67 : decode cX7_wantedBehind 67 = .ok (.goto 4, 3) := by decide +kernel
theorem dX7_wantedBehind_70 : decode cX7_wantedBehind 70 = .ok (.iconst 4, 1) := by decide +kernel
theorem dX7_wantedBehind_71 : decode cX7_wantedBehind 71 = .ok (.ireturn, 1) := by decide +kernel
theorem dX7_wantedBehind_72 : decode cX7_wantedBehind 72 = .ok (.iload_n 3, 1) := by decide +kernel
theorem dX7_wantedBehind_73 : decode cX7_wantedBehind 73 = .ok (.bipush 125, 2) := by decide +kernel
theorem dX7_wantedBehind_75 : decode cX7_wantedBehind 75 = .ok (.if_icmp .ne 13, 3) := by decide +kernel
theorem dX7_wantedBehind_78 : decode cX7_wantedBehind 78 = .ok (.aload_n 0, 1) := by decide +kernel
theorem dX7_wantedBehind_79 : decode cX7_wantedBehind 79 = .ok (.iload_n 1, 1) := by decide +kernel
theorem dX7_wantedBehind_80 : decode cX7_wantedBehind 80 = .ok (.iconst 1, 1) := by decide +kernel
theorem dX7_wantedBehind_81 : decode cX7_wantedBehind 81 = .ok (.iadd, 1) := by decide +kernel
theorem dX7_wantedBehind_82 : decode cX7_wantedBehind 82 = .ok (.invokevirtual 66, 3) := by decide +kernel
theorem dX7_wantedBehind_85 : decode cX7_wantedBehind 85 = .ok (.goto 9, 3) := by decide +kernel
theorem dX7_wantedBehind_88 : decode cX7_wantedBehind 88 = .ok (.aload_n 0, 1) := by decide +kernel
theorem dX7_wantedBehind_89 : decode cX7_wantedBehind 89 = .ok (.iload_n 1, 1) := by decide +kernel
theorem dX7_wantedBehind_90 : decode cX7_wantedBehind 90 = .ok (.iload_n 3, 1) := by decide +kernel
theorem dX7_wantedBehind_91 : decode cX7_wantedBehind 91 = .ok (.invokevirtual 69, 3) := by decide +kernel
theorem dX7_wantedBehind_94 : decode cX7_wantedBehind 94 = .ok (.ireturn, 1) := by decide +kernel
theorem dX7_beginAct_0 : decode cX7_beginAct 0 = .ok (.iload_n 2, 1) := by decide +kernel
theorem dX7_beginAct_1 : decode cX7_beginAct 1 = .ok (.lookupswitch 161 #[(2, 134), (37, 99), (42, 132), (43, 110), (44, 99), (45, 99), (46, 99), (60, 110), (61, 110), (62, 110), (64, 121)], 99) := by decide +kernel
theorem dX7_beginAct_100 : decode cX7_beginAct 100 = .ok (.aload_n 0, 1) := by decide +kernel
theorem dX7_beginAct_101 : decode cX7_beginAct 101 = .ok (.getfield 21, 3) := by decide +kernel
theorem dX7_beginAct_104 : decode cX7_beginAct 104 = .ok (.iload_n 1, 1) := by decide +kernel
theorem dX7_beginAct_105 : decode cX7_beginAct 105 = .ok (.iload_n 1, 1) := by decide +kernel
theorem dX7_beginAct_106 : decode cX7_beginAct 106 = .ok (.iconst 1, 1) := by decide +kernel
theorem dX7_beginAct_107 : decode cX7_beginAct 107 = .ok (.iadd, 1) := by decide +kernel
theorem dX7_beginAct_108 : decode cX7_beginAct 108 = .ok (.iastore, 1) := by decide +kernel
theorem dX7_beginAct_109 : decode cX7_beginAct 109 = .ok (.iconst 0, 1) := by decide +kernel
theorem dX7_beginAct_110 : decode cX7_beginAct 110 = .ok (.ireturn, 1) := by decide +kernel
theorem dX7_beginAct_111 : decode cX7_beginAct 111 = .ok (.aload_n 0, 1) := by decide +kernel
theorem dX7_beginAct_112 : decode cX7_beginAct 112 = .ok (.getfield 21, 3) := by decide +kernel
theorem dX7_beginAct_115 : decode cX7_beginAct 115 = .ok (.iload_n 1, 1) := by decide +kernel
theorem dX7_beginAct_116 : decode cX7_beginAct 116 = .ok (.iload_n 1, 1) := by decide +kernel
theorem dX7_beginAct_117 : decode cX7_beginAct 117 = .ok (.iconst 2, 1) := by decide +kernel
theorem dX7_beginAct_118 : decode cX7_beginAct 118 = .ok (.iadd, 1) := by decide +kernel
theorem dX7_beginAct_119 : decode cX7_beginAct 119 = .ok (.iastore, 1) := by decide +kernel
theorem dX7_beginAct_120 : decode cX7_beginAct 120 = .ok (.iconst 1, 1) := by decide +kernel
theorem dX7_beginAct_121 : decode cX7_beginAct 121 = .ok (.ireturn, 1) := by decide +kernel
theorem dX7_beginAct_122 : decode cX7_beginAct 122 = .ok (.aload_n 0, 1) := by decide +kernel
theorem dX7_beginAct_123 : decode cX7_beginAct 123 = .ok (.getfield 21, 3) := by decide +kernel
theorem dX7_beginAct_126 : decode cX7_beginAct 126 = .ok (.iload_n 1, 1) := by decide +kernel
theorem dX7_beginAct_127 : decode cX7_beginAct 127 = .ok (.iload_n 1, 1) := by decide +kernel
theorem dX7_beginAct_128 : decode cX7_beginAct 128 = .ok (.iconst 2, 1) := by decide +kernel
theorem dX7_beginAct_129 : decode cX7_beginAct 129 = .ok (.iadd, 1) := by decide +kernel
theorem dX7_beginAct_130 : decode cX7_beginAct 130 = .ok (.iastore, 1) := by decide +kernel
theorem dX7_beginAct_131 : decode cX7_beginAct 131 = .ok (.iconst 2, 1) := by decide +kernel
theorem dX7_beginAct_132 : decode cX7_beginAct 132 = .ok (.ireturn, 1) := by decide +kernel
theorem dX7_beginAct_133 : decode cX7_beginAct 133 = .ok (.iconst 3, 1) := by decide +kernel
theorem dX7_beginAct_134 : decode cX7_beginAct 134 = .ok (.ireturn, 1) := by decide +kernel
theorem dX7_beginAct_135 : decode cX7_beginAct 135 = .ok (.aload_n 0, 1) := by decide +kernel
theorem dX7_beginAct_136 : decode cX7_beginAct 136 = .ok (.getfield 15, 3) := by decide +kernel
theorem dX7_beginAct_139 : decode cX7_beginAct 139 = .ok (.iload_n 1, 1) := by decide +kernel
theorem dX7_beginAct_140 : decode cX7_beginAct 140 = .ok (.iaload, 1) := by decide +kernel
theorem dX7_beginAct_141 : decode cX7_beginAct 141 = .ok (.iconst 1, 1) := by decide +kernel
theorem dX7_beginAct_142 : decode cX7_beginAct 142 = .ok (.if_icmp .lt 18, 3) := by decide +kernel
theorem dX7_beginAct_145 : decode cX7_beginAct 145 = .ok (.aload_n 0, 1) := by decide +kernel
theorem dX7_beginAct_146 : decode cX7_beginAct 146 = .ok (.getfield 15, 3) := by decide +kernel
theorem dX7_beginAct_149 : decode cX7_beginAct 149 = .ok (.iload_n 1, 1) := by decide +kernel
theorem dX7_beginAct_150 : decode cX7_beginAct 150 = .ok (.iaload, 1) := by decide +kernel
theorem dX7_beginAct_151 : decode cX7_beginAct 151 = .ok (.bipush 20, 2) := by decide +kernel
theorem dX7_beginAct_153 : decode cX7_beginAct 153 = .ok (.if_icmp .gt 7, 3) := by decide +kernel
theorem dX7_beginAct_156 : decode cX7_beginAct 156 = .ok (.iconst 3, 1) := by decide +kernel
theorem dX7_beginAct_157 : decode cX7_beginAct 157 = .ok (.goto 4, 3) := by decide +kernel
theorem dX7_beginAct_160 : decode cX7_beginAct 160 = .ok (.iconst 4, 1) := by decide +kernel
theorem dX7_beginAct_161 : decode cX7_beginAct 161 = .ok (.ireturn, 1) := by decide +kernel
theorem dX7_beginAct_162 : decode cX7_beginAct 162 = .ok (.iconst 4, 1) := by decide +kernel
theorem dX7_beginAct_163 : decode cX7_beginAct 163 = .ok (.ireturn, 1) := by decide +kernel
theorem dX7_open_0 : decode cX7_open 0 = .ok (.aload_n 0, 1) := by decide +kernel
theorem dX7_open_1 : decode cX7_open 1 = .ok (.getfield 54, 3) := by decide +kernel
theorem dX7_open_4 : decode cX7_open 4 = .ok (.iconst 4, 1) := by decide +kernel
theorem dX7_open_5 : decode cX7_open 5 = .ok (.if_icmp .lt 5, 3) := by decide +kernel
theorem dX7_open_8 : decode cX7_open 8 = .ok (.iconst 4, 1) := by decide +kernel
theorem dX7_open_9 : decode cX7_open 9 = .ok (.ireturn, 1) := by decide +kernel
theorem dX7_open_10 : decode cX7_open 10 = .ok (.aload_n 0, 1) := by decide +kernel
theorem dX7_open_11 : decode cX7_open 11 = .ok (.getfield 24, 3) := by decide +kernel
theorem dX7_open_14 : decode cX7_open 14 = .ok (.aload_n 0, 1) := by decide +kernel
theorem dX7_open_15 : decode cX7_open 15 = .ok (.getfield 54, 3) := by decide +kernel
theorem dX7_open_18 : decode cX7_open 18 = .ok (.iload_n 1, 1) := by decide +kernel
theorem dX7_open_19 : decode cX7_open 19 = .ok (.iastore, 1) := by decide +kernel
theorem dX7_open_20 : decode cX7_open 20 = .ok (.aload_n 0, 1) := by decide +kernel
theorem dX7_open_21 : decode cX7_open 21 = .ok (.dup, 1) := by decide +kernel
theorem dX7_open_22 : decode cX7_open 22 = .ok (.getfield 54, 3) := by decide +kernel
theorem dX7_open_25 : decode cX7_open 25 = .ok (.iconst 1, 1) := by decide +kernel
theorem dX7_open_26 : decode cX7_open 26 = .ok (.iadd, 1) := by decide +kernel
theorem dX7_open_27 : decode cX7_open 27 = .ok (.putfield 54, 3) := by decide +kernel
theorem dX7_open_30 : decode cX7_open 30 = .ok (.iconst 0, 1) := by decide +kernel
theorem dX7_open_31 : decode cX7_open 31 = .ok (.ireturn, 1) := by decide +kernel
theorem dX7_close_0 : decode cX7_close 0 = .ok (.aload_n 0, 1) := by decide +kernel
theorem dX7_close_1 : decode cX7_close 1 = .ok (.getfield 54, 3) := by decide +kernel
theorem dX7_close_4 : decode cX7_close 4 = .ok (.iconst 1, 1) := by decide +kernel
theorem dX7_close_5 : decode cX7_close 5 = .ok (.if_icmp .ge 5, 3) := by decide +kernel
theorem dX7_close_8 : decode cX7_close 8 = .ok (.iconst 4, 1) := by decide +kernel
theorem dX7_close_9 : decode cX7_close 9 = .ok (.ireturn, 1) := by decide +kernel
theorem dX7_close_10 : decode cX7_close 10 = .ok (.aload_n 0, 1) := by decide +kernel
theorem dX7_close_11 : decode cX7_close 11 = .ok (.dup, 1) := by decide +kernel
theorem dX7_close_12 : decode cX7_close 12 = .ok (.getfield 54, 3) := by decide +kernel
theorem dX7_close_15 : decode cX7_close 15 = .ok (.iconst 1, 1) := by decide +kernel
theorem dX7_close_16 : decode cX7_close 16 = .ok (.isub, 1) := by decide +kernel
theorem dX7_close_17 : decode cX7_close 17 = .ok (.putfield 54, 3) := by decide +kernel
theorem dX7_close_20 : decode cX7_close 20 = .ok (.aload_n 0, 1) := by decide +kernel
theorem dX7_close_21 : decode cX7_close 21 = .ok (.getfield 21, 3) := by decide +kernel
theorem dX7_close_24 : decode cX7_close 24 = .ok (.aload_n 0, 1) := by decide +kernel
theorem dX7_close_25 : decode cX7_close 25 = .ok (.getfield 24, 3) := by decide +kernel
theorem dX7_close_28 : decode cX7_close 28 = .ok (.aload_n 0, 1) := by decide +kernel
theorem dX7_close_29 : decode cX7_close 29 = .ok (.getfield 54, 3) := by decide +kernel
theorem dX7_close_32 : decode cX7_close 32 = .ok (.iaload, 1) := by decide +kernel
theorem dX7_close_33 : decode cX7_close 33 = .ok (.iload_n 1, 1) := by decide +kernel
theorem dX7_close_34 : decode cX7_close 34 = .ok (.iastore, 1) := by decide +kernel
theorem dX7_close_35 : decode cX7_close 35 = .ok (.iconst 0, 1) := by decide +kernel
theorem dX7_close_36 : decode cX7_close 36 = .ok (.ireturn, 1) := by decide +kernel
theorem dX8_init_0 : decode cX8_init 0 = .ok (.aload_n 0, 1) := by decide +kernel
theorem dX8_init_1 : decode cX8_init 1 = .ok (.invokespecial 3, 3) := by decide +kernel
theorem dX8_init_4 : decode cX8_init 4 = .ok (.aload_n 0, 1) := by decide +kernel
theorem dX8_init_5 : decode cX8_init 5 = .ok (.sipush 300, 3) := by decide +kernel
theorem dX8_init_8 : decode cX8_init 8 = .ok (.newarray .int, 2) := by decide +kernel
theorem dX8_init_10 : decode cX8_init 10 = .ok (.putfield 9, 3) := by decide +kernel
theorem dX8_init_13 : decode cX8_init 13 = .ok (.return_, 1) := by decide +kernel
theorem dX8_bytesIn_0 : decode cX8_bytesIn 0 = .ok (.iconst 0, 1) := by decide +kernel
theorem dX8_bytesIn_1 : decode cX8_bytesIn 1 = .ok (.istore_n 1, 1) := by decide +kernel
theorem dX8_bytesIn_2 : decode cX8_bytesIn 2 = .ok (.bipush 24, 2) := by decide +kernel
theorem dX8_bytesIn_4 : decode cX8_bytesIn 4 = .ok (.istore_n 2, 1) := by decide +kernel
theorem dX8_bytesIn_5 : decode cX8_bytesIn 5 = .ok (.iload_n 2, 1) := by decide +kernel
theorem dX8_bytesIn_6 : decode cX8_bytesIn 6 = .ok (.ifCond .lt 22, 3) := by decide +kernel
theorem dX8_bytesIn_9 : decode cX8_bytesIn 9 = .ok (.iload_n 0, 1) := by decide +kernel
theorem dX8_bytesIn_10 : decode cX8_bytesIn 10 = .ok (.iload_n 2, 1) := by decide +kernel
theorem dX8_bytesIn_11 : decode cX8_bytesIn 11 = .ok (.iushr, 1) := by decide +kernel
theorem dX8_bytesIn_12 : decode cX8_bytesIn 12 = .ok (.sipush 255, 3) := by decide +kernel
theorem dX8_bytesIn_15 : decode cX8_bytesIn 15 = .ok (.iand, 1) := by decide +kernel
theorem dX8_bytesIn_16 : decode cX8_bytesIn 16 = .ok (.ifCond .eq 6, 3) := by decide +kernel
theorem dX8_bytesIn_19 : decode cX8_bytesIn 19 = .ok (.iinc 1 1, 3) := by decide +kernel
theorem dX8_bytesIn_22 : decode cX8_bytesIn 22 = .ok (.iinc 2 (-8), 3) := by decide +kernel
theorem dX8_bytesIn_25 : decode cX8_bytesIn 25 = .ok (.goto (-20), 3) := by decide +kernel
theorem dX8_bytesIn_28 : decode cX8_bytesIn 28 = .ok (.iload_n 1, 1) := by decide +kernel
theorem dX8_bytesIn_29 : decode cX8_bytesIn 29 = .ok (.ireturn, 1) := by decide +kernel
theorem dX8_take_0 : decode cX8_take 0 = .ok (.bipush 24, 2) := by decide +kernel
theorem dX8_take_2 : decode cX8_take 2 = .ok (.istore_n 2, 1) := by decide +kernel
theorem dX8_take_3 : decode cX8_take 3 = .ok (.iload_n 2, 1) := by decide +kernel
theorem dX8_take_4 : decode cX8_take 4 = .ok (.ifCond .lt 51, 3) := by decide +kernel
theorem dX8_take_7 : decode cX8_take 7 = .ok (.iload_n 1, 1) := by decide +kernel
theorem dX8_take_8 : decode cX8_take 8 = .ok (.iload_n 2, 1) := by decide +kernel
theorem dX8_take_9 : decode cX8_take 9 = .ok (.iushr, 1) := by decide +kernel
theorem dX8_take_10 : decode cX8_take 10 = .ok (.sipush 255, 3) := by decide +kernel
theorem dX8_take_13 : decode cX8_take 13 = .ok (.iand, 1) := by decide +kernel
theorem dX8_take_14 : decode cX8_take 14 = .ok (.istore_n 3, 1) := by decide +kernel
theorem dX8_take_15 : decode cX8_take 15 = .ok (.iload_n 3, 1) := by decide +kernel
theorem dX8_take_16 : decode cX8_take 16 = .ok (.ifCond .eq 33, 3) := by decide +kernel
theorem dX8_take_19 : decode cX8_take 19 = .ok (.aload_n 0, 1) := by decide +kernel
theorem dX8_take_20 : decode cX8_take 20 = .ok (.getfield 15, 3) := by decide +kernel
theorem dX8_take_23 : decode cX8_take 23 = .ok (.sipush 300, 3) := by decide +kernel
theorem dX8_take_26 : decode cX8_take 26 = .ok (.if_icmp .ge 23, 3) := by decide +kernel
theorem dX8_take_29 : decode cX8_take 29 = .ok (.aload_n 0, 1) := by decide +kernel
theorem dX8_take_30 : decode cX8_take 30 = .ok (.getfield 9, 3) := by decide +kernel
theorem dX8_take_33 : decode cX8_take 33 = .ok (.aload_n 0, 1) := by decide +kernel
theorem dX8_take_34 : decode cX8_take 34 = .ok (.getfield 15, 3) := by decide +kernel
theorem dX8_take_37 : decode cX8_take 37 = .ok (.iload_n 3, 1) := by decide +kernel
theorem dX8_take_38 : decode cX8_take 38 = .ok (.iastore, 1) := by decide +kernel
theorem dX8_take_39 : decode cX8_take 39 = .ok (.aload_n 0, 1) := by decide +kernel
theorem dX8_take_40 : decode cX8_take 40 = .ok (.dup, 1) := by decide +kernel
theorem dX8_take_41 : decode cX8_take 41 = .ok (.getfield 15, 3) := by decide +kernel
theorem dX8_take_44 : decode cX8_take 44 = .ok (.iconst 1, 1) := by decide +kernel
theorem dX8_take_45 : decode cX8_take 45 = .ok (.iadd, 1) := by decide +kernel
theorem dX8_take_46 : decode cX8_take 46 = .ok (.putfield 15, 3) := by decide +kernel
theorem dX8_take_49 : decode cX8_take 49 = .ok (.iinc 2 (-8), 3) := by decide +kernel
theorem dX8_take_52 : decode cX8_take 52 = .ok (.goto (-49), 3) := by decide +kernel
theorem dX8_take_55 : decode cX8_take 55 = .ok (.return_, 1) := by decide +kernel
theorem dX9_init_0 : decode cX9_init 0 = .ok (.aload_n 0, 1) := by decide +kernel
theorem dX9_init_1 : decode cX9_init 1 = .ok (.invokespecial 1, 3) := by decide +kernel
theorem dX9_init_4 : decode cX9_init 4 = .ok (.aload_n 0, 1) := by decide +kernel
theorem dX9_init_5 : decode cX9_init 5 = .ok (.new 7, 3) := by decide +kernel
theorem dX9_init_8 : decode cX9_init 8 = .ok (.dup, 1) := by decide +kernel
theorem dX9_init_9 : decode cX9_init 9 = .ok (.invokespecial 9, 3) := by decide +kernel
theorem dX9_init_12 : decode cX9_init 12 = .ok (.putfield 10, 3) := by decide +kernel
theorem dX9_init_15 : decode cX9_init 15 = .ok (.aload_n 0, 1) := by decide +kernel
theorem dX9_init_16 : decode cX9_init 16 = .ok (.new 16, 3) := by decide +kernel
theorem dX9_init_19 : decode cX9_init 19 = .ok (.dup, 1) := by decide +kernel
theorem dX9_init_20 : decode cX9_init 20 = .ok (.invokespecial 18, 3) := by decide +kernel
theorem dX9_init_23 : decode cX9_init 23 = .ok (.putfield 19, 3) := by decide +kernel
theorem dX9_init_26 : decode cX9_init 26 = .ok (.aload_n 0, 1) := by decide +kernel
theorem dX9_init_27 : decode cX9_init 27 = .ok (.new 23, 3) := by decide +kernel
theorem dX9_init_30 : decode cX9_init 30 = .ok (.dup, 1) := by decide +kernel
theorem dX9_init_31 : decode cX9_init 31 = .ok (.invokespecial 25, 3) := by decide +kernel
theorem dX9_init_34 : decode cX9_init 34 = .ok (.putfield 26, 3) := by decide +kernel
theorem dX9_init_37 : decode cX9_init 37 = .ok (.aload_n 0, 1) := by decide +kernel
theorem dX9_init_38 : decode cX9_init 38 = .ok (.iconst (-1), 1) := by decide +kernel
theorem dX9_init_39 : decode cX9_init 39 = .ok (.putfield 30, 3) := by decide +kernel
theorem dX9_init_42 : decode cX9_init 42 = .ok (.aload_n 0, 1) := by decide +kernel
theorem dX9_init_43 : decode cX9_init 43 = .ok (.iconst 0, 1) := by decide +kernel
theorem dX9_init_44 : decode cX9_init 44 = .ok (.putfield 34, 3) := by decide +kernel
theorem dX9_init_47 : decode cX9_init 47 = .ok (.aload_n 0, 1) := by decide +kernel
theorem dX9_init_48 : decode cX9_init 48 = .ok (.sipush 701, 3) := by decide +kernel
theorem dX9_init_51 : decode cX9_init 51 = .ok (.newarray .char, 2) := by decide +kernel
theorem dX9_init_53 : decode cX9_init 53 = .ok (.putfield 37, 3) := by decide +kernel
theorem dX9_init_56 : decode cX9_init 56 = .ok (.return_, 1) := by decide +kernel
theorem dX9_next_0 : decode cX9_next 0 = .ok (.aload_n 0, 1) := by decide +kernel
theorem dX9_next_1 : decode cX9_next 1 = .ok (.getfield 10, 3) := by decide +kernel
theorem dX9_next_4 : decode cX9_next 4 = .ok (.iconst 0, 1) := by decide +kernel
theorem dX9_next_5 : decode cX9_next 5 = .ok (.invokevirtual 41, 3) := by decide +kernel
theorem dX9_next_8 : decode cX9_next 8 = .ok (.ireturn, 1) := by decide +kernel
theorem dX9_previous_0 : decode cX9_previous 0 = .ok (.aload_n 0, 1) := by decide +kernel
theorem dX9_previous_1 : decode cX9_previous 1 = .ok (.getfield 10, 3) := by decide +kernel
theorem dX9_previous_4 : decode cX9_previous 4 = .ok (.iconst 1, 1) := by decide +kernel
theorem dX9_previous_5 : decode cX9_previous 5 = .ok (.invokevirtual 41, 3) := by decide +kernel
theorem dX9_previous_8 : decode cX9_previous 8 = .ok (.ireturn, 1) := by decide +kernel
theorem dX9_add_0 : decode cX9_add 0 = .ok (.iload_n 1, 1) := by decide +kernel
theorem dX9_add_1 : decode cX9_add 1 = .ok (.invokestatic 45, 3) := by decide +kernel
theorem dX9_add_4 : decode cX9_add 4 = .ok (.aload_n 0, 1) := by decide +kernel
theorem dX9_add_5 : decode cX9_add 5 = .ok (.getfield 10, 3) := by decide +kernel
theorem dX9_add_8 : decode cX9_add 8 = .ok (.iload_n 1, 1) := by decide +kernel
theorem dX9_add_9 : decode cX9_add 9 = .ok (.invokevirtual 49, 3) := by decide +kernel
theorem dX9_add_12 : decode cX9_add 12 = .ok (.ireturn, 1) := by decide +kernel
theorem dX9_set_0 : decode cX9_set 0 = .ok (.iload_n 1, 1) := by decide +kernel
theorem dX9_set_1 : decode cX9_set 1 = .ok (.invokestatic 45, 3) := by decide +kernel
theorem dX9_set_4 : decode cX9_set 4 = .ok (.aload_n 0, 1) := by decide +kernel
theorem dX9_set_5 : decode cX9_set 5 = .ok (.getfield 10, 3) := by decide +kernel
theorem dX9_set_8 : decode cX9_set 8 = .ok (.iload_n 1, 1) := by decide +kernel
theorem dX9_set_9 : decode cX9_set 9 = .ok (.invokevirtual 53, 3) := by decide +kernel
theorem dX9_set_12 : decode cX9_set 12 = .ok (.ireturn, 1) := by decide +kernel
theorem dX9_remove_0 : decode cX9_remove 0 = .ok (.aload_n 0, 1) := by decide +kernel
theorem dX9_remove_1 : decode cX9_remove 1 = .ok (.getfield 10, 3) := by decide +kernel
theorem dX9_remove_4 : decode cX9_remove 4 = .ok (.invokevirtual 56, 3) := by decide +kernel
theorem dX9_remove_7 : decode cX9_remove 7 = .ok (.ireturn, 1) := by decide +kernel
theorem dX9_move_0 : decode cX9_move 0 = .ok (.aload_n 0, 1) := by decide +kernel
theorem dX9_move_1 : decode cX9_move 1 = .ok (.getfield 10, 3) := by decide +kernel
theorem dX9_move_4 : decode cX9_move 4 = .ok (.iload_n 1, 1) := by decide +kernel
theorem dX9_move_5 : decode cX9_move 5 = .ok (.invokevirtual 60, 3) := by decide +kernel
theorem dX9_move_8 : decode cX9_move 8 = .ok (.ireturn, 1) := by decide +kernel
theorem dX9_find_0 : decode cX9_find 0 = .ok (.iload_n 1, 1) := by decide +kernel
theorem dX9_find_1 : decode cX9_find 1 = .ok (.invokestatic 45, 3) := by decide +kernel
theorem dX9_find_4 : decode cX9_find 4 = .ok (.aload_n 0, 1) := by decide +kernel
theorem dX9_find_5 : decode cX9_find 5 = .ok (.getfield 10, 3) := by decide +kernel
theorem dX9_find_8 : decode cX9_find 8 = .ok (.iload_n 1, 1) := by decide +kernel
theorem dX9_find_9 : decode cX9_find 9 = .ok (.iload_n 2, 1) := by decide +kernel
theorem dX9_find_10 : decode cX9_find 10 = .ok (.invokevirtual 63, 3) := by decide +kernel
theorem dX9_find_13 : decode cX9_find 13 = .ok (.ireturn, 1) := by decide +kernel
theorem dX9_swap_0 : decode cX9_swap 0 = .ok (.aload_n 0, 1) := by decide +kernel
theorem dX9_swap_1 : decode cX9_swap 1 = .ok (.getfield 10, 3) := by decide +kernel
theorem dX9_swap_4 : decode cX9_swap 4 = .ok (.invokevirtual 67, 3) := by decide +kernel
theorem dX9_swap_7 : decode cX9_swap 7 = .ok (.ireturn, 1) := by decide +kernel
theorem dX9_undo_0 : decode cX9_undo 0 = .ok (.aload_n 0, 1) := by decide +kernel
theorem dX9_undo_1 : decode cX9_undo 1 = .ok (.getfield 10, 3) := by decide +kernel
theorem dX9_undo_4 : decode cX9_undo 4 = .ok (.invokevirtual 70, 3) := by decide +kernel
theorem dX9_undo_7 : decode cX9_undo 7 = .ok (.ireturn, 1) := by decide +kernel
theorem dX9_undoable_0 : decode cX9_undoable 0 = .ok (.aload_n 0, 1) := by decide +kernel
theorem dX9_undoable_1 : decode cX9_undoable 1 = .ok (.getfield 10, 3) := by decide +kernel
theorem dX9_undoable_4 : decode cX9_undoable 4 = .ok (.getfield 73, 3) := by decide +kernel
theorem dX9_undoable_7 : decode cX9_undoable 7 = .ok (.getfield 77, 3) := by decide +kernel
theorem dX9_undoable_10 : decode cX9_undoable 10 = .ok (.ireturn, 1) := by decide +kernel
theorem dX9_append_0 : decode cX9_append 0 = .ok (.iload_n 1, 1) := by decide +kernel
theorem dX9_append_1 : decode cX9_append 1 = .ok (.invokestatic 82, 3) := by decide +kernel
theorem dX9_append_4 : decode cX9_append 4 = .ok (.iload_n 2, 1) := by decide +kernel
theorem dX9_append_5 : decode cX9_append 5 = .ok (.invokestatic 82, 3) := by decide +kernel
theorem dX9_append_8 : decode cX9_append 8 = .ok (.iadd, 1) := by decide +kernel
theorem dX9_append_9 : decode cX9_append 9 = .ok (.iload_n 3, 1) := by decide +kernel
theorem dX9_append_10 : decode cX9_append 10 = .ok (.invokestatic 82, 3) := by decide +kernel
theorem dX9_append_13 : decode cX9_append 13 = .ok (.iadd, 1) := by decide +kernel
theorem dX9_append_14 : decode cX9_append 14 = .ok (.iload 4, 2) := by decide +kernel
theorem dX9_append_16 : decode cX9_append 16 = .ok (.invokestatic 82, 3) := by decide +kernel
theorem dX9_append_19 : decode cX9_append 19 = .ok (.iadd, 1) := by decide +kernel
theorem dX9_append_20 : decode cX9_append 20 = .ok (.iload 5, 2) := by decide +kernel
theorem dX9_append_22 : decode cX9_append 22 = .ok (.invokestatic 82, 3) := by decide +kernel
theorem dX9_append_25 : decode cX9_append 25 = .ok (.iadd, 1) := by decide +kernel
theorem dX9_append_26 : decode cX9_append 26 = .ok (.istore 6, 2) := by decide +kernel
theorem dX9_append_28 : decode cX9_append 28 = .ok (.aload_n 0, 1) := by decide +kernel
theorem dX9_append_29 : decode cX9_append 29 = .ok (.getfield 19, 3) := by decide +kernel
theorem dX9_append_32 : decode cX9_append 32 = .ok (.getfield 85, 3) := by decide +kernel
theorem dX9_append_35 : decode cX9_append 35 = .ok (.iload 6, 2) := by decide +kernel
theorem dX9_append_37 : decode cX9_append 37 = .ok (.iadd, 1) := by decide +kernel
theorem dX9_append_38 : decode cX9_append 38 = .ok (.sipush 300, 3) := by decide +kernel
theorem dX9_append_41 : decode cX9_append 41 = .ok (.if_icmp .le 11, 3) := by decide +kernel
theorem dX9_append_44 : decode cX9_append 44 = .ok (.new 88, 3) := by decide +kernel
theorem dX9_append_47 : decode cX9_append 47 = .ok (.dup, 1) := by decide +kernel
theorem dX9_append_48 : decode cX9_append 48 = .ok (.invokespecial 90, 3) := by decide +kernel
theorem dX9_append_51 : decode cX9_append 51 = .ok (.athrow, 1) := by decide +kernel
theorem dX9_append_52 : decode cX9_append 52 = .ok (.aload_n 0, 1) := by decide +kernel
theorem dX9_append_53 : decode cX9_append 53 = .ok (.getfield 19, 3) := by decide +kernel
theorem dX9_append_56 : decode cX9_append 56 = .ok (.iload_n 1, 1) := by decide +kernel
theorem dX9_append_57 : decode cX9_append 57 = .ok (.invokevirtual 91, 3) := by decide +kernel
theorem dX9_append_60 : decode cX9_append 60 = .ok (.aload_n 0, 1) := by decide +kernel
theorem dX9_append_61 : decode cX9_append 61 = .ok (.getfield 19, 3) := by decide +kernel
theorem dX9_append_64 : decode cX9_append 64 = .ok (.iload_n 2, 1) := by decide +kernel
theorem dX9_append_65 : decode cX9_append 65 = .ok (.invokevirtual 91, 3) := by decide +kernel
theorem dX9_append_68 : decode cX9_append 68 = .ok (.aload_n 0, 1) := by decide +kernel
theorem dX9_append_69 : decode cX9_append 69 = .ok (.getfield 19, 3) := by decide +kernel
theorem dX9_append_72 : decode cX9_append 72 = .ok (.iload_n 3, 1) := by decide +kernel
theorem dX9_append_73 : decode cX9_append 73 = .ok (.invokevirtual 91, 3) := by decide +kernel
theorem dX9_append_76 : decode cX9_append 76 = .ok (.aload_n 0, 1) := by decide +kernel
theorem dX9_append_77 : decode cX9_append 77 = .ok (.getfield 19, 3) := by decide +kernel
theorem dX9_append_80 : decode cX9_append 80 = .ok (.iload 4, 2) := by decide +kernel
theorem dX9_append_82 : decode cX9_append 82 = .ok (.invokevirtual 91, 3) := by decide +kernel
theorem dX9_append_85 : decode cX9_append 85 = .ok (.aload_n 0, 1) := by decide +kernel
theorem dX9_append_86 : decode cX9_append 86 = .ok (.getfield 19, 3) := by decide +kernel
theorem dX9_append_89 : decode cX9_append 89 = .ok (.iload 5, 2) := by decide +kernel
theorem dX9_append_91 : decode cX9_append 91 = .ok (.invokevirtual 91, 3) := by decide +kernel
theorem dX9_append_94 : decode cX9_append 94 = .ok (.aload_n 0, 1) := by decide +kernel
theorem dX9_append_95 : decode cX9_append 95 = .ok (.getfield 19, 3) := by decide +kernel
theorem dX9_append_98 : decode cX9_append 98 = .ok (.getfield 85, 3) := by decide +kernel
theorem dX9_append_101 : decode cX9_append 101 = .ok (.ireturn, 1) := by decide +kernel
theorem dX9_clearTape_0 : decode cX9_clearTape 0 = .ok (.aload_n 0, 1) := by decide +kernel
theorem dX9_clearTape_1 : decode cX9_clearTape 1 = .ok (.getfield 19, 3) := by decide +kernel
theorem dX9_clearTape_4 : decode cX9_clearTape 4 = .ok (.getfield 85, 3) := by decide +kernel
theorem dX9_clearTape_7 : decode cX9_clearTape 7 = .ok (.istore_n 1, 1) := by decide +kernel
theorem dX9_clearTape_8 : decode cX9_clearTape 8 = .ok (.aload_n 0, 1) := by decide +kernel
theorem dX9_clearTape_9 : decode cX9_clearTape 9 = .ok (.getfield 19, 3) := by decide +kernel
theorem dX9_clearTape_12 : decode cX9_clearTape 12 = .ok (.iconst 0, 1) := by decide +kernel
theorem dX9_clearTape_13 : decode cX9_clearTape 13 = .ok (.putfield 85, 3) := by decide +kernel
theorem dX9_clearTape_16 : decode cX9_clearTape 16 = .ok (.iload_n 1, 1) := by decide +kernel
theorem dX9_clearTape_17 : decode cX9_clearTape 17 = .ok (.ireturn, 1) := by decide +kernel
theorem dX9_fill_0 : decode cX9_fill 0 = .ok (.aload_n 0, 1) := by decide +kernel
theorem dX9_fill_1 : decode cX9_fill 1 = .ok (.getfield 26, 3) := by decide +kernel
theorem dX9_fill_4 : decode cX9_fill 4 = .ok (.aload_n 0, 1) := by decide +kernel
theorem dX9_fill_5 : decode cX9_fill 5 = .ok (.getfield 19, 3) := by decide +kernel
theorem dX9_fill_8 : decode cX9_fill 8 = .ok (.invokevirtual 94, 3) := by decide +kernel
theorem dX9_fill_11 : decode cX9_fill 11 = .ok (.aload_n 0, 1) := by decide +kernel
theorem dX9_fill_12 : decode cX9_fill 12 = .ok (.aload_n 0, 1) := by decide +kernel
theorem dX9_fill_13 : decode cX9_fill 13 = .ok (.getfield 26, 3) := by decide +kernel
theorem dX9_fill_16 : decode cX9_fill 16 = .ok (.invokevirtual 98, 3) := by decide +kernel
theorem dX9_fill_19 : decode cX9_fill 19 = .ok (.putfield 30, 3) := by decide +kernel
theorem dX9_fill_22 : decode cX9_fill 22 = .ok (.aload_n 0, 1) := by decide +kernel
theorem dX9_fill_23 : decode cX9_fill 23 = .ok (.getfield 19, 3) := by decide +kernel
theorem dX9_fill_26 : decode cX9_fill 26 = .ok (.iconst 0, 1) := by decide +kernel
theorem dX9_fill_27 : decode cX9_fill 27 = .ok (.putfield 85, 3) := by decide +kernel
theorem dX9_fill_30 : decode cX9_fill 30 = .ok (.aload_n 0, 1) := by decide +kernel
theorem dX9_fill_31 : decode cX9_fill 31 = .ok (.getfield 30, 3) := by decide +kernel
theorem dX9_fill_34 : decode cX9_fill 34 = .ok (.iconst (-1), 1) := by decide +kernel
theorem dX9_fill_35 : decode cX9_fill 35 = .ok (.if_icmp .eq 11, 3) := by decide +kernel
theorem dX9_fill_38 : decode cX9_fill 38 = .ok (.new 101, 3) := by decide +kernel
theorem dX9_fill_41 : decode cX9_fill 41 = .ok (.dup, 1) := by decide +kernel
theorem dX9_fill_42 : decode cX9_fill 42 = .ok (.invokespecial 103, 3) := by decide +kernel
theorem dX9_fill_45 : decode cX9_fill 45 = .ok (.athrow, 1) := by decide +kernel
theorem dX9_fill_46 : decode cX9_fill 46 = .ok (.aload_n 0, 1) := by decide +kernel
theorem dX9_fill_47 : decode cX9_fill 47 = .ok (.getfield 10, 3) := by decide +kernel
theorem dX9_fill_50 : decode cX9_fill 50 = .ok (.invokevirtual 104, 3) := by decide +kernel
theorem dX9_fill_53 : decode cX9_fill 53 = .ok (.iconst 0, 1) := by decide +kernel
theorem dX9_fill_54 : decode cX9_fill 54 = .ok (.istore_n 1, 1) := by decide +kernel
theorem dX9_fill_55 : decode cX9_fill 55 = .ok (.iload_n 1, 1) := by decide +kernel
theorem dX9_fill_56 : decode cX9_fill 56 = .ok (.aload_n 0, 1) := by decide +kernel
theorem dX9_fill_57 : decode cX9_fill 57 = .ok (.getfield 26, 3) := by decide +kernel
theorem dX9_fill_60 : decode cX9_fill 60 = .ok (.getfield 107, 3) := by decide +kernel
theorem dX9_fill_63 : decode cX9_fill 63 = .ok (.if_icmp .ge 28, 3) := by decide +kernel
theorem dX9_fill_66 : decode cX9_fill 66 = .ok (.aload_n 0, 1) := by decide +kernel
theorem dX9_fill_67 : decode cX9_fill 67 = .ok (.getfield 10, 3) := by decide +kernel
theorem dX9_fill_70 : decode cX9_fill 70 = .ok (.getfield 110, 3) := by decide +kernel
theorem dX9_fill_73 : decode cX9_fill 73 = .ok (.aload_n 0, 1) := by decide +kernel
theorem dX9_fill_74 : decode cX9_fill 74 = .ok (.getfield 26, 3) := by decide +kernel
theorem dX9_fill_77 : decode cX9_fill 77 = .ok (.iload_n 1, 1) := by decide +kernel
theorem dX9_fill_78 : decode cX9_fill 78 = .ok (.invokevirtual 114, 3) := by decide +kernel
theorem dX9_fill_81 : decode cX9_fill 81 = .ok (.invokevirtual 117, 3) := by decide +kernel
theorem dX9_fill_84 : decode cX9_fill 84 = .ok (.pop, 1) := by decide +kernel
theorem dX9_fill_85 : decode cX9_fill 85 = .ok (.iinc 1 1, 3) := by decide +kernel
theorem dX9_fill_88 : decode cX9_fill 88 = .ok (.goto (-33), 3) := by decide +kernel
theorem dX9_fill_91 : decode cX9_fill 91 = .ok (.aload_n 0, 1) := by decide +kernel
theorem dX9_fill_92 : decode cX9_fill 92 = .ok (.getfield 10, 3) := by decide +kernel
theorem dX9_fill_95 : decode cX9_fill 95 = .ok (.getfield 110, 3) := by decide +kernel
theorem dX9_fill_98 : decode cX9_fill 98 = .ok (.iconst 0, 1) := by decide +kernel
theorem dX9_fill_99 : decode cX9_fill 99 = .ok (.invokevirtual 120, 3) := by decide +kernel
theorem dX9_fill_102 : decode cX9_fill 102 = .ok (.aload_n 0, 1) := by decide +kernel
theorem dX9_fill_103 : decode cX9_fill 103 = .ok (.getfield 10, 3) := by decide +kernel
theorem dX9_fill_106 : decode cX9_fill 106 = .ok (.getfield 110, 3) := by decide +kernel
theorem dX9_fill_109 : decode cX9_fill 109 = .ok (.invokevirtual 122, 3) := by decide +kernel
theorem dX9_fill_112 : decode cX9_fill 112 = .ok (.ireturn, 1) := by decide +kernel
