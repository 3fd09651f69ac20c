theorem dX0_init_0 : decode cX0_init 0 = .ok (.aload_n 0, 1) := by decide +kernel
theorem dX0_init_1 : decode cX0_init 1 = .ok (.invokespecial 5, 3) := by decide +kernel
theorem dX0_init_4 : decode cX0_init 4 = .ok (.aload_n 0, 1) := by decide +kernel
theorem dX0_init_5 : decode cX0_init 5 = .ok (.bipush 60, 2) := by decide +kernel
theorem dX0_init_7 : decode cX0_init 7 = .ok (.newarray .char, 2) := by decide +kernel
theorem dX0_init_9 : decode cX0_init 9 = .ok (.putfield 11, 3) := by decide +kernel
theorem dX0_init_12 : decode cX0_init 12 = .ok (.aload_n 0, 1) := by decide +kernel
theorem dX0_init_13 : decode cX0_init 13 = .ok (.bipush 20, 2) := by decide +kernel
theorem dX0_init_15 : decode cX0_init 15 = .ok (.newarray .char, 2) := by decide +kernel
theorem dX0_init_17 : decode cX0_init 17 = .ok (.putfield 15, 3) := by decide +kernel
theorem dX0_init_20 : decode cX0_init 20 = .ok (.aload_n 0, 1) := by decide +kernel
theorem dX0_init_21 : decode cX0_init 21 = .ok (.bipush 20, 2) := by decide +kernel
theorem dX0_init_23 : decode cX0_init 23 = .ok (.newarray .int, 2) := by decide +kernel
theorem dX0_init_25 : decode cX0_init 25 = .ok (.putfield 18, 3) := by decide +kernel
theorem dX0_init_28 : decode cX0_init 28 = .ok (.aload_n 0, 1) := by decide +kernel
theorem dX0_init_29 : decode cX0_init 29 = .ok (.bipush 20, 2) := by decide +kernel
theorem dX0_init_31 : decode cX0_init 31 = .ok (.newarray .int, 2) := by decide +kernel
theorem dX0_init_33 : decode cX0_init 33 = .ok (.putfield 22, 3) := by decide +kernel
theorem dX0_init_36 : decode cX0_init 36 = .ok (.return_, 1) := by decide +kernel
theorem dX0_length_0 : decode cX0_length 0 = .ok (.aload_n 0, 1) := by decide +kernel
theorem dX0_length_1 : decode cX0_length 1 = .ok (.getfield 25, 3) := by decide +kernel
theorem dX0_length_4 : decode cX0_length 4 = .ok (.ireturn, 1) := by decide +kernel
theorem dX0_append_0 : decode cX0_append 0 = .ok (.aload_n 0, 1) := by decide +kernel
theorem dX0_append_1 : decode cX0_append 1 = .ok (.getfield 25, 3) := by decide +kernel
theorem dX0_append_4 : decode cX0_append 4 = .ok (.bipush 60, 2) := by decide +kernel
theorem dX0_append_6 : decode cX0_append 6 = .ok (.if_icmp .lt 5, 3) := by decide +kernel
theorem dX0_append_9 : decode cX0_append 9 = .ok (.iconst 0, 1) := by decide +kernel
theorem dX0_append_10 : decode cX0_append 10 = .ok (.ireturn, 1) := by decide +kernel
theorem dX0_append_11 : decode cX0_append 11 = .ok (.aload_n 0, 1) := by decide +kernel
theorem dX0_append_12 : decode cX0_append 12 = .ok (.getfield 11, 3) := by decide +kernel
theorem dX0_append_15 : decode cX0_append 15 = .ok (.aload_n 0, 1) := by decide +kernel
theorem dX0_append_16 : decode cX0_append 16 = .ok (.getfield 25, 3) := by decide +kernel
theorem dX0_append_19 : decode cX0_append 19 = .ok (.iload_n 1, 1) := by decide +kernel
theorem dX0_append_20 : decode cX0_append 20 = .ok (.castore, 1) := by decide +kernel
theorem dX0_append_21 : decode cX0_append 21 = .ok (.aload_n 0, 1) := by decide +kernel
theorem dX0_append_22 : decode cX0_append 22 = .ok (.dup, 1) := by decide +kernel
theorem dX0_append_23 : decode cX0_append 23 = .ok (.getfield 25, 3) := by decide +kernel
theorem dX0_append_26 : decode cX0_append 26 = .ok (.iconst 1, 1) := by decide +kernel
theorem dX0_append_27 : decode cX0_append 27 = .ok (.iadd, 1) := by decide +kernel
theorem dX0_append_28 : decode cX0_append 28 = .ok (.putfield 25, 3) := by decide +kernel
theorem dX0_append_31 : decode cX0_append 31 = .ok (.iconst 1, 1) := by decide +kernel
theorem dX0_append_32 : decode cX0_append 32 = .ok (.ireturn, 1) := by decide +kernel
theorem dX0_empty_0 : decode cX0_empty 0 = .ok (.aload_n 0, 1) := by decide +kernel
theorem dX0_empty_1 : decode cX0_empty 1 = .ok (.iconst 0, 1) := by decide +kernel
theorem dX0_empty_2 : decode cX0_empty 2 = .ok (.putfield 25, 3) := by decide +kernel
theorem dX0_empty_5 : decode cX0_empty 5 = .ok (.return_, 1) := by decide +kernel
theorem dX0_commands_0 : decode cX0_commands 0 = .ok (.aload_n 0, 1) := by decide +kernel
theorem dX0_commands_1 : decode cX0_commands 1 = .ok (.getfield 29, 3) := by decide +kernel
theorem dX0_commands_4 : decode cX0_commands 4 = .ok (.ireturn, 1) := by decide +kernel
theorem dX0_kindOf_0 : decode cX0_kindOf 0 = .ok (.aload_n 0, 1) := by decide +kernel
theorem dX0_kindOf_1 : decode cX0_kindOf 1 = .ok (.getfield 15, 3) := by decide +kernel
theorem dX0_kindOf_4 : decode cX0_kindOf 4 = .ok (.iload_n 1, 1) := by decide +kernel
theorem dX0_kindOf_5 : decode cX0_kindOf 5 = .ok (.caload, 1) := by decide +kernel
theorem dX0_kindOf_6 : decode cX0_kindOf 6 = .ok (.ireturn, 1) := by decide +kernel
theorem dX0_sizeOf_0 : decode cX0_sizeOf 0 = .ok (.aload_n 0, 1) := by decide +kernel
theorem dX0_sizeOf_1 : decode cX0_sizeOf 1 = .ok (.getfield 18, 3) := by decide +kernel
theorem dX0_sizeOf_4 : decode cX0_sizeOf 4 = .ok (.iload_n 1, 1) := by decide +kernel
theorem dX0_sizeOf_5 : decode cX0_sizeOf 5 = .ok (.iaload, 1) := by decide +kernel
theorem dX0_sizeOf_6 : decode cX0_sizeOf 6 = .ok (.ireturn, 1) := by decide +kernel
theorem dX0_numberOf_0 : decode cX0_numberOf 0 = .ok (.aload_n 0, 1) := by decide +kernel
theorem dX0_numberOf_1 : decode cX0_numberOf 1 = .ok (.getfield 22, 3) := by decide +kernel
theorem dX0_numberOf_4 : decode cX0_numberOf 4 = .ok (.iload_n 1, 1) := by decide +kernel
theorem dX0_numberOf_5 : decode cX0_numberOf 5 = .ok (.iaload, 1) := by decide +kernel
theorem dX0_numberOf_6 : decode cX0_numberOf 6 = .ok (.ireturn, 1) := by decide +kernel
theorem dX0_parse_0 : decode cX0_parse 0 = .ok (.aload_n 0, 1) := by decide +kernel
theorem dX0_parse_1 : decode cX0_parse 1 = .ok (.iconst 0, 1) := by decide +kernel
theorem dX0_parse_2 : decode cX0_parse 2 = .ok (.putfield 32, 3) := by decide +kernel
theorem dX0_parse_5 : decode cX0_parse 5 = .ok (.aload_n 0, 1) := by decide +kernel
theorem dX0_parse_6 : decode cX0_parse 6 = .ok (.iconst 0, 1) := by decide +kernel
theorem dX0_parse_7 : decode cX0_parse 7 = .ok (.putfield 29, 3) := by decide +kernel
theorem dX0_parse_10 : decode cX0_parse 10 = .ok (.iconst 0, 1) := by decide +kernel
theorem dX0_parse_11 : decode cX0_parse 11 = .ok (.istore_n 1, 1) := by decide +kernel
theorem dX0_parse_12 : decode cX0_parse 12 = .ok (.iload_n 1, 1) := by decide +kernel
theorem dX0_parse_13 : decode cX0_parse 13 = .ok (.bipush 20, 2) := by decide +kernel
theorem dX0_parse_15 : decode cX0_parse 15 = .ok (.if_icmp .ge 47, 3) := by decide +kernel
theorem dX0_parse_18 : decode cX0_parse 18 = .ok (.iload_n 1, 1) := by decide +kernel
theorem dX0_parse_19 : decode cX0_parse 19 = .ok (.ifCond .eq 14, 3) := by decide +kernel
theorem dX0_parse_22 : decode cX0_parse 22 = .ok (.aload_n 0, 1) := by decide +kernel
theorem dX0_parse_23 : decode cX0_parse 23 = .ok (.getfield 32, 3) := by decide +kernel
theorem dX0_parse_26 : decode cX0_parse 26 = .ok (.aload_n 0, 1) := by decide +kernel
theorem dX0_parse_27 : decode cX0_parse 27 = .ok (.getfield 25, 3) := by decide +kernel
theorem dX0_parse_30 : decode cX0_parse 30 = .ok (.if_icmp .ge 32, 3) := by decide +kernel
theorem dX0_parse_33 : decode cX0_parse 33 = .ok (.aload_n 0, 1) := by decide +kernel
theorem dX0_parse_34 : decode cX0_parse 34 = .ok (.iload_n 1, 1) := by decide +kernel
theorem dX0_parse_35 : decode cX0_parse 35 = .ok (.invokevirtual 35, 3) := by decide +kernel
theorem dX0_parse_38 : decode cX0_parse 38 = .ok (.ifCond .ne 8, 3) := by decide +kernel
theorem dX0_parse_41 : decode cX0_parse 41 = .ok (.aload_n 0, 1) := by decide +kernel
theorem dX0_parse_42 : decode cX0_parse 42 = .ok (.getfield 32, 3) := by decide +kernel
theorem dX0_parse_45 : decode cX0_parse 45 = .ok (.ireturn, 1) := by decide +kernel
theorem dX0_parse_46 : decode cX0_parse 46 = .ok (.aload_n 0, 1) := by decide +kernel
theorem dX0_parse_47 : decode cX0_parse 47 = .ok (.dup, 1) := by decide +kernel
theorem dX0_parse_48 : decode cX0_parse 48 = .ok (.getfield 29, 3) := by decide +kernel
theorem dX0_parse_51 : decode cX0_parse 51 = .ok (.iconst 1, 1) := by decide +kernel
theorem dX0_parse_52 : decode cX0_parse 52 = .ok (.iadd, 1) := by decide +kernel
theorem dX0_parse_53 : decode cX0_parse 53 = .ok (.putfield 29, 3) := by decide +kernel
theorem dX0_parse_56 : decode cX0_parse 56 = .ok (.iinc 1 1, 3) := by decide +kernel
theorem dX0_parse_59 : decode cX0_parse 59 = .ok (.goto (-47), 3) := by decide +kernel
theorem dX0_parse_62 : decode cX0_parse 62 = .ok (.iconst (-1), 1) := by decide +kernel
theorem dX0_parse_63 : decode cX0_parse 63 = .ok (.ireturn, 1) := by decide +kernel
theorem dX0_readCommand_0 : decode cX0_readCommand 0 = .ok (.aload_n 0, 1) := by decide +kernel
theorem dX0_readCommand_1 : decode cX0_readCommand 1 = .ok (.invokevirtual 39, 3) := by decide +kernel
theorem dX0_readCommand_4 : decode cX0_readCommand 4 = .ok (.istore_n 2, 1) := by decide +kernel
theorem dX0_readCommand_5 : decode cX0_readCommand 5 = .ok (.iload_n 2, 1) := by decide +kernel
theorem dX0_readCommand_6 : decode cX0_readCommand 6 = .ok (.bipush 115, 2) := by decide +kernel
theorem dX0_readCommand_8 : decode cX0_readCommand 8 = .ok (.if_icmp .eq 29, 3) := by decide +kernel
theorem dX0_readCommand_11 : decode cX0_readCommand 11 = .ok (.iload_n 2, 1) := by decide +kernel
theorem dX0_readCommand_12 : decode cX0_readCommand 12 = .ok (.bipush 114, 2) := by decide +kernel
theorem dX0_readCommand_14 : decode cX0_readCommand 14 = .ok (.if_icmp .eq 23, 3) := by decide +kernel
theorem dX0_readCommand_17 : decode cX0_readCommand 17 = .ok (.iload_n 2, 1) := by decide +kernel
theorem dX0_readCommand_18 : decode cX0_readCommand 18 = .ok (.bipush 116, 2) := by decide +kernel
theorem dX0_readCommand_20 : decode cX0_readCommand 20 = .ok (.if_icmp .eq 17, 3) := by decide +kernel
theorem dX0_readCommand_23 : decode cX0_readCommand 23 = .ok (.iload_n 2, 1) := by decide +kernel
theorem dX0_readCommand_24 : decode cX0_readCommand 24 = .ok (.bipush 99, 2) := by decide +kernel
theorem dX0_readCommand_26 : decode cX0_readCommand 26 = .ok (.if_icmp .eq 11, 3) := by decide +kernel
theorem dX0_readCommand_29 : decode cX0_readCommand 29 = .ok (.iload_n 2, 1) := by decide +kernel
theorem dX0_readCommand_30 : decode cX0_readCommand 30 = .ok (.bipush 111, 2) := by decide +kernel
theorem dX0_readCommand_32 : decode cX0_readCommand 32 = .ok (.if_icmp .eq 5, 3) := by decide +kernel
theorem dX0_readCommand_35 : decode cX0_readCommand 35 = .ok (.iconst 0, 1) := by decide +kernel
theorem dX0_readCommand_36 : decode cX0_readCommand 36 = .ok (.ireturn, 1) := by decide +kernel
theorem dX0_readCommand_37 : decode cX0_readCommand 37 = .ok (.aload_n 0, 1) := by decide +kernel
theorem dX0_readCommand_38 : decode cX0_readCommand 38 = .ok (.getfield 15, 3) := by decide +kernel
theorem dX0_readCommand_41 : decode cX0_readCommand 41 = .ok (.iload_n 1, 1) := by decide +kernel
theorem dX0_readCommand_42 : decode cX0_readCommand 42 = .ok (.iload_n 2, 1) := by decide +kernel
theorem dX0_readCommand_43 : decode cX0_readCommand 43 = .ok (.i2c, 1) := by decide +kernel
theorem dX0_readCommand_44 : decode cX0_readCommand 44 = .ok (.castore, 1) := by decide +kernel
theorem dX0_readCommand_45 : decode cX0_readCommand 45 = .ok (.aload_n 0, 1) := by decide +kernel
theorem dX0_readCommand_46 : decode cX0_readCommand 46 = .ok (.dup, 1) := by decide +kernel
theorem dX0_readCommand_47 : decode cX0_readCommand 47 = .ok (.getfield 32, 3) := by decide +kernel
theorem dX0_readCommand_50 : decode cX0_readCommand 50 = .ok (.iconst 1, 1) := by decide +kernel
theorem dX0_readCommand_51 : decode cX0_readCommand 51 = .ok (.iadd, 1) := by decide +kernel
theorem dX0_readCommand_52 : decode cX0_readCommand 52 = .ok (.putfield 32, 3) := by decide +kernel
theorem dX0_readCommand_55 : decode cX0_readCommand 55 = .ok (.iload_n 2, 1) := by decide +kernel
theorem dX0_readCommand_56 : decode cX0_readCommand 56 = .ok (.bipush 115, 2) := by decide +kernel
theorem dX0_readCommand_58 : decode cX0_readCommand 58 = .ok (.if_icmp .ne 11, 3) := by decide +kernel
theorem dX0_readCommand_61 : decode cX0_readCommand 61 = .ok (.aload_n 0, 1) := by decide +kernel
theorem dX0_readCommand_62 : decode cX0_readCommand 62 = .ok (.iload_n 1, 1) := by decide +kernel
theorem dX0_readCommand_63 : decode cX0_readCommand 63 = .ok (.invokevirtual 43, 3) := by decide +kernel
theorem dX0_readCommand_66 : decode cX0_readCommand 66 = .ok (.ifCond .eq 24, 3) := by decide +kernel
theorem dX0_readCommand_69 : decode cX0_readCommand 69 = .ok (.aload_n 0, 1) := by decide +kernel
theorem dX0_readCommand_70 : decode cX0_readCommand 70 = .ok (.iload_n 1, 1) := by decide +kernel
theorem dX0_readCommand_71 : decode cX0_readCommand 71 = .ok (.invokevirtual 46, 3) := by decide +kernel
theorem dX0_readCommand_74 : decode cX0_readCommand 74 = .ok (.ifCond .eq 16, 3) := by decide +kernel
theorem dX0_readCommand_77 : decode cX0_readCommand 77 = .ok (.aload_n 0, 1) := by decide +kernel
theorem dX0_readCommand_78 : decode cX0_readCommand 78 = .ok (.bipush 59, 2) := by decide +kernel
theorem dX0_readCommand_80 : decode cX0_readCommand 80 = .ok (.invokevirtual 49, 3) := by decide +kernel
theorem dX0_readCommand_83 : decode cX0_readCommand 83 = .ok (.ifCond .eq 7, 3) := by decide +kernel
theorem dX0_readCommand_86 : decode cX0_readCommand 86 = .ok (.iconst 1, 1) := by decide +kernel
theorem dX0_readCommand_87 : decode cX0_readCommand 87 = .ok (.goto 4, 3) := by decide +kernel
theorem dX0_readCommand_90 : decode cX0_readCommand 90 = .ok (.iconst 0, 1) := by decide +kernel
theorem dX0_readCommand_91 : decode cX0_readCommand 91 = .ok (.ireturn, 1) := by decide +kernel
theorem dX0_readSize_0 : decode cX0_readSize 0 = .ok (.aload_n 0, 1) := by decide +kernel
theorem dX0_readSize_1 : decode cX0_readSize 1 = .ok (.invokevirtual 39, 3) := by decide +kernel
theorem dX0_readSize_4 : decode cX0_readSize 4 = .ok (.istore_n 2, 1) := by decide +kernel
theorem dX0_readSize_5 : decode cX0_readSize 5 = .ok (.iload_n 2, 1) := by decide +kernel
theorem dX0_readSize_6 : decode cX0_readSize 6 = .ok (.bipush 48, 2) := by decide +kernel
theorem dX0_readSize_8 : decode cX0_readSize 8 = .ok (.if_icmp .eq 11, 3) := by decide +kernel
theorem dX0_readSize_11 : decode cX0_readSize 11 = .ok (.iload_n 2, 1) := by decide +kernel
theorem dX0_readSize_12 : decode cX0_readSize 12 = .ok (.bipush 49, 2) := by decide +kernel
theorem dX0_readSize_14 : decode cX0_readSize 14 = .ok (.if_icmp .eq 5, 3) := by decide +kernel
theorem dX0_readSize_17 : decode cX0_readSize 17 = .ok (.iconst 0, 1) := by decide +kernel
theorem dX0_readSize_18 : decode cX0_readSize 18 = .ok (.ireturn, 1) := by decide +kernel
theorem dX0_readSize_19 : decode cX0_readSize 19 = .ok (.aload_n 0, 1) := by decide +kernel
theorem dX0_readSize_20 : decode cX0_readSize 20 = .ok (.getfield 18, 3) := by decide +kernel
theorem dX0_readSize_23 : decode cX0_readSize 23 = .ok (.iload_n 1, 1) := by decide +kernel
theorem dX0_readSize_24 : decode cX0_readSize 24 = .ok (.iload_n 2, 1) := by decide +kernel
theorem dX0_readSize_25 : decode cX0_readSize 25 = .ok (.bipush 48, 2) := by decide +kernel
theorem dX0_readSize_27 : decode cX0_readSize 27 = .ok (.isub, 1) := by decide +kernel
theorem dX0_readSize_28 : decode cX0_readSize 28 = .ok (.iastore, 1) := by decide +kernel
theorem dX0_readSize_29 : decode cX0_readSize 29 = .ok (.aload_n 0, 1) := by decide +kernel
theorem dX0_readSize_30 : decode cX0_readSize 30 = .ok (.dup, 1) := by decide +kernel
theorem dX0_readSize_31 : decode cX0_readSize 31 = .ok (.getfield 32, 3) := by decide +kernel
theorem dX0_readSize_34 : decode cX0_readSize 34 = .ok (.iconst 1, 1) := by decide +kernel
theorem dX0_readSize_35 : decode cX0_readSize 35 = .ok (.iadd, 1) := by decide +kernel
theorem dX0_readSize_36 : decode cX0_readSize 36 = .ok (.putfield 32, 3) := by decide +kernel
theorem dX0_readSize_39 : decode cX0_readSize 39 = .ok (.aload_n 0, 1) := by decide +kernel
theorem dX0_readSize_40 : decode cX0_readSize 40 = .ok (.bipush 44, 2) := by decide +kernel
theorem dX0_readSize_42 : decode cX0_readSize 42 = .ok (.invokevirtual 49, 3) := by decide +kernel
theorem dX0_readSize_45 : decode cX0_readSize 45 = .ok (.ireturn, 1) := by decide +kernel
theorem dX0_readNumber_0 : decode cX0_readNumber 0 = .ok (.iconst 0, 1) := by decide +kernel
theorem dX0_readNumber_1 : decode cX0_readNumber 1 = .ok (.istore_n 2, 1) := by decide +kernel
theorem dX0_readNumber_2 : decode cX0_readNumber 2 = .ok (.iconst 0, 1) := by decide +kernel
theorem dX0_readNumber_3 : decode cX0_readNumber 3 = .ok (.istore_n 3, 1) := by decide +kernel
theorem dX0_readNumber_4 : decode cX0_readNumber 4 = .ok (.iload_n 3, 1) := by decide +kernel
theorem dX0_readNumber_5 : decode cX0_readNumber 5 = .ok (.iconst 4, 1) := by decide +kernel
theorem dX0_readNumber_6 : decode cX0_readNumber 6 = .ok (.if_icmp .ge 50, 3) := by decide +kernel
theorem dX0_readNumber_9 : decode cX0_readNumber 9 = .ok (.aload_n 0, 1) := by decide +kernel
theorem dX0_readNumber_10 : decode cX0_readNumber 10 = .ok (.invokevirtual 39, 3) := by decide +kernel
theorem dX0_readNumber_13 : decode cX0_readNumber 13 = .ok (.bipush 48, 2) := by decide +kernel
theorem dX0_readNumber_15 : decode cX0_readNumber 15 = .ok (.if_icmp .lt 41, 3) := by decide +kernel
theorem dX0_readNumber_18 : decode cX0_readNumber 18 = .ok (.aload_n 0, 1) := by decide +kernel
theorem dX0_readNumber_19 : decode cX0_readNumber 19 = .ok (.invokevirtual 39, 3) := by decide +kernel
theorem dX0_readNumber_22 : decode cX0_readNumber 22 = .ok (.bipush 57, 2) := by decide +kernel
theorem dX0_readNumber_24 : decode cX0_readNumber 24 = .ok (.if_icmp .gt 32, 3) := by decide +kernel
theorem dX0_readNumber_27 : decode cX0_readNumber 27 = .ok (.iload_n 2, 1) := by decide +kernel
theorem dX0_readNumber_28 : decode cX0_readNumber 28 = .ok (.bipush 10, 2) := by decide +kernel
theorem dX0_readNumber_30 : decode cX0_readNumber 30 = .ok (.imul, 1) := by decide +kernel
theorem dX0_readNumber_31 : decode cX0_readNumber 31 = .ok (.aload_n 0, 1) := by decide +kernel
theorem dX0_readNumber_32 : decode cX0_readNumber 32 = .ok (.invokevirtual 39, 3) := by decide +kernel
theorem dX0_readNumber_35 : decode cX0_readNumber 35 = .ok (.iadd, 1) := by decide +kernel
theorem dX0_readNumber_36 : decode cX0_readNumber 36 = .ok (.bipush 48, 2) := by decide +kernel
theorem dX0_readNumber_38 : decode cX0_readNumber 38 = .ok (.isub, 1) := by decide +kernel
theorem dX0_readNumber_39 : decode cX0_readNumber 39 = .ok (.istore_n 2, 1) := by decide +kernel
theorem dX0_readNumber_40 : decode cX0_readNumber 40 = .ok (.aload_n 0, 1) := by decide +kernel
theorem dX0_readNumber_41 : decode cX0_readNumber 41 = .ok (.dup, 1) := by decide +kernel
theorem dX0_readNumber_42 : decode cX0_readNumber 42 = .ok (.getfield 32, 3) := by decide +kernel
theorem dX0_readNumber_45 : decode cX0_readNumber 45 = .ok (.iconst 1, 1) := by decide +kernel
theorem dX0_readNumber_46 : decode cX0_readNumber 46 = .ok (.iadd, 1) := by decide +kernel
theorem dX0_readNumber_47 : decode cX0_readNumber 47 = .ok (.putfield 32, 3) := by decide +kernel
theorem dX0_readNumber_50 : decode cX0_readNumber 50 = .ok (.iinc 3 1, 3) := by decide +kernel
theorem dX0_readNumber_53 : decode cX0_readNumber 53 = .ok (.goto (-49), 3) := by decide +kernel
theorem dX0_readNumber_56 : decode cX0_readNumber 56 = .ok (.aload_n 0, 1) := by decide +kernel
theorem dX0_readNumber_57 : decode cX0_readNumber 57 = .ok (.getfield 22, 3) := by decide +kernel
theorem dX0_readNumber_60 : decode cX0_readNumber 60 = .ok (.iload_n 1, 1) := by decide +kernel
theorem dX0_readNumber_61 : decode cX0_readNumber 61 = .ok (.iload_n 2, 1) := by decide +kernel
theorem dX0_readNumber_62 : decode cX0_readNumber 62 = .ok (.iastore, 1) := by decide +kernel
theorem dX0_readNumber_63 : decode cX0_readNumber 63 = .ok (.iload_n 3, 1) := by decide +kernel
theorem dX0_readNumber_64 : decode cX0_readNumber 64 = .ok (.ifCond .le 7, 3) := by decide +kernel
theorem dX0_readNumber_67 : decode cX0_readNumber 67 = .ok (.iconst 1, 1) := by decide +kernel
theorem dX0_readNumber_68 : decode cX0_readNumber 68 = .ok (.goto 4, 3) := by decide +kernel
theorem dX0_readNumber_71 : decode cX0_readNumber 71 = .ok (.iconst 0, 1) := by decide +kernel
theorem dX0_readNumber_72 : decode cX0_readNumber 72 = .ok (.ireturn, 1) := by decide +kernel
theorem dX0_readLetter_0 : decode cX0_readLetter 0 = .ok (.aload_n 0, 1) := by decide +kernel
theorem dX0_readLetter_1 : decode cX0_readLetter 1 = .ok (.invokevirtual 39, 3) := by decide +kernel
theorem dX0_readLetter_4 : decode cX0_readLetter 4 = .ok (.iload_n 1, 1) := by decide +kernel
theorem dX0_readLetter_5 : decode cX0_readLetter 5 = .ok (.if_icmp .eq 5, 3) := by decide +kernel
theorem dX0_readLetter_8 : decode cX0_readLetter 8 = .ok (.iconst 0, 1) := by decide +kernel
theorem dX0_readLetter_9 : decode cX0_readLetter 9 = .ok (.ireturn, 1) := by decide +kernel
theorem dX0_readLetter_10 : decode cX0_readLetter 10 = .ok (.aload_n 0, 1) := by decide +kernel
theorem dX0_readLetter_11 : decode cX0_readLetter 11 = .ok (.dup, 1) := by decide +kernel
theorem dX0_readLetter_12 : decode cX0_readLetter 12 = .ok (.getfield 32, 3) := by decide +kernel
theorem dX0_readLetter_15 : decode cX0_readLetter 15 = .ok (.iconst 1, 1) := by decide +kernel
theorem dX0_readLetter_16 : decode cX0_readLetter 16 = .ok (.iadd, 1) := by decide +kernel
theorem dX0_readLetter_17 : decode cX0_readLetter 17 = .ok (.putfield 32, 3) := by decide +kernel
theorem dX0_readLetter_20 : decode cX0_readLetter 20 = .ok (.iconst 1, 1) := by decide +kernel
theorem dX0_readLetter_21 : decode cX0_readLetter 21 = .ok (.ireturn, 1) := by decide +kernel
theorem dX0_letterHere_0 : decode cX0_letterHere 0 = .ok (.aload_n 0, 1) := by decide +kernel
theorem dX0_letterHere_1 : decode cX0_letterHere 1 = .ok (.getfield 32, 3) := by decide +kernel
theorem dX0_letterHere_4 : decode cX0_letterHere 4 = .ok (.aload_n 0, 1) := by decide +kernel
theorem dX0_letterHere_5 : decode cX0_letterHere 5 = .ok (.getfield 25, 3) := by decide +kernel
theorem dX0_letterHere_8 : decode cX0_letterHere 8 = .ok (.if_icmp .ge 15, 3) := by decide +kernel
theorem dX0_letterHere_11 : decode cX0_letterHere 11 = .ok (.aload_n 0, 1) := by decide +kernel
theorem dX0_letterHere_12 : decode cX0_letterHere 12 = .ok (.getfield 11, 3) := by decide +kernel
theorem dX0_letterHere_15 : decode cX0_letterHere 15 = .ok (.aload_n 0, 1) := by decide +kernel
theorem dX0_letterHere_16 : decode cX0_letterHere 16 = .ok (.getfield 32, 3) := by decide +kernel
theorem dX0_letterHere_19 : decode cX0_letterHere 19 = .ok (.caload, 1) := by decide +kernel
theorem dX0_letterHere_20 : decode cX0_letterHere 20 = .ok (.goto 4, 3) := by decide +kernel
theorem dX0_letterHere_23 : decode cX0_letterHere 23 = .ok (.iconst (-1), 1) := by decide +kernel
theorem dX0_letterHere_24 : decode cX0_letterHere 24 = .ok (.ireturn, 1) := by decide +kernel
theorem dX1_init_0 : decode cX1_init 0 = .ok (.aload_n 0, 1) := by decide +kernel
theorem dX1_init_1 : decode cX1_init 1 = .ok (.invokespecial 3, 3) := by decide +kernel
theorem dX1_init_4 : decode cX1_init 4 = .ok (.aload_n 0, 1) := by decide +kernel
theorem dX1_init_5 : decode cX1_init 5 = .ok (.bipush 60, 2) := by decide +kernel
theorem dX1_init_7 : decode cX1_init 7 = .ok (.newarray .boolean, 2) := by decide +kernel
theorem dX1_init_9 : decode cX1_init 9 = .ok (.putfield 9, 3) := by decide +kernel
theorem dX1_init_12 : decode cX1_init 12 = .ok (.aload_n 0, 1) := by decide +kernel
theorem dX1_init_13 : decode cX1_init 13 = .ok (.bipush 60, 2) := by decide +kernel
theorem dX1_init_15 : decode cX1_init 15 = .ok (.newarray .int, 2) := by decide +kernel
theorem dX1_init_17 : decode cX1_init 17 = .ok (.putfield 15, 3) := by decide +kernel
theorem dX1_init_20 : decode cX1_init 20 = .ok (.aload_n 0, 1) := by decide +kernel
theorem dX1_init_21 : decode cX1_init 21 = .ok (.bipush 40, 2) := by decide +kernel
theorem dX1_init_23 : decode cX1_init 23 = .ok (.newarray .int, 2) := by decide +kernel
theorem dX1_init_25 : decode cX1_init 25 = .ok (.putfield 19, 3) := by decide +kernel
theorem dX1_init_28 : decode cX1_init 28 = .ok (.aload_n 0, 1) := by decide +kernel
theorem dX1_init_29 : decode cX1_init 29 = .ok (.bipush 40, 2) := by decide +kernel
theorem dX1_init_31 : decode cX1_init 31 = .ok (.newarray .int, 2) := by decide +kernel
theorem dX1_init_33 : decode cX1_init 33 = .ok (.putfield 22, 3) := by decide +kernel
theorem dX1_init_36 : decode cX1_init 36 = .ok (.aload_n 0, 1) := by decide +kernel
theorem dX1_init_37 : decode cX1_init 37 = .ok (.bipush 40, 2) := by decide +kernel
theorem dX1_init_39 : decode cX1_init 39 = .ok (.newarray .int, 2) := by decide +kernel
theorem dX1_init_41 : decode cX1_init 41 = .ok (.putfield 25, 3) := by decide +kernel
theorem dX1_init_44 : decode cX1_init 44 = .ok (.aload_n 0, 1) := by decide +kernel
theorem dX1_init_45 : decode cX1_init 45 = .ok (.bipush 40, 2) := by decide +kernel
theorem dX1_init_47 : decode cX1_init 47 = .ok (.newarray .int, 2) := by decide +kernel
theorem dX1_init_49 : decode cX1_init 49 = .ok (.putfield 28, 3) := by decide +kernel
theorem dX1_init_52 : decode cX1_init 52 = .ok (.aload_n 0, 1) := by decide +kernel
theorem dX1_init_53 : decode cX1_init 53 = .ok (.bipush 40, 2) := by decide +kernel
theorem dX1_init_55 : decode cX1_init 55 = .ok (.newarray .int, 2) := by decide +kernel
theorem dX1_init_57 : decode cX1_init 57 = .ok (.putfield 31, 3) := by decide +kernel
theorem dX1_init_60 : decode cX1_init 60 = .ok (.aload_n 0, 1) := by decide +kernel
theorem dX1_init_61 : decode cX1_init 61 = .ok (.new 34, 3) := by decide +kernel
theorem dX1_init_64 : decode cX1_init 64 = .ok (.dup, 1) := by decide +kernel
theorem dX1_init_65 : decode cX1_init 65 = .ok (.invokespecial 36, 3) := by decide +kernel
theorem dX1_init_68 : decode cX1_init 68 = .ok (.putfield 37, 3) := by decide +kernel
theorem dX1_init_71 : decode cX1_init 71 = .ok (.iconst 0, 1) := by decide +kernel
theorem dX1_init_72 : decode cX1_init 72 = .ok (.istore_n 1, 1) := by decide +kernel
theorem dX1_init_73 : decode cX1_init 73 = .ok (.iload_n 1, 1) := by decide +kernel
theorem dX1_init_74 : decode cX1_init 74 = .ok (.bipush 60, 2) := by decide +kernel
theorem dX1_init_76 : decode cX1_init 76 = .ok (.if_icmp .ge 16, 3) := by decide +kernel
theorem dX1_init_79 : decode cX1_init 79 = .ok (.aload_n 0, 1) := by decide +kernel
theorem dX1_init_80 : decode cX1_init 80 = .ok (.getfield 15, 3) := by decide +kernel
theorem dX1_init_83 : decode cX1_init 83 = .ok (.iload_n 1, 1) := by decide +kernel
theorem dX1_init_84 : decode cX1_init 84 = .ok (.iconst (-1), 1) := by decide +kernel
theorem dX1_init_85 : decode cX1_init 85 = .ok (.iastore, 1) := by decide +kernel
theorem dX1_init_86 : decode cX1_init 86 = .ok (.iinc 1 1, 3) := by decide +kernel
theorem dX1_init_89 : decode cX1_init 89 = .ok (.goto (-16), 3) := by decide +kernel
theorem dX1_init_92 : decode cX1_init 92 = .ok (.return_, 1) := by decide +kernel
theorem dX1_copyFrom_0 : decode cX1_copyFrom 0 = .ok (.aload_n 1, 1) := by decide +kernel
theorem dX1_copyFrom_1 : decode cX1_copyFrom 1 = .ok (.getfield 9, 3) := by decide +kernel
theorem dX1_copyFrom_4 : decode cX1_copyFrom 4 = .ok (.iconst 0, 1) := by decide +kernel
theorem dX1_copyFrom_5 : decode cX1_copyFrom 5 = .ok (.aload_n 0, 1) := by decide +kernel
theorem dX1_copyFrom_6 : decode cX1_copyFrom 6 = .ok (.getfield 9, 3) := by decide +kernel
theorem dX1_copyFrom_9 : decode cX1_copyFrom 9 = .ok (.iconst 0, 1) := by decide +kernel
theorem dX1_copyFrom_10 : decode cX1_copyFrom 10 = .ok (.bipush 60, 2) := by decide +kernel
theorem dX1_copyFrom_12 : decode cX1_copyFrom 12 = .ok (.invokestatic 41, 3) := by decide +kernel
theorem dX1_copyFrom_15 : decode cX1_copyFrom 15 = .ok (.aload_n 1, 1) := by decide +kernel
theorem dX1_copyFrom_16 : decode cX1_copyFrom 16 = .ok (.getfield 15, 3) := by decide +kernel
theorem dX1_copyFrom_19 : decode cX1_copyFrom 19 = .ok (.iconst 0, 1) := by decide +kernel
theorem dX1_copyFrom_20 : decode cX1_copyFrom 20 = .ok (.aload_n 0, 1) := by decide +kernel
theorem dX1_copyFrom_21 : decode cX1_copyFrom 21 = .ok (.getfield 15, 3) := by decide +kernel
theorem dX1_copyFrom_24 : decode cX1_copyFrom 24 = .ok (.iconst 0, 1) := by decide +kernel
theorem dX1_copyFrom_25 : decode cX1_copyFrom 25 = .ok (.bipush 60, 2) := by decide +kernel
theorem dX1_copyFrom_27 : decode cX1_copyFrom 27 = .ok (.invokestatic 41, 3) := by decide +kernel
theorem dX1_copyFrom_30 : decode cX1_copyFrom 30 = .ok (.aload_n 1, 1) := by decide +kernel
theorem dX1_copyFrom_31 : decode cX1_copyFrom 31 = .ok (.getfield 19, 3) := by decide +kernel
theorem dX1_copyFrom_34 : decode cX1_copyFrom 34 = .ok (.iconst 0, 1) := by decide +kernel
theorem dX1_copyFrom_35 : decode cX1_copyFrom 35 = .ok (.aload_n 0, 1) := by decide +kernel
theorem dX1_copyFrom_36 : decode cX1_copyFrom 36 = .ok (.getfield 19, 3) := by decide +kernel
theorem dX1_copyFrom_39 : decode cX1_copyFrom 39 = .ok (.iconst 0, 1) := by decide +kernel
theorem dX1_copyFrom_40 : decode cX1_copyFrom 40 = .ok (.bipush 40, 2) := by decide +kernel
theorem dX1_copyFrom_42 : decode cX1_copyFrom 42 = .ok (.invokestatic 41, 3) := by decide +kernel
theorem dX1_copyFrom_45 : decode cX1_copyFrom 45 = .ok (.aload_n 1, 1) := by decide +kernel
theorem dX1_copyFrom_46 : decode cX1_copyFrom 46 = .ok (.getfield 22, 3) := by decide +kernel
theorem dX1_copyFrom_49 : decode cX1_copyFrom 49 = .ok (.iconst 0, 1) := by decide +kernel
theorem dX1_copyFrom_50 : decode cX1_copyFrom 50 = .ok (.aload_n 0, 1) := by decide +kernel
theorem dX1_copyFrom_51 : decode cX1_copyFrom 51 = .ok (.getfield 22, 3) := by decide +kernel
theorem dX1_copyFrom_54 : decode cX1_copyFrom 54 = .ok (.iconst 0, 1) := by decide +kernel
theorem dX1_copyFrom_55 : decode cX1_copyFrom 55 = .ok (.bipush 40, 2) := by decide +kernel
theorem dX1_copyFrom_57 : decode cX1_copyFrom 57 = .ok (.invokestatic 41, 3) := by decide +kernel
theorem dX1_copyFrom_60 : decode cX1_copyFrom 60 = .ok (.aload_n 1, 1) := by decide +kernel
theorem dX1_copyFrom_61 : decode cX1_copyFrom 61 = .ok (.getfield 25, 3) := by decide +kernel
theorem dX1_copyFrom_64 : decode cX1_copyFrom 64 = .ok (.iconst 0, 1) := by decide +kernel
theorem dX1_copyFrom_65 : decode cX1_copyFrom 65 = .ok (.aload_n 0, 1) := by decide +kernel
theorem dX1_copyFrom_66 : decode cX1_copyFrom 66 = .ok (.getfield 25, 3) := by decide +kernel
theorem dX1_copyFrom_69 : decode cX1_copyFrom 69 = .ok (.iconst 0, 1) := by decide +kernel
theorem dX1_copyFrom_70 : decode cX1_copyFrom 70 = .ok (.bipush 40, 2) := by decide +kernel
theorem dX1_copyFrom_72 : decode cX1_copyFrom 72 = .ok (.invokestatic 41, 3) := by decide +kernel
theorem dX1_copyFrom_75 : decode cX1_copyFrom 75 = .ok (.aload_n 1, 1) := by decide +kernel
theorem dX1_copyFrom_76 : decode cX1_copyFrom 76 = .ok (.getfield 28, 3) := by decide +kernel
theorem dX1_copyFrom_79 : decode cX1_copyFrom 79 = .ok (.iconst 0, 1) := by decide +kernel
theorem dX1_copyFrom_80 : decode cX1_copyFrom 80 = .ok (.aload_n 0, 1) := by decide +kernel
theorem dX1_copyFrom_81 : decode cX1_copyFrom 81 = .ok (.getfield 28, 3) := by decide +kernel
theorem dX1_copyFrom_84 : decode cX1_copyFrom 84 = .ok (.iconst 0, 1) := by decide +kernel
theorem dX1_copyFrom_85 : decode cX1_copyFrom 85 = .ok (.bipush 40, 2) := by decide +kernel
theorem dX1_copyFrom_87 : decode cX1_copyFrom 87 = .ok (.invokestatic 41, 3) := by decide +kernel
theorem dX1_copyFrom_90 : decode cX1_copyFrom 90 = .ok (.aload_n 0, 1) := by decide +kernel
theorem dX1_copyFrom_91 : decode cX1_copyFrom 91 = .ok (.getfield 37, 3) := by decide +kernel
theorem dX1_copyFrom_94 : decode cX1_copyFrom 94 = .ok (.aload_n 1, 1) := by decide +kernel
theorem dX1_copyFrom_95 : decode cX1_copyFrom 95 = .ok (.getfield 37, 3) := by decide +kernel
theorem dX1_copyFrom_98 : decode cX1_copyFrom 98 = .ok (.invokevirtual 47, 3) := by decide +kernel
theorem dX1_copyFrom_101 : decode cX1_copyFrom 101 = .ok (.aload_n 0, 1) := by decide +kernel
theorem dX1_copyFrom_102 : decode cX1_copyFrom 102 = .ok (.aload_n 1, 1) := by decide +kernel
theorem dX1_copyFrom_103 : decode cX1_copyFrom 103 = .ok (.getfield 51, 3) := by decide +kernel
theorem dX1_copyFrom_106 : decode cX1_copyFrom 106 = .ok (.putfield 51, 3) := by decide +kernel
theorem dX1_copyFrom_109 : decode cX1_copyFrom 109 = .ok (.aload_n 0, 1) := by decide +kernel
theorem dX1_copyFrom_110 : decode cX1_copyFrom 110 = .ok (.aload_n 1, 1) := by decide +kernel
theorem dX1_copyFrom_111 : decode cX1_copyFrom 111 = .ok (.getfield 55, 3) := by decide +kernel
theorem dX1_copyFrom_114 : decode cX1_copyFrom 114 = .ok (.putfield 55, 3) := by decide +kernel
theorem dX1_copyFrom_117 : decode cX1_copyFrom 117 = .ok (.aload_n 0, 1) := by decide +kernel
theorem dX1_copyFrom_118 : decode cX1_copyFrom 118 = .ok (.aload_n 1, 1) := by decide +kernel
theorem dX1_copyFrom_119 : decode cX1_copyFrom 119 = .ok (.getfield 58, 3) := by decide +kernel
theorem dX1_copyFrom_122 : decode cX1_copyFrom 122 = .ok (.putfield 58, 3) := by decide +kernel
theorem dX1_copyFrom_125 : decode cX1_copyFrom 125 = .ok (.return_, 1) := by decide +kernel
theorem dX1_time_0 : decode cX1_time 0 = .ok (.aload_n 0, 1) := by decide +kernel
theorem dX1_time_1 : decode cX1_time 1 = .ok (.getfield 37, 3) := by decide +kernel
theorem dX1_time_4 : decode cX1_time 4 = .ok (.getfield 61, 3) := by decide +kernel
theorem dX1_time_7 : decode cX1_time 7 = .ok (.ireturn, 1) := by decide +kernel
theorem dX1_log_0 : decode cX1_log 0 = .ok (.aload_n 0, 1) := by decide +kernel
theorem dX1_log_1 : decode cX1_log 1 = .ok (.getfield 37, 3) := by decide +kernel
theorem dX1_log_4 : decode cX1_log 4 = .ok (.getfield 64, 3) := by decide +kernel
theorem dX1_log_7 : decode cX1_log 7 = .ok (.areturn, 1) := by decide +kernel
theorem dX1_machineOf_0 : decode cX1_machineOf 0 = .ok (.aload_n 0, 1) := by decide +kernel
theorem dX1_machineOf_1 : decode cX1_machineOf 1 = .ok (.getfield 37, 3) := by decide +kernel
theorem dX1_machineOf_4 : decode cX1_machineOf 4 = .ok (.getfield 68, 3) := by decide +kernel
theorem dX1_machineOf_7 : decode cX1_machineOf 7 = .ok (.iload_n 1, 1) := by decide +kernel
theorem dX1_machineOf_8 : decode cX1_machineOf 8 = .ok (.aaload, 1) := by decide +kernel
theorem dX1_machineOf_9 : decode cX1_machineOf 9 = .ok (.areturn, 1) := by decide +kernel
theorem dX1_came_0 : decode cX1_came 0 = .ok (.aload_n 0, 1) := by decide +kernel
theorem dX1_came_1 : decode cX1_came 1 = .ok (.getfield 51, 3) := by decide +kernel
theorem dX1_came_4 : decode cX1_came 4 = .ok (.ireturn, 1) := by decide +kernel
theorem dX1_moved_0 : decode cX1_moved 0 = .ok (.aload_n 0, 1) := by decide +kernel
theorem dX1_moved_1 : decode cX1_moved 1 = .ok (.getfield 58, 3) := by decide +kernel
theorem dX1_moved_4 : decode cX1_moved 4 = .ok (.ireturn, 1) := by decide +kernel
theorem dX1_countStored_0 : decode cX1_countStored 0 = .ok (.aload_n 0, 1) := by decide +kernel
theorem dX1_countStored_1 : decode cX1_countStored 1 = .ok (.getfield 55, 3) := by decide +kernel
theorem dX1_countStored_4 : decode cX1_countStored 4 = .ok (.ireturn, 1) := by decide +kernel
theorem dX1_isFull_0 : decode cX1_isFull 0 = .ok (.aload_n 0, 1) := by decide +kernel
theorem dX1_isFull_1 : decode cX1_isFull 1 = .ok (.getfield 51, 3) := by decide +kernel
theorem dX1_isFull_4 : decode cX1_isFull 4 = .ok (.bipush 40, 2) := by decide +kernel
theorem dX1_isFull_6 : decode cX1_isFull 6 = .ok (.if_icmp .lt 7, 3) := by decide +kernel
theorem dX1_isFull_9 : decode cX1_isFull 9 = .ok (.iconst 1, 1) := by decide +kernel
theorem dX1_isFull_10 : decode cX1_isFull 10 = .ok (.goto 4, 3) := by decide +kernel
theorem dX1_isFull_13 : decode cX1_isFull 13 = .ok (.iconst 0, 1) := by decide +kernel
theorem dX1_isFull_14 : decode cX1_isFull 14 = .ok (.ireturn, 1) := by decide +kernel
theorem dX1_isStored_0 : decode cX1_isStored 0 = .ok (.iload_n 1, 1) := by decide +kernel
theorem dX1_isStored_1 : decode cX1_isStored 1 = .ok (.ifCond .lt 25, 3) := by decide +kernel
theorem dX1_isStored_4 : decode cX1_isStored 4 = .ok (.iload_n 1, 1) := by decide +kernel
theorem dX1_isStored_5 : decode cX1_isStored 5 = .ok (.aload_n 0, 1) := by decide +kernel
theorem dX1_isStored_6 : decode cX1_isStored 6 = .ok (.getfield 51, 3) := by decide +kernel
theorem dX1_isStored_9 : decode cX1_isStored 9 = .ok (.if_icmp .ge 17, 3) := by decide +kernel
theorem dX1_isStored_12 : decode cX1_isStored 12 = .ok (.aload_n 0, 1) := by decide +kernel
theorem dX1_isStored_13 : decode cX1_isStored 13 = .ok (.getfield 25, 3) := by decide +kernel
theorem dX1_isStored_16 : decode cX1_isStored 16 = .ok (.iload_n 1, 1) := by decide +kernel
theorem dX1_isStored_17 : decode cX1_isStored 17 = .ok (.iaload, 1) := by decide +kernel
theorem dX1_isStored_18 : decode cX1_isStored 18 = .ok (.iconst (-1), 1) := by decide +kernel
theorem dX1_isStored_19 : decode cX1_isStored 19 = .ok (.if_icmp .eq 7, 3) := by decide +kernel
theorem dX1_isStored_22 : decode cX1_isStored 22 = .ok (.iconst 1, 1) := by decide +kernel
theorem dX1_isStored_23 : decode cX1_isStored 23 = .ok (.goto 4, 3) := by decide +kernel
theorem dX1_isStored_26 : decode cX1_isStored 26 = .ok (.iconst 0, 1) := by decide +kernel
theorem dX1_isStored_27 : decode cX1_isStored 27 = .ok (.ireturn, 1) := by decide +kernel
theorem dX1_sizeOf_0 : decode cX1_sizeOf 0 = .ok (.aload_n 0, 1) := by decide +kernel
theorem dX1_sizeOf_1 : decode cX1_sizeOf 1 = .ok (.getfield 19, 3) := by decide +kernel
theorem dX1_sizeOf_4 : decode cX1_sizeOf 4 = .ok (.iload_n 1, 1) := by decide +kernel
theorem dX1_sizeOf_5 : decode cX1_sizeOf 5 = .ok (.iaload, 1) := by decide +kernel
theorem dX1_sizeOf_6 : decode cX1_sizeOf 6 = .ok (.ireturn, 1) := by decide +kernel
theorem dX1_pickupOf_0 : decode cX1_pickupOf 0 = .ok (.aload_n 0, 1) := by decide +kernel
theorem dX1_pickupOf_1 : decode cX1_pickupOf 1 = .ok (.getfield 22, 3) := by decide +kernel
theorem dX1_pickupOf_4 : decode cX1_pickupOf 4 = .ok (.iload_n 1, 1) := by decide +kernel
theorem dX1_pickupOf_5 : decode cX1_pickupOf 5 = .ok (.iaload, 1) := by decide +kernel
theorem dX1_pickupOf_6 : decode cX1_pickupOf 6 = .ok (.ireturn, 1) := by decide +kernel
theorem dX1_bayOf_0 : decode cX1_bayOf 0 = .ok (.aload_n 0, 1) := by decide +kernel
theorem dX1_bayOf_1 : decode cX1_bayOf 1 = .ok (.getfield 25, 3) := by decide +kernel
theorem dX1_bayOf_4 : decode cX1_bayOf 4 = .ok (.iload_n 1, 1) := by decide +kernel
theorem dX1_bayOf_5 : decode cX1_bayOf 5 = .ok (.iaload, 1) := by decide +kernel
theorem dX1_bayOf_6 : decode cX1_bayOf 6 = .ok (.ireturn, 1) := by decide +kernel
theorem dX1_jobsOf_0 : decode cX1_jobsOf 0 = .ok (.aload_n 0, 1) := by decide +kernel
theorem dX1_jobsOf_1 : decode cX1_jobsOf 1 = .ok (.getfield 28, 3) := by decide +kernel
theorem dX1_jobsOf_4 : decode cX1_jobsOf 4 = .ok (.iload_n 1, 1) := by decide +kernel
theorem dX1_jobsOf_5 : decode cX1_jobsOf 5 = .ok (.iaload, 1) := by decide +kernel
theorem dX1_jobsOf_6 : decode cX1_jobsOf 6 = .ok (.ireturn, 1) := by decide +kernel
theorem dX1_blockerOf_0 : decode cX1_blockerOf 0 = .ok (.aload_n 0, 1) := by decide +kernel
theorem dX1_blockerOf_1 : decode cX1_blockerOf 1 = .ok (.iload_n 1, 1) := by decide +kernel
theorem dX1_blockerOf_2 : decode cX1_blockerOf 2 = .ok (.invokevirtual 72, 3) := by decide +kernel
theorem dX1_blockerOf_5 : decode cX1_blockerOf 5 = .ok (.ifCond .eq 16, 3) := by decide +kernel
theorem dX1_blockerOf_8 : decode cX1_blockerOf 8 = .ok (.aload_n 0, 1) := by decide +kernel
theorem dX1_blockerOf_9 : decode cX1_blockerOf 9 = .ok (.aload_n 0, 1) := by decide +kernel
theorem dX1_blockerOf_10 : decode cX1_blockerOf 10 = .ok (.getfield 25, 3) := by decide +kernel
theorem dX1_blockerOf_13 : decode cX1_blockerOf 13 = .ok (.iload_n 1, 1) := by decide +kernel
theorem dX1_blockerOf_14 : decode cX1_blockerOf 14 = .ok (.iaload, 1) := by decide +kernel
theorem dX1_blockerOf_15 : decode cX1_blockerOf 15 = .ok (.invokevirtual 76, 3) := by decide +kernel
theorem dX1_blockerOf_18 : decode cX1_blockerOf 18 = .ok (.goto 4, 3) := by decide +kernel
theorem dX1_blockerOf_21 : decode cX1_blockerOf 21 = .ok (.iconst (-1), 1) := by decide +kernel
theorem dX1_blockerOf_22 : decode cX1_blockerOf 22 = .ok (.ireturn, 1) := by decide +kernel
theorem dX1_isClosed_0 : decode cX1_isClosed 0 = .ok (.aload_n 0, 1) := by decide +kernel
theorem dX1_isClosed_1 : decode cX1_isClosed 1 = .ok (.getfield 9, 3) := by decide +kernel
theorem dX1_isClosed_4 : decode cX1_isClosed 4 = .ok (.iload_n 1, 1) := by decide +kernel
theorem dX1_isClosed_5 : decode cX1_isClosed 5 = .ok (.baload, 1) := by decide +kernel
theorem dX1_isClosed_6 : decode cX1_isClosed 6 = .ok (.ireturn, 1) := by decide +kernel
theorem dX1_carIn_0 : decode cX1_carIn 0 = .ok (.aload_n 0, 1) := by decide +kernel
theorem dX1_carIn_1 : decode cX1_carIn 1 = .ok (.getfield 15, 3) := by decide +kernel
theorem dX1_carIn_4 : decode cX1_carIn 4 = .ok (.iload_n 1, 1) := by decide +kernel
theorem dX1_carIn_5 : decode cX1_carIn 5 = .ok (.iaload, 1) := by decide +kernel
theorem dX1_carIn_6 : decode cX1_carIn 6 = .ok (.ireturn, 1) := by decide +kernel
theorem dX1_carBefore_0 : decode cX1_carBefore 0 = .ok (.iload_n 1, 1) := by decide +kernel
theorem dX1_carBefore_1 : decode cX1_carBefore 1 = .ok (.invokestatic 80, 3) := by decide +kernel
theorem dX1_carBefore_4 : decode cX1_carBefore 4 = .ok (.iconst 1, 1) := by decide +kernel
theorem dX1_carBefore_5 : decode cX1_carBefore 5 = .ok (.if_icmp .ne 14, 3) := by decide +kernel
theorem dX1_carBefore_8 : decode cX1_carBefore 8 = .ok (.aload_n 0, 1) := by decide +kernel
theorem dX1_carBefore_9 : decode cX1_carBefore 9 = .ok (.getfield 15, 3) := by decide +kernel
theorem dX1_carBefore_12 : decode cX1_carBefore 12 = .ok (.iload_n 1, 1) := by decide +kernel
theorem dX1_carBefore_13 : decode cX1_carBefore 13 = .ok (.iconst 1, 1) := by decide +kernel
theorem dX1_carBefore_14 : decode cX1_carBefore 14 = .ok (.isub, 1) := by decide +kernel
theorem dX1_carBefore_15 : decode cX1_carBefore 15 = .ok (.iaload, 1) := by decide +kernel
theorem dX1_carBefore_16 : decode cX1_carBefore 16 = .ok (.goto 4, 3) := by decide +kernel
theorem dX1_carBefore_19 : decode cX1_carBefore 19 = .ok (.iconst (-1), 1) := by decide +kernel
theorem dX1_carBefore_20 : decode cX1_carBefore 20 = .ok (.ireturn, 1) := by decide +kernel
theorem dX1_storedUntil_0 : decode cX1_storedUntil 0 = .ok (.lconst 0, 1) := by decide +kernel
theorem dX1_storedUntil_1 : decode cX1_storedUntil 1 = .ok (.lstore_n 2, 1) := by decide +kernel
theorem dX1_storedUntil_2 : decode cX1_storedUntil 2 = .ok (.iconst 0, 1) := by decide +kernel
theorem dX1_storedUntil_3 : decode cX1_storedUntil 3 = .ok (.istore 4, 2) := by decide +kernel
theorem dX1_storedUntil_5 : decode cX1_storedUntil 5 = .ok (.iload 4, 2) := by decide +kernel
theorem dX1_storedUntil_7 : decode cX1_storedUntil 7 = .ok (.aload_n 0, 1) := by decide +kernel
theorem dX1_storedUntil_8 : decode cX1_storedUntil 8 = .ok (.getfield 51, 3) := by decide +kernel
theorem dX1_storedUntil_11 : decode cX1_storedUntil 11 = .ok (.if_icmp .ge 36, 3) := by decide +kernel
theorem dX1_storedUntil_14 : decode cX1_storedUntil 14 = .ok (.aload_n 0, 1) := by decide +kernel
theorem dX1_storedUntil_15 : decode cX1_storedUntil 15 = .ok (.iload 4, 2) := by decide +kernel
theorem dX1_storedUntil_17 : decode cX1_storedUntil 17 = .ok (.invokevirtual 72, 3) := by decide +kernel
theorem dX1_storedUntil_20 : decode cX1_storedUntil 20 = .ok (.ifCond .eq 21, 3) := by decide +kernel
theorem dX1_storedUntil_23 : decode cX1_storedUntil 23 = .ok (.aload_n 0, 1) := by decide +kernel
theorem dX1_storedUntil_24 : decode cX1_storedUntil 24 = .ok (.getfield 22, 3) := by decide +kernel
theorem dX1_storedUntil_27 : decode cX1_storedUntil 27 = .ok (.iload 4, 2) := by decide +kernel
theorem dX1_storedUntil_29 : decode cX1_storedUntil 29 = .ok (.iaload, 1) := by decide +kernel
theorem dX1_storedUntil_30 : decode cX1_storedUntil 30 = .ok (.iload_n 1, 1) := by decide +kernel
theorem dX1_storedUntil_31 : decode cX1_storedUntil 31 = .ok (.if_icmp .gt 10, 3) := by decide +kernel
theorem dX1_storedUntil_34 : decode cX1_storedUntil 34 = .ok (.lload_n 2, 1) := by decide +kernel
theorem dX1_storedUntil_35 : decode cX1_storedUntil 35 = .ok (.lconst 1, 1) := by decide +kernel
theorem dX1_storedUntil_36 : decode cX1_storedUntil 36 = .ok (.iload 4, 2) := by decide +kernel
theorem dX1_storedUntil_38 : decode cX1_storedUntil 38 = .ok (.lshl, 1) := by decide +kernel
theorem dX1_storedUntil_39 : decode cX1_storedUntil 39 = .ok (.lor, 1) := by decide +kernel
theorem dX1_storedUntil_40 : decode cX1_storedUntil 40 = .ok (.lstore_n 2, 1) := by decide +kernel
theorem dX1_storedUntil_41 : decode cX1_storedUntil 41 = .ok (.iinc 4 1, 3) := by decide +kernel
theorem dX1_storedUntil_44 : decode cX1_storedUntil 44 = .ok (.goto (-39), 3) := by decide +kernel
theorem dX1_storedUntil_47 : decode cX1_storedUntil 47 = .ok (.lload_n 2, 1) := by decide +kernel
theorem dX1_storedUntil_48 : decode cX1_storedUntil 48 = .ok (.lreturn, 1) := by decide +kernel
theorem dX1_blockedCars_0 : decode cX1_blockedCars 0 = .ok (.lconst 0, 1) := by decide +kernel
theorem dX1_blockedCars_1 : decode cX1_blockedCars 1 = .ok (.lstore_n 2, 1) := by decide +kernel
theorem dX1_blockedCars_2 : decode cX1_blockedCars 2 = .ok (.iconst 0, 1) := by decide +kernel
theorem dX1_blockedCars_3 : decode cX1_blockedCars 3 = .ok (.istore 4, 2) := by decide +kernel
theorem dX1_blockedCars_5 : decode cX1_blockedCars 5 = .ok (.iload 4, 2) := by decide +kernel
theorem dX1_blockedCars_7 : decode cX1_blockedCars 7 = .ok (.aload_n 0, 1) := by decide +kernel
theorem dX1_blockedCars_8 : decode cX1_blockedCars 8 = .ok (.getfield 51, 3) := by decide +kernel
theorem dX1_blockedCars_11 : decode cX1_blockedCars 11 = .ok (.if_icmp .ge 51, 3) := by decide +kernel
theorem dX1_blockedCars_14 : decode cX1_blockedCars 14 = .ok (.aload_n 0, 1) := by decide +kernel
theorem dX1_blockedCars_15 : decode cX1_blockedCars 15 = .ok (.iload 4, 2) := by decide +kernel
theorem dX1_blockedCars_17 : decode cX1_blockedCars 17 = .ok (.invokevirtual 83, 3) := by decide +kernel
theorem dX1_blockedCars_20 : decode cX1_blockedCars 20 = .ok (.istore 5, 2) := by decide +kernel
theorem dX1_blockedCars_22 : decode cX1_blockedCars 22 = .ok (.iload 5, 2) := by decide +kernel
theorem dX1_blockedCars_24 : decode cX1_blockedCars 24 = .ok (.iconst (-1), 1) := by decide +kernel
theorem dX1_blockedCars_25 : decode cX1_blockedCars 25 = .ok (.if_icmp .eq 31, 3) := by decide +kernel
theorem dX1_blockedCars_28 : decode cX1_blockedCars 28 = .ok (.iload_n 1, 1) := by decide +kernel
theorem dX1_blockedCars_29 : decode cX1_blockedCars 29 = .ok (.ifCond .eq 20, 3) := by decide +kernel
theorem dX1_blockedCars_32 : decode cX1_blockedCars 32 = .ok (.aload_n 0, 1) := by decide +kernel
theorem dX1_blockedCars_33 : decode cX1_blockedCars 33 = .ok (.getfield 22, 3) := by decide +kernel
theorem dX1_blockedCars_36 : decode cX1_blockedCars 36 = .ok (.iload 4, 2) := by decide +kernel
theorem dX1_blockedCars_38 : decode cX1_blockedCars 38 = .ok (.iaload, 1) := by decide +kernel
theorem dX1_blockedCars_39 : decode cX1_blockedCars 39 = .ok (.aload_n 0, 1) := by decide +kernel
theorem dX1_blockedCars_40 : decode cX1_blockedCars 40 = .ok (.getfield 22, 3) := by decide +kernel
theorem dX1_blockedCars_43 : decode cX1_blockedCars 43 = .ok (.iload 5, 2) := by decide +kernel
theorem dX1_blockedCars_45 : decode cX1_blockedCars 45 = .ok (.iaload, 1) := by decide +kernel
theorem dX1_blockedCars_46 : decode cX1_blockedCars 46 = .ok (.if_icmp .ge 10, 3) := by decide +kernel
theorem dX1_blockedCars_49 : decode cX1_blockedCars 49 = .ok (.lload_n 2, 1) := by decide +kernel
theorem dX1_blockedCars_50 : decode cX1_blockedCars 50 = .ok (.lconst 1, 1) := by decide +kernel
theorem dX1_blockedCars_51 : decode cX1_blockedCars 51 = .ok (.iload 4, 2) := by decide +kernel
theorem dX1_blockedCars_53 : decode cX1_blockedCars 53 = .ok (.lshl, 1) := by decide +kernel
theorem dX1_blockedCars_54 : decode cX1_blockedCars 54 = .ok (.lor, 1) := by decide +kernel
theorem dX1_blockedCars_55 : decode cX1_blockedCars 55 = .ok (.lstore_n 2, 1) := by decide +kernel
theorem dX1_blockedCars_56 : decode cX1_blockedCars 56 = .ok (.iinc 4 1, 3) := by decide +kernel
theorem dX1_blockedCars_59 : decode cX1_blockedCars 59 = .ok (.goto (-54), 3) := by decide +kernel
theorem dX1_blockedCars_62 : decode cX1_blockedCars 62 = .ok (.lload_n 2, 1) := by decide +kernel
theorem dX1_blockedCars_63 : decode cX1_blockedCars 63 = .ok (.lreturn, 1) := by decide +kernel
theorem dX1_countOpenWithoutCar_0 : decode cX1_countOpenWithoutCar 0 = .ok (.iconst 0, 1) := by decide +kernel
theorem dX1_countOpenWithoutCar_1 : decode cX1_countOpenWithoutCar 1 = .ok (.istore_n 2, 1) := by decide +kernel
theorem dX1_countOpenWithoutCar_2 : decode cX1_countOpenWithoutCar 2 = .ok (.iconst 0, 1) := by decide +kernel
theorem dX1_countOpenWithoutCar_3 : decode cX1_countOpenWithoutCar 3 = .ok (.istore_n 3, 1) := by decide +kernel
theorem dX1_countOpenWithoutCar_4 : decode cX1_countOpenWithoutCar 4 = .ok (.iload_n 3, 1) := by decide +kernel
theorem dX1_countOpenWithoutCar_5 : decode cX1_countOpenWithoutCar 5 = .ok (.bipush 60, 2) := by decide +kernel
theorem dX1_countOpenWithoutCar_7 : decode cX1_countOpenWithoutCar 7 = .ok (.if_icmp .ge 44, 3) := by decide +kernel
theorem dX1_countOpenWithoutCar_10 : decode cX1_countOpenWithoutCar 10 = .ok (.aload_n 0, 1) := by decide +kernel
theorem dX1_countOpenWithoutCar_11 : decode cX1_countOpenWithoutCar 11 = .ok (.getfield 9, 3) := by decide +kernel
theorem dX1_countOpenWithoutCar_14 : decode cX1_countOpenWithoutCar 14 = .ok (.iload_n 3, 1) := by decide +kernel
theorem dX1_countOpenWithoutCar_15 : decode cX1_countOpenWithoutCar 15 = .ok (.baload, 1) := by decide +kernel
theorem dX1_countOpenWithoutCar_16 : decode cX1_countOpenWithoutCar 16 = .ok (.ifCond .ne 29, 3) := by decide +kernel
theorem dX1_countOpenWithoutCar_19 : decode cX1_countOpenWithoutCar 19 = .ok (.aload_n 0, 1) := by decide +kernel
theorem dX1_countOpenWithoutCar_20 : decode cX1_countOpenWithoutCar 20 = .ok (.getfield 15, 3) := by decide +kernel
theorem dX1_countOpenWithoutCar_23 : decode cX1_countOpenWithoutCar 23 = .ok (.iload_n 3, 1) := by decide +kernel
theorem dX1_countOpenWithoutCar_24 : decode cX1_countOpenWithoutCar 24 = .ok (.iaload, 1) := by decide +kernel
theorem dX1_countOpenWithoutCar_25 : decode cX1_countOpenWithoutCar 25 = .ok (.iconst (-1), 1) := by decide +kernel
theorem dX1_countOpenWithoutCar_26 : decode cX1_countOpenWithoutCar 26 = .ok (.if_icmp .ne 19, 3) := by decide +kernel
theorem dX1_countOpenWithoutCar_29 : decode cX1_countOpenWithoutCar 29 = .ok (.iload_n 1, 1) := by decide +kernel
theorem dX1_countOpenWithoutCar_30 : decode cX1_countOpenWithoutCar 30 = .ok (.ifCond .eq 12, 3) := by decide +kernel
theorem dX1_countOpenWithoutCar_33 : decode cX1_countOpenWithoutCar 33 = .ok (.aload_n 0, 1) := by decide +kernel
theorem dX1_countOpenWithoutCar_34 : decode cX1_countOpenWithoutCar 34 = .ok (.iload_n 3, 1) := by decide +kernel
theorem dX1_countOpenWithoutCar_35 : decode cX1_countOpenWithoutCar 35 = .ok (.invokevirtual 76, 3) := by decide +kernel
theorem dX1_countOpenWithoutCar_38 : decode cX1_countOpenWithoutCar 38 = .ok (.iconst (-1), 1) := by decide +kernel
theorem dX1_countOpenWithoutCar_39 : decode cX1_countOpenWithoutCar 39 = .ok (.if_icmp .ne 6, 3) := by decide +kernel
theorem dX1_countOpenWithoutCar_42 : decode cX1_countOpenWithoutCar 42 = .ok (.iinc 2 1, 3) := by decide +kernel
theorem dX1_countOpenWithoutCar_45 : decode cX1_countOpenWithoutCar 45 = .ok (.iinc 3 1, 3) := by decide +kernel
theorem dX1_countOpenWithoutCar_48 : decode cX1_countOpenWithoutCar 48 = .ok (.goto (-44), 3) := by decide +kernel
theorem dX1_countOpenWithoutCar_51 : decode cX1_countOpenWithoutCar 51 = .ok (.iload_n 2, 1) := by decide +kernel
theorem dX1_countOpenWithoutCar_52 : decode cX1_countOpenWithoutCar 52 = .ok (.ireturn, 1) := by decide +kernel
theorem dX1_countClosed_0 : decode cX1_countClosed 0 = .ok (.iconst 0, 1) := by decide +kernel
theorem dX1_countClosed_1 : decode cX1_countClosed 1 = .ok (.istore_n 1, 1) := by decide +kernel
theorem dX1_countClosed_2 : decode cX1_countClosed 2 = .ok (.iconst 0, 1) := by decide +kernel
theorem dX1_countClosed_3 : decode cX1_countClosed 3 = .ok (.istore_n 2, 1) := by decide +kernel
theorem dX1_countClosed_4 : decode cX1_countClosed 4 = .ok (.iload_n 2, 1) := by decide +kernel
theorem dX1_countClosed_5 : decode cX1_countClosed 5 = .ok (.bipush 60, 2) := by decide +kernel
theorem dX1_countClosed_7 : decode cX1_countClosed 7 = .ok (.if_icmp .ge 21, 3) := by decide +kernel
theorem dX1_countClosed_10 : decode cX1_countClosed 10 = .ok (.aload_n 0, 1) := by decide +kernel
theorem dX1_countClosed_11 : decode cX1_countClosed 11 = .ok (.getfield 9, 3) := by decide +kernel
theorem dX1_countClosed_14 : decode cX1_countClosed 14 = .ok (.iload_n 2, 1) := by decide +kernel
theorem dX1_countClosed_15 : decode cX1_countClosed 15 = .ok (.baload, 1) := by decide +kernel
theorem dX1_countClosed_16 : decode cX1_countClosed 16 = .ok (.ifCond .eq 6, 3) := by decide +kernel
theorem dX1_countClosed_19 : decode cX1_countClosed 19 = .ok (.iinc 1 1, 3) := by decide +kernel
theorem dX1_countClosed_22 : decode cX1_countClosed 22 = .ok (.iinc 2 1, 3) := by decide +kernel
theorem dX1_countClosed_25 : decode cX1_countClosed 25 = .ok (.goto (-21), 3) := by decide +kernel
theorem dX1_countClosed_28 : decode cX1_countClosed 28 = .ok (.iload_n 1, 1) := by decide +kernel
theorem dX1_countClosed_29 : decode cX1_countClosed 29 = .ok (.ireturn, 1) := by decide +kernel
theorem dX1_listByPickup_0 : decode cX1_listByPickup 0 = .ok (.iconst 0, 1) := by decide +kernel
theorem dX1_listByPickup_1 : decode cX1_listByPickup 1 = .ok (.istore 4, 2) := by decide +kernel
theorem dX1_listByPickup_3 : decode cX1_listByPickup 3 = .ok (.iconst 0, 1) := by decide +kernel
theorem dX1_listByPickup_4 : decode cX1_listByPickup 4 = .ok (.istore 5, 2) := by decide +kernel
theorem dX1_listByPickup_6 : decode cX1_listByPickup 6 = .ok (.iload 5, 2) := by decide +kernel
theorem dX1_listByPickup_8 : decode cX1_listByPickup 8 = .ok (.aload_n 0, 1) := by decide +kernel
theorem dX1_listByPickup_9 : decode cX1_listByPickup 9 = .ok (.getfield 51, 3) := by decide +kernel
theorem dX1_listByPickup_12 : decode cX1_listByPickup 12 = .ok (.if_icmp .ge 85, 3) := by decide +kernel
theorem dX1_listByPickup_15 : decode cX1_listByPickup 15 = .ok (.iload 4, 2) := by decide +kernel
theorem dX1_listByPickup_17 : decode cX1_listByPickup 17 = .ok (.aload_n 3, 1) := by decide +kernel
theorem dX1_listByPickup_18 : decode cX1_listByPickup 18 = .ok (.arraylength, 1) := by decide +kernel
theorem dX1_listByPickup_19 : decode cX1_listByPickup 19 = .ok (.if_icmp .ge 78, 3) := by decide +kernel
theorem dX1_listByPickup_22 : decode cX1_listByPickup 22 = .ok (.lload_n 1, 1) := by decide +kernel
theorem dX1_listByPickup_23 : decode cX1_listByPickup 23 = .ok (.iload 5, 2) := by decide +kernel
theorem dX1_listByPickup_25 : decode cX1_listByPickup 25 = .ok (.lshr, 1) := by decide +kernel
theorem dX1_listByPickup_26 : decode cX1_listByPickup 26 = .ok (.lconst 1, 1) := by decide +kernel
theorem dX1_listByPickup_27 : decode cX1_listByPickup 27 = .ok (.land, 1) := by decide +kernel
theorem dX1_listByPickup_28 : decode cX1_listByPickup 28 = .ok (.lconst 0, 1) := by decide +kernel
theorem dX1_listByPickup_29 : decode cX1_listByPickup 29 = .ok (.lcmp, 1) := by decide +kernel
theorem dX1_listByPickup_30 : decode cX1_listByPickup 30 = .ok (.ifCond .ne 6, 3) := by decide +kernel
theorem dX1_listByPickup_33 : decode cX1_listByPickup 33 = .ok (.goto 58, 3) := by decide +kernel
theorem dX1_listByPickup_36 : decode cX1_listByPickup 36 = .ok (.iload 4, 2) := by decide +kernel
theorem dX1_listByPickup_38 : decode cX1_listByPickup 38 = .ok (.istore 6, 2) := by decide +kernel
theorem dX1_listByPickup_40 : decode cX1_listByPickup 40 = .ok (.iload 6, 2) := by decide +kernel
theorem dX1_listByPickup_42 : decode cX1_listByPickup 42 = .ok (.ifCond .le 40, 3) := by decide +kernel
theorem dX1_listByPickup_45 : decode cX1_listByPickup 45 = .ok (.aload_n 0, 1) := by decide +kernel
theorem dX1_listByPickup_46 : decode cX1_listByPickup 46 = .ok (.getfield 22, 3) := by decide +kernel
theorem dX1_listByPickup_49 : decode cX1_listByPickup 49 = .ok (.aload_n 3, 1) := by decide +kernel
theorem dX1_listByPickup_50 : decode cX1_listByPickup 50 = .ok (.iload 6, 2) := by decide +kernel
theorem dX1_listByPickup_52 : decode cX1_listByPickup 52 = .ok (.iconst 1, 1) := by decide +kernel
theorem dX1_listByPickup_53 : decode cX1_listByPickup 53 = .ok (.isub, 1) := by decide +kernel
theorem dX1_listByPickup_54 : decode cX1_listByPickup 54 = .ok (.iaload, 1) := by decide +kernel
theorem dX1_listByPickup_55 : decode cX1_listByPickup 55 = .ok (.iaload, 1) := by decide +kernel
theorem dX1_listByPickup_56 : decode cX1_listByPickup 56 = .ok (.aload_n 0, 1) := by decide +kernel
theorem dX1_listByPickup_57 : decode cX1_listByPickup 57 = .ok (.getfield 22, 3) := by decide +kernel
theorem dX1_listByPickup_60 : decode cX1_listByPickup 60 = .ok (.iload 5, 2) := by decide +kernel
theorem dX1_listByPickup_62 : decode cX1_listByPickup 62 = .ok (.iaload, 1) := by decide +kernel
theorem dX1_listByPickup_63 : decode cX1_listByPickup 63 = .ok (.if_icmp .le 19, 3) := by decide +kernel
theorem dX1_listByPickup_66 : decode cX1_listByPickup 66 = .ok (.aload_n 3, 1) := by decide +kernel
theorem dX1_listByPickup_67 : decode cX1_listByPickup 67 = .ok (.iload 6, 2) := by decide +kernel
theorem dX1_listByPickup_69 : decode cX1_listByPickup 69 = .ok (.aload_n 3, 1) := by decide +kernel
theorem dX1_listByPickup_70 : decode cX1_listByPickup 70 = .ok (.iload 6, 2) := by decide +kernel
theorem dX1_listByPickup_72 : decode cX1_listByPickup 72 = .ok (.iconst 1, 1) := by decide +kernel
theorem dX1_listByPickup_73 : decode cX1_listByPickup 73 = .ok (.isub, 1) := by decide +kernel
theorem dX1_listByPickup_74 : decode cX1_listByPickup 74 = .ok (.iaload, 1) := by decide +kernel
theorem dX1_listByPickup_75 : decode cX1_listByPickup 75 = .ok (.iastore, 1) := by decide +kernel
theorem dX1_listByPickup_76 : decode cX1_listByPickup 76 = .ok (.iinc 6 (-1), 3) := by decide +kernel
theorem dX1_listByPickup_79 : decode cX1_listByPickup 79 = .ok (.goto (-39), 3) := by decide +kernel
theorem dX1_listByPickup_82 : decode cX1_listByPickup 82 = .ok (.aload_n 3, 1) := by decide +kernel
theorem dX1_listByPickup_83 : decode cX1_listByPickup 83 = .ok (.iload 6, 2) := by decide +kernel
theorem dX1_listByPickup_85 : decode cX1_listByPickup 85 = .ok (.iload 5, 2) := by decide +kernel
theorem dX1_listByPickup_87 : decode cX1_listByPickup 87 = .ok (.iastore, 1) := by decide +kernel
theorem dX1_listByPickup_88 : decode cX1_listByPickup 88 = .ok (.iinc 4 1, 3) := by decide +kernel
theorem dX1_listByPickup_91 : decode cX1_listByPickup 91 = .ok (.iinc 5 1, 3) := by decide +kernel
theorem dX1_listByPickup_94 : decode cX1_listByPickup 94 = .ok (.goto (-88), 3) := by decide +kernel
theorem dX1_listByPickup_97 : decode cX1_listByPickup 97 = .ok (.iload 4, 2) := by decide +kernel
theorem dX1_listByPickup_99 : decode cX1_listByPickup 99 = .ok (.ireturn, 1) := by decide +kernel
theorem dX1_chooseBay_0 : decode cX1_chooseBay 0 = .ok (.iconst (-1), 1) := by decide +kernel
theorem dX1_chooseBay_1 : decode cX1_chooseBay 1 = .ok (.istore 4, 2) := by decide +kernel
theorem dX1_chooseBay_3 : decode cX1_chooseBay 3 = .ok (.iconst 0, 1) := by decide +kernel
theorem dX1_chooseBay_4 : decode cX1_chooseBay 4 = .ok (.istore 5, 2) := by decide +kernel
theorem dX1_chooseBay_6 : decode cX1_chooseBay 6 = .ok (.iconst 0, 1) := by decide +kernel
theorem dX1_chooseBay_7 : decode cX1_chooseBay 7 = .ok (.istore 6, 2) := by decide +kernel
theorem dX1_chooseBay_9 : decode cX1_chooseBay 9 = .ok (.iload 6, 2) := by decide +kernel
theorem dX1_chooseBay_11 : decode cX1_chooseBay 11 = .ok (.bipush 60, 2) := by decide +kernel
theorem dX1_chooseBay_13 : decode cX1_chooseBay 13 = .ok (.if_icmp .ge 114, 3) := by decide +kernel
theorem dX1_chooseBay_16 : decode cX1_chooseBay 16 = .ok (.aload_n 0, 1) := by decide +kernel
theorem dX1_chooseBay_17 : decode cX1_chooseBay 17 = .ok (.getfield 9, 3) := by decide +kernel
theorem dX1_chooseBay_20 : decode cX1_chooseBay 20 = .ok (.iload 6, 2) := by decide +kernel
theorem dX1_chooseBay_22 : decode cX1_chooseBay 22 = .ok (.baload, 1) := by decide +kernel
theorem dX1_chooseBay_23 : decode cX1_chooseBay 23 = .ok (.ifCond .ne 98, 3) := by decide +kernel
theorem dX1_chooseBay_26 : decode cX1_chooseBay 26 = .ok (.aload_n 0, 1) := by decide +kernel
theorem dX1_chooseBay_27 : decode cX1_chooseBay 27 = .ok (.getfield 15, 3) := by decide +kernel
theorem dX1_chooseBay_30 : decode cX1_chooseBay 30 = .ok (.iload 6, 2) := by decide +kernel
theorem dX1_chooseBay_32 : decode cX1_chooseBay 32 = .ok (.iaload, 1) := by decide +kernel
theorem dX1_chooseBay_33 : decode cX1_chooseBay 33 = .ok (.iconst (-1), 1) := by decide +kernel
theorem dX1_chooseBay_34 : decode cX1_chooseBay 34 = .ok (.if_icmp .ne 87, 3) := by decide +kernel
theorem dX1_chooseBay_37 : decode cX1_chooseBay 37 = .ok (.aload_n 0, 1) := by decide +kernel
theorem dX1_chooseBay_38 : decode cX1_chooseBay 38 = .ok (.iload 6, 2) := by decide +kernel
theorem dX1_chooseBay_40 : decode cX1_chooseBay 40 = .ok (.invokevirtual 76, 3) := by decide +kernel
theorem dX1_chooseBay_43 : decode cX1_chooseBay 43 = .ok (.iconst (-1), 1) := by decide +kernel
theorem dX1_chooseBay_44 : decode cX1_chooseBay 44 = .ok (.if_icmp .ne 77, 3) := by decide +kernel
theorem dX1_chooseBay_47 : decode cX1_chooseBay 47 = .ok (.iload_n 1, 1) := by decide +kernel
theorem dX1_chooseBay_48 : decode cX1_chooseBay 48 = .ok (.iconst 1, 1) := by decide +kernel
theorem dX1_chooseBay_49 : decode cX1_chooseBay 49 = .ok (.if_icmp .ne 14, 3) := by decide +kernel
theorem dX1_chooseBay_52 : decode cX1_chooseBay 52 = .ok (.iload 6, 2) := by decide +kernel
theorem dX1_chooseBay_54 : decode cX1_chooseBay 54 = .ok (.invokestatic 86, 3) := by decide +kernel
theorem dX1_chooseBay_57 : decode cX1_chooseBay 57 = .ok (.ifCond .ne 6, 3) := by decide +kernel
theorem dX1_chooseBay_60 : decode cX1_chooseBay 60 = .ok (.goto 61, 3) := by decide +kernel
theorem dX1_chooseBay_63 : decode cX1_chooseBay 63 = .ok (.iload_n 3, 1) := by decide +kernel
theorem dX1_chooseBay_64 : decode cX1_chooseBay 64 = .ok (.iconst (-1), 1) := by decide +kernel
theorem dX1_chooseBay_65 : decode cX1_chooseBay 65 = .ok (.if_icmp .ne 11, 3) := by decide +kernel
theorem dX1_chooseBay_68 : decode cX1_chooseBay 68 = .ok (.iload 6, 2) := by decide +kernel
theorem dX1_chooseBay_70 : decode cX1_chooseBay 70 = .ok (.invokestatic 89, 3) := by decide +kernel
theorem dX1_chooseBay_73 : decode cX1_chooseBay 73 = .ok (.goto 9, 3) := by decide +kernel
theorem dX1_chooseBay_76 : decode cX1_chooseBay 76 = .ok (.iload_n 3, 1) := by decide +kernel
theorem dX1_chooseBay_77 : decode cX1_chooseBay 77 = .ok (.iload 6, 2) := by decide +kernel
theorem dX1_chooseBay_79 : decode cX1_chooseBay 79 = .ok (.invokestatic 92, 3) := by decide +kernel
theorem dX1_chooseBay_82 : decode cX1_chooseBay 82 = .ok (.istore 7, 2) := by decide +kernel
theorem dX1_chooseBay_84 : decode cX1_chooseBay 84 = .ok (.aload_n 0, 1) := by decide +kernel
theorem dX1_chooseBay_85 : decode cX1_chooseBay 85 = .ok (.iload 6, 2) := by decide +kernel
theorem dX1_chooseBay_87 : decode cX1_chooseBay 87 = .ok (.iload_n 2, 1) := by decide +kernel
theorem dX1_chooseBay_88 : decode cX1_chooseBay 88 = .ok (.invokevirtual 96, 3) := by decide +kernel
theorem dX1_chooseBay_91 : decode cX1_chooseBay 91 = .ok (.ifCond .eq 9, 3) := by decide +kernel
theorem dX1_chooseBay_94 : decode cX1_chooseBay 94 = .ok (.iinc 7 1000, 6) := by decide +kernel
theorem dX1_chooseBay_100 : decode cX1_chooseBay 100 = .ok (.iload 4, 2) := by decide +kernel
theorem dX1_chooseBay_102 : decode cX1_chooseBay 102 = .ok (.iconst (-1), 1) := by decide +kernel
theorem dX1_chooseBay_103 : decode cX1_chooseBay 103 = .ok (.if_icmp .eq 10, 3) := by decide +kernel
theorem dX1_chooseBay_106 : decode cX1_chooseBay 106 = .ok (.iload 7, 2) := by decide +kernel
theorem dX1_chooseBay_108 : decode cX1_chooseBay 108 = .ok (.iload 5, 2) := by decide +kernel
theorem dX1_chooseBay_110 : decode cX1_chooseBay 110 = .ok (.if_icmp .ge 11, 3) := by decide +kernel
theorem dX1_chooseBay_113 : decode cX1_chooseBay 113 = .ok (.iload 6, 2) := by decide +kernel
theorem dX1_chooseBay_115 : decode cX1_chooseBay 115 = .ok (.istore 4, 2) := by decide +kernel
theorem dX1_chooseBay_117 : decode cX1_chooseBay 117 = .ok (.iload 7, 2) := by decide +kernel
theorem dX1_chooseBay_119 : decode cX1_chooseBay 119 = .ok (.istore 5, 2) := by decide +kernel
theorem dX1_chooseBay_121 : decode cX1_chooseBay 121 = .ok (.iinc 6 1, 3) := by decide +kernel
theorem dX1_chooseBay_124 : decode cX1_chooseBay 124 = .ok (.goto (-115), 3) := by decide +kernel
theorem dX1_chooseBay_127 : decode cX1_chooseBay 127 = .ok (.iload 4, 2) := by decide +kernel
theorem dX1_chooseBay_129 : decode cX1_chooseBay 129 = .ok (.ireturn, 1) := by decide +kernel
theorem dX1_isBad_0 : decode cX1_isBad 0 = .ok (.iload_n 1, 1) := by decide +kernel
theorem dX1_isBad_1 : decode cX1_isBad 1 = .ok (.invokestatic 80, 3) := by decide +kernel
theorem dX1_isBad_4 : decode cX1_isBad 4 = .ok (.iconst 1, 1) := by decide +kernel
theorem dX1_isBad_5 : decode cX1_isBad 5 = .ok (.if_icmp .eq 15, 3) := by decide +kernel
theorem dX1_isBad_8 : decode cX1_isBad 8 = .ok (.aload_n 0, 1) := by decide +kernel
theorem dX1_isBad_9 : decode cX1_isBad 9 = .ok (.getfield 15, 3) := by decide +kernel
theorem dX1_isBad_12 : decode cX1_isBad 12 = .ok (.iload_n 1, 1) := by decide +kernel
theorem dX1_isBad_13 : decode cX1_isBad 13 = .ok (.iconst 1, 1) := by decide +kernel
theorem dX1_isBad_14 : decode cX1_isBad 14 = .ok (.iadd, 1) := by decide +kernel
theorem dX1_isBad_15 : decode cX1_isBad 15 = .ok (.iaload, 1) := by decide +kernel
theorem dX1_isBad_16 : decode cX1_isBad 16 = .ok (.iconst (-1), 1) := by decide +kernel
theorem dX1_isBad_17 : decode cX1_isBad 17 = .ok (.if_icmp .ne 5, 3) := by decide +kernel
theorem dX1_isBad_20 : decode cX1_isBad 20 = .ok (.iconst 0, 1) := by decide +kernel
theorem dX1_isBad_21 : decode cX1_isBad 21 = .ok (.ireturn, 1) := by decide +kernel
theorem dX1_isBad_22 : decode cX1_isBad 22 = .ok (.aload_n 0, 1) := by decide +kernel
theorem dX1_isBad_23 : decode cX1_isBad 23 = .ok (.getfield 22, 3) := by decide +kernel
theorem dX1_isBad_26 : decode cX1_isBad 26 = .ok (.aload_n 0, 1) := by decide +kernel
theorem dX1_isBad_27 : decode cX1_isBad 27 = .ok (.getfield 15, 3) := by decide +kernel
theorem dX1_isBad_30 : decode cX1_isBad 30 = .ok (.iload_n 1, 1) := by decide +kernel
theorem dX1_isBad_31 : decode cX1_isBad 31 = .ok (.iconst 1, 1) := by decide +kernel
theorem dX1_isBad_32 : decode cX1_isBad 32 = .ok (.iadd, 1) := by decide +kernel
theorem dX1_isBad_33 : decode cX1_isBad 33 = .ok (.iaload, 1) := by decide +kernel
theorem dX1_isBad_34 : decode cX1_isBad 34 = .ok (.iaload, 1) := by decide +kernel
theorem dX1_isBad_35 : decode cX1_isBad 35 = .ok (.iload_n 2, 1) := by decide +kernel
theorem dX1_isBad_36 : decode cX1_isBad 36 = .ok (.if_icmp .ge 7, 3) := by decide +kernel
theorem dX1_isBad_39 : decode cX1_isBad 39 = .ok (.iconst 1, 1) := by decide +kernel
theorem dX1_isBad_40 : decode cX1_isBad 40 = .ok (.goto 4, 3) := by decide +kernel
theorem dX1_isBad_43 : decode cX1_isBad 43 = .ok (.iconst 0, 1) := by decide +kernel
theorem dX1_isBad_44 : decode cX1_isBad 44 = .ok (.ireturn, 1) := by decide +kernel
theorem dX1_bayToFlee_0 : decode cX1_bayToFlee 0 = .ok (.aload_n 0, 1) := by decide +kernel
theorem dX1_bayToFlee_1 : decode cX1_bayToFlee 1 = .ok (.aload_n 0, 1) := by decide +kernel
theorem dX1_bayToFlee_2 : decode cX1_bayToFlee 2 = .ok (.getfield 19, 3) := by decide +kernel
theorem dX1_bayToFlee_5 : decode cX1_bayToFlee 5 = .ok (.iload_n 1, 1) := by decide +kernel
theorem dX1_bayToFlee_6 : decode cX1_bayToFlee 6 = .ok (.iaload, 1) := by decide +kernel
theorem dX1_bayToFlee_7 : decode cX1_bayToFlee 7 = .ok (.aload_n 0, 1) := by decide +kernel
theorem dX1_bayToFlee_8 : decode cX1_bayToFlee 8 = .ok (.getfield 22, 3) := by decide +kernel
theorem dX1_bayToFlee_11 : decode cX1_bayToFlee 11 = .ok (.iload_n 1, 1) := by decide +kernel
theorem dX1_bayToFlee_12 : decode cX1_bayToFlee 12 = .ok (.iaload, 1) := by decide +kernel
theorem dX1_bayToFlee_13 : decode cX1_bayToFlee 13 = .ok (.aload_n 0, 1) := by decide +kernel
theorem dX1_bayToFlee_14 : decode cX1_bayToFlee 14 = .ok (.getfield 25, 3) := by decide +kernel
theorem dX1_bayToFlee_17 : decode cX1_bayToFlee 17 = .ok (.iload_n 1, 1) := by decide +kernel
theorem dX1_bayToFlee_18 : decode cX1_bayToFlee 18 = .ok (.iaload, 1) := by decide +kernel
theorem dX1_bayToFlee_19 : decode cX1_bayToFlee 19 = .ok (.invokevirtual 100, 3) := by decide +kernel
theorem dX1_bayToFlee_22 : decode cX1_bayToFlee 22 = .ok (.ireturn, 1) := by decide +kernel
theorem dX1_letPass_0 : decode cX1_letPass 0 = .ok (.aload_n 0, 1) := by decide +kernel
theorem dX1_letPass_1 : decode cX1_letPass 1 = .ok (.getfield 37, 3) := by decide +kernel
theorem dX1_letPass_4 : decode cX1_letPass 4 = .ok (.getfield 61, 3) := by decide +kernel
theorem dX1_letPass_7 : decode cX1_letPass 7 = .ok (.iload_n 1, 1) := by decide +kernel
theorem dX1_letPass_8 : decode cX1_letPass 8 = .ok (.iadd, 1) := by decide +kernel
theorem dX1_letPass_9 : decode cX1_letPass 9 = .ok (.sipush 9999, 3) := by decide +kernel
theorem dX1_letPass_12 : decode cX1_letPass 12 = .ok (.if_icmp .le 5, 3) := by decide +kernel
theorem dX1_letPass_15 : decode cX1_letPass 15 = .ok (.iconst 0, 1) := by decide +kernel
theorem dX1_letPass_16 : decode cX1_letPass 16 = .ok (.ireturn, 1) := by decide +kernel
theorem dX1_letPass_17 : decode cX1_letPass 17 = .ok (.aload_n 0, 1) := by decide +kernel
theorem dX1_letPass_18 : decode cX1_letPass 18 = .ok (.getfield 37, 3) := by decide +kernel
theorem dX1_letPass_21 : decode cX1_letPass 21 = .ok (.dup, 1) := by decide +kernel
theorem dX1_letPass_22 : decode cX1_letPass 22 = .ok (.getfield 61, 3) := by decide +kernel
theorem dX1_letPass_25 : decode cX1_letPass 25 = .ok (.iload_n 1, 1) := by decide +kernel
theorem dX1_letPass_26 : decode cX1_letPass 26 = .ok (.iadd, 1) := by decide +kernel
theorem dX1_letPass_27 : decode cX1_letPass 27 = .ok (.putfield 61, 3) := by decide +kernel
theorem dX1_letPass_30 : decode cX1_letPass 30 = .ok (.iconst 1, 1) := by decide +kernel
theorem dX1_letPass_31 : decode cX1_letPass 31 = .ok (.ireturn, 1) := by decide +kernel
theorem dX1_changeClosed_0 : decode cX1_changeClosed 0 = .ok (.aload_n 0, 1) := by decide +kernel
theorem dX1_changeClosed_1 : decode cX1_changeClosed 1 = .ok (.getfield 9, 3) := by decide +kernel
theorem dX1_changeClosed_4 : decode cX1_changeClosed 4 = .ok (.iload_n 1, 1) := by decide +kernel
theorem dX1_changeClosed_5 : decode cX1_changeClosed 5 = .ok (.baload, 1) := by decide +kernel
theorem dX1_changeClosed_6 : decode cX1_changeClosed 6 = .ok (.istore_n 3, 1) := by decide +kernel
theorem dX1_changeClosed_7 : decode cX1_changeClosed 7 = .ok (.aload_n 0, 1) := by decide +kernel
theorem dX1_changeClosed_8 : decode cX1_changeClosed 8 = .ok (.getfield 9, 3) := by decide +kernel
theorem dX1_changeClosed_11 : decode cX1_changeClosed 11 = .ok (.iload_n 1, 1) := by decide +kernel
theorem dX1_changeClosed_12 : decode cX1_changeClosed 12 = .ok (.iload_n 2, 1) := by decide +kernel
theorem dX1_changeClosed_13 : decode cX1_changeClosed 13 = .ok (.bastore, 1) := by decide +kernel
theorem dX1_changeClosed_14 : decode cX1_changeClosed 14 = .ok (.iload_n 3, 1) := by decide +kernel
theorem dX1_changeClosed_15 : decode cX1_changeClosed 15 = .ok (.ireturn, 1) := by decide +kernel
theorem dX1_changePickup_0 : decode cX1_changePickup 0 = .ok (.aload_n 0, 1) := by decide +kernel
theorem dX1_changePickup_1 : decode cX1_changePickup 1 = .ok (.getfield 22, 3) := by decide +kernel
theorem dX1_changePickup_4 : decode cX1_changePickup 4 = .ok (.iload_n 1, 1) := by decide +kernel
theorem dX1_changePickup_5 : decode cX1_changePickup 5 = .ok (.iaload, 1) := by decide +kernel
theorem dX1_changePickup_6 : decode cX1_changePickup 6 = .ok (.istore_n 3, 1) := by decide +kernel
theorem dX1_changePickup_7 : decode cX1_changePickup 7 = .ok (.aload_n 0, 1) := by decide +kernel
theorem dX1_changePickup_8 : decode cX1_changePickup 8 = .ok (.getfield 22, 3) := by decide +kernel
theorem dX1_changePickup_11 : decode cX1_changePickup 11 = .ok (.iload_n 1, 1) := by decide +kernel
theorem dX1_changePickup_12 : decode cX1_changePickup 12 = .ok (.iload_n 2, 1) := by decide +kernel
theorem dX1_changePickup_13 : decode cX1_changePickup 13 = .ok (.iastore, 1) := by decide +kernel
theorem dX1_changePickup_14 : decode cX1_changePickup 14 = .ok (.iload_n 3, 1) := by decide +kernel
theorem dX1_changePickup_15 : decode cX1_changePickup 15 = .ok (.ireturn, 1) := by decide +kernel
theorem dX1_takeIn_0 : decode cX1_takeIn 0 = .ok (.aload_n 0, 1) := by decide +kernel
theorem dX1_takeIn_1 : decode cX1_takeIn 1 = .ok (.iload_n 1, 1) := by decide +kernel
theorem dX1_takeIn_2 : decode cX1_takeIn 2 = .ok (.iload_n 2, 1) := by decide +kernel
theorem dX1_takeIn_3 : decode cX1_takeIn 3 = .ok (.iconst (-1), 1) := by decide +kernel
theorem dX1_takeIn_4 : decode cX1_takeIn 4 = .ok (.invokevirtual 100, 3) := by decide +kernel
theorem dX1_takeIn_7 : decode cX1_takeIn 7 = .ok (.istore_n 3, 1) := by decide +kernel
theorem dX1_takeIn_8 : decode cX1_takeIn 8 = .ok (.iload_n 3, 1) := by decide +kernel
theorem dX1_takeIn_9 : decode cX1_takeIn 9 = .ok (.iconst (-1), 1) := by decide +kernel
theorem dX1_takeIn_10 : decode cX1_takeIn 10 = .ok (.if_icmp .eq 10, 3) := by decide +kernel
theorem dX1_takeIn_13 : decode cX1_takeIn 13 = .ok (.aload_n 0, 1) := by decide +kernel
theorem dX1_takeIn_14 : decode cX1_takeIn 14 = .ok (.invokevirtual 104, 3) := by decide +kernel
theorem dX1_takeIn_17 : decode cX1_takeIn 17 = .ok (.ifCond .eq 5, 3) := by decide +kernel
theorem dX1_takeIn_20 : decode cX1_takeIn 20 = .ok (.iconst (-1), 1) := by decide +kernel
theorem dX1_takeIn_21 : decode cX1_takeIn 21 = .ok (.ireturn, 1) := by decide +kernel
theorem dX1_takeIn_22 : decode cX1_takeIn 22 = .ok (.aload_n 0, 1) := by decide +kernel
theorem dX1_takeIn_23 : decode cX1_takeIn 23 = .ok (.getfield 51, 3) := by decide +kernel
theorem dX1_takeIn_26 : decode cX1_takeIn 26 = .ok (.istore 4, 2) := by decide +kernel
theorem dX1_takeIn_28 : decode cX1_takeIn 28 = .ok (.aload_n 0, 1) := by decide +kernel
theorem dX1_takeIn_29 : decode cX1_takeIn 29 = .ok (.getfield 19, 3) := by decide +kernel
theorem dX1_takeIn_32 : decode cX1_takeIn 32 = .ok (.iload 4, 2) := by decide +kernel
theorem dX1_takeIn_34 : decode cX1_takeIn 34 = .ok (.iload_n 1, 1) := by decide +kernel
theorem dX1_takeIn_35 : decode cX1_takeIn 35 = .ok (.iastore, 1) := by decide +kernel
theorem dX1_takeIn_36 : decode cX1_takeIn 36 = .ok (.aload_n 0, 1) := by decide +kernel
theorem dX1_takeIn_37 : decode cX1_takeIn 37 = .ok (.getfield 22, 3) := by decide +kernel
theorem dX1_takeIn_40 : decode cX1_takeIn 40 = .ok (.iload 4, 2) := by decide +kernel
theorem dX1_takeIn_42 : decode cX1_takeIn 42 = .ok (.iload_n 2, 1) := by decide +kernel
theorem dX1_takeIn_43 : decode cX1_takeIn 43 = .ok (.iastore, 1) := by decide +kernel
theorem dX1_takeIn_44 : decode cX1_takeIn 44 = .ok (.aload_n 0, 1) := by decide +kernel
theorem dX1_takeIn_45 : decode cX1_takeIn 45 = .ok (.getfield 25, 3) := by decide +kernel
theorem dX1_takeIn_48 : decode cX1_takeIn 48 = .ok (.iload 4, 2) := by decide +kernel
theorem dX1_takeIn_50 : decode cX1_takeIn 50 = .ok (.iload_n 3, 1) := by decide +kernel
theorem dX1_takeIn_51 : decode cX1_takeIn 51 = .ok (.iastore, 1) := by decide +kernel
theorem dX1_takeIn_52 : decode cX1_takeIn 52 = .ok (.aload_n 0, 1) := by decide +kernel
theorem dX1_takeIn_53 : decode cX1_takeIn 53 = .ok (.getfield 28, 3) := by decide +kernel
theorem dX1_takeIn_56 : decode cX1_takeIn 56 = .ok (.iload 4, 2) := by decide +kernel
theorem dX1_takeIn_58 : decode cX1_takeIn 58 = .ok (.iconst 1, 1) := by decide +kernel
theorem dX1_takeIn_59 : decode cX1_takeIn 59 = .ok (.iastore, 1) := by decide +kernel
theorem dX1_takeIn_60 : decode cX1_takeIn 60 = .ok (.aload_n 0, 1) := by decide +kernel
theorem dX1_takeIn_61 : decode cX1_takeIn 61 = .ok (.getfield 15, 3) := by decide +kernel
theorem dX1_takeIn_64 : decode cX1_takeIn 64 = .ok (.iload_n 3, 1) := by decide +kernel
theorem dX1_takeIn_65 : decode cX1_takeIn 65 = .ok (.iload 4, 2) := by decide +kernel
theorem dX1_takeIn_67 : decode cX1_takeIn 67 = .ok (.iastore, 1) := by decide +kernel
theorem dX1_takeIn_68 : decode cX1_takeIn 68 = .ok (.aload_n 0, 1) := by decide +kernel
theorem dX1_takeIn_69 : decode cX1_takeIn 69 = .ok (.dup, 1) := by decide +kernel
theorem dX1_takeIn_70 : decode cX1_takeIn 70 = .ok (.getfield 51, 3) := by decide +kernel
theorem dX1_takeIn_73 : decode cX1_takeIn 73 = .ok (.iconst 1, 1) := by decide +kernel
theorem dX1_takeIn_74 : decode cX1_takeIn 74 = .ok (.iadd, 1) := by decide +kernel
theorem dX1_takeIn_75 : decode cX1_takeIn 75 = .ok (.putfield 51, 3) := by decide +kernel
theorem dX1_takeIn_78 : decode cX1_takeIn 78 = .ok (.aload_n 0, 1) := by decide +kernel
theorem dX1_takeIn_79 : decode cX1_takeIn 79 = .ok (.dup, 1) := by decide +kernel
theorem dX1_takeIn_80 : decode cX1_takeIn 80 = .ok (.getfield 55, 3) := by decide +kernel
theorem dX1_takeIn_83 : decode cX1_takeIn 83 = .ok (.iconst 1, 1) := by decide +kernel
theorem dX1_takeIn_84 : decode cX1_takeIn 84 = .ok (.iadd, 1) := by decide +kernel
theorem dX1_takeIn_85 : decode cX1_takeIn 85 = .ok (.putfield 55, 3) := by decide +kernel
theorem dX1_takeIn_88 : decode cX1_takeIn 88 = .ok (.aload_n 0, 1) := by decide +kernel
theorem dX1_takeIn_89 : decode cX1_takeIn 89 = .ok (.getfield 37, 3) := by decide +kernel
theorem dX1_takeIn_92 : decode cX1_takeIn 92 = .ok (.iload 4, 2) := by decide +kernel
theorem dX1_takeIn_94 : decode cX1_takeIn 94 = .ok (.iload_n 3, 1) := by decide +kernel
theorem dX1_takeIn_95 : decode cX1_takeIn 95 = .ok (.invokevirtual 108, 3) := by decide +kernel
theorem dX1_takeIn_98 : decode cX1_takeIn 98 = .ok (.iload_n 3, 1) := by decide +kernel
theorem dX1_takeIn_99 : decode cX1_takeIn 99 = .ok (.ireturn, 1) := by decide +kernel
theorem dX1_fetch_0 : decode cX1_fetch 0 = .ok (.aload_n 0, 1) := by decide +kernel
theorem dX1_fetch_1 : decode cX1_fetch 1 = .ok (.iload_n 1, 1) := by decide +kernel
theorem dX1_fetch_2 : decode cX1_fetch 2 = .ok (.invokevirtual 72, 3) := by decide +kernel
theorem dX1_fetch_5 : decode cX1_fetch 5 = .ok (.ifCond .ne 5, 3) := by decide +kernel
theorem dX1_fetch_8 : decode cX1_fetch 8 = .ok (.iconst 0, 1) := by decide +kernel
theorem dX1_fetch_9 : decode cX1_fetch 9 = .ok (.ireturn, 1) := by decide +kernel
theorem dX1_fetch_10 : decode cX1_fetch 10 = .ok (.aload_n 0, 1) := by decide +kernel
theorem dX1_fetch_11 : decode cX1_fetch 11 = .ok (.iload_n 1, 1) := by decide +kernel
theorem dX1_fetch_12 : decode cX1_fetch 12 = .ok (.invokevirtual 83, 3) := by decide +kernel
theorem dX1_fetch_15 : decode cX1_fetch 15 = .ok (.istore_n 2, 1) := by decide +kernel
theorem dX1_fetch_16 : decode cX1_fetch 16 = .ok (.iload_n 2, 1) := by decide +kernel
theorem dX1_fetch_17 : decode cX1_fetch 17 = .ok (.iconst (-1), 1) := by decide +kernel
theorem dX1_fetch_18 : decode cX1_fetch 18 = .ok (.if_icmp .eq 22, 3) := by decide +kernel
theorem dX1_fetch_21 : decode cX1_fetch 21 = .ok (.aload_n 0, 1) := by decide +kernel
theorem dX1_fetch_22 : decode cX1_fetch 22 = .ok (.iload_n 2, 1) := by decide +kernel
theorem dX1_fetch_23 : decode cX1_fetch 23 = .ok (.invokevirtual 112, 3) := by decide +kernel
theorem dX1_fetch_26 : decode cX1_fetch 26 = .ok (.istore_n 3, 1) := by decide +kernel
theorem dX1_fetch_27 : decode cX1_fetch 27 = .ok (.iload_n 3, 1) := by decide +kernel
theorem dX1_fetch_28 : decode cX1_fetch 28 = .ok (.iconst (-1), 1) := by decide +kernel
theorem dX1_fetch_29 : decode cX1_fetch 29 = .ok (.if_icmp .ne 5, 3) := by decide +kernel
theorem dX1_fetch_32 : decode cX1_fetch 32 = .ok (.iconst 0, 1) := by decide +kernel
theorem dX1_fetch_33 : decode cX1_fetch 33 = .ok (.ireturn, 1) := by decide +kernel
theorem dX1_fetch_34 : decode cX1_fetch 34 = .ok (.aload_n 0, 1) := by decide +kernel
theorem dX1_fetch_35 : decode cX1_fetch 35 = .ok (.iload_n 2, 1) := by decide +kernel
theorem dX1_fetch_36 : decode cX1_fetch 36 = .ok (.iload_n 3, 1) := by decide +kernel
theorem dX1_fetch_37 : decode cX1_fetch 37 = .ok (.invokevirtual 115, 3) := by decide +kernel
theorem dX1_fetch_40 : decode cX1_fetch 40 = .ok (.aload_n 0, 1) := by decide +kernel
theorem dX1_fetch_41 : decode cX1_fetch 41 = .ok (.iload_n 1, 1) := by decide +kernel
theorem dX1_fetch_42 : decode cX1_fetch 42 = .ok (.invokevirtual 118, 3) := by decide +kernel
theorem dX1_fetch_45 : decode cX1_fetch 45 = .ok (.iload_n 2, 1) := by decide +kernel
theorem dX1_fetch_46 : decode cX1_fetch 46 = .ok (.iconst (-1), 1) := by decide +kernel
theorem dX1_fetch_47 : decode cX1_fetch 47 = .ok (.if_icmp .ne 7, 3) := by decide +kernel
theorem dX1_fetch_50 : decode cX1_fetch 50 = .ok (.iconst 1, 1) := by decide +kernel
theorem dX1_fetch_51 : decode cX1_fetch 51 = .ok (.goto 4, 3) := by decide +kernel
theorem dX1_fetch_54 : decode cX1_fetch 54 = .ok (.iconst 2, 1) := by decide +kernel
theorem dX1_fetch_55 : decode cX1_fetch 55 = .ok (.ireturn, 1) := by decide +kernel
theorem dX1_takeOut_0 : decode cX1_takeOut 0 = .ok (.aload_n 0, 1) := by decide +kernel
theorem dX1_takeOut_1 : decode cX1_takeOut 1 = .ok (.getfield 25, 3) := by decide +kernel
theorem dX1_takeOut_4 : decode cX1_takeOut 4 = .ok (.iload_n 1, 1) := by decide +kernel
theorem dX1_takeOut_5 : decode cX1_takeOut 5 = .ok (.iaload, 1) := by decide +kernel
theorem dX1_takeOut_6 : decode cX1_takeOut 6 = .ok (.istore_n 2, 1) := by decide +kernel
theorem dX1_takeOut_7 : decode cX1_takeOut 7 = .ok (.aload_n 0, 1) := by decide +kernel
theorem dX1_takeOut_8 : decode cX1_takeOut 8 = .ok (.getfield 37, 3) := by decide +kernel
theorem dX1_takeOut_11 : decode cX1_takeOut 11 = .ok (.iload_n 1, 1) := by decide +kernel
theorem dX1_takeOut_12 : decode cX1_takeOut 12 = .ok (.iload_n 2, 1) := by decide +kernel
theorem dX1_takeOut_13 : decode cX1_takeOut 13 = .ok (.invokevirtual 122, 3) := by decide +kernel
theorem dX1_takeOut_16 : decode cX1_takeOut 16 = .ok (.aload_n 0, 1) := by decide +kernel
theorem dX1_takeOut_17 : decode cX1_takeOut 17 = .ok (.getfield 15, 3) := by decide +kernel
theorem dX1_takeOut_20 : decode cX1_takeOut 20 = .ok (.iload_n 2, 1) := by decide +kernel
theorem dX1_takeOut_21 : decode cX1_takeOut 21 = .ok (.iconst (-1), 1) := by decide +kernel
theorem dX1_takeOut_22 : decode cX1_takeOut 22 = .ok (.iastore, 1) := by decide +kernel
theorem dX1_takeOut_23 : decode cX1_takeOut 23 = .ok (.aload_n 0, 1) := by decide +kernel
theorem dX1_takeOut_24 : decode cX1_takeOut 24 = .ok (.getfield 25, 3) := by decide +kernel
theorem dX1_takeOut_27 : decode cX1_takeOut 27 = .ok (.iload_n 1, 1) := by decide +kernel
theorem dX1_takeOut_28 : decode cX1_takeOut 28 = .ok (.iconst (-1), 1) := by decide +kernel
theorem dX1_takeOut_29 : decode cX1_takeOut 29 = .ok (.iastore, 1) := by decide +kernel
theorem dX1_takeOut_30 : decode cX1_takeOut 30 = .ok (.aload_n 0, 1) := by decide +kernel
theorem dX1_takeOut_31 : decode cX1_takeOut 31 = .ok (.getfield 28, 3) := by decide +kernel
theorem dX1_takeOut_34 : decode cX1_takeOut 34 = .ok (.iload_n 1, 1) := by decide +kernel
theorem dX1_takeOut_35 : decode cX1_takeOut 35 = .ok (.dup2, 1) := by decide +kernel
theorem dX1_takeOut_36 : decode cX1_takeOut 36 = .ok (.iaload, 1) := by decide +kernel
theorem dX1_takeOut_37 : decode cX1_takeOut 37 = .ok (.iconst 1, 1) := by decide +kernel
theorem dX1_takeOut_38 : decode cX1_takeOut 38 = .ok (.iadd, 1) := by decide +kernel
theorem dX1_takeOut_39 : decode cX1_takeOut 39 = .ok (.iastore, 1) := by decide +kernel
theorem dX1_takeOut_40 : decode cX1_takeOut 40 = .ok (.aload_n 0, 1) := by decide +kernel
theorem dX1_takeOut_41 : decode cX1_takeOut 41 = .ok (.dup, 1) := by decide +kernel
theorem dX1_takeOut_42 : decode cX1_takeOut 42 = .ok (.getfield 55, 3) := by decide +kernel
theorem dX1_takeOut_45 : decode cX1_takeOut 45 = .ok (.iconst 1, 1) := by decide +kernel
theorem dX1_takeOut_46 : decode cX1_takeOut 46 = .ok (.isub, 1) := by decide +kernel
theorem dX1_takeOut_47 : decode cX1_takeOut 47 = .ok (.putfield 55, 3) := by decide +kernel
theorem dX1_takeOut_50 : decode cX1_takeOut 50 = .ok (.return_, 1) := by decide +kernel
theorem dX1_moveCar_0 : decode cX1_moveCar 0 = .ok (.aload_n 0, 1) := by decide +kernel
theorem dX1_moveCar_1 : decode cX1_moveCar 1 = .ok (.getfield 25, 3) := by decide +kernel
theorem dX1_moveCar_4 : decode cX1_moveCar 4 = .ok (.iload_n 1, 1) := by decide +kernel
theorem dX1_moveCar_5 : decode cX1_moveCar 5 = .ok (.iaload, 1) := by decide +kernel
theorem dX1_moveCar_6 : decode cX1_moveCar 6 = .ok (.istore_n 3, 1) := by decide +kernel
theorem dX1_moveCar_7 : decode cX1_moveCar 7 = .ok (.iload_n 3, 1) := by decide +kernel
theorem dX1_moveCar_8 : decode cX1_moveCar 8 = .ok (.invokestatic 125, 3) := by decide +kernel
theorem dX1_moveCar_11 : decode cX1_moveCar 11 = .ok (.iload_n 2, 1) := by decide +kernel
theorem dX1_moveCar_12 : decode cX1_moveCar 12 = .ok (.invokestatic 125, 3) := by decide +kernel
theorem dX1_moveCar_15 : decode cX1_moveCar 15 = .ok (.if_icmp .ne 16, 3) := by decide +kernel
theorem dX1_moveCar_18 : decode cX1_moveCar 18 = .ok (.aload_n 0, 1) := by decide +kernel
theorem dX1_moveCar_19 : decode cX1_moveCar 19 = .ok (.getfield 37, 3) := by decide +kernel
theorem dX1_moveCar_22 : decode cX1_moveCar 22 = .ok (.iload_n 1, 1) := by decide +kernel
theorem dX1_moveCar_23 : decode cX1_moveCar 23 = .ok (.iload_n 3, 1) := by decide +kernel
theorem dX1_moveCar_24 : decode cX1_moveCar 24 = .ok (.iload_n 2, 1) := by decide +kernel
theorem dX1_moveCar_25 : decode cX1_moveCar 25 = .ok (.invokevirtual 128, 3) := by decide +kernel
theorem dX1_moveCar_28 : decode cX1_moveCar 28 = .ok (.goto 13, 3) := by decide +kernel
theorem dX1_moveCar_31 : decode cX1_moveCar 31 = .ok (.aload_n 0, 1) := by decide +kernel
theorem dX1_moveCar_32 : decode cX1_moveCar 32 = .ok (.getfield 37, 3) := by decide +kernel
theorem dX1_moveCar_35 : decode cX1_moveCar 35 = .ok (.iload_n 1, 1) := by decide +kernel
theorem dX1_moveCar_36 : decode cX1_moveCar 36 = .ok (.iload_n 3, 1) := by decide +kernel
theorem dX1_moveCar_37 : decode cX1_moveCar 37 = .ok (.iload_n 2, 1) := by decide +kernel
theorem dX1_moveCar_38 : decode cX1_moveCar 38 = .ok (.invokevirtual 132, 3) := by decide +kernel
theorem dX1_moveCar_41 : decode cX1_moveCar 41 = .ok (.aload_n 0, 1) := by decide +kernel
theorem dX1_moveCar_42 : decode cX1_moveCar 42 = .ok (.getfield 15, 3) := by decide +kernel
theorem dX1_moveCar_45 : decode cX1_moveCar 45 = .ok (.iload_n 3, 1) := by decide +kernel
theorem dX1_moveCar_46 : decode cX1_moveCar 46 = .ok (.iconst (-1), 1) := by decide +kernel
theorem dX1_moveCar_47 : decode cX1_moveCar 47 = .ok (.iastore, 1) := by decide +kernel
theorem dX1_moveCar_48 : decode cX1_moveCar 48 = .ok (.aload_n 0, 1) := by decide +kernel
theorem dX1_moveCar_49 : decode cX1_moveCar 49 = .ok (.getfield 15, 3) := by decide +kernel
theorem dX1_moveCar_52 : decode cX1_moveCar 52 = .ok (.iload_n 2, 1) := by decide +kernel
theorem dX1_moveCar_53 : decode cX1_moveCar 53 = .ok (.iload_n 1, 1) := by decide +kernel
theorem dX1_moveCar_54 : decode cX1_moveCar 54 = .ok (.iastore, 1) := by decide +kernel
theorem dX1_moveCar_55 : decode cX1_moveCar 55 = .ok (.aload_n 0, 1) := by decide +kernel
theorem dX1_moveCar_56 : decode cX1_moveCar 56 = .ok (.getfield 25, 3) := by decide +kernel
theorem dX1_moveCar_59 : decode cX1_moveCar 59 = .ok (.iload_n 1, 1) := by decide +kernel
theorem dX1_moveCar_60 : decode cX1_moveCar 60 = .ok (.iload_n 2, 1) := by decide +kernel
theorem dX1_moveCar_61 : decode cX1_moveCar 61 = .ok (.iastore, 1) := by decide +kernel
theorem dX1_moveCar_62 : decode cX1_moveCar 62 = .ok (.aload_n 0, 1) := by decide +kernel
theorem dX1_moveCar_63 : decode cX1_moveCar 63 = .ok (.getfield 28, 3) := by decide +kernel
theorem dX1_moveCar_66 : decode cX1_moveCar 66 = .ok (.iload_n 1, 1) := by decide +kernel
theorem dX1_moveCar_67 : decode cX1_moveCar 67 = .ok (.dup2, 1) := by decide +kernel
theorem dX1_moveCar_68 : decode cX1_moveCar 68 = .ok (.iaload, 1) := by decide +kernel
theorem dX1_moveCar_69 : decode cX1_moveCar 69 = .ok (.iconst 1, 1) := by decide +kernel
theorem dX1_moveCar_70 : decode cX1_moveCar 70 = .ok (.iadd, 1) := by decide +kernel
theorem dX1_moveCar_71 : decode cX1_moveCar 71 = .ok (.iastore, 1) := by decide +kernel
theorem dX1_moveCar_72 : decode cX1_moveCar 72 = .ok (.aload_n 0, 1) := by decide +kernel
theorem dX1_moveCar_73 : decode cX1_moveCar 73 = .ok (.dup, 1) := by decide +kernel
theorem dX1_moveCar_74 : decode cX1_moveCar 74 = .ok (.getfield 58, 3) := by decide +kernel
theorem dX1_moveCar_77 : decode cX1_moveCar 77 = .ok (.iconst 1, 1) := by decide +kernel
theorem dX1_moveCar_78 : decode cX1_moveCar 78 = .ok (.iadd, 1) := by decide +kernel
theorem dX1_moveCar_79 : decode cX1_moveCar 79 = .ok (.putfield 58, 3) := by decide +kernel
theorem dX1_moveCar_82 : decode cX1_moveCar 82 = .ok (.return_, 1) := by decide +kernel
theorem dX1_tidyUp_0 : decode cX1_tidyUp 0 = .ok (.aload_n 0, 1) := by decide +kernel
theorem dX1_tidyUp_1 : decode cX1_tidyUp 1 = .ok (.getfield 58, 3) := by decide +kernel
theorem dX1_tidyUp_4 : decode cX1_tidyUp 4 = .ok (.istore_n 1, 1) := by decide +kernel
theorem dX1_tidyUp_5 : decode cX1_tidyUp 5 = .ok (.aload_n 0, 1) := by decide +kernel
theorem dX1_tidyUp_6 : decode cX1_tidyUp 6 = .ok (.aload_n 0, 1) := by decide +kernel
theorem dX1_tidyUp_7 : decode cX1_tidyUp 7 = .ok (.iconst 1, 1) := by decide +kernel
theorem dX1_tidyUp_8 : decode cX1_tidyUp 8 = .ok (.invokevirtual 135, 3) := by decide +kernel
theorem dX1_tidyUp_11 : decode cX1_tidyUp 11 = .ok (.aload_n 0, 1) := by decide +kernel
theorem dX1_tidyUp_12 : decode cX1_tidyUp 12 = .ok (.getfield 31, 3) := by decide +kernel
theorem dX1_tidyUp_15 : decode cX1_tidyUp 15 = .ok (.invokevirtual 139, 3) := by decide +kernel
theorem dX1_tidyUp_18 : decode cX1_tidyUp 18 = .ok (.istore_n 2, 1) := by decide +kernel
theorem dX1_tidyUp_19 : decode cX1_tidyUp 19 = .ok (.iconst 0, 1) := by decide +kernel
theorem dX1_tidyUp_20 : decode cX1_tidyUp 20 = .ok (.istore_n 3, 1) := by decide +kernel
theorem dX1_tidyUp_21 : decode cX1_tidyUp 21 = .ok (.iload_n 3, 1) := by decide +kernel
theorem dX1_tidyUp_22 : decode cX1_tidyUp 22 = .ok (.iload_n 2, 1) := by decide +kernel
theorem dX1_tidyUp_23 : decode cX1_tidyUp 23 = .ok (.if_icmp .ge 19, 3) := by decide +kernel
theorem dX1_tidyUp_26 : decode cX1_tidyUp 26 = .ok (.aload_n 0, 1) := by decide +kernel
theorem dX1_tidyUp_27 : decode cX1_tidyUp 27 = .ok (.aload_n 0, 1) := by decide +kernel
theorem dX1_tidyUp_28 : decode cX1_tidyUp 28 = .ok (.getfield 31, 3) := by decide +kernel
theorem dX1_tidyUp_31 : decode cX1_tidyUp 31 = .ok (.iload_n 3, 1) := by decide +kernel
theorem dX1_tidyUp_32 : decode cX1_tidyUp 32 = .ok (.iaload, 1) := by decide +kernel
theorem dX1_tidyUp_33 : decode cX1_tidyUp 33 = .ok (.invokevirtual 143, 3) := by decide +kernel
theorem dX1_tidyUp_36 : decode cX1_tidyUp 36 = .ok (.iinc 3 1, 3) := by decide +kernel
theorem dX1_tidyUp_39 : decode cX1_tidyUp 39 = .ok (.goto (-18), 3) := by decide +kernel
theorem dX1_tidyUp_42 : decode cX1_tidyUp 42 = .ok (.aload_n 0, 1) := by decide +kernel
theorem dX1_tidyUp_43 : decode cX1_tidyUp 43 = .ok (.getfield 58, 3) := by decide +kernel
theorem dX1_tidyUp_46 : decode cX1_tidyUp 46 = .ok (.iload_n 1, 1) := by decide +kernel
theorem dX1_tidyUp_47 : decode cX1_tidyUp 47 = .ok (.isub, 1) := by decide +kernel
theorem dX1_tidyUp_48 : decode cX1_tidyUp 48 = .ok (.ireturn, 1) := by decide +kernel
theorem dX1_freeFromLater_0 : decode cX1_freeFromLater 0 = .ok (.aload_n 0, 1) := by decide +kernel
theorem dX1_freeFromLater_1 : decode cX1_freeFromLater 1 = .ok (.iload_n 1, 1) := by decide +kernel
theorem dX1_freeFromLater_2 : decode cX1_freeFromLater 2 = .ok (.invokevirtual 83, 3) := by decide +kernel
theorem dX1_freeFromLater_5 : decode cX1_freeFromLater 5 = .ok (.istore_n 2, 1) := by decide +kernel
theorem dX1_freeFromLater_6 : decode cX1_freeFromLater 6 = .ok (.iload_n 2, 1) := by decide +kernel
theorem dX1_freeFromLater_7 : decode cX1_freeFromLater 7 = .ok (.iconst (-1), 1) := by decide +kernel
theorem dX1_freeFromLater_8 : decode cX1_freeFromLater 8 = .ok (.if_icmp .eq 18, 3) := by decide +kernel
theorem dX1_freeFromLater_11 : decode cX1_freeFromLater 11 = .ok (.aload_n 0, 1) := by decide +kernel
theorem dX1_freeFromLater_12 : decode cX1_freeFromLater 12 = .ok (.getfield 22, 3) := by decide +kernel
theorem dX1_freeFromLater_15 : decode cX1_freeFromLater 15 = .ok (.iload_n 1, 1) := by decide +kernel
theorem dX1_freeFromLater_16 : decode cX1_freeFromLater 16 = .ok (.iaload, 1) := by decide +kernel
theorem dX1_freeFromLater_17 : decode cX1_freeFromLater 17 = .ok (.aload_n 0, 1) := by decide +kernel
theorem dX1_freeFromLater_18 : decode cX1_freeFromLater 18 = .ok (.getfield 22, 3) := by decide +kernel
theorem dX1_freeFromLater_21 : decode cX1_freeFromLater 21 = .ok (.iload_n 2, 1) := by decide +kernel
theorem dX1_freeFromLater_22 : decode cX1_freeFromLater 22 = .ok (.iaload, 1) := by decide +kernel
theorem dX1_freeFromLater_23 : decode cX1_freeFromLater 23 = .ok (.if_icmp .lt 4, 3) := by decide +kernel
theorem dX1_freeFromLater_26 : decode cX1_freeFromLater 26 = .ok (.return_, 1) := by decide +kernel
theorem dX1_freeFromLater_27 : decode cX1_freeFromLater 27 = .ok (.aload_n 0, 1) := by decide +kernel
theorem dX1_freeFromLater_28 : decode cX1_freeFromLater 28 = .ok (.iload_n 2, 1) := by decide +kernel
theorem dX1_freeFromLater_29 : decode cX1_freeFromLater 29 = .ok (.invokevirtual 112, 3) := by decide +kernel
theorem dX1_freeFromLater_32 : decode cX1_freeFromLater 32 = .ok (.istore_n 3, 1) := by decide +kernel
theorem dX1_freeFromLater_33 : decode cX1_freeFromLater 33 = .ok (.iload_n 3, 1) := by decide +kernel
theorem dX1_freeFromLater_34 : decode cX1_freeFromLater 34 = .ok (.iconst (-1), 1) := by decide +kernel
theorem dX1_freeFromLater_35 : decode cX1_freeFromLater 35 = .ok (.if_icmp .eq 23, 3) := by decide +kernel
theorem dX1_freeFromLater_38 : decode cX1_freeFromLater 38 = .ok (.aload_n 0, 1) := by decide +kernel
theorem dX1_freeFromLater_39 : decode cX1_freeFromLater 39 = .ok (.iload_n 3, 1) := by decide +kernel
theorem dX1_freeFromLater_40 : decode cX1_freeFromLater 40 = .ok (.aload_n 0, 1) := by decide +kernel
theorem dX1_freeFromLater_41 : decode cX1_freeFromLater 41 = .ok (.getfield 22, 3) := by decide +kernel
theorem dX1_freeFromLater_44 : decode cX1_freeFromLater 44 = .ok (.iload_n 2, 1) := by decide +kernel
theorem dX1_freeFromLater_45 : decode cX1_freeFromLater 45 = .ok (.iaload, 1) := by decide +kernel
theorem dX1_freeFromLater_46 : decode cX1_freeFromLater 46 = .ok (.invokevirtual 96, 3) := by decide +kernel
theorem dX1_freeFromLater_49 : decode cX1_freeFromLater 49 = .ok (.ifCond .ne 9, 3) := by decide +kernel
theorem dX1_freeFromLater_52 : decode cX1_freeFromLater 52 = .ok (.aload_n 0, 1) := by decide +kernel
theorem dX1_freeFromLater_53 : decode cX1_freeFromLater 53 = .ok (.iload_n 2, 1) := by decide +kernel
theorem dX1_freeFromLater_54 : decode cX1_freeFromLater 54 = .ok (.iload_n 3, 1) := by decide +kernel
theorem dX1_freeFromLater_55 : decode cX1_freeFromLater 55 = .ok (.invokevirtual 115, 3) := by decide +kernel
theorem dX1_freeFromLater_58 : decode cX1_freeFromLater 58 = .ok (.return_, 1) := by decide +kernel
theorem dX2_init_0 : decode cX2_init 0 = .ok (.aload_n 0, 1) := by decide +kernel
theorem dX2_init_1 : decode cX2_init 1 = .ok (.invokespecial 3, 3) := by decide +kernel
theorem dX2_init_4 : decode cX2_init 4 = .ok (.aload_n 0, 1) := by decide +kernel
theorem dX2_init_5 : decode cX2_init 5 = .ok (.bipush 7, 2) := by decide +kernel
theorem dX2_init_7 : decode cX2_init 7 = .ok (.anewarray 11, 3) := by decide +kernel
theorem dX2_init_10 : decode cX2_init 10 = .ok (.putfield 13, 3) := by decide +kernel
theorem dX2_init_13 : decode cX2_init 13 = .ok (.iconst 0, 1) := by decide +kernel
theorem dX2_init_14 : decode cX2_init 14 = .ok (.istore_n 1, 1) := by decide +kernel
theorem dX2_init_15 : decode cX2_init 15 = .ok (.iload_n 1, 1) := by decide +kernel
theorem dX2_init_16 : decode cX2_init 16 = .ok (.bipush 7, 2) := by decide +kernel
theorem dX2_init_18 : decode cX2_init 18 = .ok (.if_icmp .ge 22, 3) := by decide +kernel
theorem dX2_init_21 : decode cX2_init 21 = .ok (.aload_n 0, 1) := by decide +kernel
theorem dX2_init_22 : decode cX2_init 22 = .ok (.getfield 13, 3) := by decide +kernel
theorem dX2_init_25 : decode cX2_init 25 = .ok (.iload_n 1, 1) := by decide +kernel
theorem dX2_init_26 : decode cX2_init 26 = .ok (.new 11, 3) := by decide +kernel
theorem dX2_init_29 : decode cX2_init 29 = .ok (.dup, 1) := by decide +kernel
theorem dX2_init_30 : decode cX2_init 30 = .ok (.invokespecial 17, 3) := by decide +kernel
theorem dX2_init_33 : decode cX2_init 33 = .ok (.aastore, 1) := by decide +kernel
theorem dX2_init_34 : decode cX2_init 34 = .ok (.iinc 1 1, 3) := by decide +kernel
theorem dX2_init_37 : decode cX2_init 37 = .ok (.goto (-22), 3) := by decide +kernel
theorem dX2_init_40 : decode cX2_init 40 = .ok (.return_, 1) := by decide +kernel
theorem dX2_count_0 : decode cX2_count 0 = .ok (.aload_n 0, 1) := by decide +kernel
theorem dX2_count_1 : decode cX2_count 1 = .ok (.getfield 18, 3) := by decide +kernel
theorem dX2_count_4 : decode cX2_count 4 = .ok (.ireturn, 1) := by decide +kernel
theorem dX2_draft_0 : decode cX2_draft 0 = .ok (.aload_n 0, 1) := by decide +kernel
theorem dX2_draft_1 : decode cX2_draft 1 = .ok (.getfield 13, 3) := by decide +kernel
theorem dX2_draft_4 : decode cX2_draft 4 = .ok (.aload_n 0, 1) := by decide +kernel
theorem dX2_draft_5 : decode cX2_draft 5 = .ok (.getfield 22, 3) := by decide +kernel
theorem dX2_draft_8 : decode cX2_draft 8 = .ok (.aaload, 1) := by decide +kernel
theorem dX2_draft_9 : decode cX2_draft 9 = .ok (.aload_n 1, 1) := by decide +kernel
theorem dX2_draft_10 : decode cX2_draft 10 = .ok (.invokevirtual 25, 3) := by decide +kernel
theorem dX2_draft_13 : decode cX2_draft 13 = .ok (.return_, 1) := by decide +kernel
theorem dX2_keepDraft_0 : decode cX2_keepDraft 0 = .ok (.aload_n 0, 1) := by decide +kernel
theorem dX2_keepDraft_1 : decode cX2_keepDraft 1 = .ok (.aload_n 0, 1) := by decide +kernel
theorem dX2_keepDraft_2 : decode cX2_keepDraft 2 = .ok (.getfield 22, 3) := by decide +kernel
theorem dX2_keepDraft_5 : decode cX2_keepDraft 5 = .ok (.iconst 1, 1) := by decide +kernel
theorem dX2_keepDraft_6 : decode cX2_keepDraft 6 = .ok (.iadd, 1) := by decide +kernel
theorem dX2_keepDraft_7 : decode cX2_keepDraft 7 = .ok (.bipush 7, 2) := by decide +kernel
theorem dX2_keepDraft_9 : decode cX2_keepDraft 9 = .ok (.irem, 1) := by decide +kernel
theorem dX2_keepDraft_10 : decode cX2_keepDraft 10 = .ok (.putfield 22, 3) := by decide +kernel
theorem dX2_keepDraft_13 : decode cX2_keepDraft 13 = .ok (.aload_n 0, 1) := by decide +kernel
theorem dX2_keepDraft_14 : decode cX2_keepDraft 14 = .ok (.aload_n 0, 1) := by decide +kernel
theorem dX2_keepDraft_15 : decode cX2_keepDraft 15 = .ok (.getfield 18, 3) := by decide +kernel
theorem dX2_keepDraft_18 : decode cX2_keepDraft 18 = .ok (.iconst 1, 1) := by decide +kernel
theorem dX2_keepDraft_19 : decode cX2_keepDraft 19 = .ok (.iadd, 1) := by decide +kernel
theorem dX2_keepDraft_20 : decode cX2_keepDraft 20 = .ok (.bipush 6, 2) := by decide +kernel
theorem dX2_keepDraft_22 : decode cX2_keepDraft 22 = .ok (.invokestatic 29, 3) := by decide +kernel
theorem dX2_keepDraft_25 : decode cX2_keepDraft 25 = .ok (.putfield 18, 3) := by decide +kernel
theorem dX2_keepDraft_28 : decode cX2_keepDraft 28 = .ok (.return_, 1) := by decide +kernel
theorem dX2_returnToDraft_0 : decode cX2_returnToDraft 0 = .ok (.aload_n 1, 1) := by decide +kernel
theorem dX2_returnToDraft_1 : decode cX2_returnToDraft 1 = .ok (.aload_n 0, 1) := by decide +kernel
theorem dX2_returnToDraft_2 : decode cX2_returnToDraft 2 = .ok (.getfield 13, 3) := by decide +kernel
theorem dX2_returnToDraft_5 : decode cX2_returnToDraft 5 = .ok (.aload_n 0, 1) := by decide +kernel
theorem dX2_returnToDraft_6 : decode cX2_returnToDraft 6 = .ok (.getfield 22, 3) := by decide +kernel
theorem dX2_returnToDraft_9 : decode cX2_returnToDraft 9 = .ok (.aaload, 1) := by decide +kernel
theorem dX2_returnToDraft_10 : decode cX2_returnToDraft 10 = .ok (.invokevirtual 25, 3) := by decide +kernel
theorem dX2_returnToDraft_13 : decode cX2_returnToDraft 13 = .ok (.return_, 1) := by decide +kernel
theorem dX2_takeBack_0 : decode cX2_takeBack 0 = .ok (.aload_n 0, 1) := by decide +kernel
theorem dX2_takeBack_1 : decode cX2_takeBack 1 = .ok (.aload_n 0, 1) := by decide +kernel
theorem dX2_takeBack_2 : decode cX2_takeBack 2 = .ok (.getfield 22, 3) := by decide +kernel
theorem dX2_takeBack_5 : decode cX2_takeBack 5 = .ok (.bipush 7, 2) := by decide +kernel
theorem dX2_takeBack_7 : decode cX2_takeBack 7 = .ok (.iadd, 1) := by decide +kernel
theorem dX2_takeBack_8 : decode cX2_takeBack 8 = .ok (.iconst 1, 1) := by decide +kernel
theorem dX2_takeBack_9 : decode cX2_takeBack 9 = .ok (.isub, 1) := by decide +kernel
theorem dX2_takeBack_10 : decode cX2_takeBack 10 = .ok (.bipush 7, 2) := by decide +kernel
theorem dX2_takeBack_12 : decode cX2_takeBack 12 = .ok (.irem, 1) := by decide +kernel
theorem dX2_takeBack_13 : decode cX2_takeBack 13 = .ok (.putfield 22, 3) := by decide +kernel
theorem dX2_takeBack_16 : decode cX2_takeBack 16 = .ok (.aload_n 0, 1) := by decide +kernel
theorem dX2_takeBack_17 : decode cX2_takeBack 17 = .ok (.dup, 1) := by decide +kernel
theorem dX2_takeBack_18 : decode cX2_takeBack 18 = .ok (.getfield 18, 3) := by decide +kernel
theorem dX2_takeBack_21 : decode cX2_takeBack 21 = .ok (.iconst 1, 1) := by decide +kernel
theorem dX2_takeBack_22 : decode cX2_takeBack 22 = .ok (.isub, 1) := by decide +kernel
theorem dX2_takeBack_23 : decode cX2_takeBack 23 = .ok (.putfield 18, 3) := by decide +kernel
theorem dX2_takeBack_26 : decode cX2_takeBack 26 = .ok (.aload_n 1, 1) := by decide +kernel
theorem dX2_takeBack_27 : decode cX2_takeBack 27 = .ok (.aload_n 0, 1) := by decide +kernel
theorem dX2_takeBack_28 : decode cX2_takeBack 28 = .ok (.getfield 13, 3) := by decide +kernel
theorem dX2_takeBack_31 : decode cX2_takeBack 31 = .ok (.aload_n 0, 1) := by decide +kernel
theorem dX2_takeBack_32 : decode cX2_takeBack 32 = .ok (.getfield 22, 3) := by decide +kernel
theorem dX2_takeBack_35 : decode cX2_takeBack 35 = .ok (.aaload, 1) := by decide +kernel
theorem dX2_takeBack_36 : decode cX2_takeBack 36 = .ok (.invokevirtual 25, 3) := by decide +kernel
theorem dX2_takeBack_39 : decode cX2_takeBack 39 = .ok (.return_, 1) := by decide +kernel
theorem dX2_clear_0 : decode cX2_clear 0 = .ok (.aload_n 0, 1) := by decide +kernel
theorem dX2_clear_1 : decode cX2_clear 1 = .ok (.iconst 0, 1) := by decide +kernel
theorem dX2_clear_2 : decode cX2_clear 2 = .ok (.putfield 18, 3) := by decide +kernel
theorem dX2_clear_5 : decode cX2_clear 5 = .ok (.return_, 1) := by decide +kernel
theorem dX3_init_0 : decode cX3_init 0 = .ok (.aload_n 0, 1) := by decide +kernel
theorem dX3_init_1 : decode cX3_init 1 = .ok (.invokespecial 1, 3) := by decide +kernel
theorem dX3_init_4 : decode cX3_init 4 = .ok (.aload_n 0, 1) := by decide +kernel
theorem dX3_init_5 : decode cX3_init 5 = .ok (.bipush 100, 2) := by decide +kernel
theorem dX3_init_7 : decode cX3_init 7 = .ok (.newarray .int, 2) := by decide +kernel
theorem dX3_init_9 : decode cX3_init 9 = .ok (.putfield 9, 3) := by decide +kernel
theorem dX3_init_12 : decode cX3_init 12 = .ok (.return_, 1) := by decide +kernel
theorem dX3_copyFrom_0 : decode cX3_copyFrom 0 = .ok (.aload_n 1, 1) := by decide +kernel
theorem dX3_copyFrom_1 : decode cX3_copyFrom 1 = .ok (.getfield 9, 3) := by decide +kernel
theorem dX3_copyFrom_4 : decode cX3_copyFrom 4 = .ok (.iconst 0, 1) := by decide +kernel
theorem dX3_copyFrom_5 : decode cX3_copyFrom 5 = .ok (.aload_n 0, 1) := by decide +kernel
theorem dX3_copyFrom_6 : decode cX3_copyFrom 6 = .ok (.getfield 9, 3) := by decide +kernel
theorem dX3_copyFrom_9 : decode cX3_copyFrom 9 = .ok (.iconst 0, 1) := by decide +kernel
theorem dX3_copyFrom_10 : decode cX3_copyFrom 10 = .ok (.aload_n 0, 1) := by decide +kernel
theorem dX3_copyFrom_11 : decode cX3_copyFrom 11 = .ok (.getfield 9, 3) := by decide +kernel
theorem dX3_copyFrom_14 : decode cX3_copyFrom 14 = .ok (.arraylength, 1) := by decide +kernel
theorem dX3_copyFrom_15 : decode cX3_copyFrom 15 = .ok (.invokestatic 13, 3) := by decide +kernel
theorem dX3_copyFrom_18 : decode cX3_copyFrom 18 = .ok (.aload_n 0, 1) := by decide +kernel
theorem dX3_copyFrom_19 : decode cX3_copyFrom 19 = .ok (.aload_n 1, 1) := by decide +kernel
theorem dX3_copyFrom_20 : decode cX3_copyFrom 20 = .ok (.getfield 19, 3) := by decide +kernel
theorem dX3_copyFrom_23 : decode cX3_copyFrom 23 = .ok (.putfield 19, 3) := by decide +kernel
theorem dX3_copyFrom_26 : decode cX3_copyFrom 26 = .ok (.aload_n 0, 1) := by decide +kernel
theorem dX3_copyFrom_27 : decode cX3_copyFrom 27 = .ok (.aload_n 1, 1) := by decide +kernel
theorem dX3_copyFrom_28 : decode cX3_copyFrom 28 = .ok (.getfield 23, 3) := by decide +kernel
theorem dX3_copyFrom_31 : decode cX3_copyFrom 31 = .ok (.putfield 23, 3) := by decide +kernel
theorem dX3_copyFrom_34 : decode cX3_copyFrom 34 = .ok (.aload_n 0, 1) := by decide +kernel
theorem dX3_copyFrom_35 : decode cX3_copyFrom 35 = .ok (.aload_n 1, 1) := by decide +kernel
theorem dX3_copyFrom_36 : decode cX3_copyFrom 36 = .ok (.getfield 26, 3) := by decide +kernel
theorem dX3_copyFrom_39 : decode cX3_copyFrom 39 = .ok (.putfield 26, 3) := by decide +kernel
theorem dX3_copyFrom_42 : decode cX3_copyFrom 42 = .ok (.return_, 1) := by decide +kernel
theorem dX3_total_0 : decode cX3_total 0 = .ok (.aload_n 0, 1) := by decide +kernel
theorem dX3_total_1 : decode cX3_total 1 = .ok (.getfield 19, 3) := by decide +kernel
theorem dX3_total_4 : decode cX3_total 4 = .ok (.ireturn, 1) := by decide +kernel
theorem dX3_minutes_0 : decode cX3_minutes 0 = .ok (.aload_n 0, 1) := by decide +kernel
theorem dX3_minutes_1 : decode cX3_minutes 1 = .ok (.getfield 23, 3) := by decide +kernel
theorem dX3_minutes_4 : decode cX3_minutes 4 = .ok (.ireturn, 1) := by decide +kernel
theorem dX3_greatestEnd_0 : decode cX3_greatestEnd 0 = .ok (.aload_n 0, 1) := by decide +kernel
theorem dX3_greatestEnd_1 : decode cX3_greatestEnd 1 = .ok (.getfield 26, 3) := by decide +kernel
theorem dX3_greatestEnd_4 : decode cX3_greatestEnd 4 = .ok (.ireturn, 1) := by decide +kernel
theorem dX3_kept_0 : decode cX3_kept 0 = .ok (.aload_n 0, 1) := by decide +kernel
theorem dX3_kept_1 : decode cX3_kept 1 = .ok (.getfield 19, 3) := by decide +kernel
theorem dX3_kept_4 : decode cX3_kept 4 = .ok (.bipush 20, 2) := by decide +kernel
theorem dX3_kept_6 : decode cX3_kept 6 = .ok (.invokestatic 29, 3) := by decide +kernel
theorem dX3_kept_9 : decode cX3_kept 9 = .ok (.ireturn, 1) := by decide +kernel
theorem dX3_add_0 : decode cX3_add 0 = .ok (.aload_n 0, 1) := by decide +kernel
theorem dX3_add_1 : decode cX3_add 1 = .ok (.getfield 19, 3) := by decide +kernel
theorem dX3_add_4 : decode cX3_add 4 = .ok (.bipush 20, 2) := by decide +kernel
theorem dX3_add_6 : decode cX3_add 6 = .ok (.irem, 1) := by decide +kernel
theorem dX3_add_7 : decode cX3_add 7 = .ok (.iconst 5, 1) := by decide +kernel
theorem dX3_add_8 : decode cX3_add 8 = .ok (.imul, 1) := by decide +kernel
theorem dX3_add_9 : decode cX3_add 9 = .ok (.istore 6, 2) := by decide +kernel
theorem dX3_add_11 : decode cX3_add 11 = .ok (.aload_n 0, 1) := by decide +kernel
theorem dX3_add_12 : decode cX3_add 12 = .ok (.getfield 9, 3) := by decide +kernel
theorem dX3_add_15 : decode cX3_add 15 = .ok (.iload 6, 2) := by decide +kernel
theorem dX3_add_17 : decode cX3_add 17 = .ok (.iload_n 1, 1) := by decide +kernel
theorem dX3_add_18 : decode cX3_add 18 = .ok (.iastore, 1) := by decide +kernel
theorem dX3_add_19 : decode cX3_add 19 = .ok (.aload_n 0, 1) := by decide +kernel
theorem dX3_add_20 : decode cX3_add 20 = .ok (.getfield 9, 3) := by decide +kernel
theorem dX3_add_23 : decode cX3_add 23 = .ok (.iload 6, 2) := by decide +kernel
theorem dX3_add_25 : decode cX3_add 25 = .ok (.iconst 1, 1) := by decide +kernel
theorem dX3_add_26 : decode cX3_add 26 = .ok (.iadd, 1) := by decide +kernel
theorem dX3_add_27 : decode cX3_add 27 = .ok (.iload_n 2, 1) := by decide +kernel
theorem dX3_add_28 : decode cX3_add 28 = .ok (.iastore, 1) := by decide +kernel
theorem dX3_add_29 : decode cX3_add 29 = .ok (.aload_n 0, 1) := by decide +kernel
theorem dX3_add_30 : decode cX3_add 30 = .ok (.getfield 9, 3) := by decide +kernel
theorem dX3_add_33 : decode cX3_add 33 = .ok (.iload 6, 2) := by decide +kernel
theorem dX3_add_35 : decode cX3_add 35 = .ok (.iconst 2, 1) := by decide +kernel
theorem dX3_add_36 : decode cX3_add 36 = .ok (.iadd, 1) := by decide +kernel
theorem dX3_add_37 : decode cX3_add 37 = .ok (.iload_n 3, 1) := by decide +kernel
theorem dX3_add_38 : decode cX3_add 38 = .ok (.iastore, 1) := by decide +kernel
theorem dX3_add_39 : decode cX3_add 39 = .ok (.aload_n 0, 1) := by decide +kernel
theorem dX3_add_40 : decode cX3_add 40 = .ok (.getfield 9, 3) := by decide +kernel
theorem dX3_add_43 : decode cX3_add 43 = .ok (.iload 6, 2) := by decide +kernel
theorem dX3_add_45 : decode cX3_add 45 = .ok (.iconst 3, 1) := by decide +kernel
theorem dX3_add_46 : decode cX3_add 46 = .ok (.iadd, 1) := by decide +kernel
theorem dX3_add_47 : decode cX3_add 47 = .ok (.iload 4, 2) := by decide +kernel
theorem dX3_add_49 : decode cX3_add 49 = .ok (.iastore, 1) := by decide +kernel
theorem dX3_add_50 : decode cX3_add 50 = .ok (.aload_n 0, 1) := by decide +kernel
theorem dX3_add_51 : decode cX3_add 51 = .ok (.getfield 9, 3) := by decide +kernel
theorem dX3_add_54 : decode cX3_add 54 = .ok (.iload 6, 2) := by decide +kernel
theorem dX3_add_56 : decode cX3_add 56 = .ok (.iconst 4, 1) := by decide +kernel
theorem dX3_add_57 : decode cX3_add 57 = .ok (.iadd, 1) := by decide +kernel
theorem dX3_add_58 : decode cX3_add 58 = .ok (.iload 5, 2) := by decide +kernel
theorem dX3_add_60 : decode cX3_add 60 = .ok (.iastore, 1) := by decide +kernel
theorem dX3_add_61 : decode cX3_add 61 = .ok (.aload_n 0, 1) := by decide +kernel
theorem dX3_add_62 : decode cX3_add 62 = .ok (.dup, 1) := by decide +kernel
theorem dX3_add_63 : decode cX3_add 63 = .ok (.getfield 19, 3) := by decide +kernel
theorem dX3_add_66 : decode cX3_add 66 = .ok (.iconst 1, 1) := by decide +kernel
theorem dX3_add_67 : decode cX3_add 67 = .ok (.iadd, 1) := by decide +kernel
theorem dX3_add_68 : decode cX3_add 68 = .ok (.putfield 19, 3) := by decide +kernel
theorem dX3_add_71 : decode cX3_add 71 = .ok (.aload_n 0, 1) := by decide +kernel
theorem dX3_add_72 : decode cX3_add 72 = .ok (.dup, 1) := by decide +kernel
theorem dX3_add_73 : decode cX3_add 73 = .ok (.getfield 23, 3) := by decide +kernel
theorem dX3_add_76 : decode cX3_add 76 = .ok (.iload 5, 2) := by decide +kernel
theorem dX3_add_78 : decode cX3_add 78 = .ok (.iload 4, 2) := by decide +kernel
theorem dX3_add_80 : decode cX3_add 80 = .ok (.isub, 1) := by decide +kernel
theorem dX3_add_81 : decode cX3_add 81 = .ok (.iadd, 1) := by decide +kernel
theorem dX3_add_82 : decode cX3_add 82 = .ok (.putfield 23, 3) := by decide +kernel
theorem dX3_add_85 : decode cX3_add 85 = .ok (.aload_n 0, 1) := by decide +kernel
theorem dX3_add_86 : decode cX3_add 86 = .ok (.aload_n 0, 1) := by decide +kernel
theorem dX3_add_87 : decode cX3_add 87 = .ok (.getfield 26, 3) := by decide +kernel
theorem dX3_add_90 : decode cX3_add 90 = .ok (.iload 5, 2) := by decide +kernel
theorem dX3_add_92 : decode cX3_add 92 = .ok (.invokestatic 35, 3) := by decide +kernel
theorem dX3_add_95 : decode cX3_add 95 = .ok (.putfield 26, 3) := by decide +kernel
theorem dX3_add_98 : decode cX3_add 98 = .ok (.return_, 1) := by decide +kernel
theorem dX3_partOf_0 : decode cX3_partOf 0 = .ok (.aload_n 0, 1) := by decide +kernel
theorem dX3_partOf_1 : decode cX3_partOf 1 = .ok (.getfield 9, 3) := by decide +kernel
theorem dX3_partOf_4 : decode cX3_partOf 4 = .ok (.aload_n 0, 1) := by decide +kernel
theorem dX3_partOf_5 : decode cX3_partOf 5 = .ok (.getfield 19, 3) := by decide +kernel
theorem dX3_partOf_8 : decode cX3_partOf 8 = .ok (.aload_n 0, 1) := by decide +kernel
theorem dX3_partOf_9 : decode cX3_partOf 9 = .ok (.invokevirtual 38, 3) := by decide +kernel
theorem dX3_partOf_12 : decode cX3_partOf 12 = .ok (.isub, 1) := by decide +kernel
theorem dX3_partOf_13 : decode cX3_partOf 13 = .ok (.iload_n 1, 1) := by decide +kernel
theorem dX3_partOf_14 : decode cX3_partOf 14 = .ok (.iadd, 1) := by decide +kernel
theorem dX3_partOf_15 : decode cX3_partOf 15 = .ok (.bipush 20, 2) := by decide +kernel
theorem dX3_partOf_17 : decode cX3_partOf 17 = .ok (.irem, 1) := by decide +kernel
theorem dX3_partOf_18 : decode cX3_partOf 18 = .ok (.iconst 5, 1) := by decide +kernel
theorem dX3_partOf_19 : decode cX3_partOf 19 = .ok (.imul, 1) := by decide +kernel
theorem dX3_partOf_20 : decode cX3_partOf 20 = .ok (.iload_n 2, 1) := by decide +kernel
theorem dX3_partOf_21 : decode cX3_partOf 21 = .ok (.iadd, 1) := by decide +kernel
theorem dX3_partOf_22 : decode cX3_partOf 22 = .ok (.iaload, 1) := by decide +kernel
theorem dX3_partOf_23 : decode cX3_partOf 23 = .ok (.ireturn, 1) := by decide +kernel
theorem dX3_endOfLatest_0 : decode cX3_endOfLatest 0 = .ok (.iconst 0, 1) := by decide +kernel
theorem dX3_endOfLatest_1 : decode cX3_endOfLatest 1 = .ok (.istore_n 2, 1) := by decide +kernel
theorem dX3_endOfLatest_2 : decode cX3_endOfLatest 2 = .ok (.aload_n 0, 1) := by decide +kernel
theorem dX3_endOfLatest_3 : decode cX3_endOfLatest 3 = .ok (.invokevirtual 38, 3) := by decide +kernel
theorem dX3_endOfLatest_6 : decode cX3_endOfLatest 6 = .ok (.iload_n 1, 1) := by decide +kernel
theorem dX3_endOfLatest_7 : decode cX3_endOfLatest 7 = .ok (.isub, 1) := by decide +kernel
theorem dX3_endOfLatest_8 : decode cX3_endOfLatest 8 = .ok (.iconst 0, 1) := by decide +kernel
theorem dX3_endOfLatest_9 : decode cX3_endOfLatest 9 = .ok (.invokestatic 35, 3) := by decide +kernel
theorem dX3_endOfLatest_12 : decode cX3_endOfLatest 12 = .ok (.istore_n 3, 1) := by decide +kernel
theorem dX3_endOfLatest_13 : decode cX3_endOfLatest 13 = .ok (.iload_n 3, 1) := by decide +kernel
theorem dX3_endOfLatest_14 : decode cX3_endOfLatest 14 = .ok (.aload_n 0, 1) := by decide +kernel
theorem dX3_endOfLatest_15 : decode cX3_endOfLatest 15 = .ok (.invokevirtual 38, 3) := by decide +kernel
theorem dX3_endOfLatest_18 : decode cX3_endOfLatest 18 = .ok (.if_icmp .ge 20, 3) := by decide +kernel
theorem dX3_endOfLatest_21 : decode cX3_endOfLatest 21 = .ok (.iload_n 2, 1) := by decide +kernel
theorem dX3_endOfLatest_22 : decode cX3_endOfLatest 22 = .ok (.aload_n 0, 1) := by decide +kernel
theorem dX3_endOfLatest_23 : decode cX3_endOfLatest 23 = .ok (.iload_n 3, 1) := by decide +kernel
theorem dX3_endOfLatest_24 : decode cX3_endOfLatest 24 = .ok (.iconst 4, 1) := by decide +kernel
theorem dX3_endOfLatest_25 : decode cX3_endOfLatest 25 = .ok (.invokevirtual 42, 3) := by decide +kernel
theorem dX3_endOfLatest_28 : decode cX3_endOfLatest 28 = .ok (.invokestatic 35, 3) := by decide +kernel
theorem dX3_endOfLatest_31 : decode cX3_endOfLatest 31 = .ok (.istore_n 2, 1) := by decide +kernel
theorem dX3_endOfLatest_32 : decode cX3_endOfLatest 32 = .ok (.iinc 3 1, 3) := by decide +kernel
theorem dX3_endOfLatest_35 : decode cX3_endOfLatest 35 = .ok (.goto (-22), 3) := by decide +kernel
theorem dX3_endOfLatest_38 : decode cX3_endOfLatest 38 = .ok (.iload_n 2, 1) := by decide +kernel
theorem dX3_endOfLatest_39 : decode cX3_endOfLatest 39 = .ok (.ireturn, 1) := by decide +kernel
theorem dX4_init_0 : decode cX4_init 0 = .ok (.aload_n 0, 1) := by decide +kernel
theorem dX4_init_1 : decode cX4_init 1 = .ok (.invokespecial 1, 3) := by decide +kernel
theorem dX4_init_4 : decode cX4_init 4 = .ok (.aload_n 0, 1) := by decide +kernel
theorem dX4_init_5 : decode cX4_init 5 = .ok (.iload_n 1, 1) := by decide +kernel
theorem dX4_init_6 : decode cX4_init 6 = .ok (.putfield 7, 3) := by decide +kernel
theorem dX4_init_9 : decode cX4_init 9 = .ok (.return_, 1) := by decide +kernel
theorem dX4_copyFrom_0 : decode cX4_copyFrom 0 = .ok (.aload_n 0, 1) := by decide +kernel
theorem dX4_copyFrom_1 : decode cX4_copyFrom 1 = .ok (.aload_n 1, 1) := by decide +kernel
theorem dX4_copyFrom_2 : decode cX4_copyFrom 2 = .ok (.getfield 13, 3) := by decide +kernel
theorem dX4_copyFrom_5 : decode cX4_copyFrom 5 = .ok (.putfield 13, 3) := by decide +kernel
theorem dX4_copyFrom_8 : decode cX4_copyFrom 8 = .ok (.aload_n 0, 1) := by decide +kernel
theorem dX4_copyFrom_9 : decode cX4_copyFrom 9 = .ok (.aload_n 1, 1) := by decide +kernel
theorem dX4_copyFrom_10 : decode cX4_copyFrom 10 = .ok (.getfield 16, 3) := by decide +kernel
theorem dX4_copyFrom_13 : decode cX4_copyFrom 13 = .ok (.putfield 16, 3) := by decide +kernel
theorem dX4_copyFrom_16 : decode cX4_copyFrom 16 = .ok (.aload_n 0, 1) := by decide +kernel
theorem dX4_copyFrom_17 : decode cX4_copyFrom 17 = .ok (.aload_n 1, 1) := by decide +kernel
theorem dX4_copyFrom_18 : decode cX4_copyFrom 18 = .ok (.getfield 19, 3) := by decide +kernel
theorem dX4_copyFrom_21 : decode cX4_copyFrom 21 = .ok (.putfield 19, 3) := by decide +kernel
theorem dX4_copyFrom_24 : decode cX4_copyFrom 24 = .ok (.return_, 1) := by decide +kernel
theorem dX4_place_0 : decode cX4_place 0 = .ok (.aload_n 0, 1) := by decide +kernel
theorem dX4_place_1 : decode cX4_place 1 = .ok (.getfield 13, 3) := by decide +kernel
theorem dX4_place_4 : decode cX4_place 4 = .ok (.ireturn, 1) := by decide +kernel
theorem dX4_freeFrom_0 : decode cX4_freeFrom 0 = .ok (.aload_n 0, 1) := by decide +kernel
theorem dX4_freeFrom_1 : decode cX4_freeFrom 1 = .ok (.getfield 16, 3) := by decide +kernel
theorem dX4_freeFrom_4 : decode cX4_freeFrom 4 = .ok (.ireturn, 1) := by decide +kernel
theorem dX4_minutes_0 : decode cX4_minutes 0 = .ok (.aload_n 0, 1) := by decide +kernel
theorem dX4_minutes_1 : decode cX4_minutes 1 = .ok (.getfield 19, 3) := by decide +kernel
theorem dX4_minutes_4 : decode cX4_minutes 4 = .ok (.ireturn, 1) := by decide +kernel
theorem dX4_start_0 : decode cX4_start 0 = .ok (.aload_n 0, 1) := by decide +kernel
theorem dX4_start_1 : decode cX4_start 1 = .ok (.iload_n 1, 1) := by decide +kernel
theorem dX4_start_2 : decode cX4_start 2 = .ok (.aload_n 0, 1) := by decide +kernel
theorem dX4_start_3 : decode cX4_start 3 = .ok (.getfield 16, 3) := by decide +kernel
theorem dX4_start_6 : decode cX4_start 6 = .ok (.invokestatic 22, 3) := by decide +kernel
theorem dX4_start_9 : decode cX4_start 9 = .ok (.putfield 16, 3) := by decide +kernel
theorem dX4_start_12 : decode cX4_start 12 = .ok (.aload_n 0, 1) := by decide +kernel
theorem dX4_start_13 : decode cX4_start 13 = .ok (.dup, 1) := by decide +kernel
theorem dX4_start_14 : decode cX4_start 14 = .ok (.getfield 19, 3) := by decide +kernel
theorem dX4_start_17 : decode cX4_start 17 = .ok (.aload_n 0, 1) := by decide +kernel
theorem dX4_start_18 : decode cX4_start 18 = .ok (.getfield 16, 3) := by decide +kernel
theorem dX4_start_21 : decode cX4_start 21 = .ok (.isub, 1) := by decide +kernel
theorem dX4_start_22 : decode cX4_start 22 = .ok (.putfield 19, 3) := by decide +kernel
theorem dX4_start_25 : decode cX4_start 25 = .ok (.aload_n 0, 1) := by decide +kernel
theorem dX4_start_26 : decode cX4_start 26 = .ok (.getfield 16, 3) := by decide +kernel
theorem dX4_start_29 : decode cX4_start 29 = .ok (.ireturn, 1) := by decide +kernel
theorem dX4_goTo_0 : decode cX4_goTo 0 = .ok (.aload_n 0, 1) := by decide +kernel
theorem dX4_goTo_1 : decode cX4_goTo 1 = .ok (.dup, 1) := by decide +kernel
theorem dX4_goTo_2 : decode cX4_goTo 2 = .ok (.getfield 16, 3) := by decide +kernel
theorem dX4_goTo_5 : decode cX4_goTo 5 = .ok (.iload_n 1, 1) := by decide +kernel
theorem dX4_goTo_6 : decode cX4_goTo 6 = .ok (.aload_n 0, 1) := by decide +kernel
theorem dX4_goTo_7 : decode cX4_goTo 7 = .ok (.getfield 13, 3) := by decide +kernel
theorem dX4_goTo_10 : decode cX4_goTo 10 = .ok (.isub, 1) := by decide +kernel
theorem dX4_goTo_11 : decode cX4_goTo 11 = .ok (.invokestatic 28, 3) := by decide +kernel
theorem dX4_goTo_14 : decode cX4_goTo 14 = .ok (.aload_n 0, 1) := by decide +kernel
theorem dX4_goTo_15 : decode cX4_goTo 15 = .ok (.getfield 7, 3) := by decide +kernel
theorem dX4_goTo_18 : decode cX4_goTo 18 = .ok (.imul, 1) := by decide +kernel
theorem dX4_goTo_19 : decode cX4_goTo 19 = .ok (.iadd, 1) := by decide +kernel
theorem dX4_goTo_20 : decode cX4_goTo 20 = .ok (.putfield 16, 3) := by decide +kernel
theorem dX4_goTo_23 : decode cX4_goTo 23 = .ok (.aload_n 0, 1) := by decide +kernel
theorem dX4_goTo_24 : decode cX4_goTo 24 = .ok (.iload_n 1, 1) := by decide +kernel
theorem dX4_goTo_25 : decode cX4_goTo 25 = .ok (.putfield 13, 3) := by decide +kernel
theorem dX4_goTo_28 : decode cX4_goTo 28 = .ok (.return_, 1) := by decide +kernel
theorem dX4_work_0 : decode cX4_work 0 = .ok (.aload_n 0, 1) := by decide +kernel
theorem dX4_work_1 : decode cX4_work 1 = .ok (.dup, 1) := by decide +kernel
theorem dX4_work_2 : decode cX4_work 2 = .ok (.getfield 16, 3) := by decide +kernel
theorem dX4_work_5 : decode cX4_work 5 = .ok (.iload_n 1, 1) := by decide +kernel
theorem dX4_work_6 : decode cX4_work 6 = .ok (.iadd, 1) := by decide +kernel
theorem dX4_work_7 : decode cX4_work 7 = .ok (.putfield 16, 3) := by decide +kernel
theorem dX4_work_10 : decode cX4_work 10 = .ok (.return_, 1) := by decide +kernel
theorem dX4_handOver_0 : decode cX4_handOver 0 = .ok (.aload_n 0, 1) := by decide +kernel
theorem dX4_handOver_1 : decode cX4_handOver 1 = .ok (.getfield 16, 3) := by decide +kernel
theorem dX4_handOver_4 : decode cX4_handOver 4 = .ok (.aload_n 1, 1) := by decide +kernel
theorem dX4_handOver_5 : decode cX4_handOver 5 = .ok (.getfield 16, 3) := by decide +kernel
theorem dX4_handOver_8 : decode cX4_handOver 8 = .ok (.invokestatic 22, 3) := by decide +kernel
theorem dX4_handOver_11 : decode cX4_handOver 11 = .ok (.iconst 2, 1) := by decide +kernel
theorem dX4_handOver_12 : decode cX4_handOver 12 = .ok (.iadd, 1) := by decide +kernel
theorem dX4_handOver_13 : decode cX4_handOver 13 = .ok (.istore_n 2, 1) := by decide +kernel
theorem dX4_handOver_14 : decode cX4_handOver 14 = .ok (.aload_n 0, 1) := by decide +kernel
theorem dX4_handOver_15 : decode cX4_handOver 15 = .ok (.iload_n 2, 1) := by decide +kernel
theorem dX4_handOver_16 : decode cX4_handOver 16 = .ok (.putfield 16, 3) := by decide +kernel
theorem dX4_handOver_19 : decode cX4_handOver 19 = .ok (.aload_n 1, 1) := by decide +kernel
theorem dX4_handOver_20 : decode cX4_handOver 20 = .ok (.iload_n 2, 1) := by decide +kernel
theorem dX4_handOver_21 : decode cX4_handOver 21 = .ok (.putfield 16, 3) := by decide +kernel
theorem dX4_handOver_24 : decode cX4_handOver 24 = .ok (.return_, 1) := by decide +kernel
theorem dX4_finish_0 : decode cX4_finish 0 = .ok (.aload_n 0, 1) := by decide +kernel
theorem dX4_finish_1 : decode cX4_finish 1 = .ok (.dup, 1) := by decide +kernel
theorem dX4_finish_2 : decode cX4_finish 2 = .ok (.getfield 19, 3) := by decide +kernel
theorem dX4_finish_5 : decode cX4_finish 5 = .ok (.aload_n 0, 1) := by decide +kernel
theorem dX4_finish_6 : decode cX4_finish 6 = .ok (.getfield 16, 3) := by decide +kernel
theorem dX4_finish_9 : decode cX4_finish 9 = .ok (.iadd, 1) := by decide +kernel
theorem dX4_finish_10 : decode cX4_finish 10 = .ok (.putfield 19, 3) := by decide +kernel
theorem dX4_finish_13 : decode cX4_finish 13 = .ok (.aload_n 0, 1) := by decide +kernel
theorem dX4_finish_14 : decode cX4_finish 14 = .ok (.getfield 16, 3) := by decide +kernel
theorem dX4_finish_17 : decode cX4_finish 17 = .ok (.ireturn, 1) := by decide +kernel
theorem dX5_init_0 : decode cX5_init 0 = .ok (.aload_n 0, 1) := by decide +kernel
theorem dX5_init_1 : decode cX5_init 1 = .ok (.invokespecial 3, 3) := by decide +kernel
theorem dX5_init_4 : decode cX5_init 4 = .ok (.aload_n 0, 1) := by decide +kernel
theorem dX5_init_5 : decode cX5_init 5 = .ok (.bipush 6, 2) := by decide +kernel
theorem dX5_init_7 : decode cX5_init 7 = .ok (.anewarray 9, 3) := by decide +kernel
theorem dX5_init_10 : decode cX5_init 10 = .ok (.putfield 11, 3) := by decide +kernel
theorem dX5_init_13 : decode cX5_init 13 = .ok (.aload_n 0, 1) := by decide +kernel
theorem dX5_init_14 : decode cX5_init 14 = .ok (.iconst 5, 1) := by decide +kernel
theorem dX5_init_15 : decode cX5_init 15 = .ok (.newarray .int, 2) := by decide +kernel
theorem dX5_init_17 : decode cX5_init 17 = .ok (.putfield 17, 3) := by decide +kernel
theorem dX5_init_20 : decode cX5_init 20 = .ok (.aload_n 0, 1) := by decide +kernel
theorem dX5_init_21 : decode cX5_init 21 = .ok (.iconst 5, 1) := by decide +kernel
theorem dX5_init_22 : decode cX5_init 22 = .ok (.newarray .int, 2) := by decide +kernel
theorem dX5_init_24 : decode cX5_init 24 = .ok (.putfield 21, 3) := by decide +kernel
theorem dX5_init_27 : decode cX5_init 27 = .ok (.aload_n 0, 1) := by decide +kernel
theorem dX5_init_28 : decode cX5_init 28 = .ok (.iconst 5, 1) := by decide +kernel
theorem dX5_init_29 : decode cX5_init 29 = .ok (.newarray .int, 2) := by decide +kernel
theorem dX5_init_31 : decode cX5_init 31 = .ok (.putfield 24, 3) := by decide +kernel
theorem dX5_init_34 : decode cX5_init 34 = .ok (.iconst 0, 1) := by decide +kernel
theorem dX5_init_35 : decode cX5_init 35 = .ok (.istore_n 1, 1) := by decide +kernel
theorem dX5_init_36 : decode cX5_init 36 = .ok (.iload_n 1, 1) := by decide +kernel
theorem dX5_init_37 : decode cX5_init 37 = .ok (.iconst 5, 1) := by decide +kernel
theorem dX5_init_38 : decode cX5_init 38 = .ok (.if_icmp .gt 22, 3) := by decide +kernel
theorem dX5_init_41 : decode cX5_init 41 = .ok (.aload_n 0, 1) := by decide +kernel
theorem dX5_init_42 : decode cX5_init 42 = .ok (.getfield 11, 3) := by decide +kernel
theorem dX5_init_45 : decode cX5_init 45 = .ok (.iload_n 1, 1) := by decide +kernel
theorem dX5_init_46 : decode cX5_init 46 = .ok (.new 9, 3) := by decide +kernel
theorem dX5_init_49 : decode cX5_init 49 = .ok (.dup, 1) := by decide +kernel
theorem dX5_init_50 : decode cX5_init 50 = .ok (.invokespecial 27, 3) := by decide +kernel
theorem dX5_init_53 : decode cX5_init 53 = .ok (.aastore, 1) := by decide +kernel
theorem dX5_init_54 : decode cX5_init 54 = .ok (.iinc 1 1, 3) := by decide +kernel
theorem dX5_init_57 : decode cX5_init 57 = .ok (.goto (-21), 3) := by decide +kernel
theorem dX5_init_60 : decode cX5_init 60 = .ok (.return_, 1) := by decide +kernel
theorem dX5_movesOfBest_0 : decode cX5_movesOfBest 0 = .ok (.aload_n 0, 1) := by decide +kernel
theorem dX5_movesOfBest_1 : decode cX5_movesOfBest 1 = .ok (.getfield 28, 3) := by decide +kernel
theorem dX5_movesOfBest_4 : decode cX5_movesOfBest 4 = .ok (.ireturn, 1) := by decide +kernel
theorem dX5_endOfBest_0 : decode cX5_endOfBest 0 = .ok (.aload_n 0, 1) := by decide +kernel
theorem dX5_endOfBest_1 : decode cX5_endOfBest 1 = .ok (.getfield 32, 3) := by decide +kernel
theorem dX5_endOfBest_4 : decode cX5_endOfBest 4 = .ok (.ireturn, 1) := by decide +kernel
theorem dX5_carOfBest_0 : decode cX5_carOfBest 0 = .ok (.aload_n 0, 1) := by decide +kernel
theorem dX5_carOfBest_1 : decode cX5_carOfBest 1 = .ok (.getfield 24, 3) := by decide +kernel
theorem dX5_carOfBest_4 : decode cX5_carOfBest 4 = .ok (.iload_n 1, 1) := by decide +kernel
theorem dX5_carOfBest_5 : decode cX5_carOfBest 5 = .ok (.iaload, 1) := by decide +kernel
theorem dX5_carOfBest_6 : decode cX5_carOfBest 6 = .ok (.ireturn, 1) := by decide +kernel
theorem dX5_findBest_0 : decode cX5_findBest 0 = .ok (.aload_n 0, 1) := by decide +kernel
theorem dX5_findBest_1 : decode cX5_findBest 1 = .ok (.aload_n 1, 1) := by decide +kernel
theorem dX5_findBest_2 : decode cX5_findBest 2 = .ok (.invokevirtual 35, 3) := by decide +kernel
theorem dX5_findBest_5 : decode cX5_findBest 5 = .ok (.aload_n 0, 1) := by decide +kernel
theorem dX5_findBest_6 : decode cX5_findBest 6 = .ok (.iconst 0, 1) := by decide +kernel
theorem dX5_findBest_7 : decode cX5_findBest 7 = .ok (.putfield 39, 3) := by decide +kernel
theorem dX5_findBest_10 : decode cX5_findBest 10 = .ok (.iconst 0, 1) := by decide +kernel
theorem dX5_findBest_11 : decode cX5_findBest 11 = .ok (.istore 4, 2) := by decide +kernel
theorem dX5_findBest_13 : decode cX5_findBest 13 = .ok (.iload 4, 2) := by decide +kernel
theorem dX5_findBest_15 : decode cX5_findBest 15 = .ok (.bipush 40, 2) := by decide +kernel
theorem dX5_findBest_17 : decode cX5_findBest 17 = .ok (.if_icmp .ge 49, 3) := by decide +kernel
theorem dX5_findBest_20 : decode cX5_findBest 20 = .ok (.aload_n 0, 1) := by decide +kernel
theorem dX5_findBest_21 : decode cX5_findBest 21 = .ok (.getfield 39, 3) := by decide +kernel
theorem dX5_findBest_24 : decode cX5_findBest 24 = .ok (.iconst 5, 1) := by decide +kernel
theorem dX5_findBest_25 : decode cX5_findBest 25 = .ok (.if_icmp .ge 41, 3) := by decide +kernel
theorem dX5_findBest_28 : decode cX5_findBest 28 = .ok (.lload_n 2, 1) := by decide +kernel
theorem dX5_findBest_29 : decode cX5_findBest 29 = .ok (.iload 4, 2) := by decide +kernel
theorem dX5_findBest_31 : decode cX5_findBest 31 = .ok (.lshr, 1) := by decide +kernel
theorem dX5_findBest_32 : decode cX5_findBest 32 = .ok (.lconst 1, 1) := by decide +kernel
theorem dX5_findBest_33 : decode cX5_findBest 33 = .ok (.land, 1) := by decide +kernel
theorem dX5_findBest_34 : decode cX5_findBest 34 = .ok (.lconst 0, 1) := by decide +kernel
theorem dX5_findBest_35 : decode cX5_findBest 35 = .ok (.lcmp, 1) := by decide +kernel
theorem dX5_findBest_36 : decode cX5_findBest 36 = .ok (.ifCond .eq 24, 3) := by decide +kernel
theorem dX5_findBest_39 : decode cX5_findBest 39 = .ok (.aload_n 0, 1) := by decide +kernel
theorem dX5_findBest_40 : decode cX5_findBest 40 = .ok (.getfield 17, 3) := by decide +kernel
theorem dX5_findBest_43 : decode cX5_findBest 43 = .ok (.aload_n 0, 1) := by decide +kernel
theorem dX5_findBest_44 : decode cX5_findBest 44 = .ok (.getfield 39, 3) := by decide +kernel
theorem dX5_findBest_47 : decode cX5_findBest 47 = .ok (.iload 4, 2) := by decide +kernel
theorem dX5_findBest_49 : decode cX5_findBest 49 = .ok (.iastore, 1) := by decide +kernel
theorem dX5_findBest_50 : decode cX5_findBest 50 = .ok (.aload_n 0, 1) := by decide +kernel
theorem dX5_findBest_51 : decode cX5_findBest 51 = .ok (.dup, 1) := by decide +kernel
theorem dX5_findBest_52 : decode cX5_findBest 52 = .ok (.getfield 39, 3) := by decide +kernel
theorem dX5_findBest_55 : decode cX5_findBest 55 = .ok (.iconst 1, 1) := by decide +kernel
theorem dX5_findBest_56 : decode cX5_findBest 56 = .ok (.iadd, 1) := by decide +kernel
theorem dX5_findBest_57 : decode cX5_findBest 57 = .ok (.putfield 39, 3) := by decide +kernel
theorem dX5_findBest_60 : decode cX5_findBest 60 = .ok (.iinc 4 1, 3) := by decide +kernel
theorem dX5_findBest_63 : decode cX5_findBest 63 = .ok (.goto (-50), 3) := by decide +kernel
theorem dX5_findBest_66 : decode cX5_findBest 66 = .ok (.aload_n 0, 1) := by decide +kernel
theorem dX5_findBest_67 : decode cX5_findBest 67 = .ok (.iconst 0, 1) := by decide +kernel
theorem dX5_findBest_68 : decode cX5_findBest 68 = .ok (.putfield 28, 3) := by decide +kernel
theorem dX5_findBest_71 : decode cX5_findBest 71 = .ok (.aload_n 0, 1) := by decide +kernel
theorem dX5_findBest_72 : decode cX5_findBest 72 = .ok (.iconst 0, 1) := by decide +kernel
theorem dX5_findBest_73 : decode cX5_findBest 73 = .ok (.invokevirtual 42, 3) := by decide +kernel
theorem dX5_findBest_76 : decode cX5_findBest 76 = .ok (.aload_n 0, 1) := by decide +kernel
theorem dX5_findBest_77 : decode cX5_findBest 77 = .ok (.getfield 28, 3) := by decide +kernel
theorem dX5_findBest_80 : decode cX5_findBest 80 = .ok (.ifCond .eq 7, 3) := by decide +kernel
theorem dX5_findBest_83 : decode cX5_findBest 83 = .ok (.iconst 1, 1) := by decide +kernel
theorem dX5_findBest_84 : decode cX5_findBest 84 = .ok (.goto 4, 3) := by decide +kernel
theorem dX5_findBest_87 : decode cX5_findBest 87 = .ok (.iconst 0, 1) := by decide +kernel
theorem dX5_findBest_88 : decode cX5_findBest 88 = .ok (.ireturn, 1) := by decide +kernel
theorem dX5_movesInPlainOrder_0 : decode cX5_movesInPlainOrder 0 = .ok (.aload_n 0, 1) := by decide +kernel
theorem dX5_movesInPlainOrder_1 : decode cX5_movesInPlainOrder 1 = .ok (.aload_n 1, 1) := by decide +kernel
theorem dX5_movesInPlainOrder_2 : decode cX5_movesInPlainOrder 2 = .ok (.invokevirtual 35, 3) := by decide +kernel
theorem dX5_movesInPlainOrder_5 : decode cX5_movesInPlainOrder 5 = .ok (.aload_n 0, 1) := by decide +kernel
theorem dX5_movesInPlainOrder_6 : decode cX5_movesInPlainOrder 6 = .ok (.aload_n 1, 1) := by decide +kernel
theorem dX5_movesInPlainOrder_7 : decode cX5_movesInPlainOrder 7 = .ok (.lload_n 2, 1) := by decide +kernel
theorem dX5_movesInPlainOrder_8 : decode cX5_movesInPlainOrder 8 = .ok (.aload_n 0, 1) := by decide +kernel
theorem dX5_movesInPlainOrder_9 : decode cX5_movesInPlainOrder 9 = .ok (.getfield 17, 3) := by decide +kernel
theorem dX5_movesInPlainOrder_12 : decode cX5_movesInPlainOrder 12 = .ok (.invokevirtual 46, 3) := by decide +kernel
theorem dX5_movesInPlainOrder_15 : decode cX5_movesInPlainOrder 15 = .ok (.putfield 39, 3) := by decide +kernel
theorem dX5_movesInPlainOrder_18 : decode cX5_movesInPlainOrder 18 = .ok (.iconst 0, 1) := by decide +kernel
theorem dX5_movesInPlainOrder_19 : decode cX5_movesInPlainOrder 19 = .ok (.istore 4, 2) := by decide +kernel
theorem dX5_movesInPlainOrder_21 : decode cX5_movesInPlainOrder 21 = .ok (.iload 4, 2) := by decide +kernel
theorem dX5_movesInPlainOrder_23 : decode cX5_movesInPlainOrder 23 = .ok (.aload_n 0, 1) := by decide +kernel
theorem dX5_movesInPlainOrder_24 : decode cX5_movesInPlainOrder 24 = .ok (.getfield 39, 3) := by decide +kernel
theorem dX5_movesInPlainOrder_27 : decode cX5_movesInPlainOrder 27 = .ok (.if_icmp .ge 30, 3) := by decide +kernel
theorem dX5_movesInPlainOrder_30 : decode cX5_movesInPlainOrder 30 = .ok (.aload_n 0, 1) := by decide +kernel
theorem dX5_movesInPlainOrder_31 : decode cX5_movesInPlainOrder 31 = .ok (.getfield 11, 3) := by decide +kernel
theorem dX5_movesInPlainOrder_34 : decode cX5_movesInPlainOrder 34 = .ok (.iconst 0, 1) := by decide +kernel
theorem dX5_movesInPlainOrder_35 : decode cX5_movesInPlainOrder 35 = .ok (.aaload, 1) := by decide +kernel
theorem dX5_movesInPlainOrder_36 : decode cX5_movesInPlainOrder 36 = .ok (.aload_n 0, 1) := by decide +kernel
theorem dX5_movesInPlainOrder_37 : decode cX5_movesInPlainOrder 37 = .ok (.getfield 17, 3) := by decide +kernel
theorem dX5_movesInPlainOrder_40 : decode cX5_movesInPlainOrder 40 = .ok (.iload 4, 2) := by decide +kernel
theorem dX5_movesInPlainOrder_42 : decode cX5_movesInPlainOrder 42 = .ok (.iaload, 1) := by decide +kernel
theorem dX5_movesInPlainOrder_43 : decode cX5_movesInPlainOrder 43 = .ok (.invokevirtual 50, 3) := by decide +kernel
theorem dX5_movesInPlainOrder_46 : decode cX5_movesInPlainOrder 46 = .ok (.ifCond .ne 5, 3) := by decide +kernel
theorem dX5_movesInPlainOrder_49 : decode cX5_movesInPlainOrder 49 = .ok (.iconst 0, 1) := by decide +kernel
theorem dX5_movesInPlainOrder_50 : decode cX5_movesInPlainOrder 50 = .ok (.ireturn, 1) := by decide +kernel
theorem dX5_movesInPlainOrder_51 : decode cX5_movesInPlainOrder 51 = .ok (.iinc 4 1, 3) := by decide +kernel
theorem dX5_movesInPlainOrder_54 : decode cX5_movesInPlainOrder 54 = .ok (.goto (-33), 3) := by decide +kernel
theorem dX5_movesInPlainOrder_57 : decode cX5_movesInPlainOrder 57 = .ok (.aload_n 0, 1) := by decide +kernel
theorem dX5_movesInPlainOrder_58 : decode cX5_movesInPlainOrder 58 = .ok (.iconst 0, 1) := by decide +kernel
theorem dX5_movesInPlainOrder_59 : decode cX5_movesInPlainOrder 59 = .ok (.invokevirtual 54, 3) := by decide +kernel
theorem dX5_movesInPlainOrder_62 : decode cX5_movesInPlainOrder 62 = .ok (.ireturn, 1) := by decide +kernel
theorem dX5_begin_0 : decode cX5_begin 0 = .ok (.aload_n 0, 1) := by decide +kernel
theorem dX5_begin_1 : decode cX5_begin 1 = .ok (.getfield 11, 3) := by decide +kernel
theorem dX5_begin_4 : decode cX5_begin 4 = .ok (.iconst 0, 1) := by decide +kernel
theorem dX5_begin_5 : decode cX5_begin 5 = .ok (.aaload, 1) := by decide +kernel
theorem dX5_begin_6 : decode cX5_begin 6 = .ok (.aload_n 1, 1) := by decide +kernel
theorem dX5_begin_7 : decode cX5_begin 7 = .ok (.invokevirtual 57, 3) := by decide +kernel
theorem dX5_begin_10 : decode cX5_begin 10 = .ok (.aload_n 0, 1) := by decide +kernel
theorem dX5_begin_11 : decode cX5_begin 11 = .ok (.aload_n 1, 1) := by decide +kernel
theorem dX5_begin_12 : decode cX5_begin 12 = .ok (.invokevirtual 60, 3) := by decide +kernel
theorem dX5_begin_15 : decode cX5_begin 15 = .ok (.invokevirtual 64, 3) := by decide +kernel
theorem dX5_begin_18 : decode cX5_begin 18 = .ok (.putfield 70, 3) := by decide +kernel
theorem dX5_begin_21 : decode cX5_begin 21 = .ok (.return_, 1) := by decide +kernel
theorem dX5_movesAt_0 : decode cX5_movesAt 0 = .ok (.aload_n 0, 1) := by decide +kernel
theorem dX5_movesAt_1 : decode cX5_movesAt 1 = .ok (.getfield 11, 3) := by decide +kernel
theorem dX5_movesAt_4 : decode cX5_movesAt 4 = .ok (.iload_n 1, 1) := by decide +kernel
theorem dX5_movesAt_5 : decode cX5_movesAt 5 = .ok (.aaload, 1) := by decide +kernel
theorem dX5_movesAt_6 : decode cX5_movesAt 6 = .ok (.invokevirtual 60, 3) := by decide +kernel
theorem dX5_movesAt_9 : decode cX5_movesAt 9 = .ok (.invokevirtual 64, 3) := by decide +kernel
theorem dX5_movesAt_12 : decode cX5_movesAt 12 = .ok (.aload_n 0, 1) := by decide +kernel
theorem dX5_movesAt_13 : decode cX5_movesAt 13 = .ok (.getfield 70, 3) := by decide +kernel
theorem dX5_movesAt_16 : decode cX5_movesAt 16 = .ok (.isub, 1) := by decide +kernel
theorem dX5_movesAt_17 : decode cX5_movesAt 17 = .ok (.ireturn, 1) := by decide +kernel
theorem dX5_tryFrom_0 : decode cX5_tryFrom 0 = .ok (.iload_n 1, 1) := by decide +kernel
theorem dX5_tryFrom_1 : decode cX5_tryFrom 1 = .ok (.aload_n 0, 1) := by decide +kernel
theorem dX5_tryFrom_2 : decode cX5_tryFrom 2 = .ok (.getfield 39, 3) := by decide +kernel
theorem dX5_tryFrom_5 : decode cX5_tryFrom 5 = .ok (.if_icmp .lt 22, 3) := by decide +kernel
theorem dX5_tryFrom_8 : decode cX5_tryFrom 8 = .ok (.aload_n 0, 1) := by decide +kernel
theorem dX5_tryFrom_9 : decode cX5_tryFrom 9 = .ok (.aload_n 0, 1) := by decide +kernel
theorem dX5_tryFrom_10 : decode cX5_tryFrom 10 = .ok (.iload_n 1, 1) := by decide +kernel
theorem dX5_tryFrom_11 : decode cX5_tryFrom 11 = .ok (.invokevirtual 54, 3) := by decide +kernel
theorem dX5_tryFrom_14 : decode cX5_tryFrom 14 = .ok (.aload_n 0, 1) := by decide +kernel
theorem dX5_tryFrom_15 : decode cX5_tryFrom 15 = .ok (.getfield 11, 3) := by decide +kernel
theorem dX5_tryFrom_18 : decode cX5_tryFrom 18 = .ok (.iload_n 1, 1) := by decide +kernel
theorem dX5_tryFrom_19 : decode cX5_tryFrom 19 = .ok (.aaload, 1) := by decide +kernel
theorem dX5_tryFrom_20 : decode cX5_tryFrom 20 = .ok (.invokevirtual 60, 3) := by decide +kernel
theorem dX5_tryFrom_23 : decode cX5_tryFrom 23 = .ok (.invokevirtual 73, 3) := by decide +kernel
theorem dX5_tryFrom_26 : decode cX5_tryFrom 26 = .ok (.return_, 1) := by decide +kernel
theorem dX5_tryFrom_27 : decode cX5_tryFrom 27 = .ok (.iconst 0, 1) := by decide +kernel
theorem dX5_tryFrom_28 : decode cX5_tryFrom 28 = .ok (.istore_n 2, 1) := by decide +kernel
theorem dX5_tryFrom_29 : decode cX5_tryFrom 29 = .ok (.iload_n 2, 1) := by decide +kernel
theorem dX5_tryFrom_30 : decode cX5_tryFrom 30 = .ok (.aload_n 0, 1) := by decide +kernel
theorem dX5_tryFrom_31 : decode cX5_tryFrom 31 = .ok (.getfield 39, 3) := by decide +kernel
theorem dX5_tryFrom_34 : decode cX5_tryFrom 34 = .ok (.if_icmp .ge 38, 3) := by decide +kernel
theorem dX5_tryFrom_37 : decode cX5_tryFrom 37 = .ok (.aload_n 0, 1) := by decide +kernel
theorem dX5_tryFrom_38 : decode cX5_tryFrom 38 = .ok (.getfield 11, 3) := by decide +kernel
theorem dX5_tryFrom_41 : decode cX5_tryFrom 41 = .ok (.iload_n 1, 1) := by decide +kernel
theorem dX5_tryFrom_42 : decode cX5_tryFrom 42 = .ok (.aaload, 1) := by decide +kernel
theorem dX5_tryFrom_43 : decode cX5_tryFrom 43 = .ok (.aload_n 0, 1) := by decide +kernel
theorem dX5_tryFrom_44 : decode cX5_tryFrom 44 = .ok (.getfield 17, 3) := by decide +kernel
theorem dX5_tryFrom_47 : decode cX5_tryFrom 47 = .ok (.iload_n 2, 1) := by decide +kernel
theorem dX5_tryFrom_48 : decode cX5_tryFrom 48 = .ok (.iaload, 1) := by decide +kernel
theorem dX5_tryFrom_49 : decode cX5_tryFrom 49 = .ok (.invokevirtual 77, 3) := by decide +kernel
theorem dX5_tryFrom_52 : decode cX5_tryFrom 52 = .ok (.ifCond .eq 14, 3) := by decide +kernel
theorem dX5_tryFrom_55 : decode cX5_tryFrom 55 = .ok (.aload_n 0, 1) := by decide +kernel
theorem dX5_tryFrom_56 : decode cX5_tryFrom 56 = .ok (.iload_n 1, 1) := by decide +kernel
theorem dX5_tryFrom_57 : decode cX5_tryFrom 57 = .ok (.aload_n 0, 1) := by decide +kernel
theorem dX5_tryFrom_58 : decode cX5_tryFrom 58 = .ok (.getfield 17, 3) := by decide +kernel
theorem dX5_tryFrom_61 : decode cX5_tryFrom 61 = .ok (.iload_n 2, 1) := by decide +kernel
theorem dX5_tryFrom_62 : decode cX5_tryFrom 62 = .ok (.iaload, 1) := by decide +kernel
theorem dX5_tryFrom_63 : decode cX5_tryFrom 63 = .ok (.invokevirtual 81, 3) := by decide +kernel
theorem dX5_tryFrom_66 : decode cX5_tryFrom 66 = .ok (.iinc 2 1, 3) := by decide +kernel
theorem dX5_tryFrom_69 : decode cX5_tryFrom 69 = .ok (.goto (-40), 3) := by decide +kernel
theorem dX5_tryFrom_72 : decode cX5_tryFrom 72 = .ok (.return_, 1) := by decide +kernel
theorem dX5_tryNext_0 : decode cX5_tryNext 0 = .ok (.aload_n 0, 1) := by decide +kernel
theorem dX5_tryNext_1 : decode cX5_tryNext 1 = .ok (.getfield 11, 3) := by decide +kernel
theorem dX5_tryNext_4 : decode cX5_tryNext 4 = .ok (.iload_n 1, 1) := by decide +kernel
theorem dX5_tryNext_5 : decode cX5_tryNext 5 = .ok (.iconst 1, 1) := by decide +kernel
theorem dX5_tryNext_6 : decode cX5_tryNext 6 = .ok (.iadd, 1) := by decide +kernel
theorem dX5_tryNext_7 : decode cX5_tryNext 7 = .ok (.aaload, 1) := by decide +kernel
theorem dX5_tryNext_8 : decode cX5_tryNext 8 = .ok (.aload_n 0, 1) := by decide +kernel
theorem dX5_tryNext_9 : decode cX5_tryNext 9 = .ok (.getfield 11, 3) := by decide +kernel
theorem dX5_tryNext_12 : decode cX5_tryNext 12 = .ok (.iload_n 1, 1) := by decide +kernel
theorem dX5_tryNext_13 : decode cX5_tryNext 13 = .ok (.aaload, 1) := by decide +kernel
theorem dX5_tryNext_14 : decode cX5_tryNext 14 = .ok (.invokevirtual 57, 3) := by decide +kernel
theorem dX5_tryNext_17 : decode cX5_tryNext 17 = .ok (.aload_n 0, 1) := by decide +kernel
theorem dX5_tryNext_18 : decode cX5_tryNext 18 = .ok (.getfield 11, 3) := by decide +kernel
theorem dX5_tryNext_21 : decode cX5_tryNext 21 = .ok (.iload_n 1, 1) := by decide +kernel
theorem dX5_tryNext_22 : decode cX5_tryNext 22 = .ok (.iconst 1, 1) := by decide +kernel
theorem dX5_tryNext_23 : decode cX5_tryNext 23 = .ok (.iadd, 1) := by decide +kernel
theorem dX5_tryNext_24 : decode cX5_tryNext 24 = .ok (.aaload, 1) := by decide +kernel
theorem dX5_tryNext_25 : decode cX5_tryNext 25 = .ok (.iload_n 2, 1) := by decide +kernel
theorem dX5_tryNext_26 : decode cX5_tryNext 26 = .ok (.invokevirtual 50, 3) := by decide +kernel
theorem dX5_tryNext_29 : decode cX5_tryNext 29 = .ok (.ifCond .eq 13, 3) := by decide +kernel
theorem dX5_tryNext_32 : decode cX5_tryNext 32 = .ok (.aload_n 0, 1) := by decide +kernel
theorem dX5_tryNext_33 : decode cX5_tryNext 33 = .ok (.iload_n 1, 1) := by decide +kernel
theorem dX5_tryNext_34 : decode cX5_tryNext 34 = .ok (.iconst 1, 1) := by decide +kernel
theorem dX5_tryNext_35 : decode cX5_tryNext 35 = .ok (.iadd, 1) := by decide +kernel
theorem dX5_tryNext_36 : decode cX5_tryNext 36 = .ok (.invokevirtual 85, 3) := by decide +kernel
theorem dX5_tryNext_39 : decode cX5_tryNext 39 = .ok (.ifCond .eq 4, 3) := by decide +kernel
theorem dX5_tryNext_42 : decode cX5_tryNext 42 = .ok (.return_, 1) := by decide +kernel
theorem dX5_tryNext_43 : decode cX5_tryNext 43 = .ok (.aload_n 0, 1) := by decide +kernel
theorem dX5_tryNext_44 : decode cX5_tryNext 44 = .ok (.getfield 21, 3) := by decide +kernel
theorem dX5_tryNext_47 : decode cX5_tryNext 47 = .ok (.iload_n 1, 1) := by decide +kernel
theorem dX5_tryNext_48 : decode cX5_tryNext 48 = .ok (.iload_n 2, 1) := by decide +kernel
theorem dX5_tryNext_49 : decode cX5_tryNext 49 = .ok (.iastore, 1) := by decide +kernel
theorem dX5_tryNext_50 : decode cX5_tryNext 50 = .ok (.aload_n 0, 1) := by decide +kernel
theorem dX5_tryNext_51 : decode cX5_tryNext 51 = .ok (.iload_n 1, 1) := by decide +kernel
theorem dX5_tryNext_52 : decode cX5_tryNext 52 = .ok (.iconst 1, 1) := by decide +kernel
theorem dX5_tryNext_53 : decode cX5_tryNext 53 = .ok (.iadd, 1) := by decide +kernel
theorem dX5_tryNext_54 : decode cX5_tryNext 54 = .ok (.invokevirtual 42, 3) := by decide +kernel
theorem dX5_tryNext_57 : decode cX5_tryNext 57 = .ok (.return_, 1) := by decide +kernel
theorem dX5_isTooLong_0 : decode cX5_isTooLong 0 = .ok (.aload_n 0, 1) := by decide +kernel
theorem dX5_isTooLong_1 : decode cX5_isTooLong 1 = .ok (.getfield 28, 3) := by decide +kernel
theorem dX5_isTooLong_4 : decode cX5_isTooLong 4 = .ok (.ifCond .eq 26, 3) := by decide +kernel
theorem dX5_isTooLong_7 : decode cX5_isTooLong 7 = .ok (.aload_n 0, 1) := by decide +kernel
theorem dX5_isTooLong_8 : decode cX5_isTooLong 8 = .ok (.iload_n 1, 1) := by decide +kernel
theorem dX5_isTooLong_9 : decode cX5_isTooLong 9 = .ok (.invokevirtual 54, 3) := by decide +kernel
theorem dX5_isTooLong_12 : decode cX5_isTooLong 12 = .ok (.aload_n 0, 1) := by decide +kernel
theorem dX5_isTooLong_13 : decode cX5_isTooLong 13 = .ok (.getfield 39, 3) := by decide +kernel
theorem dX5_isTooLong_16 : decode cX5_isTooLong 16 = .ok (.iadd, 1) := by decide +kernel
theorem dX5_isTooLong_17 : decode cX5_isTooLong 17 = .ok (.iload_n 1, 1) := by decide +kernel
theorem dX5_isTooLong_18 : decode cX5_isTooLong 18 = .ok (.isub, 1) := by decide +kernel
theorem dX5_isTooLong_19 : decode cX5_isTooLong 19 = .ok (.aload_n 0, 1) := by decide +kernel
theorem dX5_isTooLong_20 : decode cX5_isTooLong 20 = .ok (.getfield 28, 3) := by decide +kernel
theorem dX5_isTooLong_23 : decode cX5_isTooLong 23 = .ok (.if_icmp .le 7, 3) := by decide +kernel
theorem dX5_isTooLong_26 : decode cX5_isTooLong 26 = .ok (.iconst 1, 1) := by decide +kernel
theorem dX5_isTooLong_27 : decode cX5_isTooLong 27 = .ok (.goto 4, 3) := by decide +kernel
theorem dX5_isTooLong_30 : decode cX5_isTooLong 30 = .ok (.iconst 0, 1) := by decide +kernel
theorem dX5_isTooLong_31 : decode cX5_isTooLong 31 = .ok (.ireturn, 1) := by decide +kernel
theorem dX5_judge_0 : decode cX5_judge 0 = .ok (.aload_n 2, 1) := by decide +kernel
theorem dX5_judge_1 : decode cX5_judge 1 = .ok (.iload_n 1, 1) := by decide +kernel
theorem dX5_judge_2 : decode cX5_judge 2 = .ok (.invokevirtual 88, 3) := by decide +kernel
theorem dX5_judge_5 : decode cX5_judge 5 = .ok (.istore_n 3, 1) := by decide +kernel
theorem dX5_judge_6 : decode cX5_judge 6 = .ok (.aload_n 0, 1) := by decide +kernel
theorem dX5_judge_7 : decode cX5_judge 7 = .ok (.getfield 28, 3) := by decide +kernel
theorem dX5_judge_10 : decode cX5_judge 10 = .ok (.ifCond .eq 28, 3) := by decide +kernel
theorem dX5_judge_13 : decode cX5_judge 13 = .ok (.iload_n 1, 1) := by decide +kernel
theorem dX5_judge_14 : decode cX5_judge 14 = .ok (.aload_n 0, 1) := by decide +kernel
theorem dX5_judge_15 : decode cX5_judge 15 = .ok (.getfield 28, 3) := by decide +kernel
theorem dX5_judge_18 : decode cX5_judge 18 = .ok (.if_icmp .gt 19, 3) := by decide +kernel
theorem dX5_judge_21 : decode cX5_judge 21 = .ok (.iload_n 1, 1) := by decide +kernel
theorem dX5_judge_22 : decode cX5_judge 22 = .ok (.aload_n 0, 1) := by decide +kernel
theorem dX5_judge_23 : decode cX5_judge 23 = .ok (.getfield 28, 3) := by decide +kernel
theorem dX5_judge_26 : decode cX5_judge 26 = .ok (.if_icmp .ne 12, 3) := by decide +kernel
theorem dX5_judge_29 : decode cX5_judge 29 = .ok (.iload_n 3, 1) := by decide +kernel
theorem dX5_judge_30 : decode cX5_judge 30 = .ok (.aload_n 0, 1) := by decide +kernel
theorem dX5_judge_31 : decode cX5_judge 31 = .ok (.getfield 32, 3) := by decide +kernel
theorem dX5_judge_34 : decode cX5_judge 34 = .ok (.if_icmp .lt 4, 3) := by decide +kernel
theorem dX5_judge_37 : decode cX5_judge 37 = .ok (.return_, 1) := by decide +kernel
theorem dX5_judge_38 : decode cX5_judge 38 = .ok (.aload_n 0, 1) := by decide +kernel
theorem dX5_judge_39 : decode cX5_judge 39 = .ok (.iload_n 1, 1) := by decide +kernel
theorem dX5_judge_40 : decode cX5_judge 40 = .ok (.putfield 28, 3) := by decide +kernel
theorem dX5_judge_43 : decode cX5_judge 43 = .ok (.aload_n 0, 1) := by decide +kernel
theorem dX5_judge_44 : decode cX5_judge 44 = .ok (.iload_n 3, 1) := by decide +kernel
theorem dX5_judge_45 : decode cX5_judge 45 = .ok (.putfield 32, 3) := by decide +kernel
theorem dX5_judge_48 : decode cX5_judge 48 = .ok (.aload_n 0, 1) := by decide +kernel
theorem dX5_judge_49 : decode cX5_judge 49 = .ok (.getfield 21, 3) := by decide +kernel
theorem dX5_judge_52 : decode cX5_judge 52 = .ok (.iconst 0, 1) := by decide +kernel
theorem dX5_judge_53 : decode cX5_judge 53 = .ok (.aload_n 0, 1) := by decide +kernel
theorem dX5_judge_54 : decode cX5_judge 54 = .ok (.getfield 24, 3) := by decide +kernel
theorem dX5_judge_57 : decode cX5_judge 57 = .ok (.iconst 0, 1) := by decide +kernel
theorem dX5_judge_58 : decode cX5_judge 58 = .ok (.aload_n 0, 1) := by decide +kernel
theorem dX5_judge_59 : decode cX5_judge 59 = .ok (.getfield 39, 3) := by decide +kernel
theorem dX5_judge_62 : decode cX5_judge 62 = .ok (.invokestatic 91, 3) := by decide +kernel
theorem dX5_judge_65 : decode cX5_judge 65 = .ok (.return_, 1) := by decide +kernel
theorem dX6_init_0 : decode cX6_init 0 = .ok (.aload_n 0, 1) := by decide +kernel
theorem dX6_init_1 : decode cX6_init 1 = .ok (.invokespecial 3, 3) := by decide +kernel
theorem dX6_init_4 : decode cX6_init 4 = .ok (.aload_n 0, 1) := by decide +kernel
theorem dX6_init_5 : decode cX6_init 5 = .ok (.iconst 4, 1) := by decide +kernel
theorem dX6_init_6 : decode cX6_init 6 = .ok (.anewarray 9, 3) := by decide +kernel
theorem dX6_init_9 : decode cX6_init 9 = .ok (.putfield 11, 3) := by decide +kernel
theorem dX6_init_12 : decode cX6_init 12 = .ok (.aload_n 0, 1) := by decide +kernel
theorem dX6_init_13 : decode cX6_init 13 = .ok (.new 9, 3) := by decide +kernel
theorem dX6_init_16 : decode cX6_init 16 = .ok (.dup, 1) := by decide +kernel
theorem dX6_init_17 : decode cX6_init 17 = .ok (.iconst 3, 1) := by decide +kernel
theorem dX6_init_18 : decode cX6_init 18 = .ok (.invokespecial 17, 3) := by decide +kernel
theorem dX6_init_21 : decode cX6_init 21 = .ok (.putfield 20, 3) := by decide +kernel
theorem dX6_init_24 : decode cX6_init 24 = .ok (.aload_n 0, 1) := by decide +kernel
theorem dX6_init_25 : decode cX6_init 25 = .ok (.new 24, 3) := by decide +kernel
theorem dX6_init_28 : decode cX6_init 28 = .ok (.dup, 1) := by decide +kernel
theorem dX6_init_29 : decode cX6_init 29 = .ok (.invokespecial 26, 3) := by decide +kernel
theorem dX6_init_32 : decode cX6_init 32 = .ok (.putfield 27, 3) := by decide +kernel
theorem dX6_init_35 : decode cX6_init 35 = .ok (.iconst 0, 1) := by decide +kernel
theorem dX6_init_36 : decode cX6_init 36 = .ok (.istore_n 1, 1) := by decide +kernel
theorem dX6_init_37 : decode cX6_init 37 = .ok (.iload_n 1, 1) := by decide +kernel
theorem dX6_init_38 : decode cX6_init 38 = .ok (.iconst 3, 1) := by decide +kernel
theorem dX6_init_39 : decode cX6_init 39 = .ok (.if_icmp .ge 23, 3) := by decide +kernel
theorem dX6_init_42 : decode cX6_init 42 = .ok (.aload_n 0, 1) := by decide +kernel
theorem dX6_init_43 : decode cX6_init 43 = .ok (.getfield 11, 3) := by decide +kernel
theorem dX6_init_46 : decode cX6_init 46 = .ok (.iload_n 1, 1) := by decide +kernel
theorem dX6_init_47 : decode cX6_init 47 = .ok (.new 9, 3) := by decide +kernel
theorem dX6_init_50 : decode cX6_init 50 = .ok (.dup, 1) := by decide +kernel
theorem dX6_init_51 : decode cX6_init 51 = .ok (.iconst 1, 1) := by decide +kernel
theorem dX6_init_52 : decode cX6_init 52 = .ok (.invokespecial 17, 3) := by decide +kernel
theorem dX6_init_55 : decode cX6_init 55 = .ok (.aastore, 1) := by decide +kernel
theorem dX6_init_56 : decode cX6_init 56 = .ok (.iinc 1 1, 3) := by decide +kernel
theorem dX6_init_59 : decode cX6_init 59 = .ok (.goto (-22), 3) := by decide +kernel
theorem dX6_init_62 : decode cX6_init 62 = .ok (.aload_n 0, 1) := by decide +kernel
theorem dX6_init_63 : decode cX6_init 63 = .ok (.getfield 11, 3) := by decide +kernel
theorem dX6_init_66 : decode cX6_init 66 = .ok (.iconst 3, 1) := by decide +kernel
theorem dX6_init_67 : decode cX6_init 67 = .ok (.aload_n 0, 1) := by decide +kernel
theorem dX6_init_68 : decode cX6_init 68 = .ok (.getfield 20, 3) := by decide +kernel
theorem dX6_init_71 : decode cX6_init 71 = .ok (.aastore, 1) := by decide +kernel
theorem dX6_init_72 : decode cX6_init 72 = .ok (.return_, 1) := by decide +kernel
theorem dX6_copyFrom_0 : decode cX6_copyFrom 0 = .ok (.iconst 0, 1) := by decide +kernel
theorem dX6_copyFrom_1 : decode cX6_copyFrom 1 = .ok (.istore_n 2, 1) := by decide +kernel
theorem dX6_copyFrom_2 : decode cX6_copyFrom 2 = .ok (.iload_n 2, 1) := by decide +kernel
theorem dX6_copyFrom_3 : decode cX6_copyFrom 3 = .ok (.iconst 4, 1) := by decide +kernel
theorem dX6_copyFrom_4 : decode cX6_copyFrom 4 = .ok (.if_icmp .ge 24, 3) := by decide +kernel
theorem dX6_copyFrom_7 : decode cX6_copyFrom 7 = .ok (.aload_n 0, 1) := by decide +kernel
theorem dX6_copyFrom_8 : decode cX6_copyFrom 8 = .ok (.getfield 11, 3) := by decide +kernel
theorem dX6_copyFrom_11 : decode cX6_copyFrom 11 = .ok (.iload_n 2, 1) := by decide +kernel
theorem dX6_copyFrom_12 : decode cX6_copyFrom 12 = .ok (.aaload, 1) := by decide +kernel
theorem dX6_copyFrom_13 : decode cX6_copyFrom 13 = .ok (.aload_n 1, 1) := by decide +kernel
theorem dX6_copyFrom_14 : decode cX6_copyFrom 14 = .ok (.getfield 11, 3) := by decide +kernel
theorem dX6_copyFrom_17 : decode cX6_copyFrom 17 = .ok (.iload_n 2, 1) := by decide +kernel
theorem dX6_copyFrom_18 : decode cX6_copyFrom 18 = .ok (.aaload, 1) := by decide +kernel
theorem dX6_copyFrom_19 : decode cX6_copyFrom 19 = .ok (.invokevirtual 31, 3) := by decide +kernel
theorem dX6_copyFrom_22 : decode cX6_copyFrom 22 = .ok (.iinc 2 1, 3) := by decide +kernel
theorem dX6_copyFrom_25 : decode cX6_copyFrom 25 = .ok (.goto (-23), 3) := by decide +kernel
theorem dX6_copyFrom_28 : decode cX6_copyFrom 28 = .ok (.aload_n 0, 1) := by decide +kernel
theorem dX6_copyFrom_29 : decode cX6_copyFrom 29 = .ok (.getfield 27, 3) := by decide +kernel
theorem dX6_copyFrom_32 : decode cX6_copyFrom 32 = .ok (.aload_n 1, 1) := by decide +kernel
theorem dX6_copyFrom_33 : decode cX6_copyFrom 33 = .ok (.getfield 27, 3) := by decide +kernel
theorem dX6_copyFrom_36 : decode cX6_copyFrom 36 = .ok (.invokevirtual 35, 3) := by decide +kernel
theorem dX6_copyFrom_39 : decode cX6_copyFrom 39 = .ok (.aload_n 0, 1) := by decide +kernel
theorem dX6_copyFrom_40 : decode cX6_copyFrom 40 = .ok (.aload_n 1, 1) := by decide +kernel
theorem dX6_copyFrom_41 : decode cX6_copyFrom 41 = .ok (.getfield 38, 3) := by decide +kernel
theorem dX6_copyFrom_44 : decode cX6_copyFrom 44 = .ok (.putfield 38, 3) := by decide +kernel
theorem dX6_copyFrom_47 : decode cX6_copyFrom 47 = .ok (.return_, 1) := by decide +kernel
theorem dX6_workAt_0 : decode cX6_workAt 0 = .ok (.iconst 2, 1) := by decide +kernel
theorem dX6_workAt_1 : decode cX6_workAt 1 = .ok (.iload_n 0, 1) := by decide +kernel
theorem dX6_workAt_2 : decode cX6_workAt 2 = .ok (.invokestatic 42, 3) := by decide +kernel
theorem dX6_workAt_5 : decode cX6_workAt 5 = .ok (.iadd, 1) := by decide +kernel
theorem dX6_workAt_6 : decode cX6_workAt 6 = .ok (.ireturn, 1) := by decide +kernel
theorem dX6_bringIn_0 : decode cX6_bringIn 0 = .ok (.aload_n 0, 1) := by decide +kernel
theorem dX6_bringIn_1 : decode cX6_bringIn 1 = .ok (.getfield 11, 3) := by decide +kernel
theorem dX6_bringIn_4 : decode cX6_bringIn 4 = .ok (.iload_n 2, 1) := by decide +kernel
theorem dX6_bringIn_5 : decode cX6_bringIn 5 = .ok (.invokestatic 46, 3) := by decide +kernel
theorem dX6_bringIn_8 : decode cX6_bringIn 8 = .ok (.aaload, 1) := by decide +kernel
theorem dX6_bringIn_9 : decode cX6_bringIn 9 = .ok (.astore_n 3, 1) := by decide +kernel
theorem dX6_bringIn_10 : decode cX6_bringIn 10 = .ok (.aload_n 0, 1) := by decide +kernel
theorem dX6_bringIn_11 : decode cX6_bringIn 11 = .ok (.getfield 20, 3) := by decide +kernel
theorem dX6_bringIn_14 : decode cX6_bringIn 14 = .ok (.aload_n 0, 1) := by decide +kernel
theorem dX6_bringIn_15 : decode cX6_bringIn 15 = .ok (.getfield 38, 3) := by decide +kernel
theorem dX6_bringIn_18 : decode cX6_bringIn 18 = .ok (.invokevirtual 49, 3) := by decide +kernel
theorem dX6_bringIn_21 : decode cX6_bringIn 21 = .ok (.aload_n 3, 1) := by decide +kernel
theorem dX6_bringIn_22 : decode cX6_bringIn 22 = .ok (.aload_n 0, 1) := by decide +kernel
theorem dX6_bringIn_23 : decode cX6_bringIn 23 = .ok (.getfield 38, 3) := by decide +kernel
theorem dX6_bringIn_26 : decode cX6_bringIn 26 = .ok (.invokevirtual 49, 3) := by decide +kernel
theorem dX6_bringIn_29 : decode cX6_bringIn 29 = .ok (.invokestatic 52, 3) := by decide +kernel
theorem dX6_bringIn_32 : decode cX6_bringIn 32 = .ok (.istore 4, 2) := by decide +kernel
theorem dX6_bringIn_34 : decode cX6_bringIn 34 = .ok (.aload_n 0, 1) := by decide +kernel
theorem dX6_bringIn_35 : decode cX6_bringIn 35 = .ok (.getfield 20, 3) := by decide +kernel
theorem dX6_bringIn_38 : decode cX6_bringIn 38 = .ok (.iconst 0, 1) := by decide +kernel
theorem dX6_bringIn_39 : decode cX6_bringIn 39 = .ok (.invokevirtual 58, 3) := by decide +kernel
theorem dX6_bringIn_42 : decode cX6_bringIn 42 = .ok (.aload_n 0, 1) := by decide +kernel
theorem dX6_bringIn_43 : decode cX6_bringIn 43 = .ok (.getfield 20, 3) := by decide +kernel
theorem dX6_bringIn_46 : decode cX6_bringIn 46 = .ok (.iconst 2, 1) := by decide +kernel
theorem dX6_bringIn_47 : decode cX6_bringIn 47 = .ok (.invokevirtual 61, 3) := by decide +kernel
theorem dX6_bringIn_50 : decode cX6_bringIn 50 = .ok (.aload_n 0, 1) := by decide +kernel
theorem dX6_bringIn_51 : decode cX6_bringIn 51 = .ok (.getfield 20, 3) := by decide +kernel
theorem dX6_bringIn_54 : decode cX6_bringIn 54 = .ok (.iload_n 2, 1) := by decide +kernel
theorem dX6_bringIn_55 : decode cX6_bringIn 55 = .ok (.invokestatic 46, 3) := by decide +kernel
theorem dX6_bringIn_58 : decode cX6_bringIn 58 = .ok (.invokevirtual 58, 3) := by decide +kernel
theorem dX6_bringIn_61 : decode cX6_bringIn 61 = .ok (.aload_n 3, 1) := by decide +kernel
theorem dX6_bringIn_62 : decode cX6_bringIn 62 = .ok (.iconst 0, 1) := by decide +kernel
theorem dX6_bringIn_63 : decode cX6_bringIn 63 = .ok (.invokevirtual 58, 3) := by decide +kernel
theorem dX6_bringIn_66 : decode cX6_bringIn 66 = .ok (.aload_n 0, 1) := by decide +kernel
theorem dX6_bringIn_67 : decode cX6_bringIn 67 = .ok (.getfield 20, 3) := by decide +kernel
theorem dX6_bringIn_70 : decode cX6_bringIn 70 = .ok (.aload_n 3, 1) := by decide +kernel
theorem dX6_bringIn_71 : decode cX6_bringIn 71 = .ok (.invokevirtual 64, 3) := by decide +kernel
theorem dX6_bringIn_74 : decode cX6_bringIn 74 = .ok (.aload_n 3, 1) := by decide +kernel
theorem dX6_bringIn_75 : decode cX6_bringIn 75 = .ok (.iload_n 2, 1) := by decide +kernel
theorem dX6_bringIn_76 : decode cX6_bringIn 76 = .ok (.invokestatic 67, 3) := by decide +kernel
theorem dX6_bringIn_79 : decode cX6_bringIn 79 = .ok (.invokevirtual 58, 3) := by decide +kernel
theorem dX6_bringIn_82 : decode cX6_bringIn 82 = .ok (.aload_n 3, 1) := by decide +kernel
theorem dX6_bringIn_83 : decode cX6_bringIn 83 = .ok (.iload_n 2, 1) := by decide +kernel
theorem dX6_bringIn_84 : decode cX6_bringIn 84 = .ok (.invokestatic 70, 3) := by decide +kernel
theorem dX6_bringIn_87 : decode cX6_bringIn 87 = .ok (.invokevirtual 61, 3) := by decide +kernel
theorem dX6_bringIn_90 : decode cX6_bringIn 90 = .ok (.aload_n 0, 1) := by decide +kernel
theorem dX6_bringIn_91 : decode cX6_bringIn 91 = .ok (.getfield 20, 3) := by decide +kernel
theorem dX6_bringIn_94 : decode cX6_bringIn 94 = .ok (.invokevirtual 73, 3) := by decide +kernel
theorem dX6_bringIn_97 : decode cX6_bringIn 97 = .ok (.aload_n 3, 1) := by decide +kernel
theorem dX6_bringIn_98 : decode cX6_bringIn 98 = .ok (.invokevirtual 73, 3) := by decide +kernel
theorem dX6_bringIn_101 : decode cX6_bringIn 101 = .ok (.invokestatic 77, 3) := by decide +kernel
theorem dX6_bringIn_104 : decode cX6_bringIn 104 = .ok (.istore 5, 2) := by decide +kernel
theorem dX6_bringIn_106 : decode cX6_bringIn 106 = .ok (.aload_n 0, 1) := by decide +kernel
theorem dX6_bringIn_107 : decode cX6_bringIn 107 = .ok (.getfield 27, 3) := by decide +kernel
theorem dX6_bringIn_110 : decode cX6_bringIn 110 = .ok (.iload_n 1, 1) := by decide +kernel
theorem dX6_bringIn_111 : decode cX6_bringIn 111 = .ok (.iconst (-1), 1) := by decide +kernel
theorem dX6_bringIn_112 : decode cX6_bringIn 112 = .ok (.iload_n 2, 1) := by decide +kernel
theorem dX6_bringIn_113 : decode cX6_bringIn 113 = .ok (.iload 4, 2) := by decide +kernel
theorem dX6_bringIn_115 : decode cX6_bringIn 115 = .ok (.iload 5, 2) := by decide +kernel
theorem dX6_bringIn_117 : decode cX6_bringIn 117 = .ok (.invokevirtual 80, 3) := by decide +kernel
theorem dX6_bringIn_120 : decode cX6_bringIn 120 = .ok (.return_, 1) := by decide +kernel
theorem dX6_bringOut_0 : decode cX6_bringOut 0 = .ok (.aload_n 0, 1) := by decide +kernel
theorem dX6_bringOut_1 : decode cX6_bringOut 1 = .ok (.getfield 11, 3) := by decide +kernel
theorem dX6_bringOut_4 : decode cX6_bringOut 4 = .ok (.iload_n 2, 1) := by decide +kernel
theorem dX6_bringOut_5 : decode cX6_bringOut 5 = .ok (.invokestatic 46, 3) := by decide +kernel
theorem dX6_bringOut_8 : decode cX6_bringOut 8 = .ok (.aaload, 1) := by decide +kernel
theorem dX6_bringOut_9 : decode cX6_bringOut 9 = .ok (.astore_n 3, 1) := by decide +kernel
theorem dX6_bringOut_10 : decode cX6_bringOut 10 = .ok (.aload_n 0, 1) := by decide +kernel
theorem dX6_bringOut_11 : decode cX6_bringOut 11 = .ok (.getfield 20, 3) := by decide +kernel
theorem dX6_bringOut_14 : decode cX6_bringOut 14 = .ok (.aload_n 0, 1) := by decide +kernel
theorem dX6_bringOut_15 : decode cX6_bringOut 15 = .ok (.getfield 38, 3) := by decide +kernel
theorem dX6_bringOut_18 : decode cX6_bringOut 18 = .ok (.invokevirtual 49, 3) := by decide +kernel
theorem dX6_bringOut_21 : decode cX6_bringOut 21 = .ok (.aload_n 3, 1) := by decide +kernel
theorem dX6_bringOut_22 : decode cX6_bringOut 22 = .ok (.aload_n 0, 1) := by decide +kernel
theorem dX6_bringOut_23 : decode cX6_bringOut 23 = .ok (.getfield 38, 3) := by decide +kernel
theorem dX6_bringOut_26 : decode cX6_bringOut 26 = .ok (.invokevirtual 49, 3) := by decide +kernel
theorem dX6_bringOut_29 : decode cX6_bringOut 29 = .ok (.invokestatic 52, 3) := by decide +kernel
theorem dX6_bringOut_32 : decode cX6_bringOut 32 = .ok (.istore 4, 2) := by decide +kernel
theorem dX6_bringOut_34 : decode cX6_bringOut 34 = .ok (.aload_n 3, 1) := by decide +kernel
theorem dX6_bringOut_35 : decode cX6_bringOut 35 = .ok (.iload_n 2, 1) := by decide +kernel
theorem dX6_bringOut_36 : decode cX6_bringOut 36 = .ok (.invokestatic 67, 3) := by decide +kernel
theorem dX6_bringOut_39 : decode cX6_bringOut 39 = .ok (.invokevirtual 58, 3) := by decide +kernel
theorem dX6_bringOut_42 : decode cX6_bringOut 42 = .ok (.aload_n 3, 1) := by decide +kernel
theorem dX6_bringOut_43 : decode cX6_bringOut 43 = .ok (.iload_n 2, 1) := by decide +kernel
theorem dX6_bringOut_44 : decode cX6_bringOut 44 = .ok (.invokestatic 70, 3) := by decide +kernel
theorem dX6_bringOut_47 : decode cX6_bringOut 47 = .ok (.invokevirtual 61, 3) := by decide +kernel
theorem dX6_bringOut_50 : decode cX6_bringOut 50 = .ok (.aload_n 3, 1) := by decide +kernel
theorem dX6_bringOut_51 : decode cX6_bringOut 51 = .ok (.iconst 0, 1) := by decide +kernel
theorem dX6_bringOut_52 : decode cX6_bringOut 52 = .ok (.invokevirtual 58, 3) := by decide +kernel
theorem dX6_bringOut_55 : decode cX6_bringOut 55 = .ok (.aload_n 0, 1) := by decide +kernel
theorem dX6_bringOut_56 : decode cX6_bringOut 56 = .ok (.getfield 20, 3) := by decide +kernel
theorem dX6_bringOut_59 : decode cX6_bringOut 59 = .ok (.iload_n 2, 1) := by decide +kernel
theorem dX6_bringOut_60 : decode cX6_bringOut 60 = .ok (.invokestatic 46, 3) := by decide +kernel
theorem dX6_bringOut_63 : decode cX6_bringOut 63 = .ok (.invokevirtual 58, 3) := by decide +kernel
theorem dX6_bringOut_66 : decode cX6_bringOut 66 = .ok (.aload_n 3, 1) := by decide +kernel
theorem dX6_bringOut_67 : decode cX6_bringOut 67 = .ok (.aload_n 0, 1) := by decide +kernel
theorem dX6_bringOut_68 : decode cX6_bringOut 68 = .ok (.getfield 20, 3) := by decide +kernel
theorem dX6_bringOut_71 : decode cX6_bringOut 71 = .ok (.invokevirtual 64, 3) := by decide +kernel
theorem dX6_bringOut_74 : decode cX6_bringOut 74 = .ok (.aload_n 0, 1) := by decide +kernel
theorem dX6_bringOut_75 : decode cX6_bringOut 75 = .ok (.getfield 20, 3) := by decide +kernel
theorem dX6_bringOut_78 : decode cX6_bringOut 78 = .ok (.iconst 0, 1) := by decide +kernel
theorem dX6_bringOut_79 : decode cX6_bringOut 79 = .ok (.invokevirtual 58, 3) := by decide +kernel
theorem dX6_bringOut_82 : decode cX6_bringOut 82 = .ok (.aload_n 0, 1) := by decide +kernel
theorem dX6_bringOut_83 : decode cX6_bringOut 83 = .ok (.getfield 20, 3) := by decide +kernel
theorem dX6_bringOut_86 : decode cX6_bringOut 86 = .ok (.iconst 2, 1) := by decide +kernel
theorem dX6_bringOut_87 : decode cX6_bringOut 87 = .ok (.invokevirtual 61, 3) := by decide +kernel
theorem dX6_bringOut_90 : decode cX6_bringOut 90 = .ok (.aload_n 0, 1) := by decide +kernel
theorem dX6_bringOut_91 : decode cX6_bringOut 91 = .ok (.getfield 20, 3) := by decide +kernel
theorem dX6_bringOut_94 : decode cX6_bringOut 94 = .ok (.invokevirtual 73, 3) := by decide +kernel
theorem dX6_bringOut_97 : decode cX6_bringOut 97 = .ok (.aload_n 3, 1) := by decide +kernel
theorem dX6_bringOut_98 : decode cX6_bringOut 98 = .ok (.invokevirtual 73, 3) := by decide +kernel
theorem dX6_bringOut_101 : decode cX6_bringOut 101 = .ok (.invokestatic 77, 3) := by decide +kernel
theorem dX6_bringOut_104 : decode cX6_bringOut 104 = .ok (.istore 5, 2) := by decide +kernel
theorem dX6_bringOut_106 : decode cX6_bringOut 106 = .ok (.aload_n 0, 1) := by decide +kernel
theorem dX6_bringOut_107 : decode cX6_bringOut 107 = .ok (.getfield 27, 3) := by decide +kernel
theorem dX6_bringOut_110 : decode cX6_bringOut 110 = .ok (.iload_n 1, 1) := by decide +kernel
theorem dX6_bringOut_111 : decode cX6_bringOut 111 = .ok (.iload_n 2, 1) := by decide +kernel
theorem dX6_bringOut_112 : decode cX6_bringOut 112 = .ok (.iconst (-1), 1) := by decide +kernel
theorem dX6_bringOut_113 : decode cX6_bringOut 113 = .ok (.iload 4, 2) := by decide +kernel
theorem dX6_bringOut_115 : decode cX6_bringOut 115 = .ok (.iload 5, 2) := by decide +kernel
theorem dX6_bringOut_117 : decode cX6_bringOut 117 = .ok (.invokevirtual 80, 3) := by decide +kernel
theorem dX6_bringOut_120 : decode cX6_bringOut 120 = .ok (.return_, 1) := by decide +kernel
theorem dX6_moveOnLevel_0 : decode cX6_moveOnLevel 0 = .ok (.aload_n 0, 1) := by decide +kernel
theorem dX6_moveOnLevel_1 : decode cX6_moveOnLevel 1 = .ok (.getfield 11, 3) := by decide +kernel
theorem dX6_moveOnLevel_4 : decode cX6_moveOnLevel 4 = .ok (.iload_n 2, 1) := by decide +kernel
theorem dX6_moveOnLevel_5 : decode cX6_moveOnLevel 5 = .ok (.invokestatic 46, 3) := by decide +kernel
theorem dX6_moveOnLevel_8 : decode cX6_moveOnLevel 8 = .ok (.aaload, 1) := by decide +kernel
theorem dX6_moveOnLevel_9 : decode cX6_moveOnLevel 9 = .ok (.astore 4, 2) := by decide +kernel
theorem dX6_moveOnLevel_11 : decode cX6_moveOnLevel 11 = .ok (.aload 4, 2) := by decide +kernel
theorem dX6_moveOnLevel_13 : decode cX6_moveOnLevel 13 = .ok (.aload_n 0, 1) := by decide +kernel
theorem dX6_moveOnLevel_14 : decode cX6_moveOnLevel 14 = .ok (.getfield 38, 3) := by decide +kernel
theorem dX6_moveOnLevel_17 : decode cX6_moveOnLevel 17 = .ok (.invokevirtual 49, 3) := by decide +kernel
theorem dX6_moveOnLevel_20 : decode cX6_moveOnLevel 20 = .ok (.istore 5, 2) := by decide +kernel
theorem dX6_moveOnLevel_22 : decode cX6_moveOnLevel 22 = .ok (.aload 4, 2) := by decide +kernel
theorem dX6_moveOnLevel_24 : decode cX6_moveOnLevel 24 = .ok (.iload_n 2, 1) := by decide +kernel
theorem dX6_moveOnLevel_25 : decode cX6_moveOnLevel 25 = .ok (.invokestatic 67, 3) := by decide +kernel
theorem dX6_moveOnLevel_28 : decode cX6_moveOnLevel 28 = .ok (.invokevirtual 58, 3) := by decide +kernel
theorem dX6_moveOnLevel_31 : decode cX6_moveOnLevel 31 = .ok (.aload 4, 2) := by decide +kernel
theorem dX6_moveOnLevel_33 : decode cX6_moveOnLevel 33 = .ok (.iload_n 2, 1) := by decide +kernel
theorem dX6_moveOnLevel_34 : decode cX6_moveOnLevel 34 = .ok (.invokestatic 70, 3) := by decide +kernel
theorem dX6_moveOnLevel_37 : decode cX6_moveOnLevel 37 = .ok (.invokevirtual 61, 3) := by decide +kernel
theorem dX6_moveOnLevel_40 : decode cX6_moveOnLevel 40 = .ok (.aload 4, 2) := by decide +kernel
theorem dX6_moveOnLevel_42 : decode cX6_moveOnLevel 42 = .ok (.iload_n 3, 1) := by decide +kernel
theorem dX6_moveOnLevel_43 : decode cX6_moveOnLevel 43 = .ok (.invokestatic 67, 3) := by decide +kernel
theorem dX6_moveOnLevel_46 : decode cX6_moveOnLevel 46 = .ok (.invokevirtual 58, 3) := by decide +kernel
theorem dX6_moveOnLevel_49 : decode cX6_moveOnLevel 49 = .ok (.aload 4, 2) := by decide +kernel
theorem dX6_moveOnLevel_51 : decode cX6_moveOnLevel 51 = .ok (.iload_n 3, 1) := by decide +kernel
theorem dX6_moveOnLevel_52 : decode cX6_moveOnLevel 52 = .ok (.invokestatic 70, 3) := by decide +kernel
theorem dX6_moveOnLevel_55 : decode cX6_moveOnLevel 55 = .ok (.invokevirtual 61, 3) := by decide +kernel
theorem dX6_moveOnLevel_58 : decode cX6_moveOnLevel 58 = .ok (.aload_n 0, 1) := by decide +kernel
theorem dX6_moveOnLevel_59 : decode cX6_moveOnLevel 59 = .ok (.getfield 27, 3) := by decide +kernel
theorem dX6_moveOnLevel_62 : decode cX6_moveOnLevel 62 = .ok (.iload_n 1, 1) := by decide +kernel
theorem dX6_moveOnLevel_63 : decode cX6_moveOnLevel 63 = .ok (.iload_n 2, 1) := by decide +kernel
theorem dX6_moveOnLevel_64 : decode cX6_moveOnLevel 64 = .ok (.iload_n 3, 1) := by decide +kernel
theorem dX6_moveOnLevel_65 : decode cX6_moveOnLevel 65 = .ok (.iload 5, 2) := by decide +kernel
theorem dX6_moveOnLevel_67 : decode cX6_moveOnLevel 67 = .ok (.aload 4, 2) := by decide +kernel
theorem dX6_moveOnLevel_69 : decode cX6_moveOnLevel 69 = .ok (.invokevirtual 73, 3) := by decide +kernel
theorem dX6_moveOnLevel_72 : decode cX6_moveOnLevel 72 = .ok (.invokevirtual 80, 3) := by decide +kernel
theorem dX6_moveOnLevel_75 : decode cX6_moveOnLevel 75 = .ok (.return_, 1) := by decide +kernel
theorem dX6_moveToOtherLevel_0 : decode cX6_moveToOtherLevel 0 = .ok (.aload_n 0, 1) := by decide +kernel
theorem dX6_moveToOtherLevel_1 : decode cX6_moveToOtherLevel 1 = .ok (.getfield 11, 3) := by decide +kernel
theorem dX6_moveToOtherLevel_4 : decode cX6_moveToOtherLevel 4 = .ok (.iload_n 2, 1) := by decide +kernel
theorem dX6_moveToOtherLevel_5 : decode cX6_moveToOtherLevel 5 = .ok (.invokestatic 46, 3) := by decide +kernel
theorem dX6_moveToOtherLevel_8 : decode cX6_moveToOtherLevel 8 = .ok (.aaload, 1) := by decide +kernel
theorem dX6_moveToOtherLevel_9 : decode cX6_moveToOtherLevel 9 = .ok (.astore 4, 2) := by decide +kernel
theorem dX6_moveToOtherLevel_11 : decode cX6_moveToOtherLevel 11 = .ok (.aload_n 0, 1) := by decide +kernel
theorem dX6_moveToOtherLevel_12 : decode cX6_moveToOtherLevel 12 = .ok (.getfield 11, 3) := by decide +kernel
theorem dX6_moveToOtherLevel_15 : decode cX6_moveToOtherLevel 15 = .ok (.iload_n 3, 1) := by decide +kernel
theorem dX6_moveToOtherLevel_16 : decode cX6_moveToOtherLevel 16 = .ok (.invokestatic 46, 3) := by decide +kernel
theorem dX6_moveToOtherLevel_19 : decode cX6_moveToOtherLevel 19 = .ok (.aaload, 1) := by decide +kernel
theorem dX6_moveToOtherLevel_20 : decode cX6_moveToOtherLevel 20 = .ok (.astore 5, 2) := by decide +kernel
theorem dX6_moveToOtherLevel_22 : decode cX6_moveToOtherLevel 22 = .ok (.aload_n 0, 1) := by decide +kernel
theorem dX6_moveToOtherLevel_23 : decode cX6_moveToOtherLevel 23 = .ok (.getfield 20, 3) := by decide +kernel
theorem dX6_moveToOtherLevel_26 : decode cX6_moveToOtherLevel 26 = .ok (.aload_n 0, 1) := by decide +kernel
theorem dX6_moveToOtherLevel_27 : decode cX6_moveToOtherLevel 27 = .ok (.getfield 38, 3) := by decide +kernel
theorem dX6_moveToOtherLevel_30 : decode cX6_moveToOtherLevel 30 = .ok (.invokevirtual 49, 3) := by decide +kernel
theorem dX6_moveToOtherLevel_33 : decode cX6_moveToOtherLevel 33 = .ok (.aload 4, 2) := by decide +kernel
theorem dX6_moveToOtherLevel_35 : decode cX6_moveToOtherLevel 35 = .ok (.aload_n 0, 1) := by decide +kernel
theorem dX6_moveToOtherLevel_36 : decode cX6_moveToOtherLevel 36 = .ok (.getfield 38, 3) := by decide +kernel
theorem dX6_moveToOtherLevel_39 : decode cX6_moveToOtherLevel 39 = .ok (.invokevirtual 49, 3) := by decide +kernel
theorem dX6_moveToOtherLevel_42 : decode cX6_moveToOtherLevel 42 = .ok (.aload 5, 2) := by decide +kernel
theorem dX6_moveToOtherLevel_44 : decode cX6_moveToOtherLevel 44 = .ok (.aload_n 0, 1) := by decide +kernel
theorem dX6_moveToOtherLevel_45 : decode cX6_moveToOtherLevel 45 = .ok (.getfield 38, 3) := by decide +kernel
theorem dX6_moveToOtherLevel_48 : decode cX6_moveToOtherLevel 48 = .ok (.invokevirtual 49, 3) := by decide +kernel
theorem dX6_moveToOtherLevel_51 : decode cX6_moveToOtherLevel 51 = .ok (.invokestatic 52, 3) := by decide +kernel
theorem dX6_moveToOtherLevel_54 : decode cX6_moveToOtherLevel 54 = .ok (.invokestatic 52, 3) := by decide +kernel
theorem dX6_moveToOtherLevel_57 : decode cX6_moveToOtherLevel 57 = .ok (.istore 6, 2) := by decide +kernel
theorem dX6_moveToOtherLevel_59 : decode cX6_moveToOtherLevel 59 = .ok (.aload 4, 2) := by decide +kernel
theorem dX6_moveToOtherLevel_61 : decode cX6_moveToOtherLevel 61 = .ok (.iload_n 2, 1) := by decide +kernel
theorem dX6_moveToOtherLevel_62 : decode cX6_moveToOtherLevel 62 = .ok (.invokestatic 67, 3) := by decide +kernel
theorem dX6_moveToOtherLevel_65 : decode cX6_moveToOtherLevel 65 = .ok (.invokevirtual 58, 3) := by decide +kernel
theorem dX6_moveToOtherLevel_68 : decode cX6_moveToOtherLevel 68 = .ok (.aload 4, 2) := by decide +kernel
theorem dX6_moveToOtherLevel_70 : decode cX6_moveToOtherLevel 70 = .ok (.iload_n 2, 1) := by decide +kernel
theorem dX6_moveToOtherLevel_71 : decode cX6_moveToOtherLevel 71 = .ok (.invokestatic 70, 3) := by decide +kernel
theorem dX6_moveToOtherLevel_74 : decode cX6_moveToOtherLevel 74 = .ok (.invokevirtual 61, 3) := by decide +kernel
theorem dX6_moveToOtherLevel_77 : decode cX6_moveToOtherLevel 77 = .ok (.aload 4, 2) := by decide +kernel
theorem dX6_moveToOtherLevel_79 : decode cX6_moveToOtherLevel 79 = .ok (.iconst 0, 1) := by decide +kernel
theorem dX6_moveToOtherLevel_80 : decode cX6_moveToOtherLevel 80 = .ok (.invokevirtual 58, 3) := by decide +kernel
theorem dX6_moveToOtherLevel_83 : decode cX6_moveToOtherLevel 83 = .ok (.aload_n 0, 1) := by decide +kernel
theorem dX6_moveToOtherLevel_84 : decode cX6_moveToOtherLevel 84 = .ok (.getfield 20, 3) := by decide +kernel
theorem dX6_moveToOtherLevel_87 : decode cX6_moveToOtherLevel 87 = .ok (.iload_n 2, 1) := by decide +kernel
theorem dX6_moveToOtherLevel_88 : decode cX6_moveToOtherLevel 88 = .ok (.invokestatic 46, 3) := by decide +kernel
theorem dX6_moveToOtherLevel_91 : decode cX6_moveToOtherLevel 91 = .ok (.invokevirtual 58, 3) := by decide +kernel
theorem dX6_moveToOtherLevel_94 : decode cX6_moveToOtherLevel 94 = .ok (.aload 4, 2) := by decide +kernel
theorem dX6_moveToOtherLevel_96 : decode cX6_moveToOtherLevel 96 = .ok (.aload_n 0, 1) := by decide +kernel
theorem dX6_moveToOtherLevel_97 : decode cX6_moveToOtherLevel 97 = .ok (.getfield 20, 3) := by decide +kernel
theorem dX6_moveToOtherLevel_100 : decode cX6_moveToOtherLevel 100 = .ok (.invokevirtual 64, 3) := by decide +kernel
theorem dX6_moveToOtherLevel_103 : decode cX6_moveToOtherLevel 103 = .ok (.aload_n 0, 1) := by decide +kernel
theorem dX6_moveToOtherLevel_104 : decode cX6_moveToOtherLevel 104 = .ok (.getfield 20, 3) := by decide +kernel
theorem dX6_moveToOtherLevel_107 : decode cX6_moveToOtherLevel 107 = .ok (.iload_n 3, 1) := by decide +kernel
theorem dX6_moveToOtherLevel_108 : decode cX6_moveToOtherLevel 108 = .ok (.invokestatic 46, 3) := by decide +kernel
theorem dX6_moveToOtherLevel_111 : decode cX6_moveToOtherLevel 111 = .ok (.invokevirtual 58, 3) := by decide +kernel
theorem dX6_moveToOtherLevel_114 : decode cX6_moveToOtherLevel 114 = .ok (.aload 5, 2) := by decide +kernel
theorem dX6_moveToOtherLevel_116 : decode cX6_moveToOtherLevel 116 = .ok (.iconst 0, 1) := by decide +kernel
theorem dX6_moveToOtherLevel_117 : decode cX6_moveToOtherLevel 117 = .ok (.invokevirtual 58, 3) := by decide +kernel
theorem dX6_moveToOtherLevel_120 : decode cX6_moveToOtherLevel 120 = .ok (.aload_n 0, 1) := by decide +kernel
theorem dX6_moveToOtherLevel_121 : decode cX6_moveToOtherLevel 121 = .ok (.getfield 20, 3) := by decide +kernel
theorem dX6_moveToOtherLevel_124 : decode cX6_moveToOtherLevel 124 = .ok (.aload 5, 2) := by decide +kernel
theorem dX6_moveToOtherLevel_126 : decode cX6_moveToOtherLevel 126 = .ok (.invokevirtual 64, 3) := by decide +kernel
theorem dX6_moveToOtherLevel_129 : decode cX6_moveToOtherLevel 129 = .ok (.aload 5, 2) := by decide +kernel
theorem dX6_moveToOtherLevel_131 : decode cX6_moveToOtherLevel 131 = .ok (.iload_n 3, 1) := by decide +kernel
theorem dX6_moveToOtherLevel_132 : decode cX6_moveToOtherLevel 132 = .ok (.invokestatic 67, 3) := by decide +kernel
theorem dX6_moveToOtherLevel_135 : decode cX6_moveToOtherLevel 135 = .ok (.invokevirtual 58, 3) := by decide +kernel
theorem dX6_moveToOtherLevel_138 : decode cX6_moveToOtherLevel 138 = .ok (.aload 5, 2) := by decide +kernel
theorem dX6_moveToOtherLevel_140 : decode cX6_moveToOtherLevel 140 = .ok (.iload_n 3, 1) := by decide +kernel
theorem dX6_moveToOtherLevel_141 : decode cX6_moveToOtherLevel 141 = .ok (.invokestatic 70, 3) := by decide +kernel
theorem dX6_moveToOtherLevel_144 : decode cX6_moveToOtherLevel 144 = .ok (.invokevirtual 61, 3) := by decide +kernel
theorem dX6_moveToOtherLevel_147 : decode cX6_moveToOtherLevel 147 = .ok (.aload_n 0, 1) := by decide +kernel
theorem dX6_moveToOtherLevel_148 : decode cX6_moveToOtherLevel 148 = .ok (.getfield 20, 3) := by decide +kernel
theorem dX6_moveToOtherLevel_151 : decode cX6_moveToOtherLevel 151 = .ok (.invokevirtual 73, 3) := by decide +kernel
theorem dX6_moveToOtherLevel_154 : decode cX6_moveToOtherLevel 154 = .ok (.aload 4, 2) := by decide +kernel
theorem dX6_moveToOtherLevel_156 : decode cX6_moveToOtherLevel 156 = .ok (.invokevirtual 73, 3) := by decide +kernel
theorem dX6_moveToOtherLevel_159 : decode cX6_moveToOtherLevel 159 = .ok (.aload 5, 2) := by decide +kernel
theorem dX6_moveToOtherLevel_161 : decode cX6_moveToOtherLevel 161 = .ok (.invokevirtual 73, 3) := by decide +kernel
theorem dX6_moveToOtherLevel_164 : decode cX6_moveToOtherLevel 164 = .ok (.invokestatic 77, 3) := by decide +kernel
theorem dX6_moveToOtherLevel_167 : decode cX6_moveToOtherLevel 167 = .ok (.invokestatic 77, 3) := by decide +kernel
theorem dX6_moveToOtherLevel_170 : decode cX6_moveToOtherLevel 170 = .ok (.istore 7, 2) := by decide +kernel
theorem dX6_moveToOtherLevel_172 : decode cX6_moveToOtherLevel 172 = .ok (.aload_n 0, 1) := by decide +kernel
theorem dX6_moveToOtherLevel_173 : decode cX6_moveToOtherLevel 173 = .ok (.getfield 27, 3) := by decide +kernel
theorem dX6_moveToOtherLevel_176 : decode cX6_moveToOtherLevel 176 = .ok (.iload_n 1, 1) := by decide +kernel
theorem dX6_moveToOtherLevel_177 : decode cX6_moveToOtherLevel 177 = .ok (.iload_n 2, 1) := by decide +kernel
theorem dX6_moveToOtherLevel_178 : decode cX6_moveToOtherLevel 178 = .ok (.iload_n 3, 1) := by decide +kernel
theorem dX6_moveToOtherLevel_179 : decode cX6_moveToOtherLevel 179 = .ok (.iload 6, 2) := by decide +kernel
theorem dX6_moveToOtherLevel_181 : decode cX6_moveToOtherLevel 181 = .ok (.iload 7, 2) := by decide +kernel
theorem dX6_moveToOtherLevel_183 : decode cX6_moveToOtherLevel 183 = .ok (.invokevirtual 80, 3) := by decide +kernel
theorem dX6_moveToOtherLevel_186 : decode cX6_moveToOtherLevel 186 = .ok (.return_, 1) := by decide +kernel
theorem dX7_init_0 : decode cX7_init 0 = .ok (.aload_n 0, 1) := by decide +kernel
theorem dX7_init_1 : decode cX7_init 1 = .ok (.invokespecial 3, 3) := by decide +kernel
theorem dX7_init_4 : decode cX7_init 4 = .ok (.aload_n 0, 1) := by decide +kernel
theorem dX7_init_5 : decode cX7_init 5 = .ok (.new 9, 3) := by decide +kernel
theorem dX7_init_8 : decode cX7_init 8 = .ok (.dup, 1) := by decide +kernel
theorem dX7_init_9 : decode cX7_init 9 = .ok (.invokespecial 11, 3) := by decide +kernel
theorem dX7_init_12 : decode cX7_init 12 = .ok (.putfield 12, 3) := by decide +kernel
theorem dX7_init_15 : decode cX7_init 15 = .ok (.aload_n 0, 1) := by decide +kernel
theorem dX7_init_16 : decode cX7_init 16 = .ok (.new 9, 3) := by decide +kernel
theorem dX7_init_19 : decode cX7_init 19 = .ok (.dup, 1) := by decide +kernel
theorem dX7_init_20 : decode cX7_init 20 = .ok (.invokespecial 11, 3) := by decide +kernel
theorem dX7_init_23 : decode cX7_init 23 = .ok (.putfield 16, 3) := by decide +kernel
theorem dX7_init_26 : decode cX7_init 26 = .ok (.aload_n 0, 1) := by decide +kernel
theorem dX7_init_27 : decode cX7_init 27 = .ok (.new 19, 3) := by decide +kernel
theorem dX7_init_30 : decode cX7_init 30 = .ok (.dup, 1) := by decide +kernel
theorem dX7_init_31 : decode cX7_init 31 = .ok (.invokespecial 21, 3) := by decide +kernel
theorem dX7_init_34 : decode cX7_init 34 = .ok (.putfield 22, 3) := by decide +kernel
theorem dX7_init_37 : decode cX7_init 37 = .ok (.aload_n 0, 1) := by decide +kernel
theorem dX7_init_38 : decode cX7_init 38 = .ok (.new 26, 3) := by decide +kernel
theorem dX7_init_41 : decode cX7_init 41 = .ok (.dup, 1) := by decide +kernel
theorem dX7_init_42 : decode cX7_init 42 = .ok (.invokespecial 28, 3) := by decide +kernel
theorem dX7_init_45 : decode cX7_init 45 = .ok (.putfield 29, 3) := by decide +kernel
theorem dX7_init_48 : decode cX7_init 48 = .ok (.aload_n 0, 1) := by decide +kernel
theorem dX7_init_49 : decode cX7_init 49 = .ok (.new 33, 3) := by decide +kernel
theorem dX7_init_52 : decode cX7_init 52 = .ok (.dup, 1) := by decide +kernel
theorem dX7_init_53 : decode cX7_init 53 = .ok (.invokespecial 35, 3) := by decide +kernel
theorem dX7_init_56 : decode cX7_init 56 = .ok (.putfield 36, 3) := by decide +kernel
theorem dX7_init_59 : decode cX7_init 59 = .ok (.aload_n 0, 1) := by decide +kernel
theorem dX7_init_60 : decode cX7_init 60 = .ok (.iconst 3, 1) := by decide +kernel
theorem dX7_init_61 : decode cX7_init 61 = .ok (.newarray .int, 2) := by decide +kernel
theorem dX7_init_63 : decode cX7_init 63 = .ok (.putfield 40, 3) := by decide +kernel
theorem dX7_init_66 : decode cX7_init 66 = .ok (.return_, 1) := by decide +kernel
theorem dX7_store_0 : decode cX7_store 0 = .ok (.aload_n 0, 1) := by decide +kernel
theorem dX7_store_1 : decode cX7_store 1 = .ok (.iload_n 1, 1) := by decide +kernel
theorem dX7_store_2 : decode cX7_store 2 = .ok (.iload_n 2, 1) := by decide +kernel
theorem dX7_store_3 : decode cX7_store 3 = .ok (.invokevirtual 44, 3) := by decide +kernel
theorem dX7_store_6 : decode cX7_store 6 = .ok (.aload_n 0, 1) := by decide +kernel
theorem dX7_store_7 : decode cX7_store 7 = .ok (.getfield 12, 3) := by decide +kernel
theorem dX7_store_10 : decode cX7_store 10 = .ok (.invokevirtual 48, 3) := by decide +kernel
theorem dX7_store_13 : decode cX7_store 13 = .ok (.ifCond .eq 13, 3) := by decide +kernel
theorem dX7_store_16 : decode cX7_store 16 = .ok (.new 52, 3) := by decide +kernel
theorem dX7_store_19 : decode cX7_store 19 = .ok (.dup, 1) := by decide +kernel
theorem dX7_store_20 : decode cX7_store 20 = .ok (.ldc 54, 2) := by decide +kernel
theorem dX7_store_22 : decode cX7_store 22 = .ok (.invokespecial 56, 3) := by decide +kernel
theorem dX7_store_25 : decode cX7_store 25 = .ok (.athrow, 1) := by decide +kernel
theorem dX7_store_26 : decode cX7_store 26 = .ok (.aload_n 0, 1) := by decide +kernel
theorem dX7_store_27 : decode cX7_store 27 = .ok (.getfield 22, 3) := by decide +kernel
theorem dX7_store_30 : decode cX7_store 30 = .ok (.aload_n 0, 1) := by decide +kernel
theorem dX7_store_31 : decode cX7_store 31 = .ok (.getfield 12, 3) := by decide +kernel
theorem dX7_store_34 : decode cX7_store 34 = .ok (.invokevirtual 59, 3) := by decide +kernel
theorem dX7_store_37 : decode cX7_store 37 = .ok (.aload_n 0, 1) := by decide +kernel
theorem dX7_store_38 : decode cX7_store 38 = .ok (.getfield 12, 3) := by decide +kernel
theorem dX7_store_41 : decode cX7_store 41 = .ok (.iload_n 1, 1) := by decide +kernel
theorem dX7_store_42 : decode cX7_store 42 = .ok (.iload_n 2, 1) := by decide +kernel
theorem dX7_store_43 : decode cX7_store 43 = .ok (.invokevirtual 63, 3) := by decide +kernel
theorem dX7_store_46 : decode cX7_store 46 = .ok (.istore_n 3, 1) := by decide +kernel
theorem dX7_store_47 : decode cX7_store 47 = .ok (.iload_n 3, 1) := by decide +kernel
theorem dX7_store_48 : decode cX7_store 48 = .ok (.iconst (-1), 1) := by decide +kernel
theorem dX7_store_49 : decode cX7_store 49 = .ok (.if_icmp .ne 13, 3) := by decide +kernel
theorem dX7_store_52 : decode cX7_store 52 = .ok (.new 67, 3) := by decide +kernel
theorem dX7_store_55 : decode cX7_store 55 = .ok (.dup, 1) := by decide +kernel
theorem dX7_store_56 : decode cX7_store 56 = .ok (.ldc 69, 2) := by decide +kernel
theorem dX7_store_58 : decode cX7_store 58 = .ok (.invokespecial 71, 3) := by decide +kernel
theorem dX7_store_61 : decode cX7_store 61 = .ok (.athrow, 1) := by decide +kernel
theorem dX7_store_62 : decode cX7_store 62 = .ok (.aload_n 0, 1) := by decide +kernel
theorem dX7_store_63 : decode cX7_store 63 = .ok (.getfield 22, 3) := by decide +kernel
theorem dX7_store_66 : decode cX7_store 66 = .ok (.invokevirtual 72, 3) := by decide +kernel
theorem dX7_store_69 : decode cX7_store 69 = .ok (.iload_n 3, 1) := by decide +kernel
theorem dX7_store_70 : decode cX7_store 70 = .ok (.ireturn, 1) := by decide +kernel
theorem dX7_retrieve_0 : decode cX7_retrieve 0 = .ok (.aload_n 0, 1) := by decide +kernel
theorem dX7_retrieve_1 : decode cX7_retrieve 1 = .ok (.iload_n 1, 1) := by decide +kernel
theorem dX7_retrieve_2 : decode cX7_retrieve 2 = .ok (.invokevirtual 75, 3) := by decide +kernel
theorem dX7_retrieve_5 : decode cX7_retrieve 5 = .ok (.aload_n 0, 1) := by decide +kernel
theorem dX7_retrieve_6 : decode cX7_retrieve 6 = .ok (.getfield 22, 3) := by decide +kernel
theorem dX7_retrieve_9 : decode cX7_retrieve 9 = .ok (.aload_n 0, 1) := by decide +kernel
theorem dX7_retrieve_10 : decode cX7_retrieve 10 = .ok (.getfield 12, 3) := by decide +kernel
theorem dX7_retrieve_13 : decode cX7_retrieve 13 = .ok (.invokevirtual 59, 3) := by decide +kernel
theorem dX7_retrieve_16 : decode cX7_retrieve 16 = .ok (.aload_n 0, 1) := by decide +kernel
theorem dX7_retrieve_17 : decode cX7_retrieve 17 = .ok (.iload_n 1, 1) := by decide +kernel
theorem dX7_retrieve_18 : decode cX7_retrieve 18 = .ok (.invokevirtual 79, 3) := by decide +kernel
theorem dX7_retrieve_21 : decode cX7_retrieve 21 = .ok (.istore_n 2, 1) := by decide +kernel
theorem dX7_retrieve_22 : decode cX7_retrieve 22 = .ok (.iload_n 2, 1) := by decide +kernel
theorem dX7_retrieve_23 : decode cX7_retrieve 23 = .ok (.ifCond .ne 13, 3) := by decide +kernel
theorem dX7_retrieve_26 : decode cX7_retrieve 26 = .ok (.new 67, 3) := by decide +kernel
theorem dX7_retrieve_29 : decode cX7_retrieve 29 = .ok (.dup, 1) := by decide +kernel
theorem dX7_retrieve_30 : decode cX7_retrieve 30 = .ok (.ldc 83, 2) := by decide +kernel
theorem dX7_retrieve_32 : decode cX7_retrieve 32 = .ok (.invokespecial 71, 3) := by decide +kernel
theorem dX7_retrieve_35 : decode cX7_retrieve 35 = .ok (.athrow, 1) := by decide +kernel
theorem dX7_retrieve_36 : decode cX7_retrieve 36 = .ok (.aload_n 0, 1) := by decide +kernel
theorem dX7_retrieve_37 : decode cX7_retrieve 37 = .ok (.getfield 22, 3) := by decide +kernel
theorem dX7_retrieve_40 : decode cX7_retrieve 40 = .ok (.invokevirtual 72, 3) := by decide +kernel
theorem dX7_retrieve_43 : decode cX7_retrieve 43 = .ok (.iload_n 2, 1) := by decide +kernel
theorem dX7_retrieve_44 : decode cX7_retrieve 44 = .ok (.ireturn, 1) := by decide +kernel
theorem dX7_book_0 : decode cX7_book 0 = .ok (.aload_n 0, 1) := by decide +kernel
theorem dX7_book_1 : decode cX7_book 1 = .ok (.iload_n 1, 1) := by decide +kernel
theorem dX7_book_2 : decode cX7_book 2 = .ok (.invokevirtual 75, 3) := by decide +kernel
theorem dX7_book_5 : decode cX7_book 5 = .ok (.aload_n 0, 1) := by decide +kernel
theorem dX7_book_6 : decode cX7_book 6 = .ok (.iload_n 2, 1) := by decide +kernel
theorem dX7_book_7 : decode cX7_book 7 = .ok (.invokevirtual 85, 3) := by decide +kernel
theorem dX7_book_10 : decode cX7_book 10 = .ok (.aload_n 0, 1) := by decide +kernel
theorem dX7_book_11 : decode cX7_book 11 = .ok (.getfield 22, 3) := by decide +kernel
theorem dX7_book_14 : decode cX7_book 14 = .ok (.aload_n 0, 1) := by decide +kernel
theorem dX7_book_15 : decode cX7_book 15 = .ok (.getfield 12, 3) := by decide +kernel
theorem dX7_book_18 : decode cX7_book 18 = .ok (.invokevirtual 59, 3) := by decide +kernel
theorem dX7_book_21 : decode cX7_book 21 = .ok (.aload_n 0, 1) := by decide +kernel
theorem dX7_book_22 : decode cX7_book 22 = .ok (.getfield 12, 3) := by decide +kernel
theorem dX7_book_25 : decode cX7_book 25 = .ok (.iload_n 1, 1) := by decide +kernel
theorem dX7_book_26 : decode cX7_book 26 = .ok (.iload_n 2, 1) := by decide +kernel
theorem dX7_book_27 : decode cX7_book 27 = .ok (.invokevirtual 88, 3) := by decide +kernel
theorem dX7_book_30 : decode cX7_book 30 = .ok (.istore_n 3, 1) := by decide +kernel
theorem dX7_book_31 : decode cX7_book 31 = .ok (.aload_n 0, 1) := by decide +kernel
theorem dX7_book_32 : decode cX7_book 32 = .ok (.getfield 22, 3) := by decide +kernel
theorem dX7_book_35 : decode cX7_book 35 = .ok (.invokevirtual 72, 3) := by decide +kernel
theorem dX7_book_38 : decode cX7_book 38 = .ok (.iload_n 3, 1) := by decide +kernel
theorem dX7_book_39 : decode cX7_book 39 = .ok (.ireturn, 1) := by decide +kernel
theorem dX7_car_0 : decode cX7_car 0 = .ok (.aload_n 0, 1) := by decide +kernel
theorem dX7_car_1 : decode cX7_car 1 = .ok (.iload_n 1, 1) := by decide +kernel
theorem dX7_car_2 : decode cX7_car 2 = .ok (.invokevirtual 75, 3) := by decide +kernel
theorem dX7_car_5 : decode cX7_car 5 = .ok (.iload_n 2, 1) := by decide +kernel
theorem dX7_car_6 : decode cX7_car 6 = .ok (.tableswitch 79 0 4 #[34, 43, 52, 61, 70], 34) := by decide +kernel
theorem dX7_car_40 : decode cX7_car 40 = .ok (.aload_n 0, 1) := by decide +kernel
theorem dX7_car_41 : decode cX7_car 41 = .ok (.getfield 12, 3) := by decide +kernel
theorem dX7_car_44 : decode cX7_car 44 = .ok (.iload_n 1, 1) := by decide +kernel
theorem dX7_car_45 : decode cX7_car 45 = .ok (.invokevirtual 91, 3) := by decide +kernel
theorem dX7_car_48 : decode cX7_car 48 = .ok (.ireturn, 1) := by decide +kernel
theorem dX7_car_49 : decode cX7_car 49 = .ok (.aload_n 0, 1) := by decide +kernel
theorem dX7_car_50 : decode cX7_car 50 = .ok (.getfield 12, 3) := by decide +kernel
theorem dX7_car_53 : decode cX7_car 53 = .ok (.iload_n 1, 1) := by decide +kernel
theorem dX7_car_54 : decode cX7_car 54 = .ok (.invokevirtual 94, 3) := by decide +kernel
theorem dX7_car_57 : decode cX7_car 57 = .ok (.ireturn, 1) := by decide +kernel
theorem dX7_car_58 : decode cX7_car 58 = .ok (.aload_n 0, 1) := by decide +kernel
theorem dX7_car_59 : decode cX7_car 59 = .ok (.getfield 12, 3) := by decide +kernel
theorem dX7_car_62 : decode cX7_car 62 = .ok (.iload_n 1, 1) := by decide +kernel
theorem dX7_car_63 : decode cX7_car 63 = .ok (.invokevirtual 97, 3) := by decide +kernel
theorem dX7_car_66 : decode cX7_car 66 = .ok (.ireturn, 1) := by decide +kernel
theorem dX7_car_67 : decode cX7_car 67 = .ok (.aload_n 0, 1) := by decide +kernel
theorem dX7_car_68 : decode cX7_car 68 = .ok (.getfield 12, 3) := by decide +kernel
theorem dX7_car_71 : decode cX7_car 71 = .ok (.iload_n 1, 1) := by decide +kernel
theorem dX7_car_72 : decode cX7_car 72 = .ok (.invokevirtual 100, 3) := by decide +kernel
theorem dX7_car_75 : decode cX7_car 75 = .ok (.ireturn, 1) := by decide +kernel
theorem dX7_car_76 : decode cX7_car 76 = .ok (.aload_n 0, 1) := by decide +kernel
theorem dX7_car_77 : decode cX7_car 77 = .ok (.getfield 12, 3) := by decide +kernel
theorem dX7_car_80 : decode cX7_car 80 = .ok (.iload_n 1, 1) := by decide +kernel
theorem dX7_car_81 : decode cX7_car 81 = .ok (.invokevirtual 103, 3) := by decide +kernel
theorem dX7_car_84 : decode cX7_car 84 = .ok (.ireturn, 1) := by decide +kernel
theorem dX7_car_85 : decode cX7_car 85 = .ok (.new 106, 3) := by decide +kernel
theorem dX7_car_88 : decode cX7_car 88 = .ok (.dup, 1) := by decide +kernel
theorem dX7_car_89 : decode cX7_car 89 = .ok (.ldc 108, 2) := by decide +kernel
theorem dX7_car_91 : decode cX7_car 91 = .ok (.invokespecial 110, 3) := by decide +kernel
theorem dX7_car_94 : decode cX7_car 94 = .ok (.athrow, 1) := by decide +kernel
theorem dX7_due_0 : decode cX7_due 0 = .ok (.aload_n 0, 1) := by decide +kernel
theorem dX7_due_1 : decode cX7_due 1 = .ok (.iload_n 1, 1) := by decide +kernel
theorem dX7_due_2 : decode cX7_due 2 = .ok (.invokevirtual 85, 3) := by decide +kernel
theorem dX7_due_5 : decode cX7_due 5 = .ok (.aload_n 0, 1) := by decide +kernel
theorem dX7_due_6 : decode cX7_due 6 = .ok (.getfield 12, 3) := by decide +kernel
theorem dX7_due_9 : decode cX7_due 9 = .ok (.iload_n 1, 1) := by decide +kernel
theorem dX7_due_10 : decode cX7_due 10 = .ok (.invokevirtual 111, 3) := by decide +kernel
theorem dX7_due_13 : decode cX7_due 13 = .ok (.lreturn, 1) := by decide +kernel
theorem dX7_setClosed_0 : decode cX7_setClosed 0 = .ok (.aload_n 0, 1) := by decide +kernel
theorem dX7_setClosed_1 : decode cX7_setClosed 1 = .ok (.iload_n 1, 1) := by decide +kernel
theorem dX7_setClosed_2 : decode cX7_setClosed 2 = .ok (.invokevirtual 115, 3) := by decide +kernel
theorem dX7_setClosed_5 : decode cX7_setClosed 5 = .ok (.aload_n 0, 1) := by decide +kernel
theorem dX7_setClosed_6 : decode cX7_setClosed 6 = .ok (.getfield 22, 3) := by decide +kernel
theorem dX7_setClosed_9 : decode cX7_setClosed 9 = .ok (.aload_n 0, 1) := by decide +kernel
theorem dX7_setClosed_10 : decode cX7_setClosed 10 = .ok (.getfield 12, 3) := by decide +kernel
theorem dX7_setClosed_13 : decode cX7_setClosed 13 = .ok (.invokevirtual 59, 3) := by decide +kernel
theorem dX7_setClosed_16 : decode cX7_setClosed 16 = .ok (.aload_n 0, 1) := by decide +kernel
theorem dX7_setClosed_17 : decode cX7_setClosed 17 = .ok (.getfield 12, 3) := by decide +kernel
theorem dX7_setClosed_20 : decode cX7_setClosed 20 = .ok (.iload_n 1, 1) := by decide +kernel
theorem dX7_setClosed_21 : decode cX7_setClosed 21 = .ok (.iload_n 2, 1) := by decide +kernel
theorem dX7_setClosed_22 : decode cX7_setClosed 22 = .ok (.invokevirtual 118, 3) := by decide +kernel
theorem dX7_setClosed_25 : decode cX7_setClosed 25 = .ok (.istore_n 3, 1) := by decide +kernel
theorem dX7_setClosed_26 : decode cX7_setClosed 26 = .ok (.aload_n 0, 1) := by decide +kernel
theorem dX7_setClosed_27 : decode cX7_setClosed 27 = .ok (.getfield 22, 3) := by decide +kernel
theorem dX7_setClosed_30 : decode cX7_setClosed 30 = .ok (.invokevirtual 72, 3) := by decide +kernel
theorem dX7_setClosed_33 : decode cX7_setClosed 33 = .ok (.iload_n 3, 1) := by decide +kernel
theorem dX7_setClosed_34 : decode cX7_setClosed 34 = .ok (.ireturn, 1) := by decide +kernel
theorem dX7_bay_0 : decode cX7_bay 0 = .ok (.aload_n 0, 1) := by decide +kernel
theorem dX7_bay_1 : decode cX7_bay 1 = .ok (.iload_n 1, 1) := by decide +kernel
theorem dX7_bay_2 : decode cX7_bay 2 = .ok (.invokevirtual 115, 3) := by decide +kernel
theorem dX7_bay_5 : decode cX7_bay 5 = .ok (.iload_n 2, 1) := by decide +kernel
theorem dX7_bay_6 : decode cX7_bay 6 = .ok (.tableswitch 123 0 7 #[46, 51, 56, 61, 66, 79, 96, 105], 46) := by decide +kernel
theorem dX7_bay_52 : decode cX7_bay 52 = .ok (.iload_n 1, 1) := by decide +kernel
theorem dX7_bay_53 : decode cX7_bay 53 = .ok (.invokestatic 122, 3) := by decide +kernel
theorem dX7_bay_56 : decode cX7_bay 56 = .ok (.ireturn, 1) := by decide +kernel
theorem dX7_bay_57 : decode cX7_bay 57 = .ok (.iload_n 1, 1) := by decide +kernel
theorem dX7_bay_58 : decode cX7_bay 58 = .ok (.invokestatic 125, 3) := by decide +kernel
theorem dX7_bay_61 : decode cX7_bay 61 = .ok (.ireturn, 1) := by decide +kernel
theorem dX7_bay_62 : decode cX7_bay 62 = .ok (.iload_n 1, 1) := by decide +kernel
theorem dX7_bay_63 : decode cX7_bay 63 = .ok (.invokestatic 128, 3) := by decide +kernel
theorem dX7_bay_66 : decode cX7_bay 66 = .ok (.ireturn, 1) := by decide +kernel
theorem dX7_bay_67 : decode cX7_bay 67 = .ok (.iload_n 1, 1) := by decide +kernel
theorem dX7_bay_68 : decode cX7_bay 68 = .ok (.invokestatic 131, 3) := by decide +kernel
theorem dX7_bay_71 : decode cX7_bay 71 = .ok (.ireturn, 1) := by decide +kernel
theorem dX7_bay_72 : decode cX7_bay 72 = .ok (.iload_n 1, 1) := by decide +kernel
theorem dX7_bay_73 : decode cX7_bay 73 = .ok (.invokestatic 134, 3) := by decide +kernel
theorem dX7_bay_76 : decode cX7_bay 76 = .ok (.ifCond .eq 7, 3) := by decide +kernel
theorem dX7_bay_79 : decode cX7_bay 79 = .ok (.iconst 1, 1) := by decide +kernel
theorem dX7_bay_80 : decode cX7_bay 80 = .ok (.goto 4, 3) := by decide +kernel
theorem dX7_bay_83 : decode cX7_bay 83 = .ok (.iconst 0, 1) := by decide +kernel
theorem dX7_bay_84 : decode cX7_bay 84 = .ok (.ireturn, 1) := by decide +kernel
theorem dX7_bay_85 : decode cX7_bay 85 = .ok (.aload_n 0, 1) := by decide +kernel
theorem dX7_bay_86 : decode cX7_bay 86 = .ok (.getfield 12, 3) := by decide +kernel
theorem dX7_bay_89 : decode cX7_bay 89 = .ok (.iload_n 1, 1) := by decide +kernel
theorem dX7_bay_90 : decode cX7_bay 90 = .ok (.invokevirtual 138, 3) := by decide +kernel
theorem dX7_bay_93 : decode cX7_bay 93 = .ok (.ifCond .eq 7, 3) := by decide +kernel
theorem dX7_bay_96 : decode cX7_bay 96 = .ok (.iconst 1, 1) := by decide +kernel
theorem dX7_bay_97 : decode cX7_bay 97 = .ok (.goto 4, 3) := by decide +kernel
theorem dX7_bay_100 : decode cX7_bay 100 = .ok (.iconst 0, 1) := by decide +kernel
theorem dX7_bay_101 : decode cX7_bay 101 = .ok (.ireturn, 1) := by decide +kernel
theorem dX7_bay_102 : decode cX7_bay 102 = .ok (.aload_n 0, 1) := by decide +kernel
theorem dX7_bay_103 : decode cX7_bay 103 = .ok (.getfield 12, 3) := by decide +kernel
theorem dX7_bay_106 : decode cX7_bay 106 = .ok (.iload_n 1, 1) := by decide +kernel
theorem dX7_bay_107 : decode cX7_bay 107 = .ok (.invokevirtual 141, 3) := by decide +kernel
theorem dX7_bay_110 : decode cX7_bay 110 = .ok (.ireturn, 1) := by decide +kernel
theorem dX7_bay_111 : decode cX7_bay 111 = .ok (.aload_n 0, 1) := by decide +kernel
theorem dX7_bay_112 : decode cX7_bay 112 = .ok (.getfield 12, 3) := by decide +kernel
theorem dX7_bay_115 : decode cX7_bay 115 = .ok (.iload_n 1, 1) := by decide +kernel
theorem dX7_bay_116 : decode cX7_bay 116 = .ok (.invokevirtual 144, 3) := by decide +kernel
theorem dX7_bay_119 : decode cX7_bay 119 = .ok (.iconst (-1), 1) := by decide +kernel
theorem dX7_bay_120 : decode cX7_bay 120 = .ok (.if_icmp .ne 7, 3) := by decide +kernel
theorem dX7_bay_123 : decode cX7_bay 123 = .ok (.iconst 1, 1) := by decide +kernel
theorem dX7_bay_124 : decode cX7_bay 124 = .ok (.goto 4, 3) := by decide +kernel
theorem dX7_bay_127 : decode cX7_bay 127 = .ok (.iconst 0, 1) := by decide +kernel
theorem dX7_bay_128 : decode cX7_bay 128 = .ok (.ireturn, 1) := by decide +kernel
theorem dX7_bay_129 : decode cX7_bay 129 = .ok (.new 106, 3) := by decide +kernel
theorem dX7_bay_132 : decode cX7_bay 132 = .ok (.dup, 1) := by decide +kernel
theorem dX7_bay_133 : decode cX7_bay 133 = .ok (.ldc 147, 2) := by decide +kernel
theorem dX7_bay_135 : decode cX7_bay 135 = .ok (.invokespecial 110, 3) := by decide +kernel
theorem dX7_bay_138 : decode cX7_bay 138 = .ok (.athrow, 1) := by decide +kernel
theorem dX7_choice_0 : decode cX7_choice 0 = .ok (.aload_n 0, 1) := by decide +kernel
theorem dX7_choice_1 : decode cX7_choice 1 = .ok (.iload_n 1, 1) := by decide +kernel
theorem dX7_choice_2 : decode cX7_choice 2 = .ok (.iload_n 2, 1) := by decide +kernel
theorem dX7_choice_3 : decode cX7_choice 3 = .ok (.invokevirtual 44, 3) := by decide +kernel
theorem dX7_choice_6 : decode cX7_choice 6 = .ok (.aload_n 0, 1) := by decide +kernel
theorem dX7_choice_7 : decode cX7_choice 7 = .ok (.getfield 12, 3) := by decide +kernel
theorem dX7_choice_10 : decode cX7_choice 10 = .ok (.iload_n 1, 1) := by decide +kernel
theorem dX7_choice_11 : decode cX7_choice 11 = .ok (.iload_n 2, 1) := by decide +kernel
theorem dX7_choice_12 : decode cX7_choice 12 = .ok (.iconst (-1), 1) := by decide +kernel
theorem dX7_choice_13 : decode cX7_choice 13 = .ok (.invokevirtual 149, 3) := by decide +kernel
theorem dX7_choice_16 : decode cX7_choice 16 = .ok (.istore_n 3, 1) := by decide +kernel
theorem dX7_choice_17 : decode cX7_choice 17 = .ok (.iload_n 3, 1) := by decide +kernel
theorem dX7_choice_18 : decode cX7_choice 18 = .ok (.iconst (-1), 1) := by decide +kernel
theorem dX7_choice_19 : decode cX7_choice 19 = .ok (.if_icmp .ne 13, 3) := by decide +kernel
theorem dX7_choice_22 : decode cX7_choice 22 = .ok (.new 153, 3) := by decide +kernel
theorem dX7_choice_25 : decode cX7_choice 25 = .ok (.dup, 1) := by decide +kernel
theorem dX7_choice_26 : decode cX7_choice 26 = .ok (.ldc 69, 2) := by decide +kernel
theorem dX7_choice_28 : decode cX7_choice 28 = .ok (.invokespecial 155, 3) := by decide +kernel
theorem dX7_choice_31 : decode cX7_choice 31 = .ok (.athrow, 1) := by decide +kernel
theorem dX7_choice_32 : decode cX7_choice 32 = .ok (.iload_n 3, 1) := by decide +kernel
theorem dX7_choice_33 : decode cX7_choice 33 = .ok (.ireturn, 1) := by decide +kernel
theorem dX7_refuge_0 : decode cX7_refuge 0 = .ok (.aload_n 0, 1) := by decide +kernel
theorem dX7_refuge_1 : decode cX7_refuge 1 = .ok (.iload_n 1, 1) := by decide +kernel
theorem dX7_refuge_2 : decode cX7_refuge 2 = .ok (.invokevirtual 75, 3) := by decide +kernel
theorem dX7_refuge_5 : decode cX7_refuge 5 = .ok (.aload_n 0, 1) := by decide +kernel
theorem dX7_refuge_6 : decode cX7_refuge 6 = .ok (.getfield 12, 3) := by decide +kernel
theorem dX7_refuge_9 : decode cX7_refuge 9 = .ok (.iload_n 1, 1) := by decide +kernel
theorem dX7_refuge_10 : decode cX7_refuge 10 = .ok (.invokevirtual 156, 3) := by decide +kernel
theorem dX7_refuge_13 : decode cX7_refuge 13 = .ok (.istore_n 2, 1) := by decide +kernel
theorem dX7_refuge_14 : decode cX7_refuge 14 = .ok (.iload_n 2, 1) := by decide +kernel
theorem dX7_refuge_15 : decode cX7_refuge 15 = .ok (.iconst (-1), 1) := by decide +kernel
theorem dX7_refuge_16 : decode cX7_refuge 16 = .ok (.if_icmp .ne 13, 3) := by decide +kernel
theorem dX7_refuge_19 : decode cX7_refuge 19 = .ok (.new 153, 3) := by decide +kernel
theorem dX7_refuge_22 : decode cX7_refuge 22 = .ok (.dup, 1) := by decide +kernel
theorem dX7_refuge_23 : decode cX7_refuge 23 = .ok (.ldc 69, 2) := by decide +kernel
theorem dX7_refuge_25 : decode cX7_refuge 25 = .ok (.invokespecial 155, 3) := by decide +kernel
theorem dX7_refuge_28 : decode cX7_refuge 28 = .ok (.athrow, 1) := by decide +kernel
theorem dX7_refuge_29 : decode cX7_refuge 29 = .ok (.iload_n 2, 1) := by decide +kernel
theorem dX7_refuge_30 : decode cX7_refuge 30 = .ok (.ireturn, 1) := by decide +kernel
theorem dX7_bays_0 : decode cX7_bays 0 = .ok (.iload_n 1, 1) := by decide +kernel
theorem dX7_bays_1 : decode cX7_bays 1 = .ok (.tableswitch 97 0 5 #[39, 47, 56, 65, 73, 85], 39) := by decide +kernel
theorem dX7_bays_40 : decode cX7_bays 40 = .ok (.aload_n 0, 1) := by decide +kernel
theorem dX7_bays_41 : decode cX7_bays 41 = .ok (.getfield 12, 3) := by decide +kernel
theorem dX7_bays_44 : decode cX7_bays 44 = .ok (.invokevirtual 159, 3) := by decide +kernel
theorem dX7_bays_47 : decode cX7_bays 47 = .ok (.ireturn, 1) := by decide +kernel
theorem dX7_bays_48 : decode cX7_bays 48 = .ok (.aload_n 0, 1) := by decide +kernel
theorem dX7_bays_49 : decode cX7_bays 49 = .ok (.getfield 12, 3) := by decide +kernel
theorem dX7_bays_52 : decode cX7_bays 52 = .ok (.iconst 0, 1) := by decide +kernel
theorem dX7_bays_53 : decode cX7_bays 53 = .ok (.invokevirtual 163, 3) := by decide +kernel
theorem dX7_bays_56 : decode cX7_bays 56 = .ok (.ireturn, 1) := by decide +kernel
theorem dX7_bays_57 : decode cX7_bays 57 = .ok (.aload_n 0, 1) := by decide +kernel
theorem dX7_bays_58 : decode cX7_bays 58 = .ok (.getfield 12, 3) := by decide +kernel
theorem dX7_bays_61 : decode cX7_bays 61 = .ok (.iconst 1, 1) := by decide +kernel
theorem dX7_bays_62 : decode cX7_bays 62 = .ok (.invokevirtual 163, 3) := by decide +kernel
theorem dX7_bays_65 : decode cX7_bays 65 = .ok (.ireturn, 1) := by decide +kernel
theorem dX7_bays_66 : decode cX7_bays 66 = .ok (.aload_n 0, 1) := by decide +kernel
theorem dX7_bays_67 : decode cX7_bays 67 = .ok (.getfield 12, 3) := by decide +kernel
theorem dX7_bays_70 : decode cX7_bays 70 = .ok (.invokevirtual 167, 3) := by decide +kernel
theorem dX7_bays_73 : decode cX7_bays 73 = .ok (.ireturn, 1) := by decide +kernel
theorem dX7_bays_74 : decode cX7_bays 74 = .ok (.aload_n 0, 1) := by decide +kernel
theorem dX7_bays_75 : decode cX7_bays 75 = .ok (.getfield 12, 3) := by decide +kernel
theorem dX7_bays_78 : decode cX7_bays 78 = .ok (.iconst 0, 1) := by decide +kernel
theorem dX7_bays_79 : decode cX7_bays 79 = .ok (.invokevirtual 170, 3) := by decide +kernel
theorem dX7_bays_82 : decode cX7_bays 82 = .ok (.invokestatic 174, 3) := by decide +kernel
theorem dX7_bays_85 : decode cX7_bays 85 = .ok (.ireturn, 1) := by decide +kernel
theorem dX7_bays_86 : decode cX7_bays 86 = .ok (.aload_n 0, 1) := by decide +kernel
theorem dX7_bays_87 : decode cX7_bays 87 = .ok (.getfield 12, 3) := by decide +kernel
theorem dX7_bays_90 : decode cX7_bays 90 = .ok (.iconst 1, 1) := by decide +kernel
theorem dX7_bays_91 : decode cX7_bays 91 = .ok (.invokevirtual 170, 3) := by decide +kernel
theorem dX7_bays_94 : decode cX7_bays 94 = .ok (.invokestatic 174, 3) := by decide +kernel
theorem dX7_bays_97 : decode cX7_bays 97 = .ok (.ireturn, 1) := by decide +kernel
theorem dX7_bays_98 : decode cX7_bays 98 = .ok (.new 106, 3) := by decide +kernel
theorem dX7_bays_101 : decode cX7_bays 101 = .ok (.dup, 1) := by decide +kernel
theorem dX7_bays_102 : decode cX7_bays 102 = .ok (.ldc 180, 2) := by decide +kernel
theorem dX7_bays_104 : decode cX7_bays 104 = .ok (.invokespecial 110, 3) := by decide +kernel
theorem dX7_bays_107 : decode cX7_bays 107 = .ok (.athrow, 1) := by decide +kernel
theorem dX7_bestMoves_0 : decode cX7_bestMoves 0 = .ok (.aload_n 0, 1) := by decide +kernel
theorem dX7_bestMoves_1 : decode cX7_bestMoves 1 = .ok (.lload_n 1, 1) := by decide +kernel
theorem dX7_bestMoves_2 : decode cX7_bestMoves 2 = .ok (.invokevirtual 182, 3) := by decide +kernel
theorem dX7_bestMoves_5 : decode cX7_bestMoves 5 = .ok (.aload_n 0, 1) := by decide +kernel
theorem dX7_bestMoves_6 : decode cX7_bestMoves 6 = .ok (.aload_n 0, 1) := by decide +kernel
theorem dX7_bestMoves_7 : decode cX7_bestMoves 7 = .ok (.getfield 29, 3) := by decide +kernel
theorem dX7_bestMoves_10 : decode cX7_bestMoves 10 = .ok (.aload_n 0, 1) := by decide +kernel
theorem dX7_bestMoves_11 : decode cX7_bestMoves 11 = .ok (.getfield 12, 3) := by decide +kernel
theorem dX7_bestMoves_14 : decode cX7_bestMoves 14 = .ok (.lload_n 1, 1) := by decide +kernel
theorem dX7_bestMoves_15 : decode cX7_bestMoves 15 = .ok (.invokevirtual 186, 3) := by decide +kernel
theorem dX7_bestMoves_18 : decode cX7_bestMoves 18 = .ok (.invokevirtual 190, 3) := by decide +kernel
theorem dX7_bestMoves_21 : decode cX7_bestMoves 21 = .ok (.aload_n 0, 1) := by decide +kernel
theorem dX7_bestMoves_22 : decode cX7_bestMoves 22 = .ok (.getfield 29, 3) := by decide +kernel
theorem dX7_bestMoves_25 : decode cX7_bestMoves 25 = .ok (.invokevirtual 194, 3) := by decide +kernel
theorem dX7_bestMoves_28 : decode cX7_bestMoves 28 = .ok (.ireturn, 1) := by decide +kernel
theorem dX7_bestEnd_0 : decode cX7_bestEnd 0 = .ok (.aload_n 0, 1) := by decide +kernel
theorem dX7_bestEnd_1 : decode cX7_bestEnd 1 = .ok (.lload_n 1, 1) := by decide +kernel
theorem dX7_bestEnd_2 : decode cX7_bestEnd 2 = .ok (.invokevirtual 182, 3) := by decide +kernel
theorem dX7_bestEnd_5 : decode cX7_bestEnd 5 = .ok (.aload_n 0, 1) := by decide +kernel
theorem dX7_bestEnd_6 : decode cX7_bestEnd 6 = .ok (.aload_n 0, 1) := by decide +kernel
theorem dX7_bestEnd_7 : decode cX7_bestEnd 7 = .ok (.getfield 29, 3) := by decide +kernel
theorem dX7_bestEnd_10 : decode cX7_bestEnd 10 = .ok (.aload_n 0, 1) := by decide +kernel
theorem dX7_bestEnd_11 : decode cX7_bestEnd 11 = .ok (.getfield 12, 3) := by decide +kernel
theorem dX7_bestEnd_14 : decode cX7_bestEnd 14 = .ok (.lload_n 1, 1) := by decide +kernel
theorem dX7_bestEnd_15 : decode cX7_bestEnd 15 = .ok (.invokevirtual 186, 3) := by decide +kernel
theorem dX7_bestEnd_18 : decode cX7_bestEnd 18 = .ok (.invokevirtual 190, 3) := by decide +kernel
theorem dX7_bestEnd_21 : decode cX7_bestEnd 21 = .ok (.aload_n 0, 1) := by decide +kernel
theorem dX7_bestEnd_22 : decode cX7_bestEnd 22 = .ok (.getfield 29, 3) := by decide +kernel
theorem dX7_bestEnd_25 : decode cX7_bestEnd 25 = .ok (.invokevirtual 197, 3) := by decide +kernel
theorem dX7_bestEnd_28 : decode cX7_bestEnd 28 = .ok (.ireturn, 1) := by decide +kernel
theorem dX7_bestCar_0 : decode cX7_bestCar 0 = .ok (.aload_n 0, 1) := by decide +kernel
theorem dX7_bestCar_1 : decode cX7_bestCar 1 = .ok (.lload_n 1, 1) := by decide +kernel
theorem dX7_bestCar_2 : decode cX7_bestCar 2 = .ok (.invokevirtual 182, 3) := by decide +kernel
theorem dX7_bestCar_5 : decode cX7_bestCar 5 = .ok (.iload_n 3, 1) := by decide +kernel
theorem dX7_bestCar_6 : decode cX7_bestCar 6 = .ok (.ifCond .lt 11, 3) := by decide +kernel
theorem dX7_bestCar_9 : decode cX7_bestCar 9 = .ok (.iload_n 3, 1) := by decide +kernel
theorem dX7_bestCar_10 : decode cX7_bestCar 10 = .ok (.lload_n 1, 1) := by decide +kernel
theorem dX7_bestCar_11 : decode cX7_bestCar 11 = .ok (.invokestatic 174, 3) := by decide +kernel
theorem dX7_bestCar_14 : decode cX7_bestCar 14 = .ok (.if_icmp .lt 13, 3) := by decide +kernel
theorem dX7_bestCar_17 : decode cX7_bestCar 17 = .ok (.new 106, 3) := by decide +kernel
theorem dX7_bestCar_20 : decode cX7_bestCar 20 = .ok (.dup, 1) := by decide +kernel
theorem dX7_bestCar_21 : decode cX7_bestCar 21 = .ok (.ldc 200, 2) := by decide +kernel
theorem dX7_bestCar_23 : decode cX7_bestCar 23 = .ok (.invokespecial 110, 3) := by decide +kernel
theorem dX7_bestCar_26 : decode cX7_bestCar 26 = .ok (.athrow, 1) := by decide +kernel
theorem dX7_bestCar_27 : decode cX7_bestCar 27 = .ok (.aload_n 0, 1) := by decide +kernel
theorem dX7_bestCar_28 : decode cX7_bestCar 28 = .ok (.aload_n 0, 1) := by decide +kernel
theorem dX7_bestCar_29 : decode cX7_bestCar 29 = .ok (.getfield 29, 3) := by decide +kernel
theorem dX7_bestCar_32 : decode cX7_bestCar 32 = .ok (.aload_n 0, 1) := by decide +kernel
theorem dX7_bestCar_33 : decode cX7_bestCar 33 = .ok (.getfield 12, 3) := by decide +kernel
theorem dX7_bestCar_36 : decode cX7_bestCar 36 = .ok (.lload_n 1, 1) := by decide +kernel
theorem dX7_bestCar_37 : decode cX7_bestCar 37 = .ok (.invokevirtual 186, 3) := by decide +kernel
theorem dX7_bestCar_40 : decode cX7_bestCar 40 = .ok (.invokevirtual 190, 3) := by decide +kernel
theorem dX7_bestCar_43 : decode cX7_bestCar 43 = .ok (.aload_n 0, 1) := by decide +kernel
theorem dX7_bestCar_44 : decode cX7_bestCar 44 = .ok (.getfield 29, 3) := by decide +kernel
theorem dX7_bestCar_47 : decode cX7_bestCar 47 = .ok (.iload_n 3, 1) := by decide +kernel
theorem dX7_bestCar_48 : decode cX7_bestCar 48 = .ok (.invokevirtual 202, 3) := by decide +kernel
theorem dX7_bestCar_51 : decode cX7_bestCar 51 = .ok (.ireturn, 1) := by decide +kernel
theorem dX7_plainMoves_0 : decode cX7_plainMoves 0 = .ok (.aload_n 0, 1) := by decide +kernel
theorem dX7_plainMoves_1 : decode cX7_plainMoves 1 = .ok (.lload_n 1, 1) := by decide +kernel
theorem dX7_plainMoves_2 : decode cX7_plainMoves 2 = .ok (.invokevirtual 182, 3) := by decide +kernel
theorem dX7_plainMoves_5 : decode cX7_plainMoves 5 = .ok (.aload_n 0, 1) := by decide +kernel
theorem dX7_plainMoves_6 : decode cX7_plainMoves 6 = .ok (.getfield 29, 3) := by decide +kernel
theorem dX7_plainMoves_9 : decode cX7_plainMoves 9 = .ok (.aload_n 0, 1) := by decide +kernel
theorem dX7_plainMoves_10 : decode cX7_plainMoves 10 = .ok (.getfield 12, 3) := by decide +kernel
theorem dX7_plainMoves_13 : decode cX7_plainMoves 13 = .ok (.lload_n 1, 1) := by decide +kernel
theorem dX7_plainMoves_14 : decode cX7_plainMoves 14 = .ok (.invokevirtual 205, 3) := by decide +kernel
theorem dX7_plainMoves_17 : decode cX7_plainMoves 17 = .ok (.istore_n 3, 1) := by decide +kernel
theorem dX7_plainMoves_18 : decode cX7_plainMoves 18 = .ok (.aload_n 0, 1) := by decide +kernel
theorem dX7_plainMoves_19 : decode cX7_plainMoves 19 = .ok (.iload_n 3, 1) := by decide +kernel
theorem dX7_plainMoves_20 : decode cX7_plainMoves 20 = .ok (.ifCond .eq 7, 3) := by decide +kernel
theorem dX7_plainMoves_23 : decode cX7_plainMoves 23 = .ok (.iconst 1, 1) := by decide +kernel
theorem dX7_plainMoves_24 : decode cX7_plainMoves 24 = .ok (.goto 4, 3) := by decide +kernel
theorem dX7_plainMoves_27 : decode cX7_plainMoves 27 = .ok (.iconst 0, 1) := by decide +kernel
theorem dX7_plainMoves_28 : decode cX7_plainMoves 28 = .ok (.invokevirtual 190, 3) := by decide +kernel
theorem dX7_plainMoves_31 : decode cX7_plainMoves 31 = .ok (.iload_n 3, 1) := by decide +kernel
theorem dX7_plainMoves_32 : decode cX7_plainMoves 32 = .ok (.ireturn, 1) := by decide +kernel
theorem dX7_retrieveAll_0 : decode cX7_retrieveAll 0 = .ok (.aload_n 0, 1) := by decide +kernel
theorem dX7_retrieveAll_1 : decode cX7_retrieveAll 1 = .ok (.lload_n 1, 1) := by decide +kernel
theorem dX7_retrieveAll_2 : decode cX7_retrieveAll 2 = .ok (.invokevirtual 182, 3) := by decide +kernel
theorem dX7_retrieveAll_5 : decode cX7_retrieveAll 5 = .ok (.aload_n 0, 1) := by decide +kernel
theorem dX7_retrieveAll_6 : decode cX7_retrieveAll 6 = .ok (.aload_n 0, 1) := by decide +kernel
theorem dX7_retrieveAll_7 : decode cX7_retrieveAll 7 = .ok (.getfield 29, 3) := by decide +kernel
theorem dX7_retrieveAll_10 : decode cX7_retrieveAll 10 = .ok (.aload_n 0, 1) := by decide +kernel
theorem dX7_retrieveAll_11 : decode cX7_retrieveAll 11 = .ok (.getfield 12, 3) := by decide +kernel
theorem dX7_retrieveAll_14 : decode cX7_retrieveAll 14 = .ok (.lload_n 1, 1) := by decide +kernel
theorem dX7_retrieveAll_15 : decode cX7_retrieveAll 15 = .ok (.invokevirtual 186, 3) := by decide +kernel
theorem dX7_retrieveAll_18 : decode cX7_retrieveAll 18 = .ok (.invokevirtual 190, 3) := by decide +kernel
theorem dX7_retrieveAll_21 : decode cX7_retrieveAll 21 = .ok (.aload_n 0, 1) := by decide +kernel
theorem dX7_retrieveAll_22 : decode cX7_retrieveAll 22 = .ok (.getfield 22, 3) := by decide +kernel
theorem dX7_retrieveAll_25 : decode cX7_retrieveAll 25 = .ok (.aload_n 0, 1) := by decide +kernel
theorem dX7_retrieveAll_26 : decode cX7_retrieveAll 26 = .ok (.getfield 12, 3) := by decide +kernel
theorem dX7_retrieveAll_29 : decode cX7_retrieveAll 29 = .ok (.invokevirtual 59, 3) := by decide +kernel
theorem dX7_retrieveAll_32 : decode cX7_retrieveAll 32 = .ok (.lload_n 1, 1) := by decide +kernel
theorem dX7_retrieveAll_33 : decode cX7_retrieveAll 33 = .ok (.invokestatic 174, 3) := by decide +kernel
theorem dX7_retrieveAll_36 : decode cX7_retrieveAll 36 = .ok (.istore_n 3, 1) := by decide +kernel
theorem dX7_retrieveAll_37 : decode cX7_retrieveAll 37 = .ok (.iconst 0, 1) := by decide +kernel
theorem dX7_retrieveAll_38 : decode cX7_retrieveAll 38 = .ok (.istore 4, 2) := by decide +kernel
theorem dX7_retrieveAll_40 : decode cX7_retrieveAll 40 = .ok (.iload 4, 2) := by decide +kernel
theorem dX7_retrieveAll_42 : decode cX7_retrieveAll 42 = .ok (.iload_n 3, 1) := by decide +kernel
theorem dX7_retrieveAll_43 : decode cX7_retrieveAll 43 = .ok (.if_icmp .ge 26, 3) := by decide +kernel
theorem dX7_retrieveAll_46 : decode cX7_retrieveAll 46 = .ok (.aload_n 0, 1) := by decide +kernel
theorem dX7_retrieveAll_47 : decode cX7_retrieveAll 47 = .ok (.getfield 12, 3) := by decide +kernel
theorem dX7_retrieveAll_50 : decode cX7_retrieveAll 50 = .ok (.aload_n 0, 1) := by decide +kernel
theorem dX7_retrieveAll_51 : decode cX7_retrieveAll 51 = .ok (.getfield 29, 3) := by decide +kernel
theorem dX7_retrieveAll_54 : decode cX7_retrieveAll 54 = .ok (.iload 4, 2) := by decide +kernel
theorem dX7_retrieveAll_56 : decode cX7_retrieveAll 56 = .ok (.invokevirtual 202, 3) := by decide +kernel
theorem dX7_retrieveAll_59 : decode cX7_retrieveAll 59 = .ok (.invokevirtual 209, 3) := by decide +kernel
theorem dX7_retrieveAll_62 : decode cX7_retrieveAll 62 = .ok (.pop, 1) := by decide +kernel
theorem dX7_retrieveAll_63 : decode cX7_retrieveAll 63 = .ok (.iinc 4 1, 3) := by decide +kernel
theorem dX7_retrieveAll_66 : decode cX7_retrieveAll 66 = .ok (.goto (-26), 3) := by decide +kernel
theorem dX7_retrieveAll_69 : decode cX7_retrieveAll 69 = .ok (.aload_n 0, 1) := by decide +kernel
theorem dX7_retrieveAll_70 : decode cX7_retrieveAll 70 = .ok (.getfield 22, 3) := by decide +kernel
theorem dX7_retrieveAll_73 : decode cX7_retrieveAll 73 = .ok (.invokevirtual 72, 3) := by decide +kernel
theorem dX7_retrieveAll_76 : decode cX7_retrieveAll 76 = .ok (.aload_n 0, 1) := by decide +kernel
theorem dX7_retrieveAll_77 : decode cX7_retrieveAll 77 = .ok (.getfield 29, 3) := by decide +kernel
theorem dX7_retrieveAll_80 : decode cX7_retrieveAll 80 = .ok (.invokevirtual 197, 3) := by decide +kernel
theorem dX7_retrieveAll_83 : decode cX7_retrieveAll 83 = .ok (.ireturn, 1) := by decide +kernel
theorem dX7_tidy_0 : decode cX7_tidy 0 = .ok (.aload_n 0, 1) := by decide +kernel
theorem dX7_tidy_1 : decode cX7_tidy 1 = .ok (.getfield 22, 3) := by decide +kernel
theorem dX7_tidy_4 : decode cX7_tidy 4 = .ok (.aload_n 0, 1) := by decide +kernel
theorem dX7_tidy_5 : decode cX7_tidy 5 = .ok (.getfield 12, 3) := by decide +kernel
theorem dX7_tidy_8 : decode cX7_tidy 8 = .ok (.invokevirtual 59, 3) := by decide +kernel
theorem dX7_tidy_11 : decode cX7_tidy 11 = .ok (.aload_n 0, 1) := by decide +kernel
theorem dX7_tidy_12 : decode cX7_tidy 12 = .ok (.getfield 12, 3) := by decide +kernel
theorem dX7_tidy_15 : decode cX7_tidy 15 = .ok (.invokevirtual 212, 3) := by decide +kernel
theorem dX7_tidy_18 : decode cX7_tidy 18 = .ok (.istore_n 1, 1) := by decide +kernel
theorem dX7_tidy_19 : decode cX7_tidy 19 = .ok (.aload_n 0, 1) := by decide +kernel
theorem dX7_tidy_20 : decode cX7_tidy 20 = .ok (.getfield 22, 3) := by decide +kernel
theorem dX7_tidy_23 : decode cX7_tidy 23 = .ok (.invokevirtual 72, 3) := by decide +kernel
theorem dX7_tidy_26 : decode cX7_tidy 26 = .ok (.iload_n 1, 1) := by decide +kernel
theorem dX7_tidy_27 : decode cX7_tidy 27 = .ok (.ireturn, 1) := by decide +kernel
theorem dX7_pass_0 : decode cX7_pass 0 = .ok (.iload_n 1, 1) := by decide +kernel
theorem dX7_pass_1 : decode cX7_pass 1 = .ok (.invokestatic 215, 3) := by decide +kernel
theorem dX7_pass_4 : decode cX7_pass 4 = .ok (.ifCond .ne 13, 3) := by decide +kernel
theorem dX7_pass_7 : decode cX7_pass 7 = .ok (.new 106, 3) := by decide +kernel
theorem dX7_pass_10 : decode cX7_pass 10 = .ok (.dup, 1) := by decide +kernel
theorem dX7_pass_11 : decode cX7_pass 11 = .ok (.ldc 218, 2) := by decide +kernel
theorem dX7_pass_13 : decode cX7_pass 13 = .ok (.invokespecial 110, 3) := by decide +kernel
theorem dX7_pass_16 : decode cX7_pass 16 = .ok (.athrow, 1) := by decide +kernel
theorem dX7_pass_17 : decode cX7_pass 17 = .ok (.aload_n 0, 1) := by decide +kernel
theorem dX7_pass_18 : decode cX7_pass 18 = .ok (.getfield 22, 3) := by decide +kernel
theorem dX7_pass_21 : decode cX7_pass 21 = .ok (.aload_n 0, 1) := by decide +kernel
theorem dX7_pass_22 : decode cX7_pass 22 = .ok (.getfield 12, 3) := by decide +kernel
theorem dX7_pass_25 : decode cX7_pass 25 = .ok (.invokevirtual 59, 3) := by decide +kernel
theorem dX7_pass_28 : decode cX7_pass 28 = .ok (.aload_n 0, 1) := by decide +kernel
theorem dX7_pass_29 : decode cX7_pass 29 = .ok (.getfield 12, 3) := by decide +kernel
theorem dX7_pass_32 : decode cX7_pass 32 = .ok (.iload_n 1, 1) := by decide +kernel
theorem dX7_pass_33 : decode cX7_pass 33 = .ok (.invokevirtual 220, 3) := by decide +kernel
theorem dX7_pass_36 : decode cX7_pass 36 = .ok (.ifCond .ne 13, 3) := by decide +kernel
theorem dX7_pass_39 : decode cX7_pass 39 = .ok (.new 52, 3) := by decide +kernel
theorem dX7_pass_42 : decode cX7_pass 42 = .ok (.dup, 1) := by decide +kernel
theorem dX7_pass_43 : decode cX7_pass 43 = .ok (.ldc 223, 2) := by decide +kernel
theorem dX7_pass_45 : decode cX7_pass 45 = .ok (.invokespecial 56, 3) := by decide +kernel
theorem dX7_pass_48 : decode cX7_pass 48 = .ok (.athrow, 1) := by decide +kernel
theorem dX7_pass_49 : decode cX7_pass 49 = .ok (.aload_n 0, 1) := by decide +kernel
theorem dX7_pass_50 : decode cX7_pass 50 = .ok (.getfield 22, 3) := by decide +kernel
theorem dX7_pass_53 : decode cX7_pass 53 = .ok (.invokevirtual 72, 3) := by decide +kernel
theorem dX7_pass_56 : decode cX7_pass 56 = .ok (.aload_n 0, 1) := by decide +kernel
theorem dX7_pass_57 : decode cX7_pass 57 = .ok (.getfield 12, 3) := by decide +kernel
theorem dX7_pass_60 : decode cX7_pass 60 = .ok (.invokevirtual 225, 3) := by decide +kernel
theorem dX7_pass_63 : decode cX7_pass 63 = .ok (.ireturn, 1) := by decide +kernel
theorem dX7_machine_0 : decode cX7_machine 0 = .ok (.aload_n 0, 1) := by decide +kernel
theorem dX7_machine_1 : decode cX7_machine 1 = .ok (.iload_n 1, 1) := by decide +kernel
theorem dX7_machine_2 : decode cX7_machine 2 = .ok (.invokevirtual 228, 3) := by decide +kernel
theorem dX7_machine_5 : decode cX7_machine 5 = .ok (.aload_n 0, 1) := by decide +kernel
theorem dX7_machine_6 : decode cX7_machine 6 = .ok (.getfield 12, 3) := by decide +kernel
theorem dX7_machine_9 : decode cX7_machine 9 = .ok (.iload_n 1, 1) := by decide +kernel
theorem dX7_machine_10 : decode cX7_machine 10 = .ok (.invokevirtual 231, 3) := by decide +kernel
theorem dX7_machine_13 : decode cX7_machine 13 = .ok (.astore_n 3, 1) := by decide +kernel
theorem dX7_machine_14 : decode cX7_machine 14 = .ok (.iload_n 2, 1) := by decide +kernel
theorem dX7_machine_15 : decode cX7_machine 15 = .ok (.tableswitch 40 0 2 #[25, 30, 35], 25) := by decide +kernel
theorem dX7_machine_40 : decode cX7_machine 40 = .ok (.aload_n 3, 1) := by decide +kernel
theorem dX7_machine_41 : decode cX7_machine 41 = .ok (.invokevirtual 235, 3) := by decide +kernel
theorem dX7_machine_44 : decode cX7_machine 44 = .ok (.ireturn, 1) := by decide +kernel
theorem dX7_machine_45 : decode cX7_machine 45 = .ok (.aload_n 3, 1) := by decide +kernel
theorem dX7_machine_46 : decode cX7_machine 46 = .ok (.invokevirtual 240, 3) := by decide +kernel
theorem dX7_machine_49 : decode cX7_machine 49 = .ok (.ireturn, 1) := by decide +kernel
theorem dX7_machine_50 : decode cX7_machine 50 = .ok (.aload_n 3, 1) := by decide +kernel
theorem dX7_machine_51 : decode cX7_machine 51 = .ok (.invokevirtual 243, 3) := by decide +kernel
theorem dX7_machine_54 : decode cX7_machine 54 = .ok (.ireturn, 1) := by decide +kernel
theorem dX7_machine_55 : decode cX7_machine 55 = .ok (.new 106, 3) := by decide +kernel
theorem dX7_machine_58 : decode cX7_machine 58 = .ok (.dup, 1) := by decide +kernel
theorem dX7_machine_59 : decode cX7_machine 59 = .ok (.ldc 246, 2) := by decide +kernel
theorem dX7_machine_61 : decode cX7_machine 61 = .ok (.invokespecial 110, 3) := by decide +kernel
theorem dX7_machine_64 : decode cX7_machine 64 = .ok (.athrow, 1) := by decide +kernel
theorem dX7_jobs_0 : decode cX7_jobs 0 = .ok (.aload_n 0, 1) := by decide +kernel
theorem dX7_jobs_1 : decode cX7_jobs 1 = .ok (.getfield 12, 3) := by decide +kernel
theorem dX7_jobs_4 : decode cX7_jobs 4 = .ok (.invokevirtual 248, 3) := by decide +kernel
theorem dX7_jobs_7 : decode cX7_jobs 7 = .ok (.invokevirtual 252, 3) := by decide +kernel
theorem dX7_jobs_10 : decode cX7_jobs 10 = .ok (.ireturn, 1) := by decide +kernel
theorem dX7_job_0 : decode cX7_job 0 = .ok (.iload_n 1, 1) := by decide +kernel
theorem dX7_job_1 : decode cX7_job 1 = .ok (.ifCond .lt 17, 3) := by decide +kernel
theorem dX7_job_4 : decode cX7_job 4 = .ok (.iload_n 1, 1) := by decide +kernel
theorem dX7_job_5 : decode cX7_job 5 = .ok (.aload_n 0, 1) := by decide +kernel
theorem dX7_job_6 : decode cX7_job 6 = .ok (.getfield 12, 3) := by decide +kernel
theorem dX7_job_9 : decode cX7_job 9 = .ok (.invokevirtual 248, 3) := by decide +kernel
theorem dX7_job_12 : decode cX7_job 12 = .ok (.invokevirtual 252, 3) := by decide +kernel
theorem dX7_job_15 : decode cX7_job 15 = .ok (.if_icmp .lt 14, 3) := by decide +kernel
theorem dX7_job_18 : decode cX7_job 18 = .ok (.new 257, 3) := by decide +kernel
theorem dX7_job_21 : decode cX7_job 21 = .ok (.dup, 1) := by decide +kernel
theorem dX7_job_22 : decode cX7_job 22 = .ok (.ldc_w 259, 3) := by decide +kernel
theorem dX7_job_25 : decode cX7_job 25 = .ok (.invokespecial 261, 3) := by decide +kernel
theorem dX7_job_28 : decode cX7_job 28 = .ok (.athrow, 1) := by decide +kernel
theorem dX7_job_29 : decode cX7_job 29 = .ok (.iload_n 2, 1) := by decide +kernel
theorem dX7_job_30 : decode cX7_job 30 = .ok (.ifCond .lt 8, 3) := by decide +kernel
theorem dX7_job_33 : decode cX7_job 33 = .ok (.iload_n 2, 1) := by decide +kernel
theorem dX7_job_34 : decode cX7_job 34 = .ok (.iconst 5, 1) := by decide +kernel
theorem dX7_job_35 : decode cX7_job 35 = .ok (.if_icmp .lt 14, 3) := by decide +kernel
theorem dX7_job_38 : decode cX7_job 38 = .ok (.new 106, 3) := by decide +kernel
theorem dX7_job_41 : decode cX7_job 41 = .ok (.dup, 1) := by decide +kernel
theorem dX7_job_42 : decode cX7_job 42 = .ok (.ldc_w 262, 3) := by decide +kernel
theorem dX7_job_45 : decode cX7_job 45 = .ok (.invokespecial 110, 3) := by decide +kernel
theorem dX7_job_48 : decode cX7_job 48 = .ok (.athrow, 1) := by decide +kernel
theorem dX7_job_49 : decode cX7_job 49 = .ok (.aload_n 0, 1) := by decide +kernel
theorem dX7_job_50 : decode cX7_job 50 = .ok (.getfield 12, 3) := by decide +kernel
theorem dX7_job_53 : decode cX7_job 53 = .ok (.invokevirtual 248, 3) := by decide +kernel
theorem dX7_job_56 : decode cX7_job 56 = .ok (.iload_n 1, 1) := by decide +kernel
theorem dX7_job_57 : decode cX7_job 57 = .ok (.iload_n 2, 1) := by decide +kernel
theorem dX7_job_58 : decode cX7_job 58 = .ok (.invokevirtual 264, 3) := by decide +kernel
theorem dX7_job_61 : decode cX7_job 61 = .ok (.ireturn, 1) := by decide +kernel
theorem dX7_account_0 : decode cX7_account 0 = .ok (.iload_n 1, 1) := by decide +kernel
theorem dX7_account_1 : decode cX7_account 1 = .ok (.tableswitch 101 0 5 #[39, 47, 55, 71, 79, 90], 39) := by decide +kernel
theorem dX7_account_40 : decode cX7_account 40 = .ok (.aload_n 0, 1) := by decide +kernel
theorem dX7_account_41 : decode cX7_account 41 = .ok (.getfield 12, 3) := by decide +kernel
theorem dX7_account_44 : decode cX7_account 44 = .ok (.invokevirtual 225, 3) := by decide +kernel
theorem dX7_account_47 : decode cX7_account 47 = .ok (.ireturn, 1) := by decide +kernel
theorem dX7_account_48 : decode cX7_account 48 = .ok (.aload_n 0, 1) := by decide +kernel
theorem dX7_account_49 : decode cX7_account 49 = .ok (.getfield 12, 3) := by decide +kernel
theorem dX7_account_52 : decode cX7_account 52 = .ok (.invokevirtual 267, 3) := by decide +kernel
theorem dX7_account_55 : decode cX7_account 55 = .ok (.ireturn, 1) := by decide +kernel
theorem dX7_account_56 : decode cX7_account 56 = .ok (.aload_n 0, 1) := by decide +kernel
theorem dX7_account_57 : decode cX7_account 57 = .ok (.getfield 12, 3) := by decide +kernel
theorem dX7_account_60 : decode cX7_account 60 = .ok (.invokevirtual 267, 3) := by decide +kernel
theorem dX7_account_63 : decode cX7_account 63 = .ok (.aload_n 0, 1) := by decide +kernel
theorem dX7_account_64 : decode cX7_account 64 = .ok (.getfield 12, 3) := by decide +kernel
theorem dX7_account_67 : decode cX7_account 67 = .ok (.invokevirtual 159, 3) := by decide +kernel
theorem dX7_account_70 : decode cX7_account 70 = .ok (.isub, 1) := by decide +kernel
theorem dX7_account_71 : decode cX7_account 71 = .ok (.ireturn, 1) := by decide +kernel
theorem dX7_account_72 : decode cX7_account 72 = .ok (.aload_n 0, 1) := by decide +kernel
theorem dX7_account_73 : decode cX7_account 73 = .ok (.getfield 12, 3) := by decide +kernel
theorem dX7_account_76 : decode cX7_account 76 = .ok (.invokevirtual 270, 3) := by decide +kernel
theorem dX7_account_79 : decode cX7_account 79 = .ok (.ireturn, 1) := by decide +kernel
theorem dX7_account_80 : decode cX7_account 80 = .ok (.aload_n 0, 1) := by decide +kernel
theorem dX7_account_81 : decode cX7_account 81 = .ok (.getfield 12, 3) := by decide +kernel
theorem dX7_account_84 : decode cX7_account 84 = .ok (.invokevirtual 248, 3) := by decide +kernel
theorem dX7_account_87 : decode cX7_account 87 = .ok (.invokevirtual 273, 3) := by decide +kernel
theorem dX7_account_90 : decode cX7_account 90 = .ok (.ireturn, 1) := by decide +kernel
theorem dX7_account_91 : decode cX7_account 91 = .ok (.aload_n 0, 1) := by decide +kernel
theorem dX7_account_92 : decode cX7_account 92 = .ok (.getfield 12, 3) := by decide +kernel
theorem dX7_account_95 : decode cX7_account 95 = .ok (.invokevirtual 248, 3) := by decide +kernel
theorem dX7_account_98 : decode cX7_account 98 = .ok (.invokevirtual 274, 3) := by decide +kernel
theorem dX7_account_101 : decode cX7_account 101 = .ok (.ireturn, 1) := by decide +kernel
theorem dX7_account_102 : decode cX7_account 102 = .ok (.new 106, 3) := by decide +kernel
theorem dX7_account_105 : decode cX7_account 105 = .ok (.dup, 1) := by decide +kernel
theorem dX7_account_106 : decode cX7_account 106 = .ok (.ldc_w 277, 3) := by decide +kernel
theorem dX7_account_109 : decode cX7_account 109 = .ok (.invokespecial 110, 3) := by decide +kernel
theorem dX7_account_112 : decode cX7_account 112 = .ok (.athrow, 1) := by decide +kernel
theorem dX7_load_0 : decode cX7_load 0 = .ok (.aload_n 0, 1) := by decide +kernel
theorem dX7_load_1 : decode cX7_load 1 = .ok (.iload_n 1, 1) := by decide +kernel
theorem dX7_load_2 : decode cX7_load 2 = .ok (.invokevirtual 228, 3) := by decide +kernel
theorem dX7_load_5 : decode cX7_load 5 = .ok (.aload_n 0, 1) := by decide +kernel
theorem dX7_load_6 : decode cX7_load 6 = .ok (.getfield 12, 3) := by decide +kernel
theorem dX7_load_9 : decode cX7_load 9 = .ok (.iload_n 1, 1) := by decide +kernel
theorem dX7_load_10 : decode cX7_load 10 = .ok (.invokevirtual 231, 3) := by decide +kernel
theorem dX7_load_13 : decode cX7_load 13 = .ok (.astore_n 2, 1) := by decide +kernel
theorem dX7_load_14 : decode cX7_load 14 = .ok (.aload_n 2, 1) := by decide +kernel
theorem dX7_load_15 : decode cX7_load 15 = .ok (.invokevirtual 240, 3) := by decide +kernel
theorem dX7_load_18 : decode cX7_load 18 = .ok (.ifCond .ne 14, 3) := by decide +kernel
theorem dX7_load_21 : decode cX7_load 21 = .ok (.new 279, 3) := by decide +kernel
theorem dX7_load_24 : decode cX7_load 24 = .ok (.dup, 1) := by decide +kernel
theorem dX7_load_25 : decode cX7_load 25 = .ok (.ldc_w 281, 3) := by decide +kernel
theorem dX7_load_28 : decode cX7_load 28 = .ok (.invokespecial 283, 3) := by decide +kernel
theorem dX7_load_31 : decode cX7_load 31 = .ok (.athrow, 1) := by decide +kernel
theorem dX7_load_32 : decode cX7_load 32 = .ok (.aload_n 2, 1) := by decide +kernel
theorem dX7_load_33 : decode cX7_load 33 = .ok (.invokevirtual 243, 3) := by decide +kernel
theorem dX7_load_36 : decode cX7_load 36 = .ok (.i2f, 1) := by decide +kernel
theorem dX7_load_37 : decode cX7_load 37 = .ok (.aload_n 2, 1) := by decide +kernel
theorem dX7_load_38 : decode cX7_load 38 = .ok (.invokevirtual 240, 3) := by decide +kernel
theorem dX7_load_41 : decode cX7_load 41 = .ok (.i2f, 1) := by decide +kernel
theorem dX7_load_42 : decode cX7_load 42 = .ok (.fdiv, 1) := by decide +kernel
theorem dX7_load_43 : decode cX7_load 43 = .ok (.freturn, 1) := by decide +kernel
theorem dX7_meanJob_0 : decode cX7_meanJob 0 = .ok (.aload_n 0, 1) := by decide +kernel
theorem dX7_meanJob_1 : decode cX7_meanJob 1 = .ok (.getfield 12, 3) := by decide +kernel
theorem dX7_meanJob_4 : decode cX7_meanJob 4 = .ok (.invokevirtual 248, 3) := by decide +kernel
theorem dX7_meanJob_7 : decode cX7_meanJob 7 = .ok (.invokevirtual 284, 3) := by decide +kernel
theorem dX7_meanJob_10 : decode cX7_meanJob 10 = .ok (.ifCond .ne 14, 3) := by decide +kernel
theorem dX7_meanJob_13 : decode cX7_meanJob 13 = .ok (.new 279, 3) := by decide +kernel
theorem dX7_meanJob_16 : decode cX7_meanJob 16 = .ok (.dup, 1) := by decide +kernel
theorem dX7_meanJob_17 : decode cX7_meanJob 17 = .ok (.ldc_w 287, 3) := by decide +kernel
theorem dX7_meanJob_20 : decode cX7_meanJob 20 = .ok (.invokespecial 283, 3) := by decide +kernel
theorem dX7_meanJob_23 : decode cX7_meanJob 23 = .ok (.athrow, 1) := by decide +kernel
theorem dX7_meanJob_24 : decode cX7_meanJob 24 = .ok (.aload_n 0, 1) := by decide +kernel
theorem dX7_meanJob_25 : decode cX7_meanJob 25 = .ok (.getfield 12, 3) := by decide +kernel
theorem dX7_meanJob_28 : decode cX7_meanJob 28 = .ok (.invokevirtual 248, 3) := by decide +kernel
theorem dX7_meanJob_31 : decode cX7_meanJob 31 = .ok (.invokevirtual 273, 3) := by decide +kernel
theorem dX7_meanJob_34 : decode cX7_meanJob 34 = .ok (.i2d, 1) := by decide +kernel
theorem dX7_meanJob_35 : decode cX7_meanJob 35 = .ok (.aload_n 0, 1) := by decide +kernel
theorem dX7_meanJob_36 : decode cX7_meanJob 36 = .ok (.getfield 12, 3) := by decide +kernel
theorem dX7_meanJob_39 : decode cX7_meanJob 39 = .ok (.invokevirtual 248, 3) := by decide +kernel
theorem dX7_meanJob_42 : decode cX7_meanJob 42 = .ok (.invokevirtual 284, 3) := by decide +kernel
theorem dX7_meanJob_45 : decode cX7_meanJob 45 = .ok (.i2d, 1) := by decide +kernel
theorem dX7_meanJob_46 : decode cX7_meanJob 46 = .ok (.ddiv, 1) := by decide +kernel
theorem dX7_meanJob_47 : decode cX7_meanJob 47 = .ok (.dreturn, 1) := by decide +kernel
theorem dX7_report_0 : decode cX7_report 0 = .ok (.aload_n 0, 1) := by decide +kernel
theorem dX7_report_1 : decode cX7_report 1 = .ok (.getfield 289, 3) := by decide +kernel
theorem dX7_report_4 : decode cX7_report 4 = .ok (.ifCond .eq 12, 3) := by decide +kernel
theorem dX7_report_7 : decode cX7_report 7 = .ok (.iload_n 1, 1) := by decide +kernel
theorem dX7_report_8 : decode cX7_report 8 = .ok (.ifCond .lt 8, 3) := by decide +kernel
theorem dX7_report_11 : decode cX7_report 11 = .ok (.iload_n 1, 1) := by decide +kernel
theorem dX7_report_12 : decode cX7_report 12 = .ok (.iconst 3, 1) := by decide +kernel
theorem dX7_report_13 : decode cX7_report 13 = .ok (.if_icmp .lt 14, 3) := by decide +kernel
theorem dX7_report_16 : decode cX7_report 16 = .ok (.new 153, 3) := by decide +kernel
theorem dX7_report_19 : decode cX7_report 19 = .ok (.dup, 1) := by decide +kernel
theorem dX7_report_20 : decode cX7_report 20 = .ok (.ldc_w 293, 3) := by decide +kernel
theorem dX7_report_23 : decode cX7_report 23 = .ok (.invokespecial 155, 3) := by decide +kernel
theorem dX7_report_26 : decode cX7_report 26 = .ok (.athrow, 1) := by decide +kernel
theorem dX7_report_27 : decode cX7_report 27 = .ok (.iload_n 2, 1) := by decide +kernel
theorem dX7_report_28 : decode cX7_report 28 = .ok (.lookupswitch 39 #[(0, 28), (1, 32)], 28) := by decide +kernel
theorem dX7_report_56 : decode cX7_report 56 = .ok (.iload_n 1, 1) := by decide +kernel
theorem dX7_report_57 : decode cX7_report 57 = .ok (.iconst 1, 1) := by decide +kernel
theorem dX7_report_58 : decode cX7_report 58 = .ok (.iadd, 1) := by decide +kernel
theorem dX7_report_59 : decode cX7_report 59 = .ok (.ireturn, 1) := by decide +kernel
theorem dX7_report_60 : decode cX7_report 60 = .ok (.aload_n 0, 1) := by decide +kernel
theorem dX7_report_61 : decode cX7_report 61 = .ok (.getfield 40, 3) := by decide +kernel
theorem dX7_report_64 : decode cX7_report 64 = .ok (.iload_n 1, 1) := by decide +kernel
theorem dX7_report_65 : decode cX7_report 65 = .ok (.iaload, 1) := by decide +kernel
theorem dX7_report_66 : decode cX7_report 66 = .ok (.ireturn, 1) := by decide +kernel
theorem dX7_report_67 : decode cX7_report 67 = .ok (.new 106, 3) := by decide +kernel
theorem dX7_report_70 : decode cX7_report 70 = .ok (.dup, 1) := by decide +kernel
theorem dX7_report_71 : decode cX7_report 71 = .ok (.ldc_w 295, 3) := by decide +kernel
theorem dX7_report_74 : decode cX7_report 74 = .ok (.invokespecial 110, 3) := by decide +kernel
theorem dX7_report_77 : decode cX7_report 77 = .ok (.athrow, 1) := by decide +kernel
theorem dX7_feed_0 : decode cX7_feed 0 = .ok (.aload_n 0, 1) := by decide +kernel
theorem dX7_feed_1 : decode cX7_feed 1 = .ok (.getfield 36, 3) := by decide +kernel
theorem dX7_feed_4 : decode cX7_feed 4 = .ok (.iload_n 1, 1) := by decide +kernel
theorem dX7_feed_5 : decode cX7_feed 5 = .ok (.invokevirtual 297, 3) := by decide +kernel
theorem dX7_feed_8 : decode cX7_feed 8 = .ok (.ifCond .ne 14, 3) := by decide +kernel
theorem dX7_feed_11 : decode cX7_feed 11 = .ok (.new 52, 3) := by decide +kernel
theorem dX7_feed_14 : decode cX7_feed 14 = .ok (.dup, 1) := by decide +kernel
theorem dX7_feed_15 : decode cX7_feed 15 = .ok (.ldc_w 301, 3) := by decide +kernel
theorem dX7_feed_18 : decode cX7_feed 18 = .ok (.invokespecial 56, 3) := by decide +kernel
theorem dX7_feed_21 : decode cX7_feed 21 = .ok (.athrow, 1) := by decide +kernel
theorem dX7_feed_22 : decode cX7_feed 22 = .ok (.aload_n 0, 1) := by decide +kernel
theorem dX7_feed_23 : decode cX7_feed 23 = .ok (.getfield 36, 3) := by decide +kernel
theorem dX7_feed_26 : decode cX7_feed 26 = .ok (.invokevirtual 303, 3) := by decide +kernel
theorem dX7_feed_29 : decode cX7_feed 29 = .ok (.ireturn, 1) := by decide +kernel
theorem dX7_perform_0 : decode cX7_perform 0 = .ok (.aload_n 0, 1) := by decide +kernel
theorem dX7_perform_1 : decode cX7_perform 1 = .ok (.getfield 36, 3) := by decide +kernel
theorem dX7_perform_4 : decode cX7_perform 4 = .ok (.invokevirtual 306, 3) := by decide +kernel
theorem dX7_perform_7 : decode cX7_perform 7 = .ok (.istore_n 1, 1) := by decide +kernel
theorem dX7_perform_8 : decode cX7_perform 8 = .ok (.aload_n 0, 1) := by decide +kernel
theorem dX7_perform_9 : decode cX7_perform 9 = .ok (.getfield 36, 3) := by decide +kernel
theorem dX7_perform_12 : decode cX7_perform 12 = .ok (.invokevirtual 309, 3) := by decide +kernel
theorem dX7_perform_15 : decode cX7_perform 15 = .ok (.iload_n 1, 1) := by decide +kernel
theorem dX7_perform_16 : decode cX7_perform 16 = .ok (.iconst (-1), 1) := by decide +kernel
theorem dX7_perform_17 : decode cX7_perform 17 = .ok (.if_icmp .eq 8, 3) := by decide +kernel
theorem dX7_perform_20 : decode cX7_perform 20 = .ok (.bipush (-100), 2) := by decide +kernel
theorem dX7_perform_22 : decode cX7_perform 22 = .ok (.iload_n 1, 1) := by decide +kernel
theorem dX7_perform_23 : decode cX7_perform 23 = .ok (.isub, 1) := by decide +kernel
theorem dX7_perform_24 : decode cX7_perform 24 = .ok (.ireturn, 1) := by decide +kernel
theorem dX7_perform_25 : decode cX7_perform 25 = .ok (.aload_n 0, 1) := by decide +kernel
theorem dX7_perform_26 : decode cX7_perform 26 = .ok (.getfield 22, 3) := by decide +kernel
theorem dX7_perform_29 : decode cX7_perform 29 = .ok (.aload_n 0, 1) := by decide +kernel
theorem dX7_perform_30 : decode cX7_perform 30 = .ok (.getfield 12, 3) := by decide +kernel
theorem dX7_perform_33 : decode cX7_perform 33 = .ok (.invokevirtual 59, 3) := by decide +kernel
theorem dX7_perform_36 : decode cX7_perform 36 = .ok (.iconst 0, 1) := by decide +kernel
theorem dX7_perform_37 : decode cX7_perform 37 = .ok (.istore_n 2, 1) := by decide +kernel
theorem dX7_perform_38 : decode cX7_perform 38 = .ok (.iload_n 2, 1) := by decide +kernel
theorem dX7_perform_39 : decode cX7_perform 39 = .ok (.aload_n 0, 1) := by decide +kernel
theorem dX7_perform_40 : decode cX7_perform 40 = .ok (.getfield 36, 3) := by decide +kernel
theorem dX7_perform_43 : decode cX7_perform 43 = .ok (.invokevirtual 312, 3) := by decide +kernel
theorem dX7_perform_46 : decode cX7_perform 46 = .ok (.if_icmp .ge 62, 3) := by decide +kernel
theorem dX7_perform_49 : decode cX7_perform 49 = .ok (.aload_n 0, 1) := by decide +kernel
theorem dX7_perform_50 : decode cX7_perform 50 = .ok (.aload_n 0, 1) := by decide +kernel
theorem dX7_perform_51 : decode cX7_perform 51 = .ok (.getfield 36, 3) := by decide +kernel
theorem dX7_perform_54 : decode cX7_perform 54 = .ok (.iload_n 2, 1) := by decide +kernel
theorem dX7_perform_55 : decode cX7_perform 55 = .ok (.invokevirtual 315, 3) := by decide +kernel
theorem dX7_perform_58 : decode cX7_perform 58 = .ok (.aload_n 0, 1) := by decide +kernel
theorem dX7_perform_59 : decode cX7_perform 59 = .ok (.getfield 36, 3) := by decide +kernel
theorem dX7_perform_62 : decode cX7_perform 62 = .ok (.iload_n 2, 1) := by decide +kernel
theorem dX7_perform_63 : decode cX7_perform 63 = .ok (.invokevirtual 319, 3) := by decide +kernel
theorem dX7_perform_66 : decode cX7_perform 66 = .ok (.aload_n 0, 1) := by decide +kernel
theorem dX7_perform_67 : decode cX7_perform 67 = .ok (.getfield 36, 3) := by decide +kernel
theorem dX7_perform_70 : decode cX7_perform 70 = .ok (.iload_n 2, 1) := by decide +kernel
theorem dX7_perform_71 : decode cX7_perform 71 = .ok (.invokevirtual 320, 3) := by decide +kernel
theorem dX7_perform_74 : decode cX7_perform 74 = .ok (.invokevirtual 323, 3) := by decide +kernel
theorem dX7_perform_77 : decode cX7_perform 77 = .ok (.ifCond .ne 25, 3) := by decide +kernel
theorem dX7_perform_80 : decode cX7_perform 80 = .ok (.aload_n 0, 1) := by decide +kernel
theorem dX7_perform_81 : decode cX7_perform 81 = .ok (.getfield 22, 3) := by decide +kernel
theorem dX7_perform_84 : decode cX7_perform 84 = .ok (.aload_n 0, 1) := by decide +kernel
theorem dX7_perform_85 : decode cX7_perform 85 = .ok (.getfield 12, 3) := by decide +kernel
theorem dX7_perform_88 : decode cX7_perform 88 = .ok (.invokevirtual 327, 3) := by decide +kernel
theorem dX7_perform_91 : decode cX7_perform 91 = .ok (.new 67, 3) := by decide +kernel
theorem dX7_perform_94 : decode cX7_perform 94 = .ok (.dup, 1) := by decide +kernel
theorem dX7_perform_95 : decode cX7_perform 95 = .ok (.ldc_w 330, 3) := by decide +kernel
theorem dX7_perform_98 : decode cX7_perform 98 = .ok (.invokespecial 71, 3) := by decide +kernel
theorem dX7_perform_101 : decode cX7_perform 101 = .ok (.athrow, 1) := by decide +kernel
theorem dX7_perform_102 : decode cX7_perform 102 = .ok (.iinc 2 1, 3) := by decide +kernel
theorem dX7_perform_105 : decode cX7_perform 105 = .ok (.goto (-67), 3) := by decide +kernel
theorem dX7_perform_108 : decode cX7_perform 108 = .ok (.aload_n 0, 1) := by decide +kernel
theorem dX7_perform_109 : decode cX7_perform 109 = .ok (.getfield 22, 3) := by decide +kernel
theorem dX7_perform_112 : decode cX7_perform 112 = .ok (.invokevirtual 72, 3) := by decide +kernel
theorem dX7_perform_115 : decode cX7_perform 115 = .ok (.aload_n 0, 1) := by decide +kernel
theorem dX7_perform_116 : decode cX7_perform 116 = .ok (.getfield 36, 3) := by decide +kernel
theorem dX7_perform_119 : decode cX7_perform 119 = .ok (.invokevirtual 312, 3) := by decide +kernel
theorem dX7_perform_122 : decode cX7_perform 122 = .ok (.ireturn, 1) := by decide +kernel
theorem dX7_undo_0 : decode cX7_undo 0 = .ok (.aload_n 0, 1) := by decide +kernel
theorem dX7_undo_1 : decode cX7_undo 1 = .ok (.getfield 22, 3) := by decide +kernel
theorem dX7_undo_4 : decode cX7_undo 4 = .ok (.invokevirtual 332, 3) := by decide +kernel
theorem dX7_undo_7 : decode cX7_undo 7 = .ok (.ifCond .ne 14, 3) := by decide +kernel
theorem dX7_undo_10 : decode cX7_undo 10 = .ok (.new 52, 3) := by decide +kernel
theorem dX7_undo_13 : decode cX7_undo 13 = .ok (.dup, 1) := by decide +kernel
theorem dX7_undo_14 : decode cX7_undo 14 = .ok (.ldc_w 335, 3) := by decide +kernel
theorem dX7_undo_17 : decode cX7_undo 17 = .ok (.invokespecial 56, 3) := by decide +kernel
theorem dX7_undo_20 : decode cX7_undo 20 = .ok (.athrow, 1) := by decide +kernel
theorem dX7_undo_21 : decode cX7_undo 21 = .ok (.aload_n 0, 1) := by decide +kernel
theorem dX7_undo_22 : decode cX7_undo 22 = .ok (.getfield 22, 3) := by decide +kernel
theorem dX7_undo_25 : decode cX7_undo 25 = .ok (.aload_n 0, 1) := by decide +kernel
theorem dX7_undo_26 : decode cX7_undo 26 = .ok (.getfield 12, 3) := by decide +kernel
theorem dX7_undo_29 : decode cX7_undo 29 = .ok (.invokevirtual 337, 3) := by decide +kernel
theorem dX7_undo_32 : decode cX7_undo 32 = .ok (.aload_n 0, 1) := by decide +kernel
theorem dX7_undo_33 : decode cX7_undo 33 = .ok (.getfield 22, 3) := by decide +kernel
theorem dX7_undo_36 : decode cX7_undo 36 = .ok (.invokevirtual 332, 3) := by decide +kernel
theorem dX7_undo_39 : decode cX7_undo 39 = .ok (.ireturn, 1) := by decide +kernel
theorem dX7_save_0 : decode cX7_save 0 = .ok (.aload_n 0, 1) := by decide +kernel
theorem dX7_save_1 : decode cX7_save 1 = .ok (.getfield 16, 3) := by decide +kernel
theorem dX7_save_4 : decode cX7_save 4 = .ok (.aload_n 0, 1) := by decide +kernel
theorem dX7_save_5 : decode cX7_save 5 = .ok (.getfield 12, 3) := by decide +kernel
theorem dX7_save_8 : decode cX7_save 8 = .ok (.invokevirtual 340, 3) := by decide +kernel
theorem dX7_save_11 : decode cX7_save 11 = .ok (.aload_n 0, 1) := by decide +kernel
theorem dX7_save_12 : decode cX7_save 12 = .ok (.iconst 1, 1) := by decide +kernel
theorem dX7_save_13 : decode cX7_save 13 = .ok (.putfield 343, 3) := by decide +kernel
theorem dX7_save_16 : decode cX7_save 16 = .ok (.aload_n 0, 1) := by decide +kernel
theorem dX7_save_17 : decode cX7_save 17 = .ok (.getfield 12, 3) := by decide +kernel
theorem dX7_save_20 : decode cX7_save 20 = .ok (.invokevirtual 159, 3) := by decide +kernel
theorem dX7_save_23 : decode cX7_save 23 = .ok (.ireturn, 1) := by decide +kernel
theorem dX7_restore_0 : decode cX7_restore 0 = .ok (.aload_n 0, 1) := by decide +kernel
theorem dX7_restore_1 : decode cX7_restore 1 = .ok (.getfield 343, 3) := by decide +kernel
theorem dX7_restore_4 : decode cX7_restore 4 = .ok (.ifCond .ne 14, 3) := by decide +kernel
theorem dX7_restore_7 : decode cX7_restore 7 = .ok (.new 52, 3) := by decide +kernel
theorem dX7_restore_10 : decode cX7_restore 10 = .ok (.dup, 1) := by decide +kernel
theorem dX7_restore_11 : decode cX7_restore 11 = .ok (.ldc_w 346, 3) := by decide +kernel
theorem dX7_restore_14 : decode cX7_restore 14 = .ok (.invokespecial 56, 3) := by decide +kernel
theorem dX7_restore_17 : decode cX7_restore 17 = .ok (.athrow, 1) := by decide +kernel
theorem dX7_restore_18 : decode cX7_restore 18 = .ok (.aload_n 0, 1) := by decide +kernel
theorem dX7_restore_19 : decode cX7_restore 19 = .ok (.getfield 12, 3) := by decide +kernel
theorem dX7_restore_22 : decode cX7_restore 22 = .ok (.aload_n 0, 1) := by decide +kernel
theorem dX7_restore_23 : decode cX7_restore 23 = .ok (.getfield 16, 3) := by decide +kernel
theorem dX7_restore_26 : decode cX7_restore 26 = .ok (.invokevirtual 340, 3) := by decide +kernel
theorem dX7_restore_29 : decode cX7_restore 29 = .ok (.aload_n 0, 1) := by decide +kernel
theorem dX7_restore_30 : decode cX7_restore 30 = .ok (.getfield 22, 3) := by decide +kernel
theorem dX7_restore_33 : decode cX7_restore 33 = .ok (.invokevirtual 348, 3) := by decide +kernel
theorem dX7_restore_36 : decode cX7_restore 36 = .ok (.aload_n 0, 1) := by decide +kernel
theorem dX7_restore_37 : decode cX7_restore 37 = .ok (.getfield 12, 3) := by decide +kernel
theorem dX7_restore_40 : decode cX7_restore 40 = .ok (.invokevirtual 159, 3) := by decide +kernel
theorem dX7_restore_43 : decode cX7_restore 43 = .ok (.ireturn, 1) := by decide +kernel
theorem dX7_fetchOrReport_0 : decode cX7_fetchOrReport 0 = .ok (.aload_n 0, 1) := by decide +kernel
theorem dX7_fetchOrReport_1 : decode cX7_fetchOrReport 1 = .ok (.getfield 12, 3) := by decide +kernel
theorem dX7_fetchOrReport_4 : decode cX7_fetchOrReport 4 = .ok (.iload_n 1, 1) := by decide +kernel
theorem dX7_fetchOrReport_5 : decode cX7_fetchOrReport 5 = .ok (.invokevirtual 209, 3) := by decide +kernel
theorem dX7_fetchOrReport_8 : decode cX7_fetchOrReport 8 = .ok (.istore_n 2, 1) := by decide +kernel
theorem dX7_fetchOrReport_9 : decode cX7_fetchOrReport 9 = .ok (.iload_n 2, 1) := by decide +kernel
theorem dX7_fetchOrReport_10 : decode cX7_fetchOrReport 10 = .ok (.ifCond .ne 43, 3) := by decide +kernel
theorem dX7_fetchOrReport_13 : decode cX7_fetchOrReport 13 = .ok (.aload_n 0, 1) := by decide +kernel
theorem dX7_fetchOrReport_14 : decode cX7_fetchOrReport 14 = .ok (.getfield 40, 3) := by decide +kernel
theorem dX7_fetchOrReport_17 : decode cX7_fetchOrReport 17 = .ok (.iconst 0, 1) := by decide +kernel
theorem dX7_fetchOrReport_18 : decode cX7_fetchOrReport 18 = .ok (.iload_n 1, 1) := by decide +kernel
theorem dX7_fetchOrReport_19 : decode cX7_fetchOrReport 19 = .ok (.iastore, 1) := by decide +kernel
theorem dX7_fetchOrReport_20 : decode cX7_fetchOrReport 20 = .ok (.aload_n 0, 1) := by decide +kernel
theorem dX7_fetchOrReport_21 : decode cX7_fetchOrReport 21 = .ok (.getfield 40, 3) := by decide +kernel
theorem dX7_fetchOrReport_24 : decode cX7_fetchOrReport 24 = .ok (.iconst 1, 1) := by decide +kernel
theorem dX7_fetchOrReport_25 : decode cX7_fetchOrReport 25 = .ok (.aload_n 0, 1) := by decide +kernel
theorem dX7_fetchOrReport_26 : decode cX7_fetchOrReport 26 = .ok (.getfield 12, 3) := by decide +kernel
theorem dX7_fetchOrReport_29 : decode cX7_fetchOrReport 29 = .ok (.iload_n 1, 1) := by decide +kernel
theorem dX7_fetchOrReport_30 : decode cX7_fetchOrReport 30 = .ok (.invokevirtual 100, 3) := by decide +kernel
theorem dX7_fetchOrReport_33 : decode cX7_fetchOrReport 33 = .ok (.iastore, 1) := by decide +kernel
theorem dX7_fetchOrReport_34 : decode cX7_fetchOrReport 34 = .ok (.aload_n 0, 1) := by decide +kernel
theorem dX7_fetchOrReport_35 : decode cX7_fetchOrReport 35 = .ok (.getfield 40, 3) := by decide +kernel
theorem dX7_fetchOrReport_38 : decode cX7_fetchOrReport 38 = .ok (.iconst 2, 1) := by decide +kernel
theorem dX7_fetchOrReport_39 : decode cX7_fetchOrReport 39 = .ok (.aload_n 0, 1) := by decide +kernel
theorem dX7_fetchOrReport_40 : decode cX7_fetchOrReport 40 = .ok (.getfield 12, 3) := by decide +kernel
theorem dX7_fetchOrReport_43 : decode cX7_fetchOrReport 43 = .ok (.iconst 0, 1) := by decide +kernel
theorem dX7_fetchOrReport_44 : decode cX7_fetchOrReport 44 = .ok (.invokevirtual 163, 3) := by decide +kernel
theorem dX7_fetchOrReport_47 : decode cX7_fetchOrReport 47 = .ok (.iastore, 1) := by decide +kernel
theorem dX7_fetchOrReport_48 : decode cX7_fetchOrReport 48 = .ok (.aload_n 0, 1) := by decide +kernel
theorem dX7_fetchOrReport_49 : decode cX7_fetchOrReport 49 = .ok (.iconst 1, 1) := by decide +kernel
theorem dX7_fetchOrReport_50 : decode cX7_fetchOrReport 50 = .ok (.putfield 289, 3) := by decide +kernel
theorem dX7_fetchOrReport_53 : decode cX7_fetchOrReport 53 = .ok (.iload_n 2, 1) := by decide +kernel
theorem dX7_fetchOrReport_54 : decode cX7_fetchOrReport 54 = .ok (.ireturn, 1) := by decide +kernel
theorem dX7_carryOut_0 : decode cX7_carryOut 0 = .ok (.iload_n 1, 1) := by decide +kernel
theorem dX7_carryOut_1 : decode cX7_carryOut 1 = .ok (.bipush 115, 2) := by decide +kernel
theorem dX7_carryOut_3 : decode cX7_carryOut 3 = .ok (.if_icmp .ne 32, 3) := by decide +kernel
theorem dX7_carryOut_6 : decode cX7_carryOut 6 = .ok (.aload_n 0, 1) := by decide +kernel
theorem dX7_carryOut_7 : decode cX7_carryOut 7 = .ok (.getfield 12, 3) := by decide +kernel
theorem dX7_carryOut_10 : decode cX7_carryOut 10 = .ok (.invokevirtual 48, 3) := by decide +kernel
theorem dX7_carryOut_13 : decode cX7_carryOut 13 = .ok (.ifCond .ne 20, 3) := by decide +kernel
theorem dX7_carryOut_16 : decode cX7_carryOut 16 = .ok (.aload_n 0, 1) := by decide +kernel
theorem dX7_carryOut_17 : decode cX7_carryOut 17 = .ok (.getfield 12, 3) := by decide +kernel
theorem dX7_carryOut_20 : decode cX7_carryOut 20 = .ok (.iload_n 2, 1) := by decide +kernel
theorem dX7_carryOut_21 : decode cX7_carryOut 21 = .ok (.iload_n 3, 1) := by decide +kernel
theorem dX7_carryOut_22 : decode cX7_carryOut 22 = .ok (.invokevirtual 63, 3) := by decide +kernel
theorem dX7_carryOut_25 : decode cX7_carryOut 25 = .ok (.iconst (-1), 1) := by decide +kernel
theorem dX7_carryOut_26 : decode cX7_carryOut 26 = .ok (.if_icmp .eq 7, 3) := by decide +kernel
theorem dX7_carryOut_29 : decode cX7_carryOut 29 = .ok (.iconst 1, 1) := by decide +kernel
theorem dX7_carryOut_30 : decode cX7_carryOut 30 = .ok (.goto 4, 3) := by decide +kernel
theorem dX7_carryOut_33 : decode cX7_carryOut 33 = .ok (.iconst 0, 1) := by decide +kernel
theorem dX7_carryOut_34 : decode cX7_carryOut 34 = .ok (.ireturn, 1) := by decide +kernel
theorem dX7_carryOut_35 : decode cX7_carryOut 35 = .ok (.iload_n 1, 1) := by decide +kernel
theorem dX7_carryOut_36 : decode cX7_carryOut 36 = .ok (.bipush 114, 2) := by decide +kernel
theorem dX7_carryOut_38 : decode cX7_carryOut 38 = .ok (.if_icmp .ne 28, 3) := by decide +kernel
theorem dX7_carryOut_41 : decode cX7_carryOut 41 = .ok (.aload_n 0, 1) := by decide +kernel
theorem dX7_carryOut_42 : decode cX7_carryOut 42 = .ok (.getfield 12, 3) := by decide +kernel
theorem dX7_carryOut_45 : decode cX7_carryOut 45 = .ok (.iload_n 3, 1) := by decide +kernel
theorem dX7_carryOut_46 : decode cX7_carryOut 46 = .ok (.invokevirtual 351, 3) := by decide +kernel
theorem dX7_carryOut_49 : decode cX7_carryOut 49 = .ok (.ifCond .eq 15, 3) := by decide +kernel
theorem dX7_carryOut_52 : decode cX7_carryOut 52 = .ok (.aload_n 0, 1) := by decide +kernel
theorem dX7_carryOut_53 : decode cX7_carryOut 53 = .ok (.iload_n 3, 1) := by decide +kernel
theorem dX7_carryOut_54 : decode cX7_carryOut 54 = .ok (.invokevirtual 79, 3) := by decide +kernel
theorem dX7_carryOut_57 : decode cX7_carryOut 57 = .ok (.ifCond .eq 7, 3) := by decide +kernel
theorem dX7_carryOut_60 : decode cX7_carryOut 60 = .ok (.iconst 1, 1) := by decide +kernel
theorem dX7_carryOut_61 : decode cX7_carryOut 61 = .ok (.goto 4, 3) := by decide +kernel
theorem dX7_carryOut_64 : decode cX7_carryOut 64 = .ok (.iconst 0, 1) := by decide +kernel
theorem dX7_carryOut_65 : decode cX7_carryOut 65 = .ok (.ireturn, 1) := by decide +kernel
theorem dX7_carryOut_66 : decode cX7_carryOut 66 = .ok (.iload_n 1, 1) := by decide +kernel
theorem dX7_carryOut_67 : decode cX7_carryOut 67 = .ok (.bipush 116, 2) := by decide +kernel
theorem dX7_carryOut_69 : decode cX7_carryOut 69 = .ok (.if_icmp .ne 27, 3) := by decide +kernel
theorem dX7_carryOut_72 : decode cX7_carryOut 72 = .ok (.iload_n 3, 1) := by decide +kernel
theorem dX7_carryOut_73 : decode cX7_carryOut 73 = .ok (.invokestatic 215, 3) := by decide +kernel
theorem dX7_carryOut_76 : decode cX7_carryOut 76 = .ok (.ifCond .eq 18, 3) := by decide +kernel
theorem dX7_carryOut_79 : decode cX7_carryOut 79 = .ok (.aload_n 0, 1) := by decide +kernel
theorem dX7_carryOut_80 : decode cX7_carryOut 80 = .ok (.getfield 12, 3) := by decide +kernel
theorem dX7_carryOut_83 : decode cX7_carryOut 83 = .ok (.iload_n 3, 1) := by decide +kernel
theorem dX7_carryOut_84 : decode cX7_carryOut 84 = .ok (.invokevirtual 220, 3) := by decide +kernel
theorem dX7_carryOut_87 : decode cX7_carryOut 87 = .ok (.ifCond .eq 7, 3) := by decide +kernel
theorem dX7_carryOut_90 : decode cX7_carryOut 90 = .ok (.iconst 1, 1) := by decide +kernel
theorem dX7_carryOut_91 : decode cX7_carryOut 91 = .ok (.goto 4, 3) := by decide +kernel
theorem dX7_carryOut_94 : decode cX7_carryOut 94 = .ok (.iconst 0, 1) := by decide +kernel
theorem dX7_carryOut_95 : decode cX7_carryOut 95 = .ok (.ireturn, 1) := by decide +kernel
theorem dX7_carryOut_96 : decode cX7_carryOut 96 = .ok (.iload_n 3, 1) := by decide +kernel
theorem dX7_carryOut_97 : decode cX7_carryOut 97 = .ok (.invokestatic 354, 3) := by decide +kernel
theorem dX7_carryOut_100 : decode cX7_carryOut 100 = .ok (.ifCond .ne 5, 3) := by decide +kernel
theorem dX7_carryOut_103 : decode cX7_carryOut 103 = .ok (.iconst 0, 1) := by decide +kernel
theorem dX7_carryOut_104 : decode cX7_carryOut 104 = .ok (.ireturn, 1) := by decide +kernel
theorem dX7_carryOut_105 : decode cX7_carryOut 105 = .ok (.aload_n 0, 1) := by decide +kernel
theorem dX7_carryOut_106 : decode cX7_carryOut 106 = .ok (.getfield 12, 3) := by decide +kernel
theorem dX7_carryOut_109 : decode cX7_carryOut 109 = .ok (.iload_n 3, 1) := by decide +kernel
theorem dX7_carryOut_110 : decode cX7_carryOut 110 = .ok (.iload_n 1, 1) := by decide +kernel
theorem dX7_carryOut_111 : decode cX7_carryOut 111 = .ok (.bipush 99, 2) := by decide +kernel
theorem dX7_carryOut_113 : decode cX7_carryOut 113 = .ok (.if_icmp .ne 7, 3) := by decide +kernel
theorem dX7_carryOut_116 : decode cX7_carryOut 116 = .ok (.iconst 1, 1) := by decide +kernel
theorem dX7_carryOut_117 : decode cX7_carryOut 117 = .ok (.goto 4, 3) := by decide +kernel
theorem dX7_carryOut_120 : decode cX7_carryOut 120 = .ok (.iconst 0, 1) := by decide +kernel
theorem dX7_carryOut_121 : decode cX7_carryOut 121 = .ok (.invokevirtual 118, 3) := by decide +kernel
theorem dX7_carryOut_124 : decode cX7_carryOut 124 = .ok (.pop, 1) := by decide +kernel
theorem dX7_carryOut_125 : decode cX7_carryOut 125 = .ok (.iconst 1, 1) := by decide +kernel
theorem dX7_carryOut_126 : decode cX7_carryOut 126 = .ok (.ireturn, 1) := by decide +kernel
theorem dX7_checkSizeAndPickup_0 : decode cX7_checkSizeAndPickup 0 = .ok (.iload_n 1, 1) := by decide +kernel
theorem dX7_checkSizeAndPickup_1 : decode cX7_checkSizeAndPickup 1 = .ok (.ifCond .lt 15, 3) := by decide +kernel
theorem dX7_checkSizeAndPickup_4 : decode cX7_checkSizeAndPickup 4 = .ok (.iload_n 1, 1) := by decide +kernel
theorem dX7_checkSizeAndPickup_5 : decode cX7_checkSizeAndPickup 5 = .ok (.iconst 1, 1) := by decide +kernel
theorem dX7_checkSizeAndPickup_6 : decode cX7_checkSizeAndPickup 6 = .ok (.if_icmp .gt 10, 3) := by decide +kernel
theorem dX7_checkSizeAndPickup_9 : decode cX7_checkSizeAndPickup 9 = .ok (.iload_n 2, 1) := by decide +kernel
theorem dX7_checkSizeAndPickup_10 : decode cX7_checkSizeAndPickup 10 = .ok (.invokestatic 357, 3) := by decide +kernel
theorem dX7_checkSizeAndPickup_13 : decode cX7_checkSizeAndPickup 13 = .ok (.ifCond .ne 14, 3) := by decide +kernel
theorem dX7_checkSizeAndPickup_16 : decode cX7_checkSizeAndPickup 16 = .ok (.new 106, 3) := by decide +kernel
theorem dX7_checkSizeAndPickup_19 : decode cX7_checkSizeAndPickup 19 = .ok (.dup, 1) := by decide +kernel
theorem dX7_checkSizeAndPickup_20 : decode cX7_checkSizeAndPickup 20 = .ok (.ldc_w 360, 3) := by decide +kernel
theorem dX7_checkSizeAndPickup_23 : decode cX7_checkSizeAndPickup 23 = .ok (.invokespecial 110, 3) := by decide +kernel
theorem dX7_checkSizeAndPickup_26 : decode cX7_checkSizeAndPickup 26 = .ok (.athrow, 1) := by decide +kernel
theorem dX7_checkSizeAndPickup_27 : decode cX7_checkSizeAndPickup 27 = .ok (.return_, 1) := by decide +kernel
theorem dX7_checkTime_0 : decode cX7_checkTime 0 = .ok (.iload_n 1, 1) := by decide +kernel
theorem dX7_checkTime_1 : decode cX7_checkTime 1 = .ok (.invokestatic 357, 3) := by decide +kernel
theorem dX7_checkTime_4 : decode cX7_checkTime 4 = .ok (.ifCond .ne 14, 3) := by decide +kernel
theorem dX7_checkTime_7 : decode cX7_checkTime 7 = .ok (.new 106, 3) := by decide +kernel
theorem dX7_checkTime_10 : decode cX7_checkTime 10 = .ok (.dup, 1) := by decide +kernel
theorem dX7_checkTime_11 : decode cX7_checkTime 11 = .ok (.ldc_w 362, 3) := by decide +kernel
theorem dX7_checkTime_14 : decode cX7_checkTime 14 = .ok (.invokespecial 110, 3) := by decide +kernel
theorem dX7_checkTime_17 : decode cX7_checkTime 17 = .ok (.athrow, 1) := by decide +kernel
theorem dX7_checkTime_18 : decode cX7_checkTime 18 = .ok (.return_, 1) := by decide +kernel
theorem dX7_checkStored_0 : decode cX7_checkStored 0 = .ok (.aload_n 0, 1) := by decide +kernel
theorem dX7_checkStored_1 : decode cX7_checkStored 1 = .ok (.getfield 12, 3) := by decide +kernel
theorem dX7_checkStored_4 : decode cX7_checkStored 4 = .ok (.iload_n 1, 1) := by decide +kernel
theorem dX7_checkStored_5 : decode cX7_checkStored 5 = .ok (.invokevirtual 351, 3) := by decide +kernel
theorem dX7_checkStored_8 : decode cX7_checkStored 8 = .ok (.ifCond .ne 14, 3) := by decide +kernel
theorem dX7_checkStored_11 : decode cX7_checkStored 11 = .ok (.new 257, 3) := by decide +kernel
theorem dX7_checkStored_14 : decode cX7_checkStored 14 = .ok (.dup, 1) := by decide +kernel
theorem dX7_checkStored_15 : decode cX7_checkStored 15 = .ok (.ldc_w 364, 3) := by decide +kernel
theorem dX7_checkStored_18 : decode cX7_checkStored 18 = .ok (.invokespecial 261, 3) := by decide +kernel
theorem dX7_checkStored_21 : decode cX7_checkStored 21 = .ok (.athrow, 1) := by decide +kernel
theorem dX7_checkStored_22 : decode cX7_checkStored 22 = .ok (.return_, 1) := by decide +kernel
theorem dX7_checkBay_0 : decode cX7_checkBay 0 = .ok (.iload_n 1, 1) := by decide +kernel
theorem dX7_checkBay_1 : decode cX7_checkBay 1 = .ok (.invokestatic 354, 3) := by decide +kernel
theorem dX7_checkBay_4 : decode cX7_checkBay 4 = .ok (.ifCond .ne 14, 3) := by decide +kernel
theorem dX7_checkBay_7 : decode cX7_checkBay 7 = .ok (.new 257, 3) := by decide +kernel
theorem dX7_checkBay_10 : decode cX7_checkBay 10 = .ok (.dup, 1) := by decide +kernel
theorem dX7_checkBay_11 : decode cX7_checkBay 11 = .ok (.ldc_w 366, 3) := by decide +kernel
theorem dX7_checkBay_14 : decode cX7_checkBay 14 = .ok (.invokespecial 261, 3) := by decide +kernel
theorem dX7_checkBay_17 : decode cX7_checkBay 17 = .ok (.athrow, 1) := by decide +kernel
theorem dX7_checkBay_18 : decode cX7_checkBay 18 = .ok (.return_, 1) := by decide +kernel
theorem dX7_checkMachine_0 : decode cX7_checkMachine 0 = .ok (.iload_n 1, 1) := by decide +kernel
theorem dX7_checkMachine_1 : decode cX7_checkMachine 1 = .ok (.ifCond .lt 8, 3) := by decide +kernel
theorem dX7_checkMachine_4 : decode cX7_checkMachine 4 = .ok (.iload_n 1, 1) := by decide +kernel
theorem dX7_checkMachine_5 : decode cX7_checkMachine 5 = .ok (.iconst 4, 1) := by decide +kernel
theorem dX7_checkMachine_6 : decode cX7_checkMachine 6 = .ok (.if_icmp .lt 14, 3) := by decide +kernel
theorem dX7_checkMachine_9 : decode cX7_checkMachine 9 = .ok (.new 257, 3) := by decide +kernel
theorem dX7_checkMachine_12 : decode cX7_checkMachine 12 = .ok (.dup, 1) := by decide +kernel
theorem dX7_checkMachine_13 : decode cX7_checkMachine 13 = .ok (.ldc_w 368, 3) := by decide +kernel
theorem dX7_checkMachine_16 : decode cX7_checkMachine 16 = .ok (.invokespecial 261, 3) := by decide +kernel
theorem dX7_checkMachine_19 : decode cX7_checkMachine 19 = .ok (.athrow, 1) := by decide +kernel
theorem dX7_checkMachine_20 : decode cX7_checkMachine 20 = .ok (.return_, 1) := by decide +kernel
theorem dX7_checkSet_0 : decode cX7_checkSet 0 = .ok (.lload_n 1, 1) := by decide +kernel
theorem dX7_checkSet_1 : decode cX7_checkSet 1 = .ok (.lconst 0, 1) := by decide +kernel
theorem dX7_checkSet_2 : decode cX7_checkSet 2 = .ok (.lcmp, 1) := by decide +kernel
theorem dX7_checkSet_3 : decode cX7_checkSet 3 = .ok (.ifCond .eq 24, 3) := by decide +kernel
theorem dX7_checkSet_6 : decode cX7_checkSet 6 = .ok (.lload_n 1, 1) := by decide +kernel
theorem dX7_checkSet_7 : decode cX7_checkSet 7 = .ok (.aload_n 0, 1) := by decide +kernel
theorem dX7_checkSet_8 : decode cX7_checkSet 8 = .ok (.getfield 12, 3) := by decide +kernel
theorem dX7_checkSet_11 : decode cX7_checkSet 11 = .ok (.sipush 9999, 3) := by decide +kernel
theorem dX7_checkSet_14 : decode cX7_checkSet 14 = .ok (.invokevirtual 111, 3) := by decide +kernel
theorem dX7_checkSet_17 : decode cX7_checkSet 17 = .ok (.ldc2_w 370, 3) := by decide +kernel
theorem dX7_checkSet_20 : decode cX7_checkSet 20 = .ok (.lxor, 1) := by decide +kernel
theorem dX7_checkSet_21 : decode cX7_checkSet 21 = .ok (.land, 1) := by decide +kernel
theorem dX7_checkSet_22 : decode cX7_checkSet 22 = .ok (.lconst 0, 1) := by decide +kernel
theorem dX7_checkSet_23 : decode cX7_checkSet 23 = .ok (.lcmp, 1) := by decide +kernel
theorem dX7_checkSet_24 : decode cX7_checkSet 24 = .ok (.ifCond .eq 14, 3) := by decide +kernel
theorem dX7_checkSet_27 : decode cX7_checkSet 27 = .ok (.new 257, 3) := by decide +kernel
theorem dX7_checkSet_30 : decode cX7_checkSet 30 = .ok (.dup, 1) := by decide +kernel
theorem dX7_checkSet_31 : decode cX7_checkSet 31 = .ok (.ldc_w 372, 3) := by decide +kernel
theorem dX7_checkSet_34 : decode cX7_checkSet 34 = .ok (.invokespecial 261, 3) := by decide +kernel
theorem dX7_checkSet_37 : decode cX7_checkSet 37 = .ok (.athrow, 1) := by decide +kernel
theorem dX7_checkSet_38 : decode cX7_checkSet 38 = .ok (.lload_n 1, 1) := by decide +kernel
theorem dX7_checkSet_39 : decode cX7_checkSet 39 = .ok (.invokestatic 174, 3) := by decide +kernel
theorem dX7_checkSet_42 : decode cX7_checkSet 42 = .ok (.iconst 5, 1) := by decide +kernel
theorem dX7_checkSet_43 : decode cX7_checkSet 43 = .ok (.if_icmp .le 14, 3) := by decide +kernel
theorem dX7_checkSet_46 : decode cX7_checkSet 46 = .ok (.new 106, 3) := by decide +kernel
theorem dX7_checkSet_49 : decode cX7_checkSet 49 = .ok (.dup, 1) := by decide +kernel
theorem dX7_checkSet_50 : decode cX7_checkSet 50 = .ok (.ldc_w 374, 3) := by decide +kernel
theorem dX7_checkSet_53 : decode cX7_checkSet 53 = .ok (.invokespecial 110, 3) := by decide +kernel
theorem dX7_checkSet_56 : decode cX7_checkSet 56 = .ok (.athrow, 1) := by decide +kernel
theorem dX7_checkSet_57 : decode cX7_checkSet 57 = .ok (.return_, 1) := by decide +kernel
theorem dX7_checkPossible_0 : decode cX7_checkPossible 0 = .ok (.iload_n 1, 1) := by decide +kernel
theorem dX7_checkPossible_1 : decode cX7_checkPossible 1 = .ok (.ifCond .ne 14, 3) := by decide +kernel
theorem dX7_checkPossible_4 : decode cX7_checkPossible 4 = .ok (.new 153, 3) := by decide +kernel
theorem dX7_checkPossible_7 : decode cX7_checkPossible 7 = .ok (.dup, 1) := by decide +kernel
theorem dX7_checkPossible_8 : decode cX7_checkPossible 8 = .ok (.ldc_w 376, 3) := by decide +kernel
theorem dX7_checkPossible_11 : decode cX7_checkPossible 11 = .ok (.invokespecial 155, 3) := by decide +kernel
theorem dX7_checkPossible_14 : decode cX7_checkPossible 14 = .ok (.athrow, 1) := by decide +kernel
theorem dX7_checkPossible_15 : decode cX7_checkPossible 15 = .ok (.return_, 1) := by decide +kernel
theorem dX7_isTime_0 : decode cX7_isTime 0 = .ok (.iload_n 0, 1) := by decide +kernel
theorem dX7_isTime_1 : decode cX7_isTime 1 = .ok (.ifCond .lt 14, 3) := by decide +kernel
theorem dX7_isTime_4 : decode cX7_isTime 4 = .ok (.iload_n 0, 1) := by decide +kernel
theorem dX7_isTime_5 : decode cX7_isTime 5 = .ok (.sipush 9999, 3) := by decide +kernel
theorem dX7_isTime_8 : decode cX7_isTime 8 = .ok (.if_icmp .gt 7, 3) := by decide +kernel
theorem dX7_isTime_11 : decode cX7_isTime 11 = .ok (.iconst 1, 1) := by decide +kernel
theorem dX7_isTime_12 : decode cX7_isTime 12 = .ok (.goto 4, 3) := by decide +kernel
theorem dX7_isTime_15 : decode cX7_isTime 15 = .ok (.iconst 0, 1) := by decide +kernel
theorem dX7_isTime_16 : decode cX7_isTime 16 = .ok (.ireturn, 1) := by decide +kernel
theorem dX7_isPass_0 : decode cX7_isPass 0 = .ok (.iload_n 0, 1) := by decide +kernel
theorem dX7_isPass_1 : decode cX7_isPass 1 = .ok (.iconst 1, 1) := by decide +kernel
theorem dX7_isPass_2 : decode cX7_isPass 2 = .ok (.if_icmp .lt 14, 3) := by decide +kernel
theorem dX7_isPass_5 : decode cX7_isPass 5 = .ok (.iload_n 0, 1) := by decide +kernel
theorem dX7_isPass_6 : decode cX7_isPass 6 = .ok (.sipush 999, 3) := by decide +kernel
theorem dX7_isPass_9 : decode cX7_isPass 9 = .ok (.if_icmp .gt 7, 3) := by decide +kernel
theorem dX7_isPass_12 : decode cX7_isPass 12 = .ok (.iconst 1, 1) := by decide +kernel
theorem dX7_isPass_13 : decode cX7_isPass 13 = .ok (.goto 4, 3) := by decide +kernel
theorem dX7_isPass_16 : decode cX7_isPass 16 = .ok (.iconst 0, 1) := by decide +kernel
theorem dX7_isPass_17 : decode cX7_isPass 17 = .ok (.ireturn, 1) := by decide +kernel
theorem dX7_isBay_0 : decode cX7_isBay 0 = .ok (.iload_n 0, 1) := by decide +kernel
theorem dX7_isBay_1 : decode cX7_isBay 1 = .ok (.ifCond .lt 13, 3) := by decide +kernel
theorem dX7_isBay_4 : decode cX7_isBay 4 = .ok (.iload_n 0, 1) := by decide +kernel
theorem dX7_isBay_5 : decode cX7_isBay 5 = .ok (.bipush 60, 2) := by decide +kernel
theorem dX7_isBay_7 : decode cX7_isBay 7 = .ok (.if_icmp .ge 7, 3) := by decide +kernel
theorem dX7_isBay_10 : decode cX7_isBay 10 = .ok (.iconst 1, 1) := by decide +kernel
theorem dX7_isBay_11 : decode cX7_isBay 11 = .ok (.goto 4, 3) := by decide +kernel
theorem dX7_isBay_14 : decode cX7_isBay 14 = .ok (.iconst 0, 1) := by decide +kernel
theorem dX7_isBay_15 : decode cX7_isBay 15 = .ok (.ireturn, 1) := by decide +kernel
theorem dX7_levelOf_0 : decode cX7_levelOf 0 = .ok (.iload_n 0, 1) := by decide +kernel
theorem dX7_levelOf_1 : decode cX7_levelOf 1 = .ok (.bipush 20, 2) := by decide +kernel
theorem dX7_levelOf_3 : decode cX7_levelOf 3 = .ok (.idiv, 1) := by decide +kernel
theorem dX7_levelOf_4 : decode cX7_levelOf 4 = .ok (.ireturn, 1) := by decide +kernel
theorem dX7_sideOf_0 : decode cX7_sideOf 0 = .ok (.iload_n 0, 1) := by decide +kernel
theorem dX7_sideOf_1 : decode cX7_sideOf 1 = .ok (.bipush 20, 2) := by decide +kernel
theorem dX7_sideOf_3 : decode cX7_sideOf 3 = .ok (.irem, 1) := by decide +kernel
theorem dX7_sideOf_4 : decode cX7_sideOf 4 = .ok (.bipush 10, 2) := by decide +kernel
theorem dX7_sideOf_6 : decode cX7_sideOf 6 = .ok (.idiv, 1) := by decide +kernel
theorem dX7_sideOf_7 : decode cX7_sideOf 7 = .ok (.ireturn, 1) := by decide +kernel
theorem dX7_columnOf_0 : decode cX7_columnOf 0 = .ok (.iload_n 0, 1) := by decide +kernel
theorem dX7_columnOf_1 : decode cX7_columnOf 1 = .ok (.bipush 10, 2) := by decide +kernel
theorem dX7_columnOf_3 : decode cX7_columnOf 3 = .ok (.irem, 1) := by decide +kernel
theorem dX7_columnOf_4 : decode cX7_columnOf 4 = .ok (.iconst 2, 1) := by decide +kernel
theorem dX7_columnOf_5 : decode cX7_columnOf 5 = .ok (.idiv, 1) := by decide +kernel
theorem dX7_columnOf_6 : decode cX7_columnOf 6 = .ok (.ireturn, 1) := by decide +kernel
theorem dX7_depthOf_0 : decode cX7_depthOf 0 = .ok (.iload_n 0, 1) := by decide +kernel
theorem dX7_depthOf_1 : decode cX7_depthOf 1 = .ok (.iconst 2, 1) := by decide +kernel
theorem dX7_depthOf_2 : decode cX7_depthOf 2 = .ok (.irem, 1) := by decide +kernel
theorem dX7_depthOf_3 : decode cX7_depthOf 3 = .ok (.ireturn, 1) := by decide +kernel
theorem dX7_isWide_0 : decode cX7_isWide 0 = .ok (.iload_n 0, 1) := by decide +kernel
theorem dX7_isWide_1 : decode cX7_isWide 1 = .ok (.invokestatic 128, 3) := by decide +kernel
theorem dX7_isWide_4 : decode cX7_isWide 4 = .ok (.iconst 2, 1) := by decide +kernel
theorem dX7_isWide_5 : decode cX7_isWide 5 = .ok (.irem, 1) := by decide +kernel
theorem dX7_isWide_6 : decode cX7_isWide 6 = .ok (.ifCond .ne 7, 3) := by decide +kernel
theorem dX7_isWide_9 : decode cX7_isWide 9 = .ok (.iconst 1, 1) := by decide +kernel
theorem dX7_isWide_10 : decode cX7_isWide 10 = .ok (.goto 4, 3) := by decide +kernel
theorem dX7_isWide_13 : decode cX7_isWide 13 = .ok (.iconst 0, 1) := by decide +kernel
theorem dX7_isWide_14 : decode cX7_isWide 14 = .ok (.ireturn, 1) := by decide +kernel
theorem dX7_effortToStore_0 : decode cX7_effortToStore 0 = .ok (.iconst 3, 1) := by decide +kernel
theorem dX7_effortToStore_1 : decode cX7_effortToStore 1 = .ok (.iload_n 0, 1) := by decide +kernel
theorem dX7_effortToStore_2 : decode cX7_effortToStore 2 = .ok (.invokestatic 122, 3) := by decide +kernel
theorem dX7_effortToStore_5 : decode cX7_effortToStore 5 = .ok (.imul, 1) := by decide +kernel
theorem dX7_effortToStore_6 : decode cX7_effortToStore 6 = .ok (.iload_n 0, 1) := by decide +kernel
theorem dX7_effortToStore_7 : decode cX7_effortToStore 7 = .ok (.invokestatic 128, 3) := by decide +kernel
theorem dX7_effortToStore_10 : decode cX7_effortToStore 10 = .ok (.iadd, 1) := by decide +kernel
theorem dX7_effortToStore_11 : decode cX7_effortToStore 11 = .ok (.iload_n 0, 1) := by decide +kernel
theorem dX7_effortToStore_12 : decode cX7_effortToStore 12 = .ok (.invokestatic 131, 3) := by decide +kernel
theorem dX7_effortToStore_15 : decode cX7_effortToStore 15 = .ok (.iadd, 1) := by decide +kernel
theorem dX7_effortToStore_16 : decode cX7_effortToStore 16 = .ok (.ireturn, 1) := by decide +kernel
theorem dX7_effortToMove_0 : decode cX7_effortToMove 0 = .ok (.iload_n 0, 1) := by decide +kernel
theorem dX7_effortToMove_1 : decode cX7_effortToMove 1 = .ok (.invokestatic 122, 3) := by decide +kernel
theorem dX7_effortToMove_4 : decode cX7_effortToMove 4 = .ok (.iload_n 1, 1) := by decide +kernel
theorem dX7_effortToMove_5 : decode cX7_effortToMove 5 = .ok (.invokestatic 122, 3) := by decide +kernel
theorem dX7_effortToMove_8 : decode cX7_effortToMove 8 = .ok (.if_icmp .ne 21, 3) := by decide +kernel
theorem dX7_effortToMove_11 : decode cX7_effortToMove 11 = .ok (.iload_n 0, 1) := by decide +kernel
theorem dX7_effortToMove_12 : decode cX7_effortToMove 12 = .ok (.invokestatic 128, 3) := by decide +kernel
theorem dX7_effortToMove_15 : decode cX7_effortToMove 15 = .ok (.iload_n 1, 1) := by decide +kernel
theorem dX7_effortToMove_16 : decode cX7_effortToMove 16 = .ok (.invokestatic 128, 3) := by decide +kernel
theorem dX7_effortToMove_19 : decode cX7_effortToMove 19 = .ok (.isub, 1) := by decide +kernel
theorem dX7_effortToMove_20 : decode cX7_effortToMove 20 = .ok (.invokestatic 378, 3) := by decide +kernel
theorem dX7_effortToMove_23 : decode cX7_effortToMove 23 = .ok (.iload_n 1, 1) := by decide +kernel
theorem dX7_effortToMove_24 : decode cX7_effortToMove 24 = .ok (.invokestatic 131, 3) := by decide +kernel
theorem dX7_effortToMove_27 : decode cX7_effortToMove 27 = .ok (.iadd, 1) := by decide +kernel
theorem dX7_effortToMove_28 : decode cX7_effortToMove 28 = .ok (.ireturn, 1) := by decide +kernel
theorem dX7_effortToMove_29 : decode cX7_effortToMove 29 = .ok (.iload_n 0, 1) := by decide +kernel
theorem dX7_effortToMove_30 : decode cX7_effortToMove 30 = .ok (.invokestatic 122, 3) := by decide +kernel
theorem dX7_effortToMove_33 : decode cX7_effortToMove 33 = .ok (.iload_n 1, 1) := by decide +kernel
theorem dX7_effortToMove_34 : decode cX7_effortToMove 34 = .ok (.invokestatic 122, 3) := by decide +kernel
theorem dX7_effortToMove_37 : decode cX7_effortToMove 37 = .ok (.isub, 1) := by decide +kernel
theorem dX7_effortToMove_38 : decode cX7_effortToMove 38 = .ok (.invokestatic 378, 3) := by decide +kernel
theorem dX7_effortToMove_41 : decode cX7_effortToMove 41 = .ok (.istore_n 2, 1) := by decide +kernel
theorem dX7_effortToMove_42 : decode cX7_effortToMove 42 = .ok (.bipush 20, 2) := by decide +kernel
theorem dX7_effortToMove_44 : decode cX7_effortToMove 44 = .ok (.iconst 3, 1) := by decide +kernel
theorem dX7_effortToMove_45 : decode cX7_effortToMove 45 = .ok (.iload_n 2, 1) := by decide +kernel
theorem dX7_effortToMove_46 : decode cX7_effortToMove 46 = .ok (.imul, 1) := by decide +kernel
theorem dX7_effortToMove_47 : decode cX7_effortToMove 47 = .ok (.iadd, 1) := by decide +kernel
theorem dX7_effortToMove_48 : decode cX7_effortToMove 48 = .ok (.iload_n 0, 1) := by decide +kernel
theorem dX7_effortToMove_49 : decode cX7_effortToMove 49 = .ok (.invokestatic 128, 3) := by decide +kernel
theorem dX7_effortToMove_52 : decode cX7_effortToMove 52 = .ok (.iadd, 1) := by decide +kernel
theorem dX7_effortToMove_53 : decode cX7_effortToMove 53 = .ok (.iload_n 1, 1) := by decide +kernel
theorem dX7_effortToMove_54 : decode cX7_effortToMove 54 = .ok (.invokestatic 128, 3) := by decide +kernel
theorem dX7_effortToMove_57 : decode cX7_effortToMove 57 = .ok (.iadd, 1) := by decide +kernel
theorem dX7_effortToMove_58 : decode cX7_effortToMove 58 = .ok (.iload_n 1, 1) := by decide +kernel
theorem dX7_effortToMove_59 : decode cX7_effortToMove 59 = .ok (.invokestatic 131, 3) := by decide +kernel
theorem dX7_effortToMove_62 : decode cX7_effortToMove 62 = .ok (.iadd, 1) := by decide +kernel
theorem dX7_effortToMove_63 : decode cX7_effortToMove 63 = .ok (.ireturn, 1) := by decide +kernel
theorem dJ13_bitCount_95d88_0 : decode cJ13_bitCount_95d88 0 = .ok (.lload_n 0, 1) := by decide +kernel
theorem dJ13_bitCount_95d88_1 : decode cJ13_bitCount_95d88 1 = .ok (.lload_n 0, 1) := by decide +kernel
theorem dJ13_bitCount_95d88_2 : decode cJ13_bitCount_95d88 2 = .ok (.iconst 1, 1) := by decide +kernel
theorem dJ13_bitCount_95d88_3 : decode cJ13_bitCount_95d88 3 = .ok (.lushr, 1) := by decide +kernel
theorem dJ13_bitCount_95d88_4 : decode cJ13_bitCount_95d88 4 = .ok (.ldc2_w 314, 3) := by decide +kernel
theorem dJ13_bitCount_95d88_7 : decode cJ13_bitCount_95d88 7 = .ok (.land, 1) := by decide +kernel
theorem dJ13_bitCount_95d88_8 : decode cJ13_bitCount_95d88 8 = .ok (.lsub, 1) := by decide +kernel
theorem dJ13_bitCount_95d88_9 : decode cJ13_bitCount_95d88 9 = .ok (.lstore_n 0, 1) := by decide +kernel
theorem dJ13_bitCount_95d88_10 : decode cJ13_bitCount_95d88 10 = .ok (.lload_n 0, 1) := by decide +kernel
theorem dJ13_bitCount_95d88_11 : decode cJ13_bitCount_95d88 11 = .ok (.ldc2_w 316, 3) := by decide +kernel
theorem dJ13_bitCount_95d88_14 : decode cJ13_bitCount_95d88 14 = .ok (.land, 1) := by decide +kernel
theorem dJ13_bitCount_95d88_15 : decode cJ13_bitCount_95d88 15 = .ok (.lload_n 0, 1) := by decide +kernel
theorem dJ13_bitCount_95d88_16 : decode cJ13_bitCount_95d88 16 = .ok (.iconst 2, 1) := by decide +kernel
theorem dJ13_bitCount_95d88_17 : decode cJ13_bitCount_95d88 17 = .ok (.lushr, 1) := by decide +kernel
theorem dJ13_bitCount_95d88_18 : decode cJ13_bitCount_95d88 18 = .ok (.ldc2_w 316, 3) := by decide +kernel
theorem dJ13_bitCount_95d88_21 : decode cJ13_bitCount_95d88 21 = .ok (.land, 1) := by decide +kernel
theorem dJ13_bitCount_95d88_22 : decode cJ13_bitCount_95d88 22 = .ok (.ladd, 1) := by decide +kernel
theorem dJ13_bitCount_95d88_23 : decode cJ13_bitCount_95d88 23 = .ok (.lstore_n 0, 1) := by decide +kernel
theorem dJ13_bitCount_95d88_24 : decode cJ13_bitCount_95d88 24 = .ok (.lload_n 0, 1) := by decide +kernel
theorem dJ13_bitCount_95d88_25 : decode cJ13_bitCount_95d88 25 = .ok (.lload_n 0, 1) := by decide +kernel
theorem dJ13_bitCount_95d88_26 : decode cJ13_bitCount_95d88 26 = .ok (.iconst 4, 1) := by decide +kernel
theorem dJ13_bitCount_95d88_27 : decode cJ13_bitCount_95d88 27 = .ok (.lushr, 1) := by decide +kernel
theorem dJ13_bitCount_95d88_28 : decode cJ13_bitCount_95d88 28 = .ok (.ladd, 1) := by decide +kernel
theorem dJ13_bitCount_95d88_29 : decode cJ13_bitCount_95d88 29 = .ok (.ldc2_w 318, 3) := by decide +kernel
theorem dJ13_bitCount_95d88_32 : decode cJ13_bitCount_95d88 32 = .ok (.land, 1) := by decide +kernel
theorem dJ13_bitCount_95d88_33 : decode cJ13_bitCount_95d88 33 = .ok (.lstore_n 0, 1) := by decide +kernel
theorem dJ13_bitCount_95d88_34 : decode cJ13_bitCount_95d88 34 = .ok (.lload_n 0, 1) := by decide +kernel
theorem dJ13_bitCount_95d88_35 : decode cJ13_bitCount_95d88 35 = .ok (.lload_n 0, 1) := by decide +kernel
theorem dJ13_bitCount_95d88_36 : decode cJ13_bitCount_95d88 36 = .ok (.bipush 8, 2) := by decide +kernel
theorem dJ13_bitCount_95d88_38 : decode cJ13_bitCount_95d88 38 = .ok (.lushr, 1) := by decide +kernel
theorem dJ13_bitCount_95d88_39 : decode cJ13_bitCount_95d88 39 = .ok (.ladd, 1) := by decide +kernel
theorem dJ13_bitCount_95d88_40 : decode cJ13_bitCount_95d88 40 = .ok (.lstore_n 0, 1) := by decide +kernel
theorem dJ13_bitCount_95d88_41 : decode cJ13_bitCount_95d88 41 = .ok (.lload_n 0, 1) := by decide +kernel
theorem dJ13_bitCount_95d88_42 : decode cJ13_bitCount_95d88 42 = .ok (.lload_n 0, 1) := by decide +kernel
theorem dJ13_bitCount_95d88_43 : decode cJ13_bitCount_95d88 43 = .ok (.bipush 16, 2) := by decide +kernel
theorem dJ13_bitCount_95d88_45 : decode cJ13_bitCount_95d88 45 = .ok (.lushr, 1) := by decide +kernel
theorem dJ13_bitCount_95d88_46 : decode cJ13_bitCount_95d88 46 = .ok (.ladd, 1) := by decide +kernel
theorem dJ13_bitCount_95d88_47 : decode cJ13_bitCount_95d88 47 = .ok (.lstore_n 0, 1) := by decide +kernel
theorem dJ13_bitCount_95d88_48 : decode cJ13_bitCount_95d88 48 = .ok (.lload_n 0, 1) := by decide +kernel
theorem dJ13_bitCount_95d88_49 : decode cJ13_bitCount_95d88 49 = .ok (.lload_n 0, 1) := by decide +kernel
theorem dJ13_bitCount_95d88_50 : decode cJ13_bitCount_95d88 50 = .ok (.bipush 32, 2) := by decide +kernel
theorem dJ13_bitCount_95d88_52 : decode cJ13_bitCount_95d88 52 = .ok (.lushr, 1) := by decide +kernel
theorem dJ13_bitCount_95d88_53 : decode cJ13_bitCount_95d88 53 = .ok (.ladd, 1) := by decide +kernel
theorem dJ13_bitCount_95d88_54 : decode cJ13_bitCount_95d88 54 = .ok (.lstore_n 0, 1) := by decide +kernel
theorem dJ13_bitCount_95d88_55 : decode cJ13_bitCount_95d88 55 = .ok (.lload_n 0, 1) := by decide +kernel
theorem dJ13_bitCount_95d88_56 : decode cJ13_bitCount_95d88 56 = .ok (.l2i, 1) := by decide +kernel
theorem dJ13_bitCount_95d88_57 : decode cJ13_bitCount_95d88 57 = .ok (.bipush 127, 2) := by decide +kernel
theorem dJ13_bitCount_95d88_59 : decode cJ13_bitCount_95d88 59 = .ok (.iand, 1) := by decide +kernel
theorem dJ13_bitCount_95d88_60 : decode cJ13_bitCount_95d88 60 = .ok (.ireturn, 1) := by decide +kernel
theorem dL_store_0 : decode cL_store 0 = .ok (.aload_n 3, 1) := by decide +kernel
theorem dL_store_1 : decode cL_store 1 = .ok (.iconst 0, 1) := by decide +kernel
theorem dL_store_2 : decode cL_store 2 = .ok (.aload_n 0, 1) := by decide +kernel
theorem dL_store_3 : decode cL_store 3 = .ok (.iload_n 1, 1) := by decide +kernel
theorem dL_store_4 : decode cL_store 4 = .ok (.iload_n 2, 1) := by decide +kernel
theorem dL_store_5 : decode cL_store 5 = .ok (.invokevirtual 7, 3) := by decide +kernel
theorem dL_store_8 : decode cL_store 8 = .ok (.i2l, 1) := by decide +kernel
theorem dL_store_9 : decode cL_store 9 = .ok (.lastore, 1) := by decide +kernel
theorem dL_store_10 : decode cL_store 10 = .ok (.goto 15, 3) := by decide +kernel
theorem dL_store_13 : decode cL_store 13 = .ok (.astore 4, 2) := by decide +kernel
theorem dL_store_15 : decode cL_store 15 = .ok (.iconst 1, 1) := by decide +kernel
theorem dL_store_16 : decode cL_store 16 = .ok (.ireturn, 1) := by decide +kernel
theorem dL_store_17 : decode cL_store 17 = .ok (.astore 4, 2) := by decide +kernel
theorem dL_store_19 : decode cL_store 19 = .ok (.iconst 2, 1) := by decide +kernel
theorem dL_store_20 : decode cL_store 20 = .ok (.ireturn, 1) := by decide +kernel
theorem dL_store_21 : decode cL_store 21 = .ok (.astore 4, 2) := by decide +kernel
theorem dL_store_23 : decode cL_store 23 = .ok (.iconst 3, 1) := by decide +kernel
theorem dL_store_24 : decode cL_store 24 = .ok (.ireturn, 1) := by decide +kernel
theorem dL_store_25 : decode cL_store 25 = .ok (.iconst 0, 1) := by decide +kernel
theorem dL_store_26 : decode cL_store 26 = .ok (.ireturn, 1) := by decide +kernel
theorem dL_retrieve_0 : decode cL_retrieve 0 = .ok (.aload_n 2, 1) := by decide +kernel
theorem dL_retrieve_1 : decode cL_retrieve 1 = .ok (.iconst 0, 1) := by decide +kernel
theorem dL_retrieve_2 : decode cL_retrieve 2 = .ok (.aload_n 0, 1) := by decide +kernel
theorem dL_retrieve_3 : decode cL_retrieve 3 = .ok (.iload_n 1, 1) := by decide +kernel
theorem dL_retrieve_4 : decode cL_retrieve 4 = .ok (.invokevirtual 19, 3) := by decide +kernel
theorem dL_retrieve_7 : decode cL_retrieve 7 = .ok (.i2l, 1) := by decide +kernel
theorem dL_retrieve_8 : decode cL_retrieve 8 = .ok (.lastore, 1) := by decide +kernel
theorem dL_retrieve_9 : decode cL_retrieve 9 = .ok (.goto 9, 3) := by decide +kernel
theorem dL_retrieve_12 : decode cL_retrieve 12 = .ok (.astore_n 3, 1) := by decide +kernel
theorem dL_retrieve_13 : decode cL_retrieve 13 = .ok (.iconst 1, 1) := by decide +kernel
theorem dL_retrieve_14 : decode cL_retrieve 14 = .ok (.ireturn, 1) := by decide +kernel
theorem dL_retrieve_15 : decode cL_retrieve 15 = .ok (.astore_n 3, 1) := by decide +kernel
theorem dL_retrieve_16 : decode cL_retrieve 16 = .ok (.iconst 2, 1) := by decide +kernel
theorem dL_retrieve_17 : decode cL_retrieve 17 = .ok (.ireturn, 1) := by decide +kernel
theorem dL_retrieve_18 : decode cL_retrieve 18 = .ok (.iconst 0, 1) := by decide +kernel
theorem dL_retrieve_19 : decode cL_retrieve 19 = .ok (.ireturn, 1) := by decide +kernel
theorem dL_book_0 : decode cL_book 0 = .ok (.aload_n 3, 1) := by decide +kernel
theorem dL_book_1 : decode cL_book 1 = .ok (.iconst 0, 1) := by decide +kernel
theorem dL_book_2 : decode cL_book 2 = .ok (.aload_n 0, 1) := by decide +kernel
theorem dL_book_3 : decode cL_book 3 = .ok (.iload_n 1, 1) := by decide +kernel
theorem dL_book_4 : decode cL_book 4 = .ok (.iload_n 2, 1) := by decide +kernel
theorem dL_book_5 : decode cL_book 5 = .ok (.invokevirtual 25, 3) := by decide +kernel
theorem dL_book_8 : decode cL_book 8 = .ok (.i2l, 1) := by decide +kernel
theorem dL_book_9 : decode cL_book 9 = .ok (.lastore, 1) := by decide +kernel
theorem dL_book_10 : decode cL_book 10 = .ok (.goto 11, 3) := by decide +kernel
theorem dL_book_13 : decode cL_book 13 = .ok (.astore 4, 2) := by decide +kernel
theorem dL_book_15 : decode cL_book 15 = .ok (.iconst 1, 1) := by decide +kernel
theorem dL_book_16 : decode cL_book 16 = .ok (.ireturn, 1) := by decide +kernel
theorem dL_book_17 : decode cL_book 17 = .ok (.astore 4, 2) := by decide +kernel
theorem dL_book_19 : decode cL_book 19 = .ok (.iconst 2, 1) := by decide +kernel
theorem dL_book_20 : decode cL_book 20 = .ok (.ireturn, 1) := by decide +kernel
theorem dL_book_21 : decode cL_book 21 = .ok (.iconst 0, 1) := by decide +kernel
theorem dL_book_22 : decode cL_book 22 = .ok (.ireturn, 1) := by decide +kernel
theorem dL_car_0 : decode cL_car 0 = .ok (.aload_n 3, 1) := by decide +kernel
theorem dL_car_1 : decode cL_car 1 = .ok (.iconst 0, 1) := by decide +kernel
theorem dL_car_2 : decode cL_car 2 = .ok (.aload_n 0, 1) := by decide +kernel
theorem dL_car_3 : decode cL_car 3 = .ok (.iload_n 1, 1) := by decide +kernel
theorem dL_car_4 : decode cL_car 4 = .ok (.iload_n 2, 1) := by decide +kernel
theorem dL_car_5 : decode cL_car 5 = .ok (.invokevirtual 28, 3) := by decide +kernel
theorem dL_car_8 : decode cL_car 8 = .ok (.i2l, 1) := by decide +kernel
theorem dL_car_9 : decode cL_car 9 = .ok (.lastore, 1) := by decide +kernel
theorem dL_car_10 : decode cL_car 10 = .ok (.goto 11, 3) := by decide +kernel
theorem dL_car_13 : decode cL_car 13 = .ok (.astore 4, 2) := by decide +kernel
theorem dL_car_15 : decode cL_car 15 = .ok (.iconst 1, 1) := by decide +kernel
theorem dL_car_16 : decode cL_car 16 = .ok (.ireturn, 1) := by decide +kernel
theorem dL_car_17 : decode cL_car 17 = .ok (.astore 4, 2) := by decide +kernel
theorem dL_car_19 : decode cL_car 19 = .ok (.iconst 2, 1) := by decide +kernel
theorem dL_car_20 : decode cL_car 20 = .ok (.ireturn, 1) := by decide +kernel
theorem dL_car_21 : decode cL_car 21 = .ok (.iconst 0, 1) := by decide +kernel
theorem dL_car_22 : decode cL_car 22 = .ok (.ireturn, 1) := by decide +kernel
theorem dL_due_0 : decode cL_due 0 = .ok (.aload_n 2, 1) := by decide +kernel
theorem dL_due_1 : decode cL_due 1 = .ok (.iconst 0, 1) := by decide +kernel
theorem dL_due_2 : decode cL_due 2 = .ok (.aload_n 0, 1) := by decide +kernel
theorem dL_due_3 : decode cL_due 3 = .ok (.iload_n 1, 1) := by decide +kernel
theorem dL_due_4 : decode cL_due 4 = .ok (.invokevirtual 31, 3) := by decide +kernel
theorem dL_due_7 : decode cL_due 7 = .ok (.lastore, 1) := by decide +kernel
theorem dL_due_8 : decode cL_due 8 = .ok (.goto 6, 3) := by decide +kernel
theorem dL_due_11 : decode cL_due 11 = .ok (.astore_n 3, 1) := by decide +kernel
theorem dL_due_12 : decode cL_due 12 = .ok (.iconst 1, 1) := by decide +kernel
theorem dL_due_13 : decode cL_due 13 = .ok (.ireturn, 1) := by decide +kernel
theorem dL_due_14 : decode cL_due 14 = .ok (.iconst 0, 1) := by decide +kernel
theorem dL_due_15 : decode cL_due 15 = .ok (.ireturn, 1) := by decide +kernel
theorem dL_setClosed_0 : decode cL_setClosed 0 = .ok (.aload_n 3, 1) := by decide +kernel
theorem dL_setClosed_1 : decode cL_setClosed 1 = .ok (.iconst 0, 1) := by decide +kernel
theorem dL_setClosed_2 : decode cL_setClosed 2 = .ok (.aload_n 0, 1) := by decide +kernel
theorem dL_setClosed_3 : decode cL_setClosed 3 = .ok (.iload_n 1, 1) := by decide +kernel
theorem dL_setClosed_4 : decode cL_setClosed 4 = .ok (.iload_n 2, 1) := by decide +kernel
theorem dL_setClosed_5 : decode cL_setClosed 5 = .ok (.invokevirtual 35, 3) := by decide +kernel
theorem dL_setClosed_8 : decode cL_setClosed 8 = .ok (.ifCond .eq 7, 3) := by decide +kernel
theorem dL_setClosed_11 : decode cL_setClosed 11 = .ok (.lconst 1, 1) := by decide +kernel
theorem dL_setClosed_12 : decode cL_setClosed 12 = .ok (.goto 4, 3) := by decide +kernel
theorem dL_setClosed_15 : decode cL_setClosed 15 = .ok (.lconst 0, 1) := by decide +kernel
theorem dL_setClosed_16 : decode cL_setClosed 16 = .ok (.lastore, 1) := by decide +kernel
theorem dL_setClosed_17 : decode cL_setClosed 17 = .ok (.goto 7, 3) := by decide +kernel
theorem dL_setClosed_20 : decode cL_setClosed 20 = .ok (.astore 4, 2) := by decide +kernel
theorem dL_setClosed_22 : decode cL_setClosed 22 = .ok (.iconst 1, 1) := by decide +kernel
theorem dL_setClosed_23 : decode cL_setClosed 23 = .ok (.ireturn, 1) := by decide +kernel
theorem dL_setClosed_24 : decode cL_setClosed 24 = .ok (.iconst 0, 1) := by decide +kernel
theorem dL_setClosed_25 : decode cL_setClosed 25 = .ok (.ireturn, 1) := by decide +kernel
theorem dL_bay_0 : decode cL_bay 0 = .ok (.aload_n 3, 1) := by decide +kernel
theorem dL_bay_1 : decode cL_bay 1 = .ok (.iconst 0, 1) := by decide +kernel
theorem dL_bay_2 : decode cL_bay 2 = .ok (.aload_n 0, 1) := by decide +kernel
theorem dL_bay_3 : decode cL_bay 3 = .ok (.iload_n 1, 1) := by decide +kernel
theorem dL_bay_4 : decode cL_bay 4 = .ok (.iload_n 2, 1) := by decide +kernel
theorem dL_bay_5 : decode cL_bay 5 = .ok (.invokevirtual 39, 3) := by decide +kernel
theorem dL_bay_8 : decode cL_bay 8 = .ok (.i2l, 1) := by decide +kernel
theorem dL_bay_9 : decode cL_bay 9 = .ok (.lastore, 1) := by decide +kernel
theorem dL_bay_10 : decode cL_bay 10 = .ok (.goto 11, 3) := by decide +kernel
theorem dL_bay_13 : decode cL_bay 13 = .ok (.astore 4, 2) := by decide +kernel
theorem dL_bay_15 : decode cL_bay 15 = .ok (.iconst 1, 1) := by decide +kernel
theorem dL_bay_16 : decode cL_bay 16 = .ok (.ireturn, 1) := by decide +kernel
theorem dL_bay_17 : decode cL_bay 17 = .ok (.astore 4, 2) := by decide +kernel
theorem dL_bay_19 : decode cL_bay 19 = .ok (.iconst 2, 1) := by decide +kernel
theorem dL_bay_20 : decode cL_bay 20 = .ok (.ireturn, 1) := by decide +kernel
theorem dL_bay_21 : decode cL_bay 21 = .ok (.iconst 0, 1) := by decide +kernel
theorem dL_bay_22 : decode cL_bay 22 = .ok (.ireturn, 1) := by decide +kernel
theorem dL_choice_0 : decode cL_choice 0 = .ok (.aload_n 3, 1) := by decide +kernel
theorem dL_choice_1 : decode cL_choice 1 = .ok (.iconst 0, 1) := by decide +kernel
theorem dL_choice_2 : decode cL_choice 2 = .ok (.aload_n 0, 1) := by decide +kernel
theorem dL_choice_3 : decode cL_choice 3 = .ok (.iload_n 1, 1) := by decide +kernel
theorem dL_choice_4 : decode cL_choice 4 = .ok (.iload_n 2, 1) := by decide +kernel
theorem dL_choice_5 : decode cL_choice 5 = .ok (.invokevirtual 42, 3) := by decide +kernel
theorem dL_choice_8 : decode cL_choice 8 = .ok (.i2l, 1) := by decide +kernel
theorem dL_choice_9 : decode cL_choice 9 = .ok (.lastore, 1) := by decide +kernel
theorem dL_choice_10 : decode cL_choice 10 = .ok (.goto 11, 3) := by decide +kernel
theorem dL_choice_13 : decode cL_choice 13 = .ok (.astore 4, 2) := by decide +kernel
theorem dL_choice_15 : decode cL_choice 15 = .ok (.iconst 1, 1) := by decide +kernel
theorem dL_choice_16 : decode cL_choice 16 = .ok (.ireturn, 1) := by decide +kernel
theorem dL_choice_17 : decode cL_choice 17 = .ok (.astore 4, 2) := by decide +kernel
theorem dL_choice_19 : decode cL_choice 19 = .ok (.iconst 2, 1) := by decide +kernel
theorem dL_choice_20 : decode cL_choice 20 = .ok (.ireturn, 1) := by decide +kernel
theorem dL_choice_21 : decode cL_choice 21 = .ok (.iconst 0, 1) := by decide +kernel
theorem dL_choice_22 : decode cL_choice 22 = .ok (.ireturn, 1) := by decide +kernel
theorem dL_refuge_0 : decode cL_refuge 0 = .ok (.aload_n 2, 1) := by decide +kernel
theorem dL_refuge_1 : decode cL_refuge 1 = .ok (.iconst 0, 1) := by decide +kernel
theorem dL_refuge_2 : decode cL_refuge 2 = .ok (.aload_n 0, 1) := by decide +kernel
theorem dL_refuge_3 : decode cL_refuge 3 = .ok (.iload_n 1, 1) := by decide +kernel
theorem dL_refuge_4 : decode cL_refuge 4 = .ok (.invokevirtual 47, 3) := by decide +kernel
theorem dL_refuge_7 : decode cL_refuge 7 = .ok (.i2l, 1) := by decide +kernel
theorem dL_refuge_8 : decode cL_refuge 8 = .ok (.lastore, 1) := by decide +kernel
theorem dL_refuge_9 : decode cL_refuge 9 = .ok (.goto 9, 3) := by decide +kernel
theorem dL_refuge_12 : decode cL_refuge 12 = .ok (.astore_n 3, 1) := by decide +kernel
theorem dL_refuge_13 : decode cL_refuge 13 = .ok (.iconst 1, 1) := by decide +kernel
theorem dL_refuge_14 : decode cL_refuge 14 = .ok (.ireturn, 1) := by decide +kernel
theorem dL_refuge_15 : decode cL_refuge 15 = .ok (.astore_n 3, 1) := by decide +kernel
theorem dL_refuge_16 : decode cL_refuge 16 = .ok (.iconst 2, 1) := by decide +kernel
theorem dL_refuge_17 : decode cL_refuge 17 = .ok (.ireturn, 1) := by decide +kernel
theorem dL_refuge_18 : decode cL_refuge 18 = .ok (.iconst 0, 1) := by decide +kernel
theorem dL_refuge_19 : decode cL_refuge 19 = .ok (.ireturn, 1) := by decide +kernel
theorem dL_bays_0 : decode cL_bays 0 = .ok (.aload_n 2, 1) := by decide +kernel
theorem dL_bays_1 : decode cL_bays 1 = .ok (.iconst 0, 1) := by decide +kernel
theorem dL_bays_2 : decode cL_bays 2 = .ok (.aload_n 0, 1) := by decide +kernel
theorem dL_bays_3 : decode cL_bays 3 = .ok (.iload_n 1, 1) := by decide +kernel
theorem dL_bays_4 : decode cL_bays 4 = .ok (.invokevirtual 50, 3) := by decide +kernel
theorem dL_bays_7 : decode cL_bays 7 = .ok (.i2l, 1) := by decide +kernel
theorem dL_bays_8 : decode cL_bays 8 = .ok (.lastore, 1) := by decide +kernel
theorem dL_bays_9 : decode cL_bays 9 = .ok (.goto 6, 3) := by decide +kernel
theorem dL_bays_12 : decode cL_bays 12 = .ok (.astore_n 3, 1) := by decide +kernel
theorem dL_bays_13 : decode cL_bays 13 = .ok (.iconst 1, 1) := by decide +kernel
theorem dL_bays_14 : decode cL_bays 14 = .ok (.ireturn, 1) := by decide +kernel
theorem dL_bays_15 : decode cL_bays 15 = .ok (.iconst 0, 1) := by decide +kernel
theorem dL_bays_16 : decode cL_bays 16 = .ok (.ireturn, 1) := by decide +kernel
theorem dL_bestMoves_0 : decode cL_bestMoves 0 = .ok (.aload_n 3, 1) := by decide +kernel
theorem dL_bestMoves_1 : decode cL_bestMoves 1 = .ok (.iconst 0, 1) := by decide +kernel
theorem dL_bestMoves_2 : decode cL_bestMoves 2 = .ok (.aload_n 0, 1) := by decide +kernel
theorem dL_bestMoves_3 : decode cL_bestMoves 3 = .ok (.lload_n 1, 1) := by decide +kernel
theorem dL_bestMoves_4 : decode cL_bestMoves 4 = .ok (.invokevirtual 53, 3) := by decide +kernel
theorem dL_bestMoves_7 : decode cL_bestMoves 7 = .ok (.i2l, 1) := by decide +kernel
theorem dL_bestMoves_8 : decode cL_bestMoves 8 = .ok (.lastore, 1) := by decide +kernel
theorem dL_bestMoves_9 : decode cL_bestMoves 9 = .ok (.goto 15, 3) := by decide +kernel
theorem dL_bestMoves_12 : decode cL_bestMoves 12 = .ok (.astore 4, 2) := by decide +kernel
theorem dL_bestMoves_14 : decode cL_bestMoves 14 = .ok (.iconst 1, 1) := by decide +kernel
theorem dL_bestMoves_15 : decode cL_bestMoves 15 = .ok (.ireturn, 1) := by decide +kernel
theorem dL_bestMoves_16 : decode cL_bestMoves 16 = .ok (.astore 4, 2) := by decide +kernel
theorem dL_bestMoves_18 : decode cL_bestMoves 18 = .ok (.iconst 2, 1) := by decide +kernel
theorem dL_bestMoves_19 : decode cL_bestMoves 19 = .ok (.ireturn, 1) := by decide +kernel
theorem dL_bestMoves_20 : decode cL_bestMoves 20 = .ok (.astore 4, 2) := by decide +kernel
theorem dL_bestMoves_22 : decode cL_bestMoves 22 = .ok (.iconst 3, 1) := by decide +kernel
theorem dL_bestMoves_23 : decode cL_bestMoves 23 = .ok (.ireturn, 1) := by decide +kernel
theorem dL_bestMoves_24 : decode cL_bestMoves 24 = .ok (.iconst 0, 1) := by decide +kernel
theorem dL_bestMoves_25 : decode cL_bestMoves 25 = .ok (.ireturn, 1) := by decide +kernel
theorem dL_bestEnd_0 : decode cL_bestEnd 0 = .ok (.aload_n 3, 1) := by decide +kernel
theorem dL_bestEnd_1 : decode cL_bestEnd 1 = .ok (.iconst 0, 1) := by decide +kernel
theorem dL_bestEnd_2 : decode cL_bestEnd 2 = .ok (.aload_n 0, 1) := by decide +kernel
theorem dL_bestEnd_3 : decode cL_bestEnd 3 = .ok (.lload_n 1, 1) := by decide +kernel
theorem dL_bestEnd_4 : decode cL_bestEnd 4 = .ok (.invokevirtual 57, 3) := by decide +kernel
theorem dL_bestEnd_7 : decode cL_bestEnd 7 = .ok (.i2l, 1) := by decide +kernel
theorem dL_bestEnd_8 : decode cL_bestEnd 8 = .ok (.lastore, 1) := by decide +kernel
theorem dL_bestEnd_9 : decode cL_bestEnd 9 = .ok (.goto 15, 3) := by decide +kernel
theorem dL_bestEnd_12 : decode cL_bestEnd 12 = .ok (.astore 4, 2) := by decide +kernel
theorem dL_bestEnd_14 : decode cL_bestEnd 14 = .ok (.iconst 1, 1) := by decide +kernel
theorem dL_bestEnd_15 : decode cL_bestEnd 15 = .ok (.ireturn, 1) := by decide +kernel
theorem dL_bestEnd_16 : decode cL_bestEnd 16 = .ok (.astore 4, 2) := by decide +kernel
theorem dL_bestEnd_18 : decode cL_bestEnd 18 = .ok (.iconst 2, 1) := by decide +kernel
theorem dL_bestEnd_19 : decode cL_bestEnd 19 = .ok (.ireturn, 1) := by decide +kernel
theorem dL_bestEnd_20 : decode cL_bestEnd 20 = .ok (.astore 4, 2) := by decide +kernel
theorem dL_bestEnd_22 : decode cL_bestEnd 22 = .ok (.iconst 3, 1) := by decide +kernel
theorem dL_bestEnd_23 : decode cL_bestEnd 23 = .ok (.ireturn, 1) := by decide +kernel
theorem dL_bestEnd_24 : decode cL_bestEnd 24 = .ok (.iconst 0, 1) := by decide +kernel
theorem dL_bestEnd_25 : decode cL_bestEnd 25 = .ok (.ireturn, 1) := by decide +kernel
theorem dL_bestCar_0 : decode cL_bestCar 0 = .ok (.aload 4, 2) := by decide +kernel
theorem dL_bestCar_2 : decode cL_bestCar 2 = .ok (.iconst 0, 1) := by decide +kernel
theorem dL_bestCar_3 : decode cL_bestCar 3 = .ok (.aload_n 0, 1) := by decide +kernel
theorem dL_bestCar_4 : decode cL_bestCar 4 = .ok (.lload_n 1, 1) := by decide +kernel
theorem dL_bestCar_5 : decode cL_bestCar 5 = .ok (.iload_n 3, 1) := by decide +kernel
theorem dL_bestCar_6 : decode cL_bestCar 6 = .ok (.invokevirtual 60, 3) := by decide +kernel
theorem dL_bestCar_9 : decode cL_bestCar 9 = .ok (.i2l, 1) := by decide +kernel
theorem dL_bestCar_10 : decode cL_bestCar 10 = .ok (.lastore, 1) := by decide +kernel
theorem dL_bestCar_11 : decode cL_bestCar 11 = .ok (.goto 15, 3) := by decide +kernel
theorem dL_bestCar_14 : decode cL_bestCar 14 = .ok (.astore 5, 2) := by decide +kernel
theorem dL_bestCar_16 : decode cL_bestCar 16 = .ok (.iconst 1, 1) := by decide +kernel
theorem dL_bestCar_17 : decode cL_bestCar 17 = .ok (.ireturn, 1) := by decide +kernel
theorem dL_bestCar_18 : decode cL_bestCar 18 = .ok (.astore 5, 2) := by decide +kernel
theorem dL_bestCar_20 : decode cL_bestCar 20 = .ok (.iconst 2, 1) := by decide +kernel
theorem dL_bestCar_21 : decode cL_bestCar 21 = .ok (.ireturn, 1) := by decide +kernel
theorem dL_bestCar_22 : decode cL_bestCar 22 = .ok (.astore 5, 2) := by decide +kernel
theorem dL_bestCar_24 : decode cL_bestCar 24 = .ok (.iconst 3, 1) := by decide +kernel
theorem dL_bestCar_25 : decode cL_bestCar 25 = .ok (.ireturn, 1) := by decide +kernel
theorem dL_bestCar_26 : decode cL_bestCar 26 = .ok (.iconst 0, 1) := by decide +kernel
theorem dL_bestCar_27 : decode cL_bestCar 27 = .ok (.ireturn, 1) := by decide +kernel
theorem dL_plainMoves_0 : decode cL_plainMoves 0 = .ok (.aload_n 3, 1) := by decide +kernel
theorem dL_plainMoves_1 : decode cL_plainMoves 1 = .ok (.iconst 0, 1) := by decide +kernel
theorem dL_plainMoves_2 : decode cL_plainMoves 2 = .ok (.aload_n 0, 1) := by decide +kernel
theorem dL_plainMoves_3 : decode cL_plainMoves 3 = .ok (.lload_n 1, 1) := by decide +kernel
theorem dL_plainMoves_4 : decode cL_plainMoves 4 = .ok (.invokevirtual 64, 3) := by decide +kernel
theorem dL_plainMoves_7 : decode cL_plainMoves 7 = .ok (.i2l, 1) := by decide +kernel
theorem dL_plainMoves_8 : decode cL_plainMoves 8 = .ok (.lastore, 1) := by decide +kernel
theorem dL_plainMoves_9 : decode cL_plainMoves 9 = .ok (.goto 15, 3) := by decide +kernel
theorem dL_plainMoves_12 : decode cL_plainMoves 12 = .ok (.astore 4, 2) := by decide +kernel
theorem dL_plainMoves_14 : decode cL_plainMoves 14 = .ok (.iconst 1, 1) := by decide +kernel
theorem dL_plainMoves_15 : decode cL_plainMoves 15 = .ok (.ireturn, 1) := by decide +kernel
theorem dL_plainMoves_16 : decode cL_plainMoves 16 = .ok (.astore 4, 2) := by decide +kernel
theorem dL_plainMoves_18 : decode cL_plainMoves 18 = .ok (.iconst 2, 1) := by decide +kernel
theorem dL_plainMoves_19 : decode cL_plainMoves 19 = .ok (.ireturn, 1) := by decide +kernel
theorem dL_plainMoves_20 : decode cL_plainMoves 20 = .ok (.astore 4, 2) := by decide +kernel
theorem dL_plainMoves_22 : decode cL_plainMoves 22 = .ok (.iconst 3, 1) := by decide +kernel
theorem dL_plainMoves_23 : decode cL_plainMoves 23 = .ok (.ireturn, 1) := by decide +kernel
theorem dL_plainMoves_24 : decode cL_plainMoves 24 = .ok (.iconst 0, 1) := by decide +kernel
theorem dL_plainMoves_25 : decode cL_plainMoves 25 = .ok (.ireturn, 1) := by decide +kernel
theorem dL_retrieveAll_0 : decode cL_retrieveAll 0 = .ok (.aload_n 3, 1) := by decide +kernel
theorem dL_retrieveAll_1 : decode cL_retrieveAll 1 = .ok (.iconst 0, 1) := by decide +kernel
theorem dL_retrieveAll_2 : decode cL_retrieveAll 2 = .ok (.aload_n 0, 1) := by decide +kernel
theorem dL_retrieveAll_3 : decode cL_retrieveAll 3 = .ok (.lload_n 1, 1) := by decide +kernel
theorem dL_retrieveAll_4 : decode cL_retrieveAll 4 = .ok (.invokevirtual 67, 3) := by decide +kernel
theorem dL_retrieveAll_7 : decode cL_retrieveAll 7 = .ok (.i2l, 1) := by decide +kernel
theorem dL_retrieveAll_8 : decode cL_retrieveAll 8 = .ok (.lastore, 1) := by decide +kernel
theorem dL_retrieveAll_9 : decode cL_retrieveAll 9 = .ok (.goto 15, 3) := by decide +kernel
theorem dL_retrieveAll_12 : decode cL_retrieveAll 12 = .ok (.astore 4, 2) := by decide +kernel
theorem dL_retrieveAll_14 : decode cL_retrieveAll 14 = .ok (.iconst 1, 1) := by decide +kernel
theorem dL_retrieveAll_15 : decode cL_retrieveAll 15 = .ok (.ireturn, 1) := by decide +kernel
theorem dL_retrieveAll_16 : decode cL_retrieveAll 16 = .ok (.astore 4, 2) := by decide +kernel
theorem dL_retrieveAll_18 : decode cL_retrieveAll 18 = .ok (.iconst 2, 1) := by decide +kernel
theorem dL_retrieveAll_19 : decode cL_retrieveAll 19 = .ok (.ireturn, 1) := by decide +kernel
theorem dL_retrieveAll_20 : decode cL_retrieveAll 20 = .ok (.astore 4, 2) := by decide +kernel
theorem dL_retrieveAll_22 : decode cL_retrieveAll 22 = .ok (.iconst 3, 1) := by decide +kernel
theorem dL_retrieveAll_23 : decode cL_retrieveAll 23 = .ok (.ireturn, 1) := by decide +kernel
theorem dL_retrieveAll_24 : decode cL_retrieveAll 24 = .ok (.iconst 0, 1) := by decide +kernel
theorem dL_retrieveAll_25 : decode cL_retrieveAll 25 = .ok (.ireturn, 1) := by decide +kernel
theorem dL_pass_0 : decode cL_pass 0 = .ok (.aload_n 2, 1) := by decide +kernel
theorem dL_pass_1 : decode cL_pass 1 = .ok (.iconst 0, 1) := by decide +kernel
theorem dL_pass_2 : decode cL_pass 2 = .ok (.aload_n 0, 1) := by decide +kernel
theorem dL_pass_3 : decode cL_pass 3 = .ok (.iload_n 1, 1) := by decide +kernel
theorem dL_pass_4 : decode cL_pass 4 = .ok (.invokevirtual 70, 3) := by decide +kernel
theorem dL_pass_7 : decode cL_pass 7 = .ok (.i2l, 1) := by decide +kernel
theorem dL_pass_8 : decode cL_pass 8 = .ok (.lastore, 1) := by decide +kernel
theorem dL_pass_9 : decode cL_pass 9 = .ok (.goto 9, 3) := by decide +kernel
theorem dL_pass_12 : decode cL_pass 12 = .ok (.astore_n 3, 1) := by decide +kernel
theorem dL_pass_13 : decode cL_pass 13 = .ok (.iconst 1, 1) := by decide +kernel
theorem dL_pass_14 : decode cL_pass 14 = .ok (.ireturn, 1) := by decide +kernel
theorem dL_pass_15 : decode cL_pass 15 = .ok (.astore_n 3, 1) := by decide +kernel
theorem dL_pass_16 : decode cL_pass 16 = .ok (.iconst 2, 1) := by decide +kernel
theorem dL_pass_17 : decode cL_pass 17 = .ok (.ireturn, 1) := by decide +kernel
theorem dL_pass_18 : decode cL_pass 18 = .ok (.iconst 0, 1) := by decide +kernel
theorem dL_pass_19 : decode cL_pass 19 = .ok (.ireturn, 1) := by decide +kernel
theorem dL_machine_0 : decode cL_machine 0 = .ok (.aload_n 3, 1) := by decide +kernel
theorem dL_machine_1 : decode cL_machine 1 = .ok (.iconst 0, 1) := by decide +kernel
theorem dL_machine_2 : decode cL_machine 2 = .ok (.aload_n 0, 1) := by decide +kernel
theorem dL_machine_3 : decode cL_machine 3 = .ok (.iload_n 1, 1) := by decide +kernel
theorem dL_machine_4 : decode cL_machine 4 = .ok (.iload_n 2, 1) := by decide +kernel
theorem dL_machine_5 : decode cL_machine 5 = .ok (.invokevirtual 73, 3) := by decide +kernel
theorem dL_machine_8 : decode cL_machine 8 = .ok (.i2l, 1) := by decide +kernel
theorem dL_machine_9 : decode cL_machine 9 = .ok (.lastore, 1) := by decide +kernel
theorem dL_machine_10 : decode cL_machine 10 = .ok (.goto 11, 3) := by decide +kernel
theorem dL_machine_13 : decode cL_machine 13 = .ok (.astore 4, 2) := by decide +kernel
theorem dL_machine_15 : decode cL_machine 15 = .ok (.iconst 1, 1) := by decide +kernel
theorem dL_machine_16 : decode cL_machine 16 = .ok (.ireturn, 1) := by decide +kernel
theorem dL_machine_17 : decode cL_machine 17 = .ok (.astore 4, 2) := by decide +kernel
theorem dL_machine_19 : decode cL_machine 19 = .ok (.iconst 2, 1) := by decide +kernel
theorem dL_machine_20 : decode cL_machine 20 = .ok (.ireturn, 1) := by decide +kernel
theorem dL_machine_21 : decode cL_machine 21 = .ok (.iconst 0, 1) := by decide +kernel
theorem dL_machine_22 : decode cL_machine 22 = .ok (.ireturn, 1) := by decide +kernel
theorem dL_job_0 : decode cL_job 0 = .ok (.aload_n 3, 1) := by decide +kernel
theorem dL_job_1 : decode cL_job 1 = .ok (.iconst 0, 1) := by decide +kernel
theorem dL_job_2 : decode cL_job 2 = .ok (.aload_n 0, 1) := by decide +kernel
theorem dL_job_3 : decode cL_job 3 = .ok (.iload_n 1, 1) := by decide +kernel
theorem dL_job_4 : decode cL_job 4 = .ok (.iload_n 2, 1) := by decide +kernel
theorem dL_job_5 : decode cL_job 5 = .ok (.invokevirtual 76, 3) := by decide +kernel
theorem dL_job_8 : decode cL_job 8 = .ok (.i2l, 1) := by decide +kernel
theorem dL_job_9 : decode cL_job 9 = .ok (.lastore, 1) := by decide +kernel
theorem dL_job_10 : decode cL_job 10 = .ok (.goto 11, 3) := by decide +kernel
theorem dL_job_13 : decode cL_job 13 = .ok (.astore 4, 2) := by decide +kernel
theorem dL_job_15 : decode cL_job 15 = .ok (.iconst 1, 1) := by decide +kernel
theorem dL_job_16 : decode cL_job 16 = .ok (.ireturn, 1) := by decide +kernel
theorem dL_job_17 : decode cL_job 17 = .ok (.astore 4, 2) := by decide +kernel
theorem dL_job_19 : decode cL_job 19 = .ok (.iconst 2, 1) := by decide +kernel
theorem dL_job_20 : decode cL_job 20 = .ok (.ireturn, 1) := by decide +kernel
theorem dL_job_21 : decode cL_job 21 = .ok (.iconst 0, 1) := by decide +kernel
theorem dL_job_22 : decode cL_job 22 = .ok (.ireturn, 1) := by decide +kernel
theorem dL_account_0 : decode cL_account 0 = .ok (.aload_n 2, 1) := by decide +kernel
theorem dL_account_1 : decode cL_account 1 = .ok (.iconst 0, 1) := by decide +kernel
theorem dL_account_2 : decode cL_account 2 = .ok (.aload_n 0, 1) := by decide +kernel
theorem dL_account_3 : decode cL_account 3 = .ok (.iload_n 1, 1) := by decide +kernel
theorem dL_account_4 : decode cL_account 4 = .ok (.invokevirtual 79, 3) := by decide +kernel
theorem dL_account_7 : decode cL_account 7 = .ok (.i2l, 1) := by decide +kernel
theorem dL_account_8 : decode cL_account 8 = .ok (.lastore, 1) := by decide +kernel
theorem dL_account_9 : decode cL_account 9 = .ok (.goto 6, 3) := by decide +kernel
theorem dL_account_12 : decode cL_account 12 = .ok (.astore_n 3, 1) := by decide +kernel
theorem dL_account_13 : decode cL_account 13 = .ok (.iconst 1, 1) := by decide +kernel
theorem dL_account_14 : decode cL_account 14 = .ok (.ireturn, 1) := by decide +kernel
theorem dL_account_15 : decode cL_account 15 = .ok (.iconst 0, 1) := by decide +kernel
theorem dL_account_16 : decode cL_account 16 = .ok (.ireturn, 1) := by decide +kernel
theorem dL_load_0 : decode cL_load 0 = .ok (.aload_n 2, 1) := by decide +kernel
theorem dL_load_1 : decode cL_load 1 = .ok (.iconst 0, 1) := by decide +kernel
theorem dL_load_2 : decode cL_load 2 = .ok (.aload_n 0, 1) := by decide +kernel
theorem dL_load_3 : decode cL_load 3 = .ok (.iload_n 1, 1) := by decide +kernel
theorem dL_load_4 : decode cL_load 4 = .ok (.invokevirtual 82, 3) := by decide +kernel
theorem dL_load_7 : decode cL_load 7 = .ok (.f2d, 1) := by decide +kernel
theorem dL_load_8 : decode cL_load 8 = .ok (.dastore, 1) := by decide +kernel
theorem dL_load_9 : decode cL_load 9 = .ok (.goto 9, 3) := by decide +kernel
theorem dL_load_12 : decode cL_load 12 = .ok (.astore_n 3, 1) := by decide +kernel
theorem dL_load_13 : decode cL_load 13 = .ok (.iconst 1, 1) := by decide +kernel
theorem dL_load_14 : decode cL_load 14 = .ok (.ireturn, 1) := by decide +kernel
theorem dL_load_15 : decode cL_load 15 = .ok (.astore_n 3, 1) := by decide +kernel
theorem dL_load_16 : decode cL_load 16 = .ok (.iconst 2, 1) := by decide +kernel
theorem dL_load_17 : decode cL_load 17 = .ok (.ireturn, 1) := by decide +kernel
theorem dL_load_18 : decode cL_load 18 = .ok (.iconst 0, 1) := by decide +kernel
theorem dL_load_19 : decode cL_load 19 = .ok (.ireturn, 1) := by decide +kernel
theorem dL_meanJob_0 : decode cL_meanJob 0 = .ok (.aload_n 1, 1) := by decide +kernel
theorem dL_meanJob_1 : decode cL_meanJob 1 = .ok (.iconst 0, 1) := by decide +kernel
theorem dL_meanJob_2 : decode cL_meanJob 2 = .ok (.aload_n 0, 1) := by decide +kernel
theorem dL_meanJob_3 : decode cL_meanJob 3 = .ok (.invokevirtual 88, 3) := by decide +kernel
theorem dL_meanJob_6 : decode cL_meanJob 6 = .ok (.dastore, 1) := by decide +kernel
theorem dL_meanJob_7 : decode cL_meanJob 7 = .ok (.goto 6, 3) := by decide +kernel
theorem dL_meanJob_10 : decode cL_meanJob 10 = .ok (.astore_n 2, 1) := by decide +kernel
theorem dL_meanJob_11 : decode cL_meanJob 11 = .ok (.iconst 1, 1) := by decide +kernel
theorem dL_meanJob_12 : decode cL_meanJob 12 = .ok (.ireturn, 1) := by decide +kernel
theorem dL_meanJob_13 : decode cL_meanJob 13 = .ok (.iconst 0, 1) := by decide +kernel
theorem dL_meanJob_14 : decode cL_meanJob 14 = .ok (.ireturn, 1) := by decide +kernel
theorem dL_report_0 : decode cL_report 0 = .ok (.aload_n 3, 1) := by decide +kernel
theorem dL_report_1 : decode cL_report 1 = .ok (.iconst 0, 1) := by decide +kernel
theorem dL_report_2 : decode cL_report 2 = .ok (.aload_n 0, 1) := by decide +kernel
theorem dL_report_3 : decode cL_report 3 = .ok (.iload_n 1, 1) := by decide +kernel
theorem dL_report_4 : decode cL_report 4 = .ok (.iload_n 2, 1) := by decide +kernel
theorem dL_report_5 : decode cL_report 5 = .ok (.invokevirtual 92, 3) := by decide +kernel
theorem dL_report_8 : decode cL_report 8 = .ok (.i2l, 1) := by decide +kernel
theorem dL_report_9 : decode cL_report 9 = .ok (.lastore, 1) := by decide +kernel
theorem dL_report_10 : decode cL_report 10 = .ok (.goto 11, 3) := by decide +kernel
theorem dL_report_13 : decode cL_report 13 = .ok (.astore 4, 2) := by decide +kernel
theorem dL_report_15 : decode cL_report 15 = .ok (.iconst 1, 1) := by decide +kernel
theorem dL_report_16 : decode cL_report 16 = .ok (.ireturn, 1) := by decide +kernel
theorem dL_report_17 : decode cL_report 17 = .ok (.astore 4, 2) := by decide +kernel
theorem dL_report_19 : decode cL_report 19 = .ok (.iconst 2, 1) := by decide +kernel
theorem dL_report_20 : decode cL_report 20 = .ok (.ireturn, 1) := by decide +kernel
theorem dL_report_21 : decode cL_report 21 = .ok (.iconst 0, 1) := by decide +kernel
theorem dL_report_22 : decode cL_report 22 = .ok (.ireturn, 1) := by decide +kernel
theorem dL_feed_0 : decode cL_feed 0 = .ok (.aload_n 2, 1) := by decide +kernel
theorem dL_feed_1 : decode cL_feed 1 = .ok (.iconst 0, 1) := by decide +kernel
theorem dL_feed_2 : decode cL_feed 2 = .ok (.aload_n 0, 1) := by decide +kernel
theorem dL_feed_3 : decode cL_feed 3 = .ok (.iload_n 1, 1) := by decide +kernel
theorem dL_feed_4 : decode cL_feed 4 = .ok (.invokevirtual 95, 3) := by decide +kernel
theorem dL_feed_7 : decode cL_feed 7 = .ok (.i2l, 1) := by decide +kernel
theorem dL_feed_8 : decode cL_feed 8 = .ok (.lastore, 1) := by decide +kernel
theorem dL_feed_9 : decode cL_feed 9 = .ok (.goto 6, 3) := by decide +kernel
theorem dL_feed_12 : decode cL_feed 12 = .ok (.astore_n 3, 1) := by decide +kernel
theorem dL_feed_13 : decode cL_feed 13 = .ok (.iconst 1, 1) := by decide +kernel
theorem dL_feed_14 : decode cL_feed 14 = .ok (.ireturn, 1) := by decide +kernel
theorem dL_feed_15 : decode cL_feed 15 = .ok (.iconst 0, 1) := by decide +kernel
theorem dL_feed_16 : decode cL_feed 16 = .ok (.ireturn, 1) := by decide +kernel
theorem dL_perform_0 : decode cL_perform 0 = .ok (.aload_n 1, 1) := by decide +kernel
theorem dL_perform_1 : decode cL_perform 1 = .ok (.iconst 0, 1) := by decide +kernel
theorem dL_perform_2 : decode cL_perform 2 = .ok (.aload_n 0, 1) := by decide +kernel
theorem dL_perform_3 : decode cL_perform 3 = .ok (.invokevirtual 99, 3) := by decide +kernel
theorem dL_perform_6 : decode cL_perform 6 = .ok (.i2l, 1) := by decide +kernel
theorem dL_perform_7 : decode cL_perform 7 = .ok (.lastore, 1) := by decide +kernel
theorem dL_perform_8 : decode cL_perform 8 = .ok (.goto 6, 3) := by decide +kernel
theorem dL_perform_11 : decode cL_perform 11 = .ok (.astore_n 2, 1) := by decide +kernel
theorem dL_perform_12 : decode cL_perform 12 = .ok (.iconst 1, 1) := by decide +kernel
theorem dL_perform_13 : decode cL_perform 13 = .ok (.ireturn, 1) := by decide +kernel
theorem dL_perform_14 : decode cL_perform 14 = .ok (.iconst 0, 1) := by decide +kernel
theorem dL_perform_15 : decode cL_perform 15 = .ok (.ireturn, 1) := by decide +kernel
theorem dL_undo_0 : decode cL_undo 0 = .ok (.aload_n 1, 1) := by decide +kernel
theorem dL_undo_1 : decode cL_undo 1 = .ok (.iconst 0, 1) := by decide +kernel
theorem dL_undo_2 : decode cL_undo 2 = .ok (.aload_n 0, 1) := by decide +kernel
theorem dL_undo_3 : decode cL_undo 3 = .ok (.invokevirtual 103, 3) := by decide +kernel
theorem dL_undo_6 : decode cL_undo 6 = .ok (.i2l, 1) := by decide +kernel
theorem dL_undo_7 : decode cL_undo 7 = .ok (.lastore, 1) := by decide +kernel
theorem dL_undo_8 : decode cL_undo 8 = .ok (.goto 6, 3) := by decide +kernel
theorem dL_undo_11 : decode cL_undo 11 = .ok (.astore_n 2, 1) := by decide +kernel
theorem dL_undo_12 : decode cL_undo 12 = .ok (.iconst 1, 1) := by decide +kernel
theorem dL_undo_13 : decode cL_undo 13 = .ok (.ireturn, 1) := by decide +kernel
theorem dL_undo_14 : decode cL_undo 14 = .ok (.iconst 0, 1) := by decide +kernel
theorem dL_undo_15 : decode cL_undo 15 = .ok (.ireturn, 1) := by decide +kernel
theorem dL_restore_0 : decode cL_restore 0 = .ok (.aload_n 1, 1) := by decide +kernel
theorem dL_restore_1 : decode cL_restore 1 = .ok (.iconst 0, 1) := by decide +kernel
theorem dL_restore_2 : decode cL_restore 2 = .ok (.aload_n 0, 1) := by decide +kernel
theorem dL_restore_3 : decode cL_restore 3 = .ok (.invokevirtual 106, 3) := by decide +kernel
theorem dL_restore_6 : decode cL_restore 6 = .ok (.i2l, 1) := by decide +kernel
theorem dL_restore_7 : decode cL_restore 7 = .ok (.lastore, 1) := by decide +kernel
theorem dL_restore_8 : decode cL_restore 8 = .ok (.goto 6, 3) := by decide +kernel
theorem dL_restore_11 : decode cL_restore 11 = .ok (.astore_n 2, 1) := by decide +kernel
theorem dL_restore_12 : decode cL_restore 12 = .ok (.iconst 1, 1) := by decide +kernel
theorem dL_restore_13 : decode cL_restore 13 = .ok (.ireturn, 1) := by decide +kernel
theorem dL_restore_14 : decode cL_restore 14 = .ok (.iconst 0, 1) := by decide +kernel
theorem dL_restore_15 : decode cL_restore 15 = .ok (.ireturn, 1) := by decide +kernel
