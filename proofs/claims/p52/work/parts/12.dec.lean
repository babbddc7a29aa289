theorem dX0_init_0 : decode mX0_init.2.1 0 = .ok (.aload_n 0, 1) := by decide +kernel
theorem dX0_init_1 : decode mX0_init.2.1 1 = .ok (.invokespecial 3, 3) := by decide +kernel
theorem dX0_init_4 : decode mX0_init.2.1 4 = .ok (.aload_n 0, 1) := by decide +kernel
theorem dX0_init_5 : decode mX0_init.2.1 5 = .ok (.iconst (-1), 1) := by decide +kernel
theorem dX0_init_6 : decode mX0_init.2.1 6 = .ok (.putfield 9, 3) := by decide +kernel
theorem dX0_init_9 : decode mX0_init.2.1 9 = .ok (.aload_n 0, 1) := by decide +kernel
theorem dX0_init_10 : decode mX0_init.2.1 10 = .ok (.bipush 32, 2) := by decide +kernel
theorem dX0_init_12 : decode mX0_init.2.1 12 = .ok (.putfield 15, 3) := by decide +kernel
theorem dX0_init_15 : decode mX0_init.2.1 15 = .ok (.aload_n 0, 1) := by decide +kernel
theorem dX0_init_16 : decode mX0_init.2.1 16 = .ok (.iconst 0, 1) := by decide +kernel
theorem dX0_init_17 : decode mX0_init.2.1 17 = .ok (.putfield 19, 3) := by decide +kernel
theorem dX0_init_20 : decode mX0_init.2.1 20 = .ok (.aload_n 0, 1) := by decide +kernel
theorem dX0_init_21 : decode mX0_init.2.1 21 = .ok (.iconst 0, 1) := by decide +kernel
theorem dX0_init_22 : decode mX0_init.2.1 22 = .ok (.putfield 22, 3) := by decide +kernel
theorem dX0_init_25 : decode mX0_init.2.1 25 = .ok (.aload_n 0, 1) := by decide +kernel
theorem dX0_init_26 : decode mX0_init.2.1 26 = .ok (.bipush 32, 2) := by decide +kernel
theorem dX0_init_28 : decode mX0_init.2.1 28 = .ok (.putfield 25, 3) := by decide +kernel
theorem dX0_init_31 : decode mX0_init.2.1 31 = .ok (.return_, 1) := by decide +kernel
theorem dX1_init_0 : decode mX1_init.2.1 0 = .ok (.aload_n 0, 1) := by decide +kernel
theorem dX1_init_1 : decode mX1_init.2.1 1 = .ok (.invokespecial 3, 3) := by decide +kernel
theorem dX1_init_4 : decode mX1_init.2.1 4 = .ok (.aload_n 0, 1) := by decide +kernel
theorem dX1_init_5 : decode mX1_init.2.1 5 = .ok (.bipush 60, 2) := by decide +kernel
theorem dX1_init_7 : decode mX1_init.2.1 7 = .ok (.newarray .char, 2) := by decide +kernel
theorem dX1_init_9 : decode mX1_init.2.1 9 = .ok (.putfield 9, 3) := by decide +kernel
theorem dX1_init_12 : decode mX1_init.2.1 12 = .ok (.aload_n 0, 1) := by decide +kernel
theorem dX1_init_13 : decode mX1_init.2.1 13 = .ok (.iconst 0, 1) := by decide +kernel
theorem dX1_init_14 : decode mX1_init.2.1 14 = .ok (.putfield 15, 3) := by decide +kernel
theorem dX1_init_17 : decode mX1_init.2.1 17 = .ok (.aload_n 0, 1) := by decide +kernel
theorem dX1_init_18 : decode mX1_init.2.1 18 = .ok (.iconst 0, 1) := by decide +kernel
theorem dX1_init_19 : decode mX1_init.2.1 19 = .ok (.putfield 19, 3) := by decide +kernel
theorem dX1_init_22 : decode mX1_init.2.1 22 = .ok (.aload_n 0, 1) := by decide +kernel
theorem dX1_init_23 : decode mX1_init.2.1 23 = .ok (.bipush 10, 2) := by decide +kernel
theorem dX1_init_25 : decode mX1_init.2.1 25 = .ok (.anewarray 22, 3) := by decide +kernel
theorem dX1_init_28 : decode mX1_init.2.1 28 = .ok (.putfield 24, 3) := by decide +kernel
theorem dX1_init_31 : decode mX1_init.2.1 31 = .ok (.aload_n 0, 1) := by decide +kernel
theorem dX1_init_32 : decode mX1_init.2.1 32 = .ok (.iconst 0, 1) := by decide +kernel
theorem dX1_init_33 : decode mX1_init.2.1 33 = .ok (.putfield 28, 3) := by decide +kernel
theorem dX1_init_36 : decode mX1_init.2.1 36 = .ok (.iconst 0, 1) := by decide +kernel
theorem dX1_init_37 : decode mX1_init.2.1 37 = .ok (.istore_n 1, 1) := by decide +kernel
theorem dX1_init_38 : decode mX1_init.2.1 38 = .ok (.iload_n 1, 1) := by decide +kernel
theorem dX1_init_39 : decode mX1_init.2.1 39 = .ok (.aload_n 0, 1) := by decide +kernel
theorem dX1_init_40 : decode mX1_init.2.1 40 = .ok (.getfield 24, 3) := by decide +kernel
theorem dX1_init_43 : decode mX1_init.2.1 43 = .ok (.arraylength, 1) := by decide +kernel
theorem dX1_init_44 : decode mX1_init.2.1 44 = .ok (.if_icmp .ge 22, 3) := by decide +kernel
theorem dX1_init_47 : decode mX1_init.2.1 47 = .ok (.aload_n 0, 1) := by decide +kernel
theorem dX1_init_48 : decode mX1_init.2.1 48 = .ok (.getfield 24, 3) := by decide +kernel
theorem dX1_init_51 : decode mX1_init.2.1 51 = .ok (.iload_n 1, 1) := by decide +kernel
theorem dX1_init_52 : decode mX1_init.2.1 52 = .ok (.new 22, 3) := by decide +kernel
theorem dX1_init_55 : decode mX1_init.2.1 55 = .ok (.dup, 1) := by decide +kernel
theorem dX1_init_56 : decode mX1_init.2.1 56 = .ok (.invokespecial 31, 3) := by decide +kernel
theorem dX1_init_59 : decode mX1_init.2.1 59 = .ok (.aastore, 1) := by decide +kernel
theorem dX1_init_60 : decode mX1_init.2.1 60 = .ok (.iinc 1 1, 3) := by decide +kernel
theorem dX1_init_63 : decode mX1_init.2.1 63 = .ok (.goto (-25), 3) := by decide +kernel
theorem dX1_init_66 : decode mX1_init.2.1 66 = .ok (.return_, 1) := by decide +kernel
theorem dX1_append_0 : decode mX1_append.2.1 0 = .ok (.aload_n 0, 1) := by decide +kernel
theorem dX1_append_1 : decode mX1_append.2.1 1 = .ok (.getfield 15, 3) := by decide +kernel
theorem dX1_append_4 : decode mX1_append.2.1 4 = .ok (.ifCond .lt 35, 3) := by decide +kernel
theorem dX1_append_7 : decode mX1_append.2.1 7 = .ok (.aload_n 0, 1) := by decide +kernel
theorem dX1_append_8 : decode mX1_append.2.1 8 = .ok (.getfield 15, 3) := by decide +kernel
theorem dX1_append_11 : decode mX1_append.2.1 11 = .ok (.aload_n 0, 1) := by decide +kernel
theorem dX1_append_12 : decode mX1_append.2.1 12 = .ok (.getfield 9, 3) := by decide +kernel
theorem dX1_append_15 : decode mX1_append.2.1 15 = .ok (.arraylength, 1) := by decide +kernel
theorem dX1_append_16 : decode mX1_append.2.1 16 = .ok (.if_icmp .ge 23, 3) := by decide +kernel
theorem dX1_append_19 : decode mX1_append.2.1 19 = .ok (.aload_n 0, 1) := by decide +kernel
theorem dX1_append_20 : decode mX1_append.2.1 20 = .ok (.getfield 9, 3) := by decide +kernel
theorem dX1_append_23 : decode mX1_append.2.1 23 = .ok (.aload_n 0, 1) := by decide +kernel
theorem dX1_append_24 : decode mX1_append.2.1 24 = .ok (.getfield 15, 3) := by decide +kernel
theorem dX1_append_27 : decode mX1_append.2.1 27 = .ok (.iload_n 1, 1) := by decide +kernel
theorem dX1_append_28 : decode mX1_append.2.1 28 = .ok (.castore, 1) := by decide +kernel
theorem dX1_append_29 : decode mX1_append.2.1 29 = .ok (.aload_n 0, 1) := by decide +kernel
theorem dX1_append_30 : decode mX1_append.2.1 30 = .ok (.dup, 1) := by decide +kernel
theorem dX1_append_31 : decode mX1_append.2.1 31 = .ok (.getfield 15, 3) := by decide +kernel
theorem dX1_append_34 : decode mX1_append.2.1 34 = .ok (.iconst 1, 1) := by decide +kernel
theorem dX1_append_35 : decode mX1_append.2.1 35 = .ok (.iadd, 1) := by decide +kernel
theorem dX1_append_36 : decode mX1_append.2.1 36 = .ok (.putfield 15, 3) := by decide +kernel
theorem dX1_append_39 : decode mX1_append.2.1 39 = .ok (.aload_n 0, 1) := by decide +kernel
theorem dX1_append_40 : decode mX1_append.2.1 40 = .ok (.getfield 15, 3) := by decide +kernel
theorem dX1_append_43 : decode mX1_append.2.1 43 = .ok (.ireturn, 1) := by decide +kernel
theorem dX1_command_0 : decode mX1_command.2.1 0 = .ok (.iload_n 1, 1) := by decide +kernel
theorem dX1_command_1 : decode mX1_command.2.1 1 = .ok (.ifCond .lt 12, 3) := by decide +kernel
theorem dX1_command_4 : decode mX1_command.2.1 4 = .ok (.iload_n 1, 1) := by decide +kernel
theorem dX1_command_5 : decode mX1_command.2.1 5 = .ok (.aload_n 0, 1) := by decide +kernel
theorem dX1_command_6 : decode mX1_command.2.1 6 = .ok (.getfield 24, 3) := by decide +kernel
theorem dX1_command_9 : decode mX1_command.2.1 9 = .ok (.arraylength, 1) := by decide +kernel
theorem dX1_command_10 : decode mX1_command.2.1 10 = .ok (.if_icmp .lt 7, 3) := by decide +kernel
theorem dX1_command_13 : decode mX1_command.2.1 13 = .ok (.aconst_null, 1) := by decide +kernel
theorem dX1_command_14 : decode mX1_command.2.1 14 = .ok (.goto 9, 3) := by decide +kernel
theorem dX1_command_17 : decode mX1_command.2.1 17 = .ok (.aload_n 0, 1) := by decide +kernel
theorem dX1_command_18 : decode mX1_command.2.1 18 = .ok (.getfield 24, 3) := by decide +kernel
theorem dX1_command_21 : decode mX1_command.2.1 21 = .ok (.iload_n 1, 1) := by decide +kernel
theorem dX1_command_22 : decode mX1_command.2.1 22 = .ok (.aaload, 1) := by decide +kernel
theorem dX1_command_23 : decode mX1_command.2.1 23 = .ok (.areturn, 1) := by decide +kernel
theorem dX1_parse_0 : decode mX1_parse.2.1 0 = .ok (.aload_n 0, 1) := by decide +kernel
theorem dX1_parse_1 : decode mX1_parse.2.1 1 = .ok (.iconst 0, 1) := by decide +kernel
theorem dX1_parse_2 : decode mX1_parse.2.1 2 = .ok (.putfield 19, 3) := by decide +kernel
theorem dX1_parse_5 : decode mX1_parse.2.1 5 = .ok (.aload_n 0, 1) := by decide +kernel
theorem dX1_parse_6 : decode mX1_parse.2.1 6 = .ok (.iconst 0, 1) := by decide +kernel
theorem dX1_parse_7 : decode mX1_parse.2.1 7 = .ok (.putfield 28, 3) := by decide +kernel
theorem dX1_parse_10 : decode mX1_parse.2.1 10 = .ok (.aload_n 0, 1) := by decide +kernel
theorem dX1_parse_11 : decode mX1_parse.2.1 11 = .ok (.getfield 24, 3) := by decide +kernel
theorem dX1_parse_14 : decode mX1_parse.2.1 14 = .ok (.astore_n 1, 1) := by decide +kernel
theorem dX1_parse_15 : decode mX1_parse.2.1 15 = .ok (.aload_n 1, 1) := by decide +kernel
theorem dX1_parse_16 : decode mX1_parse.2.1 16 = .ok (.arraylength, 1) := by decide +kernel
theorem dX1_parse_17 : decode mX1_parse.2.1 17 = .ok (.istore_n 2, 1) := by decide +kernel
theorem dX1_parse_18 : decode mX1_parse.2.1 18 = .ok (.iconst 0, 1) := by decide +kernel
theorem dX1_parse_19 : decode mX1_parse.2.1 19 = .ok (.istore_n 3, 1) := by decide +kernel
theorem dX1_parse_20 : decode mX1_parse.2.1 20 = .ok (.iload_n 3, 1) := by decide +kernel
theorem dX1_parse_21 : decode mX1_parse.2.1 21 = .ok (.iload_n 2, 1) := by decide +kernel
theorem dX1_parse_22 : decode mX1_parse.2.1 22 = .ok (.if_icmp .ge 59, 3) := by decide +kernel
theorem dX1_parse_25 : decode mX1_parse.2.1 25 = .ok (.aload_n 1, 1) := by decide +kernel
theorem dX1_parse_26 : decode mX1_parse.2.1 26 = .ok (.iload_n 3, 1) := by decide +kernel
theorem dX1_parse_27 : decode mX1_parse.2.1 27 = .ok (.aaload, 1) := by decide +kernel
theorem dX1_parse_28 : decode mX1_parse.2.1 28 = .ok (.astore 4, 2) := by decide +kernel
theorem dX1_parse_30 : decode mX1_parse.2.1 30 = .ok (.aload_n 0, 1) := by decide +kernel
theorem dX1_parse_31 : decode mX1_parse.2.1 31 = .ok (.aload 4, 2) := by decide +kernel
theorem dX1_parse_33 : decode mX1_parse.2.1 33 = .ok (.invokevirtual 32, 3) := by decide +kernel
theorem dX1_parse_36 : decode mX1_parse.2.1 36 = .ok (.ifCond .ne 5, 3) := by decide +kernel
theorem dX1_parse_39 : decode mX1_parse.2.1 39 = .ok (.iconst 0, 1) := by decide +kernel
theorem dX1_parse_40 : decode mX1_parse.2.1 40 = .ok (.ireturn, 1) := by decide +kernel
theorem dX1_parse_41 : decode mX1_parse.2.1 41 = .ok (.aload_n 0, 1) := by decide +kernel
theorem dX1_parse_42 : decode mX1_parse.2.1 42 = .ok (.dup, 1) := by decide +kernel
theorem dX1_parse_43 : decode mX1_parse.2.1 43 = .ok (.getfield 28, 3) := by decide +kernel
theorem dX1_parse_46 : decode mX1_parse.2.1 46 = .ok (.iconst 1, 1) := by decide +kernel
theorem dX1_parse_47 : decode mX1_parse.2.1 47 = .ok (.iadd, 1) := by decide +kernel
theorem dX1_parse_48 : decode mX1_parse.2.1 48 = .ok (.putfield 28, 3) := by decide +kernel
theorem dX1_parse_51 : decode mX1_parse.2.1 51 = .ok (.aload_n 0, 1) := by decide +kernel
theorem dX1_parse_52 : decode mX1_parse.2.1 52 = .ok (.getfield 19, 3) := by decide +kernel
theorem dX1_parse_55 : decode mX1_parse.2.1 55 = .ok (.aload_n 0, 1) := by decide +kernel
theorem dX1_parse_56 : decode mX1_parse.2.1 56 = .ok (.getfield 15, 3) := by decide +kernel
theorem dX1_parse_59 : decode mX1_parse.2.1 59 = .ok (.if_icmp .lt 5, 3) := by decide +kernel
theorem dX1_parse_62 : decode mX1_parse.2.1 62 = .ok (.iconst 1, 1) := by decide +kernel
theorem dX1_parse_63 : decode mX1_parse.2.1 63 = .ok (.ireturn, 1) := by decide +kernel
theorem dX1_parse_64 : decode mX1_parse.2.1 64 = .ok (.aload_n 0, 1) := by decide +kernel
theorem dX1_parse_65 : decode mX1_parse.2.1 65 = .ok (.bipush 59, 2) := by decide +kernel
theorem dX1_parse_67 : decode mX1_parse.2.1 67 = .ok (.invokevirtual 36, 3) := by decide +kernel
theorem dX1_parse_70 : decode mX1_parse.2.1 70 = .ok (.ifCond .ne 5, 3) := by decide +kernel
theorem dX1_parse_73 : decode mX1_parse.2.1 73 = .ok (.iconst 0, 1) := by decide +kernel
theorem dX1_parse_74 : decode mX1_parse.2.1 74 = .ok (.ireturn, 1) := by decide +kernel
theorem dX1_parse_75 : decode mX1_parse.2.1 75 = .ok (.iinc 3 1, 3) := by decide +kernel
theorem dX1_parse_78 : decode mX1_parse.2.1 78 = .ok (.goto (-58), 3) := by decide +kernel
theorem dX1_parse_81 : decode mX1_parse.2.1 81 = .ok (.iconst 0, 1) := by decide +kernel
theorem dX1_parse_82 : decode mX1_parse.2.1 82 = .ok (.ireturn, 1) := by decide +kernel
theorem dX1_readCommand_0 : decode mX1_readCommand.2.1 0 = .ok (.aload_n 1, 1) := by decide +kernel
theorem dX1_readCommand_1 : decode mX1_readCommand.2.1 1 = .ok (.aload_n 0, 1) := by decide +kernel
theorem dX1_readCommand_2 : decode mX1_readCommand.2.1 2 = .ok (.invokevirtual 40, 3) := by decide +kernel
theorem dX1_readCommand_5 : decode mX1_readCommand.2.1 5 = .ok (.putfield 44, 3) := by decide +kernel
theorem dX1_readCommand_8 : decode mX1_readCommand.2.1 8 = .ok (.aload_n 1, 1) := by decide +kernel
theorem dX1_readCommand_9 : decode mX1_readCommand.2.1 9 = .ok (.getfield 44, 3) := by decide +kernel
theorem dX1_readCommand_12 : decode mX1_readCommand.2.1 12 = .ok (.tableswitch 201 0 8 #[52, 52, 74, 80, 119, 150, 189, 189, 195], 52) := by decide +kernel
theorem dX1_readCommand_64 : decode mX1_readCommand.2.1 64 = .ok (.aload_n 0, 1) := by decide +kernel
theorem dX1_readCommand_65 : decode mX1_readCommand.2.1 65 = .ok (.aload_n 1, 1) := by decide +kernel
theorem dX1_readCommand_66 : decode mX1_readCommand.2.1 66 = .ok (.invokevirtual 47, 3) := by decide +kernel
theorem dX1_readCommand_69 : decode mX1_readCommand.2.1 69 = .ok (.ifCond .eq 15, 3) := by decide +kernel
theorem dX1_readCommand_72 : decode mX1_readCommand.2.1 72 = .ok (.aload_n 0, 1) := by decide +kernel
theorem dX1_readCommand_73 : decode mX1_readCommand.2.1 73 = .ok (.aload_n 1, 1) := by decide +kernel
theorem dX1_readCommand_74 : decode mX1_readCommand.2.1 74 = .ok (.invokevirtual 50, 3) := by decide +kernel
theorem dX1_readCommand_77 : decode mX1_readCommand.2.1 77 = .ok (.ifCond .eq 7, 3) := by decide +kernel
theorem dX1_readCommand_80 : decode mX1_readCommand.2.1 80 = .ok (.iconst 1, 1) := by decide +kernel
theorem dX1_readCommand_81 : decode mX1_readCommand.2.1 81 = .ok (.goto 4, 3) := by decide +kernel
theorem dX1_readCommand_84 : decode mX1_readCommand.2.1 84 = .ok (.iconst 0, 1) := by decide +kernel
theorem dX1_readCommand_85 : decode mX1_readCommand.2.1 85 = .ok (.ireturn, 1) := by decide +kernel
theorem dX1_readCommand_86 : decode mX1_readCommand.2.1 86 = .ok (.aload_n 0, 1) := by decide +kernel
theorem dX1_readCommand_87 : decode mX1_readCommand.2.1 87 = .ok (.aload_n 1, 1) := by decide +kernel
theorem dX1_readCommand_88 : decode mX1_readCommand.2.1 88 = .ok (.invokevirtual 47, 3) := by decide +kernel
theorem dX1_readCommand_91 : decode mX1_readCommand.2.1 91 = .ok (.ireturn, 1) := by decide +kernel
theorem dX1_readCommand_92 : decode mX1_readCommand.2.1 92 = .ok (.aload_n 0, 1) := by decide +kernel
theorem dX1_readCommand_93 : decode mX1_readCommand.2.1 93 = .ok (.aload_n 1, 1) := by decide +kernel
theorem dX1_readCommand_94 : decode mX1_readCommand.2.1 94 = .ok (.invokevirtual 53, 3) := by decide +kernel
theorem dX1_readCommand_97 : decode mX1_readCommand.2.1 97 = .ok (.ifCond .eq 32, 3) := by decide +kernel
theorem dX1_readCommand_100 : decode mX1_readCommand.2.1 100 = .ok (.aload_n 0, 1) := by decide +kernel
theorem dX1_readCommand_101 : decode mX1_readCommand.2.1 101 = .ok (.aload_n 1, 1) := by decide +kernel
theorem dX1_readCommand_102 : decode mX1_readCommand.2.1 102 = .ok (.invokevirtual 50, 3) := by decide +kernel
theorem dX1_readCommand_105 : decode mX1_readCommand.2.1 105 = .ok (.ifCond .eq 24, 3) := by decide +kernel
theorem dX1_readCommand_108 : decode mX1_readCommand.2.1 108 = .ok (.aload_n 0, 1) := by decide +kernel
theorem dX1_readCommand_109 : decode mX1_readCommand.2.1 109 = .ok (.bipush 32, 2) := by decide +kernel
theorem dX1_readCommand_111 : decode mX1_readCommand.2.1 111 = .ok (.invokevirtual 36, 3) := by decide +kernel
theorem dX1_readCommand_114 : decode mX1_readCommand.2.1 114 = .ok (.ifCond .eq 15, 3) := by decide +kernel
theorem dX1_readCommand_117 : decode mX1_readCommand.2.1 117 = .ok (.aload_n 0, 1) := by decide +kernel
theorem dX1_readCommand_118 : decode mX1_readCommand.2.1 118 = .ok (.aload_n 1, 1) := by decide +kernel
theorem dX1_readCommand_119 : decode mX1_readCommand.2.1 119 = .ok (.invokevirtual 56, 3) := by decide +kernel
theorem dX1_readCommand_122 : decode mX1_readCommand.2.1 122 = .ok (.ifCond .eq 7, 3) := by decide +kernel
theorem dX1_readCommand_125 : decode mX1_readCommand.2.1 125 = .ok (.iconst 1, 1) := by decide +kernel
theorem dX1_readCommand_126 : decode mX1_readCommand.2.1 126 = .ok (.goto 4, 3) := by decide +kernel
theorem dX1_readCommand_129 : decode mX1_readCommand.2.1 129 = .ok (.iconst 0, 1) := by decide +kernel
theorem dX1_readCommand_130 : decode mX1_readCommand.2.1 130 = .ok (.ireturn, 1) := by decide +kernel
theorem dX1_readCommand_131 : decode mX1_readCommand.2.1 131 = .ok (.aload_n 0, 1) := by decide +kernel
theorem dX1_readCommand_132 : decode mX1_readCommand.2.1 132 = .ok (.aload_n 1, 1) := by decide +kernel
theorem dX1_readCommand_133 : decode mX1_readCommand.2.1 133 = .ok (.invokevirtual 53, 3) := by decide +kernel
theorem dX1_readCommand_136 : decode mX1_readCommand.2.1 136 = .ok (.ifCond .eq 24, 3) := by decide +kernel
theorem dX1_readCommand_139 : decode mX1_readCommand.2.1 139 = .ok (.aload_n 0, 1) := by decide +kernel
theorem dX1_readCommand_140 : decode mX1_readCommand.2.1 140 = .ok (.bipush 32, 2) := by decide +kernel
theorem dX1_readCommand_142 : decode mX1_readCommand.2.1 142 = .ok (.invokevirtual 36, 3) := by decide +kernel
theorem dX1_readCommand_145 : decode mX1_readCommand.2.1 145 = .ok (.ifCond .eq 15, 3) := by decide +kernel
theorem dX1_readCommand_148 : decode mX1_readCommand.2.1 148 = .ok (.aload_n 0, 1) := by decide +kernel
theorem dX1_readCommand_149 : decode mX1_readCommand.2.1 149 = .ok (.aload_n 1, 1) := by decide +kernel
theorem dX1_readCommand_150 : decode mX1_readCommand.2.1 150 = .ok (.invokevirtual 47, 3) := by decide +kernel
theorem dX1_readCommand_153 : decode mX1_readCommand.2.1 153 = .ok (.ifCond .eq 7, 3) := by decide +kernel
theorem dX1_readCommand_156 : decode mX1_readCommand.2.1 156 = .ok (.iconst 1, 1) := by decide +kernel
theorem dX1_readCommand_157 : decode mX1_readCommand.2.1 157 = .ok (.goto 4, 3) := by decide +kernel
theorem dX1_readCommand_160 : decode mX1_readCommand.2.1 160 = .ok (.iconst 0, 1) := by decide +kernel
theorem dX1_readCommand_161 : decode mX1_readCommand.2.1 161 = .ok (.ireturn, 1) := by decide +kernel
theorem dX1_readCommand_162 : decode mX1_readCommand.2.1 162 = .ok (.aload_n 0, 1) := by decide +kernel
theorem dX1_readCommand_163 : decode mX1_readCommand.2.1 163 = .ok (.aload_n 1, 1) := by decide +kernel
theorem dX1_readCommand_164 : decode mX1_readCommand.2.1 164 = .ok (.invokevirtual 53, 3) := by decide +kernel
theorem dX1_readCommand_167 : decode mX1_readCommand.2.1 167 = .ok (.ifCond .eq 32, 3) := by decide +kernel
theorem dX1_readCommand_170 : decode mX1_readCommand.2.1 170 = .ok (.aload_n 0, 1) := by decide +kernel
theorem dX1_readCommand_171 : decode mX1_readCommand.2.1 171 = .ok (.bipush 32, 2) := by decide +kernel
theorem dX1_readCommand_173 : decode mX1_readCommand.2.1 173 = .ok (.invokevirtual 36, 3) := by decide +kernel
theorem dX1_readCommand_176 : decode mX1_readCommand.2.1 176 = .ok (.ifCond .eq 23, 3) := by decide +kernel
theorem dX1_readCommand_179 : decode mX1_readCommand.2.1 179 = .ok (.aload_n 0, 1) := by decide +kernel
theorem dX1_readCommand_180 : decode mX1_readCommand.2.1 180 = .ok (.aload_n 1, 1) := by decide +kernel
theorem dX1_readCommand_181 : decode mX1_readCommand.2.1 181 = .ok (.invokevirtual 47, 3) := by decide +kernel
theorem dX1_readCommand_184 : decode mX1_readCommand.2.1 184 = .ok (.ifCond .eq 15, 3) := by decide +kernel
theorem dX1_readCommand_187 : decode mX1_readCommand.2.1 187 = .ok (.aload_n 0, 1) := by decide +kernel
theorem dX1_readCommand_188 : decode mX1_readCommand.2.1 188 = .ok (.aload_n 1, 1) := by decide +kernel
theorem dX1_readCommand_189 : decode mX1_readCommand.2.1 189 = .ok (.invokevirtual 50, 3) := by decide +kernel
theorem dX1_readCommand_192 : decode mX1_readCommand.2.1 192 = .ok (.ifCond .eq 7, 3) := by decide +kernel
theorem dX1_readCommand_195 : decode mX1_readCommand.2.1 195 = .ok (.iconst 1, 1) := by decide +kernel
theorem dX1_readCommand_196 : decode mX1_readCommand.2.1 196 = .ok (.goto 4, 3) := by decide +kernel
theorem dX1_readCommand_199 : decode mX1_readCommand.2.1 199 = .ok (.iconst 0, 1) := by decide +kernel
theorem dX1_readCommand_200 : decode mX1_readCommand.2.1 200 = .ok (.ireturn, 1) := by decide +kernel
theorem dX1_readCommand_201 : decode mX1_readCommand.2.1 201 = .ok (.aload_n 0, 1) := by decide +kernel
theorem dX1_readCommand_202 : decode mX1_readCommand.2.1 202 = .ok (.aload_n 1, 1) := by decide +kernel
theorem dX1_readCommand_203 : decode mX1_readCommand.2.1 203 = .ok (.invokevirtual 53, 3) := by decide +kernel
theorem dX1_readCommand_206 : decode mX1_readCommand.2.1 206 = .ok (.ireturn, 1) := by decide +kernel
theorem dX1_readCommand_207 : decode mX1_readCommand.2.1 207 = .ok (.aload_n 0, 1) := by decide +kernel
theorem dX1_readCommand_208 : decode mX1_readCommand.2.1 208 = .ok (.aload_n 1, 1) := by decide +kernel
theorem dX1_readCommand_209 : decode mX1_readCommand.2.1 209 = .ok (.invokevirtual 50, 3) := by decide +kernel
theorem dX1_readCommand_212 : decode mX1_readCommand.2.1 212 = .ok (.ireturn, 1) := by decide +kernel
theorem dX1_readCommand_213 : decode mX1_readCommand.2.1 213 = .ok (.iconst 0, 1) := by decide +kernel
theorem dX1_readCommand_214 : decode mX1_readCommand.2.1 214 = .ok (.ireturn, 1) := by decide +kernel
theorem dX1_next_0 : decode mX1_next.2.1 0 = .ok (.aload_n 0, 1) := by decide +kernel
theorem dX1_next_1 : decode mX1_next.2.1 1 = .ok (.getfield 19, 3) := by decide +kernel
theorem dX1_next_4 : decode mX1_next.2.1 4 = .ok (.ifCond .lt 38, 3) := by decide +kernel
theorem dX1_next_7 : decode mX1_next.2.1 7 = .ok (.aload_n 0, 1) := by decide +kernel
theorem dX1_next_8 : decode mX1_next.2.1 8 = .ok (.getfield 19, 3) := by decide +kernel
theorem dX1_next_11 : decode mX1_next.2.1 11 = .ok (.aload_n 0, 1) := by decide +kernel
theorem dX1_next_12 : decode mX1_next.2.1 12 = .ok (.getfield 15, 3) := by decide +kernel
theorem dX1_next_15 : decode mX1_next.2.1 15 = .ok (.if_icmp .ge 27, 3) := by decide +kernel
theorem dX1_next_18 : decode mX1_next.2.1 18 = .ok (.aload_n 0, 1) := by decide +kernel
theorem dX1_next_19 : decode mX1_next.2.1 19 = .ok (.getfield 19, 3) := by decide +kernel
theorem dX1_next_22 : decode mX1_next.2.1 22 = .ok (.aload_n 0, 1) := by decide +kernel
theorem dX1_next_23 : decode mX1_next.2.1 23 = .ok (.getfield 9, 3) := by decide +kernel
theorem dX1_next_26 : decode mX1_next.2.1 26 = .ok (.arraylength, 1) := by decide +kernel
theorem dX1_next_27 : decode mX1_next.2.1 27 = .ok (.if_icmp .ge 15, 3) := by decide +kernel
theorem dX1_next_30 : decode mX1_next.2.1 30 = .ok (.aload_n 0, 1) := by decide +kernel
theorem dX1_next_31 : decode mX1_next.2.1 31 = .ok (.getfield 9, 3) := by decide +kernel
theorem dX1_next_34 : decode mX1_next.2.1 34 = .ok (.aload_n 0, 1) := by decide +kernel
theorem dX1_next_35 : decode mX1_next.2.1 35 = .ok (.getfield 19, 3) := by decide +kernel
theorem dX1_next_38 : decode mX1_next.2.1 38 = .ok (.caload, 1) := by decide +kernel
theorem dX1_next_39 : decode mX1_next.2.1 39 = .ok (.goto 4, 3) := by decide +kernel
theorem dX1_next_42 : decode mX1_next.2.1 42 = .ok (.iconst 0, 1) := by decide +kernel
theorem dX1_next_43 : decode mX1_next.2.1 43 = .ok (.ireturn, 1) := by decide +kernel
theorem dX1_readKeyword_0 : decode mX1_readKeyword.2.1 0 = .ok (.aload_n 0, 1) := by decide +kernel
theorem dX1_readKeyword_1 : decode mX1_readKeyword.2.1 1 = .ok (.getfield 19, 3) := by decide +kernel
theorem dX1_readKeyword_4 : decode mX1_readKeyword.2.1 4 = .ok (.istore_n 1, 1) := by decide +kernel
theorem dX1_readKeyword_5 : decode mX1_readKeyword.2.1 5 = .ok (.iconst 0, 1) := by decide +kernel
theorem dX1_readKeyword_6 : decode mX1_readKeyword.2.1 6 = .ok (.istore_n 2, 1) := by decide +kernel
theorem dX1_readKeyword_7 : decode mX1_readKeyword.2.1 7 = .ok (.iconst 0, 1) := by decide +kernel
theorem dX1_readKeyword_8 : decode mX1_readKeyword.2.1 8 = .ok (.istore_n 3, 1) := by decide +kernel
theorem dX1_readKeyword_9 : decode mX1_readKeyword.2.1 9 = .ok (.iload_n 3, 1) := by decide +kernel
theorem dX1_readKeyword_10 : decode mX1_readKeyword.2.1 10 = .ok (.bipush 9, 2) := by decide +kernel
theorem dX1_readKeyword_12 : decode mX1_readKeyword.2.1 12 = .ok (.if_icmp .ge 51, 3) := by decide +kernel
theorem dX1_readKeyword_15 : decode mX1_readKeyword.2.1 15 = .ok (.iload_n 3, 1) := by decide +kernel
theorem dX1_readKeyword_16 : decode mX1_readKeyword.2.1 16 = .ok (.invokestatic 59, 3) := by decide +kernel
theorem dX1_readKeyword_19 : decode mX1_readKeyword.2.1 19 = .ok (.astore 4, 2) := by decide +kernel
theorem dX1_readKeyword_21 : decode mX1_readKeyword.2.1 21 = .ok (.aload_n 0, 1) := by decide +kernel
theorem dX1_readKeyword_22 : decode mX1_readKeyword.2.1 22 = .ok (.aload 4, 2) := by decide +kernel
theorem dX1_readKeyword_24 : decode mX1_readKeyword.2.1 24 = .ok (.iload_n 1, 1) := by decide +kernel
theorem dX1_readKeyword_25 : decode mX1_readKeyword.2.1 25 = .ok (.invokevirtual 63, 3) := by decide +kernel
theorem dX1_readKeyword_28 : decode mX1_readKeyword.2.1 28 = .ok (.istore 5, 2) := by decide +kernel
theorem dX1_readKeyword_30 : decode mX1_readKeyword.2.1 30 = .ok (.iload 5, 2) := by decide +kernel
theorem dX1_readKeyword_32 : decode mX1_readKeyword.2.1 32 = .ok (.aload 4, 2) := by decide +kernel
theorem dX1_readKeyword_34 : decode mX1_readKeyword.2.1 34 = .ok (.invokevirtual 67, 3) := by decide +kernel
theorem dX1_readKeyword_37 : decode mX1_readKeyword.2.1 37 = .ok (.if_icmp .ne 13, 3) := by decide +kernel
theorem dX1_readKeyword_40 : decode mX1_readKeyword.2.1 40 = .ok (.aload_n 0, 1) := by decide +kernel
theorem dX1_readKeyword_41 : decode mX1_readKeyword.2.1 41 = .ok (.iload_n 1, 1) := by decide +kernel
theorem dX1_readKeyword_42 : decode mX1_readKeyword.2.1 42 = .ok (.iload 5, 2) := by decide +kernel
theorem dX1_readKeyword_44 : decode mX1_readKeyword.2.1 44 = .ok (.iadd, 1) := by decide +kernel
theorem dX1_readKeyword_45 : decode mX1_readKeyword.2.1 45 = .ok (.putfield 19, 3) := by decide +kernel
theorem dX1_readKeyword_48 : decode mX1_readKeyword.2.1 48 = .ok (.iload_n 3, 1) := by decide +kernel
theorem dX1_readKeyword_49 : decode mX1_readKeyword.2.1 49 = .ok (.ireturn, 1) := by decide +kernel
theorem dX1_readKeyword_50 : decode mX1_readKeyword.2.1 50 = .ok (.iload_n 2, 1) := by decide +kernel
theorem dX1_readKeyword_51 : decode mX1_readKeyword.2.1 51 = .ok (.iload 5, 2) := by decide +kernel
theorem dX1_readKeyword_53 : decode mX1_readKeyword.2.1 53 = .ok (.invokestatic 71, 3) := by decide +kernel
theorem dX1_readKeyword_56 : decode mX1_readKeyword.2.1 56 = .ok (.istore_n 2, 1) := by decide +kernel
theorem dX1_readKeyword_57 : decode mX1_readKeyword.2.1 57 = .ok (.iinc 3 1, 3) := by decide +kernel
theorem dX1_readKeyword_60 : decode mX1_readKeyword.2.1 60 = .ok (.goto (-51), 3) := by decide +kernel
theorem dX1_readKeyword_63 : decode mX1_readKeyword.2.1 63 = .ok (.aload_n 0, 1) := by decide +kernel
theorem dX1_readKeyword_64 : decode mX1_readKeyword.2.1 64 = .ok (.iload_n 1, 1) := by decide +kernel
theorem dX1_readKeyword_65 : decode mX1_readKeyword.2.1 65 = .ok (.iload_n 2, 1) := by decide +kernel
theorem dX1_readKeyword_66 : decode mX1_readKeyword.2.1 66 = .ok (.iadd, 1) := by decide +kernel
theorem dX1_readKeyword_67 : decode mX1_readKeyword.2.1 67 = .ok (.putfield 19, 3) := by decide +kernel
theorem dX1_readKeyword_70 : decode mX1_readKeyword.2.1 70 = .ok (.iconst (-1), 1) := by decide +kernel
theorem dX1_readKeyword_71 : decode mX1_readKeyword.2.1 71 = .ok (.ireturn, 1) := by decide +kernel
theorem dX1_countSame_0 : decode mX1_countSame.2.1 0 = .ok (.iconst 0, 1) := by decide +kernel
theorem dX1_countSame_1 : decode mX1_countSame.2.1 1 = .ok (.istore_n 3, 1) := by decide +kernel
theorem dX1_countSame_2 : decode mX1_countSame.2.1 2 = .ok (.iload_n 3, 1) := by decide +kernel
theorem dX1_countSame_3 : decode mX1_countSame.2.1 3 = .ok (.aload_n 1, 1) := by decide +kernel
theorem dX1_countSame_4 : decode mX1_countSame.2.1 4 = .ok (.invokevirtual 67, 3) := by decide +kernel
theorem dX1_countSame_7 : decode mX1_countSame.2.1 7 = .ok (.if_icmp .ge 30, 3) := by decide +kernel
theorem dX1_countSame_10 : decode mX1_countSame.2.1 10 = .ok (.aload_n 0, 1) := by decide +kernel
theorem dX1_countSame_11 : decode mX1_countSame.2.1 11 = .ok (.iload_n 2, 1) := by decide +kernel
theorem dX1_countSame_12 : decode mX1_countSame.2.1 12 = .ok (.iload_n 3, 1) := by decide +kernel
theorem dX1_countSame_13 : decode mX1_countSame.2.1 13 = .ok (.iadd, 1) := by decide +kernel
theorem dX1_countSame_14 : decode mX1_countSame.2.1 14 = .ok (.putfield 19, 3) := by decide +kernel
theorem dX1_countSame_17 : decode mX1_countSame.2.1 17 = .ok (.aload_n 0, 1) := by decide +kernel
theorem dX1_countSame_18 : decode mX1_countSame.2.1 18 = .ok (.invokevirtual 77, 3) := by decide +kernel
theorem dX1_countSame_21 : decode mX1_countSame.2.1 21 = .ok (.aload_n 1, 1) := by decide +kernel
theorem dX1_countSame_22 : decode mX1_countSame.2.1 22 = .ok (.iload_n 3, 1) := by decide +kernel
theorem dX1_countSame_23 : decode mX1_countSame.2.1 23 = .ok (.invokevirtual 81, 3) := by decide +kernel
theorem dX1_countSame_26 : decode mX1_countSame.2.1 26 = .ok (.if_icmp .eq 5, 3) := by decide +kernel
theorem dX1_countSame_29 : decode mX1_countSame.2.1 29 = .ok (.iload_n 3, 1) := by decide +kernel
theorem dX1_countSame_30 : decode mX1_countSame.2.1 30 = .ok (.ireturn, 1) := by decide +kernel
theorem dX1_countSame_31 : decode mX1_countSame.2.1 31 = .ok (.iinc 3 1, 3) := by decide +kernel
theorem dX1_countSame_34 : decode mX1_countSame.2.1 34 = .ok (.goto (-32), 3) := by decide +kernel
theorem dX1_countSame_37 : decode mX1_countSame.2.1 37 = .ok (.aload_n 1, 1) := by decide +kernel
theorem dX1_countSame_38 : decode mX1_countSame.2.1 38 = .ok (.invokevirtual 67, 3) := by decide +kernel
theorem dX1_countSame_41 : decode mX1_countSame.2.1 41 = .ok (.ireturn, 1) := by decide +kernel
theorem dX1_keywordOf_0 : decode mX1_keywordOf.2.1 0 = .ok (.iload_n 0, 1) := by decide +kernel
theorem dX1_keywordOf_1 : decode mX1_keywordOf.2.1 1 = .ok (.tableswitch 71 0 7 #[47, 50, 53, 56, 59, 62, 65, 68], 47) := by decide +kernel
theorem dX1_keywordOf_48 : decode mX1_keywordOf.2.1 48 = .ok (.ldc 85, 2) := by decide +kernel
theorem dX1_keywordOf_50 : decode mX1_keywordOf.2.1 50 = .ok (.areturn, 1) := by decide +kernel
theorem dX1_keywordOf_51 : decode mX1_keywordOf.2.1 51 = .ok (.ldc 87, 2) := by decide +kernel
theorem dX1_keywordOf_53 : decode mX1_keywordOf.2.1 53 = .ok (.areturn, 1) := by decide +kernel
theorem dX1_keywordOf_54 : decode mX1_keywordOf.2.1 54 = .ok (.ldc 89, 2) := by decide +kernel
theorem dX1_keywordOf_56 : decode mX1_keywordOf.2.1 56 = .ok (.areturn, 1) := by decide +kernel
theorem dX1_keywordOf_57 : decode mX1_keywordOf.2.1 57 = .ok (.ldc 91, 2) := by decide +kernel
theorem dX1_keywordOf_59 : decode mX1_keywordOf.2.1 59 = .ok (.areturn, 1) := by decide +kernel
theorem dX1_keywordOf_60 : decode mX1_keywordOf.2.1 60 = .ok (.ldc 93, 2) := by decide +kernel
theorem dX1_keywordOf_62 : decode mX1_keywordOf.2.1 62 = .ok (.areturn, 1) := by decide +kernel
theorem dX1_keywordOf_63 : decode mX1_keywordOf.2.1 63 = .ok (.ldc 95, 2) := by decide +kernel
theorem dX1_keywordOf_65 : decode mX1_keywordOf.2.1 65 = .ok (.areturn, 1) := by decide +kernel
theorem dX1_keywordOf_66 : decode mX1_keywordOf.2.1 66 = .ok (.ldc 97, 2) := by decide +kernel
theorem dX1_keywordOf_68 : decode mX1_keywordOf.2.1 68 = .ok (.areturn, 1) := by decide +kernel
theorem dX1_keywordOf_69 : decode mX1_keywordOf.2.1 69 = .ok (.ldc 99, 2) := by decide +kernel
theorem dX1_keywordOf_71 : decode mX1_keywordOf.2.1 71 = .ok (.areturn, 1) := by decide +kernel
theorem dX1_keywordOf_72 : decode mX1_keywordOf.2.1 72 = .ok (.ldc 101, 2) := by decide +kernel
theorem dX1_keywordOf_74 : decode mX1_keywordOf.2.1 74 = .ok (.areturn, 1) := by decide +kernel
theorem dX1_readSign_0 : decode mX1_readSign.2.1 0 = .ok (.aload_n 0, 1) := by decide +kernel
theorem dX1_readSign_1 : decode mX1_readSign.2.1 1 = .ok (.invokevirtual 77, 3) := by decide +kernel
theorem dX1_readSign_4 : decode mX1_readSign.2.1 4 = .ok (.iload_n 1, 1) := by decide +kernel
theorem dX1_readSign_5 : decode mX1_readSign.2.1 5 = .ok (.if_icmp .eq 5, 3) := by decide +kernel
theorem dX1_readSign_8 : decode mX1_readSign.2.1 8 = .ok (.iconst 0, 1) := by decide +kernel
theorem dX1_readSign_9 : decode mX1_readSign.2.1 9 = .ok (.ireturn, 1) := by decide +kernel
theorem dX1_readSign_10 : decode mX1_readSign.2.1 10 = .ok (.aload_n 0, 1) := by decide +kernel
theorem dX1_readSign_11 : decode mX1_readSign.2.1 11 = .ok (.dup, 1) := by decide +kernel
theorem dX1_readSign_12 : decode mX1_readSign.2.1 12 = .ok (.getfield 19, 3) := by decide +kernel
theorem dX1_readSign_15 : decode mX1_readSign.2.1 15 = .ok (.iconst 1, 1) := by decide +kernel
theorem dX1_readSign_16 : decode mX1_readSign.2.1 16 = .ok (.iadd, 1) := by decide +kernel
theorem dX1_readSign_17 : decode mX1_readSign.2.1 17 = .ok (.putfield 19, 3) := by decide +kernel
theorem dX1_readSign_20 : decode mX1_readSign.2.1 20 = .ok (.iconst 1, 1) := by decide +kernel
theorem dX1_readSign_21 : decode mX1_readSign.2.1 21 = .ok (.ireturn, 1) := by decide +kernel
theorem dX1_readLetter_0 : decode mX1_readLetter.2.1 0 = .ok (.aload_n 0, 1) := by decide +kernel
theorem dX1_readLetter_1 : decode mX1_readLetter.2.1 1 = .ok (.invokevirtual 77, 3) := by decide +kernel
theorem dX1_readLetter_4 : decode mX1_readLetter.2.1 4 = .ok (.istore_n 2, 1) := by decide +kernel
theorem dX1_readLetter_5 : decode mX1_readLetter.2.1 5 = .ok (.iload_n 2, 1) := by decide +kernel
theorem dX1_readLetter_6 : decode mX1_readLetter.2.1 6 = .ok (.bipush 97, 2) := by decide +kernel
theorem dX1_readLetter_8 : decode mX1_readLetter.2.1 8 = .ok (.if_icmp .lt 9, 3) := by decide +kernel
theorem dX1_readLetter_11 : decode mX1_readLetter.2.1 11 = .ok (.iload_n 2, 1) := by decide +kernel
theorem dX1_readLetter_12 : decode mX1_readLetter.2.1 12 = .ok (.bipush 122, 2) := by decide +kernel
theorem dX1_readLetter_14 : decode mX1_readLetter.2.1 14 = .ok (.if_icmp .le 5, 3) := by decide +kernel
theorem dX1_readLetter_17 : decode mX1_readLetter.2.1 17 = .ok (.iconst 0, 1) := by decide +kernel
theorem dX1_readLetter_18 : decode mX1_readLetter.2.1 18 = .ok (.ireturn, 1) := by decide +kernel
theorem dX1_readLetter_19 : decode mX1_readLetter.2.1 19 = .ok (.aload_n 1, 1) := by decide +kernel
theorem dX1_readLetter_20 : decode mX1_readLetter.2.1 20 = .ok (.iload_n 2, 1) := by decide +kernel
theorem dX1_readLetter_21 : decode mX1_readLetter.2.1 21 = .ok (.putfield 103, 3) := by decide +kernel
theorem dX1_readLetter_24 : decode mX1_readLetter.2.1 24 = .ok (.aload_n 0, 1) := by decide +kernel
theorem dX1_readLetter_25 : decode mX1_readLetter.2.1 25 = .ok (.dup, 1) := by decide +kernel
theorem dX1_readLetter_26 : decode mX1_readLetter.2.1 26 = .ok (.getfield 19, 3) := by decide +kernel
theorem dX1_readLetter_29 : decode mX1_readLetter.2.1 29 = .ok (.iconst 1, 1) := by decide +kernel
theorem dX1_readLetter_30 : decode mX1_readLetter.2.1 30 = .ok (.iadd, 1) := by decide +kernel
theorem dX1_readLetter_31 : decode mX1_readLetter.2.1 31 = .ok (.putfield 19, 3) := by decide +kernel
theorem dX1_readLetter_34 : decode mX1_readLetter.2.1 34 = .ok (.iconst 1, 1) := by decide +kernel
theorem dX1_readLetter_35 : decode mX1_readLetter.2.1 35 = .ok (.ireturn, 1) := by decide +kernel
theorem dX1_readPolicy_0 : decode mX1_readPolicy.2.1 0 = .ok (.aload_n 0, 1) := by decide +kernel
theorem dX1_readPolicy_1 : decode mX1_readPolicy.2.1 1 = .ok (.invokevirtual 77, 3) := by decide +kernel
theorem dX1_readPolicy_4 : decode mX1_readPolicy.2.1 4 = .ok (.istore_n 2, 1) := by decide +kernel
theorem dX1_readPolicy_5 : decode mX1_readPolicy.2.1 5 = .ok (.iload_n 2, 1) := by decide +kernel
theorem dX1_readPolicy_6 : decode mX1_readPolicy.2.1 6 = .ok (.bipush 114, 2) := by decide +kernel
theorem dX1_readPolicy_8 : decode mX1_readPolicy.2.1 8 = .ok (.if_icmp .eq 17, 3) := by decide +kernel
theorem dX1_readPolicy_11 : decode mX1_readPolicy.2.1 11 = .ok (.iload_n 2, 1) := by decide +kernel
theorem dX1_readPolicy_12 : decode mX1_readPolicy.2.1 12 = .ok (.bipush 111, 2) := by decide +kernel
theorem dX1_readPolicy_14 : decode mX1_readPolicy.2.1 14 = .ok (.if_icmp .eq 11, 3) := by decide +kernel
theorem dX1_readPolicy_17 : decode mX1_readPolicy.2.1 17 = .ok (.iload_n 2, 1) := by decide +kernel
theorem dX1_readPolicy_18 : decode mX1_readPolicy.2.1 18 = .ok (.bipush 108, 2) := by decide +kernel
theorem dX1_readPolicy_20 : decode mX1_readPolicy.2.1 20 = .ok (.if_icmp .eq 5, 3) := by decide +kernel
theorem dX1_readPolicy_23 : decode mX1_readPolicy.2.1 23 = .ok (.iconst 0, 1) := by decide +kernel
theorem dX1_readPolicy_24 : decode mX1_readPolicy.2.1 24 = .ok (.ireturn, 1) := by decide +kernel
theorem dX1_readPolicy_25 : decode mX1_readPolicy.2.1 25 = .ok (.aload_n 1, 1) := by decide +kernel
theorem dX1_readPolicy_26 : decode mX1_readPolicy.2.1 26 = .ok (.iload_n 2, 1) := by decide +kernel
theorem dX1_readPolicy_27 : decode mX1_readPolicy.2.1 27 = .ok (.putfield 107, 3) := by decide +kernel
theorem dX1_readPolicy_30 : decode mX1_readPolicy.2.1 30 = .ok (.aload_n 0, 1) := by decide +kernel
theorem dX1_readPolicy_31 : decode mX1_readPolicy.2.1 31 = .ok (.dup, 1) := by decide +kernel
theorem dX1_readPolicy_32 : decode mX1_readPolicy.2.1 32 = .ok (.getfield 19, 3) := by decide +kernel
theorem dX1_readPolicy_35 : decode mX1_readPolicy.2.1 35 = .ok (.iconst 1, 1) := by decide +kernel
theorem dX1_readPolicy_36 : decode mX1_readPolicy.2.1 36 = .ok (.iadd, 1) := by decide +kernel
theorem dX1_readPolicy_37 : decode mX1_readPolicy.2.1 37 = .ok (.putfield 19, 3) := by decide +kernel
theorem dX1_readPolicy_40 : decode mX1_readPolicy.2.1 40 = .ok (.iconst 1, 1) := by decide +kernel
theorem dX1_readPolicy_41 : decode mX1_readPolicy.2.1 41 = .ok (.ireturn, 1) := by decide +kernel
theorem dX1_readDigit_0 : decode mX1_readDigit.2.1 0 = .ok (.aload_n 0, 1) := by decide +kernel
theorem dX1_readDigit_1 : decode mX1_readDigit.2.1 1 = .ok (.bipush 32, 2) := by decide +kernel
theorem dX1_readDigit_3 : decode mX1_readDigit.2.1 3 = .ok (.invokevirtual 36, 3) := by decide +kernel
theorem dX1_readDigit_6 : decode mX1_readDigit.2.1 6 = .ok (.ifCond .eq 13, 3) := by decide +kernel
theorem dX1_readDigit_9 : decode mX1_readDigit.2.1 9 = .ok (.aload_n 0, 1) := by decide +kernel
theorem dX1_readDigit_10 : decode mX1_readDigit.2.1 10 = .ok (.invokevirtual 77, 3) := by decide +kernel
theorem dX1_readDigit_13 : decode mX1_readDigit.2.1 13 = .ok (.invokestatic 110, 3) := by decide +kernel
theorem dX1_readDigit_16 : decode mX1_readDigit.2.1 16 = .ok (.ifCond .ne 5, 3) := by decide +kernel
theorem dX1_readDigit_19 : decode mX1_readDigit.2.1 19 = .ok (.iconst 0, 1) := by decide +kernel
theorem dX1_readDigit_20 : decode mX1_readDigit.2.1 20 = .ok (.ireturn, 1) := by decide +kernel
theorem dX1_readDigit_21 : decode mX1_readDigit.2.1 21 = .ok (.aload_n 1, 1) := by decide +kernel
theorem dX1_readDigit_22 : decode mX1_readDigit.2.1 22 = .ok (.aload_n 0, 1) := by decide +kernel
theorem dX1_readDigit_23 : decode mX1_readDigit.2.1 23 = .ok (.invokevirtual 77, 3) := by decide +kernel
theorem dX1_readDigit_26 : decode mX1_readDigit.2.1 26 = .ok (.bipush 48, 2) := by decide +kernel
theorem dX1_readDigit_28 : decode mX1_readDigit.2.1 28 = .ok (.isub, 1) := by decide +kernel
theorem dX1_readDigit_29 : decode mX1_readDigit.2.1 29 = .ok (.putfield 113, 3) := by decide +kernel
theorem dX1_readDigit_32 : decode mX1_readDigit.2.1 32 = .ok (.aload_n 0, 1) := by decide +kernel
theorem dX1_readDigit_33 : decode mX1_readDigit.2.1 33 = .ok (.dup, 1) := by decide +kernel
theorem dX1_readDigit_34 : decode mX1_readDigit.2.1 34 = .ok (.getfield 19, 3) := by decide +kernel
theorem dX1_readDigit_37 : decode mX1_readDigit.2.1 37 = .ok (.iconst 1, 1) := by decide +kernel
theorem dX1_readDigit_38 : decode mX1_readDigit.2.1 38 = .ok (.iadd, 1) := by decide +kernel
theorem dX1_readDigit_39 : decode mX1_readDigit.2.1 39 = .ok (.putfield 19, 3) := by decide +kernel
theorem dX1_readDigit_42 : decode mX1_readDigit.2.1 42 = .ok (.iconst 1, 1) := by decide +kernel
theorem dX1_readDigit_43 : decode mX1_readDigit.2.1 43 = .ok (.ireturn, 1) := by decide +kernel
theorem dX1_readNumber_0 : decode mX1_readNumber.2.1 0 = .ok (.aload_n 0, 1) := by decide +kernel
theorem dX1_readNumber_1 : decode mX1_readNumber.2.1 1 = .ok (.bipush 32, 2) := by decide +kernel
theorem dX1_readNumber_3 : decode mX1_readNumber.2.1 3 = .ok (.invokevirtual 36, 3) := by decide +kernel
theorem dX1_readNumber_6 : decode mX1_readNumber.2.1 6 = .ok (.ifCond .eq 13, 3) := by decide +kernel
theorem dX1_readNumber_9 : decode mX1_readNumber.2.1 9 = .ok (.aload_n 0, 1) := by decide +kernel
theorem dX1_readNumber_10 : decode mX1_readNumber.2.1 10 = .ok (.invokevirtual 77, 3) := by decide +kernel
theorem dX1_readNumber_13 : decode mX1_readNumber.2.1 13 = .ok (.invokestatic 110, 3) := by decide +kernel
theorem dX1_readNumber_16 : decode mX1_readNumber.2.1 16 = .ok (.ifCond .ne 5, 3) := by decide +kernel
theorem dX1_readNumber_19 : decode mX1_readNumber.2.1 19 = .ok (.iconst 0, 1) := by decide +kernel
theorem dX1_readNumber_20 : decode mX1_readNumber.2.1 20 = .ok (.ireturn, 1) := by decide +kernel
theorem dX1_readNumber_21 : decode mX1_readNumber.2.1 21 = .ok (.aload_n 1, 1) := by decide +kernel
theorem dX1_readNumber_22 : decode mX1_readNumber.2.1 22 = .ok (.aload_n 0, 1) := by decide +kernel
theorem dX1_readNumber_23 : decode mX1_readNumber.2.1 23 = .ok (.invokevirtual 77, 3) := by decide +kernel
theorem dX1_readNumber_26 : decode mX1_readNumber.2.1 26 = .ok (.bipush 48, 2) := by decide +kernel
theorem dX1_readNumber_28 : decode mX1_readNumber.2.1 28 = .ok (.isub, 1) := by decide +kernel
theorem dX1_readNumber_29 : decode mX1_readNumber.2.1 29 = .ok (.putfield 116, 3) := by decide +kernel
theorem dX1_readNumber_32 : decode mX1_readNumber.2.1 32 = .ok (.aload_n 0, 1) := by decide +kernel
theorem dX1_readNumber_33 : decode mX1_readNumber.2.1 33 = .ok (.dup, 1) := by decide +kernel
theorem dX1_readNumber_34 : decode mX1_readNumber.2.1 34 = .ok (.getfield 19, 3) := by decide +kernel
theorem dX1_readNumber_37 : decode mX1_readNumber.2.1 37 = .ok (.iconst 1, 1) := by decide +kernel
theorem dX1_readNumber_38 : decode mX1_readNumber.2.1 38 = .ok (.iadd, 1) := by decide +kernel
theorem dX1_readNumber_39 : decode mX1_readNumber.2.1 39 = .ok (.putfield 19, 3) := by decide +kernel
theorem dX1_readNumber_42 : decode mX1_readNumber.2.1 42 = .ok (.aload_n 0, 1) := by decide +kernel
theorem dX1_readNumber_43 : decode mX1_readNumber.2.1 43 = .ok (.invokevirtual 77, 3) := by decide +kernel
theorem dX1_readNumber_46 : decode mX1_readNumber.2.1 46 = .ok (.invokestatic 110, 3) := by decide +kernel
theorem dX1_readNumber_49 : decode mX1_readNumber.2.1 49 = .ok (.ifCond .eq 32, 3) := by decide +kernel
theorem dX1_readNumber_52 : decode mX1_readNumber.2.1 52 = .ok (.aload_n 1, 1) := by decide +kernel
theorem dX1_readNumber_53 : decode mX1_readNumber.2.1 53 = .ok (.aload_n 1, 1) := by decide +kernel
theorem dX1_readNumber_54 : decode mX1_readNumber.2.1 54 = .ok (.getfield 116, 3) := by decide +kernel
theorem dX1_readNumber_57 : decode mX1_readNumber.2.1 57 = .ok (.bipush 10, 2) := by decide +kernel
theorem dX1_readNumber_59 : decode mX1_readNumber.2.1 59 = .ok (.imul, 1) := by decide +kernel
theorem dX1_readNumber_60 : decode mX1_readNumber.2.1 60 = .ok (.aload_n 0, 1) := by decide +kernel
theorem dX1_readNumber_61 : decode mX1_readNumber.2.1 61 = .ok (.invokevirtual 77, 3) := by decide +kernel
theorem dX1_readNumber_64 : decode mX1_readNumber.2.1 64 = .ok (.bipush 48, 2) := by decide +kernel
theorem dX1_readNumber_66 : decode mX1_readNumber.2.1 66 = .ok (.isub, 1) := by decide +kernel
theorem dX1_readNumber_67 : decode mX1_readNumber.2.1 67 = .ok (.iadd, 1) := by decide +kernel
theorem dX1_readNumber_68 : decode mX1_readNumber.2.1 68 = .ok (.putfield 116, 3) := by decide +kernel
theorem dX1_readNumber_71 : decode mX1_readNumber.2.1 71 = .ok (.aload_n 0, 1) := by decide +kernel
theorem dX1_readNumber_72 : decode mX1_readNumber.2.1 72 = .ok (.dup, 1) := by decide +kernel
theorem dX1_readNumber_73 : decode mX1_readNumber.2.1 73 = .ok (.getfield 19, 3) := by decide +kernel
theorem dX1_readNumber_76 : decode mX1_readNumber.2.1 76 = .ok (.iconst 1, 1) := by decide +kernel
theorem dX1_readNumber_77 : decode mX1_readNumber.2.1 77 = .ok (.iadd, 1) := by decide +kernel
theorem dX1_readNumber_78 : decode mX1_readNumber.2.1 78 = .ok (.putfield 19, 3) := by decide +kernel
theorem dX1_readNumber_81 : decode mX1_readNumber.2.1 81 = .ok (.iconst 1, 1) := by decide +kernel
theorem dX1_readNumber_82 : decode mX1_readNumber.2.1 82 = .ok (.ireturn, 1) := by decide +kernel
theorem dX1_isDigit_0 : decode mX1_isDigit.2.1 0 = .ok (.iload_n 0, 1) := by decide +kernel
theorem dX1_isDigit_1 : decode mX1_isDigit.2.1 1 = .ok (.bipush 48, 2) := by decide +kernel
theorem dX1_isDigit_3 : decode mX1_isDigit.2.1 3 = .ok (.if_icmp .lt 13, 3) := by decide +kernel
theorem dX1_isDigit_6 : decode mX1_isDigit.2.1 6 = .ok (.iload_n 0, 1) := by decide +kernel
theorem dX1_isDigit_7 : decode mX1_isDigit.2.1 7 = .ok (.bipush 57, 2) := by decide +kernel
theorem dX1_isDigit_9 : decode mX1_isDigit.2.1 9 = .ok (.if_icmp .gt 7, 3) := by decide +kernel
theorem dX1_isDigit_12 : decode mX1_isDigit.2.1 12 = .ok (.iconst 1, 1) := by decide +kernel
theorem dX1_isDigit_13 : decode mX1_isDigit.2.1 13 = .ok (.goto 4, 3) := by decide +kernel
theorem dX1_isDigit_16 : decode mX1_isDigit.2.1 16 = .ok (.iconst 0, 1) := by decide +kernel
theorem dX1_isDigit_17 : decode mX1_isDigit.2.1 17 = .ok (.ireturn, 1) := by decide +kernel
theorem dX2_init_0 : decode mX2_init.2.1 0 = .ok (.aload_n 0, 1) := by decide +kernel
theorem dX2_init_1 : decode mX2_init.2.1 1 = .ok (.invokespecial 3, 3) := by decide +kernel
theorem dX2_init_4 : decode mX2_init.2.1 4 = .ok (.aload_n 0, 1) := by decide +kernel
theorem dX2_init_5 : decode mX2_init.2.1 5 = .ok (.iconst 0, 1) := by decide +kernel
theorem dX2_init_6 : decode mX2_init.2.1 6 = .ok (.putfield 9, 3) := by decide +kernel
theorem dX2_init_9 : decode mX2_init.2.1 9 = .ok (.aload_n 0, 1) := by decide +kernel
theorem dX2_init_10 : decode mX2_init.2.1 10 = .ok (.bipush 32, 2) := by decide +kernel
theorem dX2_init_12 : decode mX2_init.2.1 12 = .ok (.putfield 15, 3) := by decide +kernel
theorem dX2_init_15 : decode mX2_init.2.1 15 = .ok (.aload_n 0, 1) := by decide +kernel
theorem dX2_init_16 : decode mX2_init.2.1 16 = .ok (.iconst 0, 1) := by decide +kernel
theorem dX2_init_17 : decode mX2_init.2.1 17 = .ok (.putfield 19, 3) := by decide +kernel
theorem dX2_init_20 : decode mX2_init.2.1 20 = .ok (.aload_n 0, 1) := by decide +kernel
theorem dX2_init_21 : decode mX2_init.2.1 21 = .ok (.iconst 0, 1) := by decide +kernel
theorem dX2_init_22 : decode mX2_init.2.1 22 = .ok (.putfield 23, 3) := by decide +kernel
theorem dX2_init_25 : decode mX2_init.2.1 25 = .ok (.aload_n 0, 1) := by decide +kernel
theorem dX2_init_26 : decode mX2_init.2.1 26 = .ok (.iconst 0, 1) := by decide +kernel
theorem dX2_init_27 : decode mX2_init.2.1 27 = .ok (.putfield 26, 3) := by decide +kernel
theorem dX2_init_30 : decode mX2_init.2.1 30 = .ok (.aload_n 0, 1) := by decide +kernel
theorem dX2_init_31 : decode mX2_init.2.1 31 = .ok (.iconst 0, 1) := by decide +kernel
theorem dX2_init_32 : decode mX2_init.2.1 32 = .ok (.putfield 29, 3) := by decide +kernel
theorem dX2_init_35 : decode mX2_init.2.1 35 = .ok (.aload_n 0, 1) := by decide +kernel
theorem dX2_init_36 : decode mX2_init.2.1 36 = .ok (.iconst 0, 1) := by decide +kernel
theorem dX2_init_37 : decode mX2_init.2.1 37 = .ok (.putfield 32, 3) := by decide +kernel
theorem dX2_init_40 : decode mX2_init.2.1 40 = .ok (.aload_n 0, 1) := by decide +kernel
theorem dX2_init_41 : decode mX2_init.2.1 41 = .ok (.iconst 0, 1) := by decide +kernel
theorem dX2_init_42 : decode mX2_init.2.1 42 = .ok (.putfield 35, 3) := by decide +kernel
theorem dX2_init_45 : decode mX2_init.2.1 45 = .ok (.aload_n 0, 1) := by decide +kernel
theorem dX2_init_46 : decode mX2_init.2.1 46 = .ok (.iconst 0, 1) := by decide +kernel
theorem dX2_init_47 : decode mX2_init.2.1 47 = .ok (.putfield 38, 3) := by decide +kernel
theorem dX2_init_50 : decode mX2_init.2.1 50 = .ok (.return_, 1) := by decide +kernel
theorem dX2_copyFrom_0 : decode mX2_copyFrom.2.1 0 = .ok (.aload_n 0, 1) := by decide +kernel
theorem dX2_copyFrom_1 : decode mX2_copyFrom.2.1 1 = .ok (.aload_n 1, 1) := by decide +kernel
theorem dX2_copyFrom_2 : decode mX2_copyFrom.2.1 2 = .ok (.getfield 9, 3) := by decide +kernel
theorem dX2_copyFrom_5 : decode mX2_copyFrom.2.1 5 = .ok (.putfield 9, 3) := by decide +kernel
theorem dX2_copyFrom_8 : decode mX2_copyFrom.2.1 8 = .ok (.aload_n 0, 1) := by decide +kernel
theorem dX2_copyFrom_9 : decode mX2_copyFrom.2.1 9 = .ok (.aload_n 1, 1) := by decide +kernel
theorem dX2_copyFrom_10 : decode mX2_copyFrom.2.1 10 = .ok (.getfield 15, 3) := by decide +kernel
theorem dX2_copyFrom_13 : decode mX2_copyFrom.2.1 13 = .ok (.putfield 15, 3) := by decide +kernel
theorem dX2_copyFrom_16 : decode mX2_copyFrom.2.1 16 = .ok (.aload_n 0, 1) := by decide +kernel
theorem dX2_copyFrom_17 : decode mX2_copyFrom.2.1 17 = .ok (.aload_n 1, 1) := by decide +kernel
theorem dX2_copyFrom_18 : decode mX2_copyFrom.2.1 18 = .ok (.getfield 19, 3) := by decide +kernel
theorem dX2_copyFrom_21 : decode mX2_copyFrom.2.1 21 = .ok (.putfield 19, 3) := by decide +kernel
theorem dX2_copyFrom_24 : decode mX2_copyFrom.2.1 24 = .ok (.aload_n 0, 1) := by decide +kernel
theorem dX2_copyFrom_25 : decode mX2_copyFrom.2.1 25 = .ok (.aload_n 1, 1) := by decide +kernel
theorem dX2_copyFrom_26 : decode mX2_copyFrom.2.1 26 = .ok (.getfield 23, 3) := by decide +kernel
theorem dX2_copyFrom_29 : decode mX2_copyFrom.2.1 29 = .ok (.putfield 23, 3) := by decide +kernel
theorem dX2_copyFrom_32 : decode mX2_copyFrom.2.1 32 = .ok (.aload_n 0, 1) := by decide +kernel
theorem dX2_copyFrom_33 : decode mX2_copyFrom.2.1 33 = .ok (.aload_n 1, 1) := by decide +kernel
theorem dX2_copyFrom_34 : decode mX2_copyFrom.2.1 34 = .ok (.getfield 26, 3) := by decide +kernel
theorem dX2_copyFrom_37 : decode mX2_copyFrom.2.1 37 = .ok (.putfield 26, 3) := by decide +kernel
theorem dX2_copyFrom_40 : decode mX2_copyFrom.2.1 40 = .ok (.aload_n 0, 1) := by decide +kernel
theorem dX2_copyFrom_41 : decode mX2_copyFrom.2.1 41 = .ok (.aload_n 1, 1) := by decide +kernel
theorem dX2_copyFrom_42 : decode mX2_copyFrom.2.1 42 = .ok (.getfield 29, 3) := by decide +kernel
theorem dX2_copyFrom_45 : decode mX2_copyFrom.2.1 45 = .ok (.putfield 29, 3) := by decide +kernel
theorem dX2_copyFrom_48 : decode mX2_copyFrom.2.1 48 = .ok (.aload_n 0, 1) := by decide +kernel
theorem dX2_copyFrom_49 : decode mX2_copyFrom.2.1 49 = .ok (.aload_n 1, 1) := by decide +kernel
theorem dX2_copyFrom_50 : decode mX2_copyFrom.2.1 50 = .ok (.getfield 32, 3) := by decide +kernel
theorem dX2_copyFrom_53 : decode mX2_copyFrom.2.1 53 = .ok (.putfield 32, 3) := by decide +kernel
theorem dX2_copyFrom_56 : decode mX2_copyFrom.2.1 56 = .ok (.aload_n 0, 1) := by decide +kernel
theorem dX2_copyFrom_57 : decode mX2_copyFrom.2.1 57 = .ok (.aload_n 1, 1) := by decide +kernel
theorem dX2_copyFrom_58 : decode mX2_copyFrom.2.1 58 = .ok (.getfield 35, 3) := by decide +kernel
theorem dX2_copyFrom_61 : decode mX2_copyFrom.2.1 61 = .ok (.putfield 35, 3) := by decide +kernel
theorem dX2_copyFrom_64 : decode mX2_copyFrom.2.1 64 = .ok (.aload_n 0, 1) := by decide +kernel
theorem dX2_copyFrom_65 : decode mX2_copyFrom.2.1 65 = .ok (.aload_n 1, 1) := by decide +kernel
theorem dX2_copyFrom_66 : decode mX2_copyFrom.2.1 66 = .ok (.getfield 38, 3) := by decide +kernel
theorem dX2_copyFrom_69 : decode mX2_copyFrom.2.1 69 = .ok (.putfield 38, 3) := by decide +kernel
theorem dX2_copyFrom_72 : decode mX2_copyFrom.2.1 72 = .ok (.return_, 1) := by decide +kernel
theorem dX2_fill_0 : decode mX2_fill.2.1 0 = .ok (.aload_n 0, 1) := by decide +kernel
theorem dX2_fill_1 : decode mX2_fill.2.1 1 = .ok (.iconst 1, 1) := by decide +kernel
theorem dX2_fill_2 : decode mX2_fill.2.1 2 = .ok (.putfield 9, 3) := by decide +kernel
theorem dX2_fill_5 : decode mX2_fill.2.1 5 = .ok (.aload_n 0, 1) := by decide +kernel
theorem dX2_fill_6 : decode mX2_fill.2.1 6 = .ok (.iload_n 1, 1) := by decide +kernel
theorem dX2_fill_7 : decode mX2_fill.2.1 7 = .ok (.putfield 15, 3) := by decide +kernel
theorem dX2_fill_10 : decode mX2_fill.2.1 10 = .ok (.aload_n 0, 1) := by decide +kernel
theorem dX2_fill_11 : decode mX2_fill.2.1 11 = .ok (.aload_n 2, 1) := by decide +kernel
theorem dX2_fill_12 : decode mX2_fill.2.1 12 = .ok (.getfield 41, 3) := by decide +kernel
theorem dX2_fill_15 : decode mX2_fill.2.1 15 = .ok (.putfield 19, 3) := by decide +kernel
theorem dX2_fill_18 : decode mX2_fill.2.1 18 = .ok (.aload_n 0, 1) := by decide +kernel
theorem dX2_fill_19 : decode mX2_fill.2.1 19 = .ok (.iload_n 3, 1) := by decide +kernel
theorem dX2_fill_20 : decode mX2_fill.2.1 20 = .ok (.putfield 23, 3) := by decide +kernel
theorem dX2_fill_23 : decode mX2_fill.2.1 23 = .ok (.aload_n 0, 1) := by decide +kernel
theorem dX2_fill_24 : decode mX2_fill.2.1 24 = .ok (.iload 4, 2) := by decide +kernel
theorem dX2_fill_26 : decode mX2_fill.2.1 26 = .ok (.putfield 26, 3) := by decide +kernel
theorem dX2_fill_29 : decode mX2_fill.2.1 29 = .ok (.aload_n 0, 1) := by decide +kernel
theorem dX2_fill_30 : decode mX2_fill.2.1 30 = .ok (.iload 4, 2) := by decide +kernel
theorem dX2_fill_32 : decode mX2_fill.2.1 32 = .ok (.putfield 29, 3) := by decide +kernel
theorem dX2_fill_35 : decode mX2_fill.2.1 35 = .ok (.aload_n 0, 1) := by decide +kernel
theorem dX2_fill_36 : decode mX2_fill.2.1 36 = .ok (.iconst 0, 1) := by decide +kernel
theorem dX2_fill_37 : decode mX2_fill.2.1 37 = .ok (.putfield 32, 3) := by decide +kernel
theorem dX2_fill_40 : decode mX2_fill.2.1 40 = .ok (.aload_n 0, 1) := by decide +kernel
theorem dX2_fill_41 : decode mX2_fill.2.1 41 = .ok (.aload_n 2, 1) := by decide +kernel
theorem dX2_fill_42 : decode mX2_fill.2.1 42 = .ok (.getfield 44, 3) := by decide +kernel
theorem dX2_fill_45 : decode mX2_fill.2.1 45 = .ok (.putfield 35, 3) := by decide +kernel
theorem dX2_fill_48 : decode mX2_fill.2.1 48 = .ok (.aload_n 0, 1) := by decide +kernel
theorem dX2_fill_49 : decode mX2_fill.2.1 49 = .ok (.iconst 0, 1) := by decide +kernel
theorem dX2_fill_50 : decode mX2_fill.2.1 50 = .ok (.putfield 38, 3) := by decide +kernel
theorem dX2_fill_53 : decode mX2_fill.2.1 53 = .ok (.return_, 1) := by decide +kernel
theorem dX2_age_0 : decode mX2_age.2.1 0 = .ok (.iload_n 1, 1) := by decide +kernel
theorem dX2_age_1 : decode mX2_age.2.1 1 = .ok (.aload_n 0, 1) := by decide +kernel
theorem dX2_age_2 : decode mX2_age.2.1 2 = .ok (.getfield 23, 3) := by decide +kernel
theorem dX2_age_5 : decode mX2_age.2.1 5 = .ok (.isub, 1) := by decide +kernel
theorem dX2_age_6 : decode mX2_age.2.1 6 = .ok (.ireturn, 1) := by decide +kernel
theorem dX3_init_0 : decode mX3_init.2.1 0 = .ok (.aload_n 0, 1) := by decide +kernel
theorem dX3_init_1 : decode mX3_init.2.1 1 = .ok (.invokespecial 3, 3) := by decide +kernel
theorem dX3_init_4 : decode mX3_init.2.1 4 = .ok (.aload_n 0, 1) := by decide +kernel
theorem dX3_init_5 : decode mX3_init.2.1 5 = .ok (.bipush 9, 2) := by decide +kernel
theorem dX3_init_7 : decode mX3_init.2.1 7 = .ok (.anewarray 9, 3) := by decide +kernel
theorem dX3_init_10 : decode mX3_init.2.1 10 = .ok (.putfield 11, 3) := by decide +kernel
theorem dX3_init_13 : decode mX3_init.2.1 13 = .ok (.aload_n 0, 1) := by decide +kernel
theorem dX3_init_14 : decode mX3_init.2.1 14 = .ok (.iconst 0, 1) := by decide +kernel
theorem dX3_init_15 : decode mX3_init.2.1 15 = .ok (.putfield 17, 3) := by decide +kernel
theorem dX3_init_18 : decode mX3_init.2.1 18 = .ok (.aload_n 0, 1) := by decide +kernel
theorem dX3_init_19 : decode mX3_init.2.1 19 = .ok (.iconst 0, 1) := by decide +kernel
theorem dX3_init_20 : decode mX3_init.2.1 20 = .ok (.putfield 21, 3) := by decide +kernel
theorem dX3_init_23 : decode mX3_init.2.1 23 = .ok (.iconst 0, 1) := by decide +kernel
theorem dX3_init_24 : decode mX3_init.2.1 24 = .ok (.istore_n 1, 1) := by decide +kernel
theorem dX3_init_25 : decode mX3_init.2.1 25 = .ok (.iload_n 1, 1) := by decide +kernel
theorem dX3_init_26 : decode mX3_init.2.1 26 = .ok (.aload_n 0, 1) := by decide +kernel
theorem dX3_init_27 : decode mX3_init.2.1 27 = .ok (.getfield 11, 3) := by decide +kernel
theorem dX3_init_30 : decode mX3_init.2.1 30 = .ok (.arraylength, 1) := by decide +kernel
theorem dX3_init_31 : decode mX3_init.2.1 31 = .ok (.if_icmp .ge 22, 3) := by decide +kernel
theorem dX3_init_34 : decode mX3_init.2.1 34 = .ok (.aload_n 0, 1) := by decide +kernel
theorem dX3_init_35 : decode mX3_init.2.1 35 = .ok (.getfield 11, 3) := by decide +kernel
theorem dX3_init_38 : decode mX3_init.2.1 38 = .ok (.iload_n 1, 1) := by decide +kernel
theorem dX3_init_39 : decode mX3_init.2.1 39 = .ok (.new 9, 3) := by decide +kernel
theorem dX3_init_42 : decode mX3_init.2.1 42 = .ok (.dup, 1) := by decide +kernel
theorem dX3_init_43 : decode mX3_init.2.1 43 = .ok (.invokespecial 24, 3) := by decide +kernel
theorem dX3_init_46 : decode mX3_init.2.1 46 = .ok (.aastore, 1) := by decide +kernel
theorem dX3_init_47 : decode mX3_init.2.1 47 = .ok (.iinc 1 1, 3) := by decide +kernel
theorem dX3_init_50 : decode mX3_init.2.1 50 = .ok (.goto (-25), 3) := by decide +kernel
theorem dX3_init_53 : decode mX3_init.2.1 53 = .ok (.return_, 1) := by decide +kernel
theorem dX3_row_0 : decode mX3_row.2.1 0 = .ok (.aload_n 0, 1) := by decide +kernel
theorem dX3_row_1 : decode mX3_row.2.1 1 = .ok (.getfield 11, 3) := by decide +kernel
theorem dX3_row_4 : decode mX3_row.2.1 4 = .ok (.aload_n 0, 1) := by decide +kernel
theorem dX3_row_5 : decode mX3_row.2.1 5 = .ok (.getfield 17, 3) := by decide +kernel
theorem dX3_row_8 : decode mX3_row.2.1 8 = .ok (.iload_n 1, 1) := by decide +kernel
theorem dX3_row_9 : decode mX3_row.2.1 9 = .ok (.iadd, 1) := by decide +kernel
theorem dX3_row_10 : decode mX3_row.2.1 10 = .ok (.bipush 9, 2) := by decide +kernel
theorem dX3_row_12 : decode mX3_row.2.1 12 = .ok (.invokestatic 25, 3) := by decide +kernel
theorem dX3_row_15 : decode mX3_row.2.1 15 = .ok (.aaload, 1) := by decide +kernel
theorem dX3_row_16 : decode mX3_row.2.1 16 = .ok (.areturn, 1) := by decide +kernel
theorem dX3_note_0 : decode mX3_note.2.1 0 = .ok (.aload_n 0, 1) := by decide +kernel
theorem dX3_note_1 : decode mX3_note.2.1 1 = .ok (.aload_n 1, 1) := by decide +kernel
theorem dX3_note_2 : decode mX3_note.2.1 2 = .ok (.invokevirtual 31, 3) := by decide +kernel
theorem dX3_note_5 : decode mX3_note.2.1 5 = .ok (.aload_n 0, 1) := by decide +kernel
theorem dX3_note_6 : decode mX3_note.2.1 6 = .ok (.invokevirtual 35, 3) := by decide +kernel
theorem dX3_note_9 : decode mX3_note.2.1 9 = .ok (.return_, 1) := by decide +kernel
theorem dX3_keep_0 : decode mX3_keep.2.1 0 = .ok (.aload_n 0, 1) := by decide +kernel
theorem dX3_keep_1 : decode mX3_keep.2.1 1 = .ok (.aload_n 0, 1) := by decide +kernel
theorem dX3_keep_2 : decode mX3_keep.2.1 2 = .ok (.getfield 21, 3) := by decide +kernel
theorem dX3_keep_5 : decode mX3_keep.2.1 5 = .ok (.invokevirtual 38, 3) := by decide +kernel
theorem dX3_keep_8 : decode mX3_keep.2.1 8 = .ok (.aload_n 1, 1) := by decide +kernel
theorem dX3_keep_9 : decode mX3_keep.2.1 9 = .ok (.invokevirtual 42, 3) := by decide +kernel
theorem dX3_keep_12 : decode mX3_keep.2.1 12 = .ok (.return_, 1) := by decide +kernel
theorem dX3_takeBack_0 : decode mX3_takeBack.2.1 0 = .ok (.aload_n 1, 1) := by decide +kernel
theorem dX3_takeBack_1 : decode mX3_takeBack.2.1 1 = .ok (.aload_n 0, 1) := by decide +kernel
theorem dX3_takeBack_2 : decode mX3_takeBack.2.1 2 = .ok (.aload_n 0, 1) := by decide +kernel
theorem dX3_takeBack_3 : decode mX3_takeBack.2.1 3 = .ok (.getfield 21, 3) := by decide +kernel
theorem dX3_takeBack_6 : decode mX3_takeBack.2.1 6 = .ok (.invokevirtual 38, 3) := by decide +kernel
theorem dX3_takeBack_9 : decode mX3_takeBack.2.1 9 = .ok (.invokevirtual 42, 3) := by decide +kernel
theorem dX3_takeBack_12 : decode mX3_takeBack.2.1 12 = .ok (.return_, 1) := by decide +kernel
theorem dX3_confirm_0 : decode mX3_confirm.2.1 0 = .ok (.aload_n 0, 1) := by decide +kernel
theorem dX3_confirm_1 : decode mX3_confirm.2.1 1 = .ok (.getfield 21, 3) := by decide +kernel
theorem dX3_confirm_4 : decode mX3_confirm.2.1 4 = .ok (.bipush 8, 2) := by decide +kernel
theorem dX3_confirm_6 : decode mX3_confirm.2.1 6 = .ok (.if_icmp .ge 16, 3) := by decide +kernel
theorem dX3_confirm_9 : decode mX3_confirm.2.1 9 = .ok (.aload_n 0, 1) := by decide +kernel
theorem dX3_confirm_10 : decode mX3_confirm.2.1 10 = .ok (.dup, 1) := by decide +kernel
theorem dX3_confirm_11 : decode mX3_confirm.2.1 11 = .ok (.getfield 21, 3) := by decide +kernel
theorem dX3_confirm_14 : decode mX3_confirm.2.1 14 = .ok (.iconst 1, 1) := by decide +kernel
theorem dX3_confirm_15 : decode mX3_confirm.2.1 15 = .ok (.iadd, 1) := by decide +kernel
theorem dX3_confirm_16 : decode mX3_confirm.2.1 16 = .ok (.putfield 21, 3) := by decide +kernel
theorem dX3_confirm_19 : decode mX3_confirm.2.1 19 = .ok (.goto 18, 3) := by decide +kernel
theorem dX3_confirm_22 : decode mX3_confirm.2.1 22 = .ok (.aload_n 0, 1) := by decide +kernel
theorem dX3_confirm_23 : decode mX3_confirm.2.1 23 = .ok (.aload_n 0, 1) := by decide +kernel
theorem dX3_confirm_24 : decode mX3_confirm.2.1 24 = .ok (.getfield 17, 3) := by decide +kernel
theorem dX3_confirm_27 : decode mX3_confirm.2.1 27 = .ok (.iconst 1, 1) := by decide +kernel
theorem dX3_confirm_28 : decode mX3_confirm.2.1 28 = .ok (.iadd, 1) := by decide +kernel
theorem dX3_confirm_29 : decode mX3_confirm.2.1 29 = .ok (.bipush 9, 2) := by decide +kernel
theorem dX3_confirm_31 : decode mX3_confirm.2.1 31 = .ok (.invokestatic 25, 3) := by decide +kernel
theorem dX3_confirm_34 : decode mX3_confirm.2.1 34 = .ok (.putfield 17, 3) := by decide +kernel
theorem dX3_confirm_37 : decode mX3_confirm.2.1 37 = .ok (.return_, 1) := by decide +kernel
theorem dX3_goBack_0 : decode mX3_goBack.2.1 0 = .ok (.aload_n 0, 1) := by decide +kernel
theorem dX3_goBack_1 : decode mX3_goBack.2.1 1 = .ok (.dup, 1) := by decide +kernel
theorem dX3_goBack_2 : decode mX3_goBack.2.1 2 = .ok (.getfield 21, 3) := by decide +kernel
theorem dX3_goBack_5 : decode mX3_goBack.2.1 5 = .ok (.iconst 1, 1) := by decide +kernel
theorem dX3_goBack_6 : decode mX3_goBack.2.1 6 = .ok (.isub, 1) := by decide +kernel
theorem dX3_goBack_7 : decode mX3_goBack.2.1 7 = .ok (.putfield 21, 3) := by decide +kernel
theorem dX3_goBack_10 : decode mX3_goBack.2.1 10 = .ok (.aload_n 0, 1) := by decide +kernel
theorem dX3_goBack_11 : decode mX3_goBack.2.1 11 = .ok (.aload_n 1, 1) := by decide +kernel
theorem dX3_goBack_12 : decode mX3_goBack.2.1 12 = .ok (.invokevirtual 45, 3) := by decide +kernel
theorem dX3_goBack_15 : decode mX3_goBack.2.1 15 = .ok (.return_, 1) := by decide +kernel
theorem dX4_init_0 : decode mX4_init.2.1 0 = .ok (.aload_n 0, 1) := by decide +kernel
theorem dX4_init_1 : decode mX4_init.2.1 1 = .ok (.invokespecial 1, 3) := by decide +kernel
theorem dX4_init_4 : decode mX4_init.2.1 4 = .ok (.aload_n 0, 1) := by decide +kernel
theorem dX4_init_5 : decode mX4_init.2.1 5 = .ok (.iconst 0, 1) := by decide +kernel
theorem dX4_init_6 : decode mX4_init.2.1 6 = .ok (.putfield 7, 3) := by decide +kernel
theorem dX4_init_9 : decode mX4_init.2.1 9 = .ok (.aload_n 0, 1) := by decide +kernel
theorem dX4_init_10 : decode mX4_init.2.1 10 = .ok (.iconst 0, 1) := by decide +kernel
theorem dX4_init_11 : decode mX4_init.2.1 11 = .ok (.putfield 13, 3) := by decide +kernel
theorem dX4_init_14 : decode mX4_init.2.1 14 = .ok (.aload_n 0, 1) := by decide +kernel
theorem dX4_init_15 : decode mX4_init.2.1 15 = .ok (.iconst 0, 1) := by decide +kernel
theorem dX4_init_16 : decode mX4_init.2.1 16 = .ok (.putfield 17, 3) := by decide +kernel
theorem dX4_init_19 : decode mX4_init.2.1 19 = .ok (.aload_n 0, 1) := by decide +kernel
theorem dX4_init_20 : decode mX4_init.2.1 20 = .ok (.iconst 0, 1) := by decide +kernel
theorem dX4_init_21 : decode mX4_init.2.1 21 = .ok (.putfield 20, 3) := by decide +kernel
theorem dX4_init_24 : decode mX4_init.2.1 24 = .ok (.return_, 1) := by decide +kernel
theorem dX4_copyFrom_0 : decode mX4_copyFrom.2.1 0 = .ok (.aload_n 0, 1) := by decide +kernel
theorem dX4_copyFrom_1 : decode mX4_copyFrom.2.1 1 = .ok (.aload_n 1, 1) := by decide +kernel
theorem dX4_copyFrom_2 : decode mX4_copyFrom.2.1 2 = .ok (.getfield 7, 3) := by decide +kernel
theorem dX4_copyFrom_5 : decode mX4_copyFrom.2.1 5 = .ok (.putfield 7, 3) := by decide +kernel
theorem dX4_copyFrom_8 : decode mX4_copyFrom.2.1 8 = .ok (.aload_n 0, 1) := by decide +kernel
theorem dX4_copyFrom_9 : decode mX4_copyFrom.2.1 9 = .ok (.aload_n 1, 1) := by decide +kernel
theorem dX4_copyFrom_10 : decode mX4_copyFrom.2.1 10 = .ok (.getfield 13, 3) := by decide +kernel
theorem dX4_copyFrom_13 : decode mX4_copyFrom.2.1 13 = .ok (.putfield 13, 3) := by decide +kernel
theorem dX4_copyFrom_16 : decode mX4_copyFrom.2.1 16 = .ok (.aload_n 0, 1) := by decide +kernel
theorem dX4_copyFrom_17 : decode mX4_copyFrom.2.1 17 = .ok (.aload_n 1, 1) := by decide +kernel
theorem dX4_copyFrom_18 : decode mX4_copyFrom.2.1 18 = .ok (.getfield 17, 3) := by decide +kernel
theorem dX4_copyFrom_21 : decode mX4_copyFrom.2.1 21 = .ok (.putfield 17, 3) := by decide +kernel
theorem dX4_copyFrom_24 : decode mX4_copyFrom.2.1 24 = .ok (.aload_n 0, 1) := by decide +kernel
theorem dX4_copyFrom_25 : decode mX4_copyFrom.2.1 25 = .ok (.aload_n 1, 1) := by decide +kernel
theorem dX4_copyFrom_26 : decode mX4_copyFrom.2.1 26 = .ok (.getfield 20, 3) := by decide +kernel
theorem dX4_copyFrom_29 : decode mX4_copyFrom.2.1 29 = .ok (.putfield 20, 3) := by decide +kernel
theorem dX4_copyFrom_32 : decode mX4_copyFrom.2.1 32 = .ok (.return_, 1) := by decide +kernel
theorem dX4_speak_0 : decode mX4_speak.2.1 0 = .ok (.aload_n 0, 1) := by decide +kernel
theorem dX4_speak_1 : decode mX4_speak.2.1 1 = .ok (.iload_n 1, 1) := by decide +kernel
theorem dX4_speak_2 : decode mX4_speak.2.1 2 = .ok (.putfield 13, 3) := by decide +kernel
theorem dX4_speak_5 : decode mX4_speak.2.1 5 = .ok (.aload_n 0, 1) := by decide +kernel
theorem dX4_speak_6 : decode mX4_speak.2.1 6 = .ok (.dup, 1) := by decide +kernel
theorem dX4_speak_7 : decode mX4_speak.2.1 7 = .ok (.getfield 17, 3) := by decide +kernel
theorem dX4_speak_10 : decode mX4_speak.2.1 10 = .ok (.iconst 1, 1) := by decide +kernel
theorem dX4_speak_11 : decode mX4_speak.2.1 11 = .ok (.iadd, 1) := by decide +kernel
theorem dX4_speak_12 : decode mX4_speak.2.1 12 = .ok (.putfield 17, 3) := by decide +kernel
theorem dX4_speak_15 : decode mX4_speak.2.1 15 = .ok (.aload_n 0, 1) := by decide +kernel
theorem dX4_speak_16 : decode mX4_speak.2.1 16 = .ok (.iload_n 2, 1) := by decide +kernel
theorem dX4_speak_17 : decode mX4_speak.2.1 17 = .ok (.putfield 20, 3) := by decide +kernel
theorem dX4_speak_20 : decode mX4_speak.2.1 20 = .ok (.return_, 1) := by decide +kernel
theorem dX5_init_0 : decode mX5_init.2.1 0 = .ok (.aload_n 0, 1) := by decide +kernel
theorem dX5_init_1 : decode mX5_init.2.1 1 = .ok (.invokespecial 3, 3) := by decide +kernel
theorem dX5_init_4 : decode mX5_init.2.1 4 = .ok (.aload_n 0, 1) := by decide +kernel
theorem dX5_init_5 : decode mX5_init.2.1 5 = .ok (.iconst 0, 1) := by decide +kernel
theorem dX5_init_6 : decode mX5_init.2.1 6 = .ok (.putfield 9, 3) := by decide +kernel
theorem dX5_init_9 : decode mX5_init.2.1 9 = .ok (.aload_n 0, 1) := by decide +kernel
theorem dX5_init_10 : decode mX5_init.2.1 10 = .ok (.iconst 0, 1) := by decide +kernel
theorem dX5_init_11 : decode mX5_init.2.1 11 = .ok (.putfield 15, 3) := by decide +kernel
theorem dX5_init_14 : decode mX5_init.2.1 14 = .ok (.aload_n 0, 1) := by decide +kernel
theorem dX5_init_15 : decode mX5_init.2.1 15 = .ok (.iconst 0, 1) := by decide +kernel
theorem dX5_init_16 : decode mX5_init.2.1 16 = .ok (.putfield 19, 3) := by decide +kernel
theorem dX5_init_19 : decode mX5_init.2.1 19 = .ok (.aload_n 0, 1) := by decide +kernel
theorem dX5_init_20 : decode mX5_init.2.1 20 = .ok (.bipush 32, 2) := by decide +kernel
theorem dX5_init_22 : decode mX5_init.2.1 22 = .ok (.putfield 22, 3) := by decide +kernel
theorem dX5_init_25 : decode mX5_init.2.1 25 = .ok (.aload_n 0, 1) := by decide +kernel
theorem dX5_init_26 : decode mX5_init.2.1 26 = .ok (.iconst 0, 1) := by decide +kernel
theorem dX5_init_27 : decode mX5_init.2.1 27 = .ok (.putfield 26, 3) := by decide +kernel
theorem dX5_init_30 : decode mX5_init.2.1 30 = .ok (.aload_n 0, 1) := by decide +kernel
theorem dX5_init_31 : decode mX5_init.2.1 31 = .ok (.iconst 0, 1) := by decide +kernel
theorem dX5_init_32 : decode mX5_init.2.1 32 = .ok (.putfield 29, 3) := by decide +kernel
theorem dX5_init_35 : decode mX5_init.2.1 35 = .ok (.aload_n 0, 1) := by decide +kernel
theorem dX5_init_36 : decode mX5_init.2.1 36 = .ok (.bipush 6, 2) := by decide +kernel
theorem dX5_init_38 : decode mX5_init.2.1 38 = .ok (.anewarray 32, 3) := by decide +kernel
theorem dX5_init_41 : decode mX5_init.2.1 41 = .ok (.putfield 34, 3) := by decide +kernel
theorem dX5_init_44 : decode mX5_init.2.1 44 = .ok (.iconst 0, 1) := by decide +kernel
theorem dX5_init_45 : decode mX5_init.2.1 45 = .ok (.istore_n 1, 1) := by decide +kernel
theorem dX5_init_46 : decode mX5_init.2.1 46 = .ok (.iload_n 1, 1) := by decide +kernel
theorem dX5_init_47 : decode mX5_init.2.1 47 = .ok (.aload_n 0, 1) := by decide +kernel
theorem dX5_init_48 : decode mX5_init.2.1 48 = .ok (.getfield 34, 3) := by decide +kernel
theorem dX5_init_51 : decode mX5_init.2.1 51 = .ok (.arraylength, 1) := by decide +kernel
theorem dX5_init_52 : decode mX5_init.2.1 52 = .ok (.if_icmp .ge 22, 3) := by decide +kernel
theorem dX5_init_55 : decode mX5_init.2.1 55 = .ok (.aload_n 0, 1) := by decide +kernel
theorem dX5_init_56 : decode mX5_init.2.1 56 = .ok (.getfield 34, 3) := by decide +kernel
theorem dX5_init_59 : decode mX5_init.2.1 59 = .ok (.iload_n 1, 1) := by decide +kernel
theorem dX5_init_60 : decode mX5_init.2.1 60 = .ok (.new 32, 3) := by decide +kernel
theorem dX5_init_63 : decode mX5_init.2.1 63 = .ok (.dup, 1) := by decide +kernel
theorem dX5_init_64 : decode mX5_init.2.1 64 = .ok (.invokespecial 38, 3) := by decide +kernel
theorem dX5_init_67 : decode mX5_init.2.1 67 = .ok (.aastore, 1) := by decide +kernel
theorem dX5_init_68 : decode mX5_init.2.1 68 = .ok (.iinc 1 1, 3) := by decide +kernel
theorem dX5_init_71 : decode mX5_init.2.1 71 = .ok (.goto (-25), 3) := by decide +kernel
theorem dX5_init_74 : decode mX5_init.2.1 74 = .ok (.return_, 1) := by decide +kernel
theorem dX5_copyFrom_0 : decode mX5_copyFrom.2.1 0 = .ok (.aload_n 0, 1) := by decide +kernel
theorem dX5_copyFrom_1 : decode mX5_copyFrom.2.1 1 = .ok (.aload_n 1, 1) := by decide +kernel
theorem dX5_copyFrom_2 : decode mX5_copyFrom.2.1 2 = .ok (.getfield 9, 3) := by decide +kernel
theorem dX5_copyFrom_5 : decode mX5_copyFrom.2.1 5 = .ok (.putfield 9, 3) := by decide +kernel
theorem dX5_copyFrom_8 : decode mX5_copyFrom.2.1 8 = .ok (.aload_n 0, 1) := by decide +kernel
theorem dX5_copyFrom_9 : decode mX5_copyFrom.2.1 9 = .ok (.aload_n 1, 1) := by decide +kernel
theorem dX5_copyFrom_10 : decode mX5_copyFrom.2.1 10 = .ok (.getfield 15, 3) := by decide +kernel
theorem dX5_copyFrom_13 : decode mX5_copyFrom.2.1 13 = .ok (.putfield 15, 3) := by decide +kernel
theorem dX5_copyFrom_16 : decode mX5_copyFrom.2.1 16 = .ok (.aload_n 0, 1) := by decide +kernel
theorem dX5_copyFrom_17 : decode mX5_copyFrom.2.1 17 = .ok (.aload_n 1, 1) := by decide +kernel
theorem dX5_copyFrom_18 : decode mX5_copyFrom.2.1 18 = .ok (.getfield 19, 3) := by decide +kernel
theorem dX5_copyFrom_21 : decode mX5_copyFrom.2.1 21 = .ok (.putfield 19, 3) := by decide +kernel
theorem dX5_copyFrom_24 : decode mX5_copyFrom.2.1 24 = .ok (.aload_n 0, 1) := by decide +kernel
theorem dX5_copyFrom_25 : decode mX5_copyFrom.2.1 25 = .ok (.aload_n 1, 1) := by decide +kernel
theorem dX5_copyFrom_26 : decode mX5_copyFrom.2.1 26 = .ok (.getfield 22, 3) := by decide +kernel
theorem dX5_copyFrom_29 : decode mX5_copyFrom.2.1 29 = .ok (.putfield 22, 3) := by decide +kernel
theorem dX5_copyFrom_32 : decode mX5_copyFrom.2.1 32 = .ok (.aload_n 0, 1) := by decide +kernel
theorem dX5_copyFrom_33 : decode mX5_copyFrom.2.1 33 = .ok (.aload_n 1, 1) := by decide +kernel
theorem dX5_copyFrom_34 : decode mX5_copyFrom.2.1 34 = .ok (.getfield 26, 3) := by decide +kernel
theorem dX5_copyFrom_37 : decode mX5_copyFrom.2.1 37 = .ok (.putfield 26, 3) := by decide +kernel
theorem dX5_copyFrom_40 : decode mX5_copyFrom.2.1 40 = .ok (.aload_n 0, 1) := by decide +kernel
theorem dX5_copyFrom_41 : decode mX5_copyFrom.2.1 41 = .ok (.aload_n 1, 1) := by decide +kernel
theorem dX5_copyFrom_42 : decode mX5_copyFrom.2.1 42 = .ok (.getfield 29, 3) := by decide +kernel
theorem dX5_copyFrom_45 : decode mX5_copyFrom.2.1 45 = .ok (.putfield 29, 3) := by decide +kernel
theorem dX5_copyFrom_48 : decode mX5_copyFrom.2.1 48 = .ok (.iconst 0, 1) := by decide +kernel
theorem dX5_copyFrom_49 : decode mX5_copyFrom.2.1 49 = .ok (.istore_n 2, 1) := by decide +kernel
theorem dX5_copyFrom_50 : decode mX5_copyFrom.2.1 50 = .ok (.iload_n 2, 1) := by decide +kernel
theorem dX5_copyFrom_51 : decode mX5_copyFrom.2.1 51 = .ok (.aload_n 0, 1) := by decide +kernel
theorem dX5_copyFrom_52 : decode mX5_copyFrom.2.1 52 = .ok (.getfield 34, 3) := by decide +kernel
theorem dX5_copyFrom_55 : decode mX5_copyFrom.2.1 55 = .ok (.arraylength, 1) := by decide +kernel
theorem dX5_copyFrom_56 : decode mX5_copyFrom.2.1 56 = .ok (.if_icmp .ge 33, 3) := by decide +kernel
theorem dX5_copyFrom_59 : decode mX5_copyFrom.2.1 59 = .ok (.iload_n 2, 1) := by decide +kernel
theorem dX5_copyFrom_60 : decode mX5_copyFrom.2.1 60 = .ok (.aload_n 1, 1) := by decide +kernel
theorem dX5_copyFrom_61 : decode mX5_copyFrom.2.1 61 = .ok (.getfield 34, 3) := by decide +kernel
theorem dX5_copyFrom_64 : decode mX5_copyFrom.2.1 64 = .ok (.arraylength, 1) := by decide +kernel
theorem dX5_copyFrom_65 : decode mX5_copyFrom.2.1 65 = .ok (.if_icmp .ge 24, 3) := by decide +kernel
theorem dX5_copyFrom_68 : decode mX5_copyFrom.2.1 68 = .ok (.aload_n 0, 1) := by decide +kernel
theorem dX5_copyFrom_69 : decode mX5_copyFrom.2.1 69 = .ok (.getfield 34, 3) := by decide +kernel
theorem dX5_copyFrom_72 : decode mX5_copyFrom.2.1 72 = .ok (.iload_n 2, 1) := by decide +kernel
theorem dX5_copyFrom_73 : decode mX5_copyFrom.2.1 73 = .ok (.aaload, 1) := by decide +kernel
theorem dX5_copyFrom_74 : decode mX5_copyFrom.2.1 74 = .ok (.aload_n 1, 1) := by decide +kernel
theorem dX5_copyFrom_75 : decode mX5_copyFrom.2.1 75 = .ok (.getfield 34, 3) := by decide +kernel
theorem dX5_copyFrom_78 : decode mX5_copyFrom.2.1 78 = .ok (.iload_n 2, 1) := by decide +kernel
theorem dX5_copyFrom_79 : decode mX5_copyFrom.2.1 79 = .ok (.aaload, 1) := by decide +kernel
theorem dX5_copyFrom_80 : decode mX5_copyFrom.2.1 80 = .ok (.invokevirtual 39, 3) := by decide +kernel
theorem dX5_copyFrom_83 : decode mX5_copyFrom.2.1 83 = .ok (.iinc 2 1, 3) := by decide +kernel
theorem dX5_copyFrom_86 : decode mX5_copyFrom.2.1 86 = .ok (.goto (-36), 3) := by decide +kernel
theorem dX5_copyFrom_89 : decode mX5_copyFrom.2.1 89 = .ok (.return_, 1) := by decide +kernel
theorem dX5_fill_0 : decode mX5_fill.2.1 0 = .ok (.aload_n 0, 1) := by decide +kernel
theorem dX5_fill_1 : decode mX5_fill.2.1 1 = .ok (.iconst 1, 1) := by decide +kernel
theorem dX5_fill_2 : decode mX5_fill.2.1 2 = .ok (.putfield 9, 3) := by decide +kernel
theorem dX5_fill_5 : decode mX5_fill.2.1 5 = .ok (.aload_n 0, 1) := by decide +kernel
theorem dX5_fill_6 : decode mX5_fill.2.1 6 = .ok (.iload_n 1, 1) := by decide +kernel
theorem dX5_fill_7 : decode mX5_fill.2.1 7 = .ok (.putfield 15, 3) := by decide +kernel
theorem dX5_fill_10 : decode mX5_fill.2.1 10 = .ok (.aload_n 0, 1) := by decide +kernel
theorem dX5_fill_11 : decode mX5_fill.2.1 11 = .ok (.iload_n 2, 1) := by decide +kernel
theorem dX5_fill_12 : decode mX5_fill.2.1 12 = .ok (.putfield 19, 3) := by decide +kernel
theorem dX5_fill_15 : decode mX5_fill.2.1 15 = .ok (.aload_n 0, 1) := by decide +kernel
theorem dX5_fill_16 : decode mX5_fill.2.1 16 = .ok (.iload_n 3, 1) := by decide +kernel
theorem dX5_fill_17 : decode mX5_fill.2.1 17 = .ok (.putfield 22, 3) := by decide +kernel
theorem dX5_fill_20 : decode mX5_fill.2.1 20 = .ok (.aload_n 0, 1) := by decide +kernel
theorem dX5_fill_21 : decode mX5_fill.2.1 21 = .ok (.iconst 1, 1) := by decide +kernel
theorem dX5_fill_22 : decode mX5_fill.2.1 22 = .ok (.putfield 26, 3) := by decide +kernel
theorem dX5_fill_25 : decode mX5_fill.2.1 25 = .ok (.aload_n 0, 1) := by decide +kernel
theorem dX5_fill_26 : decode mX5_fill.2.1 26 = .ok (.iconst 0, 1) := by decide +kernel
theorem dX5_fill_27 : decode mX5_fill.2.1 27 = .ok (.putfield 29, 3) := by decide +kernel
theorem dX5_fill_30 : decode mX5_fill.2.1 30 = .ok (.return_, 1) := by decide +kernel
theorem dX5_countEchoes_0 : decode mX5_countEchoes.2.1 0 = .ok (.iconst 0, 1) := by decide +kernel
theorem dX5_countEchoes_1 : decode mX5_countEchoes.2.1 1 = .ok (.istore_n 1, 1) := by decide +kernel
theorem dX5_countEchoes_2 : decode mX5_countEchoes.2.1 2 = .ok (.aload_n 0, 1) := by decide +kernel
theorem dX5_countEchoes_3 : decode mX5_countEchoes.2.1 3 = .ok (.getfield 34, 3) := by decide +kernel
theorem dX5_countEchoes_6 : decode mX5_countEchoes.2.1 6 = .ok (.astore_n 2, 1) := by decide +kernel
theorem dX5_countEchoes_7 : decode mX5_countEchoes.2.1 7 = .ok (.aload_n 2, 1) := by decide +kernel
theorem dX5_countEchoes_8 : decode mX5_countEchoes.2.1 8 = .ok (.arraylength, 1) := by decide +kernel
theorem dX5_countEchoes_9 : decode mX5_countEchoes.2.1 9 = .ok (.istore_n 3, 1) := by decide +kernel
theorem dX5_countEchoes_10 : decode mX5_countEchoes.2.1 10 = .ok (.iconst 0, 1) := by decide +kernel
theorem dX5_countEchoes_11 : decode mX5_countEchoes.2.1 11 = .ok (.istore 4, 2) := by decide +kernel
theorem dX5_countEchoes_13 : decode mX5_countEchoes.2.1 13 = .ok (.iload 4, 2) := by decide +kernel
theorem dX5_countEchoes_15 : decode mX5_countEchoes.2.1 15 = .ok (.iload_n 3, 1) := by decide +kernel
theorem dX5_countEchoes_16 : decode mX5_countEchoes.2.1 16 = .ok (.if_icmp .ge 26, 3) := by decide +kernel
theorem dX5_countEchoes_19 : decode mX5_countEchoes.2.1 19 = .ok (.aload_n 2, 1) := by decide +kernel
theorem dX5_countEchoes_20 : decode mX5_countEchoes.2.1 20 = .ok (.iload 4, 2) := by decide +kernel
theorem dX5_countEchoes_22 : decode mX5_countEchoes.2.1 22 = .ok (.aaload, 1) := by decide +kernel
theorem dX5_countEchoes_23 : decode mX5_countEchoes.2.1 23 = .ok (.astore 5, 2) := by decide +kernel
theorem dX5_countEchoes_25 : decode mX5_countEchoes.2.1 25 = .ok (.aload 5, 2) := by decide +kernel
theorem dX5_countEchoes_27 : decode mX5_countEchoes.2.1 27 = .ok (.getfield 43, 3) := by decide +kernel
theorem dX5_countEchoes_30 : decode mX5_countEchoes.2.1 30 = .ok (.ifCond .eq 6, 3) := by decide +kernel
theorem dX5_countEchoes_33 : decode mX5_countEchoes.2.1 33 = .ok (.iinc 1 1, 3) := by decide +kernel
theorem dX5_countEchoes_36 : decode mX5_countEchoes.2.1 36 = .ok (.iinc 4 1, 3) := by decide +kernel
theorem dX5_countEchoes_39 : decode mX5_countEchoes.2.1 39 = .ok (.goto (-26), 3) := by decide +kernel
theorem dX5_countEchoes_42 : decode mX5_countEchoes.2.1 42 = .ok (.iload_n 1, 1) := by decide +kernel
theorem dX5_countEchoes_43 : decode mX5_countEchoes.2.1 43 = .ok (.ireturn, 1) := by decide +kernel
theorem dX5_find_0 : decode mX5_find.2.1 0 = .ok (.aload_n 0, 1) := by decide +kernel
theorem dX5_find_1 : decode mX5_find.2.1 1 = .ok (.getfield 34, 3) := by decide +kernel
theorem dX5_find_4 : decode mX5_find.2.1 4 = .ok (.astore_n 2, 1) := by decide +kernel
theorem dX5_find_5 : decode mX5_find.2.1 5 = .ok (.aload_n 2, 1) := by decide +kernel
theorem dX5_find_6 : decode mX5_find.2.1 6 = .ok (.arraylength, 1) := by decide +kernel
theorem dX5_find_7 : decode mX5_find.2.1 7 = .ok (.istore_n 3, 1) := by decide +kernel
theorem dX5_find_8 : decode mX5_find.2.1 8 = .ok (.iconst 0, 1) := by decide +kernel
theorem dX5_find_9 : decode mX5_find.2.1 9 = .ok (.istore 4, 2) := by decide +kernel
theorem dX5_find_11 : decode mX5_find.2.1 11 = .ok (.iload 4, 2) := by decide +kernel
theorem dX5_find_13 : decode mX5_find.2.1 13 = .ok (.iload_n 3, 1) := by decide +kernel
theorem dX5_find_14 : decode mX5_find.2.1 14 = .ok (.if_icmp .ge 35, 3) := by decide +kernel
theorem dX5_find_17 : decode mX5_find.2.1 17 = .ok (.aload_n 2, 1) := by decide +kernel
theorem dX5_find_18 : decode mX5_find.2.1 18 = .ok (.iload 4, 2) := by decide +kernel
theorem dX5_find_20 : decode mX5_find.2.1 20 = .ok (.aaload, 1) := by decide +kernel
theorem dX5_find_21 : decode mX5_find.2.1 21 = .ok (.astore 5, 2) := by decide +kernel
theorem dX5_find_23 : decode mX5_find.2.1 23 = .ok (.aload 5, 2) := by decide +kernel
theorem dX5_find_25 : decode mX5_find.2.1 25 = .ok (.getfield 43, 3) := by decide +kernel
theorem dX5_find_28 : decode mX5_find.2.1 28 = .ok (.ifCond .eq 15, 3) := by decide +kernel
theorem dX5_find_31 : decode mX5_find.2.1 31 = .ok (.aload 5, 2) := by decide +kernel
theorem dX5_find_33 : decode mX5_find.2.1 33 = .ok (.getfield 44, 3) := by decide +kernel
theorem dX5_find_36 : decode mX5_find.2.1 36 = .ok (.iload_n 1, 1) := by decide +kernel
theorem dX5_find_37 : decode mX5_find.2.1 37 = .ok (.if_icmp .ne 6, 3) := by decide +kernel
theorem dX5_find_40 : decode mX5_find.2.1 40 = .ok (.aload 5, 2) := by decide +kernel
theorem dX5_find_42 : decode mX5_find.2.1 42 = .ok (.areturn, 1) := by decide +kernel
theorem dX5_find_43 : decode mX5_find.2.1 43 = .ok (.iinc 4 1, 3) := by decide +kernel
theorem dX5_find_46 : decode mX5_find.2.1 46 = .ok (.goto (-35), 3) := by decide +kernel
theorem dX5_find_49 : decode mX5_find.2.1 49 = .ok (.aconst_null, 1) := by decide +kernel
theorem dX5_find_50 : decode mX5_find.2.1 50 = .ok (.areturn, 1) := by decide +kernel
theorem dX5_letterAt_0 : decode mX5_letterAt.2.1 0 = .ok (.iconst 0, 1) := by decide +kernel
theorem dX5_letterAt_1 : decode mX5_letterAt.2.1 1 = .ok (.istore_n 2, 1) := by decide +kernel
theorem dX5_letterAt_2 : decode mX5_letterAt.2.1 2 = .ok (.bipush 97, 2) := by decide +kernel
theorem dX5_letterAt_4 : decode mX5_letterAt.2.1 4 = .ok (.istore_n 3, 1) := by decide +kernel
theorem dX5_letterAt_5 : decode mX5_letterAt.2.1 5 = .ok (.iload_n 3, 1) := by decide +kernel
theorem dX5_letterAt_6 : decode mX5_letterAt.2.1 6 = .ok (.bipush 122, 2) := by decide +kernel
theorem dX5_letterAt_8 : decode mX5_letterAt.2.1 8 = .ok (.if_icmp .gt 29, 3) := by decide +kernel
theorem dX5_letterAt_11 : decode mX5_letterAt.2.1 11 = .ok (.aload_n 0, 1) := by decide +kernel
theorem dX5_letterAt_12 : decode mX5_letterAt.2.1 12 = .ok (.iload_n 3, 1) := by decide +kernel
theorem dX5_letterAt_13 : decode mX5_letterAt.2.1 13 = .ok (.invokevirtual 47, 3) := by decide +kernel
theorem dX5_letterAt_16 : decode mX5_letterAt.2.1 16 = .ok (.ifnull 13, 3) := by decide +kernel
theorem dX5_letterAt_19 : decode mX5_letterAt.2.1 19 = .ok (.iload_n 2, 1) := by decide +kernel
theorem dX5_letterAt_20 : decode mX5_letterAt.2.1 20 = .ok (.iload_n 1, 1) := by decide +kernel
theorem dX5_letterAt_21 : decode mX5_letterAt.2.1 21 = .ok (.if_icmp .ne 5, 3) := by decide +kernel
theorem dX5_letterAt_24 : decode mX5_letterAt.2.1 24 = .ok (.iload_n 3, 1) := by decide +kernel
theorem dX5_letterAt_25 : decode mX5_letterAt.2.1 25 = .ok (.ireturn, 1) := by decide +kernel
theorem dX5_letterAt_26 : decode mX5_letterAt.2.1 26 = .ok (.iinc 2 1, 3) := by decide +kernel
theorem dX5_letterAt_29 : decode mX5_letterAt.2.1 29 = .ok (.iload_n 3, 1) := by decide +kernel
theorem dX5_letterAt_30 : decode mX5_letterAt.2.1 30 = .ok (.iconst 1, 1) := by decide +kernel
theorem dX5_letterAt_31 : decode mX5_letterAt.2.1 31 = .ok (.iadd, 1) := by decide +kernel
theorem dX5_letterAt_32 : decode mX5_letterAt.2.1 32 = .ok (.i2c, 1) := by decide +kernel
theorem dX5_letterAt_33 : decode mX5_letterAt.2.1 33 = .ok (.istore_n 3, 1) := by decide +kernel
theorem dX5_letterAt_34 : decode mX5_letterAt.2.1 34 = .ok (.goto (-29), 3) := by decide +kernel
theorem dX5_letterAt_37 : decode mX5_letterAt.2.1 37 = .ok (.bipush 32, 2) := by decide +kernel
theorem dX5_letterAt_39 : decode mX5_letterAt.2.1 39 = .ok (.ireturn, 1) := by decide +kernel
theorem dX5_sumOfAges_0 : decode mX5_sumOfAges.2.1 0 = .ok (.iconst 0, 1) := by decide +kernel
theorem dX5_sumOfAges_1 : decode mX5_sumOfAges.2.1 1 = .ok (.istore_n 2, 1) := by decide +kernel
theorem dX5_sumOfAges_2 : decode mX5_sumOfAges.2.1 2 = .ok (.aload_n 0, 1) := by decide +kernel
theorem dX5_sumOfAges_3 : decode mX5_sumOfAges.2.1 3 = .ok (.getfield 34, 3) := by decide +kernel
theorem dX5_sumOfAges_6 : decode mX5_sumOfAges.2.1 6 = .ok (.astore_n 3, 1) := by decide +kernel
theorem dX5_sumOfAges_7 : decode mX5_sumOfAges.2.1 7 = .ok (.aload_n 3, 1) := by decide +kernel
theorem dX5_sumOfAges_8 : decode mX5_sumOfAges.2.1 8 = .ok (.arraylength, 1) := by decide +kernel
theorem dX5_sumOfAges_9 : decode mX5_sumOfAges.2.1 9 = .ok (.istore 4, 2) := by decide +kernel
theorem dX5_sumOfAges_11 : decode mX5_sumOfAges.2.1 11 = .ok (.iconst 0, 1) := by decide +kernel
theorem dX5_sumOfAges_12 : decode mX5_sumOfAges.2.1 12 = .ok (.istore 5, 2) := by decide +kernel
theorem dX5_sumOfAges_14 : decode mX5_sumOfAges.2.1 14 = .ok (.iload 5, 2) := by decide +kernel
theorem dX5_sumOfAges_16 : decode mX5_sumOfAges.2.1 16 = .ok (.iload 4, 2) := by decide +kernel
theorem dX5_sumOfAges_18 : decode mX5_sumOfAges.2.1 18 = .ok (.if_icmp .ge 32, 3) := by decide +kernel
theorem dX5_sumOfAges_21 : decode mX5_sumOfAges.2.1 21 = .ok (.aload_n 3, 1) := by decide +kernel
theorem dX5_sumOfAges_22 : decode mX5_sumOfAges.2.1 22 = .ok (.iload 5, 2) := by decide +kernel
theorem dX5_sumOfAges_24 : decode mX5_sumOfAges.2.1 24 = .ok (.aaload, 1) := by decide +kernel
theorem dX5_sumOfAges_25 : decode mX5_sumOfAges.2.1 25 = .ok (.astore 6, 2) := by decide +kernel
theorem dX5_sumOfAges_27 : decode mX5_sumOfAges.2.1 27 = .ok (.aload 6, 2) := by decide +kernel
theorem dX5_sumOfAges_29 : decode mX5_sumOfAges.2.1 29 = .ok (.getfield 43, 3) := by decide +kernel
theorem dX5_sumOfAges_32 : decode mX5_sumOfAges.2.1 32 = .ok (.ifCond .eq 12, 3) := by decide +kernel
theorem dX5_sumOfAges_35 : decode mX5_sumOfAges.2.1 35 = .ok (.iload_n 2, 1) := by decide +kernel
theorem dX5_sumOfAges_36 : decode mX5_sumOfAges.2.1 36 = .ok (.aload 6, 2) := by decide +kernel
theorem dX5_sumOfAges_38 : decode mX5_sumOfAges.2.1 38 = .ok (.iload_n 1, 1) := by decide +kernel
theorem dX5_sumOfAges_39 : decode mX5_sumOfAges.2.1 39 = .ok (.invokevirtual 51, 3) := by decide +kernel
theorem dX5_sumOfAges_42 : decode mX5_sumOfAges.2.1 42 = .ok (.iadd, 1) := by decide +kernel
theorem dX5_sumOfAges_43 : decode mX5_sumOfAges.2.1 43 = .ok (.istore_n 2, 1) := by decide +kernel
theorem dX5_sumOfAges_44 : decode mX5_sumOfAges.2.1 44 = .ok (.iinc 5 1, 3) := by decide +kernel
theorem dX5_sumOfAges_47 : decode mX5_sumOfAges.2.1 47 = .ok (.goto (-33), 3) := by decide +kernel
theorem dX5_sumOfAges_50 : decode mX5_sumOfAges.2.1 50 = .ok (.iload_n 2, 1) := by decide +kernel
theorem dX5_sumOfAges_51 : decode mX5_sumOfAges.2.1 51 = .ok (.ireturn, 1) := by decide +kernel
theorem dX5_hasOutlived_0 : decode mX5_hasOutlived.2.1 0 = .ok (.aload_n 1, 1) := by decide +kernel
theorem dX5_hasOutlived_1 : decode mX5_hasOutlived.2.1 1 = .ok (.iload_n 2, 1) := by decide +kernel
theorem dX5_hasOutlived_2 : decode mX5_hasOutlived.2.1 2 = .ok (.invokevirtual 51, 3) := by decide +kernel
theorem dX5_hasOutlived_5 : decode mX5_hasOutlived.2.1 5 = .ok (.aload_n 0, 1) := by decide +kernel
theorem dX5_hasOutlived_6 : decode mX5_hasOutlived.2.1 6 = .ok (.getfield 19, 3) := by decide +kernel
theorem dX5_hasOutlived_9 : decode mX5_hasOutlived.2.1 9 = .ok (.if_icmp .lt 7, 3) := by decide +kernel
theorem dX5_hasOutlived_12 : decode mX5_hasOutlived.2.1 12 = .ok (.iconst 1, 1) := by decide +kernel
theorem dX5_hasOutlived_13 : decode mX5_hasOutlived.2.1 13 = .ok (.goto 4, 3) := by decide +kernel
theorem dX5_hasOutlived_16 : decode mX5_hasOutlived.2.1 16 = .ok (.iconst 0, 1) := by decide +kernel
theorem dX5_hasOutlived_17 : decode mX5_hasOutlived.2.1 17 = .ok (.ireturn, 1) := by decide +kernel
theorem dX5_outcome_0 : decode mX5_outcome.2.1 0 = .ok (.aload_n 0, 1) := by decide +kernel
theorem dX5_outcome_1 : decode mX5_outcome.2.1 1 = .ok (.iload_n 1, 1) := by decide +kernel
theorem dX5_outcome_2 : decode mX5_outcome.2.1 2 = .ok (.invokevirtual 47, 3) := by decide +kernel
theorem dX5_outcome_5 : decode mX5_outcome.2.1 5 = .ok (.astore_n 3, 1) := by decide +kernel
theorem dX5_outcome_6 : decode mX5_outcome.2.1 6 = .ok (.aload_n 3, 1) := by decide +kernel
theorem dX5_outcome_7 : decode mX5_outcome.2.1 7 = .ok (.ifnonnull 6, 3) := by decide +kernel
theorem dX5_outcome_10 : decode mX5_outcome.2.1 10 = .ok (.bipush 99, 2) := by decide +kernel
theorem dX5_outcome_12 : decode mX5_outcome.2.1 12 = .ok (.ireturn, 1) := by decide +kernel
theorem dX5_outcome_13 : decode mX5_outcome.2.1 13 = .ok (.aload_n 0, 1) := by decide +kernel
theorem dX5_outcome_14 : decode mX5_outcome.2.1 14 = .ok (.aload_n 3, 1) := by decide +kernel
theorem dX5_outcome_15 : decode mX5_outcome.2.1 15 = .ok (.iload_n 2, 1) := by decide +kernel
theorem dX5_outcome_16 : decode mX5_outcome.2.1 16 = .ok (.invokevirtual 55, 3) := by decide +kernel
theorem dX5_outcome_19 : decode mX5_outcome.2.1 19 = .ok (.ifCond .eq 6, 3) := by decide +kernel
theorem dX5_outcome_22 : decode mX5_outcome.2.1 22 = .ok (.bipush 101, 2) := by decide +kernel
theorem dX5_outcome_24 : decode mX5_outcome.2.1 24 = .ok (.ireturn, 1) := by decide +kernel
theorem dX5_outcome_25 : decode mX5_outcome.2.1 25 = .ok (.aload_n 3, 1) := by decide +kernel
theorem dX5_outcome_26 : decode mX5_outcome.2.1 26 = .ok (.getfield 59, 3) := by decide +kernel
theorem dX5_outcome_29 : decode mX5_outcome.2.1 29 = .ok (.ifCond .eq 8, 3) := by decide +kernel
theorem dX5_outcome_32 : decode mX5_outcome.2.1 32 = .ok (.bipush 111, 2) := by decide +kernel
theorem dX5_outcome_34 : decode mX5_outcome.2.1 34 = .ok (.goto 5, 3) := by decide +kernel
theorem dX5_outcome_37 : decode mX5_outcome.2.1 37 = .ok (.bipush 104, 2) := by decide +kernel
theorem dX5_outcome_39 : decode mX5_outcome.2.1 39 = .ok (.ireturn, 1) := by decide +kernel
theorem dX5_firstInOrder_0 : decode mX5_firstInOrder.2.1 0 = .ok (.aload_n 0, 1) := by decide +kernel
theorem dX5_firstInOrder_1 : decode mX5_firstInOrder.2.1 1 = .ok (.getfield 34, 3) := by decide +kernel
theorem dX5_firstInOrder_4 : decode mX5_firstInOrder.2.1 4 = .ok (.iconst 0, 1) := by decide +kernel
theorem dX5_firstInOrder_5 : decode mX5_firstInOrder.2.1 5 = .ok (.aaload, 1) := by decide +kernel
theorem dX5_firstInOrder_6 : decode mX5_firstInOrder.2.1 6 = .ok (.astore_n 1, 1) := by decide +kernel
theorem dX5_firstInOrder_7 : decode mX5_firstInOrder.2.1 7 = .ok (.aload_n 1, 1) := by decide +kernel
theorem dX5_firstInOrder_8 : decode mX5_firstInOrder.2.1 8 = .ok (.getfield 43, 3) := by decide +kernel
theorem dX5_firstInOrder_11 : decode mX5_firstInOrder.2.1 11 = .ok (.ifCond .eq 7, 3) := by decide +kernel
theorem dX5_firstInOrder_14 : decode mX5_firstInOrder.2.1 14 = .ok (.aload_n 1, 1) := by decide +kernel
theorem dX5_firstInOrder_15 : decode mX5_firstInOrder.2.1 15 = .ok (.goto 4, 3) := by decide +kernel
theorem dX5_firstInOrder_18 : decode mX5_firstInOrder.2.1 18 = .ok (.aconst_null, 1) := by decide +kernel
theorem dX5_firstInOrder_19 : decode mX5_firstInOrder.2.1 19 = .ok (.areturn, 1) := by decide +kernel
theorem dX5_firstByScan_0 : decode mX5_firstByScan.2.1 0 = .ok (.aconst_null, 1) := by decide +kernel
theorem dX5_firstByScan_1 : decode mX5_firstByScan.2.1 1 = .ok (.astore_n 1, 1) := by decide +kernel
theorem dX5_firstByScan_2 : decode mX5_firstByScan.2.1 2 = .ok (.aload_n 0, 1) := by decide +kernel
theorem dX5_firstByScan_3 : decode mX5_firstByScan.2.1 3 = .ok (.getfield 34, 3) := by decide +kernel
theorem dX5_firstByScan_6 : decode mX5_firstByScan.2.1 6 = .ok (.astore_n 2, 1) := by decide +kernel
theorem dX5_firstByScan_7 : decode mX5_firstByScan.2.1 7 = .ok (.aload_n 2, 1) := by decide +kernel
theorem dX5_firstByScan_8 : decode mX5_firstByScan.2.1 8 = .ok (.arraylength, 1) := by decide +kernel
theorem dX5_firstByScan_9 : decode mX5_firstByScan.2.1 9 = .ok (.istore_n 3, 1) := by decide +kernel
theorem dX5_firstByScan_10 : decode mX5_firstByScan.2.1 10 = .ok (.iconst 0, 1) := by decide +kernel
theorem dX5_firstByScan_11 : decode mX5_firstByScan.2.1 11 = .ok (.istore 4, 2) := by decide +kernel
theorem dX5_firstByScan_13 : decode mX5_firstByScan.2.1 13 = .ok (.iload 4, 2) := by decide +kernel
theorem dX5_firstByScan_15 : decode mX5_firstByScan.2.1 15 = .ok (.iload_n 3, 1) := by decide +kernel
theorem dX5_firstByScan_16 : decode mX5_firstByScan.2.1 16 = .ok (.if_icmp .ge 40, 3) := by decide +kernel
theorem dX5_firstByScan_19 : decode mX5_firstByScan.2.1 19 = .ok (.aload_n 2, 1) := by decide +kernel
theorem dX5_firstByScan_20 : decode mX5_firstByScan.2.1 20 = .ok (.iload 4, 2) := by decide +kernel
theorem dX5_firstByScan_22 : decode mX5_firstByScan.2.1 22 = .ok (.aaload, 1) := by decide +kernel
theorem dX5_firstByScan_23 : decode mX5_firstByScan.2.1 23 = .ok (.astore 5, 2) := by decide +kernel
theorem dX5_firstByScan_25 : decode mX5_firstByScan.2.1 25 = .ok (.aload 5, 2) := by decide +kernel
theorem dX5_firstByScan_27 : decode mX5_firstByScan.2.1 27 = .ok (.getfield 43, 3) := by decide +kernel
theorem dX5_firstByScan_30 : decode mX5_firstByScan.2.1 30 = .ok (.ifCond .eq 20, 3) := by decide +kernel
theorem dX5_firstByScan_33 : decode mX5_firstByScan.2.1 33 = .ok (.aload_n 1, 1) := by decide +kernel
theorem dX5_firstByScan_34 : decode mX5_firstByScan.2.1 34 = .ok (.ifnull 13, 3) := by decide +kernel
theorem dX5_firstByScan_37 : decode mX5_firstByScan.2.1 37 = .ok (.aload_n 0, 1) := by decide +kernel
theorem dX5_firstByScan_38 : decode mX5_firstByScan.2.1 38 = .ok (.aload 5, 2) := by decide +kernel
theorem dX5_firstByScan_40 : decode mX5_firstByScan.2.1 40 = .ok (.aload_n 1, 1) := by decide +kernel
theorem dX5_firstByScan_41 : decode mX5_firstByScan.2.1 41 = .ok (.invokevirtual 62, 3) := by decide +kernel
theorem dX5_firstByScan_44 : decode mX5_firstByScan.2.1 44 = .ok (.ifCond .eq 6, 3) := by decide +kernel
theorem dX5_firstByScan_47 : decode mX5_firstByScan.2.1 47 = .ok (.aload 5, 2) := by decide +kernel
theorem dX5_firstByScan_49 : decode mX5_firstByScan.2.1 49 = .ok (.astore_n 1, 1) := by decide +kernel
theorem dX5_firstByScan_50 : decode mX5_firstByScan.2.1 50 = .ok (.iinc 4 1, 3) := by decide +kernel
theorem dX5_firstByScan_53 : decode mX5_firstByScan.2.1 53 = .ok (.goto (-40), 3) := by decide +kernel
theorem dX5_firstByScan_56 : decode mX5_firstByScan.2.1 56 = .ok (.aload_n 1, 1) := by decide +kernel
theorem dX5_firstByScan_57 : decode mX5_firstByScan.2.1 57 = .ok (.areturn, 1) := by decide +kernel
theorem dX5_isBefore_0 : decode mX5_isBefore.2.1 0 = .ok (.aload_n 0, 1) := by decide +kernel
theorem dX5_isBefore_1 : decode mX5_isBefore.2.1 1 = .ok (.getfield 22, 3) := by decide +kernel
theorem dX5_isBefore_4 : decode mX5_isBefore.2.1 4 = .ok (.bipush 114, 2) := by decide +kernel
theorem dX5_isBefore_6 : decode mX5_isBefore.2.1 6 = .ok (.if_icmp .ne 20, 3) := by decide +kernel
theorem dX5_isBefore_9 : decode mX5_isBefore.2.1 9 = .ok (.aload_n 1, 1) := by decide +kernel
theorem dX5_isBefore_10 : decode mX5_isBefore.2.1 10 = .ok (.getfield 66, 3) := by decide +kernel
theorem dX5_isBefore_13 : decode mX5_isBefore.2.1 13 = .ok (.aload_n 2, 1) := by decide +kernel
theorem dX5_isBefore_14 : decode mX5_isBefore.2.1 14 = .ok (.getfield 66, 3) := by decide +kernel
theorem dX5_isBefore_17 : decode mX5_isBefore.2.1 17 = .ok (.if_icmp .ge 7, 3) := by decide +kernel
theorem dX5_isBefore_20 : decode mX5_isBefore.2.1 20 = .ok (.iconst 1, 1) := by decide +kernel
theorem dX5_isBefore_21 : decode mX5_isBefore.2.1 21 = .ok (.goto 4, 3) := by decide +kernel
theorem dX5_isBefore_24 : decode mX5_isBefore.2.1 24 = .ok (.iconst 0, 1) := by decide +kernel
theorem dX5_isBefore_25 : decode mX5_isBefore.2.1 25 = .ok (.ireturn, 1) := by decide +kernel
theorem dX5_isBefore_26 : decode mX5_isBefore.2.1 26 = .ok (.aload_n 0, 1) := by decide +kernel
theorem dX5_isBefore_27 : decode mX5_isBefore.2.1 27 = .ok (.getfield 22, 3) := by decide +kernel
theorem dX5_isBefore_30 : decode mX5_isBefore.2.1 30 = .ok (.bipush 108, 2) := by decide +kernel
theorem dX5_isBefore_32 : decode mX5_isBefore.2.1 32 = .ok (.if_icmp .ne 31, 3) := by decide +kernel
theorem dX5_isBefore_35 : decode mX5_isBefore.2.1 35 = .ok (.aload_n 1, 1) := by decide +kernel
theorem dX5_isBefore_36 : decode mX5_isBefore.2.1 36 = .ok (.getfield 69, 3) := by decide +kernel
theorem dX5_isBefore_39 : decode mX5_isBefore.2.1 39 = .ok (.aload_n 2, 1) := by decide +kernel
theorem dX5_isBefore_40 : decode mX5_isBefore.2.1 40 = .ok (.getfield 69, 3) := by decide +kernel
theorem dX5_isBefore_43 : decode mX5_isBefore.2.1 43 = .ok (.if_icmp .eq 20, 3) := by decide +kernel
theorem dX5_isBefore_46 : decode mX5_isBefore.2.1 46 = .ok (.aload_n 1, 1) := by decide +kernel
theorem dX5_isBefore_47 : decode mX5_isBefore.2.1 47 = .ok (.getfield 69, 3) := by decide +kernel
theorem dX5_isBefore_50 : decode mX5_isBefore.2.1 50 = .ok (.aload_n 2, 1) := by decide +kernel
theorem dX5_isBefore_51 : decode mX5_isBefore.2.1 51 = .ok (.getfield 69, 3) := by decide +kernel
theorem dX5_isBefore_54 : decode mX5_isBefore.2.1 54 = .ok (.if_icmp .ge 7, 3) := by decide +kernel
theorem dX5_isBefore_57 : decode mX5_isBefore.2.1 57 = .ok (.iconst 1, 1) := by decide +kernel
theorem dX5_isBefore_58 : decode mX5_isBefore.2.1 58 = .ok (.goto 4, 3) := by decide +kernel
theorem dX5_isBefore_61 : decode mX5_isBefore.2.1 61 = .ok (.iconst 0, 1) := by decide +kernel
theorem dX5_isBefore_62 : decode mX5_isBefore.2.1 62 = .ok (.ireturn, 1) := by decide +kernel
theorem dX5_isBefore_63 : decode mX5_isBefore.2.1 63 = .ok (.aload_n 1, 1) := by decide +kernel
theorem dX5_isBefore_64 : decode mX5_isBefore.2.1 64 = .ok (.getfield 70, 3) := by decide +kernel
theorem dX5_isBefore_67 : decode mX5_isBefore.2.1 67 = .ok (.aload_n 2, 1) := by decide +kernel
theorem dX5_isBefore_68 : decode mX5_isBefore.2.1 68 = .ok (.getfield 70, 3) := by decide +kernel
theorem dX5_isBefore_71 : decode mX5_isBefore.2.1 71 = .ok (.if_icmp .ge 7, 3) := by decide +kernel
theorem dX5_isBefore_74 : decode mX5_isBefore.2.1 74 = .ok (.iconst 1, 1) := by decide +kernel
theorem dX5_isBefore_75 : decode mX5_isBefore.2.1 75 = .ok (.goto 4, 3) := by decide +kernel
theorem dX5_isBefore_78 : decode mX5_isBefore.2.1 78 = .ok (.iconst 0, 1) := by decide +kernel
theorem dX5_isBefore_79 : decode mX5_isBefore.2.1 79 = .ok (.ireturn, 1) := by decide +kernel
theorem dX5_sort_0 : decode mX5_sort.2.1 0 = .ok (.iconst 1, 1) := by decide +kernel
theorem dX5_sort_1 : decode mX5_sort.2.1 1 = .ok (.istore_n 1, 1) := by decide +kernel
theorem dX5_sort_2 : decode mX5_sort.2.1 2 = .ok (.iload_n 1, 1) := by decide +kernel
theorem dX5_sort_3 : decode mX5_sort.2.1 3 = .ok (.aload_n 0, 1) := by decide +kernel
theorem dX5_sort_4 : decode mX5_sort.2.1 4 = .ok (.getfield 34, 3) := by decide +kernel
theorem dX5_sort_7 : decode mX5_sort.2.1 7 = .ok (.arraylength, 1) := by decide +kernel
theorem dX5_sort_8 : decode mX5_sort.2.1 8 = .ok (.if_icmp .ge 83, 3) := by decide +kernel
theorem dX5_sort_11 : decode mX5_sort.2.1 11 = .ok (.iload_n 1, 1) := by decide +kernel
theorem dX5_sort_12 : decode mX5_sort.2.1 12 = .ok (.istore_n 2, 1) := by decide +kernel
theorem dX5_sort_13 : decode mX5_sort.2.1 13 = .ok (.iload_n 2, 1) := by decide +kernel
theorem dX5_sort_14 : decode mX5_sort.2.1 14 = .ok (.ifCond .le 71, 3) := by decide +kernel
theorem dX5_sort_17 : decode mX5_sort.2.1 17 = .ok (.aload_n 0, 1) := by decide +kernel
theorem dX5_sort_18 : decode mX5_sort.2.1 18 = .ok (.getfield 34, 3) := by decide +kernel
theorem dX5_sort_21 : decode mX5_sort.2.1 21 = .ok (.iload_n 2, 1) := by decide +kernel
theorem dX5_sort_22 : decode mX5_sort.2.1 22 = .ok (.aaload, 1) := by decide +kernel
theorem dX5_sort_23 : decode mX5_sort.2.1 23 = .ok (.astore_n 3, 1) := by decide +kernel
theorem dX5_sort_24 : decode mX5_sort.2.1 24 = .ok (.aload_n 0, 1) := by decide +kernel
theorem dX5_sort_25 : decode mX5_sort.2.1 25 = .ok (.getfield 34, 3) := by decide +kernel
theorem dX5_sort_28 : decode mX5_sort.2.1 28 = .ok (.iload_n 2, 1) := by decide +kernel
theorem dX5_sort_29 : decode mX5_sort.2.1 29 = .ok (.iconst 1, 1) := by decide +kernel
theorem dX5_sort_30 : decode mX5_sort.2.1 30 = .ok (.isub, 1) := by decide +kernel
theorem dX5_sort_31 : decode mX5_sort.2.1 31 = .ok (.aaload, 1) := by decide +kernel
theorem dX5_sort_32 : decode mX5_sort.2.1 32 = .ok (.astore 4, 2) := by decide +kernel
theorem dX5_sort_34 : decode mX5_sort.2.1 34 = .ok (.aload_n 3, 1) := by decide +kernel
theorem dX5_sort_35 : decode mX5_sort.2.1 35 = .ok (.getfield 43, 3) := by decide +kernel
theorem dX5_sort_38 : decode mX5_sort.2.1 38 = .ok (.ifCond .eq 47, 3) := by decide +kernel
theorem dX5_sort_41 : decode mX5_sort.2.1 41 = .ok (.aload 4, 2) := by decide +kernel
theorem dX5_sort_43 : decode mX5_sort.2.1 43 = .ok (.getfield 43, 3) := by decide +kernel
theorem dX5_sort_46 : decode mX5_sort.2.1 46 = .ok (.ifCond .eq 16, 3) := by decide +kernel
theorem dX5_sort_49 : decode mX5_sort.2.1 49 = .ok (.aload_n 0, 1) := by decide +kernel
theorem dX5_sort_50 : decode mX5_sort.2.1 50 = .ok (.aload_n 3, 1) := by decide +kernel
theorem dX5_sort_51 : decode mX5_sort.2.1 51 = .ok (.aload 4, 2) := by decide +kernel
theorem dX5_sort_53 : decode mX5_sort.2.1 53 = .ok (.invokevirtual 62, 3) := by decide +kernel
theorem dX5_sort_56 : decode mX5_sort.2.1 56 = .ok (.ifCond .ne 6, 3) := by decide +kernel
theorem dX5_sort_59 : decode mX5_sort.2.1 59 = .ok (.goto 26, 3) := by decide +kernel
theorem dX5_sort_62 : decode mX5_sort.2.1 62 = .ok (.aload_n 0, 1) := by decide +kernel
theorem dX5_sort_63 : decode mX5_sort.2.1 63 = .ok (.getfield 34, 3) := by decide +kernel
theorem dX5_sort_66 : decode mX5_sort.2.1 66 = .ok (.iload_n 2, 1) := by decide +kernel
theorem dX5_sort_67 : decode mX5_sort.2.1 67 = .ok (.aload 4, 2) := by decide +kernel
theorem dX5_sort_69 : decode mX5_sort.2.1 69 = .ok (.aastore, 1) := by decide +kernel
theorem dX5_sort_70 : decode mX5_sort.2.1 70 = .ok (.aload_n 0, 1) := by decide +kernel
theorem dX5_sort_71 : decode mX5_sort.2.1 71 = .ok (.getfield 34, 3) := by decide +kernel
theorem dX5_sort_74 : decode mX5_sort.2.1 74 = .ok (.iload_n 2, 1) := by decide +kernel
theorem dX5_sort_75 : decode mX5_sort.2.1 75 = .ok (.iconst 1, 1) := by decide +kernel
theorem dX5_sort_76 : decode mX5_sort.2.1 76 = .ok (.isub, 1) := by decide +kernel
theorem dX5_sort_77 : decode mX5_sort.2.1 77 = .ok (.aload_n 3, 1) := by decide +kernel
theorem dX5_sort_78 : decode mX5_sort.2.1 78 = .ok (.aastore, 1) := by decide +kernel
theorem dX5_sort_79 : decode mX5_sort.2.1 79 = .ok (.iinc 2 (-1), 3) := by decide +kernel
theorem dX5_sort_82 : decode mX5_sort.2.1 82 = .ok (.goto (-69), 3) := by decide +kernel
theorem dX5_sort_85 : decode mX5_sort.2.1 85 = .ok (.iinc 1 1, 3) := by decide +kernel
theorem dX5_sort_88 : decode mX5_sort.2.1 88 = .ok (.goto (-86), 3) := by decide +kernel
theorem dX5_sort_91 : decode mX5_sort.2.1 91 = .ok (.return_, 1) := by decide +kernel
theorem dX5_remove_0 : decode mX5_remove.2.1 0 = .ok (.aload_n 1, 1) := by decide +kernel
theorem dX5_remove_1 : decode mX5_remove.2.1 1 = .ok (.ifnonnull 5, 3) := by decide +kernel
theorem dX5_remove_4 : decode mX5_remove.2.1 4 = .ok (.iconst 0, 1) := by decide +kernel
theorem dX5_remove_5 : decode mX5_remove.2.1 5 = .ok (.ireturn, 1) := by decide +kernel
theorem dX5_remove_6 : decode mX5_remove.2.1 6 = .ok (.aload_n 1, 1) := by decide +kernel
theorem dX5_remove_7 : decode mX5_remove.2.1 7 = .ok (.iconst 0, 1) := by decide +kernel
theorem dX5_remove_8 : decode mX5_remove.2.1 8 = .ok (.putfield 43, 3) := by decide +kernel
theorem dX5_remove_11 : decode mX5_remove.2.1 11 = .ok (.aload_n 0, 1) := by decide +kernel
theorem dX5_remove_12 : decode mX5_remove.2.1 12 = .ok (.invokevirtual 73, 3) := by decide +kernel
theorem dX5_remove_15 : decode mX5_remove.2.1 15 = .ok (.iconst 1, 1) := by decide +kernel
theorem dX5_remove_16 : decode mX5_remove.2.1 16 = .ok (.ireturn, 1) := by decide +kernel
theorem dX5_fetch_0 : decode mX5_fetch.2.1 0 = .ok (.aload_n 0, 1) := by decide +kernel
theorem dX5_fetch_1 : decode mX5_fetch.2.1 1 = .ok (.iload_n 1, 1) := by decide +kernel
theorem dX5_fetch_2 : decode mX5_fetch.2.1 2 = .ok (.invokevirtual 47, 3) := by decide +kernel
theorem dX5_fetch_5 : decode mX5_fetch.2.1 5 = .ok (.astore 5, 2) := by decide +kernel
theorem dX5_fetch_7 : decode mX5_fetch.2.1 7 = .ok (.aload 5, 2) := by decide +kernel
theorem dX5_fetch_9 : decode mX5_fetch.2.1 9 = .ok (.ifnonnull 20, 3) := by decide +kernel
theorem dX5_fetch_12 : decode mX5_fetch.2.1 12 = .ok (.aload_n 0, 1) := by decide +kernel
theorem dX5_fetch_13 : decode mX5_fetch.2.1 13 = .ok (.invokevirtual 76, 3) := by decide +kernel
theorem dX5_fetch_16 : decode mX5_fetch.2.1 16 = .ok (.aload_n 0, 1) := by decide +kernel
theorem dX5_fetch_17 : decode mX5_fetch.2.1 17 = .ok (.getfield 15, 3) := by decide +kernel
theorem dX5_fetch_20 : decode mX5_fetch.2.1 20 = .ok (.if_icmp .lt 9, 3) := by decide +kernel
theorem dX5_fetch_23 : decode mX5_fetch.2.1 23 = .ok (.aload_n 0, 1) := by decide +kernel
theorem dX5_fetch_24 : decode mX5_fetch.2.1 24 = .ok (.invokevirtual 80, 3) := by decide +kernel
theorem dX5_fetch_27 : decode mX5_fetch.2.1 27 = .ok (.astore 5, 2) := by decide +kernel
theorem dX5_fetch_29 : decode mX5_fetch.2.1 29 = .ok (.aload 5, 2) := by decide +kernel
theorem dX5_fetch_31 : decode mX5_fetch.2.1 31 = .ok (.ifnull 9, 3) := by decide +kernel
theorem dX5_fetch_34 : decode mX5_fetch.2.1 34 = .ok (.aload 5, 2) := by decide +kernel
theorem dX5_fetch_36 : decode mX5_fetch.2.1 36 = .ok (.iconst 0, 1) := by decide +kernel
theorem dX5_fetch_37 : decode mX5_fetch.2.1 37 = .ok (.putfield 43, 3) := by decide +kernel
theorem dX5_fetch_40 : decode mX5_fetch.2.1 40 = .ok (.aload_n 0, 1) := by decide +kernel
theorem dX5_fetch_41 : decode mX5_fetch.2.1 41 = .ok (.getfield 34, 3) := by decide +kernel
theorem dX5_fetch_44 : decode mX5_fetch.2.1 44 = .ok (.astore 6, 2) := by decide +kernel
theorem dX5_fetch_46 : decode mX5_fetch.2.1 46 = .ok (.aload 6, 2) := by decide +kernel
theorem dX5_fetch_48 : decode mX5_fetch.2.1 48 = .ok (.arraylength, 1) := by decide +kernel
theorem dX5_fetch_49 : decode mX5_fetch.2.1 49 = .ok (.istore 7, 2) := by decide +kernel
theorem dX5_fetch_51 : decode mX5_fetch.2.1 51 = .ok (.iconst 0, 1) := by decide +kernel
theorem dX5_fetch_52 : decode mX5_fetch.2.1 52 = .ok (.istore 8, 2) := by decide +kernel
theorem dX5_fetch_54 : decode mX5_fetch.2.1 54 = .ok (.iload 8, 2) := by decide +kernel
theorem dX5_fetch_56 : decode mX5_fetch.2.1 56 = .ok (.iload 7, 2) := by decide +kernel
theorem dX5_fetch_58 : decode mX5_fetch.2.1 58 = .ok (.if_icmp .ge 37, 3) := by decide +kernel
theorem dX5_fetch_61 : decode mX5_fetch.2.1 61 = .ok (.aload 6, 2) := by decide +kernel
theorem dX5_fetch_63 : decode mX5_fetch.2.1 63 = .ok (.iload 8, 2) := by decide +kernel
theorem dX5_fetch_65 : decode mX5_fetch.2.1 65 = .ok (.aaload, 1) := by decide +kernel
theorem dX5_fetch_66 : decode mX5_fetch.2.1 66 = .ok (.astore 9, 2) := by decide +kernel
theorem dX5_fetch_68 : decode mX5_fetch.2.1 68 = .ok (.aload 9, 2) := by decide +kernel
theorem dX5_fetch_70 : decode mX5_fetch.2.1 70 = .ok (.getfield 43, 3) := by decide +kernel
theorem dX5_fetch_73 : decode mX5_fetch.2.1 73 = .ok (.ifCond .ne 16, 3) := by decide +kernel
theorem dX5_fetch_76 : decode mX5_fetch.2.1 76 = .ok (.aload 9, 2) := by decide +kernel
theorem dX5_fetch_78 : decode mX5_fetch.2.1 78 = .ok (.iload_n 1, 1) := by decide +kernel
theorem dX5_fetch_79 : decode mX5_fetch.2.1 79 = .ok (.aload_n 2, 1) := by decide +kernel
theorem dX5_fetch_80 : decode mX5_fetch.2.1 80 = .ok (.iload_n 3, 1) := by decide +kernel
theorem dX5_fetch_81 : decode mX5_fetch.2.1 81 = .ok (.iload 4, 2) := by decide +kernel
theorem dX5_fetch_83 : decode mX5_fetch.2.1 83 = .ok (.invokevirtual 84, 3) := by decide +kernel
theorem dX5_fetch_86 : decode mX5_fetch.2.1 86 = .ok (.goto 9, 3) := by decide +kernel
theorem dX5_fetch_89 : decode mX5_fetch.2.1 89 = .ok (.iinc 8 1, 3) := by decide +kernel
theorem dX5_fetch_92 : decode mX5_fetch.2.1 92 = .ok (.goto (-38), 3) := by decide +kernel
theorem dX5_fetch_95 : decode mX5_fetch.2.1 95 = .ok (.aload_n 0, 1) := by decide +kernel
theorem dX5_fetch_96 : decode mX5_fetch.2.1 96 = .ok (.invokevirtual 73, 3) := by decide +kernel
theorem dX5_fetch_99 : decode mX5_fetch.2.1 99 = .ok (.return_, 1) := by decide +kernel
theorem dX5_hit_0 : decode mX5_hit.2.1 0 = .ok (.aload_n 1, 1) := by decide +kernel
theorem dX5_hit_1 : decode mX5_hit.2.1 1 = .ok (.dup, 1) := by decide +kernel
theorem dX5_hit_2 : decode mX5_hit.2.1 2 = .ok (.getfield 69, 3) := by decide +kernel
theorem dX5_hit_5 : decode mX5_hit.2.1 5 = .ok (.iconst 1, 1) := by decide +kernel
theorem dX5_hit_6 : decode mX5_hit.2.1 6 = .ok (.iadd, 1) := by decide +kernel
theorem dX5_hit_7 : decode mX5_hit.2.1 7 = .ok (.putfield 69, 3) := by decide +kernel
theorem dX5_hit_10 : decode mX5_hit.2.1 10 = .ok (.aload_n 1, 1) := by decide +kernel
theorem dX5_hit_11 : decode mX5_hit.2.1 11 = .ok (.iload_n 2, 1) := by decide +kernel
theorem dX5_hit_12 : decode mX5_hit.2.1 12 = .ok (.putfield 66, 3) := by decide +kernel
theorem dX5_hit_15 : decode mX5_hit.2.1 15 = .ok (.aload_n 0, 1) := by decide +kernel
theorem dX5_hit_16 : decode mX5_hit.2.1 16 = .ok (.dup, 1) := by decide +kernel
theorem dX5_hit_17 : decode mX5_hit.2.1 17 = .ok (.getfield 29, 3) := by decide +kernel
theorem dX5_hit_20 : decode mX5_hit.2.1 20 = .ok (.iconst 1, 1) := by decide +kernel
theorem dX5_hit_21 : decode mX5_hit.2.1 21 = .ok (.iadd, 1) := by decide +kernel
theorem dX5_hit_22 : decode mX5_hit.2.1 22 = .ok (.putfield 29, 3) := by decide +kernel
theorem dX5_hit_25 : decode mX5_hit.2.1 25 = .ok (.aload_n 0, 1) := by decide +kernel
theorem dX5_hit_26 : decode mX5_hit.2.1 26 = .ok (.invokevirtual 73, 3) := by decide +kernel
theorem dX5_hit_29 : decode mX5_hit.2.1 29 = .ok (.aload_n 1, 1) := by decide +kernel
theorem dX5_hit_30 : decode mX5_hit.2.1 30 = .ok (.getfield 88, 3) := by decide +kernel
theorem dX5_hit_33 : decode mX5_hit.2.1 33 = .ok (.ireturn, 1) := by decide +kernel
theorem dX5_openLid_0 : decode mX5_openLid.2.1 0 = .ok (.aload_n 0, 1) := by decide +kernel
theorem dX5_openLid_1 : decode mX5_openLid.2.1 1 = .ok (.iload_n 1, 1) := by decide +kernel
theorem dX5_openLid_2 : decode mX5_openLid.2.1 2 = .ok (.invokevirtual 47, 3) := by decide +kernel
theorem dX5_openLid_5 : decode mX5_openLid.2.1 5 = .ok (.astore_n 2, 1) := by decide +kernel
theorem dX5_openLid_6 : decode mX5_openLid.2.1 6 = .ok (.aload_n 2, 1) := by decide +kernel
theorem dX5_openLid_7 : decode mX5_openLid.2.1 7 = .ok (.ifnull 10, 3) := by decide +kernel
theorem dX5_openLid_10 : decode mX5_openLid.2.1 10 = .ok (.aload_n 2, 1) := by decide +kernel
theorem dX5_openLid_11 : decode mX5_openLid.2.1 11 = .ok (.getfield 59, 3) := by decide +kernel
theorem dX5_openLid_14 : decode mX5_openLid.2.1 14 = .ok (.ifCond .eq 5, 3) := by decide +kernel
theorem dX5_openLid_17 : decode mX5_openLid.2.1 17 = .ok (.iconst 0, 1) := by decide +kernel
theorem dX5_openLid_18 : decode mX5_openLid.2.1 18 = .ok (.ireturn, 1) := by decide +kernel
theorem dX5_openLid_19 : decode mX5_openLid.2.1 19 = .ok (.aload_n 2, 1) := by decide +kernel
theorem dX5_openLid_20 : decode mX5_openLid.2.1 20 = .ok (.iconst 1, 1) := by decide +kernel
theorem dX5_openLid_21 : decode mX5_openLid.2.1 21 = .ok (.putfield 59, 3) := by decide +kernel
theorem dX5_openLid_24 : decode mX5_openLid.2.1 24 = .ok (.iconst 1, 1) := by decide +kernel
theorem dX5_openLid_25 : decode mX5_openLid.2.1 25 = .ok (.ireturn, 1) := by decide +kernel
theorem dX6_init_0 : decode mX6_init.2.1 0 = .ok (.aload_n 0, 1) := by decide +kernel
theorem dX6_init_1 : decode mX6_init.2.1 1 = .ok (.invokespecial 3, 3) := by decide +kernel
theorem dX6_init_4 : decode mX6_init.2.1 4 = .ok (.aload_n 0, 1) := by decide +kernel
theorem dX6_init_5 : decode mX6_init.2.1 5 = .ok (.bipush 26, 2) := by decide +kernel
theorem dX6_init_7 : decode mX6_init.2.1 7 = .ok (.anewarray 9, 3) := by decide +kernel
theorem dX6_init_10 : decode mX6_init.2.1 10 = .ok (.putfield 11, 3) := by decide +kernel
theorem dX6_init_13 : decode mX6_init.2.1 13 = .ok (.aload_n 0, 1) := by decide +kernel
theorem dX6_init_14 : decode mX6_init.2.1 14 = .ok (.iconst 4, 1) := by decide +kernel
theorem dX6_init_15 : decode mX6_init.2.1 15 = .ok (.anewarray 17, 3) := by decide +kernel
theorem dX6_init_18 : decode mX6_init.2.1 18 = .ok (.putfield 19, 3) := by decide +kernel
theorem dX6_init_21 : decode mX6_init.2.1 21 = .ok (.aload_n 0, 1) := by decide +kernel
theorem dX6_init_22 : decode mX6_init.2.1 22 = .ok (.bipush 8, 2) := by decide +kernel
theorem dX6_init_24 : decode mX6_init.2.1 24 = .ok (.anewarray 23, 3) := by decide +kernel
theorem dX6_init_27 : decode mX6_init.2.1 27 = .ok (.putfield 25, 3) := by decide +kernel
theorem dX6_init_30 : decode mX6_init.2.1 30 = .ok (.aload_n 0, 1) := by decide +kernel
theorem dX6_init_31 : decode mX6_init.2.1 31 = .ok (.iconst 0, 1) := by decide +kernel
theorem dX6_init_32 : decode mX6_init.2.1 32 = .ok (.putfield 29, 3) := by decide +kernel
theorem dX6_init_35 : decode mX6_init.2.1 35 = .ok (.aload_n 0, 1) := by decide +kernel
theorem dX6_init_36 : decode mX6_init.2.1 36 = .ok (.iconst 0, 1) := by decide +kernel
theorem dX6_init_37 : decode mX6_init.2.1 37 = .ok (.putfield 33, 3) := by decide +kernel
theorem dX6_init_40 : decode mX6_init.2.1 40 = .ok (.aload_n 0, 1) := by decide +kernel
theorem dX6_init_41 : decode mX6_init.2.1 41 = .ok (.iconst 0, 1) := by decide +kernel
theorem dX6_init_42 : decode mX6_init.2.1 42 = .ok (.putfield 36, 3) := by decide +kernel
theorem dX6_init_45 : decode mX6_init.2.1 45 = .ok (.aload_n 0, 1) := by decide +kernel
theorem dX6_init_46 : decode mX6_init.2.1 46 = .ok (.iconst 0, 1) := by decide +kernel
theorem dX6_init_47 : decode mX6_init.2.1 47 = .ok (.putfield 39, 3) := by decide +kernel
theorem dX6_init_50 : decode mX6_init.2.1 50 = .ok (.aload_n 0, 1) := by decide +kernel
theorem dX6_init_51 : decode mX6_init.2.1 51 = .ok (.iconst 0, 1) := by decide +kernel
theorem dX6_init_52 : decode mX6_init.2.1 52 = .ok (.putfield 42, 3) := by decide +kernel
theorem dX6_init_55 : decode mX6_init.2.1 55 = .ok (.aload_n 0, 1) := by decide +kernel
theorem dX6_init_56 : decode mX6_init.2.1 56 = .ok (.iconst 0, 1) := by decide +kernel
theorem dX6_init_57 : decode mX6_init.2.1 57 = .ok (.putfield 45, 3) := by decide +kernel
theorem dX6_init_60 : decode mX6_init.2.1 60 = .ok (.iconst 0, 1) := by decide +kernel
theorem dX6_init_61 : decode mX6_init.2.1 61 = .ok (.istore_n 1, 1) := by decide +kernel
theorem dX6_init_62 : decode mX6_init.2.1 62 = .ok (.iload_n 1, 1) := by decide +kernel
theorem dX6_init_63 : decode mX6_init.2.1 63 = .ok (.aload_n 0, 1) := by decide +kernel
theorem dX6_init_64 : decode mX6_init.2.1 64 = .ok (.getfield 11, 3) := by decide +kernel
theorem dX6_init_67 : decode mX6_init.2.1 67 = .ok (.arraylength, 1) := by decide +kernel
theorem dX6_init_68 : decode mX6_init.2.1 68 = .ok (.if_icmp .ge 22, 3) := by decide +kernel
theorem dX6_init_71 : decode mX6_init.2.1 71 = .ok (.aload_n 0, 1) := by decide +kernel
theorem dX6_init_72 : decode mX6_init.2.1 72 = .ok (.getfield 11, 3) := by decide +kernel
theorem dX6_init_75 : decode mX6_init.2.1 75 = .ok (.iload_n 1, 1) := by decide +kernel
theorem dX6_init_76 : decode mX6_init.2.1 76 = .ok (.new 9, 3) := by decide +kernel
theorem dX6_init_79 : decode mX6_init.2.1 79 = .ok (.dup, 1) := by decide +kernel
theorem dX6_init_80 : decode mX6_init.2.1 80 = .ok (.invokespecial 48, 3) := by decide +kernel
theorem dX6_init_83 : decode mX6_init.2.1 83 = .ok (.aastore, 1) := by decide +kernel
theorem dX6_init_84 : decode mX6_init.2.1 84 = .ok (.iinc 1 1, 3) := by decide +kernel
theorem dX6_init_87 : decode mX6_init.2.1 87 = .ok (.goto (-25), 3) := by decide +kernel
theorem dX6_init_90 : decode mX6_init.2.1 90 = .ok (.iconst 0, 1) := by decide +kernel
theorem dX6_init_91 : decode mX6_init.2.1 91 = .ok (.istore_n 1, 1) := by decide +kernel
theorem dX6_init_92 : decode mX6_init.2.1 92 = .ok (.iload_n 1, 1) := by decide +kernel
theorem dX6_init_93 : decode mX6_init.2.1 93 = .ok (.aload_n 0, 1) := by decide +kernel
theorem dX6_init_94 : decode mX6_init.2.1 94 = .ok (.getfield 19, 3) := by decide +kernel
theorem dX6_init_97 : decode mX6_init.2.1 97 = .ok (.arraylength, 1) := by decide +kernel
theorem dX6_init_98 : decode mX6_init.2.1 98 = .ok (.if_icmp .ge 22, 3) := by decide +kernel
theorem dX6_init_101 : decode mX6_init.2.1 101 = .ok (.aload_n 0, 1) := by decide +kernel
theorem dX6_init_102 : decode mX6_init.2.1 102 = .ok (.getfield 19, 3) := by decide +kernel
theorem dX6_init_105 : decode mX6_init.2.1 105 = .ok (.iload_n 1, 1) := by decide +kernel
theorem dX6_init_106 : decode mX6_init.2.1 106 = .ok (.new 17, 3) := by decide +kernel
theorem dX6_init_109 : decode mX6_init.2.1 109 = .ok (.dup, 1) := by decide +kernel
theorem dX6_init_110 : decode mX6_init.2.1 110 = .ok (.invokespecial 49, 3) := by decide +kernel
theorem dX6_init_113 : decode mX6_init.2.1 113 = .ok (.aastore, 1) := by decide +kernel
theorem dX6_init_114 : decode mX6_init.2.1 114 = .ok (.iinc 1 1, 3) := by decide +kernel
theorem dX6_init_117 : decode mX6_init.2.1 117 = .ok (.goto (-25), 3) := by decide +kernel
theorem dX6_init_120 : decode mX6_init.2.1 120 = .ok (.iconst 0, 1) := by decide +kernel
theorem dX6_init_121 : decode mX6_init.2.1 121 = .ok (.istore_n 1, 1) := by decide +kernel
theorem dX6_init_122 : decode mX6_init.2.1 122 = .ok (.iload_n 1, 1) := by decide +kernel
theorem dX6_init_123 : decode mX6_init.2.1 123 = .ok (.aload_n 0, 1) := by decide +kernel
theorem dX6_init_124 : decode mX6_init.2.1 124 = .ok (.getfield 25, 3) := by decide +kernel
theorem dX6_init_127 : decode mX6_init.2.1 127 = .ok (.arraylength, 1) := by decide +kernel
theorem dX6_init_128 : decode mX6_init.2.1 128 = .ok (.if_icmp .ge 22, 3) := by decide +kernel
theorem dX6_init_131 : decode mX6_init.2.1 131 = .ok (.aload_n 0, 1) := by decide +kernel
theorem dX6_init_132 : decode mX6_init.2.1 132 = .ok (.getfield 25, 3) := by decide +kernel
theorem dX6_init_135 : decode mX6_init.2.1 135 = .ok (.iload_n 1, 1) := by decide +kernel
theorem dX6_init_136 : decode mX6_init.2.1 136 = .ok (.new 23, 3) := by decide +kernel
theorem dX6_init_139 : decode mX6_init.2.1 139 = .ok (.dup, 1) := by decide +kernel
theorem dX6_init_140 : decode mX6_init.2.1 140 = .ok (.invokespecial 50, 3) := by decide +kernel
theorem dX6_init_143 : decode mX6_init.2.1 143 = .ok (.aastore, 1) := by decide +kernel
theorem dX6_init_144 : decode mX6_init.2.1 144 = .ok (.iinc 1 1, 3) := by decide +kernel
theorem dX6_init_147 : decode mX6_init.2.1 147 = .ok (.goto (-25), 3) := by decide +kernel
theorem dX6_init_150 : decode mX6_init.2.1 150 = .ok (.return_, 1) := by decide +kernel
theorem dX6_copyFrom_0 : decode mX6_copyFrom.2.1 0 = .ok (.iconst 0, 1) := by decide +kernel
theorem dX6_copyFrom_1 : decode mX6_copyFrom.2.1 1 = .ok (.istore_n 2, 1) := by decide +kernel
theorem dX6_copyFrom_2 : decode mX6_copyFrom.2.1 2 = .ok (.iload_n 2, 1) := by decide +kernel
theorem dX6_copyFrom_3 : decode mX6_copyFrom.2.1 3 = .ok (.aload_n 0, 1) := by decide +kernel
theorem dX6_copyFrom_4 : decode mX6_copyFrom.2.1 4 = .ok (.getfield 11, 3) := by decide +kernel
theorem dX6_copyFrom_7 : decode mX6_copyFrom.2.1 7 = .ok (.arraylength, 1) := by decide +kernel
theorem dX6_copyFrom_8 : decode mX6_copyFrom.2.1 8 = .ok (.if_icmp .ge 33, 3) := by decide +kernel
theorem dX6_copyFrom_11 : decode mX6_copyFrom.2.1 11 = .ok (.iload_n 2, 1) := by decide +kernel
theorem dX6_copyFrom_12 : decode mX6_copyFrom.2.1 12 = .ok (.aload_n 1, 1) := by decide +kernel
theorem dX6_copyFrom_13 : decode mX6_copyFrom.2.1 13 = .ok (.getfield 11, 3) := by decide +kernel
theorem dX6_copyFrom_16 : decode mX6_copyFrom.2.1 16 = .ok (.arraylength, 1) := by decide +kernel
theorem dX6_copyFrom_17 : decode mX6_copyFrom.2.1 17 = .ok (.if_icmp .ge 24, 3) := by decide +kernel
theorem dX6_copyFrom_20 : decode mX6_copyFrom.2.1 20 = .ok (.aload_n 0, 1) := by decide +kernel
theorem dX6_copyFrom_21 : decode mX6_copyFrom.2.1 21 = .ok (.getfield 11, 3) := by decide +kernel
theorem dX6_copyFrom_24 : decode mX6_copyFrom.2.1 24 = .ok (.iload_n 2, 1) := by decide +kernel
theorem dX6_copyFrom_25 : decode mX6_copyFrom.2.1 25 = .ok (.aaload, 1) := by decide +kernel
theorem dX6_copyFrom_26 : decode mX6_copyFrom.2.1 26 = .ok (.aload_n 1, 1) := by decide +kernel
theorem dX6_copyFrom_27 : decode mX6_copyFrom.2.1 27 = .ok (.getfield 11, 3) := by decide +kernel
theorem dX6_copyFrom_30 : decode mX6_copyFrom.2.1 30 = .ok (.iload_n 2, 1) := by decide +kernel
theorem dX6_copyFrom_31 : decode mX6_copyFrom.2.1 31 = .ok (.aaload, 1) := by decide +kernel
theorem dX6_copyFrom_32 : decode mX6_copyFrom.2.1 32 = .ok (.invokevirtual 51, 3) := by decide +kernel
theorem dX6_copyFrom_35 : decode mX6_copyFrom.2.1 35 = .ok (.iinc 2 1, 3) := by decide +kernel
theorem dX6_copyFrom_38 : decode mX6_copyFrom.2.1 38 = .ok (.goto (-36), 3) := by decide +kernel
theorem dX6_copyFrom_41 : decode mX6_copyFrom.2.1 41 = .ok (.iconst 0, 1) := by decide +kernel
theorem dX6_copyFrom_42 : decode mX6_copyFrom.2.1 42 = .ok (.istore_n 2, 1) := by decide +kernel
theorem dX6_copyFrom_43 : decode mX6_copyFrom.2.1 43 = .ok (.iload_n 2, 1) := by decide +kernel
theorem dX6_copyFrom_44 : decode mX6_copyFrom.2.1 44 = .ok (.aload_n 0, 1) := by decide +kernel
theorem dX6_copyFrom_45 : decode mX6_copyFrom.2.1 45 = .ok (.getfield 19, 3) := by decide +kernel
theorem dX6_copyFrom_48 : decode mX6_copyFrom.2.1 48 = .ok (.arraylength, 1) := by decide +kernel
theorem dX6_copyFrom_49 : decode mX6_copyFrom.2.1 49 = .ok (.if_icmp .ge 33, 3) := by decide +kernel
theorem dX6_copyFrom_52 : decode mX6_copyFrom.2.1 52 = .ok (.iload_n 2, 1) := by decide +kernel
theorem dX6_copyFrom_53 : decode mX6_copyFrom.2.1 53 = .ok (.aload_n 1, 1) := by decide +kernel
theorem dX6_copyFrom_54 : decode mX6_copyFrom.2.1 54 = .ok (.getfield 19, 3) := by decide +kernel
theorem dX6_copyFrom_57 : decode mX6_copyFrom.2.1 57 = .ok (.arraylength, 1) := by decide +kernel
theorem dX6_copyFrom_58 : decode mX6_copyFrom.2.1 58 = .ok (.if_icmp .ge 24, 3) := by decide +kernel
theorem dX6_copyFrom_61 : decode mX6_copyFrom.2.1 61 = .ok (.aload_n 0, 1) := by decide +kernel
theorem dX6_copyFrom_62 : decode mX6_copyFrom.2.1 62 = .ok (.getfield 19, 3) := by decide +kernel
theorem dX6_copyFrom_65 : decode mX6_copyFrom.2.1 65 = .ok (.iload_n 2, 1) := by decide +kernel
theorem dX6_copyFrom_66 : decode mX6_copyFrom.2.1 66 = .ok (.aaload, 1) := by decide +kernel
theorem dX6_copyFrom_67 : decode mX6_copyFrom.2.1 67 = .ok (.aload_n 1, 1) := by decide +kernel
theorem dX6_copyFrom_68 : decode mX6_copyFrom.2.1 68 = .ok (.getfield 19, 3) := by decide +kernel
theorem dX6_copyFrom_71 : decode mX6_copyFrom.2.1 71 = .ok (.iload_n 2, 1) := by decide +kernel
theorem dX6_copyFrom_72 : decode mX6_copyFrom.2.1 72 = .ok (.aaload, 1) := by decide +kernel
theorem dX6_copyFrom_73 : decode mX6_copyFrom.2.1 73 = .ok (.invokevirtual 55, 3) := by decide +kernel
theorem dX6_copyFrom_76 : decode mX6_copyFrom.2.1 76 = .ok (.iinc 2 1, 3) := by decide +kernel
theorem dX6_copyFrom_79 : decode mX6_copyFrom.2.1 79 = .ok (.goto (-36), 3) := by decide +kernel
theorem dX6_copyFrom_82 : decode mX6_copyFrom.2.1 82 = .ok (.iconst 0, 1) := by decide +kernel
theorem dX6_copyFrom_83 : decode mX6_copyFrom.2.1 83 = .ok (.istore_n 2, 1) := by decide +kernel
theorem dX6_copyFrom_84 : decode mX6_copyFrom.2.1 84 = .ok (.iload_n 2, 1) := by decide +kernel
theorem dX6_copyFrom_85 : decode mX6_copyFrom.2.1 85 = .ok (.aload_n 0, 1) := by decide +kernel
theorem dX6_copyFrom_86 : decode mX6_copyFrom.2.1 86 = .ok (.getfield 25, 3) := by decide +kernel
theorem dX6_copyFrom_89 : decode mX6_copyFrom.2.1 89 = .ok (.arraylength, 1) := by decide +kernel
theorem dX6_copyFrom_90 : decode mX6_copyFrom.2.1 90 = .ok (.if_icmp .ge 33, 3) := by decide +kernel
theorem dX6_copyFrom_93 : decode mX6_copyFrom.2.1 93 = .ok (.iload_n 2, 1) := by decide +kernel
theorem dX6_copyFrom_94 : decode mX6_copyFrom.2.1 94 = .ok (.aload_n 1, 1) := by decide +kernel
theorem dX6_copyFrom_95 : decode mX6_copyFrom.2.1 95 = .ok (.getfield 25, 3) := by decide +kernel
theorem dX6_copyFrom_98 : decode mX6_copyFrom.2.1 98 = .ok (.arraylength, 1) := by decide +kernel
theorem dX6_copyFrom_99 : decode mX6_copyFrom.2.1 99 = .ok (.if_icmp .ge 24, 3) := by decide +kernel
theorem dX6_copyFrom_102 : decode mX6_copyFrom.2.1 102 = .ok (.aload_n 0, 1) := by decide +kernel
theorem dX6_copyFrom_103 : decode mX6_copyFrom.2.1 103 = .ok (.getfield 25, 3) := by decide +kernel
theorem dX6_copyFrom_106 : decode mX6_copyFrom.2.1 106 = .ok (.iload_n 2, 1) := by decide +kernel
theorem dX6_copyFrom_107 : decode mX6_copyFrom.2.1 107 = .ok (.aaload, 1) := by decide +kernel
theorem dX6_copyFrom_108 : decode mX6_copyFrom.2.1 108 = .ok (.aload_n 1, 1) := by decide +kernel
theorem dX6_copyFrom_109 : decode mX6_copyFrom.2.1 109 = .ok (.getfield 25, 3) := by decide +kernel
theorem dX6_copyFrom_112 : decode mX6_copyFrom.2.1 112 = .ok (.iload_n 2, 1) := by decide +kernel
theorem dX6_copyFrom_113 : decode mX6_copyFrom.2.1 113 = .ok (.aaload, 1) := by decide +kernel
theorem dX6_copyFrom_114 : decode mX6_copyFrom.2.1 114 = .ok (.invokevirtual 58, 3) := by decide +kernel
theorem dX6_copyFrom_117 : decode mX6_copyFrom.2.1 117 = .ok (.iinc 2 1, 3) := by decide +kernel
theorem dX6_copyFrom_120 : decode mX6_copyFrom.2.1 120 = .ok (.goto (-36), 3) := by decide +kernel
theorem dX6_copyFrom_123 : decode mX6_copyFrom.2.1 123 = .ok (.aload_n 0, 1) := by decide +kernel
theorem dX6_copyFrom_124 : decode mX6_copyFrom.2.1 124 = .ok (.aload_n 1, 1) := by decide +kernel
theorem dX6_copyFrom_125 : decode mX6_copyFrom.2.1 125 = .ok (.getfield 29, 3) := by decide +kernel
theorem dX6_copyFrom_128 : decode mX6_copyFrom.2.1 128 = .ok (.putfield 29, 3) := by decide +kernel
theorem dX6_copyFrom_131 : decode mX6_copyFrom.2.1 131 = .ok (.aload_n 0, 1) := by decide +kernel
theorem dX6_copyFrom_132 : decode mX6_copyFrom.2.1 132 = .ok (.aload_n 1, 1) := by decide +kernel
theorem dX6_copyFrom_133 : decode mX6_copyFrom.2.1 133 = .ok (.getfield 33, 3) := by decide +kernel
theorem dX6_copyFrom_136 : decode mX6_copyFrom.2.1 136 = .ok (.putfield 33, 3) := by decide +kernel
theorem dX6_copyFrom_139 : decode mX6_copyFrom.2.1 139 = .ok (.aload_n 0, 1) := by decide +kernel
theorem dX6_copyFrom_140 : decode mX6_copyFrom.2.1 140 = .ok (.aload_n 1, 1) := by decide +kernel
theorem dX6_copyFrom_141 : decode mX6_copyFrom.2.1 141 = .ok (.getfield 36, 3) := by decide +kernel
theorem dX6_copyFrom_144 : decode mX6_copyFrom.2.1 144 = .ok (.putfield 36, 3) := by decide +kernel
theorem dX6_copyFrom_147 : decode mX6_copyFrom.2.1 147 = .ok (.aload_n 0, 1) := by decide +kernel
theorem dX6_copyFrom_148 : decode mX6_copyFrom.2.1 148 = .ok (.aload_n 1, 1) := by decide +kernel
theorem dX6_copyFrom_149 : decode mX6_copyFrom.2.1 149 = .ok (.getfield 39, 3) := by decide +kernel
theorem dX6_copyFrom_152 : decode mX6_copyFrom.2.1 152 = .ok (.putfield 39, 3) := by decide +kernel
theorem dX6_copyFrom_155 : decode mX6_copyFrom.2.1 155 = .ok (.aload_n 0, 1) := by decide +kernel
theorem dX6_copyFrom_156 : decode mX6_copyFrom.2.1 156 = .ok (.aload_n 1, 1) := by decide +kernel
theorem dX6_copyFrom_157 : decode mX6_copyFrom.2.1 157 = .ok (.getfield 42, 3) := by decide +kernel
theorem dX6_copyFrom_160 : decode mX6_copyFrom.2.1 160 = .ok (.putfield 42, 3) := by decide +kernel
theorem dX6_copyFrom_163 : decode mX6_copyFrom.2.1 163 = .ok (.aload_n 0, 1) := by decide +kernel
theorem dX6_copyFrom_164 : decode mX6_copyFrom.2.1 164 = .ok (.aload_n 1, 1) := by decide +kernel
theorem dX6_copyFrom_165 : decode mX6_copyFrom.2.1 165 = .ok (.getfield 45, 3) := by decide +kernel
theorem dX6_copyFrom_168 : decode mX6_copyFrom.2.1 168 = .ok (.putfield 45, 3) := by decide +kernel
theorem dX6_copyFrom_171 : decode mX6_copyFrom.2.1 171 = .ok (.return_, 1) := by decide +kernel
theorem dX6_jarRow_0 : decode mX6_jarRow.2.1 0 = .ok (.iload_n 1, 1) := by decide +kernel
theorem dX6_jarRow_1 : decode mX6_jarRow.2.1 1 = .ok (.bipush 97, 2) := by decide +kernel
theorem dX6_jarRow_3 : decode mX6_jarRow.2.1 3 = .ok (.isub, 1) := by decide +kernel
theorem dX6_jarRow_4 : decode mX6_jarRow.2.1 4 = .ok (.istore_n 2, 1) := by decide +kernel
theorem dX6_jarRow_5 : decode mX6_jarRow.2.1 5 = .ok (.iload_n 2, 1) := by decide +kernel
theorem dX6_jarRow_6 : decode mX6_jarRow.2.1 6 = .ok (.ifCond .lt 12, 3) := by decide +kernel
theorem dX6_jarRow_9 : decode mX6_jarRow.2.1 9 = .ok (.iload_n 2, 1) := by decide +kernel
theorem dX6_jarRow_10 : decode mX6_jarRow.2.1 10 = .ok (.aload_n 0, 1) := by decide +kernel
theorem dX6_jarRow_11 : decode mX6_jarRow.2.1 11 = .ok (.getfield 11, 3) := by decide +kernel
theorem dX6_jarRow_14 : decode mX6_jarRow.2.1 14 = .ok (.arraylength, 1) := by decide +kernel
theorem dX6_jarRow_15 : decode mX6_jarRow.2.1 15 = .ok (.if_icmp .lt 7, 3) := by decide +kernel
theorem dX6_jarRow_18 : decode mX6_jarRow.2.1 18 = .ok (.aconst_null, 1) := by decide +kernel
theorem dX6_jarRow_19 : decode mX6_jarRow.2.1 19 = .ok (.goto 9, 3) := by decide +kernel
theorem dX6_jarRow_22 : decode mX6_jarRow.2.1 22 = .ok (.aload_n 0, 1) := by decide +kernel
theorem dX6_jarRow_23 : decode mX6_jarRow.2.1 23 = .ok (.getfield 11, 3) := by decide +kernel
theorem dX6_jarRow_26 : decode mX6_jarRow.2.1 26 = .ok (.iload_n 2, 1) := by decide +kernel
theorem dX6_jarRow_27 : decode mX6_jarRow.2.1 27 = .ok (.aaload, 1) := by decide +kernel
theorem dX6_jarRow_28 : decode mX6_jarRow.2.1 28 = .ok (.areturn, 1) := by decide +kernel
theorem dX6_findJar_0 : decode mX6_findJar.2.1 0 = .ok (.aload_n 0, 1) := by decide +kernel
theorem dX6_findJar_1 : decode mX6_findJar.2.1 1 = .ok (.iload_n 1, 1) := by decide +kernel
theorem dX6_findJar_2 : decode mX6_findJar.2.1 2 = .ok (.invokevirtual 61, 3) := by decide +kernel
theorem dX6_findJar_5 : decode mX6_findJar.2.1 5 = .ok (.astore_n 2, 1) := by decide +kernel
theorem dX6_findJar_6 : decode mX6_findJar.2.1 6 = .ok (.aload_n 2, 1) := by decide +kernel
theorem dX6_findJar_7 : decode mX6_findJar.2.1 7 = .ok (.ifnull 14, 3) := by decide +kernel
theorem dX6_findJar_10 : decode mX6_findJar.2.1 10 = .ok (.aload_n 2, 1) := by decide +kernel
theorem dX6_findJar_11 : decode mX6_findJar.2.1 11 = .ok (.getfield 65, 3) := by decide +kernel
theorem dX6_findJar_14 : decode mX6_findJar.2.1 14 = .ok (.ifCond .eq 7, 3) := by decide +kernel
theorem dX6_findJar_17 : decode mX6_findJar.2.1 17 = .ok (.aload_n 2, 1) := by decide +kernel
theorem dX6_findJar_18 : decode mX6_findJar.2.1 18 = .ok (.goto 4, 3) := by decide +kernel
theorem dX6_findJar_21 : decode mX6_findJar.2.1 21 = .ok (.aconst_null, 1) := by decide +kernel
theorem dX6_findJar_22 : decode mX6_findJar.2.1 22 = .ok (.areturn, 1) := by decide +kernel
theorem dX6_findShelf_0 : decode mX6_findShelf.2.1 0 = .ok (.iload_n 1, 1) := by decide +kernel
theorem dX6_findShelf_1 : decode mX6_findShelf.2.1 1 = .ok (.ifCond .lt 12, 3) := by decide +kernel
theorem dX6_findShelf_4 : decode mX6_findShelf.2.1 4 = .ok (.iload_n 1, 1) := by decide +kernel
theorem dX6_findShelf_5 : decode mX6_findShelf.2.1 5 = .ok (.aload_n 0, 1) := by decide +kernel
theorem dX6_findShelf_6 : decode mX6_findShelf.2.1 6 = .ok (.getfield 19, 3) := by decide +kernel
theorem dX6_findShelf_9 : decode mX6_findShelf.2.1 9 = .ok (.arraylength, 1) := by decide +kernel
theorem dX6_findShelf_10 : decode mX6_findShelf.2.1 10 = .ok (.if_icmp .lt 5, 3) := by decide +kernel
theorem dX6_findShelf_13 : decode mX6_findShelf.2.1 13 = .ok (.aconst_null, 1) := by decide +kernel
theorem dX6_findShelf_14 : decode mX6_findShelf.2.1 14 = .ok (.areturn, 1) := by decide +kernel
theorem dX6_findShelf_15 : decode mX6_findShelf.2.1 15 = .ok (.aload_n 0, 1) := by decide +kernel
theorem dX6_findShelf_16 : decode mX6_findShelf.2.1 16 = .ok (.getfield 19, 3) := by decide +kernel
theorem dX6_findShelf_19 : decode mX6_findShelf.2.1 19 = .ok (.iload_n 1, 1) := by decide +kernel
theorem dX6_findShelf_20 : decode mX6_findShelf.2.1 20 = .ok (.aaload, 1) := by decide +kernel
theorem dX6_findShelf_21 : decode mX6_findShelf.2.1 21 = .ok (.astore_n 2, 1) := by decide +kernel
theorem dX6_findShelf_22 : decode mX6_findShelf.2.1 22 = .ok (.aload_n 2, 1) := by decide +kernel
theorem dX6_findShelf_23 : decode mX6_findShelf.2.1 23 = .ok (.getfield 69, 3) := by decide +kernel
theorem dX6_findShelf_26 : decode mX6_findShelf.2.1 26 = .ok (.ifCond .eq 7, 3) := by decide +kernel
theorem dX6_findShelf_29 : decode mX6_findShelf.2.1 29 = .ok (.aload_n 2, 1) := by decide +kernel
theorem dX6_findShelf_30 : decode mX6_findShelf.2.1 30 = .ok (.goto 4, 3) := by decide +kernel
theorem dX6_findShelf_33 : decode mX6_findShelf.2.1 33 = .ok (.aconst_null, 1) := by decide +kernel
theorem dX6_findShelf_34 : decode mX6_findShelf.2.1 34 = .ok (.areturn, 1) := by decide +kernel
theorem dX6_findWarming_0 : decode mX6_findWarming.2.1 0 = .ok (.iload_n 1, 1) := by decide +kernel
theorem dX6_findWarming_1 : decode mX6_findWarming.2.1 1 = .ok (.ifCond .lt 12, 3) := by decide +kernel
theorem dX6_findWarming_4 : decode mX6_findWarming.2.1 4 = .ok (.iload_n 1, 1) := by decide +kernel
theorem dX6_findWarming_5 : decode mX6_findWarming.2.1 5 = .ok (.aload_n 0, 1) := by decide +kernel
theorem dX6_findWarming_6 : decode mX6_findWarming.2.1 6 = .ok (.getfield 25, 3) := by decide +kernel
theorem dX6_findWarming_9 : decode mX6_findWarming.2.1 9 = .ok (.arraylength, 1) := by decide +kernel
theorem dX6_findWarming_10 : decode mX6_findWarming.2.1 10 = .ok (.if_icmp .lt 5, 3) := by decide +kernel
theorem dX6_findWarming_13 : decode mX6_findWarming.2.1 13 = .ok (.aconst_null, 1) := by decide +kernel
theorem dX6_findWarming_14 : decode mX6_findWarming.2.1 14 = .ok (.areturn, 1) := by decide +kernel
theorem dX6_findWarming_15 : decode mX6_findWarming.2.1 15 = .ok (.aload_n 0, 1) := by decide +kernel
theorem dX6_findWarming_16 : decode mX6_findWarming.2.1 16 = .ok (.getfield 25, 3) := by decide +kernel
theorem dX6_findWarming_19 : decode mX6_findWarming.2.1 19 = .ok (.iload_n 1, 1) := by decide +kernel
theorem dX6_findWarming_20 : decode mX6_findWarming.2.1 20 = .ok (.aaload, 1) := by decide +kernel
theorem dX6_findWarming_21 : decode mX6_findWarming.2.1 21 = .ok (.astore_n 2, 1) := by decide +kernel
theorem dX6_findWarming_22 : decode mX6_findWarming.2.1 22 = .ok (.aload_n 2, 1) := by decide +kernel
theorem dX6_findWarming_23 : decode mX6_findWarming.2.1 23 = .ok (.getfield 70, 3) := by decide +kernel
theorem dX6_findWarming_26 : decode mX6_findWarming.2.1 26 = .ok (.ifCond .eq 7, 3) := by decide +kernel
theorem dX6_findWarming_29 : decode mX6_findWarming.2.1 29 = .ok (.aload_n 2, 1) := by decide +kernel
theorem dX6_findWarming_30 : decode mX6_findWarming.2.1 30 = .ok (.goto 4, 3) := by decide +kernel
theorem dX6_findWarming_33 : decode mX6_findWarming.2.1 33 = .ok (.aconst_null, 1) := by decide +kernel
theorem dX6_findWarming_34 : decode mX6_findWarming.2.1 34 = .ok (.areturn, 1) := by decide +kernel
theorem dX6_newJarFault_0 : decode mX6_newJarFault.2.1 0 = .ok (.iload_n 1, 1) := by decide +kernel
theorem dX6_newJarFault_1 : decode mX6_newJarFault.2.1 1 = .ok (.bipush 97, 2) := by decide +kernel
theorem dX6_newJarFault_3 : decode mX6_newJarFault.2.1 3 = .ok (.if_icmp .lt 19, 3) := by decide +kernel
theorem dX6_newJarFault_6 : decode mX6_newJarFault.2.1 6 = .ok (.iload_n 1, 1) := by decide +kernel
theorem dX6_newJarFault_7 : decode mX6_newJarFault.2.1 7 = .ok (.bipush 122, 2) := by decide +kernel
theorem dX6_newJarFault_9 : decode mX6_newJarFault.2.1 9 = .ok (.if_icmp .gt 13, 3) := by decide +kernel
theorem dX6_newJarFault_12 : decode mX6_newJarFault.2.1 12 = .ok (.iload_n 2, 1) := by decide +kernel
theorem dX6_newJarFault_13 : decode mX6_newJarFault.2.1 13 = .ok (.ifCond .lt 9, 3) := by decide +kernel
theorem dX6_newJarFault_16 : decode mX6_newJarFault.2.1 16 = .ok (.iload_n 2, 1) := by decide +kernel
theorem dX6_newJarFault_17 : decode mX6_newJarFault.2.1 17 = .ok (.bipush 99, 2) := by decide +kernel
theorem dX6_newJarFault_19 : decode mX6_newJarFault.2.1 19 = .ok (.if_icmp .le 5, 3) := by decide +kernel
theorem dX6_newJarFault_22 : decode mX6_newJarFault.2.1 22 = .ok (.iconst 3, 1) := by decide +kernel
theorem dX6_newJarFault_23 : decode mX6_newJarFault.2.1 23 = .ok (.ireturn, 1) := by decide +kernel
theorem dX6_newJarFault_24 : decode mX6_newJarFault.2.1 24 = .ok (.aload_n 0, 1) := by decide +kernel
theorem dX6_newJarFault_25 : decode mX6_newJarFault.2.1 25 = .ok (.invokevirtual 71, 3) := by decide +kernel
theorem dX6_newJarFault_28 : decode mX6_newJarFault.2.1 28 = .ok (.bipush 12, 2) := by decide +kernel
theorem dX6_newJarFault_30 : decode mX6_newJarFault.2.1 30 = .ok (.if_icmp .ge 11, 3) := by decide +kernel
theorem dX6_newJarFault_33 : decode mX6_newJarFault.2.1 33 = .ok (.aload_n 0, 1) := by decide +kernel
theorem dX6_newJarFault_34 : decode mX6_newJarFault.2.1 34 = .ok (.iload_n 1, 1) := by decide +kernel
theorem dX6_newJarFault_35 : decode mX6_newJarFault.2.1 35 = .ok (.invokevirtual 75, 3) := by decide +kernel
theorem dX6_newJarFault_38 : decode mX6_newJarFault.2.1 38 = .ok (.ifnull 7, 3) := by decide +kernel
theorem dX6_newJarFault_41 : decode mX6_newJarFault.2.1 41 = .ok (.iconst 4, 1) := by decide +kernel
theorem dX6_newJarFault_42 : decode mX6_newJarFault.2.1 42 = .ok (.goto 4, 3) := by decide +kernel
theorem dX6_newJarFault_45 : decode mX6_newJarFault.2.1 45 = .ok (.iconst 0, 1) := by decide +kernel
theorem dX6_newJarFault_46 : decode mX6_newJarFault.2.1 46 = .ok (.ireturn, 1) := by decide +kernel
theorem dX6_jarFault_0 : decode mX6_jarFault.2.1 0 = .ok (.aload_n 0, 1) := by decide +kernel
theorem dX6_jarFault_1 : decode mX6_jarFault.2.1 1 = .ok (.iload_n 1, 1) := by decide +kernel
theorem dX6_jarFault_2 : decode mX6_jarFault.2.1 2 = .ok (.invokevirtual 75, 3) := by decide +kernel
theorem dX6_jarFault_5 : decode mX6_jarFault.2.1 5 = .ok (.ifnonnull 7, 3) := by decide +kernel
theorem dX6_jarFault_8 : decode mX6_jarFault.2.1 8 = .ok (.iconst 2, 1) := by decide +kernel
theorem dX6_jarFault_9 : decode mX6_jarFault.2.1 9 = .ok (.goto 4, 3) := by decide +kernel
theorem dX6_jarFault_12 : decode mX6_jarFault.2.1 12 = .ok (.iconst 0, 1) := by decide +kernel
theorem dX6_jarFault_13 : decode mX6_jarFault.2.1 13 = .ok (.ireturn, 1) := by decide +kernel
theorem dX6_wordFault_0 : decode mX6_wordFault.2.1 0 = .ok (.aload_n 0, 1) := by decide +kernel
theorem dX6_wordFault_1 : decode mX6_wordFault.2.1 1 = .ok (.iload_n 1, 1) := by decide +kernel
theorem dX6_wordFault_2 : decode mX6_wordFault.2.1 2 = .ok (.invokevirtual 75, 3) := by decide +kernel
theorem dX6_wordFault_5 : decode mX6_wordFault.2.1 5 = .ok (.ifnonnull 5, 3) := by decide +kernel
theorem dX6_wordFault_8 : decode mX6_wordFault.2.1 8 = .ok (.iconst 2, 1) := by decide +kernel
theorem dX6_wordFault_9 : decode mX6_wordFault.2.1 9 = .ok (.ireturn, 1) := by decide +kernel
theorem dX6_wordFault_10 : decode mX6_wordFault.2.1 10 = .ok (.iload_n 2, 1) := by decide +kernel
theorem dX6_wordFault_11 : decode mX6_wordFault.2.1 11 = .ok (.ifCond .lt 9, 3) := by decide +kernel
theorem dX6_wordFault_14 : decode mX6_wordFault.2.1 14 = .ok (.iload_n 2, 1) := by decide +kernel
theorem dX6_wordFault_15 : decode mX6_wordFault.2.1 15 = .ok (.bipush 99, 2) := by decide +kernel
theorem dX6_wordFault_17 : decode mX6_wordFault.2.1 17 = .ok (.if_icmp .le 7, 3) := by decide +kernel
theorem dX6_wordFault_20 : decode mX6_wordFault.2.1 20 = .ok (.iconst 3, 1) := by decide +kernel
theorem dX6_wordFault_21 : decode mX6_wordFault.2.1 21 = .ok (.goto 4, 3) := by decide +kernel
theorem dX6_wordFault_24 : decode mX6_wordFault.2.1 24 = .ok (.iconst 0, 1) := by decide +kernel
theorem dX6_wordFault_25 : decode mX6_wordFault.2.1 25 = .ok (.ireturn, 1) := by decide +kernel
theorem dX6_newShelfFault_0 : decode mX6_newShelfFault.2.1 0 = .ok (.iload_n 1, 1) := by decide +kernel
theorem dX6_newShelfFault_1 : decode mX6_newShelfFault.2.1 1 = .ok (.iconst 1, 1) := by decide +kernel
theorem dX6_newShelfFault_2 : decode mX6_newShelfFault.2.1 2 = .ok (.if_icmp .lt 20, 3) := by decide +kernel
theorem dX6_newShelfFault_5 : decode mX6_newShelfFault.2.1 5 = .ok (.iload_n 1, 1) := by decide +kernel
theorem dX6_newShelfFault_6 : decode mX6_newShelfFault.2.1 6 = .ok (.bipush 6, 2) := by decide +kernel
theorem dX6_newShelfFault_8 : decode mX6_newShelfFault.2.1 8 = .ok (.if_icmp .gt 14, 3) := by decide +kernel
theorem dX6_newShelfFault_11 : decode mX6_newShelfFault.2.1 11 = .ok (.iload_n 2, 1) := by decide +kernel
theorem dX6_newShelfFault_12 : decode mX6_newShelfFault.2.1 12 = .ok (.iconst 1, 1) := by decide +kernel
theorem dX6_newShelfFault_13 : decode mX6_newShelfFault.2.1 13 = .ok (.if_icmp .lt 9, 3) := by decide +kernel
theorem dX6_newShelfFault_16 : decode mX6_newShelfFault.2.1 16 = .ok (.iload_n 2, 1) := by decide +kernel
theorem dX6_newShelfFault_17 : decode mX6_newShelfFault.2.1 17 = .ok (.bipush 30, 2) := by decide +kernel
theorem dX6_newShelfFault_19 : decode mX6_newShelfFault.2.1 19 = .ok (.if_icmp .le 5, 3) := by decide +kernel
theorem dX6_newShelfFault_22 : decode mX6_newShelfFault.2.1 22 = .ok (.iconst 3, 1) := by decide +kernel
theorem dX6_newShelfFault_23 : decode mX6_newShelfFault.2.1 23 = .ok (.ireturn, 1) := by decide +kernel
theorem dX6_newShelfFault_24 : decode mX6_newShelfFault.2.1 24 = .ok (.iload_n 3, 1) := by decide +kernel
theorem dX6_newShelfFault_25 : decode mX6_newShelfFault.2.1 25 = .ok (.bipush 114, 2) := by decide +kernel
theorem dX6_newShelfFault_27 : decode mX6_newShelfFault.2.1 27 = .ok (.if_icmp .eq 17, 3) := by decide +kernel
theorem dX6_newShelfFault_30 : decode mX6_newShelfFault.2.1 30 = .ok (.iload_n 3, 1) := by decide +kernel
theorem dX6_newShelfFault_31 : decode mX6_newShelfFault.2.1 31 = .ok (.bipush 111, 2) := by decide +kernel
theorem dX6_newShelfFault_33 : decode mX6_newShelfFault.2.1 33 = .ok (.if_icmp .eq 11, 3) := by decide +kernel
theorem dX6_newShelfFault_36 : decode mX6_newShelfFault.2.1 36 = .ok (.iload_n 3, 1) := by decide +kernel
theorem dX6_newShelfFault_37 : decode mX6_newShelfFault.2.1 37 = .ok (.bipush 108, 2) := by decide +kernel
theorem dX6_newShelfFault_39 : decode mX6_newShelfFault.2.1 39 = .ok (.if_icmp .eq 5, 3) := by decide +kernel
theorem dX6_newShelfFault_42 : decode mX6_newShelfFault.2.1 42 = .ok (.iconst 3, 1) := by decide +kernel
theorem dX6_newShelfFault_43 : decode mX6_newShelfFault.2.1 43 = .ok (.ireturn, 1) := by decide +kernel
theorem dX6_newShelfFault_44 : decode mX6_newShelfFault.2.1 44 = .ok (.aload_n 0, 1) := by decide +kernel
theorem dX6_newShelfFault_45 : decode mX6_newShelfFault.2.1 45 = .ok (.invokevirtual 78, 3) := by decide +kernel
theorem dX6_newShelfFault_48 : decode mX6_newShelfFault.2.1 48 = .ok (.iconst 4, 1) := by decide +kernel
theorem dX6_newShelfFault_49 : decode mX6_newShelfFault.2.1 49 = .ok (.if_icmp .lt 7, 3) := by decide +kernel
theorem dX6_newShelfFault_52 : decode mX6_newShelfFault.2.1 52 = .ok (.iconst 4, 1) := by decide +kernel
theorem dX6_newShelfFault_53 : decode mX6_newShelfFault.2.1 53 = .ok (.goto 4, 3) := by decide +kernel
theorem dX6_newShelfFault_56 : decode mX6_newShelfFault.2.1 56 = .ok (.iconst 0, 1) := by decide +kernel
theorem dX6_newShelfFault_57 : decode mX6_newShelfFault.2.1 57 = .ok (.ireturn, 1) := by decide +kernel
theorem dX6_shelfFault_0 : decode mX6_shelfFault.2.1 0 = .ok (.aload_n 0, 1) := by decide +kernel
theorem dX6_shelfFault_1 : decode mX6_shelfFault.2.1 1 = .ok (.iload_n 1, 1) := by decide +kernel
theorem dX6_shelfFault_2 : decode mX6_shelfFault.2.1 2 = .ok (.invokevirtual 81, 3) := by decide +kernel
theorem dX6_shelfFault_5 : decode mX6_shelfFault.2.1 5 = .ok (.ifnonnull 7, 3) := by decide +kernel
theorem dX6_shelfFault_8 : decode mX6_shelfFault.2.1 8 = .ok (.iconst 1, 1) := by decide +kernel
theorem dX6_shelfFault_9 : decode mX6_shelfFault.2.1 9 = .ok (.goto 4, 3) := by decide +kernel
theorem dX6_shelfFault_12 : decode mX6_shelfFault.2.1 12 = .ok (.iconst 0, 1) := by decide +kernel
theorem dX6_shelfFault_13 : decode mX6_shelfFault.2.1 13 = .ok (.ireturn, 1) := by decide +kernel
theorem dX6_hearFault_0 : decode mX6_hearFault.2.1 0 = .ok (.aload_n 0, 1) := by decide +kernel
theorem dX6_hearFault_1 : decode mX6_hearFault.2.1 1 = .ok (.iload_n 1, 1) := by decide +kernel
theorem dX6_hearFault_2 : decode mX6_hearFault.2.1 2 = .ok (.invokevirtual 81, 3) := by decide +kernel
theorem dX6_hearFault_5 : decode mX6_hearFault.2.1 5 = .ok (.ifnonnull 7, 3) := by decide +kernel
theorem dX6_hearFault_8 : decode mX6_hearFault.2.1 8 = .ok (.iconst 1, 1) := by decide +kernel
theorem dX6_hearFault_9 : decode mX6_hearFault.2.1 9 = .ok (.goto 8, 3) := by decide +kernel
theorem dX6_hearFault_12 : decode mX6_hearFault.2.1 12 = .ok (.aload_n 0, 1) := by decide +kernel
theorem dX6_hearFault_13 : decode mX6_hearFault.2.1 13 = .ok (.iload_n 2, 1) := by decide +kernel
theorem dX6_hearFault_14 : decode mX6_hearFault.2.1 14 = .ok (.invokevirtual 85, 3) := by decide +kernel
theorem dX6_hearFault_17 : decode mX6_hearFault.2.1 17 = .ok (.ireturn, 1) := by decide +kernel
theorem dX6_warmFault_0 : decode mX6_warmFault.2.1 0 = .ok (.aload_n 0, 1) := by decide +kernel
theorem dX6_warmFault_1 : decode mX6_warmFault.2.1 1 = .ok (.iload_n 1, 1) := by decide +kernel
theorem dX6_warmFault_2 : decode mX6_warmFault.2.1 2 = .ok (.iload_n 2, 1) := by decide +kernel
theorem dX6_warmFault_3 : decode mX6_warmFault.2.1 3 = .ok (.invokevirtual 89, 3) := by decide +kernel
theorem dX6_warmFault_6 : decode mX6_warmFault.2.1 6 = .ok (.istore 4, 2) := by decide +kernel
theorem dX6_warmFault_8 : decode mX6_warmFault.2.1 8 = .ok (.iload 4, 2) := by decide +kernel
theorem dX6_warmFault_10 : decode mX6_warmFault.2.1 10 = .ok (.ifCond .eq 6, 3) := by decide +kernel
theorem dX6_warmFault_13 : decode mX6_warmFault.2.1 13 = .ok (.iload 4, 2) := by decide +kernel
theorem dX6_warmFault_15 : decode mX6_warmFault.2.1 15 = .ok (.ireturn, 1) := by decide +kernel
theorem dX6_warmFault_16 : decode mX6_warmFault.2.1 16 = .ok (.iload_n 3, 1) := by decide +kernel
theorem dX6_warmFault_17 : decode mX6_warmFault.2.1 17 = .ok (.iconst 1, 1) := by decide +kernel
theorem dX6_warmFault_18 : decode mX6_warmFault.2.1 18 = .ok (.if_icmp .lt 9, 3) := by decide +kernel
theorem dX6_warmFault_21 : decode mX6_warmFault.2.1 21 = .ok (.iload_n 3, 1) := by decide +kernel
theorem dX6_warmFault_22 : decode mX6_warmFault.2.1 22 = .ok (.bipush 50, 2) := by decide +kernel
theorem dX6_warmFault_24 : decode mX6_warmFault.2.1 24 = .ok (.if_icmp .le 5, 3) := by decide +kernel
theorem dX6_warmFault_27 : decode mX6_warmFault.2.1 27 = .ok (.iconst 3, 1) := by decide +kernel
theorem dX6_warmFault_28 : decode mX6_warmFault.2.1 28 = .ok (.ireturn, 1) := by decide +kernel
theorem dX6_warmFault_29 : decode mX6_warmFault.2.1 29 = .ok (.aload_n 0, 1) := by decide +kernel
theorem dX6_warmFault_30 : decode mX6_warmFault.2.1 30 = .ok (.invokevirtual 93, 3) := by decide +kernel
theorem dX6_warmFault_33 : decode mX6_warmFault.2.1 33 = .ok (.bipush 8, 2) := by decide +kernel
theorem dX6_warmFault_35 : decode mX6_warmFault.2.1 35 = .ok (.if_icmp .lt 7, 3) := by decide +kernel
theorem dX6_warmFault_38 : decode mX6_warmFault.2.1 38 = .ok (.iconst 4, 1) := by decide +kernel
theorem dX6_warmFault_39 : decode mX6_warmFault.2.1 39 = .ok (.goto 4, 3) := by decide +kernel
theorem dX6_warmFault_42 : decode mX6_warmFault.2.1 42 = .ok (.iconst 0, 1) := by decide +kernel
theorem dX6_warmFault_43 : decode mX6_warmFault.2.1 43 = .ok (.ireturn, 1) := by decide +kernel
theorem dX6_passFault_0 : decode mX6_passFault.2.1 0 = .ok (.iload_n 1, 1) := by decide +kernel
theorem dX6_passFault_1 : decode mX6_passFault.2.1 1 = .ok (.iconst 1, 1) := by decide +kernel
theorem dX6_passFault_2 : decode mX6_passFault.2.1 2 = .ok (.if_icmp .lt 9, 3) := by decide +kernel
theorem dX6_passFault_5 : decode mX6_passFault.2.1 5 = .ok (.iload_n 1, 1) := by decide +kernel
theorem dX6_passFault_6 : decode mX6_passFault.2.1 6 = .ok (.bipush 60, 2) := by decide +kernel
theorem dX6_passFault_8 : decode mX6_passFault.2.1 8 = .ok (.if_icmp .le 7, 3) := by decide +kernel
theorem dX6_passFault_11 : decode mX6_passFault.2.1 11 = .ok (.iconst 3, 1) := by decide +kernel
theorem dX6_passFault_12 : decode mX6_passFault.2.1 12 = .ok (.goto 4, 3) := by decide +kernel
theorem dX6_passFault_15 : decode mX6_passFault.2.1 15 = .ok (.iconst 0, 1) := by decide +kernel
theorem dX6_passFault_16 : decode mX6_passFault.2.1 16 = .ok (.ireturn, 1) := by decide +kernel
theorem dX6_countJars_0 : decode mX6_countJars.2.1 0 = .ok (.iconst 0, 1) := by decide +kernel
theorem dX6_countJars_1 : decode mX6_countJars.2.1 1 = .ok (.istore_n 1, 1) := by decide +kernel
theorem dX6_countJars_2 : decode mX6_countJars.2.1 2 = .ok (.aload_n 0, 1) := by decide +kernel
theorem dX6_countJars_3 : decode mX6_countJars.2.1 3 = .ok (.getfield 11, 3) := by decide +kernel
theorem dX6_countJars_6 : decode mX6_countJars.2.1 6 = .ok (.astore_n 2, 1) := by decide +kernel
theorem dX6_countJars_7 : decode mX6_countJars.2.1 7 = .ok (.aload_n 2, 1) := by decide +kernel
theorem dX6_countJars_8 : decode mX6_countJars.2.1 8 = .ok (.arraylength, 1) := by decide +kernel
theorem dX6_countJars_9 : decode mX6_countJars.2.1 9 = .ok (.istore_n 3, 1) := by decide +kernel
theorem dX6_countJars_10 : decode mX6_countJars.2.1 10 = .ok (.iconst 0, 1) := by decide +kernel
theorem dX6_countJars_11 : decode mX6_countJars.2.1 11 = .ok (.istore 4, 2) := by decide +kernel
theorem dX6_countJars_13 : decode mX6_countJars.2.1 13 = .ok (.iload 4, 2) := by decide +kernel
theorem dX6_countJars_15 : decode mX6_countJars.2.1 15 = .ok (.iload_n 3, 1) := by decide +kernel
theorem dX6_countJars_16 : decode mX6_countJars.2.1 16 = .ok (.if_icmp .ge 26, 3) := by decide +kernel
theorem dX6_countJars_19 : decode mX6_countJars.2.1 19 = .ok (.aload_n 2, 1) := by decide +kernel
theorem dX6_countJars_20 : decode mX6_countJars.2.1 20 = .ok (.iload 4, 2) := by decide +kernel
theorem dX6_countJars_22 : decode mX6_countJars.2.1 22 = .ok (.aaload, 1) := by decide +kernel
theorem dX6_countJars_23 : decode mX6_countJars.2.1 23 = .ok (.astore 5, 2) := by decide +kernel
theorem dX6_countJars_25 : decode mX6_countJars.2.1 25 = .ok (.aload 5, 2) := by decide +kernel
theorem dX6_countJars_27 : decode mX6_countJars.2.1 27 = .ok (.getfield 65, 3) := by decide +kernel
theorem dX6_countJars_30 : decode mX6_countJars.2.1 30 = .ok (.ifCond .eq 6, 3) := by decide +kernel
theorem dX6_countJars_33 : decode mX6_countJars.2.1 33 = .ok (.iinc 1 1, 3) := by decide +kernel
theorem dX6_countJars_36 : decode mX6_countJars.2.1 36 = .ok (.iinc 4 1, 3) := by decide +kernel
theorem dX6_countJars_39 : decode mX6_countJars.2.1 39 = .ok (.goto (-26), 3) := by decide +kernel
theorem dX6_countJars_42 : decode mX6_countJars.2.1 42 = .ok (.iload_n 1, 1) := by decide +kernel
theorem dX6_countJars_43 : decode mX6_countJars.2.1 43 = .ok (.ireturn, 1) := by decide +kernel
theorem dX6_jarLetter_0 : decode mX6_jarLetter.2.1 0 = .ok (.iconst 0, 1) := by decide +kernel
theorem dX6_jarLetter_1 : decode mX6_jarLetter.2.1 1 = .ok (.istore_n 2, 1) := by decide +kernel
theorem dX6_jarLetter_2 : decode mX6_jarLetter.2.1 2 = .ok (.bipush 97, 2) := by decide +kernel
theorem dX6_jarLetter_4 : decode mX6_jarLetter.2.1 4 = .ok (.istore_n 3, 1) := by decide +kernel
theorem dX6_jarLetter_5 : decode mX6_jarLetter.2.1 5 = .ok (.iload_n 3, 1) := by decide +kernel
theorem dX6_jarLetter_6 : decode mX6_jarLetter.2.1 6 = .ok (.bipush 122, 2) := by decide +kernel
theorem dX6_jarLetter_8 : decode mX6_jarLetter.2.1 8 = .ok (.if_icmp .gt 29, 3) := by decide +kernel
theorem dX6_jarLetter_11 : decode mX6_jarLetter.2.1 11 = .ok (.aload_n 0, 1) := by decide +kernel
theorem dX6_jarLetter_12 : decode mX6_jarLetter.2.1 12 = .ok (.iload_n 3, 1) := by decide +kernel
theorem dX6_jarLetter_13 : decode mX6_jarLetter.2.1 13 = .ok (.invokevirtual 75, 3) := by decide +kernel
theorem dX6_jarLetter_16 : decode mX6_jarLetter.2.1 16 = .ok (.ifnull 13, 3) := by decide +kernel
theorem dX6_jarLetter_19 : decode mX6_jarLetter.2.1 19 = .ok (.iload_n 2, 1) := by decide +kernel
theorem dX6_jarLetter_20 : decode mX6_jarLetter.2.1 20 = .ok (.iload_n 1, 1) := by decide +kernel
theorem dX6_jarLetter_21 : decode mX6_jarLetter.2.1 21 = .ok (.if_icmp .ne 5, 3) := by decide +kernel
theorem dX6_jarLetter_24 : decode mX6_jarLetter.2.1 24 = .ok (.iload_n 3, 1) := by decide +kernel
theorem dX6_jarLetter_25 : decode mX6_jarLetter.2.1 25 = .ok (.ireturn, 1) := by decide +kernel
theorem dX6_jarLetter_26 : decode mX6_jarLetter.2.1 26 = .ok (.iinc 2 1, 3) := by decide +kernel
theorem dX6_jarLetter_29 : decode mX6_jarLetter.2.1 29 = .ok (.iload_n 3, 1) := by decide +kernel
theorem dX6_jarLetter_30 : decode mX6_jarLetter.2.1 30 = .ok (.iconst 1, 1) := by decide +kernel
theorem dX6_jarLetter_31 : decode mX6_jarLetter.2.1 31 = .ok (.iadd, 1) := by decide +kernel
theorem dX6_jarLetter_32 : decode mX6_jarLetter.2.1 32 = .ok (.i2c, 1) := by decide +kernel
theorem dX6_jarLetter_33 : decode mX6_jarLetter.2.1 33 = .ok (.istore_n 3, 1) := by decide +kernel
theorem dX6_jarLetter_34 : decode mX6_jarLetter.2.1 34 = .ok (.goto (-29), 3) := by decide +kernel
theorem dX6_jarLetter_37 : decode mX6_jarLetter.2.1 37 = .ok (.bipush 32, 2) := by decide +kernel
theorem dX6_jarLetter_39 : decode mX6_jarLetter.2.1 39 = .ok (.ireturn, 1) := by decide +kernel
theorem dX6_putJar_0 : decode mX6_putJar.2.1 0 = .ok (.aload_n 0, 1) := by decide +kernel
theorem dX6_putJar_1 : decode mX6_putJar.2.1 1 = .ok (.iload_n 1, 1) := by decide +kernel
theorem dX6_putJar_2 : decode mX6_putJar.2.1 2 = .ok (.invokevirtual 61, 3) := by decide +kernel
theorem dX6_putJar_5 : decode mX6_putJar.2.1 5 = .ok (.astore_n 3, 1) := by decide +kernel
theorem dX6_putJar_6 : decode mX6_putJar.2.1 6 = .ok (.aload_n 3, 1) := by decide +kernel
theorem dX6_putJar_7 : decode mX6_putJar.2.1 7 = .ok (.ifnull 32, 3) := by decide +kernel
theorem dX6_putJar_10 : decode mX6_putJar.2.1 10 = .ok (.aload_n 3, 1) := by decide +kernel
theorem dX6_putJar_11 : decode mX6_putJar.2.1 11 = .ok (.iconst 1, 1) := by decide +kernel
theorem dX6_putJar_12 : decode mX6_putJar.2.1 12 = .ok (.putfield 65, 3) := by decide +kernel
theorem dX6_putJar_15 : decode mX6_putJar.2.1 15 = .ok (.aload_n 3, 1) := by decide +kernel
theorem dX6_putJar_16 : decode mX6_putJar.2.1 16 = .ok (.iconst 0, 1) := by decide +kernel
theorem dX6_putJar_17 : decode mX6_putJar.2.1 17 = .ok (.putfield 96, 3) := by decide +kernel
theorem dX6_putJar_20 : decode mX6_putJar.2.1 20 = .ok (.aload_n 3, 1) := by decide +kernel
theorem dX6_putJar_21 : decode mX6_putJar.2.1 21 = .ok (.iload_n 2, 1) := by decide +kernel
theorem dX6_putJar_22 : decode mX6_putJar.2.1 22 = .ok (.aload_n 0, 1) := by decide +kernel
theorem dX6_putJar_23 : decode mX6_putJar.2.1 23 = .ok (.getfield 33, 3) := by decide +kernel
theorem dX6_putJar_26 : decode mX6_putJar.2.1 26 = .ok (.invokevirtual 99, 3) := by decide +kernel
theorem dX6_putJar_29 : decode mX6_putJar.2.1 29 = .ok (.aload_n 0, 1) := by decide +kernel
theorem dX6_putJar_30 : decode mX6_putJar.2.1 30 = .ok (.dup, 1) := by decide +kernel
theorem dX6_putJar_31 : decode mX6_putJar.2.1 31 = .ok (.getfield 33, 3) := by decide +kernel
theorem dX6_putJar_34 : decode mX6_putJar.2.1 34 = .ok (.iconst 1, 1) := by decide +kernel
theorem dX6_putJar_35 : decode mX6_putJar.2.1 35 = .ok (.iadd, 1) := by decide +kernel
theorem dX6_putJar_36 : decode mX6_putJar.2.1 36 = .ok (.putfield 33, 3) := by decide +kernel
theorem dX6_putJar_39 : decode mX6_putJar.2.1 39 = .ok (.aload_n 0, 1) := by decide +kernel
theorem dX6_putJar_40 : decode mX6_putJar.2.1 40 = .ok (.invokevirtual 71, 3) := by decide +kernel
theorem dX6_putJar_43 : decode mX6_putJar.2.1 43 = .ok (.ireturn, 1) := by decide +kernel
theorem dX6_dropJar_0 : decode mX6_dropJar.2.1 0 = .ok (.aload_n 0, 1) := by decide +kernel
theorem dX6_dropJar_1 : decode mX6_dropJar.2.1 1 = .ok (.iload_n 1, 1) := by decide +kernel
theorem dX6_dropJar_2 : decode mX6_dropJar.2.1 2 = .ok (.invokevirtual 75, 3) := by decide +kernel
theorem dX6_dropJar_5 : decode mX6_dropJar.2.1 5 = .ok (.astore_n 2, 1) := by decide +kernel
theorem dX6_dropJar_6 : decode mX6_dropJar.2.1 6 = .ok (.aload_n 2, 1) := by decide +kernel
theorem dX6_dropJar_7 : decode mX6_dropJar.2.1 7 = .ok (.ifnull 8, 3) := by decide +kernel
theorem dX6_dropJar_10 : decode mX6_dropJar.2.1 10 = .ok (.aload_n 2, 1) := by decide +kernel
theorem dX6_dropJar_11 : decode mX6_dropJar.2.1 11 = .ok (.iconst 0, 1) := by decide +kernel
theorem dX6_dropJar_12 : decode mX6_dropJar.2.1 12 = .ok (.putfield 65, 3) := by decide +kernel
theorem dX6_dropJar_15 : decode mX6_dropJar.2.1 15 = .ok (.iconst 0, 1) := by decide +kernel
theorem dX6_dropJar_16 : decode mX6_dropJar.2.1 16 = .ok (.istore_n 3, 1) := by decide +kernel
theorem dX6_dropJar_17 : decode mX6_dropJar.2.1 17 = .ok (.aload_n 0, 1) := by decide +kernel
theorem dX6_dropJar_18 : decode mX6_dropJar.2.1 18 = .ok (.getfield 19, 3) := by decide +kernel
theorem dX6_dropJar_21 : decode mX6_dropJar.2.1 21 = .ok (.astore 4, 2) := by decide +kernel
theorem dX6_dropJar_23 : decode mX6_dropJar.2.1 23 = .ok (.aload 4, 2) := by decide +kernel
theorem dX6_dropJar_25 : decode mX6_dropJar.2.1 25 = .ok (.arraylength, 1) := by decide +kernel
theorem dX6_dropJar_26 : decode mX6_dropJar.2.1 26 = .ok (.istore 5, 2) := by decide +kernel
theorem dX6_dropJar_28 : decode mX6_dropJar.2.1 28 = .ok (.iconst 0, 1) := by decide +kernel
theorem dX6_dropJar_29 : decode mX6_dropJar.2.1 29 = .ok (.istore 6, 2) := by decide +kernel
theorem dX6_dropJar_31 : decode mX6_dropJar.2.1 31 = .ok (.iload 6, 2) := by decide +kernel
theorem dX6_dropJar_33 : decode mX6_dropJar.2.1 33 = .ok (.iload 5, 2) := by decide +kernel
theorem dX6_dropJar_35 : decode mX6_dropJar.2.1 35 = .ok (.if_icmp .ge 33, 3) := by decide +kernel
theorem dX6_dropJar_38 : decode mX6_dropJar.2.1 38 = .ok (.aload 4, 2) := by decide +kernel
theorem dX6_dropJar_40 : decode mX6_dropJar.2.1 40 = .ok (.iload 6, 2) := by decide +kernel
theorem dX6_dropJar_42 : decode mX6_dropJar.2.1 42 = .ok (.aaload, 1) := by decide +kernel
theorem dX6_dropJar_43 : decode mX6_dropJar.2.1 43 = .ok (.astore 7, 2) := by decide +kernel
theorem dX6_dropJar_45 : decode mX6_dropJar.2.1 45 = .ok (.aload 7, 2) := by decide +kernel
theorem dX6_dropJar_47 : decode mX6_dropJar.2.1 47 = .ok (.aload 7, 2) := by decide +kernel
theorem dX6_dropJar_49 : decode mX6_dropJar.2.1 49 = .ok (.iload_n 1, 1) := by decide +kernel
theorem dX6_dropJar_50 : decode mX6_dropJar.2.1 50 = .ok (.invokevirtual 103, 3) := by decide +kernel
theorem dX6_dropJar_53 : decode mX6_dropJar.2.1 53 = .ok (.invokevirtual 107, 3) := by decide +kernel
theorem dX6_dropJar_56 : decode mX6_dropJar.2.1 56 = .ok (.ifCond .eq 6, 3) := by decide +kernel
theorem dX6_dropJar_59 : decode mX6_dropJar.2.1 59 = .ok (.iinc 3 1, 3) := by decide +kernel
theorem dX6_dropJar_62 : decode mX6_dropJar.2.1 62 = .ok (.iinc 6 1, 3) := by decide +kernel
theorem dX6_dropJar_65 : decode mX6_dropJar.2.1 65 = .ok (.goto (-34), 3) := by decide +kernel
theorem dX6_dropJar_68 : decode mX6_dropJar.2.1 68 = .ok (.iload_n 3, 1) := by decide +kernel
theorem dX6_dropJar_69 : decode mX6_dropJar.2.1 69 = .ok (.ireturn, 1) := by decide +kernel
theorem dX6_speak_0 : decode mX6_speak.2.1 0 = .ok (.aload_n 0, 1) := by decide +kernel
theorem dX6_speak_1 : decode mX6_speak.2.1 1 = .ok (.iload_n 1, 1) := by decide +kernel
theorem dX6_speak_2 : decode mX6_speak.2.1 2 = .ok (.invokevirtual 75, 3) := by decide +kernel
theorem dX6_speak_5 : decode mX6_speak.2.1 5 = .ok (.astore_n 3, 1) := by decide +kernel
theorem dX6_speak_6 : decode mX6_speak.2.1 6 = .ok (.aload_n 3, 1) := by decide +kernel
theorem dX6_speak_7 : decode mX6_speak.2.1 7 = .ok (.ifnonnull 5, 3) := by decide +kernel
theorem dX6_speak_10 : decode mX6_speak.2.1 10 = .ok (.iconst 0, 1) := by decide +kernel
theorem dX6_speak_11 : decode mX6_speak.2.1 11 = .ok (.ireturn, 1) := by decide +kernel
theorem dX6_speak_12 : decode mX6_speak.2.1 12 = .ok (.aload_n 3, 1) := by decide +kernel
theorem dX6_speak_13 : decode mX6_speak.2.1 13 = .ok (.iload_n 2, 1) := by decide +kernel
theorem dX6_speak_14 : decode mX6_speak.2.1 14 = .ok (.aload_n 0, 1) := by decide +kernel
theorem dX6_speak_15 : decode mX6_speak.2.1 15 = .ok (.getfield 33, 3) := by decide +kernel
theorem dX6_speak_18 : decode mX6_speak.2.1 18 = .ok (.invokevirtual 99, 3) := by decide +kernel
theorem dX6_speak_21 : decode mX6_speak.2.1 21 = .ok (.aload_n 0, 1) := by decide +kernel
theorem dX6_speak_22 : decode mX6_speak.2.1 22 = .ok (.dup, 1) := by decide +kernel
theorem dX6_speak_23 : decode mX6_speak.2.1 23 = .ok (.getfield 33, 3) := by decide +kernel
theorem dX6_speak_26 : decode mX6_speak.2.1 26 = .ok (.iconst 1, 1) := by decide +kernel
theorem dX6_speak_27 : decode mX6_speak.2.1 27 = .ok (.iadd, 1) := by decide +kernel
theorem dX6_speak_28 : decode mX6_speak.2.1 28 = .ok (.putfield 33, 3) := by decide +kernel
theorem dX6_speak_31 : decode mX6_speak.2.1 31 = .ok (.iconst 0, 1) := by decide +kernel
theorem dX6_speak_32 : decode mX6_speak.2.1 32 = .ok (.istore 4, 2) := by decide +kernel
theorem dX6_speak_34 : decode mX6_speak.2.1 34 = .ok (.aload_n 0, 1) := by decide +kernel
theorem dX6_speak_35 : decode mX6_speak.2.1 35 = .ok (.getfield 19, 3) := by decide +kernel
theorem dX6_speak_38 : decode mX6_speak.2.1 38 = .ok (.astore 5, 2) := by decide +kernel
theorem dX6_speak_40 : decode mX6_speak.2.1 40 = .ok (.aload 5, 2) := by decide +kernel
theorem dX6_speak_42 : decode mX6_speak.2.1 42 = .ok (.arraylength, 1) := by decide +kernel
theorem dX6_speak_43 : decode mX6_speak.2.1 43 = .ok (.istore 6, 2) := by decide +kernel
theorem dX6_speak_45 : decode mX6_speak.2.1 45 = .ok (.iconst 0, 1) := by decide +kernel
theorem dX6_speak_46 : decode mX6_speak.2.1 46 = .ok (.istore 7, 2) := by decide +kernel
theorem dX6_speak_48 : decode mX6_speak.2.1 48 = .ok (.iload 7, 2) := by decide +kernel
theorem dX6_speak_50 : decode mX6_speak.2.1 50 = .ok (.iload 6, 2) := by decide +kernel
theorem dX6_speak_52 : decode mX6_speak.2.1 52 = .ok (.if_icmp .ge 36, 3) := by decide +kernel
theorem dX6_speak_55 : decode mX6_speak.2.1 55 = .ok (.aload 5, 2) := by decide +kernel
theorem dX6_speak_57 : decode mX6_speak.2.1 57 = .ok (.iload 7, 2) := by decide +kernel
theorem dX6_speak_59 : decode mX6_speak.2.1 59 = .ok (.aaload, 1) := by decide +kernel
theorem dX6_speak_60 : decode mX6_speak.2.1 60 = .ok (.astore 8, 2) := by decide +kernel
theorem dX6_speak_62 : decode mX6_speak.2.1 62 = .ok (.aload 8, 2) := by decide +kernel
theorem dX6_speak_64 : decode mX6_speak.2.1 64 = .ok (.getfield 111, 3) := by decide +kernel
theorem dX6_speak_67 : decode mX6_speak.2.1 67 = .ok (.ifCond .eq 15, 3) := by decide +kernel
theorem dX6_speak_70 : decode mX6_speak.2.1 70 = .ok (.aload 8, 2) := by decide +kernel
theorem dX6_speak_72 : decode mX6_speak.2.1 72 = .ok (.iload_n 1, 1) := by decide +kernel
theorem dX6_speak_73 : decode mX6_speak.2.1 73 = .ok (.invokevirtual 114, 3) := by decide +kernel
theorem dX6_speak_76 : decode mX6_speak.2.1 76 = .ok (.ifCond .eq 6, 3) := by decide +kernel
theorem dX6_speak_79 : decode mX6_speak.2.1 79 = .ok (.iinc 4 1, 3) := by decide +kernel
theorem dX6_speak_82 : decode mX6_speak.2.1 82 = .ok (.iinc 7 1, 3) := by decide +kernel
theorem dX6_speak_85 : decode mX6_speak.2.1 85 = .ok (.goto (-37), 3) := by decide +kernel
theorem dX6_speak_88 : decode mX6_speak.2.1 88 = .ok (.iload 4, 2) := by decide +kernel
theorem dX6_speak_90 : decode mX6_speak.2.1 90 = .ok (.ireturn, 1) := by decide +kernel
theorem dX6_countShelves_0 : decode mX6_countShelves.2.1 0 = .ok (.iconst 0, 1) := by decide +kernel
theorem dX6_countShelves_1 : decode mX6_countShelves.2.1 1 = .ok (.istore_n 1, 1) := by decide +kernel
theorem dX6_countShelves_2 : decode mX6_countShelves.2.1 2 = .ok (.aload_n 0, 1) := by decide +kernel
theorem dX6_countShelves_3 : decode mX6_countShelves.2.1 3 = .ok (.getfield 19, 3) := by decide +kernel
theorem dX6_countShelves_6 : decode mX6_countShelves.2.1 6 = .ok (.astore_n 2, 1) := by decide +kernel
theorem dX6_countShelves_7 : decode mX6_countShelves.2.1 7 = .ok (.aload_n 2, 1) := by decide +kernel
theorem dX6_countShelves_8 : decode mX6_countShelves.2.1 8 = .ok (.arraylength, 1) := by decide +kernel
theorem dX6_countShelves_9 : decode mX6_countShelves.2.1 9 = .ok (.istore_n 3, 1) := by decide +kernel
theorem dX6_countShelves_10 : decode mX6_countShelves.2.1 10 = .ok (.iconst 0, 1) := by decide +kernel
theorem dX6_countShelves_11 : decode mX6_countShelves.2.1 11 = .ok (.istore 4, 2) := by decide +kernel
theorem dX6_countShelves_13 : decode mX6_countShelves.2.1 13 = .ok (.iload 4, 2) := by decide +kernel
theorem dX6_countShelves_15 : decode mX6_countShelves.2.1 15 = .ok (.iload_n 3, 1) := by decide +kernel
theorem dX6_countShelves_16 : decode mX6_countShelves.2.1 16 = .ok (.if_icmp .ge 26, 3) := by decide +kernel
theorem dX6_countShelves_19 : decode mX6_countShelves.2.1 19 = .ok (.aload_n 2, 1) := by decide +kernel
theorem dX6_countShelves_20 : decode mX6_countShelves.2.1 20 = .ok (.iload 4, 2) := by decide +kernel
theorem dX6_countShelves_22 : decode mX6_countShelves.2.1 22 = .ok (.aaload, 1) := by decide +kernel
theorem dX6_countShelves_23 : decode mX6_countShelves.2.1 23 = .ok (.astore 5, 2) := by decide +kernel
theorem dX6_countShelves_25 : decode mX6_countShelves.2.1 25 = .ok (.aload 5, 2) := by decide +kernel
theorem dX6_countShelves_27 : decode mX6_countShelves.2.1 27 = .ok (.getfield 69, 3) := by decide +kernel
theorem dX6_countShelves_30 : decode mX6_countShelves.2.1 30 = .ok (.ifCond .eq 6, 3) := by decide +kernel
theorem dX6_countShelves_33 : decode mX6_countShelves.2.1 33 = .ok (.iinc 1 1, 3) := by decide +kernel
theorem dX6_countShelves_36 : decode mX6_countShelves.2.1 36 = .ok (.iinc 4 1, 3) := by decide +kernel
theorem dX6_countShelves_39 : decode mX6_countShelves.2.1 39 = .ok (.goto (-26), 3) := by decide +kernel
theorem dX6_countShelves_42 : decode mX6_countShelves.2.1 42 = .ok (.iload_n 1, 1) := by decide +kernel
theorem dX6_countShelves_43 : decode mX6_countShelves.2.1 43 = .ok (.ireturn, 1) := by decide +kernel
theorem dX6_putShelf_0 : decode mX6_putShelf.2.1 0 = .ok (.aload_n 0, 1) := by decide +kernel
theorem dX6_putShelf_1 : decode mX6_putShelf.2.1 1 = .ok (.invokevirtual 78, 3) := by decide +kernel
theorem dX6_putShelf_4 : decode mX6_putShelf.2.1 4 = .ok (.istore 4, 2) := by decide +kernel
theorem dX6_putShelf_6 : decode mX6_putShelf.2.1 6 = .ok (.iload 4, 2) := by decide +kernel
theorem dX6_putShelf_8 : decode mX6_putShelf.2.1 8 = .ok (.aload_n 0, 1) := by decide +kernel
theorem dX6_putShelf_9 : decode mX6_putShelf.2.1 9 = .ok (.getfield 19, 3) := by decide +kernel
theorem dX6_putShelf_12 : decode mX6_putShelf.2.1 12 = .ok (.arraylength, 1) := by decide +kernel
theorem dX6_putShelf_13 : decode mX6_putShelf.2.1 13 = .ok (.if_icmp .ge 16, 3) := by decide +kernel
theorem dX6_putShelf_16 : decode mX6_putShelf.2.1 16 = .ok (.aload_n 0, 1) := by decide +kernel
theorem dX6_putShelf_17 : decode mX6_putShelf.2.1 17 = .ok (.getfield 19, 3) := by decide +kernel
theorem dX6_putShelf_20 : decode mX6_putShelf.2.1 20 = .ok (.iload 4, 2) := by decide +kernel
theorem dX6_putShelf_22 : decode mX6_putShelf.2.1 22 = .ok (.aaload, 1) := by decide +kernel
theorem dX6_putShelf_23 : decode mX6_putShelf.2.1 23 = .ok (.iload_n 1, 1) := by decide +kernel
theorem dX6_putShelf_24 : decode mX6_putShelf.2.1 24 = .ok (.iload_n 2, 1) := by decide +kernel
theorem dX6_putShelf_25 : decode mX6_putShelf.2.1 25 = .ok (.iload_n 3, 1) := by decide +kernel
theorem dX6_putShelf_26 : decode mX6_putShelf.2.1 26 = .ok (.invokevirtual 118, 3) := by decide +kernel
theorem dX6_putShelf_29 : decode mX6_putShelf.2.1 29 = .ok (.iload 4, 2) := by decide +kernel
theorem dX6_putShelf_31 : decode mX6_putShelf.2.1 31 = .ok (.ireturn, 1) := by decide +kernel
theorem dX6_tune_0 : decode mX6_tune.2.1 0 = .ok (.aload_n 0, 1) := by decide +kernel
theorem dX6_tune_1 : decode mX6_tune.2.1 1 = .ok (.iload_n 1, 1) := by decide +kernel
theorem dX6_tune_2 : decode mX6_tune.2.1 2 = .ok (.invokevirtual 81, 3) := by decide +kernel
theorem dX6_tune_5 : decode mX6_tune.2.1 5 = .ok (.astore_n 3, 1) := by decide +kernel
theorem dX6_tune_6 : decode mX6_tune.2.1 6 = .ok (.aload_n 3, 1) := by decide +kernel
theorem dX6_tune_7 : decode mX6_tune.2.1 7 = .ok (.ifnull 8, 3) := by decide +kernel
theorem dX6_tune_10 : decode mX6_tune.2.1 10 = .ok (.aload_n 3, 1) := by decide +kernel
theorem dX6_tune_11 : decode mX6_tune.2.1 11 = .ok (.iload_n 2, 1) := by decide +kernel
theorem dX6_tune_12 : decode mX6_tune.2.1 12 = .ok (.putfield 111, 3) := by decide +kernel
theorem dX6_tune_15 : decode mX6_tune.2.1 15 = .ok (.return_, 1) := by decide +kernel
theorem dX6_rankByHits_0 : decode mX6_rankByHits.2.1 0 = .ok (.aload_n 0, 1) := by decide +kernel
theorem dX6_rankByHits_1 : decode mX6_rankByHits.2.1 1 = .ok (.iload_n 1, 1) := by decide +kernel
theorem dX6_rankByHits_2 : decode mX6_rankByHits.2.1 2 = .ok (.invokevirtual 81, 3) := by decide +kernel
theorem dX6_rankByHits_5 : decode mX6_rankByHits.2.1 5 = .ok (.astore_n 2, 1) := by decide +kernel
theorem dX6_rankByHits_6 : decode mX6_rankByHits.2.1 6 = .ok (.iconst 0, 1) := by decide +kernel
theorem dX6_rankByHits_7 : decode mX6_rankByHits.2.1 7 = .ok (.istore_n 3, 1) := by decide +kernel
theorem dX6_rankByHits_8 : decode mX6_rankByHits.2.1 8 = .ok (.iconst 0, 1) := by decide +kernel
theorem dX6_rankByHits_9 : decode mX6_rankByHits.2.1 9 = .ok (.istore 4, 2) := by decide +kernel
theorem dX6_rankByHits_11 : decode mX6_rankByHits.2.1 11 = .ok (.iload 4, 2) := by decide +kernel
theorem dX6_rankByHits_13 : decode mX6_rankByHits.2.1 13 = .ok (.aload_n 0, 1) := by decide +kernel
theorem dX6_rankByHits_14 : decode mX6_rankByHits.2.1 14 = .ok (.getfield 19, 3) := by decide +kernel
theorem dX6_rankByHits_17 : decode mX6_rankByHits.2.1 17 = .ok (.arraylength, 1) := by decide +kernel
theorem dX6_rankByHits_18 : decode mX6_rankByHits.2.1 18 = .ok (.if_icmp .ge 59, 3) := by decide +kernel
theorem dX6_rankByHits_21 : decode mX6_rankByHits.2.1 21 = .ok (.aload_n 0, 1) := by decide +kernel
theorem dX6_rankByHits_22 : decode mX6_rankByHits.2.1 22 = .ok (.iload 4, 2) := by decide +kernel
theorem dX6_rankByHits_24 : decode mX6_rankByHits.2.1 24 = .ok (.invokevirtual 81, 3) := by decide +kernel
theorem dX6_rankByHits_27 : decode mX6_rankByHits.2.1 27 = .ok (.astore 5, 2) := by decide +kernel
theorem dX6_rankByHits_29 : decode mX6_rankByHits.2.1 29 = .ok (.aload_n 2, 1) := by decide +kernel
theorem dX6_rankByHits_30 : decode mX6_rankByHits.2.1 30 = .ok (.ifnull 41, 3) := by decide +kernel
theorem dX6_rankByHits_33 : decode mX6_rankByHits.2.1 33 = .ok (.aload 5, 2) := by decide +kernel
theorem dX6_rankByHits_35 : decode mX6_rankByHits.2.1 35 = .ok (.ifnull 36, 3) := by decide +kernel
theorem dX6_rankByHits_38 : decode mX6_rankByHits.2.1 38 = .ok (.aload 5, 2) := by decide +kernel
theorem dX6_rankByHits_40 : decode mX6_rankByHits.2.1 40 = .ok (.getfield 122, 3) := by decide +kernel
theorem dX6_rankByHits_43 : decode mX6_rankByHits.2.1 43 = .ok (.aload_n 2, 1) := by decide +kernel
theorem dX6_rankByHits_44 : decode mX6_rankByHits.2.1 44 = .ok (.getfield 122, 3) := by decide +kernel
theorem dX6_rankByHits_47 : decode mX6_rankByHits.2.1 47 = .ok (.if_icmp .gt 21, 3) := by decide +kernel
theorem dX6_rankByHits_50 : decode mX6_rankByHits.2.1 50 = .ok (.aload 5, 2) := by decide +kernel
theorem dX6_rankByHits_52 : decode mX6_rankByHits.2.1 52 = .ok (.getfield 122, 3) := by decide +kernel
theorem dX6_rankByHits_55 : decode mX6_rankByHits.2.1 55 = .ok (.aload_n 2, 1) := by decide +kernel
theorem dX6_rankByHits_56 : decode mX6_rankByHits.2.1 56 = .ok (.getfield 122, 3) := by decide +kernel
theorem dX6_rankByHits_59 : decode mX6_rankByHits.2.1 59 = .ok (.if_icmp .ne 12, 3) := by decide +kernel
theorem dX6_rankByHits_62 : decode mX6_rankByHits.2.1 62 = .ok (.iload 4, 2) := by decide +kernel
theorem dX6_rankByHits_64 : decode mX6_rankByHits.2.1 64 = .ok (.iload_n 1, 1) := by decide +kernel
theorem dX6_rankByHits_65 : decode mX6_rankByHits.2.1 65 = .ok (.if_icmp .ge 6, 3) := by decide +kernel
theorem dX6_rankByHits_68 : decode mX6_rankByHits.2.1 68 = .ok (.iinc 3 1, 3) := by decide +kernel
theorem dX6_rankByHits_71 : decode mX6_rankByHits.2.1 71 = .ok (.iinc 4 1, 3) := by decide +kernel
theorem dX6_rankByHits_74 : decode mX6_rankByHits.2.1 74 = .ok (.goto (-63), 3) := by decide +kernel
theorem dX6_rankByHits_77 : decode mX6_rankByHits.2.1 77 = .ok (.iload_n 3, 1) := by decide +kernel
theorem dX6_rankByHits_78 : decode mX6_rankByHits.2.1 78 = .ok (.ireturn, 1) := by decide +kernel
theorem dX6_isTrueByCount_0 : decode mX6_isTrueByCount.2.1 0 = .ok (.aload_n 0, 1) := by decide +kernel
theorem dX6_isTrueByCount_1 : decode mX6_isTrueByCount.2.1 1 = .ok (.aload_n 1, 1) := by decide +kernel
theorem dX6_isTrueByCount_2 : decode mX6_isTrueByCount.2.1 2 = .ok (.getfield 125, 3) := by decide +kernel
theorem dX6_isTrueByCount_5 : decode mX6_isTrueByCount.2.1 5 = .ok (.invokevirtual 75, 3) := by decide +kernel
theorem dX6_isTrueByCount_8 : decode mX6_isTrueByCount.2.1 8 = .ok (.astore_n 2, 1) := by decide +kernel
theorem dX6_isTrueByCount_9 : decode mX6_isTrueByCount.2.1 9 = .ok (.aload_n 2, 1) := by decide +kernel
theorem dX6_isTrueByCount_10 : decode mX6_isTrueByCount.2.1 10 = .ok (.ifnull 18, 3) := by decide +kernel
theorem dX6_isTrueByCount_13 : decode mX6_isTrueByCount.2.1 13 = .ok (.aload_n 1, 1) := by decide +kernel
theorem dX6_isTrueByCount_14 : decode mX6_isTrueByCount.2.1 14 = .ok (.getfield 131, 3) := by decide +kernel
theorem dX6_isTrueByCount_17 : decode mX6_isTrueByCount.2.1 17 = .ok (.aload_n 2, 1) := by decide +kernel
theorem dX6_isTrueByCount_18 : decode mX6_isTrueByCount.2.1 18 = .ok (.getfield 96, 3) := by decide +kernel
theorem dX6_isTrueByCount_21 : decode mX6_isTrueByCount.2.1 21 = .ok (.if_icmp .ne 7, 3) := by decide +kernel
theorem dX6_isTrueByCount_24 : decode mX6_isTrueByCount.2.1 24 = .ok (.iconst 1, 1) := by decide +kernel
theorem dX6_isTrueByCount_25 : decode mX6_isTrueByCount.2.1 25 = .ok (.goto 4, 3) := by decide +kernel
theorem dX6_isTrueByCount_28 : decode mX6_isTrueByCount.2.1 28 = .ok (.iconst 0, 1) := by decide +kernel
theorem dX6_isTrueByCount_29 : decode mX6_isTrueByCount.2.1 29 = .ok (.ireturn, 1) := by decide +kernel
theorem dX6_isTrueByOrder_0 : decode mX6_isTrueByOrder.2.1 0 = .ok (.aload_n 0, 1) := by decide +kernel
theorem dX6_isTrueByOrder_1 : decode mX6_isTrueByOrder.2.1 1 = .ok (.aload_n 1, 1) := by decide +kernel
theorem dX6_isTrueByOrder_2 : decode mX6_isTrueByOrder.2.1 2 = .ok (.getfield 125, 3) := by decide +kernel
theorem dX6_isTrueByOrder_5 : decode mX6_isTrueByOrder.2.1 5 = .ok (.invokevirtual 75, 3) := by decide +kernel
theorem dX6_isTrueByOrder_8 : decode mX6_isTrueByOrder.2.1 8 = .ok (.astore_n 2, 1) := by decide +kernel
theorem dX6_isTrueByOrder_9 : decode mX6_isTrueByOrder.2.1 9 = .ok (.aload_n 2, 1) := by decide +kernel
theorem dX6_isTrueByOrder_10 : decode mX6_isTrueByOrder.2.1 10 = .ok (.ifnull 18, 3) := by decide +kernel
theorem dX6_isTrueByOrder_13 : decode mX6_isTrueByOrder.2.1 13 = .ok (.aload_n 1, 1) := by decide +kernel
theorem dX6_isTrueByOrder_14 : decode mX6_isTrueByOrder.2.1 14 = .ok (.getfield 132, 3) := by decide +kernel
theorem dX6_isTrueByOrder_17 : decode mX6_isTrueByOrder.2.1 17 = .ok (.aload_n 2, 1) := by decide +kernel
theorem dX6_isTrueByOrder_18 : decode mX6_isTrueByOrder.2.1 18 = .ok (.getfield 135, 3) := by decide +kernel
theorem dX6_isTrueByOrder_21 : decode mX6_isTrueByOrder.2.1 21 = .ok (.if_icmp .le 7, 3) := by decide +kernel
theorem dX6_isTrueByOrder_24 : decode mX6_isTrueByOrder.2.1 24 = .ok (.iconst 1, 1) := by decide +kernel
theorem dX6_isTrueByOrder_25 : decode mX6_isTrueByOrder.2.1 25 = .ok (.goto 4, 3) := by decide +kernel
theorem dX6_isTrueByOrder_28 : decode mX6_isTrueByOrder.2.1 28 = .ok (.iconst 0, 1) := by decide +kernel
theorem dX6_isTrueByOrder_29 : decode mX6_isTrueByOrder.2.1 29 = .ok (.ireturn, 1) := by decide +kernel
theorem dX6_isSound_0 : decode mX6_isSound.2.1 0 = .ok (.aload_n 0, 1) := by decide +kernel
theorem dX6_isSound_1 : decode mX6_isSound.2.1 1 = .ok (.aload_n 1, 1) := by decide +kernel
theorem dX6_isSound_2 : decode mX6_isSound.2.1 2 = .ok (.invokevirtual 138, 3) := by decide +kernel
theorem dX6_isSound_5 : decode mX6_isSound.2.1 5 = .ok (.aload_n 0, 1) := by decide +kernel
theorem dX6_isSound_6 : decode mX6_isSound.2.1 6 = .ok (.aload_n 1, 1) := by decide +kernel
theorem dX6_isSound_7 : decode mX6_isSound.2.1 7 = .ok (.invokevirtual 141, 3) := by decide +kernel
theorem dX6_isSound_10 : decode mX6_isSound.2.1 10 = .ok (.if_icmp .eq 5, 3) := by decide +kernel
theorem dX6_isSound_13 : decode mX6_isSound.2.1 13 = .ok (.iconst 0, 1) := by decide +kernel
theorem dX6_isSound_14 : decode mX6_isSound.2.1 14 = .ok (.ireturn, 1) := by decide +kernel
theorem dX6_isSound_15 : decode mX6_isSound.2.1 15 = .ok (.aload_n 0, 1) := by decide +kernel
theorem dX6_isSound_16 : decode mX6_isSound.2.1 16 = .ok (.aload_n 1, 1) := by decide +kernel
theorem dX6_isSound_17 : decode mX6_isSound.2.1 17 = .ok (.getfield 125, 3) := by decide +kernel
theorem dX6_isSound_20 : decode mX6_isSound.2.1 20 = .ok (.invokevirtual 75, 3) := by decide +kernel
theorem dX6_isSound_23 : decode mX6_isSound.2.1 23 = .ok (.astore_n 2, 1) := by decide +kernel
theorem dX6_isSound_24 : decode mX6_isSound.2.1 24 = .ok (.aload_n 0, 1) := by decide +kernel
theorem dX6_isSound_25 : decode mX6_isSound.2.1 25 = .ok (.aload_n 1, 1) := by decide +kernel
theorem dX6_isSound_26 : decode mX6_isSound.2.1 26 = .ok (.invokevirtual 138, 3) := by decide +kernel
theorem dX6_isSound_29 : decode mX6_isSound.2.1 29 = .ok (.ifCond .eq 18, 3) := by decide +kernel
theorem dX6_isSound_32 : decode mX6_isSound.2.1 32 = .ok (.aload_n 2, 1) := by decide +kernel
theorem dX6_isSound_33 : decode mX6_isSound.2.1 33 = .ok (.ifnull 18, 3) := by decide +kernel
theorem dX6_isSound_36 : decode mX6_isSound.2.1 36 = .ok (.aload_n 2, 1) := by decide +kernel
theorem dX6_isSound_37 : decode mX6_isSound.2.1 37 = .ok (.getfield 144, 3) := by decide +kernel
theorem dX6_isSound_40 : decode mX6_isSound.2.1 40 = .ok (.aload_n 1, 1) := by decide +kernel
theorem dX6_isSound_41 : decode mX6_isSound.2.1 41 = .ok (.getfield 147, 3) := by decide +kernel
theorem dX6_isSound_44 : decode mX6_isSound.2.1 44 = .ok (.if_icmp .ne 7, 3) := by decide +kernel
theorem dX6_isSound_47 : decode mX6_isSound.2.1 47 = .ok (.iconst 1, 1) := by decide +kernel
theorem dX6_isSound_48 : decode mX6_isSound.2.1 48 = .ok (.goto 4, 3) := by decide +kernel
theorem dX6_isSound_51 : decode mX6_isSound.2.1 51 = .ok (.iconst 0, 1) := by decide +kernel
theorem dX6_isSound_52 : decode mX6_isSound.2.1 52 = .ok (.ireturn, 1) := by decide +kernel
theorem dX6_listenTo_0 : decode mX6_listenTo.2.1 0 = .ok (.aload_n 0, 1) := by decide +kernel
theorem dX6_listenTo_1 : decode mX6_listenTo.2.1 1 = .ok (.iload_n 1, 1) := by decide +kernel
theorem dX6_listenTo_2 : decode mX6_listenTo.2.1 2 = .ok (.invokevirtual 81, 3) := by decide +kernel
theorem dX6_listenTo_5 : decode mX6_listenTo.2.1 5 = .ok (.astore_n 3, 1) := by decide +kernel
theorem dX6_listenTo_6 : decode mX6_listenTo.2.1 6 = .ok (.aload_n 0, 1) := by decide +kernel
theorem dX6_listenTo_7 : decode mX6_listenTo.2.1 7 = .ok (.iload_n 2, 1) := by decide +kernel
theorem dX6_listenTo_8 : decode mX6_listenTo.2.1 8 = .ok (.invokevirtual 75, 3) := by decide +kernel
theorem dX6_listenTo_11 : decode mX6_listenTo.2.1 11 = .ok (.astore 4, 2) := by decide +kernel
theorem dX6_listenTo_13 : decode mX6_listenTo.2.1 13 = .ok (.aload_n 3, 1) := by decide +kernel
theorem dX6_listenTo_14 : decode mX6_listenTo.2.1 14 = .ok (.ifnull 8, 3) := by decide +kernel
theorem dX6_listenTo_17 : decode mX6_listenTo.2.1 17 = .ok (.aload 4, 2) := by decide +kernel
theorem dX6_listenTo_19 : decode mX6_listenTo.2.1 19 = .ok (.ifnonnull 5, 3) := by decide +kernel
theorem dX6_listenTo_22 : decode mX6_listenTo.2.1 22 = .ok (.iconst 0, 1) := by decide +kernel
theorem dX6_listenTo_23 : decode mX6_listenTo.2.1 23 = .ok (.ireturn, 1) := by decide +kernel
theorem dX6_listenTo_24 : decode mX6_listenTo.2.1 24 = .ok (.aload_n 3, 1) := by decide +kernel
theorem dX6_listenTo_25 : decode mX6_listenTo.2.1 25 = .ok (.iload_n 2, 1) := by decide +kernel
theorem dX6_listenTo_26 : decode mX6_listenTo.2.1 26 = .ok (.invokevirtual 103, 3) := by decide +kernel
theorem dX6_listenTo_29 : decode mX6_listenTo.2.1 29 = .ok (.astore 5, 2) := by decide +kernel
theorem dX6_listenTo_31 : decode mX6_listenTo.2.1 31 = .ok (.aload_n 3, 1) := by decide +kernel
theorem dX6_listenTo_32 : decode mX6_listenTo.2.1 32 = .ok (.iload_n 2, 1) := by decide +kernel
theorem dX6_listenTo_33 : decode mX6_listenTo.2.1 33 = .ok (.aload_n 0, 1) := by decide +kernel
theorem dX6_listenTo_34 : decode mX6_listenTo.2.1 34 = .ok (.getfield 29, 3) := by decide +kernel
theorem dX6_listenTo_37 : decode mX6_listenTo.2.1 37 = .ok (.invokevirtual 148, 3) := by decide +kernel
theorem dX6_listenTo_40 : decode mX6_listenTo.2.1 40 = .ok (.istore 6, 2) := by decide +kernel
theorem dX6_listenTo_42 : decode mX6_listenTo.2.1 42 = .ok (.aload_n 0, 1) := by decide +kernel
theorem dX6_listenTo_43 : decode mX6_listenTo.2.1 43 = .ok (.iload 6, 2) := by decide +kernel
theorem dX6_listenTo_45 : decode mX6_listenTo.2.1 45 = .ok (.invokevirtual 152, 3) := by decide +kernel
theorem dX6_listenTo_48 : decode mX6_listenTo.2.1 48 = .ok (.iload 6, 2) := by decide +kernel
theorem dX6_listenTo_50 : decode mX6_listenTo.2.1 50 = .ok (.bipush 104, 2) := by decide +kernel
theorem dX6_listenTo_52 : decode mX6_listenTo.2.1 52 = .ok (.if_icmp .ne 33, 3) := by decide +kernel
theorem dX6_listenTo_55 : decode mX6_listenTo.2.1 55 = .ok (.aload 5, 2) := by decide +kernel
theorem dX6_listenTo_57 : decode mX6_listenTo.2.1 57 = .ok (.ifnull 28, 3) := by decide +kernel
theorem dX6_listenTo_60 : decode mX6_listenTo.2.1 60 = .ok (.aload_n 3, 1) := by decide +kernel
theorem dX6_listenTo_61 : decode mX6_listenTo.2.1 61 = .ok (.aload 5, 2) := by decide +kernel
theorem dX6_listenTo_63 : decode mX6_listenTo.2.1 63 = .ok (.aload_n 0, 1) := by decide +kernel
theorem dX6_listenTo_64 : decode mX6_listenTo.2.1 64 = .ok (.getfield 33, 3) := by decide +kernel
theorem dX6_listenTo_67 : decode mX6_listenTo.2.1 67 = .ok (.invokevirtual 156, 3) := by decide +kernel
theorem dX6_listenTo_70 : decode mX6_listenTo.2.1 70 = .ok (.istore 7, 2) := by decide +kernel
theorem dX6_listenTo_72 : decode mX6_listenTo.2.1 72 = .ok (.aload_n 0, 1) := by decide +kernel
theorem dX6_listenTo_73 : decode mX6_listenTo.2.1 73 = .ok (.dup, 1) := by decide +kernel
theorem dX6_listenTo_74 : decode mX6_listenTo.2.1 74 = .ok (.getfield 33, 3) := by decide +kernel
theorem dX6_listenTo_77 : decode mX6_listenTo.2.1 77 = .ok (.iconst 1, 1) := by decide +kernel
theorem dX6_listenTo_78 : decode mX6_listenTo.2.1 78 = .ok (.iadd, 1) := by decide +kernel
theorem dX6_listenTo_79 : decode mX6_listenTo.2.1 79 = .ok (.putfield 33, 3) := by decide +kernel
theorem dX6_listenTo_82 : decode mX6_listenTo.2.1 82 = .ok (.iload 7, 2) := by decide +kernel
theorem dX6_listenTo_84 : decode mX6_listenTo.2.1 84 = .ok (.ireturn, 1) := by decide +kernel
theorem dX6_listenTo_85 : decode mX6_listenTo.2.1 85 = .ok (.aload_n 0, 1) := by decide +kernel
theorem dX6_listenTo_86 : decode mX6_listenTo.2.1 86 = .ok (.iload_n 1, 1) := by decide +kernel
theorem dX6_listenTo_87 : decode mX6_listenTo.2.1 87 = .ok (.iload_n 2, 1) := by decide +kernel
theorem dX6_listenTo_88 : decode mX6_listenTo.2.1 88 = .ok (.invokevirtual 160, 3) := by decide +kernel
theorem dX6_listenTo_91 : decode mX6_listenTo.2.1 91 = .ok (.pop, 1) := by decide +kernel
theorem dX6_listenTo_92 : decode mX6_listenTo.2.1 92 = .ok (.aload 4, 2) := by decide +kernel
theorem dX6_listenTo_94 : decode mX6_listenTo.2.1 94 = .ok (.getfield 144, 3) := by decide +kernel
theorem dX6_listenTo_97 : decode mX6_listenTo.2.1 97 = .ok (.ireturn, 1) := by decide +kernel
theorem dX6_countOutcome_0 : decode mX6_countOutcome.2.1 0 = .ok (.iload_n 1, 1) := by decide +kernel
theorem dX6_countOutcome_1 : decode mX6_countOutcome.2.1 1 = .ok (.bipush 104, 2) := by decide +kernel
theorem dX6_countOutcome_3 : decode mX6_countOutcome.2.1 3 = .ok (.if_icmp .ne 16, 3) := by decide +kernel
theorem dX6_countOutcome_6 : decode mX6_countOutcome.2.1 6 = .ok (.aload_n 0, 1) := by decide +kernel
theorem dX6_countOutcome_7 : decode mX6_countOutcome.2.1 7 = .ok (.dup, 1) := by decide +kernel
theorem dX6_countOutcome_8 : decode mX6_countOutcome.2.1 8 = .ok (.getfield 36, 3) := by decide +kernel
theorem dX6_countOutcome_11 : decode mX6_countOutcome.2.1 11 = .ok (.iconst 1, 1) := by decide +kernel
theorem dX6_countOutcome_12 : decode mX6_countOutcome.2.1 12 = .ok (.iadd, 1) := by decide +kernel
theorem dX6_countOutcome_13 : decode mX6_countOutcome.2.1 13 = .ok (.putfield 36, 3) := by decide +kernel
theorem dX6_countOutcome_16 : decode mX6_countOutcome.2.1 16 = .ok (.goto 51, 3) := by decide +kernel
theorem dX6_countOutcome_19 : decode mX6_countOutcome.2.1 19 = .ok (.iload_n 1, 1) := by decide +kernel
theorem dX6_countOutcome_20 : decode mX6_countOutcome.2.1 20 = .ok (.bipush 99, 2) := by decide +kernel
theorem dX6_countOutcome_22 : decode mX6_countOutcome.2.1 22 = .ok (.if_icmp .ne 16, 3) := by decide +kernel
theorem dX6_countOutcome_25 : decode mX6_countOutcome.2.1 25 = .ok (.aload_n 0, 1) := by decide +kernel
theorem dX6_countOutcome_26 : decode mX6_countOutcome.2.1 26 = .ok (.dup, 1) := by decide +kernel
theorem dX6_countOutcome_27 : decode mX6_countOutcome.2.1 27 = .ok (.getfield 39, 3) := by decide +kernel
theorem dX6_countOutcome_30 : decode mX6_countOutcome.2.1 30 = .ok (.iconst 1, 1) := by decide +kernel
theorem dX6_countOutcome_31 : decode mX6_countOutcome.2.1 31 = .ok (.iadd, 1) := by decide +kernel
theorem dX6_countOutcome_32 : decode mX6_countOutcome.2.1 32 = .ok (.putfield 39, 3) := by decide +kernel
theorem dX6_countOutcome_35 : decode mX6_countOutcome.2.1 35 = .ok (.goto 32, 3) := by decide +kernel
theorem dX6_countOutcome_38 : decode mX6_countOutcome.2.1 38 = .ok (.iload_n 1, 1) := by decide +kernel
theorem dX6_countOutcome_39 : decode mX6_countOutcome.2.1 39 = .ok (.bipush 101, 2) := by decide +kernel
theorem dX6_countOutcome_41 : decode mX6_countOutcome.2.1 41 = .ok (.if_icmp .ne 16, 3) := by decide +kernel
theorem dX6_countOutcome_44 : decode mX6_countOutcome.2.1 44 = .ok (.aload_n 0, 1) := by decide +kernel
theorem dX6_countOutcome_45 : decode mX6_countOutcome.2.1 45 = .ok (.dup, 1) := by decide +kernel
theorem dX6_countOutcome_46 : decode mX6_countOutcome.2.1 46 = .ok (.getfield 42, 3) := by decide +kernel
theorem dX6_countOutcome_49 : decode mX6_countOutcome.2.1 49 = .ok (.iconst 1, 1) := by decide +kernel
theorem dX6_countOutcome_50 : decode mX6_countOutcome.2.1 50 = .ok (.iadd, 1) := by decide +kernel
theorem dX6_countOutcome_51 : decode mX6_countOutcome.2.1 51 = .ok (.putfield 42, 3) := by decide +kernel
theorem dX6_countOutcome_54 : decode mX6_countOutcome.2.1 54 = .ok (.goto 13, 3) := by decide +kernel
theorem dX6_countOutcome_57 : decode mX6_countOutcome.2.1 57 = .ok (.aload_n 0, 1) := by decide +kernel
theorem dX6_countOutcome_58 : decode mX6_countOutcome.2.1 58 = .ok (.dup, 1) := by decide +kernel
theorem dX6_countOutcome_59 : decode mX6_countOutcome.2.1 59 = .ok (.getfield 45, 3) := by decide +kernel
theorem dX6_countOutcome_62 : decode mX6_countOutcome.2.1 62 = .ok (.iconst 1, 1) := by decide +kernel
theorem dX6_countOutcome_63 : decode mX6_countOutcome.2.1 63 = .ok (.iadd, 1) := by decide +kernel
theorem dX6_countOutcome_64 : decode mX6_countOutcome.2.1 64 = .ok (.putfield 45, 3) := by decide +kernel
theorem dX6_countOutcome_67 : decode mX6_countOutcome.2.1 67 = .ok (.return_, 1) := by decide +kernel
theorem dX6_fetch_0 : decode mX6_fetch.2.1 0 = .ok (.aload_n 0, 1) := by decide +kernel
theorem dX6_fetch_1 : decode mX6_fetch.2.1 1 = .ok (.iload_n 1, 1) := by decide +kernel
theorem dX6_fetch_2 : decode mX6_fetch.2.1 2 = .ok (.invokevirtual 81, 3) := by decide +kernel
theorem dX6_fetch_5 : decode mX6_fetch.2.1 5 = .ok (.astore_n 3, 1) := by decide +kernel
theorem dX6_fetch_6 : decode mX6_fetch.2.1 6 = .ok (.aload_n 0, 1) := by decide +kernel
theorem dX6_fetch_7 : decode mX6_fetch.2.1 7 = .ok (.iload_n 2, 1) := by decide +kernel
theorem dX6_fetch_8 : decode mX6_fetch.2.1 8 = .ok (.invokevirtual 75, 3) := by decide +kernel
theorem dX6_fetch_11 : decode mX6_fetch.2.1 11 = .ok (.astore 4, 2) := by decide +kernel
theorem dX6_fetch_13 : decode mX6_fetch.2.1 13 = .ok (.aload_n 3, 1) := by decide +kernel
theorem dX6_fetch_14 : decode mX6_fetch.2.1 14 = .ok (.ifnull 8, 3) := by decide +kernel
theorem dX6_fetch_17 : decode mX6_fetch.2.1 17 = .ok (.aload 4, 2) := by decide +kernel
theorem dX6_fetch_19 : decode mX6_fetch.2.1 19 = .ok (.ifnonnull 5, 3) := by decide +kernel
theorem dX6_fetch_22 : decode mX6_fetch.2.1 22 = .ok (.iconst 0, 1) := by decide +kernel
theorem dX6_fetch_23 : decode mX6_fetch.2.1 23 = .ok (.ireturn, 1) := by decide +kernel
theorem dX6_fetch_24 : decode mX6_fetch.2.1 24 = .ok (.aload_n 3, 1) := by decide +kernel
theorem dX6_fetch_25 : decode mX6_fetch.2.1 25 = .ok (.iload_n 2, 1) := by decide +kernel
theorem dX6_fetch_26 : decode mX6_fetch.2.1 26 = .ok (.aload 4, 2) := by decide +kernel
theorem dX6_fetch_28 : decode mX6_fetch.2.1 28 = .ok (.aload_n 0, 1) := by decide +kernel
theorem dX6_fetch_29 : decode mX6_fetch.2.1 29 = .ok (.getfield 29, 3) := by decide +kernel
theorem dX6_fetch_32 : decode mX6_fetch.2.1 32 = .ok (.aload_n 0, 1) := by decide +kernel
theorem dX6_fetch_33 : decode mX6_fetch.2.1 33 = .ok (.getfield 33, 3) := by decide +kernel
theorem dX6_fetch_36 : decode mX6_fetch.2.1 36 = .ok (.invokevirtual 164, 3) := by decide +kernel
theorem dX6_fetch_39 : decode mX6_fetch.2.1 39 = .ok (.aload_n 0, 1) := by decide +kernel
theorem dX6_fetch_40 : decode mX6_fetch.2.1 40 = .ok (.dup, 1) := by decide +kernel
theorem dX6_fetch_41 : decode mX6_fetch.2.1 41 = .ok (.getfield 33, 3) := by decide +kernel
theorem dX6_fetch_44 : decode mX6_fetch.2.1 44 = .ok (.iconst 1, 1) := by decide +kernel
theorem dX6_fetch_45 : decode mX6_fetch.2.1 45 = .ok (.iadd, 1) := by decide +kernel
theorem dX6_fetch_46 : decode mX6_fetch.2.1 46 = .ok (.putfield 33, 3) := by decide +kernel
theorem dX6_fetch_49 : decode mX6_fetch.2.1 49 = .ok (.iconst 1, 1) := by decide +kernel
theorem dX6_fetch_50 : decode mX6_fetch.2.1 50 = .ok (.ireturn, 1) := by decide +kernel
theorem dX6_countWarmings_0 : decode mX6_countWarmings.2.1 0 = .ok (.iconst 0, 1) := by decide +kernel
theorem dX6_countWarmings_1 : decode mX6_countWarmings.2.1 1 = .ok (.istore_n 1, 1) := by decide +kernel
theorem dX6_countWarmings_2 : decode mX6_countWarmings.2.1 2 = .ok (.aload_n 0, 1) := by decide +kernel
theorem dX6_countWarmings_3 : decode mX6_countWarmings.2.1 3 = .ok (.getfield 25, 3) := by decide +kernel
theorem dX6_countWarmings_6 : decode mX6_countWarmings.2.1 6 = .ok (.astore_n 2, 1) := by decide +kernel
theorem dX6_countWarmings_7 : decode mX6_countWarmings.2.1 7 = .ok (.aload_n 2, 1) := by decide +kernel
theorem dX6_countWarmings_8 : decode mX6_countWarmings.2.1 8 = .ok (.arraylength, 1) := by decide +kernel
theorem dX6_countWarmings_9 : decode mX6_countWarmings.2.1 9 = .ok (.istore_n 3, 1) := by decide +kernel
theorem dX6_countWarmings_10 : decode mX6_countWarmings.2.1 10 = .ok (.iconst 0, 1) := by decide +kernel
theorem dX6_countWarmings_11 : decode mX6_countWarmings.2.1 11 = .ok (.istore 4, 2) := by decide +kernel
theorem dX6_countWarmings_13 : decode mX6_countWarmings.2.1 13 = .ok (.iload 4, 2) := by decide +kernel
theorem dX6_countWarmings_15 : decode mX6_countWarmings.2.1 15 = .ok (.iload_n 3, 1) := by decide +kernel
theorem dX6_countWarmings_16 : decode mX6_countWarmings.2.1 16 = .ok (.if_icmp .ge 26, 3) := by decide +kernel
theorem dX6_countWarmings_19 : decode mX6_countWarmings.2.1 19 = .ok (.aload_n 2, 1) := by decide +kernel
theorem dX6_countWarmings_20 : decode mX6_countWarmings.2.1 20 = .ok (.iload 4, 2) := by decide +kernel
theorem dX6_countWarmings_22 : decode mX6_countWarmings.2.1 22 = .ok (.aaload, 1) := by decide +kernel
theorem dX6_countWarmings_23 : decode mX6_countWarmings.2.1 23 = .ok (.astore 5, 2) := by decide +kernel
theorem dX6_countWarmings_25 : decode mX6_countWarmings.2.1 25 = .ok (.aload 5, 2) := by decide +kernel
theorem dX6_countWarmings_27 : decode mX6_countWarmings.2.1 27 = .ok (.getfield 70, 3) := by decide +kernel
theorem dX6_countWarmings_30 : decode mX6_countWarmings.2.1 30 = .ok (.ifCond .eq 6, 3) := by decide +kernel
theorem dX6_countWarmings_33 : decode mX6_countWarmings.2.1 33 = .ok (.iinc 1 1, 3) := by decide +kernel
theorem dX6_countWarmings_36 : decode mX6_countWarmings.2.1 36 = .ok (.iinc 4 1, 3) := by decide +kernel
theorem dX6_countWarmings_39 : decode mX6_countWarmings.2.1 39 = .ok (.goto (-26), 3) := by decide +kernel
theorem dX6_countWarmings_42 : decode mX6_countWarmings.2.1 42 = .ok (.iload_n 1, 1) := by decide +kernel
theorem dX6_countWarmings_43 : decode mX6_countWarmings.2.1 43 = .ok (.ireturn, 1) := by decide +kernel
theorem dX6_planWarming_0 : decode mX6_planWarming.2.1 0 = .ok (.aload_n 0, 1) := by decide +kernel
theorem dX6_planWarming_1 : decode mX6_planWarming.2.1 1 = .ok (.getfield 29, 3) := by decide +kernel
theorem dX6_planWarming_4 : decode mX6_planWarming.2.1 4 = .ok (.iload_n 3, 1) := by decide +kernel
theorem dX6_planWarming_5 : decode mX6_planWarming.2.1 5 = .ok (.iadd, 1) := by decide +kernel
theorem dX6_planWarming_6 : decode mX6_planWarming.2.1 6 = .ok (.istore 4, 2) := by decide +kernel
theorem dX6_planWarming_8 : decode mX6_planWarming.2.1 8 = .ok (.iconst 0, 1) := by decide +kernel
theorem dX6_planWarming_9 : decode mX6_planWarming.2.1 9 = .ok (.istore 5, 2) := by decide +kernel
theorem dX6_planWarming_11 : decode mX6_planWarming.2.1 11 = .ok (.aload_n 0, 1) := by decide +kernel
theorem dX6_planWarming_12 : decode mX6_planWarming.2.1 12 = .ok (.getfield 25, 3) := by decide +kernel
theorem dX6_planWarming_15 : decode mX6_planWarming.2.1 15 = .ok (.astore 6, 2) := by decide +kernel
theorem dX6_planWarming_17 : decode mX6_planWarming.2.1 17 = .ok (.aload 6, 2) := by decide +kernel
theorem dX6_planWarming_19 : decode mX6_planWarming.2.1 19 = .ok (.arraylength, 1) := by decide +kernel
theorem dX6_planWarming_20 : decode mX6_planWarming.2.1 20 = .ok (.istore 7, 2) := by decide +kernel
theorem dX6_planWarming_22 : decode mX6_planWarming.2.1 22 = .ok (.iconst 0, 1) := by decide +kernel
theorem dX6_planWarming_23 : decode mX6_planWarming.2.1 23 = .ok (.istore 8, 2) := by decide +kernel
theorem dX6_planWarming_25 : decode mX6_planWarming.2.1 25 = .ok (.iload 8, 2) := by decide +kernel
theorem dX6_planWarming_27 : decode mX6_planWarming.2.1 27 = .ok (.iload 7, 2) := by decide +kernel
theorem dX6_planWarming_29 : decode mX6_planWarming.2.1 29 = .ok (.if_icmp .ge 37, 3) := by decide +kernel
theorem dX6_planWarming_32 : decode mX6_planWarming.2.1 32 = .ok (.aload 6, 2) := by decide +kernel
theorem dX6_planWarming_34 : decode mX6_planWarming.2.1 34 = .ok (.iload 8, 2) := by decide +kernel
theorem dX6_planWarming_36 : decode mX6_planWarming.2.1 36 = .ok (.aaload, 1) := by decide +kernel
theorem dX6_planWarming_37 : decode mX6_planWarming.2.1 37 = .ok (.astore 9, 2) := by decide +kernel
theorem dX6_planWarming_39 : decode mX6_planWarming.2.1 39 = .ok (.aload 9, 2) := by decide +kernel
theorem dX6_planWarming_41 : decode mX6_planWarming.2.1 41 = .ok (.getfield 70, 3) := by decide +kernel
theorem dX6_planWarming_44 : decode mX6_planWarming.2.1 44 = .ok (.ifCond .eq 16, 3) := by decide +kernel
theorem dX6_planWarming_47 : decode mX6_planWarming.2.1 47 = .ok (.aload 9, 2) := by decide +kernel
theorem dX6_planWarming_49 : decode mX6_planWarming.2.1 49 = .ok (.getfield 167, 3) := by decide +kernel
theorem dX6_planWarming_52 : decode mX6_planWarming.2.1 52 = .ok (.iload 4, 2) := by decide +kernel
theorem dX6_planWarming_54 : decode mX6_planWarming.2.1 54 = .ok (.if_icmp .gt 6, 3) := by decide +kernel
theorem dX6_planWarming_57 : decode mX6_planWarming.2.1 57 = .ok (.iinc 5 1, 3) := by decide +kernel
theorem dX6_planWarming_60 : decode mX6_planWarming.2.1 60 = .ok (.iinc 8 1, 3) := by decide +kernel
theorem dX6_planWarming_63 : decode mX6_planWarming.2.1 63 = .ok (.goto (-38), 3) := by decide +kernel
theorem dX6_planWarming_66 : decode mX6_planWarming.2.1 66 = .ok (.aload_n 0, 1) := by decide +kernel
theorem dX6_planWarming_67 : decode mX6_planWarming.2.1 67 = .ok (.getfield 25, 3) := by decide +kernel
theorem dX6_planWarming_70 : decode mX6_planWarming.2.1 70 = .ok (.astore 6, 2) := by decide +kernel
theorem dX6_planWarming_72 : decode mX6_planWarming.2.1 72 = .ok (.aload 6, 2) := by decide +kernel
theorem dX6_planWarming_74 : decode mX6_planWarming.2.1 74 = .ok (.arraylength, 1) := by decide +kernel
theorem dX6_planWarming_75 : decode mX6_planWarming.2.1 75 = .ok (.istore 7, 2) := by decide +kernel
theorem dX6_planWarming_77 : decode mX6_planWarming.2.1 77 = .ok (.iconst 0, 1) := by decide +kernel
theorem dX6_planWarming_78 : decode mX6_planWarming.2.1 78 = .ok (.istore 8, 2) := by decide +kernel
theorem dX6_planWarming_80 : decode mX6_planWarming.2.1 80 = .ok (.iload 8, 2) := by decide +kernel
theorem dX6_planWarming_82 : decode mX6_planWarming.2.1 82 = .ok (.iload 7, 2) := by decide +kernel
theorem dX6_planWarming_84 : decode mX6_planWarming.2.1 84 = .ok (.if_icmp .ge 52, 3) := by decide +kernel
theorem dX6_planWarming_87 : decode mX6_planWarming.2.1 87 = .ok (.aload 6, 2) := by decide +kernel
theorem dX6_planWarming_89 : decode mX6_planWarming.2.1 89 = .ok (.iload 8, 2) := by decide +kernel
theorem dX6_planWarming_91 : decode mX6_planWarming.2.1 91 = .ok (.aaload, 1) := by decide +kernel
theorem dX6_planWarming_92 : decode mX6_planWarming.2.1 92 = .ok (.astore 9, 2) := by decide +kernel
theorem dX6_planWarming_94 : decode mX6_planWarming.2.1 94 = .ok (.aload 9, 2) := by decide +kernel
theorem dX6_planWarming_96 : decode mX6_planWarming.2.1 96 = .ok (.getfield 70, 3) := by decide +kernel
theorem dX6_planWarming_99 : decode mX6_planWarming.2.1 99 = .ok (.ifCond .ne 31, 3) := by decide +kernel
theorem dX6_planWarming_102 : decode mX6_planWarming.2.1 102 = .ok (.aload 9, 2) := by decide +kernel
theorem dX6_planWarming_104 : decode mX6_planWarming.2.1 104 = .ok (.iconst 1, 1) := by decide +kernel
theorem dX6_planWarming_105 : decode mX6_planWarming.2.1 105 = .ok (.putfield 70, 3) := by decide +kernel
theorem dX6_planWarming_108 : decode mX6_planWarming.2.1 108 = .ok (.aload 9, 2) := by decide +kernel
theorem dX6_planWarming_110 : decode mX6_planWarming.2.1 110 = .ok (.iload 4, 2) := by decide +kernel
theorem dX6_planWarming_112 : decode mX6_planWarming.2.1 112 = .ok (.putfield 167, 3) := by decide +kernel
theorem dX6_planWarming_115 : decode mX6_planWarming.2.1 115 = .ok (.aload 9, 2) := by decide +kernel
theorem dX6_planWarming_117 : decode mX6_planWarming.2.1 117 = .ok (.iload_n 1, 1) := by decide +kernel
theorem dX6_planWarming_118 : decode mX6_planWarming.2.1 118 = .ok (.putfield 168, 3) := by decide +kernel
theorem dX6_planWarming_121 : decode mX6_planWarming.2.1 121 = .ok (.aload 9, 2) := by decide +kernel
theorem dX6_planWarming_123 : decode mX6_planWarming.2.1 123 = .ok (.iload_n 2, 1) := by decide +kernel
theorem dX6_planWarming_124 : decode mX6_planWarming.2.1 124 = .ok (.putfield 171, 3) := by decide +kernel
theorem dX6_planWarming_127 : decode mX6_planWarming.2.1 127 = .ok (.goto 9, 3) := by decide +kernel
theorem dX6_planWarming_130 : decode mX6_planWarming.2.1 130 = .ok (.iinc 8 1, 3) := by decide +kernel
theorem dX6_planWarming_133 : decode mX6_planWarming.2.1 133 = .ok (.goto (-53), 3) := by decide +kernel
theorem dX6_planWarming_136 : decode mX6_planWarming.2.1 136 = .ok (.aload_n 0, 1) := by decide +kernel
theorem dX6_planWarming_137 : decode mX6_planWarming.2.1 137 = .ok (.invokevirtual 172, 3) := by decide +kernel
theorem dX6_planWarming_140 : decode mX6_planWarming.2.1 140 = .ok (.iload 5, 2) := by decide +kernel
theorem dX6_planWarming_142 : decode mX6_planWarming.2.1 142 = .ok (.ireturn, 1) := by decide +kernel
theorem dX6_removeWarming_0 : decode mX6_removeWarming.2.1 0 = .ok (.aload_n 1, 1) := by decide +kernel
theorem dX6_removeWarming_1 : decode mX6_removeWarming.2.1 1 = .ok (.iconst 0, 1) := by decide +kernel
theorem dX6_removeWarming_2 : decode mX6_removeWarming.2.1 2 = .ok (.putfield 70, 3) := by decide +kernel
theorem dX6_removeWarming_5 : decode mX6_removeWarming.2.1 5 = .ok (.aload_n 0, 1) := by decide +kernel
theorem dX6_removeWarming_6 : decode mX6_removeWarming.2.1 6 = .ok (.invokevirtual 172, 3) := by decide +kernel
theorem dX6_removeWarming_9 : decode mX6_removeWarming.2.1 9 = .ok (.return_, 1) := by decide +kernel
theorem dX6_sortWarmings_0 : decode mX6_sortWarmings.2.1 0 = .ok (.iconst 1, 1) := by decide +kernel
theorem dX6_sortWarmings_1 : decode mX6_sortWarmings.2.1 1 = .ok (.istore_n 1, 1) := by decide +kernel
theorem dX6_sortWarmings_2 : decode mX6_sortWarmings.2.1 2 = .ok (.iload_n 1, 1) := by decide +kernel
theorem dX6_sortWarmings_3 : decode mX6_sortWarmings.2.1 3 = .ok (.aload_n 0, 1) := by decide +kernel
theorem dX6_sortWarmings_4 : decode mX6_sortWarmings.2.1 4 = .ok (.getfield 25, 3) := by decide +kernel
theorem dX6_sortWarmings_7 : decode mX6_sortWarmings.2.1 7 = .ok (.arraylength, 1) := by decide +kernel
theorem dX6_sortWarmings_8 : decode mX6_sortWarmings.2.1 8 = .ok (.if_icmp .ge 67, 3) := by decide +kernel
theorem dX6_sortWarmings_11 : decode mX6_sortWarmings.2.1 11 = .ok (.iload_n 1, 1) := by decide +kernel
theorem dX6_sortWarmings_12 : decode mX6_sortWarmings.2.1 12 = .ok (.istore_n 2, 1) := by decide +kernel
theorem dX6_sortWarmings_13 : decode mX6_sortWarmings.2.1 13 = .ok (.iload_n 2, 1) := by decide +kernel
theorem dX6_sortWarmings_14 : decode mX6_sortWarmings.2.1 14 = .ok (.ifCond .le 55, 3) := by decide +kernel
theorem dX6_sortWarmings_17 : decode mX6_sortWarmings.2.1 17 = .ok (.aload_n 0, 1) := by decide +kernel
theorem dX6_sortWarmings_18 : decode mX6_sortWarmings.2.1 18 = .ok (.getfield 25, 3) := by decide +kernel
theorem dX6_sortWarmings_21 : decode mX6_sortWarmings.2.1 21 = .ok (.iload_n 2, 1) := by decide +kernel
theorem dX6_sortWarmings_22 : decode mX6_sortWarmings.2.1 22 = .ok (.aaload, 1) := by decide +kernel
theorem dX6_sortWarmings_23 : decode mX6_sortWarmings.2.1 23 = .ok (.astore_n 3, 1) := by decide +kernel
theorem dX6_sortWarmings_24 : decode mX6_sortWarmings.2.1 24 = .ok (.aload_n 0, 1) := by decide +kernel
theorem dX6_sortWarmings_25 : decode mX6_sortWarmings.2.1 25 = .ok (.getfield 25, 3) := by decide +kernel
theorem dX6_sortWarmings_28 : decode mX6_sortWarmings.2.1 28 = .ok (.iload_n 2, 1) := by decide +kernel
theorem dX6_sortWarmings_29 : decode mX6_sortWarmings.2.1 29 = .ok (.iconst 1, 1) := by decide +kernel
theorem dX6_sortWarmings_30 : decode mX6_sortWarmings.2.1 30 = .ok (.isub, 1) := by decide +kernel
theorem dX6_sortWarmings_31 : decode mX6_sortWarmings.2.1 31 = .ok (.aaload, 1) := by decide +kernel
theorem dX6_sortWarmings_32 : decode mX6_sortWarmings.2.1 32 = .ok (.astore 4, 2) := by decide +kernel
theorem dX6_sortWarmings_34 : decode mX6_sortWarmings.2.1 34 = .ok (.aload_n 3, 1) := by decide +kernel
theorem dX6_sortWarmings_35 : decode mX6_sortWarmings.2.1 35 = .ok (.aload 4, 2) := by decide +kernel
theorem dX6_sortWarmings_37 : decode mX6_sortWarmings.2.1 37 = .ok (.invokevirtual 175, 3) := by decide +kernel
theorem dX6_sortWarmings_40 : decode mX6_sortWarmings.2.1 40 = .ok (.ifCond .ne 6, 3) := by decide +kernel
theorem dX6_sortWarmings_43 : decode mX6_sortWarmings.2.1 43 = .ok (.goto 26, 3) := by decide +kernel
theorem dX6_sortWarmings_46 : decode mX6_sortWarmings.2.1 46 = .ok (.aload_n 0, 1) := by decide +kernel
theorem dX6_sortWarmings_47 : decode mX6_sortWarmings.2.1 47 = .ok (.getfield 25, 3) := by decide +kernel
theorem dX6_sortWarmings_50 : decode mX6_sortWarmings.2.1 50 = .ok (.iload_n 2, 1) := by decide +kernel
theorem dX6_sortWarmings_51 : decode mX6_sortWarmings.2.1 51 = .ok (.aload 4, 2) := by decide +kernel
theorem dX6_sortWarmings_53 : decode mX6_sortWarmings.2.1 53 = .ok (.aastore, 1) := by decide +kernel
theorem dX6_sortWarmings_54 : decode mX6_sortWarmings.2.1 54 = .ok (.aload_n 0, 1) := by decide +kernel
theorem dX6_sortWarmings_55 : decode mX6_sortWarmings.2.1 55 = .ok (.getfield 25, 3) := by decide +kernel
theorem dX6_sortWarmings_58 : decode mX6_sortWarmings.2.1 58 = .ok (.iload_n 2, 1) := by decide +kernel
theorem dX6_sortWarmings_59 : decode mX6_sortWarmings.2.1 59 = .ok (.iconst 1, 1) := by decide +kernel
theorem dX6_sortWarmings_60 : decode mX6_sortWarmings.2.1 60 = .ok (.isub, 1) := by decide +kernel
theorem dX6_sortWarmings_61 : decode mX6_sortWarmings.2.1 61 = .ok (.aload_n 3, 1) := by decide +kernel
theorem dX6_sortWarmings_62 : decode mX6_sortWarmings.2.1 62 = .ok (.aastore, 1) := by decide +kernel
theorem dX6_sortWarmings_63 : decode mX6_sortWarmings.2.1 63 = .ok (.iinc 2 (-1), 3) := by decide +kernel
theorem dX6_sortWarmings_66 : decode mX6_sortWarmings.2.1 66 = .ok (.goto (-53), 3) := by decide +kernel
theorem dX6_sortWarmings_69 : decode mX6_sortWarmings.2.1 69 = .ok (.iinc 1 1, 3) := by decide +kernel
theorem dX6_sortWarmings_72 : decode mX6_sortWarmings.2.1 72 = .ok (.goto (-70), 3) := by decide +kernel
theorem dX6_sortWarmings_75 : decode mX6_sortWarmings.2.1 75 = .ok (.return_, 1) := by decide +kernel
theorem dX6_letPass_0 : decode mX6_letPass.2.1 0 = .ok (.iconst 0, 1) := by decide +kernel
theorem dX6_letPass_1 : decode mX6_letPass.2.1 1 = .ok (.istore_n 2, 1) := by decide +kernel
theorem dX6_letPass_2 : decode mX6_letPass.2.1 2 = .ok (.iconst 0, 1) := by decide +kernel
theorem dX6_letPass_3 : decode mX6_letPass.2.1 3 = .ok (.istore_n 3, 1) := by decide +kernel
theorem dX6_letPass_4 : decode mX6_letPass.2.1 4 = .ok (.iload_n 3, 1) := by decide +kernel
theorem dX6_letPass_5 : decode mX6_letPass.2.1 5 = .ok (.iload_n 1, 1) := by decide +kernel
theorem dX6_letPass_6 : decode mX6_letPass.2.1 6 = .ok (.if_icmp .ge 108, 3) := by decide +kernel
theorem dX6_letPass_9 : decode mX6_letPass.2.1 9 = .ok (.aload_n 0, 1) := by decide +kernel
theorem dX6_letPass_10 : decode mX6_letPass.2.1 10 = .ok (.dup, 1) := by decide +kernel
theorem dX6_letPass_11 : decode mX6_letPass.2.1 11 = .ok (.getfield 29, 3) := by decide +kernel
theorem dX6_letPass_14 : decode mX6_letPass.2.1 14 = .ok (.iconst 1, 1) := by decide +kernel
theorem dX6_letPass_15 : decode mX6_letPass.2.1 15 = .ok (.iadd, 1) := by decide +kernel
theorem dX6_letPass_16 : decode mX6_letPass.2.1 16 = .ok (.putfield 29, 3) := by decide +kernel
theorem dX6_letPass_19 : decode mX6_letPass.2.1 19 = .ok (.aload_n 0, 1) := by decide +kernel
theorem dX6_letPass_20 : decode mX6_letPass.2.1 20 = .ok (.getfield 25, 3) := by decide +kernel
theorem dX6_letPass_23 : decode mX6_letPass.2.1 23 = .ok (.astore 4, 2) := by decide +kernel
theorem dX6_letPass_25 : decode mX6_letPass.2.1 25 = .ok (.aload 4, 2) := by decide +kernel
theorem dX6_letPass_27 : decode mX6_letPass.2.1 27 = .ok (.arraylength, 1) := by decide +kernel
theorem dX6_letPass_28 : decode mX6_letPass.2.1 28 = .ok (.istore 5, 2) := by decide +kernel
theorem dX6_letPass_30 : decode mX6_letPass.2.1 30 = .ok (.iconst 0, 1) := by decide +kernel
theorem dX6_letPass_31 : decode mX6_letPass.2.1 31 = .ok (.istore 6, 2) := by decide +kernel
theorem dX6_letPass_33 : decode mX6_letPass.2.1 33 = .ok (.iload 6, 2) := by decide +kernel
theorem dX6_letPass_35 : decode mX6_letPass.2.1 35 = .ok (.iload 5, 2) := by decide +kernel
theorem dX6_letPass_37 : decode mX6_letPass.2.1 37 = .ok (.if_icmp .ge 67, 3) := by decide +kernel
theorem dX6_letPass_40 : decode mX6_letPass.2.1 40 = .ok (.aload 4, 2) := by decide +kernel
theorem dX6_letPass_42 : decode mX6_letPass.2.1 42 = .ok (.iload 6, 2) := by decide +kernel
theorem dX6_letPass_44 : decode mX6_letPass.2.1 44 = .ok (.aaload, 1) := by decide +kernel
theorem dX6_letPass_45 : decode mX6_letPass.2.1 45 = .ok (.astore 7, 2) := by decide +kernel
theorem dX6_letPass_47 : decode mX6_letPass.2.1 47 = .ok (.aload 7, 2) := by decide +kernel
theorem dX6_letPass_49 : decode mX6_letPass.2.1 49 = .ok (.getfield 70, 3) := by decide +kernel
theorem dX6_letPass_52 : decode mX6_letPass.2.1 52 = .ok (.ifCond .eq 46, 3) := by decide +kernel
theorem dX6_letPass_55 : decode mX6_letPass.2.1 55 = .ok (.aload 7, 2) := by decide +kernel
theorem dX6_letPass_57 : decode mX6_letPass.2.1 57 = .ok (.getfield 167, 3) := by decide +kernel
theorem dX6_letPass_60 : decode mX6_letPass.2.1 60 = .ok (.aload_n 0, 1) := by decide +kernel
theorem dX6_letPass_61 : decode mX6_letPass.2.1 61 = .ok (.getfield 29, 3) := by decide +kernel
theorem dX6_letPass_64 : decode mX6_letPass.2.1 64 = .ok (.if_icmp .ne 34, 3) := by decide +kernel
theorem dX6_letPass_67 : decode mX6_letPass.2.1 67 = .ok (.iload_n 2, 1) := by decide +kernel
theorem dX6_letPass_68 : decode mX6_letPass.2.1 68 = .ok (.aload_n 0, 1) := by decide +kernel
theorem dX6_letPass_69 : decode mX6_letPass.2.1 69 = .ok (.aload 7, 2) := by decide +kernel
theorem dX6_letPass_71 : decode mX6_letPass.2.1 71 = .ok (.getfield 168, 3) := by decide +kernel
theorem dX6_letPass_74 : decode mX6_letPass.2.1 74 = .ok (.aload 7, 2) := by decide +kernel
theorem dX6_letPass_76 : decode mX6_letPass.2.1 76 = .ok (.getfield 171, 3) := by decide +kernel
theorem dX6_letPass_79 : decode mX6_letPass.2.1 79 = .ok (.invokevirtual 160, 3) := by decide +kernel
theorem dX6_letPass_82 : decode mX6_letPass.2.1 82 = .ok (.ifCond .eq 7, 3) := by decide +kernel
theorem dX6_letPass_85 : decode mX6_letPass.2.1 85 = .ok (.iconst 1, 1) := by decide +kernel
theorem dX6_letPass_86 : decode mX6_letPass.2.1 86 = .ok (.goto 4, 3) := by decide +kernel
theorem dX6_letPass_89 : decode mX6_letPass.2.1 89 = .ok (.iconst 0, 1) := by decide +kernel
theorem dX6_letPass_90 : decode mX6_letPass.2.1 90 = .ok (.iadd, 1) := by decide +kernel
theorem dX6_letPass_91 : decode mX6_letPass.2.1 91 = .ok (.istore_n 2, 1) := by decide +kernel
theorem dX6_letPass_92 : decode mX6_letPass.2.1 92 = .ok (.aload 7, 2) := by decide +kernel
theorem dX6_letPass_94 : decode mX6_letPass.2.1 94 = .ok (.iconst 0, 1) := by decide +kernel
theorem dX6_letPass_95 : decode mX6_letPass.2.1 95 = .ok (.putfield 70, 3) := by decide +kernel
theorem dX6_letPass_98 : decode mX6_letPass.2.1 98 = .ok (.iinc 6 1, 3) := by decide +kernel
theorem dX6_letPass_101 : decode mX6_letPass.2.1 101 = .ok (.goto (-68), 3) := by decide +kernel
theorem dX6_letPass_104 : decode mX6_letPass.2.1 104 = .ok (.aload_n 0, 1) := by decide +kernel
theorem dX6_letPass_105 : decode mX6_letPass.2.1 105 = .ok (.invokevirtual 172, 3) := by decide +kernel
theorem dX6_letPass_108 : decode mX6_letPass.2.1 108 = .ok (.iinc 3 1, 3) := by decide +kernel
theorem dX6_letPass_111 : decode mX6_letPass.2.1 111 = .ok (.goto (-107), 3) := by decide +kernel
theorem dX6_letPass_114 : decode mX6_letPass.2.1 114 = .ok (.iload_n 2, 1) := by decide +kernel
theorem dX6_letPass_115 : decode mX6_letPass.2.1 115 = .ok (.ireturn, 1) := by decide +kernel
theorem dX7_init_0 : decode mX7_init.2.1 0 = .ok (.aload_n 0, 1) := by decide +kernel
theorem dX7_init_1 : decode mX7_init.2.1 1 = .ok (.invokespecial 3, 3) := by decide +kernel
theorem dX7_init_4 : decode mX7_init.2.1 4 = .ok (.aload_n 0, 1) := by decide +kernel
theorem dX7_init_5 : decode mX7_init.2.1 5 = .ok (.iconst 0, 1) := by decide +kernel
theorem dX7_init_6 : decode mX7_init.2.1 6 = .ok (.putfield 9, 3) := by decide +kernel
theorem dX7_init_9 : decode mX7_init.2.1 9 = .ok (.aload_n 0, 1) := by decide +kernel
theorem dX7_init_10 : decode mX7_init.2.1 10 = .ok (.iconst 0, 1) := by decide +kernel
theorem dX7_init_11 : decode mX7_init.2.1 11 = .ok (.putfield 15, 3) := by decide +kernel
theorem dX7_init_14 : decode mX7_init.2.1 14 = .ok (.aload_n 0, 1) := by decide +kernel
theorem dX7_init_15 : decode mX7_init.2.1 15 = .ok (.iconst 0, 1) := by decide +kernel
theorem dX7_init_16 : decode mX7_init.2.1 16 = .ok (.putfield 19, 3) := by decide +kernel
theorem dX7_init_19 : decode mX7_init.2.1 19 = .ok (.aload_n 0, 1) := by decide +kernel
theorem dX7_init_20 : decode mX7_init.2.1 20 = .ok (.bipush 32, 2) := by decide +kernel
theorem dX7_init_22 : decode mX7_init.2.1 22 = .ok (.putfield 22, 3) := by decide +kernel
theorem dX7_init_25 : decode mX7_init.2.1 25 = .ok (.return_, 1) := by decide +kernel
theorem dX7_copyFrom_0 : decode mX7_copyFrom.2.1 0 = .ok (.aload_n 0, 1) := by decide +kernel
theorem dX7_copyFrom_1 : decode mX7_copyFrom.2.1 1 = .ok (.aload_n 1, 1) := by decide +kernel
theorem dX7_copyFrom_2 : decode mX7_copyFrom.2.1 2 = .ok (.getfield 9, 3) := by decide +kernel
theorem dX7_copyFrom_5 : decode mX7_copyFrom.2.1 5 = .ok (.putfield 9, 3) := by decide +kernel
theorem dX7_copyFrom_8 : decode mX7_copyFrom.2.1 8 = .ok (.aload_n 0, 1) := by decide +kernel
theorem dX7_copyFrom_9 : decode mX7_copyFrom.2.1 9 = .ok (.aload_n 1, 1) := by decide +kernel
theorem dX7_copyFrom_10 : decode mX7_copyFrom.2.1 10 = .ok (.getfield 15, 3) := by decide +kernel
theorem dX7_copyFrom_13 : decode mX7_copyFrom.2.1 13 = .ok (.putfield 15, 3) := by decide +kernel
theorem dX7_copyFrom_16 : decode mX7_copyFrom.2.1 16 = .ok (.aload_n 0, 1) := by decide +kernel
theorem dX7_copyFrom_17 : decode mX7_copyFrom.2.1 17 = .ok (.aload_n 1, 1) := by decide +kernel
theorem dX7_copyFrom_18 : decode mX7_copyFrom.2.1 18 = .ok (.getfield 19, 3) := by decide +kernel
theorem dX7_copyFrom_21 : decode mX7_copyFrom.2.1 21 = .ok (.putfield 19, 3) := by decide +kernel
theorem dX7_copyFrom_24 : decode mX7_copyFrom.2.1 24 = .ok (.aload_n 0, 1) := by decide +kernel
theorem dX7_copyFrom_25 : decode mX7_copyFrom.2.1 25 = .ok (.aload_n 1, 1) := by decide +kernel
theorem dX7_copyFrom_26 : decode mX7_copyFrom.2.1 26 = .ok (.getfield 22, 3) := by decide +kernel
theorem dX7_copyFrom_29 : decode mX7_copyFrom.2.1 29 = .ok (.putfield 22, 3) := by decide +kernel
theorem dX7_copyFrom_32 : decode mX7_copyFrom.2.1 32 = .ok (.return_, 1) := by decide +kernel
theorem dX7_isBefore_0 : decode mX7_isBefore.2.1 0 = .ok (.aload_n 0, 1) := by decide +kernel
theorem dX7_isBefore_1 : decode mX7_isBefore.2.1 1 = .ok (.getfield 9, 3) := by decide +kernel
theorem dX7_isBefore_4 : decode mX7_isBefore.2.1 4 = .ok (.ifCond .eq 25, 3) := by decide +kernel
theorem dX7_isBefore_7 : decode mX7_isBefore.2.1 7 = .ok (.aload_n 1, 1) := by decide +kernel
theorem dX7_isBefore_8 : decode mX7_isBefore.2.1 8 = .ok (.getfield 9, 3) := by decide +kernel
theorem dX7_isBefore_11 : decode mX7_isBefore.2.1 11 = .ok (.ifCond .eq 14, 3) := by decide +kernel
theorem dX7_isBefore_14 : decode mX7_isBefore.2.1 14 = .ok (.aload_n 0, 1) := by decide +kernel
theorem dX7_isBefore_15 : decode mX7_isBefore.2.1 15 = .ok (.getfield 15, 3) := by decide +kernel
theorem dX7_isBefore_18 : decode mX7_isBefore.2.1 18 = .ok (.aload_n 1, 1) := by decide +kernel
theorem dX7_isBefore_19 : decode mX7_isBefore.2.1 19 = .ok (.getfield 15, 3) := by decide +kernel
theorem dX7_isBefore_22 : decode mX7_isBefore.2.1 22 = .ok (.if_icmp .ge 7, 3) := by decide +kernel
theorem dX7_isBefore_25 : decode mX7_isBefore.2.1 25 = .ok (.iconst 1, 1) := by decide +kernel
theorem dX7_isBefore_26 : decode mX7_isBefore.2.1 26 = .ok (.goto 4, 3) := by decide +kernel
theorem dX7_isBefore_29 : decode mX7_isBefore.2.1 29 = .ok (.iconst 0, 1) := by decide +kernel
theorem dX7_isBefore_30 : decode mX7_isBefore.2.1 30 = .ok (.ireturn, 1) := by decide +kernel
