theorem dX9_init_0 : decode mX9_init.2.1 0 = .ok (.aload_n 0, 1) := by decide +kernel
theorem dX9_init_1 : decode mX9_init.2.1 1 = .ok (.invokespecial 3, 3) := by decide +kernel
theorem dX9_init_4 : decode mX9_init.2.1 4 = .ok (.aload_n 0, 1) := by decide +kernel
theorem dX9_init_5 : decode mX9_init.2.1 5 = .ok (.sipush 858, 3) := by decide +kernel
theorem dX9_init_8 : decode mX9_init.2.1 8 = .ok (.newarray .int, 2) := by decide +kernel
theorem dX9_init_10 : decode mX9_init.2.1 10 = .ok (.putfield 9, 3) := by decide +kernel
theorem dX9_init_13 : decode mX9_init.2.1 13 = .ok (.aload_n 0, 1) := by decide +kernel
theorem dX9_init_14 : decode mX9_init.2.1 14 = .ok (.sipush 858, 3) := by decide +kernel
theorem dX9_init_17 : decode mX9_init.2.1 17 = .ok (.newarray .int, 2) := by decide +kernel
theorem dX9_init_19 : decode mX9_init.2.1 19 = .ok (.putfield 13, 3) := by decide +kernel
theorem dX9_init_22 : decode mX9_init.2.1 22 = .ok (.aload_n 0, 1) := by decide +kernel
theorem dX9_init_23 : decode mX9_init.2.1 23 = .ok (.sipush 858, 3) := by decide +kernel
theorem dX9_init_26 : decode mX9_init.2.1 26 = .ok (.newarray .int, 2) := by decide +kernel
theorem dX9_init_28 : decode mX9_init.2.1 28 = .ok (.putfield 16, 3) := by decide +kernel
theorem dX9_init_31 : decode mX9_init.2.1 31 = .ok (.aload_n 0, 1) := by decide +kernel
theorem dX9_init_32 : decode mX9_init.2.1 32 = .ok (.sipush 6864, 3) := by decide +kernel
theorem dX9_init_35 : decode mX9_init.2.1 35 = .ok (.newarray .int, 2) := by decide +kernel
theorem dX9_init_37 : decode mX9_init.2.1 37 = .ok (.putfield 19, 3) := by decide +kernel
theorem dX9_init_40 : decode mX9_init.2.1 40 = .ok (.aload_n 0, 1) := by decide +kernel
theorem dX9_init_41 : decode mX9_init.2.1 41 = .ok (.bipush 60, 2) := by decide +kernel
theorem dX9_init_43 : decode mX9_init.2.1 43 = .ok (.newarray .char, 2) := by decide +kernel
theorem dX9_init_45 : decode mX9_init.2.1 45 = .ok (.putfield 22, 3) := by decide +kernel
theorem dX9_init_48 : decode mX9_init.2.1 48 = .ok (.aload_n 0, 1) := by decide +kernel
theorem dX9_init_49 : decode mX9_init.2.1 49 = .ok (.bipush 60, 2) := by decide +kernel
theorem dX9_init_51 : decode mX9_init.2.1 51 = .ok (.newarray .char, 2) := by decide +kernel
theorem dX9_init_53 : decode mX9_init.2.1 53 = .ok (.putfield 26, 3) := by decide +kernel
theorem dX9_init_56 : decode mX9_init.2.1 56 = .ok (.aload_n 0, 1) := by decide +kernel
theorem dX9_init_57 : decode mX9_init.2.1 57 = .ok (.iconst (-1), 1) := by decide +kernel
theorem dX9_init_58 : decode mX9_init.2.1 58 = .ok (.putfield 29, 3) := by decide +kernel
theorem dX9_init_61 : decode mX9_init.2.1 61 = .ok (.aload_n 0, 1) := by decide +kernel
theorem dX9_init_62 : decode mX9_init.2.1 62 = .ok (.iconst (-1), 1) := by decide +kernel
theorem dX9_init_63 : decode mX9_init.2.1 63 = .ok (.putfield 33, 3) := by decide +kernel
theorem dX9_init_66 : decode mX9_init.2.1 66 = .ok (.aload_n 0, 1) := by decide +kernel
theorem dX9_init_67 : decode mX9_init.2.1 67 = .ok (.sipush 240, 3) := by decide +kernel
theorem dX9_init_70 : decode mX9_init.2.1 70 = .ok (.newarray .int, 2) := by decide +kernel
theorem dX9_init_72 : decode mX9_init.2.1 72 = .ok (.putfield 36, 3) := by decide +kernel
theorem dX9_init_75 : decode mX9_init.2.1 75 = .ok (.return_, 1) := by decide +kernel
theorem dX9_thrown_0 : decode mX9_thrown.2.1 0 = .ok (.aload_n 0, 1) := by decide +kernel
theorem dX9_thrown_1 : decode mX9_thrown.2.1 1 = .ok (.getfield 39, 3) := by decide +kernel
theorem dX9_thrown_4 : decode mX9_thrown.2.1 4 = .ok (.ireturn, 1) := by decide +kernel
theorem dX9_in_0 : decode mX9_in.2.1 0 = .ok (.iload_n 0, 1) := by decide +kernel
theorem dX9_in_1 : decode mX9_in.2.1 1 = .ok (.iload_n 1, 1) := by decide +kernel
theorem dX9_in_2 : decode mX9_in.2.1 2 = .ok (.if_icmp .lt 12, 3) := by decide +kernel
theorem dX9_in_5 : decode mX9_in.2.1 5 = .ok (.iload_n 0, 1) := by decide +kernel
theorem dX9_in_6 : decode mX9_in.2.1 6 = .ok (.iload_n 2, 1) := by decide +kernel
theorem dX9_in_7 : decode mX9_in.2.1 7 = .ok (.if_icmp .gt 7, 3) := by decide +kernel
theorem dX9_in_10 : decode mX9_in.2.1 10 = .ok (.iconst 1, 1) := by decide +kernel
theorem dX9_in_11 : decode mX9_in.2.1 11 = .ok (.goto 4, 3) := by decide +kernel
theorem dX9_in_14 : decode mX9_in.2.1 14 = .ok (.iconst 0, 1) := by decide +kernel
theorem dX9_in_15 : decode mX9_in.2.1 15 = .ok (.ireturn, 1) := by decide +kernel
theorem dX9_keep_0 : decode mX9_keep.2.1 0 = .ok (.aload_n 0, 1) := by decide +kernel
theorem dX9_keep_1 : decode mX9_keep.2.1 1 = .ok (.iconst 0, 1) := by decide +kernel
theorem dX9_keep_2 : decode mX9_keep.2.1 2 = .ok (.putfield 39, 3) := by decide +kernel
theorem dX9_keep_5 : decode mX9_keep.2.1 5 = .ok (.aload_n 0, 1) := by decide +kernel
theorem dX9_keep_6 : decode mX9_keep.2.1 6 = .ok (.getfield 9, 3) := by decide +kernel
theorem dX9_keep_9 : decode mX9_keep.2.1 9 = .ok (.iconst 0, 1) := by decide +kernel
theorem dX9_keep_10 : decode mX9_keep.2.1 10 = .ok (.aload_n 0, 1) := by decide +kernel
theorem dX9_keep_11 : decode mX9_keep.2.1 11 = .ok (.getfield 13, 3) := by decide +kernel
theorem dX9_keep_14 : decode mX9_keep.2.1 14 = .ok (.iconst 0, 1) := by decide +kernel
theorem dX9_keep_15 : decode mX9_keep.2.1 15 = .ok (.sipush 858, 3) := by decide +kernel
theorem dX9_keep_18 : decode mX9_keep.2.1 18 = .ok (.invokestatic 42, 3) := by decide +kernel
theorem dX9_keep_21 : decode mX9_keep.2.1 21 = .ok (.return_, 1) := by decide +kernel
theorem dX9_ends_0 : decode mX9_ends.2.1 0 = .ok (.aload_n 0, 1) := by decide +kernel
theorem dX9_ends_1 : decode mX9_ends.2.1 1 = .ok (.getfield 39, 3) := by decide +kernel
theorem dX9_ends_4 : decode mX9_ends.2.1 4 = .ok (.ifCond .le 21, 3) := by decide +kernel
theorem dX9_ends_7 : decode mX9_ends.2.1 7 = .ok (.aload_n 0, 1) := by decide +kernel
theorem dX9_ends_8 : decode mX9_ends.2.1 8 = .ok (.getfield 13, 3) := by decide +kernel
theorem dX9_ends_11 : decode mX9_ends.2.1 11 = .ok (.iconst 0, 1) := by decide +kernel
theorem dX9_ends_12 : decode mX9_ends.2.1 12 = .ok (.aload_n 0, 1) := by decide +kernel
theorem dX9_ends_13 : decode mX9_ends.2.1 13 = .ok (.getfield 9, 3) := by decide +kernel
theorem dX9_ends_16 : decode mX9_ends.2.1 16 = .ok (.iconst 0, 1) := by decide +kernel
theorem dX9_ends_17 : decode mX9_ends.2.1 17 = .ok (.sipush 858, 3) := by decide +kernel
theorem dX9_ends_20 : decode mX9_ends.2.1 20 = .ok (.invokestatic 42, 3) := by decide +kernel
theorem dX9_ends_23 : decode mX9_ends.2.1 23 = .ok (.iconst 0, 1) := by decide +kernel
theorem dX9_ends_24 : decode mX9_ends.2.1 24 = .ok (.ireturn, 1) := by decide +kernel
theorem dX9_ends_25 : decode mX9_ends.2.1 25 = .ok (.aload_n 0, 1) := by decide +kernel
theorem dX9_ends_26 : decode mX9_ends.2.1 26 = .ok (.getfield 48, 3) := by decide +kernel
theorem dX9_ends_29 : decode mX9_ends.2.1 29 = .ok (.bipush 8, 2) := by decide +kernel
theorem dX9_ends_31 : decode mX9_ends.2.1 31 = .ok (.if_icmp .ne 31, 3) := by decide +kernel
theorem dX9_ends_34 : decode mX9_ends.2.1 34 = .ok (.aload_n 0, 1) := by decide +kernel
theorem dX9_ends_35 : decode mX9_ends.2.1 35 = .ok (.getfield 19, 3) := by decide +kernel
theorem dX9_ends_38 : decode mX9_ends.2.1 38 = .ok (.sipush 858, 3) := by decide +kernel
theorem dX9_ends_41 : decode mX9_ends.2.1 41 = .ok (.aload_n 0, 1) := by decide +kernel
theorem dX9_ends_42 : decode mX9_ends.2.1 42 = .ok (.getfield 19, 3) := by decide +kernel
theorem dX9_ends_45 : decode mX9_ends.2.1 45 = .ok (.iconst 0, 1) := by decide +kernel
theorem dX9_ends_46 : decode mX9_ends.2.1 46 = .ok (.sipush 6006, 3) := by decide +kernel
theorem dX9_ends_49 : decode mX9_ends.2.1 49 = .ok (.invokestatic 42, 3) := by decide +kernel
theorem dX9_ends_52 : decode mX9_ends.2.1 52 = .ok (.aload_n 0, 1) := by decide +kernel
theorem dX9_ends_53 : decode mX9_ends.2.1 53 = .ok (.dup, 1) := by decide +kernel
theorem dX9_ends_54 : decode mX9_ends.2.1 54 = .ok (.getfield 48, 3) := by decide +kernel
theorem dX9_ends_57 : decode mX9_ends.2.1 57 = .ok (.iconst 1, 1) := by decide +kernel
theorem dX9_ends_58 : decode mX9_ends.2.1 58 = .ok (.isub, 1) := by decide +kernel
theorem dX9_ends_59 : decode mX9_ends.2.1 59 = .ok (.putfield 48, 3) := by decide +kernel
theorem dX9_ends_62 : decode mX9_ends.2.1 62 = .ok (.aload_n 0, 1) := by decide +kernel
theorem dX9_ends_63 : decode mX9_ends.2.1 63 = .ok (.getfield 13, 3) := by decide +kernel
theorem dX9_ends_66 : decode mX9_ends.2.1 66 = .ok (.iconst 0, 1) := by decide +kernel
theorem dX9_ends_67 : decode mX9_ends.2.1 67 = .ok (.aload_n 0, 1) := by decide +kernel
theorem dX9_ends_68 : decode mX9_ends.2.1 68 = .ok (.getfield 19, 3) := by decide +kernel
theorem dX9_ends_71 : decode mX9_ends.2.1 71 = .ok (.sipush 858, 3) := by decide +kernel
theorem dX9_ends_74 : decode mX9_ends.2.1 74 = .ok (.aload_n 0, 1) := by decide +kernel
theorem dX9_ends_75 : decode mX9_ends.2.1 75 = .ok (.getfield 48, 3) := by decide +kernel
theorem dX9_ends_78 : decode mX9_ends.2.1 78 = .ok (.imul, 1) := by decide +kernel
theorem dX9_ends_79 : decode mX9_ends.2.1 79 = .ok (.sipush 858, 3) := by decide +kernel
theorem dX9_ends_82 : decode mX9_ends.2.1 82 = .ok (.invokestatic 42, 3) := by decide +kernel
theorem dX9_ends_85 : decode mX9_ends.2.1 85 = .ok (.aload_n 0, 1) := by decide +kernel
theorem dX9_ends_86 : decode mX9_ends.2.1 86 = .ok (.dup, 1) := by decide +kernel
theorem dX9_ends_87 : decode mX9_ends.2.1 87 = .ok (.getfield 48, 3) := by decide +kernel
theorem dX9_ends_90 : decode mX9_ends.2.1 90 = .ok (.iconst 1, 1) := by decide +kernel
theorem dX9_ends_91 : decode mX9_ends.2.1 91 = .ok (.iadd, 1) := by decide +kernel
theorem dX9_ends_92 : decode mX9_ends.2.1 92 = .ok (.putfield 48, 3) := by decide +kernel
theorem dX9_ends_95 : decode mX9_ends.2.1 95 = .ok (.iload_n 1, 1) := by decide +kernel
theorem dX9_ends_96 : decode mX9_ends.2.1 96 = .ok (.ireturn, 1) := by decide +kernel
theorem dX9_fails_0 : decode mX9_fails.2.1 0 = .ok (.aload_n 0, 1) := by decide +kernel
theorem dX9_fails_1 : decode mX9_fails.2.1 1 = .ok (.iload_n 1, 1) := by decide +kernel
theorem dX9_fails_2 : decode mX9_fails.2.1 2 = .ok (.putfield 39, 3) := by decide +kernel
theorem dX9_fails_5 : decode mX9_fails.2.1 5 = .ok (.iconst 0, 1) := by decide +kernel
theorem dX9_fails_6 : decode mX9_fails.2.1 6 = .ok (.ireturn, 1) := by decide +kernel
theorem dX9_isThere_0 : decode mX9_isThere.2.1 0 = .ok (.aload_n 0, 1) := by decide +kernel
theorem dX9_isThere_1 : decode mX9_isThere.2.1 1 = .ok (.iload_n 1, 1) := by decide +kernel
theorem dX9_isThere_2 : decode mX9_isThere.2.1 2 = .ok (.ifCond .eq 7, 3) := by decide +kernel
theorem dX9_isThere_5 : decode mX9_isThere.2.1 5 = .ok (.iconst 0, 1) := by decide +kernel
theorem dX9_isThere_6 : decode mX9_isThere.2.1 6 = .ok (.goto 4, 3) := by decide +kernel
theorem dX9_isThere_9 : decode mX9_isThere.2.1 9 = .ok (.iconst 1, 1) := by decide +kernel
theorem dX9_isThere_10 : decode mX9_isThere.2.1 10 = .ok (.putfield 39, 3) := by decide +kernel
theorem dX9_isThere_13 : decode mX9_isThere.2.1 13 = .ok (.iload_n 1, 1) := by decide +kernel
theorem dX9_isThere_14 : decode mX9_isThere.2.1 14 = .ok (.ireturn, 1) := by decide +kernel
theorem dX9_isLetter_0 : decode mX9_isLetter.2.1 0 = .ok (.iload_n 0, 1) := by decide +kernel
theorem dX9_isLetter_1 : decode mX9_isLetter.2.1 1 = .ok (.bipush 97, 2) := by decide +kernel
theorem dX9_isLetter_3 : decode mX9_isLetter.2.1 3 = .ok (.bipush 122, 2) := by decide +kernel
theorem dX9_isLetter_5 : decode mX9_isLetter.2.1 5 = .ok (.invokestatic 51, 3) := by decide +kernel
theorem dX9_isLetter_8 : decode mX9_isLetter.2.1 8 = .ok (.ireturn, 1) := by decide +kernel
theorem dX9_jar_0 : decode mX9_jar.2.1 0 = .ok (.bipush 8, 2) := by decide +kernel
theorem dX9_jar_2 : decode mX9_jar.2.1 2 = .ok (.iconst 3, 1) := by decide +kernel
theorem dX9_jar_3 : decode mX9_jar.2.1 3 = .ok (.iload_n 0, 1) := by decide +kernel
theorem dX9_jar_4 : decode mX9_jar.2.1 4 = .ok (.bipush 97, 2) := by decide +kernel
theorem dX9_jar_6 : decode mX9_jar.2.1 6 = .ok (.isub, 1) := by decide +kernel
theorem dX9_jar_7 : decode mX9_jar.2.1 7 = .ok (.imul, 1) := by decide +kernel
theorem dX9_jar_8 : decode mX9_jar.2.1 8 = .ok (.iadd, 1) := by decide +kernel
theorem dX9_jar_9 : decode mX9_jar.2.1 9 = .ok (.ireturn, 1) := by decide +kernel
theorem dX9_isJar_0 : decode mX9_isJar.2.1 0 = .ok (.iload_n 1, 1) := by decide +kernel
theorem dX9_isJar_1 : decode mX9_isJar.2.1 1 = .ok (.invokestatic 55, 3) := by decide +kernel
theorem dX9_isJar_4 : decode mX9_isJar.2.1 4 = .ok (.ifCond .eq 20, 3) := by decide +kernel
theorem dX9_isJar_7 : decode mX9_isJar.2.1 7 = .ok (.aload_n 0, 1) := by decide +kernel
theorem dX9_isJar_8 : decode mX9_isJar.2.1 8 = .ok (.getfield 9, 3) := by decide +kernel
theorem dX9_isJar_11 : decode mX9_isJar.2.1 11 = .ok (.iload_n 1, 1) := by decide +kernel
theorem dX9_isJar_12 : decode mX9_isJar.2.1 12 = .ok (.invokestatic 59, 3) := by decide +kernel
theorem dX9_isJar_15 : decode mX9_isJar.2.1 15 = .ok (.iaload, 1) := by decide +kernel
theorem dX9_isJar_16 : decode mX9_isJar.2.1 16 = .ok (.iconst 1, 1) := by decide +kernel
theorem dX9_isJar_17 : decode mX9_isJar.2.1 17 = .ok (.if_icmp .ne 7, 3) := by decide +kernel
theorem dX9_isJar_20 : decode mX9_isJar.2.1 20 = .ok (.iconst 1, 1) := by decide +kernel
theorem dX9_isJar_21 : decode mX9_isJar.2.1 21 = .ok (.goto 4, 3) := by decide +kernel
theorem dX9_isJar_24 : decode mX9_isJar.2.1 24 = .ok (.iconst 0, 1) := by decide +kernel
theorem dX9_isJar_25 : decode mX9_isJar.2.1 25 = .ok (.ireturn, 1) := by decide +kernel
theorem dX9_jars_0 : decode mX9_jars.2.1 0 = .ok (.iconst 0, 1) := by decide +kernel
theorem dX9_jars_1 : decode mX9_jars.2.1 1 = .ok (.istore_n 1, 1) := by decide +kernel
theorem dX9_jars_2 : decode mX9_jars.2.1 2 = .ok (.bipush 97, 2) := by decide +kernel
theorem dX9_jars_4 : decode mX9_jars.2.1 4 = .ok (.istore_n 2, 1) := by decide +kernel
theorem dX9_jars_5 : decode mX9_jars.2.1 5 = .ok (.iload_n 2, 1) := by decide +kernel
theorem dX9_jars_6 : decode mX9_jars.2.1 6 = .ok (.bipush 122, 2) := by decide +kernel
theorem dX9_jars_8 : decode mX9_jars.2.1 8 = .ok (.if_icmp .gt 25, 3) := by decide +kernel
theorem dX9_jars_11 : decode mX9_jars.2.1 11 = .ok (.iload_n 1, 1) := by decide +kernel
theorem dX9_jars_12 : decode mX9_jars.2.1 12 = .ok (.aload_n 0, 1) := by decide +kernel
theorem dX9_jars_13 : decode mX9_jars.2.1 13 = .ok (.iload_n 2, 1) := by decide +kernel
theorem dX9_jars_14 : decode mX9_jars.2.1 14 = .ok (.invokevirtual 63, 3) := by decide +kernel
theorem dX9_jars_17 : decode mX9_jars.2.1 17 = .ok (.ifCond .eq 7, 3) := by decide +kernel
theorem dX9_jars_20 : decode mX9_jars.2.1 20 = .ok (.iconst 1, 1) := by decide +kernel
theorem dX9_jars_21 : decode mX9_jars.2.1 21 = .ok (.goto 4, 3) := by decide +kernel
theorem dX9_jars_24 : decode mX9_jars.2.1 24 = .ok (.iconst 0, 1) := by decide +kernel
theorem dX9_jars_25 : decode mX9_jars.2.1 25 = .ok (.iadd, 1) := by decide +kernel
theorem dX9_jars_26 : decode mX9_jars.2.1 26 = .ok (.istore_n 1, 1) := by decide +kernel
theorem dX9_jars_27 : decode mX9_jars.2.1 27 = .ok (.iinc 2 1, 3) := by decide +kernel
theorem dX9_jars_30 : decode mX9_jars.2.1 30 = .ok (.goto (-25), 3) := by decide +kernel
theorem dX9_jars_33 : decode mX9_jars.2.1 33 = .ok (.iload_n 1, 1) := by decide +kernel
theorem dX9_jars_34 : decode mX9_jars.2.1 34 = .ok (.ireturn, 1) := by decide +kernel
theorem dX9_isShelf_0 : decode mX9_isShelf.2.1 0 = .ok (.iload_n 1, 1) := by decide +kernel
theorem dX9_isShelf_1 : decode mX9_isShelf.2.1 1 = .ok (.iconst 0, 1) := by decide +kernel
theorem dX9_isShelf_2 : decode mX9_isShelf.2.1 2 = .ok (.aload_n 0, 1) := by decide +kernel
theorem dX9_isShelf_3 : decode mX9_isShelf.2.1 3 = .ok (.getfield 9, 3) := by decide +kernel
theorem dX9_isShelf_6 : decode mX9_isShelf.2.1 6 = .ok (.iconst 0, 1) := by decide +kernel
theorem dX9_isShelf_7 : decode mX9_isShelf.2.1 7 = .ok (.iaload, 1) := by decide +kernel
theorem dX9_isShelf_8 : decode mX9_isShelf.2.1 8 = .ok (.iconst 1, 1) := by decide +kernel
theorem dX9_isShelf_9 : decode mX9_isShelf.2.1 9 = .ok (.isub, 1) := by decide +kernel
theorem dX9_isShelf_10 : decode mX9_isShelf.2.1 10 = .ok (.invokestatic 51, 3) := by decide +kernel
theorem dX9_isShelf_13 : decode mX9_isShelf.2.1 13 = .ok (.ireturn, 1) := by decide +kernel
theorem dX9_of_0 : decode mX9_of.2.1 0 = .ok (.aload_n 0, 1) := by decide +kernel
theorem dX9_of_1 : decode mX9_of.2.1 1 = .ok (.getfield 9, 3) := by decide +kernel
theorem dX9_of_4 : decode mX9_of.2.1 4 = .ok (.bipush 86, 2) := by decide +kernel
theorem dX9_of_6 : decode mX9_of.2.1 6 = .ok (.sipush 187, 3) := by decide +kernel
theorem dX9_of_9 : decode mX9_of.2.1 9 = .ok (.iload_n 1, 1) := by decide +kernel
theorem dX9_of_10 : decode mX9_of.2.1 10 = .ok (.imul, 1) := by decide +kernel
theorem dX9_of_11 : decode mX9_of.2.1 11 = .ok (.iadd, 1) := by decide +kernel
theorem dX9_of_12 : decode mX9_of.2.1 12 = .ok (.iload_n 2, 1) := by decide +kernel
theorem dX9_of_13 : decode mX9_of.2.1 13 = .ok (.iadd, 1) := by decide +kernel
theorem dX9_of_14 : decode mX9_of.2.1 14 = .ok (.iaload, 1) := by decide +kernel
theorem dX9_of_15 : decode mX9_of.2.1 15 = .ok (.ireturn, 1) := by decide +kernel
theorem dX9_echo_0 : decode mX9_echo.2.1 0 = .ok (.bipush 86, 2) := by decide +kernel
theorem dX9_echo_2 : decode mX9_echo.2.1 2 = .ok (.sipush 187, 3) := by decide +kernel
theorem dX9_echo_5 : decode mX9_echo.2.1 5 = .ok (.iload_n 0, 1) := by decide +kernel
theorem dX9_echo_6 : decode mX9_echo.2.1 6 = .ok (.imul, 1) := by decide +kernel
theorem dX9_echo_7 : decode mX9_echo.2.1 7 = .ok (.iadd, 1) := by decide +kernel
theorem dX9_echo_8 : decode mX9_echo.2.1 8 = .ok (.iconst 5, 1) := by decide +kernel
theorem dX9_echo_9 : decode mX9_echo.2.1 9 = .ok (.iadd, 1) := by decide +kernel
theorem dX9_echo_10 : decode mX9_echo.2.1 10 = .ok (.bipush 7, 2) := by decide +kernel
theorem dX9_echo_12 : decode mX9_echo.2.1 12 = .ok (.iload_n 1, 1) := by decide +kernel
theorem dX9_echo_13 : decode mX9_echo.2.1 13 = .ok (.bipush 97, 2) := by decide +kernel
theorem dX9_echo_15 : decode mX9_echo.2.1 15 = .ok (.isub, 1) := by decide +kernel
theorem dX9_echo_16 : decode mX9_echo.2.1 16 = .ok (.imul, 1) := by decide +kernel
theorem dX9_echo_17 : decode mX9_echo.2.1 17 = .ok (.iadd, 1) := by decide +kernel
theorem dX9_echo_18 : decode mX9_echo.2.1 18 = .ok (.ireturn, 1) := by decide +kernel
theorem dX9_isEcho_0 : decode mX9_isEcho.2.1 0 = .ok (.iload_n 2, 1) := by decide +kernel
theorem dX9_isEcho_1 : decode mX9_isEcho.2.1 1 = .ok (.invokestatic 55, 3) := by decide +kernel
theorem dX9_isEcho_4 : decode mX9_isEcho.2.1 4 = .ok (.ifCond .eq 21, 3) := by decide +kernel
theorem dX9_isEcho_7 : decode mX9_isEcho.2.1 7 = .ok (.aload_n 0, 1) := by decide +kernel
theorem dX9_isEcho_8 : decode mX9_isEcho.2.1 8 = .ok (.getfield 9, 3) := by decide +kernel
theorem dX9_isEcho_11 : decode mX9_isEcho.2.1 11 = .ok (.iload_n 1, 1) := by decide +kernel
theorem dX9_isEcho_12 : decode mX9_isEcho.2.1 12 = .ok (.iload_n 2, 1) := by decide +kernel
theorem dX9_isEcho_13 : decode mX9_isEcho.2.1 13 = .ok (.invokestatic 66, 3) := by decide +kernel
theorem dX9_isEcho_16 : decode mX9_isEcho.2.1 16 = .ok (.iaload, 1) := by decide +kernel
theorem dX9_isEcho_17 : decode mX9_isEcho.2.1 17 = .ok (.iconst 1, 1) := by decide +kernel
theorem dX9_isEcho_18 : decode mX9_isEcho.2.1 18 = .ok (.if_icmp .ne 7, 3) := by decide +kernel
theorem dX9_isEcho_21 : decode mX9_isEcho.2.1 21 = .ok (.iconst 1, 1) := by decide +kernel
theorem dX9_isEcho_22 : decode mX9_isEcho.2.1 22 = .ok (.goto 4, 3) := by decide +kernel
theorem dX9_isEcho_25 : decode mX9_isEcho.2.1 25 = .ok (.iconst 0, 1) := by decide +kernel
theorem dX9_isEcho_26 : decode mX9_isEcho.2.1 26 = .ok (.ireturn, 1) := by decide +kernel
theorem dX9_echoes_0 : decode mX9_echoes.2.1 0 = .ok (.iconst 0, 1) := by decide +kernel
theorem dX9_echoes_1 : decode mX9_echoes.2.1 1 = .ok (.istore_n 2, 1) := by decide +kernel
theorem dX9_echoes_2 : decode mX9_echoes.2.1 2 = .ok (.bipush 97, 2) := by decide +kernel
theorem dX9_echoes_4 : decode mX9_echoes.2.1 4 = .ok (.istore_n 3, 1) := by decide +kernel
theorem dX9_echoes_5 : decode mX9_echoes.2.1 5 = .ok (.iload_n 3, 1) := by decide +kernel
theorem dX9_echoes_6 : decode mX9_echoes.2.1 6 = .ok (.bipush 122, 2) := by decide +kernel
theorem dX9_echoes_8 : decode mX9_echoes.2.1 8 = .ok (.if_icmp .gt 26, 3) := by decide +kernel
theorem dX9_echoes_11 : decode mX9_echoes.2.1 11 = .ok (.iload_n 2, 1) := by decide +kernel
theorem dX9_echoes_12 : decode mX9_echoes.2.1 12 = .ok (.aload_n 0, 1) := by decide +kernel
theorem dX9_echoes_13 : decode mX9_echoes.2.1 13 = .ok (.iload_n 1, 1) := by decide +kernel
theorem dX9_echoes_14 : decode mX9_echoes.2.1 14 = .ok (.iload_n 3, 1) := by decide +kernel
theorem dX9_echoes_15 : decode mX9_echoes.2.1 15 = .ok (.invokevirtual 70, 3) := by decide +kernel
theorem dX9_echoes_18 : decode mX9_echoes.2.1 18 = .ok (.ifCond .eq 7, 3) := by decide +kernel
theorem dX9_echoes_21 : decode mX9_echoes.2.1 21 = .ok (.iconst 1, 1) := by decide +kernel
theorem dX9_echoes_22 : decode mX9_echoes.2.1 22 = .ok (.goto 4, 3) := by decide +kernel
theorem dX9_echoes_25 : decode mX9_echoes.2.1 25 = .ok (.iconst 0, 1) := by decide +kernel
theorem dX9_echoes_26 : decode mX9_echoes.2.1 26 = .ok (.iadd, 1) := by decide +kernel
theorem dX9_echoes_27 : decode mX9_echoes.2.1 27 = .ok (.istore_n 2, 1) := by decide +kernel
theorem dX9_echoes_28 : decode mX9_echoes.2.1 28 = .ok (.iinc 3 1, 3) := by decide +kernel
theorem dX9_echoes_31 : decode mX9_echoes.2.1 31 = .ok (.goto (-26), 3) := by decide +kernel
theorem dX9_echoes_34 : decode mX9_echoes.2.1 34 = .ok (.iload_n 2, 1) := by decide +kernel
theorem dX9_echoes_35 : decode mX9_echoes.2.1 35 = .ok (.ireturn, 1) := by decide +kernel
theorem dX9_age_0 : decode mX9_age.2.1 0 = .ok (.aload_n 0, 1) := by decide +kernel
theorem dX9_age_1 : decode mX9_age.2.1 1 = .ok (.getfield 9, 3) := by decide +kernel
theorem dX9_age_4 : decode mX9_age.2.1 4 = .ok (.iconst 2, 1) := by decide +kernel
theorem dX9_age_5 : decode mX9_age.2.1 5 = .ok (.iaload, 1) := by decide +kernel
theorem dX9_age_6 : decode mX9_age.2.1 6 = .ok (.aload_n 0, 1) := by decide +kernel
theorem dX9_age_7 : decode mX9_age.2.1 7 = .ok (.getfield 9, 3) := by decide +kernel
theorem dX9_age_10 : decode mX9_age.2.1 10 = .ok (.iload_n 1, 1) := by decide +kernel
theorem dX9_age_11 : decode mX9_age.2.1 11 = .ok (.iload_n 2, 1) := by decide +kernel
theorem dX9_age_12 : decode mX9_age.2.1 12 = .ok (.invokestatic 66, 3) := by decide +kernel
theorem dX9_age_15 : decode mX9_age.2.1 15 = .ok (.iconst 2, 1) := by decide +kernel
theorem dX9_age_16 : decode mX9_age.2.1 16 = .ok (.iadd, 1) := by decide +kernel
theorem dX9_age_17 : decode mX9_age.2.1 17 = .ok (.iaload, 1) := by decide +kernel
theorem dX9_age_18 : decode mX9_age.2.1 18 = .ok (.isub, 1) := by decide +kernel
theorem dX9_age_19 : decode mX9_age.2.1 19 = .ok (.ireturn, 1) := by decide +kernel
theorem dX9_isOver_0 : decode mX9_isOver.2.1 0 = .ok (.aload_n 0, 1) := by decide +kernel
theorem dX9_isOver_1 : decode mX9_isOver.2.1 1 = .ok (.iload_n 1, 1) := by decide +kernel
theorem dX9_isOver_2 : decode mX9_isOver.2.1 2 = .ok (.iload_n 2, 1) := by decide +kernel
theorem dX9_isOver_3 : decode mX9_isOver.2.1 3 = .ok (.invokevirtual 74, 3) := by decide +kernel
theorem dX9_isOver_6 : decode mX9_isOver.2.1 6 = .ok (.aload_n 0, 1) := by decide +kernel
theorem dX9_isOver_7 : decode mX9_isOver.2.1 7 = .ok (.iload_n 1, 1) := by decide +kernel
theorem dX9_isOver_8 : decode mX9_isOver.2.1 8 = .ok (.iconst 1, 1) := by decide +kernel
theorem dX9_isOver_9 : decode mX9_isOver.2.1 9 = .ok (.invokevirtual 77, 3) := by decide +kernel
theorem dX9_isOver_12 : decode mX9_isOver.2.1 12 = .ok (.if_icmp .lt 7, 3) := by decide +kernel
theorem dX9_isOver_15 : decode mX9_isOver.2.1 15 = .ok (.iconst 1, 1) := by decide +kernel
theorem dX9_isOver_16 : decode mX9_isOver.2.1 16 = .ok (.goto 4, 3) := by decide +kernel
theorem dX9_isOver_19 : decode mX9_isOver.2.1 19 = .ok (.iconst 0, 1) := by decide +kernel
theorem dX9_isOver_20 : decode mX9_isOver.2.1 20 = .ok (.ireturn, 1) := by decide +kernel
theorem dX9_goesFirst_0 : decode mX9_goesFirst.2.1 0 = .ok (.iload_n 1, 1) := by decide +kernel
theorem dX9_goesFirst_1 : decode mX9_goesFirst.2.1 1 = .ok (.iload_n 2, 1) := by decide +kernel
theorem dX9_goesFirst_2 : decode mX9_goesFirst.2.1 2 = .ok (.invokestatic 66, 3) := by decide +kernel
theorem dX9_goesFirst_5 : decode mX9_goesFirst.2.1 5 = .ok (.istore 4, 2) := by decide +kernel
theorem dX9_goesFirst_7 : decode mX9_goesFirst.2.1 7 = .ok (.iload_n 1, 1) := by decide +kernel
theorem dX9_goesFirst_8 : decode mX9_goesFirst.2.1 8 = .ok (.iload_n 3, 1) := by decide +kernel
theorem dX9_goesFirst_9 : decode mX9_goesFirst.2.1 9 = .ok (.invokestatic 66, 3) := by decide +kernel
theorem dX9_goesFirst_12 : decode mX9_goesFirst.2.1 12 = .ok (.istore 5, 2) := by decide +kernel
theorem dX9_goesFirst_14 : decode mX9_goesFirst.2.1 14 = .ok (.aload_n 0, 1) := by decide +kernel
theorem dX9_goesFirst_15 : decode mX9_goesFirst.2.1 15 = .ok (.iload_n 1, 1) := by decide +kernel
theorem dX9_goesFirst_16 : decode mX9_goesFirst.2.1 16 = .ok (.iconst 2, 1) := by decide +kernel
theorem dX9_goesFirst_17 : decode mX9_goesFirst.2.1 17 = .ok (.invokevirtual 77, 3) := by decide +kernel
theorem dX9_goesFirst_20 : decode mX9_goesFirst.2.1 20 = .ok (.bipush 114, 2) := by decide +kernel
theorem dX9_goesFirst_22 : decode mX9_goesFirst.2.1 22 = .ok (.if_icmp .ne 25, 3) := by decide +kernel
theorem dX9_goesFirst_25 : decode mX9_goesFirst.2.1 25 = .ok (.aload_n 0, 1) := by decide +kernel
theorem dX9_goesFirst_26 : decode mX9_goesFirst.2.1 26 = .ok (.getfield 9, 3) := by decide +kernel
theorem dX9_goesFirst_29 : decode mX9_goesFirst.2.1 29 = .ok (.iload 5, 2) := by decide +kernel
theorem dX9_goesFirst_31 : decode mX9_goesFirst.2.1 31 = .ok (.iconst 4, 1) := by decide +kernel
theorem dX9_goesFirst_32 : decode mX9_goesFirst.2.1 32 = .ok (.iadd, 1) := by decide +kernel
theorem dX9_goesFirst_33 : decode mX9_goesFirst.2.1 33 = .ok (.iaload, 1) := by decide +kernel
theorem dX9_goesFirst_34 : decode mX9_goesFirst.2.1 34 = .ok (.aload_n 0, 1) := by decide +kernel
theorem dX9_goesFirst_35 : decode mX9_goesFirst.2.1 35 = .ok (.getfield 9, 3) := by decide +kernel
theorem dX9_goesFirst_38 : decode mX9_goesFirst.2.1 38 = .ok (.iload 4, 2) := by decide +kernel
theorem dX9_goesFirst_40 : decode mX9_goesFirst.2.1 40 = .ok (.iconst 4, 1) := by decide +kernel
theorem dX9_goesFirst_41 : decode mX9_goesFirst.2.1 41 = .ok (.iadd, 1) := by decide +kernel
theorem dX9_goesFirst_42 : decode mX9_goesFirst.2.1 42 = .ok (.iaload, 1) := by decide +kernel
theorem dX9_goesFirst_43 : decode mX9_goesFirst.2.1 43 = .ok (.isub, 1) := by decide +kernel
theorem dX9_goesFirst_44 : decode mX9_goesFirst.2.1 44 = .ok (.goto 37, 3) := by decide +kernel
theorem dX9_goesFirst_47 : decode mX9_goesFirst.2.1 47 = .ok (.aload_n 0, 1) := by decide +kernel
theorem dX9_goesFirst_48 : decode mX9_goesFirst.2.1 48 = .ok (.iload_n 1, 1) := by decide +kernel
theorem dX9_goesFirst_49 : decode mX9_goesFirst.2.1 49 = .ok (.iconst 2, 1) := by decide +kernel
theorem dX9_goesFirst_50 : decode mX9_goesFirst.2.1 50 = .ok (.invokevirtual 77, 3) := by decide +kernel
theorem dX9_goesFirst_53 : decode mX9_goesFirst.2.1 53 = .ok (.bipush 108, 2) := by decide +kernel
theorem dX9_goesFirst_55 : decode mX9_goesFirst.2.1 55 = .ok (.if_icmp .ne 25, 3) := by decide +kernel
theorem dX9_goesFirst_58 : decode mX9_goesFirst.2.1 58 = .ok (.aload_n 0, 1) := by decide +kernel
theorem dX9_goesFirst_59 : decode mX9_goesFirst.2.1 59 = .ok (.getfield 9, 3) := by decide +kernel
theorem dX9_goesFirst_62 : decode mX9_goesFirst.2.1 62 = .ok (.iload 5, 2) := by decide +kernel
theorem dX9_goesFirst_64 : decode mX9_goesFirst.2.1 64 = .ok (.iconst 5, 1) := by decide +kernel
theorem dX9_goesFirst_65 : decode mX9_goesFirst.2.1 65 = .ok (.iadd, 1) := by decide +kernel
theorem dX9_goesFirst_66 : decode mX9_goesFirst.2.1 66 = .ok (.iaload, 1) := by decide +kernel
theorem dX9_goesFirst_67 : decode mX9_goesFirst.2.1 67 = .ok (.aload_n 0, 1) := by decide +kernel
theorem dX9_goesFirst_68 : decode mX9_goesFirst.2.1 68 = .ok (.getfield 9, 3) := by decide +kernel
theorem dX9_goesFirst_71 : decode mX9_goesFirst.2.1 71 = .ok (.iload 4, 2) := by decide +kernel
theorem dX9_goesFirst_73 : decode mX9_goesFirst.2.1 73 = .ok (.iconst 5, 1) := by decide +kernel
theorem dX9_goesFirst_74 : decode mX9_goesFirst.2.1 74 = .ok (.iadd, 1) := by decide +kernel
theorem dX9_goesFirst_75 : decode mX9_goesFirst.2.1 75 = .ok (.iaload, 1) := by decide +kernel
theorem dX9_goesFirst_76 : decode mX9_goesFirst.2.1 76 = .ok (.isub, 1) := by decide +kernel
theorem dX9_goesFirst_77 : decode mX9_goesFirst.2.1 77 = .ok (.goto 4, 3) := by decide +kernel
theorem dX9_goesFirst_80 : decode mX9_goesFirst.2.1 80 = .ok (.iconst 0, 1) := by decide +kernel
theorem dX9_goesFirst_81 : decode mX9_goesFirst.2.1 81 = .ok (.istore 6, 2) := by decide +kernel
theorem dX9_goesFirst_83 : decode mX9_goesFirst.2.1 83 = .ok (.iload 6, 2) := by decide +kernel
theorem dX9_goesFirst_85 : decode mX9_goesFirst.2.1 85 = .ok (.ifCond .gt 29, 3) := by decide +kernel
theorem dX9_goesFirst_88 : decode mX9_goesFirst.2.1 88 = .ok (.iload 6, 2) := by decide +kernel
theorem dX9_goesFirst_90 : decode mX9_goesFirst.2.1 90 = .ok (.ifCond .ne 28, 3) := by decide +kernel
theorem dX9_goesFirst_93 : decode mX9_goesFirst.2.1 93 = .ok (.aload_n 0, 1) := by decide +kernel
theorem dX9_goesFirst_94 : decode mX9_goesFirst.2.1 94 = .ok (.getfield 9, 3) := by decide +kernel
theorem dX9_goesFirst_97 : decode mX9_goesFirst.2.1 97 = .ok (.iload 4, 2) := by decide +kernel
theorem dX9_goesFirst_99 : decode mX9_goesFirst.2.1 99 = .ok (.iconst 3, 1) := by decide +kernel
theorem dX9_goesFirst_100 : decode mX9_goesFirst.2.1 100 = .ok (.iadd, 1) := by decide +kernel
theorem dX9_goesFirst_101 : decode mX9_goesFirst.2.1 101 = .ok (.iaload, 1) := by decide +kernel
theorem dX9_goesFirst_102 : decode mX9_goesFirst.2.1 102 = .ok (.aload_n 0, 1) := by decide +kernel
theorem dX9_goesFirst_103 : decode mX9_goesFirst.2.1 103 = .ok (.getfield 9, 3) := by decide +kernel
theorem dX9_goesFirst_106 : decode mX9_goesFirst.2.1 106 = .ok (.iload 5, 2) := by decide +kernel
theorem dX9_goesFirst_108 : decode mX9_goesFirst.2.1 108 = .ok (.iconst 3, 1) := by decide +kernel
theorem dX9_goesFirst_109 : decode mX9_goesFirst.2.1 109 = .ok (.iadd, 1) := by decide +kernel
theorem dX9_goesFirst_110 : decode mX9_goesFirst.2.1 110 = .ok (.iaload, 1) := by decide +kernel
theorem dX9_goesFirst_111 : decode mX9_goesFirst.2.1 111 = .ok (.if_icmp .ge 7, 3) := by decide +kernel
theorem dX9_goesFirst_114 : decode mX9_goesFirst.2.1 114 = .ok (.iconst 1, 1) := by decide +kernel
theorem dX9_goesFirst_115 : decode mX9_goesFirst.2.1 115 = .ok (.goto 4, 3) := by decide +kernel
theorem dX9_goesFirst_118 : decode mX9_goesFirst.2.1 118 = .ok (.iconst 0, 1) := by decide +kernel
theorem dX9_goesFirst_119 : decode mX9_goesFirst.2.1 119 = .ok (.ireturn, 1) := by decide +kernel
theorem dX9_victim_0 : decode mX9_victim.2.1 0 = .ok (.iconst (-1), 1) := by decide +kernel
theorem dX9_victim_1 : decode mX9_victim.2.1 1 = .ok (.istore_n 2, 1) := by decide +kernel
theorem dX9_victim_2 : decode mX9_victim.2.1 2 = .ok (.bipush 97, 2) := by decide +kernel
theorem dX9_victim_4 : decode mX9_victim.2.1 4 = .ok (.istore_n 3, 1) := by decide +kernel
theorem dX9_victim_5 : decode mX9_victim.2.1 5 = .ok (.iload_n 3, 1) := by decide +kernel
theorem dX9_victim_6 : decode mX9_victim.2.1 6 = .ok (.bipush 122, 2) := by decide +kernel
theorem dX9_victim_8 : decode mX9_victim.2.1 8 = .ok (.if_icmp .gt 38, 3) := by decide +kernel
theorem dX9_victim_11 : decode mX9_victim.2.1 11 = .ok (.aload_n 0, 1) := by decide +kernel
theorem dX9_victim_12 : decode mX9_victim.2.1 12 = .ok (.iload_n 1, 1) := by decide +kernel
theorem dX9_victim_13 : decode mX9_victim.2.1 13 = .ok (.iload_n 3, 1) := by decide +kernel
theorem dX9_victim_14 : decode mX9_victim.2.1 14 = .ok (.invokevirtual 70, 3) := by decide +kernel
theorem dX9_victim_17 : decode mX9_victim.2.1 17 = .ok (.ifCond .eq 21, 3) := by decide +kernel
theorem dX9_victim_20 : decode mX9_victim.2.1 20 = .ok (.iload_n 2, 1) := by decide +kernel
theorem dX9_victim_21 : decode mX9_victim.2.1 21 = .ok (.ifCond .lt 13, 3) := by decide +kernel
theorem dX9_victim_24 : decode mX9_victim.2.1 24 = .ok (.aload_n 0, 1) := by decide +kernel
theorem dX9_victim_25 : decode mX9_victim.2.1 25 = .ok (.iload_n 1, 1) := by decide +kernel
theorem dX9_victim_26 : decode mX9_victim.2.1 26 = .ok (.iload_n 3, 1) := by decide +kernel
theorem dX9_victim_27 : decode mX9_victim.2.1 27 = .ok (.iload_n 2, 1) := by decide +kernel
theorem dX9_victim_28 : decode mX9_victim.2.1 28 = .ok (.invokevirtual 80, 3) := by decide +kernel
theorem dX9_victim_31 : decode mX9_victim.2.1 31 = .ok (.ifCond .eq 7, 3) := by decide +kernel
theorem dX9_victim_34 : decode mX9_victim.2.1 34 = .ok (.iload_n 3, 1) := by decide +kernel
theorem dX9_victim_35 : decode mX9_victim.2.1 35 = .ok (.goto 4, 3) := by decide +kernel
theorem dX9_victim_38 : decode mX9_victim.2.1 38 = .ok (.iload_n 2, 1) := by decide +kernel
theorem dX9_victim_39 : decode mX9_victim.2.1 39 = .ok (.istore_n 2, 1) := by decide +kernel
theorem dX9_victim_40 : decode mX9_victim.2.1 40 = .ok (.iinc 3 1, 3) := by decide +kernel
theorem dX9_victim_43 : decode mX9_victim.2.1 43 = .ok (.goto (-38), 3) := by decide +kernel
theorem dX9_victim_46 : decode mX9_victim.2.1 46 = .ok (.iload_n 2, 1) := by decide +kernel
theorem dX9_victim_47 : decode mX9_victim.2.1 47 = .ok (.ireturn, 1) := by decide +kernel
theorem dX9_fetches_0 : decode mX9_fetches.2.1 0 = .ok (.aload_n 0, 1) := by decide +kernel
theorem dX9_fetches_1 : decode mX9_fetches.2.1 1 = .ok (.getfield 9, 3) := by decide +kernel
theorem dX9_fetches_4 : decode mX9_fetches.2.1 4 = .ok (.iload_n 1, 1) := by decide +kernel
theorem dX9_fetches_5 : decode mX9_fetches.2.1 5 = .ok (.iload_n 2, 1) := by decide +kernel
theorem dX9_fetches_6 : decode mX9_fetches.2.1 6 = .ok (.invokestatic 66, 3) := by decide +kernel
theorem dX9_fetches_9 : decode mX9_fetches.2.1 9 = .ok (.iconst 0, 1) := by decide +kernel
theorem dX9_fetches_10 : decode mX9_fetches.2.1 10 = .ok (.iastore, 1) := by decide +kernel
theorem dX9_fetches_11 : decode mX9_fetches.2.1 11 = .ok (.aload_n 0, 1) := by decide +kernel
theorem dX9_fetches_12 : decode mX9_fetches.2.1 12 = .ok (.iload_n 1, 1) := by decide +kernel
theorem dX9_fetches_13 : decode mX9_fetches.2.1 13 = .ok (.invokevirtual 83, 3) := by decide +kernel
theorem dX9_fetches_16 : decode mX9_fetches.2.1 16 = .ok (.aload_n 0, 1) := by decide +kernel
theorem dX9_fetches_17 : decode mX9_fetches.2.1 17 = .ok (.iload_n 1, 1) := by decide +kernel
theorem dX9_fetches_18 : decode mX9_fetches.2.1 18 = .ok (.iconst 0, 1) := by decide +kernel
theorem dX9_fetches_19 : decode mX9_fetches.2.1 19 = .ok (.invokevirtual 77, 3) := by decide +kernel
theorem dX9_fetches_22 : decode mX9_fetches.2.1 22 = .ok (.if_icmp .ne 18, 3) := by decide +kernel
theorem dX9_fetches_25 : decode mX9_fetches.2.1 25 = .ok (.aload_n 0, 1) := by decide +kernel
theorem dX9_fetches_26 : decode mX9_fetches.2.1 26 = .ok (.getfield 9, 3) := by decide +kernel
theorem dX9_fetches_29 : decode mX9_fetches.2.1 29 = .ok (.iload_n 1, 1) := by decide +kernel
theorem dX9_fetches_30 : decode mX9_fetches.2.1 30 = .ok (.aload_n 0, 1) := by decide +kernel
theorem dX9_fetches_31 : decode mX9_fetches.2.1 31 = .ok (.iload_n 1, 1) := by decide +kernel
theorem dX9_fetches_32 : decode mX9_fetches.2.1 32 = .ok (.invokevirtual 86, 3) := by decide +kernel
theorem dX9_fetches_35 : decode mX9_fetches.2.1 35 = .ok (.invokestatic 66, 3) := by decide +kernel
theorem dX9_fetches_38 : decode mX9_fetches.2.1 38 = .ok (.iconst 0, 1) := by decide +kernel
theorem dX9_fetches_39 : decode mX9_fetches.2.1 39 = .ok (.iastore, 1) := by decide +kernel
theorem dX9_fetches_40 : decode mX9_fetches.2.1 40 = .ok (.iload_n 1, 1) := by decide +kernel
theorem dX9_fetches_41 : decode mX9_fetches.2.1 41 = .ok (.iload_n 2, 1) := by decide +kernel
theorem dX9_fetches_42 : decode mX9_fetches.2.1 42 = .ok (.invokestatic 66, 3) := by decide +kernel
theorem dX9_fetches_45 : decode mX9_fetches.2.1 45 = .ok (.istore_n 3, 1) := by decide +kernel
theorem dX9_fetches_46 : decode mX9_fetches.2.1 46 = .ok (.aload_n 0, 1) := by decide +kernel
theorem dX9_fetches_47 : decode mX9_fetches.2.1 47 = .ok (.getfield 9, 3) := by decide +kernel
theorem dX9_fetches_50 : decode mX9_fetches.2.1 50 = .ok (.iload_n 3, 1) := by decide +kernel
theorem dX9_fetches_51 : decode mX9_fetches.2.1 51 = .ok (.iconst 1, 1) := by decide +kernel
theorem dX9_fetches_52 : decode mX9_fetches.2.1 52 = .ok (.iastore, 1) := by decide +kernel
theorem dX9_fetches_53 : decode mX9_fetches.2.1 53 = .ok (.aload_n 0, 1) := by decide +kernel
theorem dX9_fetches_54 : decode mX9_fetches.2.1 54 = .ok (.getfield 9, 3) := by decide +kernel
theorem dX9_fetches_57 : decode mX9_fetches.2.1 57 = .ok (.iload_n 3, 1) := by decide +kernel
theorem dX9_fetches_58 : decode mX9_fetches.2.1 58 = .ok (.iconst 1, 1) := by decide +kernel
theorem dX9_fetches_59 : decode mX9_fetches.2.1 59 = .ok (.iadd, 1) := by decide +kernel
theorem dX9_fetches_60 : decode mX9_fetches.2.1 60 = .ok (.aload_n 0, 1) := by decide +kernel
theorem dX9_fetches_61 : decode mX9_fetches.2.1 61 = .ok (.getfield 9, 3) := by decide +kernel
theorem dX9_fetches_64 : decode mX9_fetches.2.1 64 = .ok (.iload_n 2, 1) := by decide +kernel
theorem dX9_fetches_65 : decode mX9_fetches.2.1 65 = .ok (.invokestatic 59, 3) := by decide +kernel
theorem dX9_fetches_68 : decode mX9_fetches.2.1 68 = .ok (.iconst 1, 1) := by decide +kernel
theorem dX9_fetches_69 : decode mX9_fetches.2.1 69 = .ok (.iadd, 1) := by decide +kernel
theorem dX9_fetches_70 : decode mX9_fetches.2.1 70 = .ok (.iaload, 1) := by decide +kernel
theorem dX9_fetches_71 : decode mX9_fetches.2.1 71 = .ok (.iastore, 1) := by decide +kernel
theorem dX9_fetches_72 : decode mX9_fetches.2.1 72 = .ok (.aload_n 0, 1) := by decide +kernel
theorem dX9_fetches_73 : decode mX9_fetches.2.1 73 = .ok (.getfield 9, 3) := by decide +kernel
theorem dX9_fetches_76 : decode mX9_fetches.2.1 76 = .ok (.iload_n 3, 1) := by decide +kernel
theorem dX9_fetches_77 : decode mX9_fetches.2.1 77 = .ok (.iconst 2, 1) := by decide +kernel
theorem dX9_fetches_78 : decode mX9_fetches.2.1 78 = .ok (.iadd, 1) := by decide +kernel
theorem dX9_fetches_79 : decode mX9_fetches.2.1 79 = .ok (.aload_n 0, 1) := by decide +kernel
theorem dX9_fetches_80 : decode mX9_fetches.2.1 80 = .ok (.getfield 9, 3) := by decide +kernel
theorem dX9_fetches_83 : decode mX9_fetches.2.1 83 = .ok (.iconst 2, 1) := by decide +kernel
theorem dX9_fetches_84 : decode mX9_fetches.2.1 84 = .ok (.iaload, 1) := by decide +kernel
theorem dX9_fetches_85 : decode mX9_fetches.2.1 85 = .ok (.iastore, 1) := by decide +kernel
theorem dX9_fetches_86 : decode mX9_fetches.2.1 86 = .ok (.aload_n 0, 1) := by decide +kernel
theorem dX9_fetches_87 : decode mX9_fetches.2.1 87 = .ok (.getfield 9, 3) := by decide +kernel
theorem dX9_fetches_90 : decode mX9_fetches.2.1 90 = .ok (.iload_n 3, 1) := by decide +kernel
theorem dX9_fetches_91 : decode mX9_fetches.2.1 91 = .ok (.iconst 3, 1) := by decide +kernel
theorem dX9_fetches_92 : decode mX9_fetches.2.1 92 = .ok (.iadd, 1) := by decide +kernel
theorem dX9_fetches_93 : decode mX9_fetches.2.1 93 = .ok (.aload_n 0, 1) := by decide +kernel
theorem dX9_fetches_94 : decode mX9_fetches.2.1 94 = .ok (.getfield 9, 3) := by decide +kernel
theorem dX9_fetches_97 : decode mX9_fetches.2.1 97 = .ok (.iconst 3, 1) := by decide +kernel
theorem dX9_fetches_98 : decode mX9_fetches.2.1 98 = .ok (.iaload, 1) := by decide +kernel
theorem dX9_fetches_99 : decode mX9_fetches.2.1 99 = .ok (.iastore, 1) := by decide +kernel
theorem dX9_fetches_100 : decode mX9_fetches.2.1 100 = .ok (.aload_n 0, 1) := by decide +kernel
theorem dX9_fetches_101 : decode mX9_fetches.2.1 101 = .ok (.getfield 9, 3) := by decide +kernel
theorem dX9_fetches_104 : decode mX9_fetches.2.1 104 = .ok (.iload_n 3, 1) := by decide +kernel
theorem dX9_fetches_105 : decode mX9_fetches.2.1 105 = .ok (.iconst 4, 1) := by decide +kernel
theorem dX9_fetches_106 : decode mX9_fetches.2.1 106 = .ok (.iadd, 1) := by decide +kernel
theorem dX9_fetches_107 : decode mX9_fetches.2.1 107 = .ok (.aload_n 0, 1) := by decide +kernel
theorem dX9_fetches_108 : decode mX9_fetches.2.1 108 = .ok (.getfield 9, 3) := by decide +kernel
theorem dX9_fetches_111 : decode mX9_fetches.2.1 111 = .ok (.iconst 3, 1) := by decide +kernel
theorem dX9_fetches_112 : decode mX9_fetches.2.1 112 = .ok (.iaload, 1) := by decide +kernel
theorem dX9_fetches_113 : decode mX9_fetches.2.1 113 = .ok (.iastore, 1) := by decide +kernel
theorem dX9_fetches_114 : decode mX9_fetches.2.1 114 = .ok (.aload_n 0, 1) := by decide +kernel
theorem dX9_fetches_115 : decode mX9_fetches.2.1 115 = .ok (.getfield 9, 3) := by decide +kernel
theorem dX9_fetches_118 : decode mX9_fetches.2.1 118 = .ok (.iload_n 3, 1) := by decide +kernel
theorem dX9_fetches_119 : decode mX9_fetches.2.1 119 = .ok (.iconst 5, 1) := by decide +kernel
theorem dX9_fetches_120 : decode mX9_fetches.2.1 120 = .ok (.iadd, 1) := by decide +kernel
theorem dX9_fetches_121 : decode mX9_fetches.2.1 121 = .ok (.iconst 0, 1) := by decide +kernel
theorem dX9_fetches_122 : decode mX9_fetches.2.1 122 = .ok (.iastore, 1) := by decide +kernel
theorem dX9_fetches_123 : decode mX9_fetches.2.1 123 = .ok (.aload_n 0, 1) := by decide +kernel
theorem dX9_fetches_124 : decode mX9_fetches.2.1 124 = .ok (.getfield 9, 3) := by decide +kernel
theorem dX9_fetches_127 : decode mX9_fetches.2.1 127 = .ok (.iload_n 3, 1) := by decide +kernel
theorem dX9_fetches_128 : decode mX9_fetches.2.1 128 = .ok (.bipush 6, 2) := by decide +kernel
theorem dX9_fetches_130 : decode mX9_fetches.2.1 130 = .ok (.iadd, 1) := by decide +kernel
theorem dX9_fetches_131 : decode mX9_fetches.2.1 131 = .ok (.iconst 0, 1) := by decide +kernel
theorem dX9_fetches_132 : decode mX9_fetches.2.1 132 = .ok (.iastore, 1) := by decide +kernel
theorem dX9_fetches_133 : decode mX9_fetches.2.1 133 = .ok (.aload_n 0, 1) := by decide +kernel
theorem dX9_fetches_134 : decode mX9_fetches.2.1 134 = .ok (.getfield 9, 3) := by decide +kernel
theorem dX9_fetches_137 : decode mX9_fetches.2.1 137 = .ok (.iconst 3, 1) := by decide +kernel
theorem dX9_fetches_138 : decode mX9_fetches.2.1 138 = .ok (.dup2, 1) := by decide +kernel
theorem dX9_fetches_139 : decode mX9_fetches.2.1 139 = .ok (.iaload, 1) := by decide +kernel
theorem dX9_fetches_140 : decode mX9_fetches.2.1 140 = .ok (.iconst 1, 1) := by decide +kernel
theorem dX9_fetches_141 : decode mX9_fetches.2.1 141 = .ok (.iadd, 1) := by decide +kernel
theorem dX9_fetches_142 : decode mX9_fetches.2.1 142 = .ok (.iastore, 1) := by decide +kernel
theorem dX9_fetches_143 : decode mX9_fetches.2.1 143 = .ok (.return_, 1) := by decide +kernel
theorem dX9_outcome_0 : decode mX9_outcome.2.1 0 = .ok (.aload_n 0, 1) := by decide +kernel
theorem dX9_outcome_1 : decode mX9_outcome.2.1 1 = .ok (.iload_n 1, 1) := by decide +kernel
theorem dX9_outcome_2 : decode mX9_outcome.2.1 2 = .ok (.iload_n 2, 1) := by decide +kernel
theorem dX9_outcome_3 : decode mX9_outcome.2.1 3 = .ok (.invokevirtual 70, 3) := by decide +kernel
theorem dX9_outcome_6 : decode mX9_outcome.2.1 6 = .ok (.ifCond .ne 8, 3) := by decide +kernel
theorem dX9_outcome_9 : decode mX9_outcome.2.1 9 = .ok (.bipush 99, 2) := by decide +kernel
theorem dX9_outcome_11 : decode mX9_outcome.2.1 11 = .ok (.goto 41, 3) := by decide +kernel
theorem dX9_outcome_14 : decode mX9_outcome.2.1 14 = .ok (.aload_n 0, 1) := by decide +kernel
theorem dX9_outcome_15 : decode mX9_outcome.2.1 15 = .ok (.iload_n 1, 1) := by decide +kernel
theorem dX9_outcome_16 : decode mX9_outcome.2.1 16 = .ok (.iload_n 2, 1) := by decide +kernel
theorem dX9_outcome_17 : decode mX9_outcome.2.1 17 = .ok (.invokevirtual 89, 3) := by decide +kernel
theorem dX9_outcome_20 : decode mX9_outcome.2.1 20 = .ok (.ifCond .eq 8, 3) := by decide +kernel
theorem dX9_outcome_23 : decode mX9_outcome.2.1 23 = .ok (.bipush 101, 2) := by decide +kernel
theorem dX9_outcome_25 : decode mX9_outcome.2.1 25 = .ok (.goto 27, 3) := by decide +kernel
theorem dX9_outcome_28 : decode mX9_outcome.2.1 28 = .ok (.aload_n 0, 1) := by decide +kernel
theorem dX9_outcome_29 : decode mX9_outcome.2.1 29 = .ok (.getfield 9, 3) := by decide +kernel
theorem dX9_outcome_32 : decode mX9_outcome.2.1 32 = .ok (.iload_n 1, 1) := by decide +kernel
theorem dX9_outcome_33 : decode mX9_outcome.2.1 33 = .ok (.iload_n 2, 1) := by decide +kernel
theorem dX9_outcome_34 : decode mX9_outcome.2.1 34 = .ok (.invokestatic 66, 3) := by decide +kernel
theorem dX9_outcome_37 : decode mX9_outcome.2.1 37 = .ok (.bipush 6, 2) := by decide +kernel
theorem dX9_outcome_39 : decode mX9_outcome.2.1 39 = .ok (.iadd, 1) := by decide +kernel
theorem dX9_outcome_40 : decode mX9_outcome.2.1 40 = .ok (.iaload, 1) := by decide +kernel
theorem dX9_outcome_41 : decode mX9_outcome.2.1 41 = .ok (.iconst 1, 1) := by decide +kernel
theorem dX9_outcome_42 : decode mX9_outcome.2.1 42 = .ok (.if_icmp .ne 8, 3) := by decide +kernel
theorem dX9_outcome_45 : decode mX9_outcome.2.1 45 = .ok (.bipush 111, 2) := by decide +kernel
theorem dX9_outcome_47 : decode mX9_outcome.2.1 47 = .ok (.goto 5, 3) := by decide +kernel
theorem dX9_outcome_50 : decode mX9_outcome.2.1 50 = .ok (.bipush 104, 2) := by decide +kernel
theorem dX9_outcome_52 : decode mX9_outcome.2.1 52 = .ok (.ireturn, 1) := by decide +kernel
theorem dX9_doAddJar_0 : decode mX9_doAddJar.2.1 0 = .ok (.iload_n 1, 1) := by decide +kernel
theorem dX9_doAddJar_1 : decode mX9_doAddJar.2.1 1 = .ok (.invokestatic 55, 3) := by decide +kernel
theorem dX9_doAddJar_4 : decode mX9_doAddJar.2.1 4 = .ok (.ifCond .eq 13, 3) := by decide +kernel
theorem dX9_doAddJar_7 : decode mX9_doAddJar.2.1 7 = .ok (.iload_n 2, 1) := by decide +kernel
theorem dX9_doAddJar_8 : decode mX9_doAddJar.2.1 8 = .ok (.iconst 0, 1) := by decide +kernel
theorem dX9_doAddJar_9 : decode mX9_doAddJar.2.1 9 = .ok (.bipush 99, 2) := by decide +kernel
theorem dX9_doAddJar_11 : decode mX9_doAddJar.2.1 11 = .ok (.invokestatic 51, 3) := by decide +kernel
theorem dX9_doAddJar_14 : decode mX9_doAddJar.2.1 14 = .ok (.ifCond .ne 9, 3) := by decide +kernel
theorem dX9_doAddJar_17 : decode mX9_doAddJar.2.1 17 = .ok (.aload_n 0, 1) := by decide +kernel
theorem dX9_doAddJar_18 : decode mX9_doAddJar.2.1 18 = .ok (.iconst 1, 1) := by decide +kernel
theorem dX9_doAddJar_19 : decode mX9_doAddJar.2.1 19 = .ok (.invokevirtual 92, 3) := by decide +kernel
theorem dX9_doAddJar_22 : decode mX9_doAddJar.2.1 22 = .ok (.ireturn, 1) := by decide +kernel
theorem dX9_doAddJar_23 : decode mX9_doAddJar.2.1 23 = .ok (.aload_n 0, 1) := by decide +kernel
theorem dX9_doAddJar_24 : decode mX9_doAddJar.2.1 24 = .ok (.invokevirtual 95, 3) := by decide +kernel
theorem dX9_doAddJar_27 : decode mX9_doAddJar.2.1 27 = .ok (.bipush 12, 2) := by decide +kernel
theorem dX9_doAddJar_29 : decode mX9_doAddJar.2.1 29 = .ok (.if_icmp .eq 11, 3) := by decide +kernel
theorem dX9_doAddJar_32 : decode mX9_doAddJar.2.1 32 = .ok (.aload_n 0, 1) := by decide +kernel
theorem dX9_doAddJar_33 : decode mX9_doAddJar.2.1 33 = .ok (.iload_n 1, 1) := by decide +kernel
theorem dX9_doAddJar_34 : decode mX9_doAddJar.2.1 34 = .ok (.invokevirtual 63, 3) := by decide +kernel
theorem dX9_doAddJar_37 : decode mX9_doAddJar.2.1 37 = .ok (.ifCond .eq 9, 3) := by decide +kernel
theorem dX9_doAddJar_40 : decode mX9_doAddJar.2.1 40 = .ok (.aload_n 0, 1) := by decide +kernel
theorem dX9_doAddJar_41 : decode mX9_doAddJar.2.1 41 = .ok (.iconst 2, 1) := by decide +kernel
theorem dX9_doAddJar_42 : decode mX9_doAddJar.2.1 42 = .ok (.invokevirtual 92, 3) := by decide +kernel
theorem dX9_doAddJar_45 : decode mX9_doAddJar.2.1 45 = .ok (.ireturn, 1) := by decide +kernel
theorem dX9_doAddJar_46 : decode mX9_doAddJar.2.1 46 = .ok (.aload_n 0, 1) := by decide +kernel
theorem dX9_doAddJar_47 : decode mX9_doAddJar.2.1 47 = .ok (.getfield 9, 3) := by decide +kernel
theorem dX9_doAddJar_50 : decode mX9_doAddJar.2.1 50 = .ok (.iload_n 1, 1) := by decide +kernel
theorem dX9_doAddJar_51 : decode mX9_doAddJar.2.1 51 = .ok (.invokestatic 59, 3) := by decide +kernel
theorem dX9_doAddJar_54 : decode mX9_doAddJar.2.1 54 = .ok (.iconst 1, 1) := by decide +kernel
theorem dX9_doAddJar_55 : decode mX9_doAddJar.2.1 55 = .ok (.iastore, 1) := by decide +kernel
theorem dX9_doAddJar_56 : decode mX9_doAddJar.2.1 56 = .ok (.aload_n 0, 1) := by decide +kernel
theorem dX9_doAddJar_57 : decode mX9_doAddJar.2.1 57 = .ok (.getfield 9, 3) := by decide +kernel
theorem dX9_doAddJar_60 : decode mX9_doAddJar.2.1 60 = .ok (.iload_n 1, 1) := by decide +kernel
theorem dX9_doAddJar_61 : decode mX9_doAddJar.2.1 61 = .ok (.invokestatic 59, 3) := by decide +kernel
theorem dX9_doAddJar_64 : decode mX9_doAddJar.2.1 64 = .ok (.iconst 1, 1) := by decide +kernel
theorem dX9_doAddJar_65 : decode mX9_doAddJar.2.1 65 = .ok (.iadd, 1) := by decide +kernel
theorem dX9_doAddJar_66 : decode mX9_doAddJar.2.1 66 = .ok (.iload_n 2, 1) := by decide +kernel
theorem dX9_doAddJar_67 : decode mX9_doAddJar.2.1 67 = .ok (.iastore, 1) := by decide +kernel
theorem dX9_doAddJar_68 : decode mX9_doAddJar.2.1 68 = .ok (.aload_n 0, 1) := by decide +kernel
theorem dX9_doAddJar_69 : decode mX9_doAddJar.2.1 69 = .ok (.getfield 9, 3) := by decide +kernel
theorem dX9_doAddJar_72 : decode mX9_doAddJar.2.1 72 = .ok (.iload_n 1, 1) := by decide +kernel
theorem dX9_doAddJar_73 : decode mX9_doAddJar.2.1 73 = .ok (.invokestatic 59, 3) := by decide +kernel
theorem dX9_doAddJar_76 : decode mX9_doAddJar.2.1 76 = .ok (.iconst 2, 1) := by decide +kernel
theorem dX9_doAddJar_77 : decode mX9_doAddJar.2.1 77 = .ok (.iadd, 1) := by decide +kernel
theorem dX9_doAddJar_78 : decode mX9_doAddJar.2.1 78 = .ok (.aload_n 0, 1) := by decide +kernel
theorem dX9_doAddJar_79 : decode mX9_doAddJar.2.1 79 = .ok (.getfield 9, 3) := by decide +kernel
theorem dX9_doAddJar_82 : decode mX9_doAddJar.2.1 82 = .ok (.iconst 3, 1) := by decide +kernel
theorem dX9_doAddJar_83 : decode mX9_doAddJar.2.1 83 = .ok (.iaload, 1) := by decide +kernel
theorem dX9_doAddJar_84 : decode mX9_doAddJar.2.1 84 = .ok (.iastore, 1) := by decide +kernel
theorem dX9_doAddJar_85 : decode mX9_doAddJar.2.1 85 = .ok (.aload_n 0, 1) := by decide +kernel
theorem dX9_doAddJar_86 : decode mX9_doAddJar.2.1 86 = .ok (.getfield 9, 3) := by decide +kernel
theorem dX9_doAddJar_89 : decode mX9_doAddJar.2.1 89 = .ok (.iconst 3, 1) := by decide +kernel
theorem dX9_doAddJar_90 : decode mX9_doAddJar.2.1 90 = .ok (.dup2, 1) := by decide +kernel
theorem dX9_doAddJar_91 : decode mX9_doAddJar.2.1 91 = .ok (.iaload, 1) := by decide +kernel
theorem dX9_doAddJar_92 : decode mX9_doAddJar.2.1 92 = .ok (.iconst 1, 1) := by decide +kernel
theorem dX9_doAddJar_93 : decode mX9_doAddJar.2.1 93 = .ok (.iadd, 1) := by decide +kernel
theorem dX9_doAddJar_94 : decode mX9_doAddJar.2.1 94 = .ok (.iastore, 1) := by decide +kernel
theorem dX9_doAddJar_95 : decode mX9_doAddJar.2.1 95 = .ok (.aload_n 0, 1) := by decide +kernel
theorem dX9_doAddJar_96 : decode mX9_doAddJar.2.1 96 = .ok (.invokevirtual 95, 3) := by decide +kernel
theorem dX9_doAddJar_99 : decode mX9_doAddJar.2.1 99 = .ok (.ireturn, 1) := by decide +kernel
theorem dX9_addJar_0 : decode mX9_addJar.2.1 0 = .ok (.aload_n 0, 1) := by decide +kernel
theorem dX9_addJar_1 : decode mX9_addJar.2.1 1 = .ok (.invokevirtual 99, 3) := by decide +kernel
theorem dX9_addJar_4 : decode mX9_addJar.2.1 4 = .ok (.aload_n 0, 1) := by decide +kernel
theorem dX9_addJar_5 : decode mX9_addJar.2.1 5 = .ok (.aload_n 0, 1) := by decide +kernel
theorem dX9_addJar_6 : decode mX9_addJar.2.1 6 = .ok (.iload_n 1, 1) := by decide +kernel
theorem dX9_addJar_7 : decode mX9_addJar.2.1 7 = .ok (.iload_n 2, 1) := by decide +kernel
theorem dX9_addJar_8 : decode mX9_addJar.2.1 8 = .ok (.invokevirtual 102, 3) := by decide +kernel
theorem dX9_addJar_11 : decode mX9_addJar.2.1 11 = .ok (.invokevirtual 105, 3) := by decide +kernel
theorem dX9_addJar_14 : decode mX9_addJar.2.1 14 = .ok (.ireturn, 1) := by decide +kernel
theorem dX9_doRemoveJar_0 : decode mX9_doRemoveJar.2.1 0 = .ok (.aload_n 0, 1) := by decide +kernel
theorem dX9_doRemoveJar_1 : decode mX9_doRemoveJar.2.1 1 = .ok (.iload_n 1, 1) := by decide +kernel
theorem dX9_doRemoveJar_2 : decode mX9_doRemoveJar.2.1 2 = .ok (.invokevirtual 63, 3) := by decide +kernel
theorem dX9_doRemoveJar_5 : decode mX9_doRemoveJar.2.1 5 = .ok (.ifCond .ne 9, 3) := by decide +kernel
theorem dX9_doRemoveJar_8 : decode mX9_doRemoveJar.2.1 8 = .ok (.aload_n 0, 1) := by decide +kernel
theorem dX9_doRemoveJar_9 : decode mX9_doRemoveJar.2.1 9 = .ok (.iconst 1, 1) := by decide +kernel
theorem dX9_doRemoveJar_10 : decode mX9_doRemoveJar.2.1 10 = .ok (.invokevirtual 92, 3) := by decide +kernel
theorem dX9_doRemoveJar_13 : decode mX9_doRemoveJar.2.1 13 = .ok (.ireturn, 1) := by decide +kernel
theorem dX9_doRemoveJar_14 : decode mX9_doRemoveJar.2.1 14 = .ok (.iconst 0, 1) := by decide +kernel
theorem dX9_doRemoveJar_15 : decode mX9_doRemoveJar.2.1 15 = .ok (.istore_n 2, 1) := by decide +kernel
theorem dX9_doRemoveJar_16 : decode mX9_doRemoveJar.2.1 16 = .ok (.aload_n 0, 1) := by decide +kernel
theorem dX9_doRemoveJar_17 : decode mX9_doRemoveJar.2.1 17 = .ok (.getfield 9, 3) := by decide +kernel
theorem dX9_doRemoveJar_20 : decode mX9_doRemoveJar.2.1 20 = .ok (.iload_n 1, 1) := by decide +kernel
theorem dX9_doRemoveJar_21 : decode mX9_doRemoveJar.2.1 21 = .ok (.invokestatic 59, 3) := by decide +kernel
theorem dX9_doRemoveJar_24 : decode mX9_doRemoveJar.2.1 24 = .ok (.iconst 0, 1) := by decide +kernel
theorem dX9_doRemoveJar_25 : decode mX9_doRemoveJar.2.1 25 = .ok (.iastore, 1) := by decide +kernel
theorem dX9_doRemoveJar_26 : decode mX9_doRemoveJar.2.1 26 = .ok (.iconst 0, 1) := by decide +kernel
theorem dX9_doRemoveJar_27 : decode mX9_doRemoveJar.2.1 27 = .ok (.istore_n 3, 1) := by decide +kernel
theorem dX9_doRemoveJar_28 : decode mX9_doRemoveJar.2.1 28 = .ok (.iload_n 3, 1) := by decide +kernel
theorem dX9_doRemoveJar_29 : decode mX9_doRemoveJar.2.1 29 = .ok (.aload_n 0, 1) := by decide +kernel
theorem dX9_doRemoveJar_30 : decode mX9_doRemoveJar.2.1 30 = .ok (.getfield 9, 3) := by decide +kernel
theorem dX9_doRemoveJar_33 : decode mX9_doRemoveJar.2.1 33 = .ok (.iconst 0, 1) := by decide +kernel
theorem dX9_doRemoveJar_34 : decode mX9_doRemoveJar.2.1 34 = .ok (.iaload, 1) := by decide +kernel
theorem dX9_doRemoveJar_35 : decode mX9_doRemoveJar.2.1 35 = .ok (.if_icmp .ge 33, 3) := by decide +kernel
theorem dX9_doRemoveJar_38 : decode mX9_doRemoveJar.2.1 38 = .ok (.iload_n 2, 1) := by decide +kernel
theorem dX9_doRemoveJar_39 : decode mX9_doRemoveJar.2.1 39 = .ok (.aload_n 0, 1) := by decide +kernel
theorem dX9_doRemoveJar_40 : decode mX9_doRemoveJar.2.1 40 = .ok (.getfield 9, 3) := by decide +kernel
theorem dX9_doRemoveJar_43 : decode mX9_doRemoveJar.2.1 43 = .ok (.iload_n 3, 1) := by decide +kernel
theorem dX9_doRemoveJar_44 : decode mX9_doRemoveJar.2.1 44 = .ok (.iload_n 1, 1) := by decide +kernel
theorem dX9_doRemoveJar_45 : decode mX9_doRemoveJar.2.1 45 = .ok (.invokestatic 66, 3) := by decide +kernel
theorem dX9_doRemoveJar_48 : decode mX9_doRemoveJar.2.1 48 = .ok (.iaload, 1) := by decide +kernel
theorem dX9_doRemoveJar_49 : decode mX9_doRemoveJar.2.1 49 = .ok (.iadd, 1) := by decide +kernel
theorem dX9_doRemoveJar_50 : decode mX9_doRemoveJar.2.1 50 = .ok (.istore_n 2, 1) := by decide +kernel
theorem dX9_doRemoveJar_51 : decode mX9_doRemoveJar.2.1 51 = .ok (.aload_n 0, 1) := by decide +kernel
theorem dX9_doRemoveJar_52 : decode mX9_doRemoveJar.2.1 52 = .ok (.getfield 9, 3) := by decide +kernel
theorem dX9_doRemoveJar_55 : decode mX9_doRemoveJar.2.1 55 = .ok (.iload_n 3, 1) := by decide +kernel
theorem dX9_doRemoveJar_56 : decode mX9_doRemoveJar.2.1 56 = .ok (.iload_n 1, 1) := by decide +kernel
theorem dX9_doRemoveJar_57 : decode mX9_doRemoveJar.2.1 57 = .ok (.invokestatic 66, 3) := by decide +kernel
theorem dX9_doRemoveJar_60 : decode mX9_doRemoveJar.2.1 60 = .ok (.iconst 0, 1) := by decide +kernel
theorem dX9_doRemoveJar_61 : decode mX9_doRemoveJar.2.1 61 = .ok (.iastore, 1) := by decide +kernel
theorem dX9_doRemoveJar_62 : decode mX9_doRemoveJar.2.1 62 = .ok (.iinc 3 1, 3) := by decide +kernel
theorem dX9_doRemoveJar_65 : decode mX9_doRemoveJar.2.1 65 = .ok (.goto (-37), 3) := by decide +kernel
theorem dX9_doRemoveJar_68 : decode mX9_doRemoveJar.2.1 68 = .ok (.iload_n 2, 1) := by decide +kernel
theorem dX9_doRemoveJar_69 : decode mX9_doRemoveJar.2.1 69 = .ok (.ireturn, 1) := by decide +kernel
theorem dX9_removeJar_0 : decode mX9_removeJar.2.1 0 = .ok (.aload_n 0, 1) := by decide +kernel
theorem dX9_removeJar_1 : decode mX9_removeJar.2.1 1 = .ok (.invokevirtual 99, 3) := by decide +kernel
theorem dX9_removeJar_4 : decode mX9_removeJar.2.1 4 = .ok (.aload_n 0, 1) := by decide +kernel
theorem dX9_removeJar_5 : decode mX9_removeJar.2.1 5 = .ok (.aload_n 0, 1) := by decide +kernel
theorem dX9_removeJar_6 : decode mX9_removeJar.2.1 6 = .ok (.iload_n 1, 1) := by decide +kernel
theorem dX9_removeJar_7 : decode mX9_removeJar.2.1 7 = .ok (.invokevirtual 108, 3) := by decide +kernel
theorem dX9_removeJar_10 : decode mX9_removeJar.2.1 10 = .ok (.invokevirtual 105, 3) := by decide +kernel
theorem dX9_removeJar_13 : decode mX9_removeJar.2.1 13 = .ok (.ireturn, 1) := by decide +kernel
theorem dX9_doSay_0 : decode mX9_doSay.2.1 0 = .ok (.aload_n 0, 1) := by decide +kernel
theorem dX9_doSay_1 : decode mX9_doSay.2.1 1 = .ok (.iload_n 1, 1) := by decide +kernel
theorem dX9_doSay_2 : decode mX9_doSay.2.1 2 = .ok (.invokevirtual 63, 3) := by decide +kernel
theorem dX9_doSay_5 : decode mX9_doSay.2.1 5 = .ok (.ifCond .ne 9, 3) := by decide +kernel
theorem dX9_doSay_8 : decode mX9_doSay.2.1 8 = .ok (.aload_n 0, 1) := by decide +kernel
theorem dX9_doSay_9 : decode mX9_doSay.2.1 9 = .ok (.iconst 1, 1) := by decide +kernel
theorem dX9_doSay_10 : decode mX9_doSay.2.1 10 = .ok (.invokevirtual 92, 3) := by decide +kernel
theorem dX9_doSay_13 : decode mX9_doSay.2.1 13 = .ok (.ireturn, 1) := by decide +kernel
theorem dX9_doSay_14 : decode mX9_doSay.2.1 14 = .ok (.iload_n 2, 1) := by decide +kernel
theorem dX9_doSay_15 : decode mX9_doSay.2.1 15 = .ok (.iconst 0, 1) := by decide +kernel
theorem dX9_doSay_16 : decode mX9_doSay.2.1 16 = .ok (.bipush 99, 2) := by decide +kernel
theorem dX9_doSay_18 : decode mX9_doSay.2.1 18 = .ok (.invokestatic 51, 3) := by decide +kernel
theorem dX9_doSay_21 : decode mX9_doSay.2.1 21 = .ok (.ifCond .ne 9, 3) := by decide +kernel
theorem dX9_doSay_24 : decode mX9_doSay.2.1 24 = .ok (.aload_n 0, 1) := by decide +kernel
theorem dX9_doSay_25 : decode mX9_doSay.2.1 25 = .ok (.iconst 2, 1) := by decide +kernel
theorem dX9_doSay_26 : decode mX9_doSay.2.1 26 = .ok (.invokevirtual 92, 3) := by decide +kernel
theorem dX9_doSay_29 : decode mX9_doSay.2.1 29 = .ok (.ireturn, 1) := by decide +kernel
theorem dX9_doSay_30 : decode mX9_doSay.2.1 30 = .ok (.iconst 0, 1) := by decide +kernel
theorem dX9_doSay_31 : decode mX9_doSay.2.1 31 = .ok (.istore_n 3, 1) := by decide +kernel
theorem dX9_doSay_32 : decode mX9_doSay.2.1 32 = .ok (.aload_n 0, 1) := by decide +kernel
theorem dX9_doSay_33 : decode mX9_doSay.2.1 33 = .ok (.getfield 9, 3) := by decide +kernel
theorem dX9_doSay_36 : decode mX9_doSay.2.1 36 = .ok (.iload_n 1, 1) := by decide +kernel
theorem dX9_doSay_37 : decode mX9_doSay.2.1 37 = .ok (.invokestatic 59, 3) := by decide +kernel
theorem dX9_doSay_40 : decode mX9_doSay.2.1 40 = .ok (.iconst 1, 1) := by decide +kernel
theorem dX9_doSay_41 : decode mX9_doSay.2.1 41 = .ok (.iadd, 1) := by decide +kernel
theorem dX9_doSay_42 : decode mX9_doSay.2.1 42 = .ok (.iload_n 2, 1) := by decide +kernel
theorem dX9_doSay_43 : decode mX9_doSay.2.1 43 = .ok (.iastore, 1) := by decide +kernel
theorem dX9_doSay_44 : decode mX9_doSay.2.1 44 = .ok (.aload_n 0, 1) := by decide +kernel
theorem dX9_doSay_45 : decode mX9_doSay.2.1 45 = .ok (.getfield 9, 3) := by decide +kernel
theorem dX9_doSay_48 : decode mX9_doSay.2.1 48 = .ok (.iload_n 1, 1) := by decide +kernel
theorem dX9_doSay_49 : decode mX9_doSay.2.1 49 = .ok (.invokestatic 59, 3) := by decide +kernel
theorem dX9_doSay_52 : decode mX9_doSay.2.1 52 = .ok (.iconst 2, 1) := by decide +kernel
theorem dX9_doSay_53 : decode mX9_doSay.2.1 53 = .ok (.iadd, 1) := by decide +kernel
theorem dX9_doSay_54 : decode mX9_doSay.2.1 54 = .ok (.aload_n 0, 1) := by decide +kernel
theorem dX9_doSay_55 : decode mX9_doSay.2.1 55 = .ok (.getfield 9, 3) := by decide +kernel
theorem dX9_doSay_58 : decode mX9_doSay.2.1 58 = .ok (.iconst 3, 1) := by decide +kernel
theorem dX9_doSay_59 : decode mX9_doSay.2.1 59 = .ok (.iaload, 1) := by decide +kernel
theorem dX9_doSay_60 : decode mX9_doSay.2.1 60 = .ok (.iastore, 1) := by decide +kernel
theorem dX9_doSay_61 : decode mX9_doSay.2.1 61 = .ok (.aload_n 0, 1) := by decide +kernel
theorem dX9_doSay_62 : decode mX9_doSay.2.1 62 = .ok (.getfield 9, 3) := by decide +kernel
theorem dX9_doSay_65 : decode mX9_doSay.2.1 65 = .ok (.iconst 3, 1) := by decide +kernel
theorem dX9_doSay_66 : decode mX9_doSay.2.1 66 = .ok (.dup2, 1) := by decide +kernel
theorem dX9_doSay_67 : decode mX9_doSay.2.1 67 = .ok (.iaload, 1) := by decide +kernel
theorem dX9_doSay_68 : decode mX9_doSay.2.1 68 = .ok (.iconst 1, 1) := by decide +kernel
theorem dX9_doSay_69 : decode mX9_doSay.2.1 69 = .ok (.iadd, 1) := by decide +kernel
theorem dX9_doSay_70 : decode mX9_doSay.2.1 70 = .ok (.iastore, 1) := by decide +kernel
theorem dX9_doSay_71 : decode mX9_doSay.2.1 71 = .ok (.iconst 0, 1) := by decide +kernel
theorem dX9_doSay_72 : decode mX9_doSay.2.1 72 = .ok (.istore 4, 2) := by decide +kernel
theorem dX9_doSay_74 : decode mX9_doSay.2.1 74 = .ok (.iload 4, 2) := by decide +kernel
theorem dX9_doSay_76 : decode mX9_doSay.2.1 76 = .ok (.aload_n 0, 1) := by decide +kernel
theorem dX9_doSay_77 : decode mX9_doSay.2.1 77 = .ok (.getfield 9, 3) := by decide +kernel
theorem dX9_doSay_80 : decode mX9_doSay.2.1 80 = .ok (.iconst 0, 1) := by decide +kernel
theorem dX9_doSay_81 : decode mX9_doSay.2.1 81 = .ok (.iaload, 1) := by decide +kernel
theorem dX9_doSay_82 : decode mX9_doSay.2.1 82 = .ok (.if_icmp .ge 101, 3) := by decide +kernel
theorem dX9_doSay_85 : decode mX9_doSay.2.1 85 = .ok (.iload 4, 2) := by decide +kernel
theorem dX9_doSay_87 : decode mX9_doSay.2.1 87 = .ok (.iload_n 1, 1) := by decide +kernel
theorem dX9_doSay_88 : decode mX9_doSay.2.1 88 = .ok (.invokestatic 66, 3) := by decide +kernel
theorem dX9_doSay_91 : decode mX9_doSay.2.1 91 = .ok (.istore 5, 2) := by decide +kernel
theorem dX9_doSay_93 : decode mX9_doSay.2.1 93 = .ok (.aload_n 0, 1) := by decide +kernel
theorem dX9_doSay_94 : decode mX9_doSay.2.1 94 = .ok (.iload 4, 2) := by decide +kernel
theorem dX9_doSay_96 : decode mX9_doSay.2.1 96 = .ok (.iconst 3, 1) := by decide +kernel
theorem dX9_doSay_97 : decode mX9_doSay.2.1 97 = .ok (.invokevirtual 77, 3) := by decide +kernel
theorem dX9_doSay_100 : decode mX9_doSay.2.1 100 = .ok (.iconst 1, 1) := by decide +kernel
theorem dX9_doSay_101 : decode mX9_doSay.2.1 101 = .ok (.if_icmp .ne 31, 3) := by decide +kernel
theorem dX9_doSay_104 : decode mX9_doSay.2.1 104 = .ok (.aload_n 0, 1) := by decide +kernel
theorem dX9_doSay_105 : decode mX9_doSay.2.1 105 = .ok (.getfield 9, 3) := by decide +kernel
theorem dX9_doSay_108 : decode mX9_doSay.2.1 108 = .ok (.iload 5, 2) := by decide +kernel
theorem dX9_doSay_110 : decode mX9_doSay.2.1 110 = .ok (.iaload, 1) := by decide +kernel
theorem dX9_doSay_111 : decode mX9_doSay.2.1 111 = .ok (.iconst 1, 1) := by decide +kernel
theorem dX9_doSay_112 : decode mX9_doSay.2.1 112 = .ok (.if_icmp .ne 20, 3) := by decide +kernel
theorem dX9_doSay_115 : decode mX9_doSay.2.1 115 = .ok (.aload_n 0, 1) := by decide +kernel
theorem dX9_doSay_116 : decode mX9_doSay.2.1 116 = .ok (.getfield 9, 3) := by decide +kernel
theorem dX9_doSay_119 : decode mX9_doSay.2.1 119 = .ok (.iload 5, 2) := by decide +kernel
theorem dX9_doSay_121 : decode mX9_doSay.2.1 121 = .ok (.bipush 6, 2) := by decide +kernel
theorem dX9_doSay_123 : decode mX9_doSay.2.1 123 = .ok (.iadd, 1) := by decide +kernel
theorem dX9_doSay_124 : decode mX9_doSay.2.1 124 = .ok (.iaload, 1) := by decide +kernel
theorem dX9_doSay_125 : decode mX9_doSay.2.1 125 = .ok (.ifCond .ne 7, 3) := by decide +kernel
theorem dX9_doSay_128 : decode mX9_doSay.2.1 128 = .ok (.iconst 1, 1) := by decide +kernel
theorem dX9_doSay_129 : decode mX9_doSay.2.1 129 = .ok (.goto 4, 3) := by decide +kernel
theorem dX9_doSay_132 : decode mX9_doSay.2.1 132 = .ok (.iconst 0, 1) := by decide +kernel
theorem dX9_doSay_133 : decode mX9_doSay.2.1 133 = .ok (.istore 6, 2) := by decide +kernel
theorem dX9_doSay_135 : decode mX9_doSay.2.1 135 = .ok (.aload_n 0, 1) := by decide +kernel
theorem dX9_doSay_136 : decode mX9_doSay.2.1 136 = .ok (.getfield 9, 3) := by decide +kernel
theorem dX9_doSay_139 : decode mX9_doSay.2.1 139 = .ok (.iload 5, 2) := by decide +kernel
theorem dX9_doSay_141 : decode mX9_doSay.2.1 141 = .ok (.bipush 6, 2) := by decide +kernel
theorem dX9_doSay_143 : decode mX9_doSay.2.1 143 = .ok (.iadd, 1) := by decide +kernel
theorem dX9_doSay_144 : decode mX9_doSay.2.1 144 = .ok (.iload 6, 2) := by decide +kernel
theorem dX9_doSay_146 : decode mX9_doSay.2.1 146 = .ok (.ifCond .eq 7, 3) := by decide +kernel
theorem dX9_doSay_149 : decode mX9_doSay.2.1 149 = .ok (.iconst 1, 1) := by decide +kernel
theorem dX9_doSay_150 : decode mX9_doSay.2.1 150 = .ok (.goto 13, 3) := by decide +kernel
theorem dX9_doSay_153 : decode mX9_doSay.2.1 153 = .ok (.aload_n 0, 1) := by decide +kernel
theorem dX9_doSay_154 : decode mX9_doSay.2.1 154 = .ok (.getfield 9, 3) := by decide +kernel
theorem dX9_doSay_157 : decode mX9_doSay.2.1 157 = .ok (.iload 5, 2) := by decide +kernel
theorem dX9_doSay_159 : decode mX9_doSay.2.1 159 = .ok (.bipush 6, 2) := by decide +kernel
theorem dX9_doSay_161 : decode mX9_doSay.2.1 161 = .ok (.iadd, 1) := by decide +kernel
theorem dX9_doSay_162 : decode mX9_doSay.2.1 162 = .ok (.iaload, 1) := by decide +kernel
theorem dX9_doSay_163 : decode mX9_doSay.2.1 163 = .ok (.iastore, 1) := by decide +kernel
theorem dX9_doSay_164 : decode mX9_doSay.2.1 164 = .ok (.iload_n 3, 1) := by decide +kernel
theorem dX9_doSay_165 : decode mX9_doSay.2.1 165 = .ok (.iload 6, 2) := by decide +kernel
theorem dX9_doSay_167 : decode mX9_doSay.2.1 167 = .ok (.ifCond .eq 7, 3) := by decide +kernel
theorem dX9_doSay_170 : decode mX9_doSay.2.1 170 = .ok (.iconst 1, 1) := by decide +kernel
theorem dX9_doSay_171 : decode mX9_doSay.2.1 171 = .ok (.goto 4, 3) := by decide +kernel
theorem dX9_doSay_174 : decode mX9_doSay.2.1 174 = .ok (.iconst 0, 1) := by decide +kernel
theorem dX9_doSay_175 : decode mX9_doSay.2.1 175 = .ok (.iadd, 1) := by decide +kernel
theorem dX9_doSay_176 : decode mX9_doSay.2.1 176 = .ok (.istore_n 3, 1) := by decide +kernel
theorem dX9_doSay_177 : decode mX9_doSay.2.1 177 = .ok (.iinc 4 1, 3) := by decide +kernel
theorem dX9_doSay_180 : decode mX9_doSay.2.1 180 = .ok (.goto (-106), 3) := by decide +kernel
theorem dX9_doSay_183 : decode mX9_doSay.2.1 183 = .ok (.iload_n 3, 1) := by decide +kernel
theorem dX9_doSay_184 : decode mX9_doSay.2.1 184 = .ok (.ireturn, 1) := by decide +kernel
theorem dX9_say_0 : decode mX9_say.2.1 0 = .ok (.aload_n 0, 1) := by decide +kernel
theorem dX9_say_1 : decode mX9_say.2.1 1 = .ok (.invokevirtual 99, 3) := by decide +kernel
theorem dX9_say_4 : decode mX9_say.2.1 4 = .ok (.aload_n 0, 1) := by decide +kernel
theorem dX9_say_5 : decode mX9_say.2.1 5 = .ok (.aload_n 0, 1) := by decide +kernel
theorem dX9_say_6 : decode mX9_say.2.1 6 = .ok (.iload_n 1, 1) := by decide +kernel
theorem dX9_say_7 : decode mX9_say.2.1 7 = .ok (.iload_n 2, 1) := by decide +kernel
theorem dX9_say_8 : decode mX9_say.2.1 8 = .ok (.invokevirtual 111, 3) := by decide +kernel
theorem dX9_say_11 : decode mX9_say.2.1 11 = .ok (.invokevirtual 105, 3) := by decide +kernel
theorem dX9_say_14 : decode mX9_say.2.1 14 = .ok (.ireturn, 1) := by decide +kernel
theorem dX9_jarCount_0 : decode mX9_jarCount.2.1 0 = .ok (.aload_n 0, 1) := by decide +kernel
theorem dX9_jarCount_1 : decode mX9_jarCount.2.1 1 = .ok (.iconst 0, 1) := by decide +kernel
theorem dX9_jarCount_2 : decode mX9_jarCount.2.1 2 = .ok (.putfield 39, 3) := by decide +kernel
theorem dX9_jarCount_5 : decode mX9_jarCount.2.1 5 = .ok (.aload_n 0, 1) := by decide +kernel
theorem dX9_jarCount_6 : decode mX9_jarCount.2.1 6 = .ok (.invokevirtual 95, 3) := by decide +kernel
theorem dX9_jarCount_9 : decode mX9_jarCount.2.1 9 = .ok (.ireturn, 1) := by decide +kernel
theorem dX9_jarAt_0 : decode mX9_jarAt.2.1 0 = .ok (.aload_n 0, 1) := by decide +kernel
theorem dX9_jarAt_1 : decode mX9_jarAt.2.1 1 = .ok (.iload_n 1, 1) := by decide +kernel
theorem dX9_jarAt_2 : decode mX9_jarAt.2.1 2 = .ok (.iconst 0, 1) := by decide +kernel
theorem dX9_jarAt_3 : decode mX9_jarAt.2.1 3 = .ok (.aload_n 0, 1) := by decide +kernel
theorem dX9_jarAt_4 : decode mX9_jarAt.2.1 4 = .ok (.invokevirtual 95, 3) := by decide +kernel
theorem dX9_jarAt_7 : decode mX9_jarAt.2.1 7 = .ok (.iconst 1, 1) := by decide +kernel
theorem dX9_jarAt_8 : decode mX9_jarAt.2.1 8 = .ok (.isub, 1) := by decide +kernel
theorem dX9_jarAt_9 : decode mX9_jarAt.2.1 9 = .ok (.invokestatic 51, 3) := by decide +kernel
theorem dX9_jarAt_12 : decode mX9_jarAt.2.1 12 = .ok (.invokevirtual 114, 3) := by decide +kernel
theorem dX9_jarAt_15 : decode mX9_jarAt.2.1 15 = .ok (.istore_n 2, 1) := by decide +kernel
theorem dX9_jarAt_16 : decode mX9_jarAt.2.1 16 = .ok (.bipush 32, 2) := by decide +kernel
theorem dX9_jarAt_18 : decode mX9_jarAt.2.1 18 = .ok (.istore_n 3, 1) := by decide +kernel
theorem dX9_jarAt_19 : decode mX9_jarAt.2.1 19 = .ok (.iconst 0, 1) := by decide +kernel
theorem dX9_jarAt_20 : decode mX9_jarAt.2.1 20 = .ok (.istore 4, 2) := by decide +kernel
theorem dX9_jarAt_22 : decode mX9_jarAt.2.1 22 = .ok (.bipush 97, 2) := by decide +kernel
theorem dX9_jarAt_24 : decode mX9_jarAt.2.1 24 = .ok (.istore 5, 2) := by decide +kernel
theorem dX9_jarAt_26 : decode mX9_jarAt.2.1 26 = .ok (.iload 5, 2) := by decide +kernel
theorem dX9_jarAt_28 : decode mX9_jarAt.2.1 28 = .ok (.bipush 122, 2) := by decide +kernel
theorem dX9_jarAt_30 : decode mX9_jarAt.2.1 30 = .ok (.if_icmp .gt 54, 3) := by decide +kernel
theorem dX9_jarAt_33 : decode mX9_jarAt.2.1 33 = .ok (.iload_n 2, 1) := by decide +kernel
theorem dX9_jarAt_34 : decode mX9_jarAt.2.1 34 = .ok (.ifCond .eq 50, 3) := by decide +kernel
theorem dX9_jarAt_37 : decode mX9_jarAt.2.1 37 = .ok (.aload_n 0, 1) := by decide +kernel
theorem dX9_jarAt_38 : decode mX9_jarAt.2.1 38 = .ok (.iload 5, 2) := by decide +kernel
theorem dX9_jarAt_40 : decode mX9_jarAt.2.1 40 = .ok (.invokevirtual 63, 3) := by decide +kernel
theorem dX9_jarAt_43 : decode mX9_jarAt.2.1 43 = .ok (.ifCond .eq 14, 3) := by decide +kernel
theorem dX9_jarAt_46 : decode mX9_jarAt.2.1 46 = .ok (.iload 4, 2) := by decide +kernel
theorem dX9_jarAt_48 : decode mX9_jarAt.2.1 48 = .ok (.iload_n 1, 1) := by decide +kernel
theorem dX9_jarAt_49 : decode mX9_jarAt.2.1 49 = .ok (.if_icmp .ne 8, 3) := by decide +kernel
theorem dX9_jarAt_52 : decode mX9_jarAt.2.1 52 = .ok (.iload 5, 2) := by decide +kernel
theorem dX9_jarAt_54 : decode mX9_jarAt.2.1 54 = .ok (.goto 4, 3) := by decide +kernel
theorem dX9_jarAt_57 : decode mX9_jarAt.2.1 57 = .ok (.iload_n 3, 1) := by decide +kernel
theorem dX9_jarAt_58 : decode mX9_jarAt.2.1 58 = .ok (.istore_n 3, 1) := by decide +kernel
theorem dX9_jarAt_59 : decode mX9_jarAt.2.1 59 = .ok (.iload 4, 2) := by decide +kernel
theorem dX9_jarAt_61 : decode mX9_jarAt.2.1 61 = .ok (.aload_n 0, 1) := by decide +kernel
theorem dX9_jarAt_62 : decode mX9_jarAt.2.1 62 = .ok (.iload 5, 2) := by decide +kernel
theorem dX9_jarAt_64 : decode mX9_jarAt.2.1 64 = .ok (.invokevirtual 63, 3) := by decide +kernel
theorem dX9_jarAt_67 : decode mX9_jarAt.2.1 67 = .ok (.ifCond .eq 7, 3) := by decide +kernel
theorem dX9_jarAt_70 : decode mX9_jarAt.2.1 70 = .ok (.iconst 1, 1) := by decide +kernel
theorem dX9_jarAt_71 : decode mX9_jarAt.2.1 71 = .ok (.goto 4, 3) := by decide +kernel
theorem dX9_jarAt_74 : decode mX9_jarAt.2.1 74 = .ok (.iconst 0, 1) := by decide +kernel
theorem dX9_jarAt_75 : decode mX9_jarAt.2.1 75 = .ok (.iadd, 1) := by decide +kernel
theorem dX9_jarAt_76 : decode mX9_jarAt.2.1 76 = .ok (.istore 4, 2) := by decide +kernel
theorem dX9_jarAt_78 : decode mX9_jarAt.2.1 78 = .ok (.iinc 5 1, 3) := by decide +kernel
theorem dX9_jarAt_81 : decode mX9_jarAt.2.1 81 = .ok (.goto (-55), 3) := by decide +kernel
theorem dX9_jarAt_84 : decode mX9_jarAt.2.1 84 = .ok (.iload_n 3, 1) := by decide +kernel
theorem dX9_jarAt_85 : decode mX9_jarAt.2.1 85 = .ok (.i2c, 1) := by decide +kernel
theorem dX9_jarAt_86 : decode mX9_jarAt.2.1 86 = .ok (.ireturn, 1) := by decide +kernel
theorem dX9_wordOf_0 : decode mX9_wordOf.2.1 0 = .ok (.aload_n 0, 1) := by decide +kernel
theorem dX9_wordOf_1 : decode mX9_wordOf.2.1 1 = .ok (.aload_n 0, 1) := by decide +kernel
theorem dX9_wordOf_2 : decode mX9_wordOf.2.1 2 = .ok (.iload_n 1, 1) := by decide +kernel
theorem dX9_wordOf_3 : decode mX9_wordOf.2.1 3 = .ok (.invokevirtual 63, 3) := by decide +kernel
theorem dX9_wordOf_6 : decode mX9_wordOf.2.1 6 = .ok (.invokevirtual 114, 3) := by decide +kernel
theorem dX9_wordOf_9 : decode mX9_wordOf.2.1 9 = .ok (.ifCond .eq 17, 3) := by decide +kernel
theorem dX9_wordOf_12 : decode mX9_wordOf.2.1 12 = .ok (.aload_n 0, 1) := by decide +kernel
theorem dX9_wordOf_13 : decode mX9_wordOf.2.1 13 = .ok (.getfield 9, 3) := by decide +kernel
theorem dX9_wordOf_16 : decode mX9_wordOf.2.1 16 = .ok (.iload_n 1, 1) := by decide +kernel
theorem dX9_wordOf_17 : decode mX9_wordOf.2.1 17 = .ok (.invokestatic 59, 3) := by decide +kernel
theorem dX9_wordOf_20 : decode mX9_wordOf.2.1 20 = .ok (.iconst 1, 1) := by decide +kernel
theorem dX9_wordOf_21 : decode mX9_wordOf.2.1 21 = .ok (.iadd, 1) := by decide +kernel
theorem dX9_wordOf_22 : decode mX9_wordOf.2.1 22 = .ok (.iaload, 1) := by decide +kernel
theorem dX9_wordOf_23 : decode mX9_wordOf.2.1 23 = .ok (.goto 4, 3) := by decide +kernel
theorem dX9_wordOf_26 : decode mX9_wordOf.2.1 26 = .ok (.iconst 0, 1) := by decide +kernel
theorem dX9_wordOf_27 : decode mX9_wordOf.2.1 27 = .ok (.ireturn, 1) := by decide +kernel
theorem dX9_doAddShelf_0 : decode mX9_doAddShelf.2.1 0 = .ok (.aload_n 0, 1) := by decide +kernel
theorem dX9_doAddShelf_1 : decode mX9_doAddShelf.2.1 1 = .ok (.getfield 9, 3) := by decide +kernel
theorem dX9_doAddShelf_4 : decode mX9_doAddShelf.2.1 4 = .ok (.iconst 0, 1) := by decide +kernel
theorem dX9_doAddShelf_5 : decode mX9_doAddShelf.2.1 5 = .ok (.iaload, 1) := by decide +kernel
theorem dX9_doAddShelf_6 : decode mX9_doAddShelf.2.1 6 = .ok (.istore 4, 2) := by decide +kernel
theorem dX9_doAddShelf_8 : decode mX9_doAddShelf.2.1 8 = .ok (.iload_n 1, 1) := by decide +kernel
theorem dX9_doAddShelf_9 : decode mX9_doAddShelf.2.1 9 = .ok (.iconst 1, 1) := by decide +kernel
theorem dX9_doAddShelf_10 : decode mX9_doAddShelf.2.1 10 = .ok (.bipush 6, 2) := by decide +kernel
theorem dX9_doAddShelf_12 : decode mX9_doAddShelf.2.1 12 = .ok (.invokestatic 51, 3) := by decide +kernel
theorem dX9_doAddShelf_15 : decode mX9_doAddShelf.2.1 15 = .ok (.ifCond .eq 35, 3) := by decide +kernel
theorem dX9_doAddShelf_18 : decode mX9_doAddShelf.2.1 18 = .ok (.iload_n 2, 1) := by decide +kernel
theorem dX9_doAddShelf_19 : decode mX9_doAddShelf.2.1 19 = .ok (.iconst 1, 1) := by decide +kernel
theorem dX9_doAddShelf_20 : decode mX9_doAddShelf.2.1 20 = .ok (.bipush 30, 2) := by decide +kernel
theorem dX9_doAddShelf_22 : decode mX9_doAddShelf.2.1 22 = .ok (.invokestatic 51, 3) := by decide +kernel
theorem dX9_doAddShelf_25 : decode mX9_doAddShelf.2.1 25 = .ok (.ifCond .eq 25, 3) := by decide +kernel
theorem dX9_doAddShelf_28 : decode mX9_doAddShelf.2.1 28 = .ok (.iload_n 3, 1) := by decide +kernel
theorem dX9_doAddShelf_29 : decode mX9_doAddShelf.2.1 29 = .ok (.bipush 114, 2) := by decide +kernel
theorem dX9_doAddShelf_31 : decode mX9_doAddShelf.2.1 31 = .ok (.if_icmp .eq 15, 3) := by decide +kernel
theorem dX9_doAddShelf_34 : decode mX9_doAddShelf.2.1 34 = .ok (.iload_n 3, 1) := by decide +kernel
theorem dX9_doAddShelf_35 : decode mX9_doAddShelf.2.1 35 = .ok (.bipush 111, 2) := by decide +kernel
theorem dX9_doAddShelf_37 : decode mX9_doAddShelf.2.1 37 = .ok (.if_icmp .eq 9, 3) := by decide +kernel
theorem dX9_doAddShelf_40 : decode mX9_doAddShelf.2.1 40 = .ok (.iload_n 3, 1) := by decide +kernel
theorem dX9_doAddShelf_41 : decode mX9_doAddShelf.2.1 41 = .ok (.bipush 108, 2) := by decide +kernel
theorem dX9_doAddShelf_43 : decode mX9_doAddShelf.2.1 43 = .ok (.if_icmp .ne 7, 3) := by decide +kernel
theorem dX9_doAddShelf_46 : decode mX9_doAddShelf.2.1 46 = .ok (.iconst 1, 1) := by decide +kernel
theorem dX9_doAddShelf_47 : decode mX9_doAddShelf.2.1 47 = .ok (.goto 4, 3) := by decide +kernel
theorem dX9_doAddShelf_50 : decode mX9_doAddShelf.2.1 50 = .ok (.iconst 0, 1) := by decide +kernel
theorem dX9_doAddShelf_51 : decode mX9_doAddShelf.2.1 51 = .ok (.istore 5, 2) := by decide +kernel
theorem dX9_doAddShelf_53 : decode mX9_doAddShelf.2.1 53 = .ok (.iload 5, 2) := by decide +kernel
theorem dX9_doAddShelf_55 : decode mX9_doAddShelf.2.1 55 = .ok (.ifCond .ne 9, 3) := by decide +kernel
theorem dX9_doAddShelf_58 : decode mX9_doAddShelf.2.1 58 = .ok (.aload_n 0, 1) := by decide +kernel
theorem dX9_doAddShelf_59 : decode mX9_doAddShelf.2.1 59 = .ok (.iconst 1, 1) := by decide +kernel
theorem dX9_doAddShelf_60 : decode mX9_doAddShelf.2.1 60 = .ok (.invokevirtual 92, 3) := by decide +kernel
theorem dX9_doAddShelf_63 : decode mX9_doAddShelf.2.1 63 = .ok (.ireturn, 1) := by decide +kernel
theorem dX9_doAddShelf_64 : decode mX9_doAddShelf.2.1 64 = .ok (.iload 4, 2) := by decide +kernel
theorem dX9_doAddShelf_66 : decode mX9_doAddShelf.2.1 66 = .ok (.iconst 4, 1) := by decide +kernel
theorem dX9_doAddShelf_67 : decode mX9_doAddShelf.2.1 67 = .ok (.if_icmp .ne 9, 3) := by decide +kernel
theorem dX9_doAddShelf_70 : decode mX9_doAddShelf.2.1 70 = .ok (.aload_n 0, 1) := by decide +kernel
theorem dX9_doAddShelf_71 : decode mX9_doAddShelf.2.1 71 = .ok (.iconst 2, 1) := by decide +kernel
theorem dX9_doAddShelf_72 : decode mX9_doAddShelf.2.1 72 = .ok (.invokevirtual 92, 3) := by decide +kernel
theorem dX9_doAddShelf_75 : decode mX9_doAddShelf.2.1 75 = .ok (.ireturn, 1) := by decide +kernel
theorem dX9_doAddShelf_76 : decode mX9_doAddShelf.2.1 76 = .ok (.bipush 86, 2) := by decide +kernel
theorem dX9_doAddShelf_78 : decode mX9_doAddShelf.2.1 78 = .ok (.sipush 187, 3) := by decide +kernel
theorem dX9_doAddShelf_81 : decode mX9_doAddShelf.2.1 81 = .ok (.iload 4, 2) := by decide +kernel
theorem dX9_doAddShelf_83 : decode mX9_doAddShelf.2.1 83 = .ok (.imul, 1) := by decide +kernel
theorem dX9_doAddShelf_84 : decode mX9_doAddShelf.2.1 84 = .ok (.iadd, 1) := by decide +kernel
theorem dX9_doAddShelf_85 : decode mX9_doAddShelf.2.1 85 = .ok (.istore 6, 2) := by decide +kernel
theorem dX9_doAddShelf_87 : decode mX9_doAddShelf.2.1 87 = .ok (.iconst 0, 1) := by decide +kernel
theorem dX9_doAddShelf_88 : decode mX9_doAddShelf.2.1 88 = .ok (.istore 7, 2) := by decide +kernel
theorem dX9_doAddShelf_90 : decode mX9_doAddShelf.2.1 90 = .ok (.iload 7, 2) := by decide +kernel
theorem dX9_doAddShelf_92 : decode mX9_doAddShelf.2.1 92 = .ok (.sipush 187, 3) := by decide +kernel
theorem dX9_doAddShelf_95 : decode mX9_doAddShelf.2.1 95 = .ok (.if_icmp .ge 20, 3) := by decide +kernel
theorem dX9_doAddShelf_98 : decode mX9_doAddShelf.2.1 98 = .ok (.aload_n 0, 1) := by decide +kernel
theorem dX9_doAddShelf_99 : decode mX9_doAddShelf.2.1 99 = .ok (.getfield 9, 3) := by decide +kernel
theorem dX9_doAddShelf_102 : decode mX9_doAddShelf.2.1 102 = .ok (.iload 6, 2) := by decide +kernel
theorem dX9_doAddShelf_104 : decode mX9_doAddShelf.2.1 104 = .ok (.iload 7, 2) := by decide +kernel
theorem dX9_doAddShelf_106 : decode mX9_doAddShelf.2.1 106 = .ok (.iadd, 1) := by decide +kernel
theorem dX9_doAddShelf_107 : decode mX9_doAddShelf.2.1 107 = .ok (.iconst 0, 1) := by decide +kernel
theorem dX9_doAddShelf_108 : decode mX9_doAddShelf.2.1 108 = .ok (.iastore, 1) := by decide +kernel
theorem dX9_doAddShelf_109 : decode mX9_doAddShelf.2.1 109 = .ok (.iinc 7 1, 3) := by decide +kernel
theorem dX9_doAddShelf_112 : decode mX9_doAddShelf.2.1 112 = .ok (.goto (-22), 3) := by decide +kernel
theorem dX9_doAddShelf_115 : decode mX9_doAddShelf.2.1 115 = .ok (.aload_n 0, 1) := by decide +kernel
theorem dX9_doAddShelf_116 : decode mX9_doAddShelf.2.1 116 = .ok (.getfield 9, 3) := by decide +kernel
theorem dX9_doAddShelf_119 : decode mX9_doAddShelf.2.1 119 = .ok (.iload 6, 2) := by decide +kernel
theorem dX9_doAddShelf_121 : decode mX9_doAddShelf.2.1 121 = .ok (.iload_n 1, 1) := by decide +kernel
theorem dX9_doAddShelf_122 : decode mX9_doAddShelf.2.1 122 = .ok (.iastore, 1) := by decide +kernel
theorem dX9_doAddShelf_123 : decode mX9_doAddShelf.2.1 123 = .ok (.aload_n 0, 1) := by decide +kernel
theorem dX9_doAddShelf_124 : decode mX9_doAddShelf.2.1 124 = .ok (.getfield 9, 3) := by decide +kernel
theorem dX9_doAddShelf_127 : decode mX9_doAddShelf.2.1 127 = .ok (.iload 6, 2) := by decide +kernel
theorem dX9_doAddShelf_129 : decode mX9_doAddShelf.2.1 129 = .ok (.iconst 1, 1) := by decide +kernel
theorem dX9_doAddShelf_130 : decode mX9_doAddShelf.2.1 130 = .ok (.iadd, 1) := by decide +kernel
theorem dX9_doAddShelf_131 : decode mX9_doAddShelf.2.1 131 = .ok (.iload_n 2, 1) := by decide +kernel
theorem dX9_doAddShelf_132 : decode mX9_doAddShelf.2.1 132 = .ok (.iastore, 1) := by decide +kernel
theorem dX9_doAddShelf_133 : decode mX9_doAddShelf.2.1 133 = .ok (.aload_n 0, 1) := by decide +kernel
theorem dX9_doAddShelf_134 : decode mX9_doAddShelf.2.1 134 = .ok (.getfield 9, 3) := by decide +kernel
theorem dX9_doAddShelf_137 : decode mX9_doAddShelf.2.1 137 = .ok (.iload 6, 2) := by decide +kernel
theorem dX9_doAddShelf_139 : decode mX9_doAddShelf.2.1 139 = .ok (.iconst 2, 1) := by decide +kernel
theorem dX9_doAddShelf_140 : decode mX9_doAddShelf.2.1 140 = .ok (.iadd, 1) := by decide +kernel
theorem dX9_doAddShelf_141 : decode mX9_doAddShelf.2.1 141 = .ok (.iload_n 3, 1) := by decide +kernel
theorem dX9_doAddShelf_142 : decode mX9_doAddShelf.2.1 142 = .ok (.iastore, 1) := by decide +kernel
theorem dX9_doAddShelf_143 : decode mX9_doAddShelf.2.1 143 = .ok (.aload_n 0, 1) := by decide +kernel
theorem dX9_doAddShelf_144 : decode mX9_doAddShelf.2.1 144 = .ok (.getfield 9, 3) := by decide +kernel
theorem dX9_doAddShelf_147 : decode mX9_doAddShelf.2.1 147 = .ok (.iload 6, 2) := by decide +kernel
theorem dX9_doAddShelf_149 : decode mX9_doAddShelf.2.1 149 = .ok (.iconst 3, 1) := by decide +kernel
theorem dX9_doAddShelf_150 : decode mX9_doAddShelf.2.1 150 = .ok (.iadd, 1) := by decide +kernel
theorem dX9_doAddShelf_151 : decode mX9_doAddShelf.2.1 151 = .ok (.iconst 1, 1) := by decide +kernel
theorem dX9_doAddShelf_152 : decode mX9_doAddShelf.2.1 152 = .ok (.iastore, 1) := by decide +kernel
theorem dX9_doAddShelf_153 : decode mX9_doAddShelf.2.1 153 = .ok (.aload_n 0, 1) := by decide +kernel
theorem dX9_doAddShelf_154 : decode mX9_doAddShelf.2.1 154 = .ok (.getfield 9, 3) := by decide +kernel
theorem dX9_doAddShelf_157 : decode mX9_doAddShelf.2.1 157 = .ok (.iconst 0, 1) := by decide +kernel
theorem dX9_doAddShelf_158 : decode mX9_doAddShelf.2.1 158 = .ok (.dup2, 1) := by decide +kernel
theorem dX9_doAddShelf_159 : decode mX9_doAddShelf.2.1 159 = .ok (.iaload, 1) := by decide +kernel
theorem dX9_doAddShelf_160 : decode mX9_doAddShelf.2.1 160 = .ok (.iconst 1, 1) := by decide +kernel
theorem dX9_doAddShelf_161 : decode mX9_doAddShelf.2.1 161 = .ok (.iadd, 1) := by decide +kernel
theorem dX9_doAddShelf_162 : decode mX9_doAddShelf.2.1 162 = .ok (.iastore, 1) := by decide +kernel
theorem dX9_doAddShelf_163 : decode mX9_doAddShelf.2.1 163 = .ok (.iload 4, 2) := by decide +kernel
theorem dX9_doAddShelf_165 : decode mX9_doAddShelf.2.1 165 = .ok (.ireturn, 1) := by decide +kernel
theorem dX9_addShelf_0 : decode mX9_addShelf.2.1 0 = .ok (.aload_n 0, 1) := by decide +kernel
theorem dX9_addShelf_1 : decode mX9_addShelf.2.1 1 = .ok (.invokevirtual 99, 3) := by decide +kernel
theorem dX9_addShelf_4 : decode mX9_addShelf.2.1 4 = .ok (.aload_n 0, 1) := by decide +kernel
theorem dX9_addShelf_5 : decode mX9_addShelf.2.1 5 = .ok (.aload_n 0, 1) := by decide +kernel
theorem dX9_addShelf_6 : decode mX9_addShelf.2.1 6 = .ok (.iload_n 1, 1) := by decide +kernel
theorem dX9_addShelf_7 : decode mX9_addShelf.2.1 7 = .ok (.iload_n 2, 1) := by decide +kernel
theorem dX9_addShelf_8 : decode mX9_addShelf.2.1 8 = .ok (.iload_n 3, 1) := by decide +kernel
theorem dX9_addShelf_9 : decode mX9_addShelf.2.1 9 = .ok (.invokevirtual 118, 3) := by decide +kernel
theorem dX9_addShelf_12 : decode mX9_addShelf.2.1 12 = .ok (.invokevirtual 105, 3) := by decide +kernel
theorem dX9_addShelf_15 : decode mX9_addShelf.2.1 15 = .ok (.ireturn, 1) := by decide +kernel
theorem dX9_doListen_0 : decode mX9_doListen.2.1 0 = .ok (.aload_n 0, 1) := by decide +kernel
theorem dX9_doListen_1 : decode mX9_doListen.2.1 1 = .ok (.iload_n 1, 1) := by decide +kernel
theorem dX9_doListen_2 : decode mX9_doListen.2.1 2 = .ok (.invokevirtual 122, 3) := by decide +kernel
theorem dX9_doListen_5 : decode mX9_doListen.2.1 5 = .ok (.ifCond .ne 9, 3) := by decide +kernel
theorem dX9_doListen_8 : decode mX9_doListen.2.1 8 = .ok (.aload_n 0, 1) := by decide +kernel
theorem dX9_doListen_9 : decode mX9_doListen.2.1 9 = .ok (.iconst 1, 1) := by decide +kernel
theorem dX9_doListen_10 : decode mX9_doListen.2.1 10 = .ok (.invokevirtual 92, 3) := by decide +kernel
theorem dX9_doListen_13 : decode mX9_doListen.2.1 13 = .ok (.ireturn, 1) := by decide +kernel
theorem dX9_doListen_14 : decode mX9_doListen.2.1 14 = .ok (.aload_n 0, 1) := by decide +kernel
theorem dX9_doListen_15 : decode mX9_doListen.2.1 15 = .ok (.iload_n 1, 1) := by decide +kernel
theorem dX9_doListen_16 : decode mX9_doListen.2.1 16 = .ok (.iconst 3, 1) := by decide +kernel
theorem dX9_doListen_17 : decode mX9_doListen.2.1 17 = .ok (.invokevirtual 77, 3) := by decide +kernel
theorem dX9_doListen_20 : decode mX9_doListen.2.1 20 = .ok (.istore_n 3, 1) := by decide +kernel
theorem dX9_doListen_21 : decode mX9_doListen.2.1 21 = .ok (.aload_n 0, 1) := by decide +kernel
theorem dX9_doListen_22 : decode mX9_doListen.2.1 22 = .ok (.getfield 9, 3) := by decide +kernel
theorem dX9_doListen_25 : decode mX9_doListen.2.1 25 = .ok (.bipush 86, 2) := by decide +kernel
theorem dX9_doListen_27 : decode mX9_doListen.2.1 27 = .ok (.sipush 187, 3) := by decide +kernel
theorem dX9_doListen_30 : decode mX9_doListen.2.1 30 = .ok (.iload_n 1, 1) := by decide +kernel
theorem dX9_doListen_31 : decode mX9_doListen.2.1 31 = .ok (.imul, 1) := by decide +kernel
theorem dX9_doListen_32 : decode mX9_doListen.2.1 32 = .ok (.iadd, 1) := by decide +kernel
theorem dX9_doListen_33 : decode mX9_doListen.2.1 33 = .ok (.iconst 3, 1) := by decide +kernel
theorem dX9_doListen_34 : decode mX9_doListen.2.1 34 = .ok (.iadd, 1) := by decide +kernel
theorem dX9_doListen_35 : decode mX9_doListen.2.1 35 = .ok (.iload_n 2, 1) := by decide +kernel
theorem dX9_doListen_36 : decode mX9_doListen.2.1 36 = .ok (.ifCond .eq 7, 3) := by decide +kernel
theorem dX9_doListen_39 : decode mX9_doListen.2.1 39 = .ok (.iconst 1, 1) := by decide +kernel
theorem dX9_doListen_40 : decode mX9_doListen.2.1 40 = .ok (.goto 4, 3) := by decide +kernel
theorem dX9_doListen_43 : decode mX9_doListen.2.1 43 = .ok (.iconst 0, 1) := by decide +kernel
theorem dX9_doListen_44 : decode mX9_doListen.2.1 44 = .ok (.iastore, 1) := by decide +kernel
theorem dX9_doListen_45 : decode mX9_doListen.2.1 45 = .ok (.iload_n 3, 1) := by decide +kernel
theorem dX9_doListen_46 : decode mX9_doListen.2.1 46 = .ok (.ireturn, 1) := by decide +kernel
theorem dX9_setListening_0 : decode mX9_setListening.2.1 0 = .ok (.aload_n 0, 1) := by decide +kernel
theorem dX9_setListening_1 : decode mX9_setListening.2.1 1 = .ok (.invokevirtual 99, 3) := by decide +kernel
theorem dX9_setListening_4 : decode mX9_setListening.2.1 4 = .ok (.aload_n 0, 1) := by decide +kernel
theorem dX9_setListening_5 : decode mX9_setListening.2.1 5 = .ok (.aload_n 0, 1) := by decide +kernel
theorem dX9_setListening_6 : decode mX9_setListening.2.1 6 = .ok (.iload_n 1, 1) := by decide +kernel
theorem dX9_setListening_7 : decode mX9_setListening.2.1 7 = .ok (.iload_n 2, 1) := by decide +kernel
theorem dX9_setListening_8 : decode mX9_setListening.2.1 8 = .ok (.invokevirtual 125, 3) := by decide +kernel
theorem dX9_setListening_11 : decode mX9_setListening.2.1 11 = .ok (.invokevirtual 105, 3) := by decide +kernel
theorem dX9_setListening_14 : decode mX9_setListening.2.1 14 = .ok (.iconst 1, 1) := by decide +kernel
theorem dX9_setListening_15 : decode mX9_setListening.2.1 15 = .ok (.if_icmp .ne 7, 3) := by decide +kernel
theorem dX9_setListening_18 : decode mX9_setListening.2.1 18 = .ok (.iconst 1, 1) := by decide +kernel
theorem dX9_setListening_19 : decode mX9_setListening.2.1 19 = .ok (.goto 4, 3) := by decide +kernel
theorem dX9_setListening_22 : decode mX9_setListening.2.1 22 = .ok (.iconst 0, 1) := by decide +kernel
theorem dX9_setListening_23 : decode mX9_setListening.2.1 23 = .ok (.ireturn, 1) := by decide +kernel
theorem dX9_shelfCount_0 : decode mX9_shelfCount.2.1 0 = .ok (.aload_n 0, 1) := by decide +kernel
theorem dX9_shelfCount_1 : decode mX9_shelfCount.2.1 1 = .ok (.iconst 0, 1) := by decide +kernel
theorem dX9_shelfCount_2 : decode mX9_shelfCount.2.1 2 = .ok (.putfield 39, 3) := by decide +kernel
theorem dX9_shelfCount_5 : decode mX9_shelfCount.2.1 5 = .ok (.aload_n 0, 1) := by decide +kernel
theorem dX9_shelfCount_6 : decode mX9_shelfCount.2.1 6 = .ok (.getfield 9, 3) := by decide +kernel
theorem dX9_shelfCount_9 : decode mX9_shelfCount.2.1 9 = .ok (.iconst 0, 1) := by decide +kernel
theorem dX9_shelfCount_10 : decode mX9_shelfCount.2.1 10 = .ok (.iaload, 1) := by decide +kernel
theorem dX9_shelfCount_11 : decode mX9_shelfCount.2.1 11 = .ok (.ireturn, 1) := by decide +kernel
theorem dX9_capacityOf_0 : decode mX9_capacityOf.2.1 0 = .ok (.aload_n 0, 1) := by decide +kernel
theorem dX9_capacityOf_1 : decode mX9_capacityOf.2.1 1 = .ok (.aload_n 0, 1) := by decide +kernel
theorem dX9_capacityOf_2 : decode mX9_capacityOf.2.1 2 = .ok (.iload_n 1, 1) := by decide +kernel
theorem dX9_capacityOf_3 : decode mX9_capacityOf.2.1 3 = .ok (.invokevirtual 122, 3) := by decide +kernel
theorem dX9_capacityOf_6 : decode mX9_capacityOf.2.1 6 = .ok (.invokevirtual 114, 3) := by decide +kernel
theorem dX9_capacityOf_9 : decode mX9_capacityOf.2.1 9 = .ok (.ifCond .eq 12, 3) := by decide +kernel
theorem dX9_capacityOf_12 : decode mX9_capacityOf.2.1 12 = .ok (.aload_n 0, 1) := by decide +kernel
theorem dX9_capacityOf_13 : decode mX9_capacityOf.2.1 13 = .ok (.iload_n 1, 1) := by decide +kernel
theorem dX9_capacityOf_14 : decode mX9_capacityOf.2.1 14 = .ok (.iconst 0, 1) := by decide +kernel
theorem dX9_capacityOf_15 : decode mX9_capacityOf.2.1 15 = .ok (.invokevirtual 77, 3) := by decide +kernel
theorem dX9_capacityOf_18 : decode mX9_capacityOf.2.1 18 = .ok (.goto 4, 3) := by decide +kernel
theorem dX9_capacityOf_21 : decode mX9_capacityOf.2.1 21 = .ok (.iconst 0, 1) := by decide +kernel
theorem dX9_capacityOf_22 : decode mX9_capacityOf.2.1 22 = .ok (.ireturn, 1) := by decide +kernel
theorem dX9_lifetimeOf_0 : decode mX9_lifetimeOf.2.1 0 = .ok (.aload_n 0, 1) := by decide +kernel
theorem dX9_lifetimeOf_1 : decode mX9_lifetimeOf.2.1 1 = .ok (.aload_n 0, 1) := by decide +kernel
theorem dX9_lifetimeOf_2 : decode mX9_lifetimeOf.2.1 2 = .ok (.iload_n 1, 1) := by decide +kernel
theorem dX9_lifetimeOf_3 : decode mX9_lifetimeOf.2.1 3 = .ok (.invokevirtual 122, 3) := by decide +kernel
theorem dX9_lifetimeOf_6 : decode mX9_lifetimeOf.2.1 6 = .ok (.invokevirtual 114, 3) := by decide +kernel
theorem dX9_lifetimeOf_9 : decode mX9_lifetimeOf.2.1 9 = .ok (.ifCond .eq 12, 3) := by decide +kernel
theorem dX9_lifetimeOf_12 : decode mX9_lifetimeOf.2.1 12 = .ok (.aload_n 0, 1) := by decide +kernel
theorem dX9_lifetimeOf_13 : decode mX9_lifetimeOf.2.1 13 = .ok (.iload_n 1, 1) := by decide +kernel
theorem dX9_lifetimeOf_14 : decode mX9_lifetimeOf.2.1 14 = .ok (.iconst 1, 1) := by decide +kernel
theorem dX9_lifetimeOf_15 : decode mX9_lifetimeOf.2.1 15 = .ok (.invokevirtual 77, 3) := by decide +kernel
theorem dX9_lifetimeOf_18 : decode mX9_lifetimeOf.2.1 18 = .ok (.goto 4, 3) := by decide +kernel
theorem dX9_lifetimeOf_21 : decode mX9_lifetimeOf.2.1 21 = .ok (.iconst 0, 1) := by decide +kernel
theorem dX9_lifetimeOf_22 : decode mX9_lifetimeOf.2.1 22 = .ok (.ireturn, 1) := by decide +kernel
theorem dX9_policyOf_0 : decode mX9_policyOf.2.1 0 = .ok (.aload_n 0, 1) := by decide +kernel
theorem dX9_policyOf_1 : decode mX9_policyOf.2.1 1 = .ok (.aload_n 0, 1) := by decide +kernel
theorem dX9_policyOf_2 : decode mX9_policyOf.2.1 2 = .ok (.iload_n 1, 1) := by decide +kernel
theorem dX9_policyOf_3 : decode mX9_policyOf.2.1 3 = .ok (.invokevirtual 122, 3) := by decide +kernel
theorem dX9_policyOf_6 : decode mX9_policyOf.2.1 6 = .ok (.invokevirtual 114, 3) := by decide +kernel
theorem dX9_policyOf_9 : decode mX9_policyOf.2.1 9 = .ok (.ifCond .eq 13, 3) := by decide +kernel
theorem dX9_policyOf_12 : decode mX9_policyOf.2.1 12 = .ok (.aload_n 0, 1) := by decide +kernel
theorem dX9_policyOf_13 : decode mX9_policyOf.2.1 13 = .ok (.iload_n 1, 1) := by decide +kernel
theorem dX9_policyOf_14 : decode mX9_policyOf.2.1 14 = .ok (.iconst 2, 1) := by decide +kernel
theorem dX9_policyOf_15 : decode mX9_policyOf.2.1 15 = .ok (.invokevirtual 77, 3) := by decide +kernel
theorem dX9_policyOf_18 : decode mX9_policyOf.2.1 18 = .ok (.i2c, 1) := by decide +kernel
theorem dX9_policyOf_19 : decode mX9_policyOf.2.1 19 = .ok (.goto 5, 3) := by decide +kernel
theorem dX9_policyOf_22 : decode mX9_policyOf.2.1 22 = .ok (.bipush 32, 2) := by decide +kernel
theorem dX9_policyOf_24 : decode mX9_policyOf.2.1 24 = .ok (.ireturn, 1) := by decide +kernel
theorem dX9_isListening_0 : decode mX9_isListening.2.1 0 = .ok (.aload_n 0, 1) := by decide +kernel
theorem dX9_isListening_1 : decode mX9_isListening.2.1 1 = .ok (.aload_n 0, 1) := by decide +kernel
theorem dX9_isListening_2 : decode mX9_isListening.2.1 2 = .ok (.iload_n 1, 1) := by decide +kernel
theorem dX9_isListening_3 : decode mX9_isListening.2.1 3 = .ok (.invokevirtual 122, 3) := by decide +kernel
theorem dX9_isListening_6 : decode mX9_isListening.2.1 6 = .ok (.invokevirtual 114, 3) := by decide +kernel
theorem dX9_isListening_9 : decode mX9_isListening.2.1 9 = .ok (.ifCond .eq 17, 3) := by decide +kernel
theorem dX9_isListening_12 : decode mX9_isListening.2.1 12 = .ok (.aload_n 0, 1) := by decide +kernel
theorem dX9_isListening_13 : decode mX9_isListening.2.1 13 = .ok (.iload_n 1, 1) := by decide +kernel
theorem dX9_isListening_14 : decode mX9_isListening.2.1 14 = .ok (.iconst 3, 1) := by decide +kernel
theorem dX9_isListening_15 : decode mX9_isListening.2.1 15 = .ok (.invokevirtual 77, 3) := by decide +kernel
theorem dX9_isListening_18 : decode mX9_isListening.2.1 18 = .ok (.iconst 1, 1) := by decide +kernel
theorem dX9_isListening_19 : decode mX9_isListening.2.1 19 = .ok (.if_icmp .ne 7, 3) := by decide +kernel
theorem dX9_isListening_22 : decode mX9_isListening.2.1 22 = .ok (.iconst 1, 1) := by decide +kernel
theorem dX9_isListening_23 : decode mX9_isListening.2.1 23 = .ok (.goto 4, 3) := by decide +kernel
theorem dX9_isListening_26 : decode mX9_isListening.2.1 26 = .ok (.iconst 0, 1) := by decide +kernel
theorem dX9_isListening_27 : decode mX9_isListening.2.1 27 = .ok (.ireturn, 1) := by decide +kernel
theorem dX9_echoCount_0 : decode mX9_echoCount.2.1 0 = .ok (.aload_n 0, 1) := by decide +kernel
theorem dX9_echoCount_1 : decode mX9_echoCount.2.1 1 = .ok (.aload_n 0, 1) := by decide +kernel
theorem dX9_echoCount_2 : decode mX9_echoCount.2.1 2 = .ok (.iload_n 1, 1) := by decide +kernel
theorem dX9_echoCount_3 : decode mX9_echoCount.2.1 3 = .ok (.invokevirtual 122, 3) := by decide +kernel
theorem dX9_echoCount_6 : decode mX9_echoCount.2.1 6 = .ok (.invokevirtual 114, 3) := by decide +kernel
theorem dX9_echoCount_9 : decode mX9_echoCount.2.1 9 = .ok (.ifCond .eq 11, 3) := by decide +kernel
theorem dX9_echoCount_12 : decode mX9_echoCount.2.1 12 = .ok (.aload_n 0, 1) := by decide +kernel
theorem dX9_echoCount_13 : decode mX9_echoCount.2.1 13 = .ok (.iload_n 1, 1) := by decide +kernel
theorem dX9_echoCount_14 : decode mX9_echoCount.2.1 14 = .ok (.invokevirtual 83, 3) := by decide +kernel
theorem dX9_echoCount_17 : decode mX9_echoCount.2.1 17 = .ok (.goto 4, 3) := by decide +kernel
theorem dX9_echoCount_20 : decode mX9_echoCount.2.1 20 = .ok (.iconst 0, 1) := by decide +kernel
theorem dX9_echoCount_21 : decode mX9_echoCount.2.1 21 = .ok (.ireturn, 1) := by decide +kernel
theorem dX9_echoAt_0 : decode mX9_echoAt.2.1 0 = .ok (.aload_n 0, 1) := by decide +kernel
theorem dX9_echoAt_1 : decode mX9_echoAt.2.1 1 = .ok (.aload_n 0, 1) := by decide +kernel
theorem dX9_echoAt_2 : decode mX9_echoAt.2.1 2 = .ok (.iload_n 1, 1) := by decide +kernel
theorem dX9_echoAt_3 : decode mX9_echoAt.2.1 3 = .ok (.invokevirtual 122, 3) := by decide +kernel
theorem dX9_echoAt_6 : decode mX9_echoAt.2.1 6 = .ok (.ifCond .ne 7, 3) := by decide +kernel
theorem dX9_echoAt_9 : decode mX9_echoAt.2.1 9 = .ok (.iconst 1, 1) := by decide +kernel
theorem dX9_echoAt_10 : decode mX9_echoAt.2.1 10 = .ok (.goto 23, 3) := by decide +kernel
theorem dX9_echoAt_13 : decode mX9_echoAt.2.1 13 = .ok (.iload_n 2, 1) := by decide +kernel
theorem dX9_echoAt_14 : decode mX9_echoAt.2.1 14 = .ok (.iconst 0, 1) := by decide +kernel
theorem dX9_echoAt_15 : decode mX9_echoAt.2.1 15 = .ok (.aload_n 0, 1) := by decide +kernel
theorem dX9_echoAt_16 : decode mX9_echoAt.2.1 16 = .ok (.iload_n 1, 1) := by decide +kernel
theorem dX9_echoAt_17 : decode mX9_echoAt.2.1 17 = .ok (.invokevirtual 83, 3) := by decide +kernel
theorem dX9_echoAt_20 : decode mX9_echoAt.2.1 20 = .ok (.iconst 1, 1) := by decide +kernel
theorem dX9_echoAt_21 : decode mX9_echoAt.2.1 21 = .ok (.isub, 1) := by decide +kernel
theorem dX9_echoAt_22 : decode mX9_echoAt.2.1 22 = .ok (.invokestatic 51, 3) := by decide +kernel
theorem dX9_echoAt_25 : decode mX9_echoAt.2.1 25 = .ok (.ifCond .ne 7, 3) := by decide +kernel
theorem dX9_echoAt_28 : decode mX9_echoAt.2.1 28 = .ok (.iconst 2, 1) := by decide +kernel
theorem dX9_echoAt_29 : decode mX9_echoAt.2.1 29 = .ok (.goto 4, 3) := by decide +kernel
theorem dX9_echoAt_32 : decode mX9_echoAt.2.1 32 = .ok (.iconst 0, 1) := by decide +kernel
theorem dX9_echoAt_33 : decode mX9_echoAt.2.1 33 = .ok (.putfield 39, 3) := by decide +kernel
theorem dX9_echoAt_36 : decode mX9_echoAt.2.1 36 = .ok (.bipush 32, 2) := by decide +kernel
theorem dX9_echoAt_38 : decode mX9_echoAt.2.1 38 = .ok (.istore_n 3, 1) := by decide +kernel
theorem dX9_echoAt_39 : decode mX9_echoAt.2.1 39 = .ok (.iconst 0, 1) := by decide +kernel
theorem dX9_echoAt_40 : decode mX9_echoAt.2.1 40 = .ok (.istore 4, 2) := by decide +kernel
theorem dX9_echoAt_42 : decode mX9_echoAt.2.1 42 = .ok (.bipush 97, 2) := by decide +kernel
theorem dX9_echoAt_44 : decode mX9_echoAt.2.1 44 = .ok (.istore 5, 2) := by decide +kernel
theorem dX9_echoAt_46 : decode mX9_echoAt.2.1 46 = .ok (.iload 5, 2) := by decide +kernel
theorem dX9_echoAt_48 : decode mX9_echoAt.2.1 48 = .ok (.bipush 122, 2) := by decide +kernel
theorem dX9_echoAt_50 : decode mX9_echoAt.2.1 50 = .ok (.if_icmp .gt 59, 3) := by decide +kernel
theorem dX9_echoAt_53 : decode mX9_echoAt.2.1 53 = .ok (.aload_n 0, 1) := by decide +kernel
theorem dX9_echoAt_54 : decode mX9_echoAt.2.1 54 = .ok (.getfield 39, 3) := by decide +kernel
theorem dX9_echoAt_57 : decode mX9_echoAt.2.1 57 = .ok (.ifCond .ne 52, 3) := by decide +kernel
theorem dX9_echoAt_60 : decode mX9_echoAt.2.1 60 = .ok (.aload_n 0, 1) := by decide +kernel
theorem dX9_echoAt_61 : decode mX9_echoAt.2.1 61 = .ok (.iload_n 1, 1) := by decide +kernel
theorem dX9_echoAt_62 : decode mX9_echoAt.2.1 62 = .ok (.iload 5, 2) := by decide +kernel
theorem dX9_echoAt_64 : decode mX9_echoAt.2.1 64 = .ok (.invokevirtual 70, 3) := by decide +kernel
theorem dX9_echoAt_67 : decode mX9_echoAt.2.1 67 = .ok (.ifCond .eq 14, 3) := by decide +kernel
theorem dX9_echoAt_70 : decode mX9_echoAt.2.1 70 = .ok (.iload 4, 2) := by decide +kernel
theorem dX9_echoAt_72 : decode mX9_echoAt.2.1 72 = .ok (.iload_n 2, 1) := by decide +kernel
theorem dX9_echoAt_73 : decode mX9_echoAt.2.1 73 = .ok (.if_icmp .ne 8, 3) := by decide +kernel
theorem dX9_echoAt_76 : decode mX9_echoAt.2.1 76 = .ok (.iload 5, 2) := by decide +kernel
theorem dX9_echoAt_78 : decode mX9_echoAt.2.1 78 = .ok (.goto 4, 3) := by decide +kernel
theorem dX9_echoAt_81 : decode mX9_echoAt.2.1 81 = .ok (.iload_n 3, 1) := by decide +kernel
theorem dX9_echoAt_82 : decode mX9_echoAt.2.1 82 = .ok (.istore_n 3, 1) := by decide +kernel
theorem dX9_echoAt_83 : decode mX9_echoAt.2.1 83 = .ok (.iload 4, 2) := by decide +kernel
theorem dX9_echoAt_85 : decode mX9_echoAt.2.1 85 = .ok (.aload_n 0, 1) := by decide +kernel
theorem dX9_echoAt_86 : decode mX9_echoAt.2.1 86 = .ok (.iload_n 1, 1) := by decide +kernel
theorem dX9_echoAt_87 : decode mX9_echoAt.2.1 87 = .ok (.iload 5, 2) := by decide +kernel
theorem dX9_echoAt_89 : decode mX9_echoAt.2.1 89 = .ok (.invokevirtual 70, 3) := by decide +kernel
theorem dX9_echoAt_92 : decode mX9_echoAt.2.1 92 = .ok (.ifCond .eq 7, 3) := by decide +kernel
theorem dX9_echoAt_95 : decode mX9_echoAt.2.1 95 = .ok (.iconst 1, 1) := by decide +kernel
theorem dX9_echoAt_96 : decode mX9_echoAt.2.1 96 = .ok (.goto 4, 3) := by decide +kernel
theorem dX9_echoAt_99 : decode mX9_echoAt.2.1 99 = .ok (.iconst 0, 1) := by decide +kernel
theorem dX9_echoAt_100 : decode mX9_echoAt.2.1 100 = .ok (.iadd, 1) := by decide +kernel
theorem dX9_echoAt_101 : decode mX9_echoAt.2.1 101 = .ok (.istore 4, 2) := by decide +kernel
theorem dX9_echoAt_103 : decode mX9_echoAt.2.1 103 = .ok (.iinc 5 1, 3) := by decide +kernel
theorem dX9_echoAt_106 : decode mX9_echoAt.2.1 106 = .ok (.goto (-60), 3) := by decide +kernel
theorem dX9_echoAt_109 : decode mX9_echoAt.2.1 109 = .ok (.iload_n 3, 1) := by decide +kernel
theorem dX9_echoAt_110 : decode mX9_echoAt.2.1 110 = .ok (.i2c, 1) := by decide +kernel
theorem dX9_echoAt_111 : decode mX9_echoAt.2.1 111 = .ok (.ireturn, 1) := by decide +kernel
theorem dX9_hasEcho_0 : decode mX9_hasEcho.2.1 0 = .ok (.aload_n 0, 1) := by decide +kernel
theorem dX9_hasEcho_1 : decode mX9_hasEcho.2.1 1 = .ok (.aload_n 0, 1) := by decide +kernel
theorem dX9_hasEcho_2 : decode mX9_hasEcho.2.1 2 = .ok (.iload_n 1, 1) := by decide +kernel
theorem dX9_hasEcho_3 : decode mX9_hasEcho.2.1 3 = .ok (.invokevirtual 122, 3) := by decide +kernel
theorem dX9_hasEcho_6 : decode mX9_hasEcho.2.1 6 = .ok (.invokevirtual 114, 3) := by decide +kernel
theorem dX9_hasEcho_9 : decode mX9_hasEcho.2.1 9 = .ok (.ifCond .eq 16, 3) := by decide +kernel
theorem dX9_hasEcho_12 : decode mX9_hasEcho.2.1 12 = .ok (.aload_n 0, 1) := by decide +kernel
theorem dX9_hasEcho_13 : decode mX9_hasEcho.2.1 13 = .ok (.iload_n 1, 1) := by decide +kernel
theorem dX9_hasEcho_14 : decode mX9_hasEcho.2.1 14 = .ok (.iload_n 2, 1) := by decide +kernel
theorem dX9_hasEcho_15 : decode mX9_hasEcho.2.1 15 = .ok (.invokevirtual 70, 3) := by decide +kernel
theorem dX9_hasEcho_18 : decode mX9_hasEcho.2.1 18 = .ok (.ifCond .eq 7, 3) := by decide +kernel
theorem dX9_hasEcho_21 : decode mX9_hasEcho.2.1 21 = .ok (.iconst 1, 1) := by decide +kernel
theorem dX9_hasEcho_22 : decode mX9_hasEcho.2.1 22 = .ok (.goto 4, 3) := by decide +kernel
theorem dX9_hasEcho_25 : decode mX9_hasEcho.2.1 25 = .ok (.iconst 0, 1) := by decide +kernel
theorem dX9_hasEcho_26 : decode mX9_hasEcho.2.1 26 = .ok (.ireturn, 1) := by decide +kernel
theorem dX9_asks_0 : decode mX9_asks.2.1 0 = .ok (.aload_n 0, 1) := by decide +kernel
theorem dX9_asks_1 : decode mX9_asks.2.1 1 = .ok (.aload_n 0, 1) := by decide +kernel
theorem dX9_asks_2 : decode mX9_asks.2.1 2 = .ok (.iload_n 1, 1) := by decide +kernel
theorem dX9_asks_3 : decode mX9_asks.2.1 3 = .ok (.invokevirtual 122, 3) := by decide +kernel
theorem dX9_asks_6 : decode mX9_asks.2.1 6 = .ok (.ifCond .ne 7, 3) := by decide +kernel
theorem dX9_asks_9 : decode mX9_asks.2.1 9 = .ok (.iconst 1, 1) := by decide +kernel
theorem dX9_asks_10 : decode mX9_asks.2.1 10 = .ok (.goto 17, 3) := by decide +kernel
theorem dX9_asks_13 : decode mX9_asks.2.1 13 = .ok (.aload_n 0, 1) := by decide +kernel
theorem dX9_asks_14 : decode mX9_asks.2.1 14 = .ok (.iload_n 1, 1) := by decide +kernel
theorem dX9_asks_15 : decode mX9_asks.2.1 15 = .ok (.iload_n 2, 1) := by decide +kernel
theorem dX9_asks_16 : decode mX9_asks.2.1 16 = .ok (.invokevirtual 70, 3) := by decide +kernel
theorem dX9_asks_19 : decode mX9_asks.2.1 19 = .ok (.ifCond .ne 7, 3) := by decide +kernel
theorem dX9_asks_22 : decode mX9_asks.2.1 22 = .ok (.iconst 2, 1) := by decide +kernel
theorem dX9_asks_23 : decode mX9_asks.2.1 23 = .ok (.goto 4, 3) := by decide +kernel
theorem dX9_asks_26 : decode mX9_asks.2.1 26 = .ok (.iconst 0, 1) := by decide +kernel
theorem dX9_asks_27 : decode mX9_asks.2.1 27 = .ok (.putfield 39, 3) := by decide +kernel
theorem dX9_asks_30 : decode mX9_asks.2.1 30 = .ok (.aload_n 0, 1) := by decide +kernel
theorem dX9_asks_31 : decode mX9_asks.2.1 31 = .ok (.getfield 39, 3) := by decide +kernel
theorem dX9_asks_34 : decode mX9_asks.2.1 34 = .ok (.ifCond .ne 7, 3) := by decide +kernel
theorem dX9_asks_37 : decode mX9_asks.2.1 37 = .ok (.iconst 1, 1) := by decide +kernel
theorem dX9_asks_38 : decode mX9_asks.2.1 38 = .ok (.goto 4, 3) := by decide +kernel
theorem dX9_asks_41 : decode mX9_asks.2.1 41 = .ok (.iconst 0, 1) := by decide +kernel
theorem dX9_asks_42 : decode mX9_asks.2.1 42 = .ok (.ireturn, 1) := by decide +kernel
theorem dX9_echoOf_0 : decode mX9_echoOf.2.1 0 = .ok (.aload_n 0, 1) := by decide +kernel
theorem dX9_echoOf_1 : decode mX9_echoOf.2.1 1 = .ok (.iload_n 1, 1) := by decide +kernel
theorem dX9_echoOf_2 : decode mX9_echoOf.2.1 2 = .ok (.iload_n 2, 1) := by decide +kernel
theorem dX9_echoOf_3 : decode mX9_echoOf.2.1 3 = .ok (.invokevirtual 129, 3) := by decide +kernel
theorem dX9_echoOf_6 : decode mX9_echoOf.2.1 6 = .ok (.ifCond .eq 18, 3) := by decide +kernel
theorem dX9_echoOf_9 : decode mX9_echoOf.2.1 9 = .ok (.aload_n 0, 1) := by decide +kernel
theorem dX9_echoOf_10 : decode mX9_echoOf.2.1 10 = .ok (.getfield 9, 3) := by decide +kernel
theorem dX9_echoOf_13 : decode mX9_echoOf.2.1 13 = .ok (.iload_n 1, 1) := by decide +kernel
theorem dX9_echoOf_14 : decode mX9_echoOf.2.1 14 = .ok (.iload_n 2, 1) := by decide +kernel
theorem dX9_echoOf_15 : decode mX9_echoOf.2.1 15 = .ok (.invokestatic 66, 3) := by decide +kernel
theorem dX9_echoOf_18 : decode mX9_echoOf.2.1 18 = .ok (.iconst 1, 1) := by decide +kernel
theorem dX9_echoOf_19 : decode mX9_echoOf.2.1 19 = .ok (.iadd, 1) := by decide +kernel
theorem dX9_echoOf_20 : decode mX9_echoOf.2.1 20 = .ok (.iaload, 1) := by decide +kernel
theorem dX9_echoOf_21 : decode mX9_echoOf.2.1 21 = .ok (.goto 4, 3) := by decide +kernel
theorem dX9_echoOf_24 : decode mX9_echoOf.2.1 24 = .ok (.iconst 0, 1) := by decide +kernel
theorem dX9_echoOf_25 : decode mX9_echoOf.2.1 25 = .ok (.ireturn, 1) := by decide +kernel
theorem dX9_ageOf_0 : decode mX9_ageOf.2.1 0 = .ok (.aload_n 0, 1) := by decide +kernel
theorem dX9_ageOf_1 : decode mX9_ageOf.2.1 1 = .ok (.iload_n 1, 1) := by decide +kernel
theorem dX9_ageOf_2 : decode mX9_ageOf.2.1 2 = .ok (.iload_n 2, 1) := by decide +kernel
theorem dX9_ageOf_3 : decode mX9_ageOf.2.1 3 = .ok (.invokevirtual 129, 3) := by decide +kernel
theorem dX9_ageOf_6 : decode mX9_ageOf.2.1 6 = .ok (.ifCond .eq 12, 3) := by decide +kernel
theorem dX9_ageOf_9 : decode mX9_ageOf.2.1 9 = .ok (.aload_n 0, 1) := by decide +kernel
theorem dX9_ageOf_10 : decode mX9_ageOf.2.1 10 = .ok (.iload_n 1, 1) := by decide +kernel
theorem dX9_ageOf_11 : decode mX9_ageOf.2.1 11 = .ok (.iload_n 2, 1) := by decide +kernel
theorem dX9_ageOf_12 : decode mX9_ageOf.2.1 12 = .ok (.invokevirtual 74, 3) := by decide +kernel
theorem dX9_ageOf_15 : decode mX9_ageOf.2.1 15 = .ok (.goto 4, 3) := by decide +kernel
theorem dX9_ageOf_18 : decode mX9_ageOf.2.1 18 = .ok (.iconst 0, 1) := by decide +kernel
theorem dX9_ageOf_19 : decode mX9_ageOf.2.1 19 = .ok (.ireturn, 1) := by decide +kernel
theorem dX9_hitsOf_0 : decode mX9_hitsOf.2.1 0 = .ok (.aload_n 0, 1) := by decide +kernel
theorem dX9_hitsOf_1 : decode mX9_hitsOf.2.1 1 = .ok (.iload_n 1, 1) := by decide +kernel
theorem dX9_hitsOf_2 : decode mX9_hitsOf.2.1 2 = .ok (.iload_n 2, 1) := by decide +kernel
theorem dX9_hitsOf_3 : decode mX9_hitsOf.2.1 3 = .ok (.invokevirtual 129, 3) := by decide +kernel
theorem dX9_hitsOf_6 : decode mX9_hitsOf.2.1 6 = .ok (.ifCond .eq 18, 3) := by decide +kernel
theorem dX9_hitsOf_9 : decode mX9_hitsOf.2.1 9 = .ok (.aload_n 0, 1) := by decide +kernel
theorem dX9_hitsOf_10 : decode mX9_hitsOf.2.1 10 = .ok (.getfield 9, 3) := by decide +kernel
theorem dX9_hitsOf_13 : decode mX9_hitsOf.2.1 13 = .ok (.iload_n 1, 1) := by decide +kernel
theorem dX9_hitsOf_14 : decode mX9_hitsOf.2.1 14 = .ok (.iload_n 2, 1) := by decide +kernel
theorem dX9_hitsOf_15 : decode mX9_hitsOf.2.1 15 = .ok (.invokestatic 66, 3) := by decide +kernel
theorem dX9_hitsOf_18 : decode mX9_hitsOf.2.1 18 = .ok (.iconst 5, 1) := by decide +kernel
theorem dX9_hitsOf_19 : decode mX9_hitsOf.2.1 19 = .ok (.iadd, 1) := by decide +kernel
theorem dX9_hitsOf_20 : decode mX9_hitsOf.2.1 20 = .ok (.iaload, 1) := by decide +kernel
theorem dX9_hitsOf_21 : decode mX9_hitsOf.2.1 21 = .ok (.goto 4, 3) := by decide +kernel
theorem dX9_hitsOf_24 : decode mX9_hitsOf.2.1 24 = .ok (.iconst 0, 1) := by decide +kernel
theorem dX9_hitsOf_25 : decode mX9_hitsOf.2.1 25 = .ok (.ireturn, 1) := by decide +kernel
theorem dX9_isExpired_0 : decode mX9_isExpired.2.1 0 = .ok (.aload_n 0, 1) := by decide +kernel
theorem dX9_isExpired_1 : decode mX9_isExpired.2.1 1 = .ok (.iload_n 1, 1) := by decide +kernel
theorem dX9_isExpired_2 : decode mX9_isExpired.2.1 2 = .ok (.iload_n 2, 1) := by decide +kernel
theorem dX9_isExpired_3 : decode mX9_isExpired.2.1 3 = .ok (.invokevirtual 129, 3) := by decide +kernel
theorem dX9_isExpired_6 : decode mX9_isExpired.2.1 6 = .ok (.ifCond .eq 16, 3) := by decide +kernel
theorem dX9_isExpired_9 : decode mX9_isExpired.2.1 9 = .ok (.aload_n 0, 1) := by decide +kernel
theorem dX9_isExpired_10 : decode mX9_isExpired.2.1 10 = .ok (.iload_n 1, 1) := by decide +kernel
theorem dX9_isExpired_11 : decode mX9_isExpired.2.1 11 = .ok (.iload_n 2, 1) := by decide +kernel
theorem dX9_isExpired_12 : decode mX9_isExpired.2.1 12 = .ok (.invokevirtual 89, 3) := by decide +kernel
theorem dX9_isExpired_15 : decode mX9_isExpired.2.1 15 = .ok (.ifCond .eq 7, 3) := by decide +kernel
theorem dX9_isExpired_18 : decode mX9_isExpired.2.1 18 = .ok (.iconst 1, 1) := by decide +kernel
theorem dX9_isExpired_19 : decode mX9_isExpired.2.1 19 = .ok (.goto 4, 3) := by decide +kernel
theorem dX9_isExpired_22 : decode mX9_isExpired.2.1 22 = .ok (.iconst 0, 1) := by decide +kernel
theorem dX9_isExpired_23 : decode mX9_isExpired.2.1 23 = .ok (.ireturn, 1) := by decide +kernel
theorem dX9_isOpen_0 : decode mX9_isOpen.2.1 0 = .ok (.aload_n 0, 1) := by decide +kernel
theorem dX9_isOpen_1 : decode mX9_isOpen.2.1 1 = .ok (.iload_n 1, 1) := by decide +kernel
theorem dX9_isOpen_2 : decode mX9_isOpen.2.1 2 = .ok (.iload_n 2, 1) := by decide +kernel
theorem dX9_isOpen_3 : decode mX9_isOpen.2.1 3 = .ok (.invokevirtual 129, 3) := by decide +kernel
theorem dX9_isOpen_6 : decode mX9_isOpen.2.1 6 = .ok (.ifCond .eq 24, 3) := by decide +kernel
theorem dX9_isOpen_9 : decode mX9_isOpen.2.1 9 = .ok (.aload_n 0, 1) := by decide +kernel
theorem dX9_isOpen_10 : decode mX9_isOpen.2.1 10 = .ok (.getfield 9, 3) := by decide +kernel
theorem dX9_isOpen_13 : decode mX9_isOpen.2.1 13 = .ok (.iload_n 1, 1) := by decide +kernel
theorem dX9_isOpen_14 : decode mX9_isOpen.2.1 14 = .ok (.iload_n 2, 1) := by decide +kernel
theorem dX9_isOpen_15 : decode mX9_isOpen.2.1 15 = .ok (.invokestatic 66, 3) := by decide +kernel
theorem dX9_isOpen_18 : decode mX9_isOpen.2.1 18 = .ok (.bipush 6, 2) := by decide +kernel
theorem dX9_isOpen_20 : decode mX9_isOpen.2.1 20 = .ok (.iadd, 1) := by decide +kernel
theorem dX9_isOpen_21 : decode mX9_isOpen.2.1 21 = .ok (.iaload, 1) := by decide +kernel
theorem dX9_isOpen_22 : decode mX9_isOpen.2.1 22 = .ok (.iconst 1, 1) := by decide +kernel
theorem dX9_isOpen_23 : decode mX9_isOpen.2.1 23 = .ok (.if_icmp .ne 7, 3) := by decide +kernel
theorem dX9_isOpen_26 : decode mX9_isOpen.2.1 26 = .ok (.iconst 1, 1) := by decide +kernel
theorem dX9_isOpen_27 : decode mX9_isOpen.2.1 27 = .ok (.goto 4, 3) := by decide +kernel
theorem dX9_isOpen_30 : decode mX9_isOpen.2.1 30 = .ok (.iconst 0, 1) := by decide +kernel
theorem dX9_isOpen_31 : decode mX9_isOpen.2.1 31 = .ok (.ireturn, 1) := by decide +kernel
theorem dX9_isTrue_0 : decode mX9_isTrue.2.1 0 = .ok (.aload_n 0, 1) := by decide +kernel
theorem dX9_isTrue_1 : decode mX9_isTrue.2.1 1 = .ok (.iload_n 1, 1) := by decide +kernel
theorem dX9_isTrue_2 : decode mX9_isTrue.2.1 2 = .ok (.iload_n 2, 1) := by decide +kernel
theorem dX9_isTrue_3 : decode mX9_isTrue.2.1 3 = .ok (.invokevirtual 129, 3) := by decide +kernel
theorem dX9_isTrue_6 : decode mX9_isTrue.2.1 6 = .ok (.ifCond .eq 33, 3) := by decide +kernel
theorem dX9_isTrue_9 : decode mX9_isTrue.2.1 9 = .ok (.aload_n 0, 1) := by decide +kernel
theorem dX9_isTrue_10 : decode mX9_isTrue.2.1 10 = .ok (.getfield 9, 3) := by decide +kernel
theorem dX9_isTrue_13 : decode mX9_isTrue.2.1 13 = .ok (.iload_n 1, 1) := by decide +kernel
theorem dX9_isTrue_14 : decode mX9_isTrue.2.1 14 = .ok (.iload_n 2, 1) := by decide +kernel
theorem dX9_isTrue_15 : decode mX9_isTrue.2.1 15 = .ok (.invokestatic 66, 3) := by decide +kernel
theorem dX9_isTrue_18 : decode mX9_isTrue.2.1 18 = .ok (.iconst 3, 1) := by decide +kernel
theorem dX9_isTrue_19 : decode mX9_isTrue.2.1 19 = .ok (.iadd, 1) := by decide +kernel
theorem dX9_isTrue_20 : decode mX9_isTrue.2.1 20 = .ok (.iaload, 1) := by decide +kernel
theorem dX9_isTrue_21 : decode mX9_isTrue.2.1 21 = .ok (.aload_n 0, 1) := by decide +kernel
theorem dX9_isTrue_22 : decode mX9_isTrue.2.1 22 = .ok (.getfield 9, 3) := by decide +kernel
theorem dX9_isTrue_25 : decode mX9_isTrue.2.1 25 = .ok (.iload_n 2, 1) := by decide +kernel
theorem dX9_isTrue_26 : decode mX9_isTrue.2.1 26 = .ok (.invokestatic 59, 3) := by decide +kernel
theorem dX9_isTrue_29 : decode mX9_isTrue.2.1 29 = .ok (.iconst 2, 1) := by decide +kernel
theorem dX9_isTrue_30 : decode mX9_isTrue.2.1 30 = .ok (.iadd, 1) := by decide +kernel
theorem dX9_isTrue_31 : decode mX9_isTrue.2.1 31 = .ok (.iaload, 1) := by decide +kernel
theorem dX9_isTrue_32 : decode mX9_isTrue.2.1 32 = .ok (.if_icmp .le 7, 3) := by decide +kernel
theorem dX9_isTrue_35 : decode mX9_isTrue.2.1 35 = .ok (.iconst 1, 1) := by decide +kernel
theorem dX9_isTrue_36 : decode mX9_isTrue.2.1 36 = .ok (.goto 4, 3) := by decide +kernel
theorem dX9_isTrue_39 : decode mX9_isTrue.2.1 39 = .ok (.iconst 0, 1) := by decide +kernel
theorem dX9_isTrue_40 : decode mX9_isTrue.2.1 40 = .ok (.ireturn, 1) := by decide +kernel
theorem dX9_isTrueBySteps_0 : decode mX9_isTrueBySteps.2.1 0 = .ok (.aload_n 0, 1) := by decide +kernel
theorem dX9_isTrueBySteps_1 : decode mX9_isTrueBySteps.2.1 1 = .ok (.iload_n 1, 1) := by decide +kernel
theorem dX9_isTrueBySteps_2 : decode mX9_isTrueBySteps.2.1 2 = .ok (.iload_n 2, 1) := by decide +kernel
theorem dX9_isTrueBySteps_3 : decode mX9_isTrueBySteps.2.1 3 = .ok (.invokevirtual 132, 3) := by decide +kernel
theorem dX9_isTrueBySteps_6 : decode mX9_isTrueBySteps.2.1 6 = .ok (.ireturn, 1) := by decide +kernel
theorem dX9_victimOf_0 : decode mX9_victimOf.2.1 0 = .ok (.aload_n 0, 1) := by decide +kernel
theorem dX9_victimOf_1 : decode mX9_victimOf.2.1 1 = .ok (.aload_n 0, 1) := by decide +kernel
theorem dX9_victimOf_2 : decode mX9_victimOf.2.1 2 = .ok (.iload_n 1, 1) := by decide +kernel
theorem dX9_victimOf_3 : decode mX9_victimOf.2.1 3 = .ok (.invokevirtual 122, 3) := by decide +kernel
theorem dX9_victimOf_6 : decode mX9_victimOf.2.1 6 = .ok (.ifCond .ne 7, 3) := by decide +kernel
theorem dX9_victimOf_9 : decode mX9_victimOf.2.1 9 = .ok (.iconst 1, 1) := by decide +kernel
theorem dX9_victimOf_10 : decode mX9_victimOf.2.1 10 = .ok (.goto 16, 3) := by decide +kernel
theorem dX9_victimOf_13 : decode mX9_victimOf.2.1 13 = .ok (.aload_n 0, 1) := by decide +kernel
theorem dX9_victimOf_14 : decode mX9_victimOf.2.1 14 = .ok (.iload_n 1, 1) := by decide +kernel
theorem dX9_victimOf_15 : decode mX9_victimOf.2.1 15 = .ok (.invokevirtual 83, 3) := by decide +kernel
theorem dX9_victimOf_18 : decode mX9_victimOf.2.1 18 = .ok (.ifCond .ne 7, 3) := by decide +kernel
theorem dX9_victimOf_21 : decode mX9_victimOf.2.1 21 = .ok (.iconst 2, 1) := by decide +kernel
theorem dX9_victimOf_22 : decode mX9_victimOf.2.1 22 = .ok (.goto 4, 3) := by decide +kernel
theorem dX9_victimOf_25 : decode mX9_victimOf.2.1 25 = .ok (.iconst 0, 1) := by decide +kernel
theorem dX9_victimOf_26 : decode mX9_victimOf.2.1 26 = .ok (.putfield 39, 3) := by decide +kernel
theorem dX9_victimOf_29 : decode mX9_victimOf.2.1 29 = .ok (.aload_n 0, 1) := by decide +kernel
theorem dX9_victimOf_30 : decode mX9_victimOf.2.1 30 = .ok (.getfield 39, 3) := by decide +kernel
theorem dX9_victimOf_33 : decode mX9_victimOf.2.1 33 = .ok (.ifCond .le 8, 3) := by decide +kernel
theorem dX9_victimOf_36 : decode mX9_victimOf.2.1 36 = .ok (.bipush 32, 2) := by decide +kernel
theorem dX9_victimOf_38 : decode mX9_victimOf.2.1 38 = .ok (.goto 9, 3) := by decide +kernel
theorem dX9_victimOf_41 : decode mX9_victimOf.2.1 41 = .ok (.aload_n 0, 1) := by decide +kernel
theorem dX9_victimOf_42 : decode mX9_victimOf.2.1 42 = .ok (.iload_n 1, 1) := by decide +kernel
theorem dX9_victimOf_43 : decode mX9_victimOf.2.1 43 = .ok (.invokevirtual 86, 3) := by decide +kernel
theorem dX9_victimOf_46 : decode mX9_victimOf.2.1 46 = .ok (.i2c, 1) := by decide +kernel
theorem dX9_victimOf_47 : decode mX9_victimOf.2.1 47 = .ok (.ireturn, 1) := by decide +kernel
theorem dX9_victimByScan_0 : decode mX9_victimByScan.2.1 0 = .ok (.aload_n 0, 1) := by decide +kernel
theorem dX9_victimByScan_1 : decode mX9_victimByScan.2.1 1 = .ok (.iload_n 1, 1) := by decide +kernel
theorem dX9_victimByScan_2 : decode mX9_victimByScan.2.1 2 = .ok (.invokevirtual 136, 3) := by decide +kernel
theorem dX9_victimByScan_5 : decode mX9_victimByScan.2.1 5 = .ok (.ireturn, 1) := by decide +kernel
theorem dX9_doHear_0 : decode mX9_doHear.2.1 0 = .ok (.aload_n 0, 1) := by decide +kernel
theorem dX9_doHear_1 : decode mX9_doHear.2.1 1 = .ok (.iload_n 1, 1) := by decide +kernel
theorem dX9_doHear_2 : decode mX9_doHear.2.1 2 = .ok (.invokevirtual 122, 3) := by decide +kernel
theorem dX9_doHear_5 : decode mX9_doHear.2.1 5 = .ok (.ifCond .ne 9, 3) := by decide +kernel
theorem dX9_doHear_8 : decode mX9_doHear.2.1 8 = .ok (.aload_n 0, 1) := by decide +kernel
theorem dX9_doHear_9 : decode mX9_doHear.2.1 9 = .ok (.iconst 1, 1) := by decide +kernel
theorem dX9_doHear_10 : decode mX9_doHear.2.1 10 = .ok (.invokevirtual 92, 3) := by decide +kernel
theorem dX9_doHear_13 : decode mX9_doHear.2.1 13 = .ok (.ireturn, 1) := by decide +kernel
theorem dX9_doHear_14 : decode mX9_doHear.2.1 14 = .ok (.aload_n 0, 1) := by decide +kernel
theorem dX9_doHear_15 : decode mX9_doHear.2.1 15 = .ok (.iload_n 2, 1) := by decide +kernel
theorem dX9_doHear_16 : decode mX9_doHear.2.1 16 = .ok (.invokevirtual 63, 3) := by decide +kernel
theorem dX9_doHear_19 : decode mX9_doHear.2.1 19 = .ok (.ifCond .ne 9, 3) := by decide +kernel
theorem dX9_doHear_22 : decode mX9_doHear.2.1 22 = .ok (.aload_n 0, 1) := by decide +kernel
theorem dX9_doHear_23 : decode mX9_doHear.2.1 23 = .ok (.iconst 2, 1) := by decide +kernel
theorem dX9_doHear_24 : decode mX9_doHear.2.1 24 = .ok (.invokevirtual 92, 3) := by decide +kernel
theorem dX9_doHear_27 : decode mX9_doHear.2.1 27 = .ok (.ireturn, 1) := by decide +kernel
theorem dX9_doHear_28 : decode mX9_doHear.2.1 28 = .ok (.aload_n 0, 1) := by decide +kernel
theorem dX9_doHear_29 : decode mX9_doHear.2.1 29 = .ok (.iload_n 1, 1) := by decide +kernel
theorem dX9_doHear_30 : decode mX9_doHear.2.1 30 = .ok (.iload_n 2, 1) := by decide +kernel
theorem dX9_doHear_31 : decode mX9_doHear.2.1 31 = .ok (.invokevirtual 140, 3) := by decide +kernel
theorem dX9_doHear_34 : decode mX9_doHear.2.1 34 = .ok (.istore_n 3, 1) := by decide +kernel
theorem dX9_doHear_35 : decode mX9_doHear.2.1 35 = .ok (.iload_n 3, 1) := by decide +kernel
theorem dX9_doHear_36 : decode mX9_doHear.2.1 36 = .ok (.bipush 104, 2) := by decide +kernel
theorem dX9_doHear_38 : decode mX9_doHear.2.1 38 = .ok (.if_icmp .ne 79, 3) := by decide +kernel
theorem dX9_doHear_41 : decode mX9_doHear.2.1 41 = .ok (.aload_n 0, 1) := by decide +kernel
theorem dX9_doHear_42 : decode mX9_doHear.2.1 42 = .ok (.getfield 9, 3) := by decide +kernel
theorem dX9_doHear_45 : decode mX9_doHear.2.1 45 = .ok (.iload_n 1, 1) := by decide +kernel
theorem dX9_doHear_46 : decode mX9_doHear.2.1 46 = .ok (.iload_n 2, 1) := by decide +kernel
theorem dX9_doHear_47 : decode mX9_doHear.2.1 47 = .ok (.invokestatic 66, 3) := by decide +kernel
theorem dX9_doHear_50 : decode mX9_doHear.2.1 50 = .ok (.iconst 5, 1) := by decide +kernel
theorem dX9_doHear_51 : decode mX9_doHear.2.1 51 = .ok (.iadd, 1) := by decide +kernel
theorem dX9_doHear_52 : decode mX9_doHear.2.1 52 = .ok (.dup2, 1) := by decide +kernel
theorem dX9_doHear_53 : decode mX9_doHear.2.1 53 = .ok (.iaload, 1) := by decide +kernel
theorem dX9_doHear_54 : decode mX9_doHear.2.1 54 = .ok (.iconst 1, 1) := by decide +kernel
theorem dX9_doHear_55 : decode mX9_doHear.2.1 55 = .ok (.iadd, 1) := by decide +kernel
theorem dX9_doHear_56 : decode mX9_doHear.2.1 56 = .ok (.iastore, 1) := by decide +kernel
theorem dX9_doHear_57 : decode mX9_doHear.2.1 57 = .ok (.aload_n 0, 1) := by decide +kernel
theorem dX9_doHear_58 : decode mX9_doHear.2.1 58 = .ok (.getfield 9, 3) := by decide +kernel
theorem dX9_doHear_61 : decode mX9_doHear.2.1 61 = .ok (.iload_n 1, 1) := by decide +kernel
theorem dX9_doHear_62 : decode mX9_doHear.2.1 62 = .ok (.iload_n 2, 1) := by decide +kernel
theorem dX9_doHear_63 : decode mX9_doHear.2.1 63 = .ok (.invokestatic 66, 3) := by decide +kernel
theorem dX9_doHear_66 : decode mX9_doHear.2.1 66 = .ok (.iconst 4, 1) := by decide +kernel
theorem dX9_doHear_67 : decode mX9_doHear.2.1 67 = .ok (.iadd, 1) := by decide +kernel
theorem dX9_doHear_68 : decode mX9_doHear.2.1 68 = .ok (.aload_n 0, 1) := by decide +kernel
theorem dX9_doHear_69 : decode mX9_doHear.2.1 69 = .ok (.getfield 9, 3) := by decide +kernel
theorem dX9_doHear_72 : decode mX9_doHear.2.1 72 = .ok (.iconst 3, 1) := by decide +kernel
theorem dX9_doHear_73 : decode mX9_doHear.2.1 73 = .ok (.iaload, 1) := by decide +kernel
theorem dX9_doHear_74 : decode mX9_doHear.2.1 74 = .ok (.iastore, 1) := by decide +kernel
theorem dX9_doHear_75 : decode mX9_doHear.2.1 75 = .ok (.aload_n 0, 1) := by decide +kernel
theorem dX9_doHear_76 : decode mX9_doHear.2.1 76 = .ok (.getfield 9, 3) := by decide +kernel
theorem dX9_doHear_79 : decode mX9_doHear.2.1 79 = .ok (.iconst 3, 1) := by decide +kernel
theorem dX9_doHear_80 : decode mX9_doHear.2.1 80 = .ok (.dup2, 1) := by decide +kernel
theorem dX9_doHear_81 : decode mX9_doHear.2.1 81 = .ok (.iaload, 1) := by decide +kernel
theorem dX9_doHear_82 : decode mX9_doHear.2.1 82 = .ok (.iconst 1, 1) := by decide +kernel
theorem dX9_doHear_83 : decode mX9_doHear.2.1 83 = .ok (.iadd, 1) := by decide +kernel
theorem dX9_doHear_84 : decode mX9_doHear.2.1 84 = .ok (.iastore, 1) := by decide +kernel
theorem dX9_doHear_85 : decode mX9_doHear.2.1 85 = .ok (.aload_n 0, 1) := by decide +kernel
theorem dX9_doHear_86 : decode mX9_doHear.2.1 86 = .ok (.getfield 9, 3) := by decide +kernel
theorem dX9_doHear_89 : decode mX9_doHear.2.1 89 = .ok (.iconst 4, 1) := by decide +kernel
theorem dX9_doHear_90 : decode mX9_doHear.2.1 90 = .ok (.dup2, 1) := by decide +kernel
theorem dX9_doHear_91 : decode mX9_doHear.2.1 91 = .ok (.iaload, 1) := by decide +kernel
theorem dX9_doHear_92 : decode mX9_doHear.2.1 92 = .ok (.iconst 1, 1) := by decide +kernel
theorem dX9_doHear_93 : decode mX9_doHear.2.1 93 = .ok (.iadd, 1) := by decide +kernel
theorem dX9_doHear_94 : decode mX9_doHear.2.1 94 = .ok (.iastore, 1) := by decide +kernel
theorem dX9_doHear_95 : decode mX9_doHear.2.1 95 = .ok (.aload_n 0, 1) := by decide +kernel
theorem dX9_doHear_96 : decode mX9_doHear.2.1 96 = .ok (.getfield 9, 3) := by decide +kernel
theorem dX9_doHear_99 : decode mX9_doHear.2.1 99 = .ok (.bipush 86, 2) := by decide +kernel
theorem dX9_doHear_101 : decode mX9_doHear.2.1 101 = .ok (.sipush 187, 3) := by decide +kernel
theorem dX9_doHear_104 : decode mX9_doHear.2.1 104 = .ok (.iload_n 1, 1) := by decide +kernel
theorem dX9_doHear_105 : decode mX9_doHear.2.1 105 = .ok (.imul, 1) := by decide +kernel
theorem dX9_doHear_106 : decode mX9_doHear.2.1 106 = .ok (.iadd, 1) := by decide +kernel
theorem dX9_doHear_107 : decode mX9_doHear.2.1 107 = .ok (.iconst 4, 1) := by decide +kernel
theorem dX9_doHear_108 : decode mX9_doHear.2.1 108 = .ok (.iadd, 1) := by decide +kernel
theorem dX9_doHear_109 : decode mX9_doHear.2.1 109 = .ok (.dup2, 1) := by decide +kernel
theorem dX9_doHear_110 : decode mX9_doHear.2.1 110 = .ok (.iaload, 1) := by decide +kernel
theorem dX9_doHear_111 : decode mX9_doHear.2.1 111 = .ok (.iconst 1, 1) := by decide +kernel
theorem dX9_doHear_112 : decode mX9_doHear.2.1 112 = .ok (.iadd, 1) := by decide +kernel
theorem dX9_doHear_113 : decode mX9_doHear.2.1 113 = .ok (.iastore, 1) := by decide +kernel
theorem dX9_doHear_114 : decode mX9_doHear.2.1 114 = .ok (.goto 41, 3) := by decide +kernel
theorem dX9_doHear_117 : decode mX9_doHear.2.1 117 = .ok (.aload_n 0, 1) := by decide +kernel
theorem dX9_doHear_118 : decode mX9_doHear.2.1 118 = .ok (.getfield 9, 3) := by decide +kernel
theorem dX9_doHear_121 : decode mX9_doHear.2.1 121 = .ok (.iload_n 3, 1) := by decide +kernel
theorem dX9_doHear_122 : decode mX9_doHear.2.1 122 = .ok (.bipush 99, 2) := by decide +kernel
theorem dX9_doHear_124 : decode mX9_doHear.2.1 124 = .ok (.if_icmp .ne 7, 3) := by decide +kernel
theorem dX9_doHear_127 : decode mX9_doHear.2.1 127 = .ok (.iconst 5, 1) := by decide +kernel
theorem dX9_doHear_128 : decode mX9_doHear.2.1 128 = .ok (.goto 16, 3) := by decide +kernel
theorem dX9_doHear_131 : decode mX9_doHear.2.1 131 = .ok (.iload_n 3, 1) := by decide +kernel
theorem dX9_doHear_132 : decode mX9_doHear.2.1 132 = .ok (.bipush 101, 2) := by decide +kernel
theorem dX9_doHear_134 : decode mX9_doHear.2.1 134 = .ok (.if_icmp .ne 8, 3) := by decide +kernel
theorem dX9_doHear_137 : decode mX9_doHear.2.1 137 = .ok (.bipush 6, 2) := by decide +kernel
theorem dX9_doHear_139 : decode mX9_doHear.2.1 139 = .ok (.goto 5, 3) := by decide +kernel
theorem dX9_doHear_142 : decode mX9_doHear.2.1 142 = .ok (.bipush 7, 2) := by decide +kernel
theorem dX9_doHear_144 : decode mX9_doHear.2.1 144 = .ok (.dup2, 1) := by decide +kernel
theorem dX9_doHear_145 : decode mX9_doHear.2.1 145 = .ok (.iaload, 1) := by decide +kernel
theorem dX9_doHear_146 : decode mX9_doHear.2.1 146 = .ok (.iconst 1, 1) := by decide +kernel
theorem dX9_doHear_147 : decode mX9_doHear.2.1 147 = .ok (.iadd, 1) := by decide +kernel
theorem dX9_doHear_148 : decode mX9_doHear.2.1 148 = .ok (.iastore, 1) := by decide +kernel
theorem dX9_doHear_149 : decode mX9_doHear.2.1 149 = .ok (.aload_n 0, 1) := by decide +kernel
theorem dX9_doHear_150 : decode mX9_doHear.2.1 150 = .ok (.iload_n 1, 1) := by decide +kernel
theorem dX9_doHear_151 : decode mX9_doHear.2.1 151 = .ok (.iload_n 2, 1) := by decide +kernel
theorem dX9_doHear_152 : decode mX9_doHear.2.1 152 = .ok (.invokevirtual 144, 3) := by decide +kernel
theorem dX9_doHear_155 : decode mX9_doHear.2.1 155 = .ok (.aload_n 0, 1) := by decide +kernel
theorem dX9_doHear_156 : decode mX9_doHear.2.1 156 = .ok (.getfield 9, 3) := by decide +kernel
theorem dX9_doHear_159 : decode mX9_doHear.2.1 159 = .ok (.iload_n 1, 1) := by decide +kernel
theorem dX9_doHear_160 : decode mX9_doHear.2.1 160 = .ok (.iload_n 2, 1) := by decide +kernel
theorem dX9_doHear_161 : decode mX9_doHear.2.1 161 = .ok (.invokestatic 66, 3) := by decide +kernel
theorem dX9_doHear_164 : decode mX9_doHear.2.1 164 = .ok (.iconst 1, 1) := by decide +kernel
theorem dX9_doHear_165 : decode mX9_doHear.2.1 165 = .ok (.iadd, 1) := by decide +kernel
theorem dX9_doHear_166 : decode mX9_doHear.2.1 166 = .ok (.iaload, 1) := by decide +kernel
theorem dX9_doHear_167 : decode mX9_doHear.2.1 167 = .ok (.ireturn, 1) := by decide +kernel
theorem dX9_hear_0 : decode mX9_hear.2.1 0 = .ok (.aload_n 0, 1) := by decide +kernel
theorem dX9_hear_1 : decode mX9_hear.2.1 1 = .ok (.invokevirtual 99, 3) := by decide +kernel
theorem dX9_hear_4 : decode mX9_hear.2.1 4 = .ok (.aload_n 0, 1) := by decide +kernel
theorem dX9_hear_5 : decode mX9_hear.2.1 5 = .ok (.aload_n 0, 1) := by decide +kernel
theorem dX9_hear_6 : decode mX9_hear.2.1 6 = .ok (.iload_n 1, 1) := by decide +kernel
theorem dX9_hear_7 : decode mX9_hear.2.1 7 = .ok (.iload_n 2, 1) := by decide +kernel
theorem dX9_hear_8 : decode mX9_hear.2.1 8 = .ok (.invokevirtual 148, 3) := by decide +kernel
theorem dX9_hear_11 : decode mX9_hear.2.1 11 = .ok (.invokevirtual 105, 3) := by decide +kernel
theorem dX9_hear_14 : decode mX9_hear.2.1 14 = .ok (.ireturn, 1) := by decide +kernel
theorem dX9_outcomeOf_0 : decode mX9_outcomeOf.2.1 0 = .ok (.aload_n 0, 1) := by decide +kernel
theorem dX9_outcomeOf_1 : decode mX9_outcomeOf.2.1 1 = .ok (.aload_n 0, 1) := by decide +kernel
theorem dX9_outcomeOf_2 : decode mX9_outcomeOf.2.1 2 = .ok (.iload_n 1, 1) := by decide +kernel
theorem dX9_outcomeOf_3 : decode mX9_outcomeOf.2.1 3 = .ok (.invokevirtual 122, 3) := by decide +kernel
theorem dX9_outcomeOf_6 : decode mX9_outcomeOf.2.1 6 = .ok (.ifCond .ne 7, 3) := by decide +kernel
theorem dX9_outcomeOf_9 : decode mX9_outcomeOf.2.1 9 = .ok (.iconst 1, 1) := by decide +kernel
theorem dX9_outcomeOf_10 : decode mX9_outcomeOf.2.1 10 = .ok (.goto 16, 3) := by decide +kernel
theorem dX9_outcomeOf_13 : decode mX9_outcomeOf.2.1 13 = .ok (.aload_n 0, 1) := by decide +kernel
theorem dX9_outcomeOf_14 : decode mX9_outcomeOf.2.1 14 = .ok (.iload_n 2, 1) := by decide +kernel
theorem dX9_outcomeOf_15 : decode mX9_outcomeOf.2.1 15 = .ok (.invokevirtual 63, 3) := by decide +kernel
theorem dX9_outcomeOf_18 : decode mX9_outcomeOf.2.1 18 = .ok (.ifCond .ne 7, 3) := by decide +kernel
theorem dX9_outcomeOf_21 : decode mX9_outcomeOf.2.1 21 = .ok (.iconst 2, 1) := by decide +kernel
theorem dX9_outcomeOf_22 : decode mX9_outcomeOf.2.1 22 = .ok (.goto 4, 3) := by decide +kernel
theorem dX9_outcomeOf_25 : decode mX9_outcomeOf.2.1 25 = .ok (.iconst 0, 1) := by decide +kernel
theorem dX9_outcomeOf_26 : decode mX9_outcomeOf.2.1 26 = .ok (.putfield 39, 3) := by decide +kernel
theorem dX9_outcomeOf_29 : decode mX9_outcomeOf.2.1 29 = .ok (.aload_n 0, 1) := by decide +kernel
theorem dX9_outcomeOf_30 : decode mX9_outcomeOf.2.1 30 = .ok (.getfield 39, 3) := by decide +kernel
theorem dX9_outcomeOf_33 : decode mX9_outcomeOf.2.1 33 = .ok (.ifCond .le 8, 3) := by decide +kernel
theorem dX9_outcomeOf_36 : decode mX9_outcomeOf.2.1 36 = .ok (.bipush 32, 2) := by decide +kernel
theorem dX9_outcomeOf_38 : decode mX9_outcomeOf.2.1 38 = .ok (.goto 9, 3) := by decide +kernel
theorem dX9_outcomeOf_41 : decode mX9_outcomeOf.2.1 41 = .ok (.aload_n 0, 1) := by decide +kernel
theorem dX9_outcomeOf_42 : decode mX9_outcomeOf.2.1 42 = .ok (.iload_n 1, 1) := by decide +kernel
theorem dX9_outcomeOf_43 : decode mX9_outcomeOf.2.1 43 = .ok (.iload_n 2, 1) := by decide +kernel
theorem dX9_outcomeOf_44 : decode mX9_outcomeOf.2.1 44 = .ok (.invokevirtual 140, 3) := by decide +kernel
theorem dX9_outcomeOf_47 : decode mX9_outcomeOf.2.1 47 = .ok (.ireturn, 1) := by decide +kernel
theorem dX9_doWarm_0 : decode mX9_doWarm.2.1 0 = .ok (.aload_n 0, 1) := by decide +kernel
theorem dX9_doWarm_1 : decode mX9_doWarm.2.1 1 = .ok (.iload_n 1, 1) := by decide +kernel
theorem dX9_doWarm_2 : decode mX9_doWarm.2.1 2 = .ok (.invokevirtual 122, 3) := by decide +kernel
theorem dX9_doWarm_5 : decode mX9_doWarm.2.1 5 = .ok (.ifCond .ne 9, 3) := by decide +kernel
theorem dX9_doWarm_8 : decode mX9_doWarm.2.1 8 = .ok (.aload_n 0, 1) := by decide +kernel
theorem dX9_doWarm_9 : decode mX9_doWarm.2.1 9 = .ok (.iconst 1, 1) := by decide +kernel
theorem dX9_doWarm_10 : decode mX9_doWarm.2.1 10 = .ok (.invokevirtual 92, 3) := by decide +kernel
theorem dX9_doWarm_13 : decode mX9_doWarm.2.1 13 = .ok (.ireturn, 1) := by decide +kernel
theorem dX9_doWarm_14 : decode mX9_doWarm.2.1 14 = .ok (.aload_n 0, 1) := by decide +kernel
theorem dX9_doWarm_15 : decode mX9_doWarm.2.1 15 = .ok (.iload_n 2, 1) := by decide +kernel
theorem dX9_doWarm_16 : decode mX9_doWarm.2.1 16 = .ok (.invokevirtual 63, 3) := by decide +kernel
theorem dX9_doWarm_19 : decode mX9_doWarm.2.1 19 = .ok (.ifCond .ne 9, 3) := by decide +kernel
theorem dX9_doWarm_22 : decode mX9_doWarm.2.1 22 = .ok (.aload_n 0, 1) := by decide +kernel
theorem dX9_doWarm_23 : decode mX9_doWarm.2.1 23 = .ok (.iconst 2, 1) := by decide +kernel
theorem dX9_doWarm_24 : decode mX9_doWarm.2.1 24 = .ok (.invokevirtual 92, 3) := by decide +kernel
theorem dX9_doWarm_27 : decode mX9_doWarm.2.1 27 = .ok (.ireturn, 1) := by decide +kernel
theorem dX9_doWarm_28 : decode mX9_doWarm.2.1 28 = .ok (.iload_n 3, 1) := by decide +kernel
theorem dX9_doWarm_29 : decode mX9_doWarm.2.1 29 = .ok (.iconst 1, 1) := by decide +kernel
theorem dX9_doWarm_30 : decode mX9_doWarm.2.1 30 = .ok (.bipush 50, 2) := by decide +kernel
theorem dX9_doWarm_32 : decode mX9_doWarm.2.1 32 = .ok (.invokestatic 51, 3) := by decide +kernel
theorem dX9_doWarm_35 : decode mX9_doWarm.2.1 35 = .ok (.ifCond .ne 9, 3) := by decide +kernel
theorem dX9_doWarm_38 : decode mX9_doWarm.2.1 38 = .ok (.aload_n 0, 1) := by decide +kernel
theorem dX9_doWarm_39 : decode mX9_doWarm.2.1 39 = .ok (.iconst 3, 1) := by decide +kernel
theorem dX9_doWarm_40 : decode mX9_doWarm.2.1 40 = .ok (.invokevirtual 92, 3) := by decide +kernel
theorem dX9_doWarm_43 : decode mX9_doWarm.2.1 43 = .ok (.ireturn, 1) := by decide +kernel
theorem dX9_doWarm_44 : decode mX9_doWarm.2.1 44 = .ok (.aload_n 0, 1) := by decide +kernel
theorem dX9_doWarm_45 : decode mX9_doWarm.2.1 45 = .ok (.getfield 9, 3) := by decide +kernel
theorem dX9_doWarm_48 : decode mX9_doWarm.2.1 48 = .ok (.iconst 1, 1) := by decide +kernel
theorem dX9_doWarm_49 : decode mX9_doWarm.2.1 49 = .ok (.iaload, 1) := by decide +kernel
theorem dX9_doWarm_50 : decode mX9_doWarm.2.1 50 = .ok (.bipush 8, 2) := by decide +kernel
theorem dX9_doWarm_52 : decode mX9_doWarm.2.1 52 = .ok (.if_icmp .ne 9, 3) := by decide +kernel
theorem dX9_doWarm_55 : decode mX9_doWarm.2.1 55 = .ok (.aload_n 0, 1) := by decide +kernel
theorem dX9_doWarm_56 : decode mX9_doWarm.2.1 56 = .ok (.iconst 4, 1) := by decide +kernel
theorem dX9_doWarm_57 : decode mX9_doWarm.2.1 57 = .ok (.invokevirtual 92, 3) := by decide +kernel
theorem dX9_doWarm_60 : decode mX9_doWarm.2.1 60 = .ok (.ireturn, 1) := by decide +kernel
theorem dX9_doWarm_61 : decode mX9_doWarm.2.1 61 = .ok (.aload_n 0, 1) := by decide +kernel
theorem dX9_doWarm_62 : decode mX9_doWarm.2.1 62 = .ok (.getfield 9, 3) := by decide +kernel
theorem dX9_doWarm_65 : decode mX9_doWarm.2.1 65 = .ok (.iconst 2, 1) := by decide +kernel
theorem dX9_doWarm_66 : decode mX9_doWarm.2.1 66 = .ok (.iaload, 1) := by decide +kernel
theorem dX9_doWarm_67 : decode mX9_doWarm.2.1 67 = .ok (.iload_n 3, 1) := by decide +kernel
theorem dX9_doWarm_68 : decode mX9_doWarm.2.1 68 = .ok (.iadd, 1) := by decide +kernel
theorem dX9_doWarm_69 : decode mX9_doWarm.2.1 69 = .ok (.istore 4, 2) := by decide +kernel
theorem dX9_doWarm_71 : decode mX9_doWarm.2.1 71 = .ok (.aload_n 0, 1) := by decide +kernel
theorem dX9_doWarm_72 : decode mX9_doWarm.2.1 72 = .ok (.getfield 9, 3) := by decide +kernel
theorem dX9_doWarm_75 : decode mX9_doWarm.2.1 75 = .ok (.iconst 1, 1) := by decide +kernel
theorem dX9_doWarm_76 : decode mX9_doWarm.2.1 76 = .ok (.iaload, 1) := by decide +kernel
theorem dX9_doWarm_77 : decode mX9_doWarm.2.1 77 = .ok (.istore 5, 2) := by decide +kernel
theorem dX9_doWarm_79 : decode mX9_doWarm.2.1 79 = .ok (.iload 5, 2) := by decide +kernel
theorem dX9_doWarm_81 : decode mX9_doWarm.2.1 81 = .ok (.ifCond .le 59, 3) := by decide +kernel
theorem dX9_doWarm_84 : decode mX9_doWarm.2.1 84 = .ok (.aload_n 0, 1) := by decide +kernel
theorem dX9_doWarm_85 : decode mX9_doWarm.2.1 85 = .ok (.getfield 9, 3) := by decide +kernel
theorem dX9_doWarm_88 : decode mX9_doWarm.2.1 88 = .ok (.sipush 834, 3) := by decide +kernel
theorem dX9_doWarm_91 : decode mX9_doWarm.2.1 91 = .ok (.iconst 3, 1) := by decide +kernel
theorem dX9_doWarm_92 : decode mX9_doWarm.2.1 92 = .ok (.iload 5, 2) := by decide +kernel
theorem dX9_doWarm_94 : decode mX9_doWarm.2.1 94 = .ok (.iconst 1, 1) := by decide +kernel
theorem dX9_doWarm_95 : decode mX9_doWarm.2.1 95 = .ok (.isub, 1) := by decide +kernel
theorem dX9_doWarm_96 : decode mX9_doWarm.2.1 96 = .ok (.imul, 1) := by decide +kernel
theorem dX9_doWarm_97 : decode mX9_doWarm.2.1 97 = .ok (.iadd, 1) := by decide +kernel
theorem dX9_doWarm_98 : decode mX9_doWarm.2.1 98 = .ok (.iaload, 1) := by decide +kernel
theorem dX9_doWarm_99 : decode mX9_doWarm.2.1 99 = .ok (.iload 4, 2) := by decide +kernel
theorem dX9_doWarm_101 : decode mX9_doWarm.2.1 101 = .ok (.if_icmp .le 39, 3) := by decide +kernel
theorem dX9_doWarm_104 : decode mX9_doWarm.2.1 104 = .ok (.aload_n 0, 1) := by decide +kernel
theorem dX9_doWarm_105 : decode mX9_doWarm.2.1 105 = .ok (.getfield 9, 3) := by decide +kernel
theorem dX9_doWarm_108 : decode mX9_doWarm.2.1 108 = .ok (.sipush 834, 3) := by decide +kernel
theorem dX9_doWarm_111 : decode mX9_doWarm.2.1 111 = .ok (.iconst 3, 1) := by decide +kernel
theorem dX9_doWarm_112 : decode mX9_doWarm.2.1 112 = .ok (.iload 5, 2) := by decide +kernel
theorem dX9_doWarm_114 : decode mX9_doWarm.2.1 114 = .ok (.iconst 1, 1) := by decide +kernel
theorem dX9_doWarm_115 : decode mX9_doWarm.2.1 115 = .ok (.isub, 1) := by decide +kernel
theorem dX9_doWarm_116 : decode mX9_doWarm.2.1 116 = .ok (.imul, 1) := by decide +kernel
theorem dX9_doWarm_117 : decode mX9_doWarm.2.1 117 = .ok (.iadd, 1) := by decide +kernel
theorem dX9_doWarm_118 : decode mX9_doWarm.2.1 118 = .ok (.aload_n 0, 1) := by decide +kernel
theorem dX9_doWarm_119 : decode mX9_doWarm.2.1 119 = .ok (.getfield 9, 3) := by decide +kernel
theorem dX9_doWarm_122 : decode mX9_doWarm.2.1 122 = .ok (.sipush 834, 3) := by decide +kernel
theorem dX9_doWarm_125 : decode mX9_doWarm.2.1 125 = .ok (.iconst 3, 1) := by decide +kernel
theorem dX9_doWarm_126 : decode mX9_doWarm.2.1 126 = .ok (.iload 5, 2) := by decide +kernel
theorem dX9_doWarm_128 : decode mX9_doWarm.2.1 128 = .ok (.imul, 1) := by decide +kernel
theorem dX9_doWarm_129 : decode mX9_doWarm.2.1 129 = .ok (.iadd, 1) := by decide +kernel
theorem dX9_doWarm_130 : decode mX9_doWarm.2.1 130 = .ok (.iconst 3, 1) := by decide +kernel
theorem dX9_doWarm_131 : decode mX9_doWarm.2.1 131 = .ok (.invokestatic 42, 3) := by decide +kernel
theorem dX9_doWarm_134 : decode mX9_doWarm.2.1 134 = .ok (.iinc 5 (-1), 3) := by decide +kernel
theorem dX9_doWarm_137 : decode mX9_doWarm.2.1 137 = .ok (.goto (-58), 3) := by decide +kernel
theorem dX9_doWarm_140 : decode mX9_doWarm.2.1 140 = .ok (.aload_n 0, 1) := by decide +kernel
theorem dX9_doWarm_141 : decode mX9_doWarm.2.1 141 = .ok (.getfield 9, 3) := by decide +kernel
theorem dX9_doWarm_144 : decode mX9_doWarm.2.1 144 = .ok (.sipush 834, 3) := by decide +kernel
theorem dX9_doWarm_147 : decode mX9_doWarm.2.1 147 = .ok (.iconst 3, 1) := by decide +kernel
theorem dX9_doWarm_148 : decode mX9_doWarm.2.1 148 = .ok (.iload 5, 2) := by decide +kernel
theorem dX9_doWarm_150 : decode mX9_doWarm.2.1 150 = .ok (.imul, 1) := by decide +kernel
theorem dX9_doWarm_151 : decode mX9_doWarm.2.1 151 = .ok (.iadd, 1) := by decide +kernel
theorem dX9_doWarm_152 : decode mX9_doWarm.2.1 152 = .ok (.iload 4, 2) := by decide +kernel
theorem dX9_doWarm_154 : decode mX9_doWarm.2.1 154 = .ok (.iastore, 1) := by decide +kernel
theorem dX9_doWarm_155 : decode mX9_doWarm.2.1 155 = .ok (.aload_n 0, 1) := by decide +kernel
theorem dX9_doWarm_156 : decode mX9_doWarm.2.1 156 = .ok (.getfield 9, 3) := by decide +kernel
theorem dX9_doWarm_159 : decode mX9_doWarm.2.1 159 = .ok (.sipush 834, 3) := by decide +kernel
theorem dX9_doWarm_162 : decode mX9_doWarm.2.1 162 = .ok (.iconst 3, 1) := by decide +kernel
theorem dX9_doWarm_163 : decode mX9_doWarm.2.1 163 = .ok (.iload 5, 2) := by decide +kernel
theorem dX9_doWarm_165 : decode mX9_doWarm.2.1 165 = .ok (.imul, 1) := by decide +kernel
theorem dX9_doWarm_166 : decode mX9_doWarm.2.1 166 = .ok (.iadd, 1) := by decide +kernel
theorem dX9_doWarm_167 : decode mX9_doWarm.2.1 167 = .ok (.iconst 1, 1) := by decide +kernel
theorem dX9_doWarm_168 : decode mX9_doWarm.2.1 168 = .ok (.iadd, 1) := by decide +kernel
theorem dX9_doWarm_169 : decode mX9_doWarm.2.1 169 = .ok (.iload_n 1, 1) := by decide +kernel
theorem dX9_doWarm_170 : decode mX9_doWarm.2.1 170 = .ok (.iastore, 1) := by decide +kernel
theorem dX9_doWarm_171 : decode mX9_doWarm.2.1 171 = .ok (.aload_n 0, 1) := by decide +kernel
theorem dX9_doWarm_172 : decode mX9_doWarm.2.1 172 = .ok (.getfield 9, 3) := by decide +kernel
theorem dX9_doWarm_175 : decode mX9_doWarm.2.1 175 = .ok (.sipush 834, 3) := by decide +kernel
theorem dX9_doWarm_178 : decode mX9_doWarm.2.1 178 = .ok (.iconst 3, 1) := by decide +kernel
theorem dX9_doWarm_179 : decode mX9_doWarm.2.1 179 = .ok (.iload 5, 2) := by decide +kernel
theorem dX9_doWarm_181 : decode mX9_doWarm.2.1 181 = .ok (.imul, 1) := by decide +kernel
theorem dX9_doWarm_182 : decode mX9_doWarm.2.1 182 = .ok (.iadd, 1) := by decide +kernel
theorem dX9_doWarm_183 : decode mX9_doWarm.2.1 183 = .ok (.iconst 2, 1) := by decide +kernel
theorem dX9_doWarm_184 : decode mX9_doWarm.2.1 184 = .ok (.iadd, 1) := by decide +kernel
theorem dX9_doWarm_185 : decode mX9_doWarm.2.1 185 = .ok (.iload_n 2, 1) := by decide +kernel
theorem dX9_doWarm_186 : decode mX9_doWarm.2.1 186 = .ok (.iastore, 1) := by decide +kernel
theorem dX9_doWarm_187 : decode mX9_doWarm.2.1 187 = .ok (.aload_n 0, 1) := by decide +kernel
theorem dX9_doWarm_188 : decode mX9_doWarm.2.1 188 = .ok (.getfield 9, 3) := by decide +kernel
theorem dX9_doWarm_191 : decode mX9_doWarm.2.1 191 = .ok (.iconst 1, 1) := by decide +kernel
theorem dX9_doWarm_192 : decode mX9_doWarm.2.1 192 = .ok (.dup2, 1) := by decide +kernel
theorem dX9_doWarm_193 : decode mX9_doWarm.2.1 193 = .ok (.iaload, 1) := by decide +kernel
theorem dX9_doWarm_194 : decode mX9_doWarm.2.1 194 = .ok (.iconst 1, 1) := by decide +kernel
theorem dX9_doWarm_195 : decode mX9_doWarm.2.1 195 = .ok (.iadd, 1) := by decide +kernel
theorem dX9_doWarm_196 : decode mX9_doWarm.2.1 196 = .ok (.iastore, 1) := by decide +kernel
theorem dX9_doWarm_197 : decode mX9_doWarm.2.1 197 = .ok (.iload 5, 2) := by decide +kernel
theorem dX9_doWarm_199 : decode mX9_doWarm.2.1 199 = .ok (.ireturn, 1) := by decide +kernel
theorem dX9_warm_0 : decode mX9_warm.2.1 0 = .ok (.aload_n 0, 1) := by decide +kernel
theorem dX9_warm_1 : decode mX9_warm.2.1 1 = .ok (.invokevirtual 99, 3) := by decide +kernel
theorem dX9_warm_4 : decode mX9_warm.2.1 4 = .ok (.aload_n 0, 1) := by decide +kernel
theorem dX9_warm_5 : decode mX9_warm.2.1 5 = .ok (.aload_n 0, 1) := by decide +kernel
theorem dX9_warm_6 : decode mX9_warm.2.1 6 = .ok (.iload_n 1, 1) := by decide +kernel
theorem dX9_warm_7 : decode mX9_warm.2.1 7 = .ok (.iload_n 2, 1) := by decide +kernel
theorem dX9_warm_8 : decode mX9_warm.2.1 8 = .ok (.iload_n 3, 1) := by decide +kernel
theorem dX9_warm_9 : decode mX9_warm.2.1 9 = .ok (.invokevirtual 151, 3) := by decide +kernel
theorem dX9_warm_12 : decode mX9_warm.2.1 12 = .ok (.invokevirtual 105, 3) := by decide +kernel
theorem dX9_warm_15 : decode mX9_warm.2.1 15 = .ok (.ireturn, 1) := by decide +kernel
theorem dX9_isWarming_0 : decode mX9_isWarming.2.1 0 = .ok (.iload_n 1, 1) := by decide +kernel
theorem dX9_isWarming_1 : decode mX9_isWarming.2.1 1 = .ok (.iconst 0, 1) := by decide +kernel
theorem dX9_isWarming_2 : decode mX9_isWarming.2.1 2 = .ok (.aload_n 0, 1) := by decide +kernel
theorem dX9_isWarming_3 : decode mX9_isWarming.2.1 3 = .ok (.getfield 9, 3) := by decide +kernel
theorem dX9_isWarming_6 : decode mX9_isWarming.2.1 6 = .ok (.iconst 1, 1) := by decide +kernel
theorem dX9_isWarming_7 : decode mX9_isWarming.2.1 7 = .ok (.iaload, 1) := by decide +kernel
theorem dX9_isWarming_8 : decode mX9_isWarming.2.1 8 = .ok (.iconst 1, 1) := by decide +kernel
theorem dX9_isWarming_9 : decode mX9_isWarming.2.1 9 = .ok (.isub, 1) := by decide +kernel
theorem dX9_isWarming_10 : decode mX9_isWarming.2.1 10 = .ok (.invokestatic 51, 3) := by decide +kernel
theorem dX9_isWarming_13 : decode mX9_isWarming.2.1 13 = .ok (.ireturn, 1) := by decide +kernel
theorem dX9_doCancel_0 : decode mX9_doCancel.2.1 0 = .ok (.aload_n 0, 1) := by decide +kernel
theorem dX9_doCancel_1 : decode mX9_doCancel.2.1 1 = .ok (.iload_n 1, 1) := by decide +kernel
theorem dX9_doCancel_2 : decode mX9_doCancel.2.1 2 = .ok (.invokevirtual 154, 3) := by decide +kernel
theorem dX9_doCancel_5 : decode mX9_doCancel.2.1 5 = .ok (.ifCond .ne 9, 3) := by decide +kernel
theorem dX9_doCancel_8 : decode mX9_doCancel.2.1 8 = .ok (.aload_n 0, 1) := by decide +kernel
theorem dX9_doCancel_9 : decode mX9_doCancel.2.1 9 = .ok (.iconst 1, 1) := by decide +kernel
theorem dX9_doCancel_10 : decode mX9_doCancel.2.1 10 = .ok (.invokevirtual 92, 3) := by decide +kernel
theorem dX9_doCancel_13 : decode mX9_doCancel.2.1 13 = .ok (.ireturn, 1) := by decide +kernel
theorem dX9_doCancel_14 : decode mX9_doCancel.2.1 14 = .ok (.aload_n 0, 1) := by decide +kernel
theorem dX9_doCancel_15 : decode mX9_doCancel.2.1 15 = .ok (.getfield 9, 3) := by decide +kernel
theorem dX9_doCancel_18 : decode mX9_doCancel.2.1 18 = .ok (.iconst 1, 1) := by decide +kernel
theorem dX9_doCancel_19 : decode mX9_doCancel.2.1 19 = .ok (.dup2, 1) := by decide +kernel
theorem dX9_doCancel_20 : decode mX9_doCancel.2.1 20 = .ok (.iaload, 1) := by decide +kernel
theorem dX9_doCancel_21 : decode mX9_doCancel.2.1 21 = .ok (.iconst 1, 1) := by decide +kernel
theorem dX9_doCancel_22 : decode mX9_doCancel.2.1 22 = .ok (.isub, 1) := by decide +kernel
theorem dX9_doCancel_23 : decode mX9_doCancel.2.1 23 = .ok (.iastore, 1) := by decide +kernel
theorem dX9_doCancel_24 : decode mX9_doCancel.2.1 24 = .ok (.sipush 834, 3) := by decide +kernel
theorem dX9_doCancel_27 : decode mX9_doCancel.2.1 27 = .ok (.iconst 3, 1) := by decide +kernel
theorem dX9_doCancel_28 : decode mX9_doCancel.2.1 28 = .ok (.iload_n 1, 1) := by decide +kernel
theorem dX9_doCancel_29 : decode mX9_doCancel.2.1 29 = .ok (.imul, 1) := by decide +kernel
theorem dX9_doCancel_30 : decode mX9_doCancel.2.1 30 = .ok (.iadd, 1) := by decide +kernel
theorem dX9_doCancel_31 : decode mX9_doCancel.2.1 31 = .ok (.istore_n 2, 1) := by decide +kernel
theorem dX9_doCancel_32 : decode mX9_doCancel.2.1 32 = .ok (.aload_n 0, 1) := by decide +kernel
theorem dX9_doCancel_33 : decode mX9_doCancel.2.1 33 = .ok (.getfield 9, 3) := by decide +kernel
theorem dX9_doCancel_36 : decode mX9_doCancel.2.1 36 = .ok (.iload_n 2, 1) := by decide +kernel
theorem dX9_doCancel_37 : decode mX9_doCancel.2.1 37 = .ok (.iconst 3, 1) := by decide +kernel
theorem dX9_doCancel_38 : decode mX9_doCancel.2.1 38 = .ok (.iadd, 1) := by decide +kernel
theorem dX9_doCancel_39 : decode mX9_doCancel.2.1 39 = .ok (.aload_n 0, 1) := by decide +kernel
theorem dX9_doCancel_40 : decode mX9_doCancel.2.1 40 = .ok (.getfield 9, 3) := by decide +kernel
theorem dX9_doCancel_43 : decode mX9_doCancel.2.1 43 = .ok (.iload_n 2, 1) := by decide +kernel
theorem dX9_doCancel_44 : decode mX9_doCancel.2.1 44 = .ok (.iconst 3, 1) := by decide +kernel
theorem dX9_doCancel_45 : decode mX9_doCancel.2.1 45 = .ok (.aload_n 0, 1) := by decide +kernel
theorem dX9_doCancel_46 : decode mX9_doCancel.2.1 46 = .ok (.getfield 9, 3) := by decide +kernel
theorem dX9_doCancel_49 : decode mX9_doCancel.2.1 49 = .ok (.iconst 1, 1) := by decide +kernel
theorem dX9_doCancel_50 : decode mX9_doCancel.2.1 50 = .ok (.iaload, 1) := by decide +kernel
theorem dX9_doCancel_51 : decode mX9_doCancel.2.1 51 = .ok (.iload_n 1, 1) := by decide +kernel
theorem dX9_doCancel_52 : decode mX9_doCancel.2.1 52 = .ok (.isub, 1) := by decide +kernel
theorem dX9_doCancel_53 : decode mX9_doCancel.2.1 53 = .ok (.imul, 1) := by decide +kernel
theorem dX9_doCancel_54 : decode mX9_doCancel.2.1 54 = .ok (.invokestatic 42, 3) := by decide +kernel
theorem dX9_doCancel_57 : decode mX9_doCancel.2.1 57 = .ok (.aload_n 0, 1) := by decide +kernel
theorem dX9_doCancel_58 : decode mX9_doCancel.2.1 58 = .ok (.getfield 9, 3) := by decide +kernel
theorem dX9_doCancel_61 : decode mX9_doCancel.2.1 61 = .ok (.iconst 1, 1) := by decide +kernel
theorem dX9_doCancel_62 : decode mX9_doCancel.2.1 62 = .ok (.iaload, 1) := by decide +kernel
theorem dX9_doCancel_63 : decode mX9_doCancel.2.1 63 = .ok (.ireturn, 1) := by decide +kernel
theorem dX9_cancelWarming_0 : decode mX9_cancelWarming.2.1 0 = .ok (.aload_n 0, 1) := by decide +kernel
theorem dX9_cancelWarming_1 : decode mX9_cancelWarming.2.1 1 = .ok (.invokevirtual 99, 3) := by decide +kernel
theorem dX9_cancelWarming_4 : decode mX9_cancelWarming.2.1 4 = .ok (.aload_n 0, 1) := by decide +kernel
theorem dX9_cancelWarming_5 : decode mX9_cancelWarming.2.1 5 = .ok (.aload_n 0, 1) := by decide +kernel
theorem dX9_cancelWarming_6 : decode mX9_cancelWarming.2.1 6 = .ok (.iload_n 1, 1) := by decide +kernel
theorem dX9_cancelWarming_7 : decode mX9_cancelWarming.2.1 7 = .ok (.invokevirtual 157, 3) := by decide +kernel
theorem dX9_cancelWarming_10 : decode mX9_cancelWarming.2.1 10 = .ok (.invokevirtual 105, 3) := by decide +kernel
theorem dX9_cancelWarming_13 : decode mX9_cancelWarming.2.1 13 = .ok (.ireturn, 1) := by decide +kernel
theorem dX9_doPass_0 : decode mX9_doPass.2.1 0 = .ok (.iload_n 1, 1) := by decide +kernel
theorem dX9_doPass_1 : decode mX9_doPass.2.1 1 = .ok (.iconst 1, 1) := by decide +kernel
theorem dX9_doPass_2 : decode mX9_doPass.2.1 2 = .ok (.bipush 60, 2) := by decide +kernel
theorem dX9_doPass_4 : decode mX9_doPass.2.1 4 = .ok (.invokestatic 51, 3) := by decide +kernel
theorem dX9_doPass_7 : decode mX9_doPass.2.1 7 = .ok (.ifCond .ne 9, 3) := by decide +kernel
theorem dX9_doPass_10 : decode mX9_doPass.2.1 10 = .ok (.aload_n 0, 1) := by decide +kernel
theorem dX9_doPass_11 : decode mX9_doPass.2.1 11 = .ok (.iconst 1, 1) := by decide +kernel
theorem dX9_doPass_12 : decode mX9_doPass.2.1 12 = .ok (.invokevirtual 92, 3) := by decide +kernel
theorem dX9_doPass_15 : decode mX9_doPass.2.1 15 = .ok (.ireturn, 1) := by decide +kernel
theorem dX9_doPass_16 : decode mX9_doPass.2.1 16 = .ok (.iconst 0, 1) := by decide +kernel
theorem dX9_doPass_17 : decode mX9_doPass.2.1 17 = .ok (.istore_n 2, 1) := by decide +kernel
theorem dX9_doPass_18 : decode mX9_doPass.2.1 18 = .ok (.iconst 0, 1) := by decide +kernel
theorem dX9_doPass_19 : decode mX9_doPass.2.1 19 = .ok (.istore_n 3, 1) := by decide +kernel
theorem dX9_doPass_20 : decode mX9_doPass.2.1 20 = .ok (.iload_n 3, 1) := by decide +kernel
theorem dX9_doPass_21 : decode mX9_doPass.2.1 21 = .ok (.iload_n 1, 1) := by decide +kernel
theorem dX9_doPass_22 : decode mX9_doPass.2.1 22 = .ok (.if_icmp .ge 95, 3) := by decide +kernel
theorem dX9_doPass_25 : decode mX9_doPass.2.1 25 = .ok (.aload_n 0, 1) := by decide +kernel
theorem dX9_doPass_26 : decode mX9_doPass.2.1 26 = .ok (.getfield 9, 3) := by decide +kernel
theorem dX9_doPass_29 : decode mX9_doPass.2.1 29 = .ok (.iconst 2, 1) := by decide +kernel
theorem dX9_doPass_30 : decode mX9_doPass.2.1 30 = .ok (.dup2, 1) := by decide +kernel
theorem dX9_doPass_31 : decode mX9_doPass.2.1 31 = .ok (.iaload, 1) := by decide +kernel
theorem dX9_doPass_32 : decode mX9_doPass.2.1 32 = .ok (.iconst 1, 1) := by decide +kernel
theorem dX9_doPass_33 : decode mX9_doPass.2.1 33 = .ok (.iadd, 1) := by decide +kernel
theorem dX9_doPass_34 : decode mX9_doPass.2.1 34 = .ok (.iastore, 1) := by decide +kernel
theorem dX9_doPass_35 : decode mX9_doPass.2.1 35 = .ok (.aload_n 0, 1) := by decide +kernel
theorem dX9_doPass_36 : decode mX9_doPass.2.1 36 = .ok (.getfield 9, 3) := by decide +kernel
theorem dX9_doPass_39 : decode mX9_doPass.2.1 39 = .ok (.iconst 1, 1) := by decide +kernel
theorem dX9_doPass_40 : decode mX9_doPass.2.1 40 = .ok (.iaload, 1) := by decide +kernel
theorem dX9_doPass_41 : decode mX9_doPass.2.1 41 = .ok (.ifCond .le 70, 3) := by decide +kernel
theorem dX9_doPass_44 : decode mX9_doPass.2.1 44 = .ok (.aload_n 0, 1) := by decide +kernel
theorem dX9_doPass_45 : decode mX9_doPass.2.1 45 = .ok (.getfield 9, 3) := by decide +kernel
theorem dX9_doPass_48 : decode mX9_doPass.2.1 48 = .ok (.sipush 834, 3) := by decide +kernel
theorem dX9_doPass_51 : decode mX9_doPass.2.1 51 = .ok (.iaload, 1) := by decide +kernel
theorem dX9_doPass_52 : decode mX9_doPass.2.1 52 = .ok (.aload_n 0, 1) := by decide +kernel
theorem dX9_doPass_53 : decode mX9_doPass.2.1 53 = .ok (.getfield 9, 3) := by decide +kernel
theorem dX9_doPass_56 : decode mX9_doPass.2.1 56 = .ok (.iconst 2, 1) := by decide +kernel
theorem dX9_doPass_57 : decode mX9_doPass.2.1 57 = .ok (.iaload, 1) := by decide +kernel
theorem dX9_doPass_58 : decode mX9_doPass.2.1 58 = .ok (.if_icmp .ne 53, 3) := by decide +kernel
theorem dX9_doPass_61 : decode mX9_doPass.2.1 61 = .ok (.aload_n 0, 1) := by decide +kernel
theorem dX9_doPass_62 : decode mX9_doPass.2.1 62 = .ok (.getfield 9, 3) := by decide +kernel
theorem dX9_doPass_65 : decode mX9_doPass.2.1 65 = .ok (.sipush 835, 3) := by decide +kernel
theorem dX9_doPass_68 : decode mX9_doPass.2.1 68 = .ok (.iaload, 1) := by decide +kernel
theorem dX9_doPass_69 : decode mX9_doPass.2.1 69 = .ok (.istore 4, 2) := by decide +kernel
theorem dX9_doPass_71 : decode mX9_doPass.2.1 71 = .ok (.aload_n 0, 1) := by decide +kernel
theorem dX9_doPass_72 : decode mX9_doPass.2.1 72 = .ok (.getfield 9, 3) := by decide +kernel
theorem dX9_doPass_75 : decode mX9_doPass.2.1 75 = .ok (.sipush 836, 3) := by decide +kernel
theorem dX9_doPass_78 : decode mX9_doPass.2.1 78 = .ok (.iaload, 1) := by decide +kernel
theorem dX9_doPass_79 : decode mX9_doPass.2.1 79 = .ok (.istore 5, 2) := by decide +kernel
theorem dX9_doPass_81 : decode mX9_doPass.2.1 81 = .ok (.aload_n 0, 1) := by decide +kernel
theorem dX9_doPass_82 : decode mX9_doPass.2.1 82 = .ok (.iconst 0, 1) := by decide +kernel
theorem dX9_doPass_83 : decode mX9_doPass.2.1 83 = .ok (.invokevirtual 157, 3) := by decide +kernel
theorem dX9_doPass_86 : decode mX9_doPass.2.1 86 = .ok (.istore 6, 2) := by decide +kernel
theorem dX9_doPass_88 : decode mX9_doPass.2.1 88 = .ok (.aload_n 0, 1) := by decide +kernel
theorem dX9_doPass_89 : decode mX9_doPass.2.1 89 = .ok (.iload 5, 2) := by decide +kernel
theorem dX9_doPass_91 : decode mX9_doPass.2.1 91 = .ok (.invokevirtual 63, 3) := by decide +kernel
theorem dX9_doPass_94 : decode mX9_doPass.2.1 94 = .ok (.ifCond .eq 14, 3) := by decide +kernel
theorem dX9_doPass_97 : decode mX9_doPass.2.1 97 = .ok (.aload_n 0, 1) := by decide +kernel
theorem dX9_doPass_98 : decode mX9_doPass.2.1 98 = .ok (.iload 4, 2) := by decide +kernel
theorem dX9_doPass_100 : decode mX9_doPass.2.1 100 = .ok (.iload 5, 2) := by decide +kernel
theorem dX9_doPass_102 : decode mX9_doPass.2.1 102 = .ok (.invokevirtual 144, 3) := by decide +kernel
theorem dX9_doPass_105 : decode mX9_doPass.2.1 105 = .ok (.iinc 2 1, 3) := by decide +kernel
theorem dX9_doPass_108 : decode mX9_doPass.2.1 108 = .ok (.goto (-73), 3) := by decide +kernel
theorem dX9_doPass_111 : decode mX9_doPass.2.1 111 = .ok (.iinc 3 1, 3) := by decide +kernel
theorem dX9_doPass_114 : decode mX9_doPass.2.1 114 = .ok (.goto (-94), 3) := by decide +kernel
theorem dX9_doPass_117 : decode mX9_doPass.2.1 117 = .ok (.iload_n 2, 1) := by decide +kernel
theorem dX9_doPass_118 : decode mX9_doPass.2.1 118 = .ok (.ireturn, 1) := by decide +kernel
theorem dX9_pass_0 : decode mX9_pass.2.1 0 = .ok (.aload_n 0, 1) := by decide +kernel
theorem dX9_pass_1 : decode mX9_pass.2.1 1 = .ok (.invokevirtual 99, 3) := by decide +kernel
theorem dX9_pass_4 : decode mX9_pass.2.1 4 = .ok (.aload_n 0, 1) := by decide +kernel
theorem dX9_pass_5 : decode mX9_pass.2.1 5 = .ok (.aload_n 0, 1) := by decide +kernel
theorem dX9_pass_6 : decode mX9_pass.2.1 6 = .ok (.iload_n 1, 1) := by decide +kernel
theorem dX9_pass_7 : decode mX9_pass.2.1 7 = .ok (.invokevirtual 160, 3) := by decide +kernel
theorem dX9_pass_10 : decode mX9_pass.2.1 10 = .ok (.invokevirtual 105, 3) := by decide +kernel
theorem dX9_pass_13 : decode mX9_pass.2.1 13 = .ok (.ireturn, 1) := by decide +kernel
theorem dX9_time_0 : decode mX9_time.2.1 0 = .ok (.aload_n 0, 1) := by decide +kernel
theorem dX9_time_1 : decode mX9_time.2.1 1 = .ok (.iconst 0, 1) := by decide +kernel
theorem dX9_time_2 : decode mX9_time.2.1 2 = .ok (.putfield 39, 3) := by decide +kernel
theorem dX9_time_5 : decode mX9_time.2.1 5 = .ok (.aload_n 0, 1) := by decide +kernel
theorem dX9_time_6 : decode mX9_time.2.1 6 = .ok (.getfield 9, 3) := by decide +kernel
theorem dX9_time_9 : decode mX9_time.2.1 9 = .ok (.iconst 2, 1) := by decide +kernel
theorem dX9_time_10 : decode mX9_time.2.1 10 = .ok (.iaload, 1) := by decide +kernel
theorem dX9_time_11 : decode mX9_time.2.1 11 = .ok (.ireturn, 1) := by decide +kernel
theorem dX9_warmingCount_0 : decode mX9_warmingCount.2.1 0 = .ok (.aload_n 0, 1) := by decide +kernel
theorem dX9_warmingCount_1 : decode mX9_warmingCount.2.1 1 = .ok (.iconst 0, 1) := by decide +kernel
theorem dX9_warmingCount_2 : decode mX9_warmingCount.2.1 2 = .ok (.putfield 39, 3) := by decide +kernel
theorem dX9_warmingCount_5 : decode mX9_warmingCount.2.1 5 = .ok (.aload_n 0, 1) := by decide +kernel
theorem dX9_warmingCount_6 : decode mX9_warmingCount.2.1 6 = .ok (.getfield 9, 3) := by decide +kernel
theorem dX9_warmingCount_9 : decode mX9_warmingCount.2.1 9 = .ok (.iconst 1, 1) := by decide +kernel
theorem dX9_warmingCount_10 : decode mX9_warmingCount.2.1 10 = .ok (.iaload, 1) := by decide +kernel
theorem dX9_warmingCount_11 : decode mX9_warmingCount.2.1 11 = .ok (.ireturn, 1) := by decide +kernel
theorem dX9_warmingMinute_0 : decode mX9_warmingMinute.2.1 0 = .ok (.aload_n 0, 1) := by decide +kernel
theorem dX9_warmingMinute_1 : decode mX9_warmingMinute.2.1 1 = .ok (.aload_n 0, 1) := by decide +kernel
theorem dX9_warmingMinute_2 : decode mX9_warmingMinute.2.1 2 = .ok (.iload_n 1, 1) := by decide +kernel
theorem dX9_warmingMinute_3 : decode mX9_warmingMinute.2.1 3 = .ok (.invokevirtual 154, 3) := by decide +kernel
theorem dX9_warmingMinute_6 : decode mX9_warmingMinute.2.1 6 = .ok (.invokevirtual 114, 3) := by decide +kernel
theorem dX9_warmingMinute_9 : decode mX9_warmingMinute.2.1 9 = .ok (.ifCond .eq 18, 3) := by decide +kernel
theorem dX9_warmingMinute_12 : decode mX9_warmingMinute.2.1 12 = .ok (.aload_n 0, 1) := by decide +kernel
theorem dX9_warmingMinute_13 : decode mX9_warmingMinute.2.1 13 = .ok (.getfield 9, 3) := by decide +kernel
theorem dX9_warmingMinute_16 : decode mX9_warmingMinute.2.1 16 = .ok (.sipush 834, 3) := by decide +kernel
theorem dX9_warmingMinute_19 : decode mX9_warmingMinute.2.1 19 = .ok (.iconst 3, 1) := by decide +kernel
theorem dX9_warmingMinute_20 : decode mX9_warmingMinute.2.1 20 = .ok (.iload_n 1, 1) := by decide +kernel
theorem dX9_warmingMinute_21 : decode mX9_warmingMinute.2.1 21 = .ok (.imul, 1) := by decide +kernel
theorem dX9_warmingMinute_22 : decode mX9_warmingMinute.2.1 22 = .ok (.iadd, 1) := by decide +kernel
theorem dX9_warmingMinute_23 : decode mX9_warmingMinute.2.1 23 = .ok (.iaload, 1) := by decide +kernel
theorem dX9_warmingMinute_24 : decode mX9_warmingMinute.2.1 24 = .ok (.goto 4, 3) := by decide +kernel
theorem dX9_warmingMinute_27 : decode mX9_warmingMinute.2.1 27 = .ok (.iconst 0, 1) := by decide +kernel
theorem dX9_warmingMinute_28 : decode mX9_warmingMinute.2.1 28 = .ok (.ireturn, 1) := by decide +kernel
theorem dX9_warmingJar_0 : decode mX9_warmingJar.2.1 0 = .ok (.aload_n 0, 1) := by decide +kernel
theorem dX9_warmingJar_1 : decode mX9_warmingJar.2.1 1 = .ok (.aload_n 0, 1) := by decide +kernel
theorem dX9_warmingJar_2 : decode mX9_warmingJar.2.1 2 = .ok (.iload_n 1, 1) := by decide +kernel
theorem dX9_warmingJar_3 : decode mX9_warmingJar.2.1 3 = .ok (.invokevirtual 154, 3) := by decide +kernel
theorem dX9_warmingJar_6 : decode mX9_warmingJar.2.1 6 = .ok (.invokevirtual 114, 3) := by decide +kernel
theorem dX9_warmingJar_9 : decode mX9_warmingJar.2.1 9 = .ok (.ifCond .eq 21, 3) := by decide +kernel
theorem dX9_warmingJar_12 : decode mX9_warmingJar.2.1 12 = .ok (.aload_n 0, 1) := by decide +kernel
theorem dX9_warmingJar_13 : decode mX9_warmingJar.2.1 13 = .ok (.getfield 9, 3) := by decide +kernel
theorem dX9_warmingJar_16 : decode mX9_warmingJar.2.1 16 = .ok (.sipush 834, 3) := by decide +kernel
theorem dX9_warmingJar_19 : decode mX9_warmingJar.2.1 19 = .ok (.iconst 3, 1) := by decide +kernel
theorem dX9_warmingJar_20 : decode mX9_warmingJar.2.1 20 = .ok (.iload_n 1, 1) := by decide +kernel
theorem dX9_warmingJar_21 : decode mX9_warmingJar.2.1 21 = .ok (.imul, 1) := by decide +kernel
theorem dX9_warmingJar_22 : decode mX9_warmingJar.2.1 22 = .ok (.iadd, 1) := by decide +kernel
theorem dX9_warmingJar_23 : decode mX9_warmingJar.2.1 23 = .ok (.iconst 2, 1) := by decide +kernel
theorem dX9_warmingJar_24 : decode mX9_warmingJar.2.1 24 = .ok (.iadd, 1) := by decide +kernel
theorem dX9_warmingJar_25 : decode mX9_warmingJar.2.1 25 = .ok (.iaload, 1) := by decide +kernel
theorem dX9_warmingJar_26 : decode mX9_warmingJar.2.1 26 = .ok (.i2c, 1) := by decide +kernel
theorem dX9_warmingJar_27 : decode mX9_warmingJar.2.1 27 = .ok (.goto 5, 3) := by decide +kernel
theorem dX9_warmingJar_30 : decode mX9_warmingJar.2.1 30 = .ok (.bipush 32, 2) := by decide +kernel
theorem dX9_warmingJar_32 : decode mX9_warmingJar.2.1 32 = .ok (.ireturn, 1) := by decide +kernel
theorem dX9_hits_0 : decode mX9_hits.2.1 0 = .ok (.aload_n 0, 1) := by decide +kernel
theorem dX9_hits_1 : decode mX9_hits.2.1 1 = .ok (.iconst 0, 1) := by decide +kernel
theorem dX9_hits_2 : decode mX9_hits.2.1 2 = .ok (.putfield 39, 3) := by decide +kernel
theorem dX9_hits_5 : decode mX9_hits.2.1 5 = .ok (.aload_n 0, 1) := by decide +kernel
theorem dX9_hits_6 : decode mX9_hits.2.1 6 = .ok (.getfield 9, 3) := by decide +kernel
theorem dX9_hits_9 : decode mX9_hits.2.1 9 = .ok (.iconst 4, 1) := by decide +kernel
theorem dX9_hits_10 : decode mX9_hits.2.1 10 = .ok (.iaload, 1) := by decide +kernel
theorem dX9_hits_11 : decode mX9_hits.2.1 11 = .ok (.ireturn, 1) := by decide +kernel
theorem dX9_misses_0 : decode mX9_misses.2.1 0 = .ok (.iload_n 1, 1) := by decide +kernel
theorem dX9_misses_1 : decode mX9_misses.2.1 1 = .ok (.bipush 99, 2) := by decide +kernel
theorem dX9_misses_3 : decode mX9_misses.2.1 3 = .ok (.if_icmp .ne 7, 3) := by decide +kernel
theorem dX9_misses_6 : decode mX9_misses.2.1 6 = .ok (.iconst 5, 1) := by decide +kernel
theorem dX9_misses_7 : decode mX9_misses.2.1 7 = .ok (.goto 26, 3) := by decide +kernel
theorem dX9_misses_10 : decode mX9_misses.2.1 10 = .ok (.iload_n 1, 1) := by decide +kernel
theorem dX9_misses_11 : decode mX9_misses.2.1 11 = .ok (.bipush 101, 2) := by decide +kernel
theorem dX9_misses_13 : decode mX9_misses.2.1 13 = .ok (.if_icmp .ne 8, 3) := by decide +kernel
theorem dX9_misses_16 : decode mX9_misses.2.1 16 = .ok (.bipush 6, 2) := by decide +kernel
theorem dX9_misses_18 : decode mX9_misses.2.1 18 = .ok (.goto 15, 3) := by decide +kernel
theorem dX9_misses_21 : decode mX9_misses.2.1 21 = .ok (.iload_n 1, 1) := by decide +kernel
theorem dX9_misses_22 : decode mX9_misses.2.1 22 = .ok (.bipush 111, 2) := by decide +kernel
theorem dX9_misses_24 : decode mX9_misses.2.1 24 = .ok (.if_icmp .ne 8, 3) := by decide +kernel
theorem dX9_misses_27 : decode mX9_misses.2.1 27 = .ok (.bipush 7, 2) := by decide +kernel
theorem dX9_misses_29 : decode mX9_misses.2.1 29 = .ok (.goto 4, 3) := by decide +kernel
theorem dX9_misses_32 : decode mX9_misses.2.1 32 = .ok (.iconst (-1), 1) := by decide +kernel
theorem dX9_misses_33 : decode mX9_misses.2.1 33 = .ok (.istore_n 2, 1) := by decide +kernel
theorem dX9_misses_34 : decode mX9_misses.2.1 34 = .ok (.aload_n 0, 1) := by decide +kernel
theorem dX9_misses_35 : decode mX9_misses.2.1 35 = .ok (.iload_n 2, 1) := by decide +kernel
theorem dX9_misses_36 : decode mX9_misses.2.1 36 = .ok (.ifCond .lt 7, 3) := by decide +kernel
theorem dX9_misses_39 : decode mX9_misses.2.1 39 = .ok (.iconst 1, 1) := by decide +kernel
theorem dX9_misses_40 : decode mX9_misses.2.1 40 = .ok (.goto 4, 3) := by decide +kernel
theorem dX9_misses_43 : decode mX9_misses.2.1 43 = .ok (.iconst 0, 1) := by decide +kernel
theorem dX9_misses_44 : decode mX9_misses.2.1 44 = .ok (.invokevirtual 114, 3) := by decide +kernel
theorem dX9_misses_47 : decode mX9_misses.2.1 47 = .ok (.ifCond .eq 12, 3) := by decide +kernel
theorem dX9_misses_50 : decode mX9_misses.2.1 50 = .ok (.aload_n 0, 1) := by decide +kernel
theorem dX9_misses_51 : decode mX9_misses.2.1 51 = .ok (.getfield 9, 3) := by decide +kernel
theorem dX9_misses_54 : decode mX9_misses.2.1 54 = .ok (.iload_n 2, 1) := by decide +kernel
theorem dX9_misses_55 : decode mX9_misses.2.1 55 = .ok (.iaload, 1) := by decide +kernel
theorem dX9_misses_56 : decode mX9_misses.2.1 56 = .ok (.goto 4, 3) := by decide +kernel
theorem dX9_misses_59 : decode mX9_misses.2.1 59 = .ok (.iconst 0, 1) := by decide +kernel
theorem dX9_misses_60 : decode mX9_misses.2.1 60 = .ok (.ireturn, 1) := by decide +kernel
theorem dX9_hitShare_0 : decode mX9_hitShare.2.1 0 = .ok (.aload_n 0, 1) := by decide +kernel
theorem dX9_hitShare_1 : decode mX9_hitShare.2.1 1 = .ok (.getfield 9, 3) := by decide +kernel
theorem dX9_hitShare_4 : decode mX9_hitShare.2.1 4 = .ok (.iconst 4, 1) := by decide +kernel
theorem dX9_hitShare_5 : decode mX9_hitShare.2.1 5 = .ok (.iaload, 1) := by decide +kernel
theorem dX9_hitShare_6 : decode mX9_hitShare.2.1 6 = .ok (.aload_n 0, 1) := by decide +kernel
theorem dX9_hitShare_7 : decode mX9_hitShare.2.1 7 = .ok (.getfield 9, 3) := by decide +kernel
theorem dX9_hitShare_10 : decode mX9_hitShare.2.1 10 = .ok (.iconst 5, 1) := by decide +kernel
theorem dX9_hitShare_11 : decode mX9_hitShare.2.1 11 = .ok (.iaload, 1) := by decide +kernel
theorem dX9_hitShare_12 : decode mX9_hitShare.2.1 12 = .ok (.iadd, 1) := by decide +kernel
theorem dX9_hitShare_13 : decode mX9_hitShare.2.1 13 = .ok (.aload_n 0, 1) := by decide +kernel
theorem dX9_hitShare_14 : decode mX9_hitShare.2.1 14 = .ok (.getfield 9, 3) := by decide +kernel
theorem dX9_hitShare_17 : decode mX9_hitShare.2.1 17 = .ok (.bipush 6, 2) := by decide +kernel
theorem dX9_hitShare_19 : decode mX9_hitShare.2.1 19 = .ok (.iaload, 1) := by decide +kernel
theorem dX9_hitShare_20 : decode mX9_hitShare.2.1 20 = .ok (.iadd, 1) := by decide +kernel
theorem dX9_hitShare_21 : decode mX9_hitShare.2.1 21 = .ok (.aload_n 0, 1) := by decide +kernel
theorem dX9_hitShare_22 : decode mX9_hitShare.2.1 22 = .ok (.getfield 9, 3) := by decide +kernel
theorem dX9_hitShare_25 : decode mX9_hitShare.2.1 25 = .ok (.bipush 7, 2) := by decide +kernel
theorem dX9_hitShare_27 : decode mX9_hitShare.2.1 27 = .ok (.iaload, 1) := by decide +kernel
theorem dX9_hitShare_28 : decode mX9_hitShare.2.1 28 = .ok (.iadd, 1) := by decide +kernel
theorem dX9_hitShare_29 : decode mX9_hitShare.2.1 29 = .ok (.istore_n 1, 1) := by decide +kernel
theorem dX9_hitShare_30 : decode mX9_hitShare.2.1 30 = .ok (.aload_n 0, 1) := by decide +kernel
theorem dX9_hitShare_31 : decode mX9_hitShare.2.1 31 = .ok (.iload_n 1, 1) := by decide +kernel
theorem dX9_hitShare_32 : decode mX9_hitShare.2.1 32 = .ok (.ifCond .le 7, 3) := by decide +kernel
theorem dX9_hitShare_35 : decode mX9_hitShare.2.1 35 = .ok (.iconst 1, 1) := by decide +kernel
theorem dX9_hitShare_36 : decode mX9_hitShare.2.1 36 = .ok (.goto 4, 3) := by decide +kernel
theorem dX9_hitShare_39 : decode mX9_hitShare.2.1 39 = .ok (.iconst 0, 1) := by decide +kernel
theorem dX9_hitShare_40 : decode mX9_hitShare.2.1 40 = .ok (.invokevirtual 114, 3) := by decide +kernel
theorem dX9_hitShare_43 : decode mX9_hitShare.2.1 43 = .ok (.ifCond .eq 16, 3) := by decide +kernel
theorem dX9_hitShare_46 : decode mX9_hitShare.2.1 46 = .ok (.aload_n 0, 1) := by decide +kernel
theorem dX9_hitShare_47 : decode mX9_hitShare.2.1 47 = .ok (.getfield 9, 3) := by decide +kernel
theorem dX9_hitShare_50 : decode mX9_hitShare.2.1 50 = .ok (.iconst 4, 1) := by decide +kernel
theorem dX9_hitShare_51 : decode mX9_hitShare.2.1 51 = .ok (.iaload, 1) := by decide +kernel
theorem dX9_hitShare_52 : decode mX9_hitShare.2.1 52 = .ok (.i2f, 1) := by decide +kernel
theorem dX9_hitShare_53 : decode mX9_hitShare.2.1 53 = .ok (.iload_n 1, 1) := by decide +kernel
theorem dX9_hitShare_54 : decode mX9_hitShare.2.1 54 = .ok (.i2f, 1) := by decide +kernel
theorem dX9_hitShare_55 : decode mX9_hitShare.2.1 55 = .ok (.fdiv, 1) := by decide +kernel
theorem dX9_hitShare_56 : decode mX9_hitShare.2.1 56 = .ok (.goto 4, 3) := by decide +kernel
theorem dX9_hitShare_59 : decode mX9_hitShare.2.1 59 = .ok (.fconst 0, 1) := by decide +kernel
theorem dX9_hitShare_60 : decode mX9_hitShare.2.1 60 = .ok (.freturn, 1) := by decide +kernel
theorem dX9_meanAge_0 : decode mX9_meanAge.2.1 0 = .ok (.iconst 0, 1) := by decide +kernel
theorem dX9_meanAge_1 : decode mX9_meanAge.2.1 1 = .ok (.istore_n 1, 1) := by decide +kernel
theorem dX9_meanAge_2 : decode mX9_meanAge.2.1 2 = .ok (.iconst 0, 1) := by decide +kernel
theorem dX9_meanAge_3 : decode mX9_meanAge.2.1 3 = .ok (.istore_n 2, 1) := by decide +kernel
theorem dX9_meanAge_4 : decode mX9_meanAge.2.1 4 = .ok (.iconst 0, 1) := by decide +kernel
theorem dX9_meanAge_5 : decode mX9_meanAge.2.1 5 = .ok (.istore_n 3, 1) := by decide +kernel
theorem dX9_meanAge_6 : decode mX9_meanAge.2.1 6 = .ok (.iload_n 3, 1) := by decide +kernel
theorem dX9_meanAge_7 : decode mX9_meanAge.2.1 7 = .ok (.aload_n 0, 1) := by decide +kernel
theorem dX9_meanAge_8 : decode mX9_meanAge.2.1 8 = .ok (.getfield 9, 3) := by decide +kernel
theorem dX9_meanAge_11 : decode mX9_meanAge.2.1 11 = .ok (.iconst 0, 1) := by decide +kernel
theorem dX9_meanAge_12 : decode mX9_meanAge.2.1 12 = .ok (.iaload, 1) := by decide +kernel
theorem dX9_meanAge_13 : decode mX9_meanAge.2.1 13 = .ok (.if_icmp .ge 68, 3) := by decide +kernel
theorem dX9_meanAge_16 : decode mX9_meanAge.2.1 16 = .ok (.bipush 97, 2) := by decide +kernel
theorem dX9_meanAge_18 : decode mX9_meanAge.2.1 18 = .ok (.istore 4, 2) := by decide +kernel
theorem dX9_meanAge_20 : decode mX9_meanAge.2.1 20 = .ok (.iload 4, 2) := by decide +kernel
theorem dX9_meanAge_22 : decode mX9_meanAge.2.1 22 = .ok (.bipush 122, 2) := by decide +kernel
theorem dX9_meanAge_24 : decode mX9_meanAge.2.1 24 = .ok (.if_icmp .gt 51, 3) := by decide +kernel
theorem dX9_meanAge_27 : decode mX9_meanAge.2.1 27 = .ok (.iload_n 1, 1) := by decide +kernel
theorem dX9_meanAge_28 : decode mX9_meanAge.2.1 28 = .ok (.aload_n 0, 1) := by decide +kernel
theorem dX9_meanAge_29 : decode mX9_meanAge.2.1 29 = .ok (.iload_n 3, 1) := by decide +kernel
theorem dX9_meanAge_30 : decode mX9_meanAge.2.1 30 = .ok (.iload 4, 2) := by decide +kernel
theorem dX9_meanAge_32 : decode mX9_meanAge.2.1 32 = .ok (.invokevirtual 70, 3) := by decide +kernel
theorem dX9_meanAge_35 : decode mX9_meanAge.2.1 35 = .ok (.ifCond .eq 7, 3) := by decide +kernel
theorem dX9_meanAge_38 : decode mX9_meanAge.2.1 38 = .ok (.iconst 1, 1) := by decide +kernel
theorem dX9_meanAge_39 : decode mX9_meanAge.2.1 39 = .ok (.goto 4, 3) := by decide +kernel
theorem dX9_meanAge_42 : decode mX9_meanAge.2.1 42 = .ok (.iconst 0, 1) := by decide +kernel
theorem dX9_meanAge_43 : decode mX9_meanAge.2.1 43 = .ok (.iadd, 1) := by decide +kernel
theorem dX9_meanAge_44 : decode mX9_meanAge.2.1 44 = .ok (.istore_n 1, 1) := by decide +kernel
theorem dX9_meanAge_45 : decode mX9_meanAge.2.1 45 = .ok (.iload_n 2, 1) := by decide +kernel
theorem dX9_meanAge_46 : decode mX9_meanAge.2.1 46 = .ok (.aload_n 0, 1) := by decide +kernel
theorem dX9_meanAge_47 : decode mX9_meanAge.2.1 47 = .ok (.iload_n 3, 1) := by decide +kernel
theorem dX9_meanAge_48 : decode mX9_meanAge.2.1 48 = .ok (.iload 4, 2) := by decide +kernel
theorem dX9_meanAge_50 : decode mX9_meanAge.2.1 50 = .ok (.invokevirtual 70, 3) := by decide +kernel
theorem dX9_meanAge_53 : decode mX9_meanAge.2.1 53 = .ok (.ifCond .eq 13, 3) := by decide +kernel
theorem dX9_meanAge_56 : decode mX9_meanAge.2.1 56 = .ok (.aload_n 0, 1) := by decide +kernel
theorem dX9_meanAge_57 : decode mX9_meanAge.2.1 57 = .ok (.iload_n 3, 1) := by decide +kernel
theorem dX9_meanAge_58 : decode mX9_meanAge.2.1 58 = .ok (.iload 4, 2) := by decide +kernel
theorem dX9_meanAge_60 : decode mX9_meanAge.2.1 60 = .ok (.invokevirtual 74, 3) := by decide +kernel
theorem dX9_meanAge_63 : decode mX9_meanAge.2.1 63 = .ok (.goto 4, 3) := by decide +kernel
theorem dX9_meanAge_66 : decode mX9_meanAge.2.1 66 = .ok (.iconst 0, 1) := by decide +kernel
theorem dX9_meanAge_67 : decode mX9_meanAge.2.1 67 = .ok (.iadd, 1) := by decide +kernel
theorem dX9_meanAge_68 : decode mX9_meanAge.2.1 68 = .ok (.istore_n 2, 1) := by decide +kernel
theorem dX9_meanAge_69 : decode mX9_meanAge.2.1 69 = .ok (.iinc 4 1, 3) := by decide +kernel
theorem dX9_meanAge_72 : decode mX9_meanAge.2.1 72 = .ok (.goto (-52), 3) := by decide +kernel
theorem dX9_meanAge_75 : decode mX9_meanAge.2.1 75 = .ok (.iinc 3 1, 3) := by decide +kernel
theorem dX9_meanAge_78 : decode mX9_meanAge.2.1 78 = .ok (.goto (-72), 3) := by decide +kernel
theorem dX9_meanAge_81 : decode mX9_meanAge.2.1 81 = .ok (.aload_n 0, 1) := by decide +kernel
theorem dX9_meanAge_82 : decode mX9_meanAge.2.1 82 = .ok (.iload_n 1, 1) := by decide +kernel
theorem dX9_meanAge_83 : decode mX9_meanAge.2.1 83 = .ok (.ifCond .le 7, 3) := by decide +kernel
theorem dX9_meanAge_86 : decode mX9_meanAge.2.1 86 = .ok (.iconst 1, 1) := by decide +kernel
theorem dX9_meanAge_87 : decode mX9_meanAge.2.1 87 = .ok (.goto 4, 3) := by decide +kernel
theorem dX9_meanAge_90 : decode mX9_meanAge.2.1 90 = .ok (.iconst 0, 1) := by decide +kernel
theorem dX9_meanAge_91 : decode mX9_meanAge.2.1 91 = .ok (.invokevirtual 114, 3) := by decide +kernel
theorem dX9_meanAge_94 : decode mX9_meanAge.2.1 94 = .ok (.ifCond .eq 11, 3) := by decide +kernel
theorem dX9_meanAge_97 : decode mX9_meanAge.2.1 97 = .ok (.iload_n 2, 1) := by decide +kernel
theorem dX9_meanAge_98 : decode mX9_meanAge.2.1 98 = .ok (.i2d, 1) := by decide +kernel
theorem dX9_meanAge_99 : decode mX9_meanAge.2.1 99 = .ok (.iload_n 1, 1) := by decide +kernel
theorem dX9_meanAge_100 : decode mX9_meanAge.2.1 100 = .ok (.i2d, 1) := by decide +kernel
theorem dX9_meanAge_101 : decode mX9_meanAge.2.1 101 = .ok (.ddiv, 1) := by decide +kernel
theorem dX9_meanAge_102 : decode mX9_meanAge.2.1 102 = .ok (.goto 4, 3) := by decide +kernel
theorem dX9_meanAge_105 : decode mX9_meanAge.2.1 105 = .ok (.dconst 0, 1) := by decide +kernel
theorem dX9_meanAge_106 : decode mX9_meanAge.2.1 106 = .ok (.dreturn, 1) := by decide +kernel
theorem dX9_shelfByHits_0 : decode mX9_shelfByHits.2.1 0 = .ok (.iconst 0, 1) := by decide +kernel
theorem dX9_shelfByHits_1 : decode mX9_shelfByHits.2.1 1 = .ok (.istore_n 2, 1) := by decide +kernel
theorem dX9_shelfByHits_2 : decode mX9_shelfByHits.2.1 2 = .ok (.aload_n 0, 1) := by decide +kernel
theorem dX9_shelfByHits_3 : decode mX9_shelfByHits.2.1 3 = .ok (.aload_n 0, 1) := by decide +kernel
theorem dX9_shelfByHits_4 : decode mX9_shelfByHits.2.1 4 = .ok (.iload_n 1, 1) := by decide +kernel
theorem dX9_shelfByHits_5 : decode mX9_shelfByHits.2.1 5 = .ok (.invokevirtual 122, 3) := by decide +kernel
theorem dX9_shelfByHits_8 : decode mX9_shelfByHits.2.1 8 = .ok (.invokevirtual 114, 3) := by decide +kernel
theorem dX9_shelfByHits_11 : decode mX9_shelfByHits.2.1 11 = .ok (.istore_n 3, 1) := by decide +kernel
theorem dX9_shelfByHits_12 : decode mX9_shelfByHits.2.1 12 = .ok (.iconst 0, 1) := by decide +kernel
theorem dX9_shelfByHits_13 : decode mX9_shelfByHits.2.1 13 = .ok (.istore 4, 2) := by decide +kernel
theorem dX9_shelfByHits_15 : decode mX9_shelfByHits.2.1 15 = .ok (.iload 4, 2) := by decide +kernel
theorem dX9_shelfByHits_17 : decode mX9_shelfByHits.2.1 17 = .ok (.aload_n 0, 1) := by decide +kernel
theorem dX9_shelfByHits_18 : decode mX9_shelfByHits.2.1 18 = .ok (.getfield 9, 3) := by decide +kernel
theorem dX9_shelfByHits_21 : decode mX9_shelfByHits.2.1 21 = .ok (.iconst 0, 1) := by decide +kernel
theorem dX9_shelfByHits_22 : decode mX9_shelfByHits.2.1 22 = .ok (.iaload, 1) := by decide +kernel
theorem dX9_shelfByHits_23 : decode mX9_shelfByHits.2.1 23 = .ok (.if_icmp .ge 93, 3) := by decide +kernel
theorem dX9_shelfByHits_26 : decode mX9_shelfByHits.2.1 26 = .ok (.iload_n 3, 1) := by decide +kernel
theorem dX9_shelfByHits_27 : decode mX9_shelfByHits.2.1 27 = .ok (.ifCond .eq 89, 3) := by decide +kernel
theorem dX9_shelfByHits_30 : decode mX9_shelfByHits.2.1 30 = .ok (.iconst 0, 1) := by decide +kernel
theorem dX9_shelfByHits_31 : decode mX9_shelfByHits.2.1 31 = .ok (.istore 5, 2) := by decide +kernel
theorem dX9_shelfByHits_33 : decode mX9_shelfByHits.2.1 33 = .ok (.iconst 0, 1) := by decide +kernel
theorem dX9_shelfByHits_34 : decode mX9_shelfByHits.2.1 34 = .ok (.istore 6, 2) := by decide +kernel
theorem dX9_shelfByHits_36 : decode mX9_shelfByHits.2.1 36 = .ok (.iload 6, 2) := by decide +kernel
theorem dX9_shelfByHits_38 : decode mX9_shelfByHits.2.1 38 = .ok (.aload_n 0, 1) := by decide +kernel
theorem dX9_shelfByHits_39 : decode mX9_shelfByHits.2.1 39 = .ok (.getfield 9, 3) := by decide +kernel
theorem dX9_shelfByHits_42 : decode mX9_shelfByHits.2.1 42 = .ok (.iconst 0, 1) := by decide +kernel
theorem dX9_shelfByHits_43 : decode mX9_shelfByHits.2.1 43 = .ok (.iaload, 1) := by decide +kernel
theorem dX9_shelfByHits_44 : decode mX9_shelfByHits.2.1 44 = .ok (.if_icmp .ge 53, 3) := by decide +kernel
theorem dX9_shelfByHits_47 : decode mX9_shelfByHits.2.1 47 = .ok (.aload_n 0, 1) := by decide +kernel
theorem dX9_shelfByHits_48 : decode mX9_shelfByHits.2.1 48 = .ok (.iload 6, 2) := by decide +kernel
theorem dX9_shelfByHits_50 : decode mX9_shelfByHits.2.1 50 = .ok (.iconst 4, 1) := by decide +kernel
theorem dX9_shelfByHits_51 : decode mX9_shelfByHits.2.1 51 = .ok (.invokevirtual 77, 3) := by decide +kernel
theorem dX9_shelfByHits_54 : decode mX9_shelfByHits.2.1 54 = .ok (.aload_n 0, 1) := by decide +kernel
theorem dX9_shelfByHits_55 : decode mX9_shelfByHits.2.1 55 = .ok (.iload 4, 2) := by decide +kernel
theorem dX9_shelfByHits_57 : decode mX9_shelfByHits.2.1 57 = .ok (.iconst 4, 1) := by decide +kernel
theorem dX9_shelfByHits_58 : decode mX9_shelfByHits.2.1 58 = .ok (.invokevirtual 77, 3) := by decide +kernel
theorem dX9_shelfByHits_61 : decode mX9_shelfByHits.2.1 61 = .ok (.isub, 1) := by decide +kernel
theorem dX9_shelfByHits_62 : decode mX9_shelfByHits.2.1 62 = .ok (.istore 7, 2) := by decide +kernel
theorem dX9_shelfByHits_64 : decode mX9_shelfByHits.2.1 64 = .ok (.iload 5, 2) := by decide +kernel
theorem dX9_shelfByHits_66 : decode mX9_shelfByHits.2.1 66 = .ok (.iload 7, 2) := by decide +kernel
theorem dX9_shelfByHits_68 : decode mX9_shelfByHits.2.1 68 = .ok (.ifCond .gt 15, 3) := by decide +kernel
theorem dX9_shelfByHits_71 : decode mX9_shelfByHits.2.1 71 = .ok (.iload 7, 2) := by decide +kernel
theorem dX9_shelfByHits_73 : decode mX9_shelfByHits.2.1 73 = .ok (.ifCond .ne 14, 3) := by decide +kernel
theorem dX9_shelfByHits_76 : decode mX9_shelfByHits.2.1 76 = .ok (.iload 6, 2) := by decide +kernel
theorem dX9_shelfByHits_78 : decode mX9_shelfByHits.2.1 78 = .ok (.iload 4, 2) := by decide +kernel
theorem dX9_shelfByHits_80 : decode mX9_shelfByHits.2.1 80 = .ok (.if_icmp .ge 7, 3) := by decide +kernel
theorem dX9_shelfByHits_83 : decode mX9_shelfByHits.2.1 83 = .ok (.iconst 1, 1) := by decide +kernel
theorem dX9_shelfByHits_84 : decode mX9_shelfByHits.2.1 84 = .ok (.goto 4, 3) := by decide +kernel
theorem dX9_shelfByHits_87 : decode mX9_shelfByHits.2.1 87 = .ok (.iconst 0, 1) := by decide +kernel
theorem dX9_shelfByHits_88 : decode mX9_shelfByHits.2.1 88 = .ok (.iadd, 1) := by decide +kernel
theorem dX9_shelfByHits_89 : decode mX9_shelfByHits.2.1 89 = .ok (.istore 5, 2) := by decide +kernel
theorem dX9_shelfByHits_91 : decode mX9_shelfByHits.2.1 91 = .ok (.iinc 6 1, 3) := by decide +kernel
theorem dX9_shelfByHits_94 : decode mX9_shelfByHits.2.1 94 = .ok (.goto (-58), 3) := by decide +kernel
theorem dX9_shelfByHits_97 : decode mX9_shelfByHits.2.1 97 = .ok (.iload 5, 2) := by decide +kernel
theorem dX9_shelfByHits_99 : decode mX9_shelfByHits.2.1 99 = .ok (.iload_n 1, 1) := by decide +kernel
theorem dX9_shelfByHits_100 : decode mX9_shelfByHits.2.1 100 = .ok (.if_icmp .ne 8, 3) := by decide +kernel
theorem dX9_shelfByHits_103 : decode mX9_shelfByHits.2.1 103 = .ok (.iload 4, 2) := by decide +kernel
theorem dX9_shelfByHits_105 : decode mX9_shelfByHits.2.1 105 = .ok (.goto 4, 3) := by decide +kernel
theorem dX9_shelfByHits_108 : decode mX9_shelfByHits.2.1 108 = .ok (.iload_n 2, 1) := by decide +kernel
theorem dX9_shelfByHits_109 : decode mX9_shelfByHits.2.1 109 = .ok (.istore_n 2, 1) := by decide +kernel
theorem dX9_shelfByHits_110 : decode mX9_shelfByHits.2.1 110 = .ok (.iinc 4 1, 3) := by decide +kernel
theorem dX9_shelfByHits_113 : decode mX9_shelfByHits.2.1 113 = .ok (.goto (-98), 3) := by decide +kernel
theorem dX9_shelfByHits_116 : decode mX9_shelfByHits.2.1 116 = .ok (.iload_n 2, 1) := by decide +kernel
theorem dX9_shelfByHits_117 : decode mX9_shelfByHits.2.1 117 = .ok (.ireturn, 1) := by decide +kernel
theorem dX9_isConsistent_0 : decode mX9_isConsistent.2.1 0 = .ok (.aload_n 0, 1) := by decide +kernel
theorem dX9_isConsistent_1 : decode mX9_isConsistent.2.1 1 = .ok (.iconst 0, 1) := by decide +kernel
theorem dX9_isConsistent_2 : decode mX9_isConsistent.2.1 2 = .ok (.putfield 39, 3) := by decide +kernel
theorem dX9_isConsistent_5 : decode mX9_isConsistent.2.1 5 = .ok (.iconst 1, 1) := by decide +kernel
theorem dX9_isConsistent_6 : decode mX9_isConsistent.2.1 6 = .ok (.ireturn, 1) := by decide +kernel
theorem dX9_says_0 : decode mX9_says.2.1 0 = .ok (.aload_n 0, 1) := by decide +kernel
theorem dX9_says_1 : decode mX9_says.2.1 1 = .ok (.getfield 22, 3) := by decide +kernel
theorem dX9_says_4 : decode mX9_says.2.1 4 = .ok (.aload_n 0, 1) := by decide +kernel
theorem dX9_says_5 : decode mX9_says.2.1 5 = .ok (.getfield 163, 3) := by decide +kernel
theorem dX9_says_8 : decode mX9_says.2.1 8 = .ok (.iload_n 1, 1) := by decide +kernel
theorem dX9_says_9 : decode mX9_says.2.1 9 = .ok (.i2c, 1) := by decide +kernel
theorem dX9_says_10 : decode mX9_says.2.1 10 = .ok (.castore, 1) := by decide +kernel
theorem dX9_says_11 : decode mX9_says.2.1 11 = .ok (.aload_n 0, 1) := by decide +kernel
theorem dX9_says_12 : decode mX9_says.2.1 12 = .ok (.dup, 1) := by decide +kernel
theorem dX9_says_13 : decode mX9_says.2.1 13 = .ok (.getfield 163, 3) := by decide +kernel
theorem dX9_says_16 : decode mX9_says.2.1 16 = .ok (.iconst 1, 1) := by decide +kernel
theorem dX9_says_17 : decode mX9_says.2.1 17 = .ok (.iadd, 1) := by decide +kernel
theorem dX9_says_18 : decode mX9_says.2.1 18 = .ok (.putfield 163, 3) := by decide +kernel
theorem dX9_says_21 : decode mX9_says.2.1 21 = .ok (.return_, 1) := by decide +kernel
theorem dX9_saysNumber_0 : decode mX9_saysNumber.2.1 0 = .ok (.iload_n 1, 1) := by decide +kernel
theorem dX9_saysNumber_1 : decode mX9_saysNumber.2.1 1 = .ok (.bipush 9, 2) := by decide +kernel
theorem dX9_saysNumber_3 : decode mX9_saysNumber.2.1 3 = .ok (.if_icmp .le 11, 3) := by decide +kernel
theorem dX9_saysNumber_6 : decode mX9_saysNumber.2.1 6 = .ok (.aload_n 0, 1) := by decide +kernel
theorem dX9_saysNumber_7 : decode mX9_saysNumber.2.1 7 = .ok (.iload_n 1, 1) := by decide +kernel
theorem dX9_saysNumber_8 : decode mX9_saysNumber.2.1 8 = .ok (.bipush 10, 2) := by decide +kernel
theorem dX9_saysNumber_10 : decode mX9_saysNumber.2.1 10 = .ok (.idiv, 1) := by decide +kernel
theorem dX9_saysNumber_11 : decode mX9_saysNumber.2.1 11 = .ok (.invokevirtual 166, 3) := by decide +kernel
theorem dX9_saysNumber_14 : decode mX9_saysNumber.2.1 14 = .ok (.aload_n 0, 1) := by decide +kernel
theorem dX9_saysNumber_15 : decode mX9_saysNumber.2.1 15 = .ok (.bipush 48, 2) := by decide +kernel
theorem dX9_saysNumber_17 : decode mX9_saysNumber.2.1 17 = .ok (.iload_n 1, 1) := by decide +kernel
theorem dX9_saysNumber_18 : decode mX9_saysNumber.2.1 18 = .ok (.bipush 10, 2) := by decide +kernel
theorem dX9_saysNumber_20 : decode mX9_saysNumber.2.1 20 = .ok (.irem, 1) := by decide +kernel
theorem dX9_saysNumber_21 : decode mX9_saysNumber.2.1 21 = .ok (.iadd, 1) := by decide +kernel
theorem dX9_saysNumber_22 : decode mX9_saysNumber.2.1 22 = .ok (.invokevirtual 170, 3) := by decide +kernel
theorem dX9_saysNumber_25 : decode mX9_saysNumber.2.1 25 = .ok (.return_, 1) := by decide +kernel
theorem dX9_writeShelf_0 : decode mX9_writeShelf.2.1 0 = .ok (.aload_n 0, 1) := by decide +kernel
theorem dX9_writeShelf_1 : decode mX9_writeShelf.2.1 1 = .ok (.aload_n 0, 1) := by decide +kernel
theorem dX9_writeShelf_2 : decode mX9_writeShelf.2.1 2 = .ok (.iload_n 1, 1) := by decide +kernel
theorem dX9_writeShelf_3 : decode mX9_writeShelf.2.1 3 = .ok (.invokevirtual 122, 3) := by decide +kernel
theorem dX9_writeShelf_6 : decode mX9_writeShelf.2.1 6 = .ok (.invokevirtual 114, 3) := by decide +kernel
theorem dX9_writeShelf_9 : decode mX9_writeShelf.2.1 9 = .ok (.ifCond .ne 5, 3) := by decide +kernel
theorem dX9_writeShelf_12 : decode mX9_writeShelf.2.1 12 = .ok (.iconst 0, 1) := by decide +kernel
theorem dX9_writeShelf_13 : decode mX9_writeShelf.2.1 13 = .ok (.ireturn, 1) := by decide +kernel
theorem dX9_writeShelf_14 : decode mX9_writeShelf.2.1 14 = .ok (.aload_n 0, 1) := by decide +kernel
theorem dX9_writeShelf_15 : decode mX9_writeShelf.2.1 15 = .ok (.iconst 0, 1) := by decide +kernel
theorem dX9_writeShelf_16 : decode mX9_writeShelf.2.1 16 = .ok (.putfield 163, 3) := by decide +kernel
theorem dX9_writeShelf_19 : decode mX9_writeShelf.2.1 19 = .ok (.bipush 97, 2) := by decide +kernel
theorem dX9_writeShelf_21 : decode mX9_writeShelf.2.1 21 = .ok (.istore_n 2, 1) := by decide +kernel
theorem dX9_writeShelf_22 : decode mX9_writeShelf.2.1 22 = .ok (.iload_n 2, 1) := by decide +kernel
theorem dX9_writeShelf_23 : decode mX9_writeShelf.2.1 23 = .ok (.bipush 122, 2) := by decide +kernel
theorem dX9_writeShelf_25 : decode mX9_writeShelf.2.1 25 = .ok (.if_icmp .gt 90, 3) := by decide +kernel
theorem dX9_writeShelf_28 : decode mX9_writeShelf.2.1 28 = .ok (.aload_n 0, 1) := by decide +kernel
theorem dX9_writeShelf_29 : decode mX9_writeShelf.2.1 29 = .ok (.iload_n 1, 1) := by decide +kernel
theorem dX9_writeShelf_30 : decode mX9_writeShelf.2.1 30 = .ok (.iload_n 2, 1) := by decide +kernel
theorem dX9_writeShelf_31 : decode mX9_writeShelf.2.1 31 = .ok (.invokevirtual 70, 3) := by decide +kernel
theorem dX9_writeShelf_34 : decode mX9_writeShelf.2.1 34 = .ok (.ifCond .eq 75, 3) := by decide +kernel
theorem dX9_writeShelf_37 : decode mX9_writeShelf.2.1 37 = .ok (.aload_n 0, 1) := by decide +kernel
theorem dX9_writeShelf_38 : decode mX9_writeShelf.2.1 38 = .ok (.getfield 163, 3) := by decide +kernel
theorem dX9_writeShelf_41 : decode mX9_writeShelf.2.1 41 = .ok (.ifCond .le 9, 3) := by decide +kernel
theorem dX9_writeShelf_44 : decode mX9_writeShelf.2.1 44 = .ok (.aload_n 0, 1) := by decide +kernel
theorem dX9_writeShelf_45 : decode mX9_writeShelf.2.1 45 = .ok (.bipush 32, 2) := by decide +kernel
theorem dX9_writeShelf_47 : decode mX9_writeShelf.2.1 47 = .ok (.invokevirtual 170, 3) := by decide +kernel
theorem dX9_writeShelf_50 : decode mX9_writeShelf.2.1 50 = .ok (.aload_n 0, 1) := by decide +kernel
theorem dX9_writeShelf_51 : decode mX9_writeShelf.2.1 51 = .ok (.iload_n 2, 1) := by decide +kernel
theorem dX9_writeShelf_52 : decode mX9_writeShelf.2.1 52 = .ok (.invokevirtual 170, 3) := by decide +kernel
theorem dX9_writeShelf_55 : decode mX9_writeShelf.2.1 55 = .ok (.aload_n 0, 1) := by decide +kernel
theorem dX9_writeShelf_56 : decode mX9_writeShelf.2.1 56 = .ok (.aload_n 0, 1) := by decide +kernel
theorem dX9_writeShelf_57 : decode mX9_writeShelf.2.1 57 = .ok (.getfield 9, 3) := by decide +kernel
theorem dX9_writeShelf_60 : decode mX9_writeShelf.2.1 60 = .ok (.iload_n 1, 1) := by decide +kernel
theorem dX9_writeShelf_61 : decode mX9_writeShelf.2.1 61 = .ok (.iload_n 2, 1) := by decide +kernel
theorem dX9_writeShelf_62 : decode mX9_writeShelf.2.1 62 = .ok (.invokestatic 66, 3) := by decide +kernel
theorem dX9_writeShelf_65 : decode mX9_writeShelf.2.1 65 = .ok (.iconst 1, 1) := by decide +kernel
theorem dX9_writeShelf_66 : decode mX9_writeShelf.2.1 66 = .ok (.iadd, 1) := by decide +kernel
theorem dX9_writeShelf_67 : decode mX9_writeShelf.2.1 67 = .ok (.iaload, 1) := by decide +kernel
theorem dX9_writeShelf_68 : decode mX9_writeShelf.2.1 68 = .ok (.invokevirtual 166, 3) := by decide +kernel
theorem dX9_writeShelf_71 : decode mX9_writeShelf.2.1 71 = .ok (.aload_n 0, 1) := by decide +kernel
theorem dX9_writeShelf_72 : decode mX9_writeShelf.2.1 72 = .ok (.iload_n 1, 1) := by decide +kernel
theorem dX9_writeShelf_73 : decode mX9_writeShelf.2.1 73 = .ok (.iload_n 2, 1) := by decide +kernel
theorem dX9_writeShelf_74 : decode mX9_writeShelf.2.1 74 = .ok (.invokevirtual 89, 3) := by decide +kernel
theorem dX9_writeShelf_77 : decode mX9_writeShelf.2.1 77 = .ok (.ifCond .eq 9, 3) := by decide +kernel
theorem dX9_writeShelf_80 : decode mX9_writeShelf.2.1 80 = .ok (.aload_n 0, 1) := by decide +kernel
theorem dX9_writeShelf_81 : decode mX9_writeShelf.2.1 81 = .ok (.bipush 126, 2) := by decide +kernel
theorem dX9_writeShelf_83 : decode mX9_writeShelf.2.1 83 = .ok (.invokevirtual 170, 3) := by decide +kernel
theorem dX9_writeShelf_86 : decode mX9_writeShelf.2.1 86 = .ok (.aload_n 0, 1) := by decide +kernel
theorem dX9_writeShelf_87 : decode mX9_writeShelf.2.1 87 = .ok (.getfield 9, 3) := by decide +kernel
theorem dX9_writeShelf_90 : decode mX9_writeShelf.2.1 90 = .ok (.iload_n 1, 1) := by decide +kernel
theorem dX9_writeShelf_91 : decode mX9_writeShelf.2.1 91 = .ok (.iload_n 2, 1) := by decide +kernel
theorem dX9_writeShelf_92 : decode mX9_writeShelf.2.1 92 = .ok (.invokestatic 66, 3) := by decide +kernel
theorem dX9_writeShelf_95 : decode mX9_writeShelf.2.1 95 = .ok (.bipush 6, 2) := by decide +kernel
theorem dX9_writeShelf_97 : decode mX9_writeShelf.2.1 97 = .ok (.iadd, 1) := by decide +kernel
theorem dX9_writeShelf_98 : decode mX9_writeShelf.2.1 98 = .ok (.iaload, 1) := by decide +kernel
theorem dX9_writeShelf_99 : decode mX9_writeShelf.2.1 99 = .ok (.iconst 1, 1) := by decide +kernel
theorem dX9_writeShelf_100 : decode mX9_writeShelf.2.1 100 = .ok (.if_icmp .ne 9, 3) := by decide +kernel
theorem dX9_writeShelf_103 : decode mX9_writeShelf.2.1 103 = .ok (.aload_n 0, 1) := by decide +kernel
theorem dX9_writeShelf_104 : decode mX9_writeShelf.2.1 104 = .ok (.bipush 33, 2) := by decide +kernel
theorem dX9_writeShelf_106 : decode mX9_writeShelf.2.1 106 = .ok (.invokevirtual 170, 3) := by decide +kernel
theorem dX9_writeShelf_109 : decode mX9_writeShelf.2.1 109 = .ok (.iinc 2 1, 3) := by decide +kernel
theorem dX9_writeShelf_112 : decode mX9_writeShelf.2.1 112 = .ok (.goto (-90), 3) := by decide +kernel
theorem dX9_writeShelf_115 : decode mX9_writeShelf.2.1 115 = .ok (.aload_n 0, 1) := by decide +kernel
theorem dX9_writeShelf_116 : decode mX9_writeShelf.2.1 116 = .ok (.getfield 163, 3) := by decide +kernel
theorem dX9_writeShelf_119 : decode mX9_writeShelf.2.1 119 = .ok (.ireturn, 1) := by decide +kernel
theorem dX9_lineAt_0 : decode mX9_lineAt.2.1 0 = .ok (.aload_n 0, 1) := by decide +kernel
theorem dX9_lineAt_1 : decode mX9_lineAt.2.1 1 = .ok (.iload_n 1, 1) := by decide +kernel
theorem dX9_lineAt_2 : decode mX9_lineAt.2.1 2 = .ok (.iconst 0, 1) := by decide +kernel
theorem dX9_lineAt_3 : decode mX9_lineAt.2.1 3 = .ok (.aload_n 0, 1) := by decide +kernel
theorem dX9_lineAt_4 : decode mX9_lineAt.2.1 4 = .ok (.getfield 163, 3) := by decide +kernel
theorem dX9_lineAt_7 : decode mX9_lineAt.2.1 7 = .ok (.iconst 1, 1) := by decide +kernel
theorem dX9_lineAt_8 : decode mX9_lineAt.2.1 8 = .ok (.isub, 1) := by decide +kernel
theorem dX9_lineAt_9 : decode mX9_lineAt.2.1 9 = .ok (.invokestatic 51, 3) := by decide +kernel
theorem dX9_lineAt_12 : decode mX9_lineAt.2.1 12 = .ok (.invokevirtual 114, 3) := by decide +kernel
theorem dX9_lineAt_15 : decode mX9_lineAt.2.1 15 = .ok (.ifCond .eq 12, 3) := by decide +kernel
theorem dX9_lineAt_18 : decode mX9_lineAt.2.1 18 = .ok (.aload_n 0, 1) := by decide +kernel
theorem dX9_lineAt_19 : decode mX9_lineAt.2.1 19 = .ok (.getfield 22, 3) := by decide +kernel
theorem dX9_lineAt_22 : decode mX9_lineAt.2.1 22 = .ok (.iload_n 1, 1) := by decide +kernel
theorem dX9_lineAt_23 : decode mX9_lineAt.2.1 23 = .ok (.caload, 1) := by decide +kernel
theorem dX9_lineAt_24 : decode mX9_lineAt.2.1 24 = .ok (.goto 5, 3) := by decide +kernel
theorem dX9_lineAt_27 : decode mX9_lineAt.2.1 27 = .ok (.bipush 32, 2) := by decide +kernel
theorem dX9_lineAt_29 : decode mX9_lineAt.2.1 29 = .ok (.ireturn, 1) := by decide +kernel
theorem dX9_type_0 : decode mX9_type.2.1 0 = .ok (.aload_n 0, 1) := by decide +kernel
theorem dX9_type_1 : decode mX9_type.2.1 1 = .ok (.iload_n 1, 1) := by decide +kernel
theorem dX9_type_2 : decode mX9_type.2.1 2 = .ok (.bipush 32, 2) := by decide +kernel
theorem dX9_type_4 : decode mX9_type.2.1 4 = .ok (.bipush 126, 2) := by decide +kernel
theorem dX9_type_6 : decode mX9_type.2.1 6 = .ok (.invokestatic 51, 3) := by decide +kernel
theorem dX9_type_9 : decode mX9_type.2.1 9 = .ok (.ifCond .ne 7, 3) := by decide +kernel
theorem dX9_type_12 : decode mX9_type.2.1 12 = .ok (.iconst 1, 1) := by decide +kernel
theorem dX9_type_13 : decode mX9_type.2.1 13 = .ok (.goto 17, 3) := by decide +kernel
theorem dX9_type_16 : decode mX9_type.2.1 16 = .ok (.aload_n 0, 1) := by decide +kernel
theorem dX9_type_17 : decode mX9_type.2.1 17 = .ok (.getfield 173, 3) := by decide +kernel
theorem dX9_type_20 : decode mX9_type.2.1 20 = .ok (.bipush 60, 2) := by decide +kernel
theorem dX9_type_22 : decode mX9_type.2.1 22 = .ok (.if_icmp .ne 7, 3) := by decide +kernel
theorem dX9_type_25 : decode mX9_type.2.1 25 = .ok (.iconst 2, 1) := by decide +kernel
theorem dX9_type_26 : decode mX9_type.2.1 26 = .ok (.goto 4, 3) := by decide +kernel
theorem dX9_type_29 : decode mX9_type.2.1 29 = .ok (.iconst 0, 1) := by decide +kernel
theorem dX9_type_30 : decode mX9_type.2.1 30 = .ok (.putfield 39, 3) := by decide +kernel
theorem dX9_type_33 : decode mX9_type.2.1 33 = .ok (.aload_n 0, 1) := by decide +kernel
theorem dX9_type_34 : decode mX9_type.2.1 34 = .ok (.getfield 39, 3) := by decide +kernel
theorem dX9_type_37 : decode mX9_type.2.1 37 = .ok (.ifCond .le 5, 3) := by decide +kernel
theorem dX9_type_40 : decode mX9_type.2.1 40 = .ok (.iconst 0, 1) := by decide +kernel
theorem dX9_type_41 : decode mX9_type.2.1 41 = .ok (.ireturn, 1) := by decide +kernel
theorem dX9_type_42 : decode mX9_type.2.1 42 = .ok (.aload_n 0, 1) := by decide +kernel
theorem dX9_type_43 : decode mX9_type.2.1 43 = .ok (.getfield 26, 3) := by decide +kernel
theorem dX9_type_46 : decode mX9_type.2.1 46 = .ok (.aload_n 0, 1) := by decide +kernel
theorem dX9_type_47 : decode mX9_type.2.1 47 = .ok (.getfield 173, 3) := by decide +kernel
theorem dX9_type_50 : decode mX9_type.2.1 50 = .ok (.iload_n 1, 1) := by decide +kernel
theorem dX9_type_51 : decode mX9_type.2.1 51 = .ok (.castore, 1) := by decide +kernel
theorem dX9_type_52 : decode mX9_type.2.1 52 = .ok (.aload_n 0, 1) := by decide +kernel
theorem dX9_type_53 : decode mX9_type.2.1 53 = .ok (.dup, 1) := by decide +kernel
theorem dX9_type_54 : decode mX9_type.2.1 54 = .ok (.getfield 173, 3) := by decide +kernel
theorem dX9_type_57 : decode mX9_type.2.1 57 = .ok (.iconst 1, 1) := by decide +kernel
theorem dX9_type_58 : decode mX9_type.2.1 58 = .ok (.iadd, 1) := by decide +kernel
theorem dX9_type_59 : decode mX9_type.2.1 59 = .ok (.putfield 173, 3) := by decide +kernel
theorem dX9_type_62 : decode mX9_type.2.1 62 = .ok (.aload_n 0, 1) := by decide +kernel
theorem dX9_type_63 : decode mX9_type.2.1 63 = .ok (.getfield 173, 3) := by decide +kernel
theorem dX9_type_66 : decode mX9_type.2.1 66 = .ok (.ireturn, 1) := by decide +kernel
theorem dX9_behind_0 : decode mX9_behind.2.1 0 = .ok (.aload_n 0, 1) := by decide +kernel
theorem dX9_behind_1 : decode mX9_behind.2.1 1 = .ok (.getfield 176, 3) := by decide +kernel
theorem dX9_behind_4 : decode mX9_behind.2.1 4 = .ok (.iload_n 1, 1) := by decide +kernel
theorem dX9_behind_5 : decode mX9_behind.2.1 5 = .ok (.iadd, 1) := by decide +kernel
theorem dX9_behind_6 : decode mX9_behind.2.1 6 = .ok (.aload_n 0, 1) := by decide +kernel
theorem dX9_behind_7 : decode mX9_behind.2.1 7 = .ok (.getfield 173, 3) := by decide +kernel
theorem dX9_behind_10 : decode mX9_behind.2.1 10 = .ok (.if_icmp .ge 17, 3) := by decide +kernel
theorem dX9_behind_13 : decode mX9_behind.2.1 13 = .ok (.aload_n 0, 1) := by decide +kernel
theorem dX9_behind_14 : decode mX9_behind.2.1 14 = .ok (.getfield 26, 3) := by decide +kernel
theorem dX9_behind_17 : decode mX9_behind.2.1 17 = .ok (.aload_n 0, 1) := by decide +kernel
theorem dX9_behind_18 : decode mX9_behind.2.1 18 = .ok (.getfield 176, 3) := by decide +kernel
theorem dX9_behind_21 : decode mX9_behind.2.1 21 = .ok (.iload_n 1, 1) := by decide +kernel
theorem dX9_behind_22 : decode mX9_behind.2.1 22 = .ok (.iadd, 1) := by decide +kernel
theorem dX9_behind_23 : decode mX9_behind.2.1 23 = .ok (.caload, 1) := by decide +kernel
theorem dX9_behind_24 : decode mX9_behind.2.1 24 = .ok (.goto 4, 3) := by decide +kernel
theorem dX9_behind_27 : decode mX9_behind.2.1 27 = .ok (.iconst (-1), 1) := by decide +kernel
theorem dX9_behind_28 : decode mX9_behind.2.1 28 = .ok (.ireturn, 1) := by decide +kernel
theorem dX9_skip_0 : decode mX9_skip.2.1 0 = .ok (.iconst 0, 1) := by decide +kernel
theorem dX9_skip_1 : decode mX9_skip.2.1 1 = .ok (.istore_n 2, 1) := by decide +kernel
theorem dX9_skip_2 : decode mX9_skip.2.1 2 = .ok (.iload_n 2, 1) := by decide +kernel
theorem dX9_skip_3 : decode mX9_skip.2.1 3 = .ok (.aload_n 1, 1) := by decide +kernel
theorem dX9_skip_4 : decode mX9_skip.2.1 4 = .ok (.invokevirtual 179, 3) := by decide +kernel
theorem dX9_skip_7 : decode mX9_skip.2.1 7 = .ok (.if_icmp .ge 59, 3) := by decide +kernel
theorem dX9_skip_10 : decode mX9_skip.2.1 10 = .ok (.aload_n 0, 1) := by decide +kernel
theorem dX9_skip_11 : decode mX9_skip.2.1 11 = .ok (.getfield 183, 3) := by decide +kernel
theorem dX9_skip_14 : decode mX9_skip.2.1 14 = .ok (.ifCond .ne 52, 3) := by decide +kernel
theorem dX9_skip_17 : decode mX9_skip.2.1 17 = .ok (.aload_n 0, 1) := by decide +kernel
theorem dX9_skip_18 : decode mX9_skip.2.1 18 = .ok (.aload_n 0, 1) := by decide +kernel
theorem dX9_skip_19 : decode mX9_skip.2.1 19 = .ok (.iconst 0, 1) := by decide +kernel
theorem dX9_skip_20 : decode mX9_skip.2.1 20 = .ok (.invokevirtual 187, 3) := by decide +kernel
theorem dX9_skip_23 : decode mX9_skip.2.1 23 = .ok (.aload_n 1, 1) := by decide +kernel
theorem dX9_skip_24 : decode mX9_skip.2.1 24 = .ok (.iload_n 2, 1) := by decide +kernel
theorem dX9_skip_25 : decode mX9_skip.2.1 25 = .ok (.invokevirtual 190, 3) := by decide +kernel
theorem dX9_skip_28 : decode mX9_skip.2.1 28 = .ok (.if_icmp .eq 7, 3) := by decide +kernel
theorem dX9_skip_31 : decode mX9_skip.2.1 31 = .ok (.iconst 1, 1) := by decide +kernel
theorem dX9_skip_32 : decode mX9_skip.2.1 32 = .ok (.goto 4, 3) := by decide +kernel
theorem dX9_skip_35 : decode mX9_skip.2.1 35 = .ok (.iconst 0, 1) := by decide +kernel
theorem dX9_skip_36 : decode mX9_skip.2.1 36 = .ok (.putfield 183, 3) := by decide +kernel
theorem dX9_skip_39 : decode mX9_skip.2.1 39 = .ok (.aload_n 0, 1) := by decide +kernel
theorem dX9_skip_40 : decode mX9_skip.2.1 40 = .ok (.dup, 1) := by decide +kernel
theorem dX9_skip_41 : decode mX9_skip.2.1 41 = .ok (.getfield 176, 3) := by decide +kernel
theorem dX9_skip_44 : decode mX9_skip.2.1 44 = .ok (.aload_n 0, 1) := by decide +kernel
theorem dX9_skip_45 : decode mX9_skip.2.1 45 = .ok (.getfield 183, 3) := by decide +kernel
theorem dX9_skip_48 : decode mX9_skip.2.1 48 = .ok (.ifCond .eq 7, 3) := by decide +kernel
theorem dX9_skip_51 : decode mX9_skip.2.1 51 = .ok (.iconst 0, 1) := by decide +kernel
theorem dX9_skip_52 : decode mX9_skip.2.1 52 = .ok (.goto 4, 3) := by decide +kernel
theorem dX9_skip_55 : decode mX9_skip.2.1 55 = .ok (.iconst 1, 1) := by decide +kernel
theorem dX9_skip_56 : decode mX9_skip.2.1 56 = .ok (.iadd, 1) := by decide +kernel
theorem dX9_skip_57 : decode mX9_skip.2.1 57 = .ok (.putfield 176, 3) := by decide +kernel
theorem dX9_skip_60 : decode mX9_skip.2.1 60 = .ok (.iinc 2 1, 3) := by decide +kernel
theorem dX9_skip_63 : decode mX9_skip.2.1 63 = .ok (.goto (-61), 3) := by decide +kernel
theorem dX9_skip_66 : decode mX9_skip.2.1 66 = .ok (.return_, 1) := by decide +kernel
theorem dX9_isDigit_0 : decode mX9_isDigit.2.1 0 = .ok (.aload_n 0, 1) := by decide +kernel
theorem dX9_isDigit_1 : decode mX9_isDigit.2.1 1 = .ok (.getfield 183, 3) := by decide +kernel
theorem dX9_isDigit_4 : decode mX9_isDigit.2.1 4 = .ok (.ifCond .ne 22, 3) := by decide +kernel
theorem dX9_isDigit_7 : decode mX9_isDigit.2.1 7 = .ok (.aload_n 0, 1) := by decide +kernel
theorem dX9_isDigit_8 : decode mX9_isDigit.2.1 8 = .ok (.iconst 0, 1) := by decide +kernel
theorem dX9_isDigit_9 : decode mX9_isDigit.2.1 9 = .ok (.invokevirtual 187, 3) := by decide +kernel
theorem dX9_isDigit_12 : decode mX9_isDigit.2.1 12 = .ok (.bipush 48, 2) := by decide +kernel
theorem dX9_isDigit_14 : decode mX9_isDigit.2.1 14 = .ok (.bipush 57, 2) := by decide +kernel
theorem dX9_isDigit_16 : decode mX9_isDigit.2.1 16 = .ok (.invokestatic 51, 3) := by decide +kernel
theorem dX9_isDigit_19 : decode mX9_isDigit.2.1 19 = .ok (.ifCond .eq 7, 3) := by decide +kernel
theorem dX9_isDigit_22 : decode mX9_isDigit.2.1 22 = .ok (.iconst 1, 1) := by decide +kernel
theorem dX9_isDigit_23 : decode mX9_isDigit.2.1 23 = .ok (.goto 4, 3) := by decide +kernel
theorem dX9_isDigit_26 : decode mX9_isDigit.2.1 26 = .ok (.iconst 0, 1) := by decide +kernel
theorem dX9_isDigit_27 : decode mX9_isDigit.2.1 27 = .ok (.ireturn, 1) := by decide +kernel
theorem dX9_readNumber_0 : decode mX9_readNumber.2.1 0 = .ok (.aload_n 0, 1) := by decide +kernel
theorem dX9_readNumber_1 : decode mX9_readNumber.2.1 1 = .ok (.ldc 193, 2) := by decide +kernel
theorem dX9_readNumber_3 : decode mX9_readNumber.2.1 3 = .ok (.invokevirtual 195, 3) := by decide +kernel
theorem dX9_readNumber_6 : decode mX9_readNumber.2.1 6 = .ok (.aload_n 0, 1) := by decide +kernel
theorem dX9_readNumber_7 : decode mX9_readNumber.2.1 7 = .ok (.aload_n 0, 1) := by decide +kernel
theorem dX9_readNumber_8 : decode mX9_readNumber.2.1 8 = .ok (.getfield 183, 3) := by decide +kernel
theorem dX9_readNumber_11 : decode mX9_readNumber.2.1 11 = .ok (.ifCond .ne 10, 3) := by decide +kernel
theorem dX9_readNumber_14 : decode mX9_readNumber.2.1 14 = .ok (.aload_n 0, 1) := by decide +kernel
theorem dX9_readNumber_15 : decode mX9_readNumber.2.1 15 = .ok (.invokevirtual 199, 3) := by decide +kernel
theorem dX9_readNumber_18 : decode mX9_readNumber.2.1 18 = .ok (.ifCond .ne 7, 3) := by decide +kernel
theorem dX9_readNumber_21 : decode mX9_readNumber.2.1 21 = .ok (.iconst 1, 1) := by decide +kernel
theorem dX9_readNumber_22 : decode mX9_readNumber.2.1 22 = .ok (.goto 4, 3) := by decide +kernel
theorem dX9_readNumber_25 : decode mX9_readNumber.2.1 25 = .ok (.iconst 0, 1) := by decide +kernel
theorem dX9_readNumber_26 : decode mX9_readNumber.2.1 26 = .ok (.putfield 183, 3) := by decide +kernel
theorem dX9_readNumber_29 : decode mX9_readNumber.2.1 29 = .ok (.iconst 0, 1) := by decide +kernel
theorem dX9_readNumber_30 : decode mX9_readNumber.2.1 30 = .ok (.istore_n 2, 1) := by decide +kernel
theorem dX9_readNumber_31 : decode mX9_readNumber.2.1 31 = .ok (.iconst 0, 1) := by decide +kernel
theorem dX9_readNumber_32 : decode mX9_readNumber.2.1 32 = .ok (.istore_n 3, 1) := by decide +kernel
theorem dX9_readNumber_33 : decode mX9_readNumber.2.1 33 = .ok (.iload_n 3, 1) := by decide +kernel
theorem dX9_readNumber_34 : decode mX9_readNumber.2.1 34 = .ok (.iload_n 1, 1) := by decide +kernel
theorem dX9_readNumber_35 : decode mX9_readNumber.2.1 35 = .ok (.if_icmp .ge 44, 3) := by decide +kernel
theorem dX9_readNumber_38 : decode mX9_readNumber.2.1 38 = .ok (.aload_n 0, 1) := by decide +kernel
theorem dX9_readNumber_39 : decode mX9_readNumber.2.1 39 = .ok (.invokevirtual 199, 3) := by decide +kernel
theorem dX9_readNumber_42 : decode mX9_readNumber.2.1 42 = .ok (.ifCond .eq 37, 3) := by decide +kernel
theorem dX9_readNumber_45 : decode mX9_readNumber.2.1 45 = .ok (.bipush 10, 2) := by decide +kernel
theorem dX9_readNumber_47 : decode mX9_readNumber.2.1 47 = .ok (.iload_n 2, 1) := by decide +kernel
theorem dX9_readNumber_48 : decode mX9_readNumber.2.1 48 = .ok (.imul, 1) := by decide +kernel
theorem dX9_readNumber_49 : decode mX9_readNumber.2.1 49 = .ok (.aload_n 0, 1) := by decide +kernel
theorem dX9_readNumber_50 : decode mX9_readNumber.2.1 50 = .ok (.getfield 26, 3) := by decide +kernel
theorem dX9_readNumber_53 : decode mX9_readNumber.2.1 53 = .ok (.aload_n 0, 1) := by decide +kernel
theorem dX9_readNumber_54 : decode mX9_readNumber.2.1 54 = .ok (.getfield 176, 3) := by decide +kernel
theorem dX9_readNumber_57 : decode mX9_readNumber.2.1 57 = .ok (.caload, 1) := by decide +kernel
theorem dX9_readNumber_58 : decode mX9_readNumber.2.1 58 = .ok (.iadd, 1) := by decide +kernel
theorem dX9_readNumber_59 : decode mX9_readNumber.2.1 59 = .ok (.bipush 48, 2) := by decide +kernel
theorem dX9_readNumber_61 : decode mX9_readNumber.2.1 61 = .ok (.isub, 1) := by decide +kernel
theorem dX9_readNumber_62 : decode mX9_readNumber.2.1 62 = .ok (.istore_n 2, 1) := by decide +kernel
theorem dX9_readNumber_63 : decode mX9_readNumber.2.1 63 = .ok (.aload_n 0, 1) := by decide +kernel
theorem dX9_readNumber_64 : decode mX9_readNumber.2.1 64 = .ok (.dup, 1) := by decide +kernel
theorem dX9_readNumber_65 : decode mX9_readNumber.2.1 65 = .ok (.getfield 176, 3) := by decide +kernel
theorem dX9_readNumber_68 : decode mX9_readNumber.2.1 68 = .ok (.iconst 1, 1) := by decide +kernel
theorem dX9_readNumber_69 : decode mX9_readNumber.2.1 69 = .ok (.iadd, 1) := by decide +kernel
theorem dX9_readNumber_70 : decode mX9_readNumber.2.1 70 = .ok (.putfield 176, 3) := by decide +kernel
theorem dX9_readNumber_73 : decode mX9_readNumber.2.1 73 = .ok (.iinc 3 1, 3) := by decide +kernel
theorem dX9_readNumber_76 : decode mX9_readNumber.2.1 76 = .ok (.goto (-43), 3) := by decide +kernel
theorem dX9_readNumber_79 : decode mX9_readNumber.2.1 79 = .ok (.iload_n 2, 1) := by decide +kernel
theorem dX9_readNumber_80 : decode mX9_readNumber.2.1 80 = .ok (.ireturn, 1) := by decide +kernel
theorem dX9_readLetter_0 : decode mX9_readLetter.2.1 0 = .ok (.aload_n 0, 1) := by decide +kernel
theorem dX9_readLetter_1 : decode mX9_readLetter.2.1 1 = .ok (.ldc 193, 2) := by decide +kernel
theorem dX9_readLetter_3 : decode mX9_readLetter.2.1 3 = .ok (.invokevirtual 195, 3) := by decide +kernel
theorem dX9_readLetter_6 : decode mX9_readLetter.2.1 6 = .ok (.aload_n 0, 1) := by decide +kernel
theorem dX9_readLetter_7 : decode mX9_readLetter.2.1 7 = .ok (.iconst 0, 1) := by decide +kernel
theorem dX9_readLetter_8 : decode mX9_readLetter.2.1 8 = .ok (.invokevirtual 187, 3) := by decide +kernel
theorem dX9_readLetter_11 : decode mX9_readLetter.2.1 11 = .ok (.istore_n 2, 1) := by decide +kernel
theorem dX9_readLetter_12 : decode mX9_readLetter.2.1 12 = .ok (.aload_n 0, 1) := by decide +kernel
theorem dX9_readLetter_13 : decode mX9_readLetter.2.1 13 = .ok (.aload_n 0, 1) := by decide +kernel
theorem dX9_readLetter_14 : decode mX9_readLetter.2.1 14 = .ok (.getfield 183, 3) := by decide +kernel
theorem dX9_readLetter_17 : decode mX9_readLetter.2.1 17 = .ok (.ifCond .ne 35, 3) := by decide +kernel
theorem dX9_readLetter_20 : decode mX9_readLetter.2.1 20 = .ok (.iload_n 1, 1) := by decide +kernel
theorem dX9_readLetter_21 : decode mX9_readLetter.2.1 21 = .ok (.ifCond .eq 24, 3) := by decide +kernel
theorem dX9_readLetter_24 : decode mX9_readLetter.2.1 24 = .ok (.iload_n 2, 1) := by decide +kernel
theorem dX9_readLetter_25 : decode mX9_readLetter.2.1 25 = .ok (.bipush 114, 2) := by decide +kernel
theorem dX9_readLetter_27 : decode mX9_readLetter.2.1 27 = .ok (.if_icmp .eq 29, 3) := by decide +kernel
theorem dX9_readLetter_30 : decode mX9_readLetter.2.1 30 = .ok (.iload_n 2, 1) := by decide +kernel
theorem dX9_readLetter_31 : decode mX9_readLetter.2.1 31 = .ok (.bipush 111, 2) := by decide +kernel
theorem dX9_readLetter_33 : decode mX9_readLetter.2.1 33 = .ok (.if_icmp .eq 23, 3) := by decide +kernel
theorem dX9_readLetter_36 : decode mX9_readLetter.2.1 36 = .ok (.iload_n 2, 1) := by decide +kernel
theorem dX9_readLetter_37 : decode mX9_readLetter.2.1 37 = .ok (.bipush 108, 2) := by decide +kernel
theorem dX9_readLetter_39 : decode mX9_readLetter.2.1 39 = .ok (.if_icmp .eq 17, 3) := by decide +kernel
theorem dX9_readLetter_42 : decode mX9_readLetter.2.1 42 = .ok (.goto 10, 3) := by decide +kernel
theorem dX9_readLetter_45 : decode mX9_readLetter.2.1 45 = .ok (.iload_n 2, 1) := by decide +kernel
theorem dX9_readLetter_46 : decode mX9_readLetter.2.1 46 = .ok (.invokestatic 55, 3) := by decide +kernel
theorem dX9_readLetter_49 : decode mX9_readLetter.2.1 49 = .ok (.ifCond .ne 7, 3) := by decide +kernel
theorem dX9_readLetter_52 : decode mX9_readLetter.2.1 52 = .ok (.iconst 1, 1) := by decide +kernel
theorem dX9_readLetter_53 : decode mX9_readLetter.2.1 53 = .ok (.goto 4, 3) := by decide +kernel
theorem dX9_readLetter_56 : decode mX9_readLetter.2.1 56 = .ok (.iconst 0, 1) := by decide +kernel
theorem dX9_readLetter_57 : decode mX9_readLetter.2.1 57 = .ok (.putfield 183, 3) := by decide +kernel
theorem dX9_readLetter_60 : decode mX9_readLetter.2.1 60 = .ok (.aload_n 0, 1) := by decide +kernel
theorem dX9_readLetter_61 : decode mX9_readLetter.2.1 61 = .ok (.dup, 1) := by decide +kernel
theorem dX9_readLetter_62 : decode mX9_readLetter.2.1 62 = .ok (.getfield 176, 3) := by decide +kernel
theorem dX9_readLetter_65 : decode mX9_readLetter.2.1 65 = .ok (.aload_n 0, 1) := by decide +kernel
theorem dX9_readLetter_66 : decode mX9_readLetter.2.1 66 = .ok (.getfield 183, 3) := by decide +kernel
theorem dX9_readLetter_69 : decode mX9_readLetter.2.1 69 = .ok (.ifCond .eq 7, 3) := by decide +kernel
theorem dX9_readLetter_72 : decode mX9_readLetter.2.1 72 = .ok (.iconst 0, 1) := by decide +kernel
theorem dX9_readLetter_73 : decode mX9_readLetter.2.1 73 = .ok (.goto 4, 3) := by decide +kernel
theorem dX9_readLetter_76 : decode mX9_readLetter.2.1 76 = .ok (.iconst 1, 1) := by decide +kernel
theorem dX9_readLetter_77 : decode mX9_readLetter.2.1 77 = .ok (.iadd, 1) := by decide +kernel
theorem dX9_readLetter_78 : decode mX9_readLetter.2.1 78 = .ok (.putfield 176, 3) := by decide +kernel
theorem dX9_readLetter_81 : decode mX9_readLetter.2.1 81 = .ok (.iload_n 2, 1) := by decide +kernel
theorem dX9_readLetter_82 : decode mX9_readLetter.2.1 82 = .ok (.ireturn, 1) := by decide +kernel
theorem dX9_word_0 : decode mX9_word.2.1 0 = .ok (.aload_n 0, 1) := by decide +kernel
theorem dX9_word_1 : decode mX9_word.2.1 1 = .ok (.iconst 0, 1) := by decide +kernel
theorem dX9_word_2 : decode mX9_word.2.1 2 = .ok (.invokevirtual 187, 3) := by decide +kernel
theorem dX9_word_5 : decode mX9_word.2.1 5 = .ok (.istore_n 1, 1) := by decide +kernel
theorem dX9_word_6 : decode mX9_word.2.1 6 = .ok (.aload_n 0, 1) := by decide +kernel
theorem dX9_word_7 : decode mX9_word.2.1 7 = .ok (.iconst 1, 1) := by decide +kernel
theorem dX9_word_8 : decode mX9_word.2.1 8 = .ok (.invokevirtual 187, 3) := by decide +kernel
theorem dX9_word_11 : decode mX9_word.2.1 11 = .ok (.istore_n 2, 1) := by decide +kernel
theorem dX9_word_12 : decode mX9_word.2.1 12 = .ok (.iload_n 1, 1) := by decide +kernel
theorem dX9_word_13 : decode mX9_word.2.1 13 = .ok (.bipush 115, 2) := by decide +kernel
theorem dX9_word_15 : decode mX9_word.2.1 15 = .ok (.if_icmp .ne 14, 3) := by decide +kernel
theorem dX9_word_18 : decode mX9_word.2.1 18 = .ok (.iload_n 2, 1) := by decide +kernel
theorem dX9_word_19 : decode mX9_word.2.1 19 = .ok (.bipush 104, 2) := by decide +kernel
theorem dX9_word_21 : decode mX9_word.2.1 21 = .ok (.if_icmp .ne 8, 3) := by decide +kernel
theorem dX9_word_24 : decode mX9_word.2.1 24 = .ok (.bipush 102, 2) := by decide +kernel
theorem dX9_word_26 : decode mX9_word.2.1 26 = .ok (.goto 21, 3) := by decide +kernel
theorem dX9_word_29 : decode mX9_word.2.1 29 = .ok (.iload_n 1, 1) := by decide +kernel
theorem dX9_word_30 : decode mX9_word.2.1 30 = .ok (.bipush 100, 2) := by decide +kernel
theorem dX9_word_32 : decode mX9_word.2.1 32 = .ok (.if_icmp .ne 14, 3) := by decide +kernel
theorem dX9_word_35 : decode mX9_word.2.1 35 = .ok (.iload_n 2, 1) := by decide +kernel
theorem dX9_word_36 : decode mX9_word.2.1 36 = .ok (.bipush 101, 2) := by decide +kernel
theorem dX9_word_38 : decode mX9_word.2.1 38 = .ok (.if_icmp .ne 8, 3) := by decide +kernel
theorem dX9_word_41 : decode mX9_word.2.1 41 = .ok (.bipush 122, 2) := by decide +kernel
theorem dX9_word_43 : decode mX9_word.2.1 43 = .ok (.goto 4, 3) := by decide +kernel
theorem dX9_word_46 : decode mX9_word.2.1 46 = .ok (.iload_n 1, 1) := by decide +kernel
theorem dX9_word_47 : decode mX9_word.2.1 47 = .ok (.ireturn, 1) := by decide +kernel
theorem dX9_readCommand_0 : decode mX9_readCommand.2.1 0 = .ok (.aload_n 0, 1) := by decide +kernel
theorem dX9_readCommand_1 : decode mX9_readCommand.2.1 1 = .ok (.getfield 183, 3) := by decide +kernel
theorem dX9_readCommand_4 : decode mX9_readCommand.2.1 4 = .ok (.ifCond .eq 4, 3) := by decide +kernel
theorem dX9_readCommand_7 : decode mX9_readCommand.2.1 7 = .ok (.return_, 1) := by decide +kernel
theorem dX9_readCommand_8 : decode mX9_readCommand.2.1 8 = .ok (.aload_n 0, 1) := by decide +kernel
theorem dX9_readCommand_9 : decode mX9_readCommand.2.1 9 = .ok (.iconst 0, 1) := by decide +kernel
theorem dX9_readCommand_10 : decode mX9_readCommand.2.1 10 = .ok (.invokevirtual 187, 3) := by decide +kernel
theorem dX9_readCommand_13 : decode mX9_readCommand.2.1 13 = .ok (.istore_n 1, 1) := by decide +kernel
theorem dX9_readCommand_14 : decode mX9_readCommand.2.1 14 = .ok (.iconst 4, 1) := by decide +kernel
theorem dX9_readCommand_15 : decode mX9_readCommand.2.1 15 = .ok (.aload_n 0, 1) := by decide +kernel
theorem dX9_readCommand_16 : decode mX9_readCommand.2.1 16 = .ok (.getfield 203, 3) := by decide +kernel
theorem dX9_readCommand_19 : decode mX9_readCommand.2.1 19 = .ok (.imul, 1) := by decide +kernel
theorem dX9_readCommand_20 : decode mX9_readCommand.2.1 20 = .ok (.istore_n 2, 1) := by decide +kernel
theorem dX9_readCommand_21 : decode mX9_readCommand.2.1 21 = .ok (.aload_n 0, 1) := by decide +kernel
theorem dX9_readCommand_22 : decode mX9_readCommand.2.1 22 = .ok (.dup, 1) := by decide +kernel
theorem dX9_readCommand_23 : decode mX9_readCommand.2.1 23 = .ok (.getfield 203, 3) := by decide +kernel
theorem dX9_readCommand_26 : decode mX9_readCommand.2.1 26 = .ok (.iconst 1, 1) := by decide +kernel
theorem dX9_readCommand_27 : decode mX9_readCommand.2.1 27 = .ok (.iadd, 1) := by decide +kernel
theorem dX9_readCommand_28 : decode mX9_readCommand.2.1 28 = .ok (.putfield 203, 3) := by decide +kernel
theorem dX9_readCommand_31 : decode mX9_readCommand.2.1 31 = .ok (.aload_n 0, 1) := by decide +kernel
theorem dX9_readCommand_32 : decode mX9_readCommand.2.1 32 = .ok (.getfield 36, 3) := by decide +kernel
theorem dX9_readCommand_35 : decode mX9_readCommand.2.1 35 = .ok (.iload_n 2, 1) := by decide +kernel
theorem dX9_readCommand_36 : decode mX9_readCommand.2.1 36 = .ok (.aload_n 0, 1) := by decide +kernel
theorem dX9_readCommand_37 : decode mX9_readCommand.2.1 37 = .ok (.invokevirtual 206, 3) := by decide +kernel
theorem dX9_readCommand_40 : decode mX9_readCommand.2.1 40 = .ok (.iastore, 1) := by decide +kernel
theorem dX9_readCommand_41 : decode mX9_readCommand.2.1 41 = .ok (.aload_n 0, 1) := by decide +kernel
theorem dX9_readCommand_42 : decode mX9_readCommand.2.1 42 = .ok (.getfield 36, 3) := by decide +kernel
theorem dX9_readCommand_45 : decode mX9_readCommand.2.1 45 = .ok (.iload_n 2, 1) := by decide +kernel
theorem dX9_readCommand_46 : decode mX9_readCommand.2.1 46 = .ok (.iaload, 1) := by decide +kernel
theorem dX9_readCommand_47 : decode mX9_readCommand.2.1 47 = .ok (.tableswitch 370 100 122 #[210, 370, 105, 370, 232, 370, 164, 370, 315, 370, 370, 370, 370, 370, 370, 164, 370, 370, 370, 267, 370, 370, 337], 105) := by decide +kernel
theorem dX9_readCommand_152 : decode mX9_readCommand.2.1 152 = .ok (.aload_n 0, 1) := by decide +kernel
theorem dX9_readCommand_153 : decode mX9_readCommand.2.1 153 = .ok (.iload_n 1, 1) := by decide +kernel
theorem dX9_readCommand_154 : decode mX9_readCommand.2.1 154 = .ok (.bipush 115, 2) := by decide +kernel
theorem dX9_readCommand_156 : decode mX9_readCommand.2.1 156 = .ok (.if_icmp .ne 8, 3) := by decide +kernel
theorem dX9_readCommand_159 : decode mX9_readCommand.2.1 159 = .ok (.ldc 209, 2) := by decide +kernel
theorem dX9_readCommand_161 : decode mX9_readCommand.2.1 161 = .ok (.goto 5, 3) := by decide +kernel
theorem dX9_readCommand_164 : decode mX9_readCommand.2.1 164 = .ok (.ldc 211, 2) := by decide +kernel
theorem dX9_readCommand_166 : decode mX9_readCommand.2.1 166 = .ok (.invokevirtual 195, 3) := by decide +kernel
theorem dX9_readCommand_169 : decode mX9_readCommand.2.1 169 = .ok (.aload_n 0, 1) := by decide +kernel
theorem dX9_readCommand_170 : decode mX9_readCommand.2.1 170 = .ok (.getfield 36, 3) := by decide +kernel
theorem dX9_readCommand_173 : decode mX9_readCommand.2.1 173 = .ok (.iload_n 2, 1) := by decide +kernel
theorem dX9_readCommand_174 : decode mX9_readCommand.2.1 174 = .ok (.iconst 1, 1) := by decide +kernel
theorem dX9_readCommand_175 : decode mX9_readCommand.2.1 175 = .ok (.iadd, 1) := by decide +kernel
theorem dX9_readCommand_176 : decode mX9_readCommand.2.1 176 = .ok (.aload_n 0, 1) := by decide +kernel
theorem dX9_readCommand_177 : decode mX9_readCommand.2.1 177 = .ok (.iconst 1, 1) := by decide +kernel
theorem dX9_readCommand_178 : decode mX9_readCommand.2.1 178 = .ok (.invokevirtual 213, 3) := by decide +kernel
theorem dX9_readCommand_181 : decode mX9_readCommand.2.1 181 = .ok (.iastore, 1) := by decide +kernel
theorem dX9_readCommand_182 : decode mX9_readCommand.2.1 182 = .ok (.aload_n 0, 1) := by decide +kernel
theorem dX9_readCommand_183 : decode mX9_readCommand.2.1 183 = .ok (.getfield 36, 3) := by decide +kernel
theorem dX9_readCommand_186 : decode mX9_readCommand.2.1 186 = .ok (.iload_n 2, 1) := by decide +kernel
theorem dX9_readCommand_187 : decode mX9_readCommand.2.1 187 = .ok (.iconst 2, 1) := by decide +kernel
theorem dX9_readCommand_188 : decode mX9_readCommand.2.1 188 = .ok (.iadd, 1) := by decide +kernel
theorem dX9_readCommand_189 : decode mX9_readCommand.2.1 189 = .ok (.aload_n 0, 1) := by decide +kernel
theorem dX9_readCommand_190 : decode mX9_readCommand.2.1 190 = .ok (.iconst 2, 1) := by decide +kernel
theorem dX9_readCommand_191 : decode mX9_readCommand.2.1 191 = .ok (.invokevirtual 213, 3) := by decide +kernel
theorem dX9_readCommand_194 : decode mX9_readCommand.2.1 194 = .ok (.iastore, 1) := by decide +kernel
theorem dX9_readCommand_195 : decode mX9_readCommand.2.1 195 = .ok (.aload_n 0, 1) := by decide +kernel
theorem dX9_readCommand_196 : decode mX9_readCommand.2.1 196 = .ok (.getfield 36, 3) := by decide +kernel
theorem dX9_readCommand_199 : decode mX9_readCommand.2.1 199 = .ok (.iload_n 2, 1) := by decide +kernel
theorem dX9_readCommand_200 : decode mX9_readCommand.2.1 200 = .ok (.iconst 3, 1) := by decide +kernel
theorem dX9_readCommand_201 : decode mX9_readCommand.2.1 201 = .ok (.iadd, 1) := by decide +kernel
theorem dX9_readCommand_202 : decode mX9_readCommand.2.1 202 = .ok (.aload_n 0, 1) := by decide +kernel
theorem dX9_readCommand_203 : decode mX9_readCommand.2.1 203 = .ok (.iconst 1, 1) := by decide +kernel
theorem dX9_readCommand_204 : decode mX9_readCommand.2.1 204 = .ok (.invokevirtual 216, 3) := by decide +kernel
theorem dX9_readCommand_207 : decode mX9_readCommand.2.1 207 = .ok (.iastore, 1) := by decide +kernel
theorem dX9_readCommand_208 : decode mX9_readCommand.2.1 208 = .ok (.goto 228, 3) := by decide +kernel
theorem dX9_readCommand_211 : decode mX9_readCommand.2.1 211 = .ok (.aload_n 0, 1) := by decide +kernel
theorem dX9_readCommand_212 : decode mX9_readCommand.2.1 212 = .ok (.iload_n 1, 1) := by decide +kernel
theorem dX9_readCommand_213 : decode mX9_readCommand.2.1 213 = .ok (.bipush 106, 2) := by decide +kernel
theorem dX9_readCommand_215 : decode mX9_readCommand.2.1 215 = .ok (.if_icmp .ne 8, 3) := by decide +kernel
theorem dX9_readCommand_218 : decode mX9_readCommand.2.1 218 = .ok (.ldc 220, 2) := by decide +kernel
theorem dX9_readCommand_220 : decode mX9_readCommand.2.1 220 = .ok (.goto 5, 3) := by decide +kernel
theorem dX9_readCommand_223 : decode mX9_readCommand.2.1 223 = .ok (.ldc 221, 2) := by decide +kernel
theorem dX9_readCommand_225 : decode mX9_readCommand.2.1 225 = .ok (.invokevirtual 195, 3) := by decide +kernel
theorem dX9_readCommand_228 : decode mX9_readCommand.2.1 228 = .ok (.aload_n 0, 1) := by decide +kernel
theorem dX9_readCommand_229 : decode mX9_readCommand.2.1 229 = .ok (.getfield 36, 3) := by decide +kernel
theorem dX9_readCommand_232 : decode mX9_readCommand.2.1 232 = .ok (.iload_n 2, 1) := by decide +kernel
theorem dX9_readCommand_233 : decode mX9_readCommand.2.1 233 = .ok (.iconst 1, 1) := by decide +kernel
theorem dX9_readCommand_234 : decode mX9_readCommand.2.1 234 = .ok (.iadd, 1) := by decide +kernel
theorem dX9_readCommand_235 : decode mX9_readCommand.2.1 235 = .ok (.aload_n 0, 1) := by decide +kernel
theorem dX9_readCommand_236 : decode mX9_readCommand.2.1 236 = .ok (.iconst 0, 1) := by decide +kernel
theorem dX9_readCommand_237 : decode mX9_readCommand.2.1 237 = .ok (.invokevirtual 216, 3) := by decide +kernel
theorem dX9_readCommand_240 : decode mX9_readCommand.2.1 240 = .ok (.iastore, 1) := by decide +kernel
theorem dX9_readCommand_241 : decode mX9_readCommand.2.1 241 = .ok (.aload_n 0, 1) := by decide +kernel
theorem dX9_readCommand_242 : decode mX9_readCommand.2.1 242 = .ok (.getfield 36, 3) := by decide +kernel
theorem dX9_readCommand_245 : decode mX9_readCommand.2.1 245 = .ok (.iload_n 2, 1) := by decide +kernel
theorem dX9_readCommand_246 : decode mX9_readCommand.2.1 246 = .ok (.iconst 2, 1) := by decide +kernel
theorem dX9_readCommand_247 : decode mX9_readCommand.2.1 247 = .ok (.iadd, 1) := by decide +kernel
theorem dX9_readCommand_248 : decode mX9_readCommand.2.1 248 = .ok (.aload_n 0, 1) := by decide +kernel
theorem dX9_readCommand_249 : decode mX9_readCommand.2.1 249 = .ok (.iconst 2, 1) := by decide +kernel
theorem dX9_readCommand_250 : decode mX9_readCommand.2.1 250 = .ok (.invokevirtual 213, 3) := by decide +kernel
theorem dX9_readCommand_253 : decode mX9_readCommand.2.1 253 = .ok (.iastore, 1) := by decide +kernel
theorem dX9_readCommand_254 : decode mX9_readCommand.2.1 254 = .ok (.goto 182, 3) := by decide +kernel
theorem dX9_readCommand_257 : decode mX9_readCommand.2.1 257 = .ok (.aload_n 0, 1) := by decide +kernel
theorem dX9_readCommand_258 : decode mX9_readCommand.2.1 258 = .ok (.ldc 223, 2) := by decide +kernel
theorem dX9_readCommand_260 : decode mX9_readCommand.2.1 260 = .ok (.invokevirtual 195, 3) := by decide +kernel
theorem dX9_readCommand_263 : decode mX9_readCommand.2.1 263 = .ok (.aload_n 0, 1) := by decide +kernel
theorem dX9_readCommand_264 : decode mX9_readCommand.2.1 264 = .ok (.getfield 36, 3) := by decide +kernel
theorem dX9_readCommand_267 : decode mX9_readCommand.2.1 267 = .ok (.iload_n 2, 1) := by decide +kernel
theorem dX9_readCommand_268 : decode mX9_readCommand.2.1 268 = .ok (.iconst 1, 1) := by decide +kernel
theorem dX9_readCommand_269 : decode mX9_readCommand.2.1 269 = .ok (.iadd, 1) := by decide +kernel
theorem dX9_readCommand_270 : decode mX9_readCommand.2.1 270 = .ok (.aload_n 0, 1) := by decide +kernel
theorem dX9_readCommand_271 : decode mX9_readCommand.2.1 271 = .ok (.iconst 0, 1) := by decide +kernel
theorem dX9_readCommand_272 : decode mX9_readCommand.2.1 272 = .ok (.invokevirtual 216, 3) := by decide +kernel
theorem dX9_readCommand_275 : decode mX9_readCommand.2.1 275 = .ok (.iastore, 1) := by decide +kernel
theorem dX9_readCommand_276 : decode mX9_readCommand.2.1 276 = .ok (.goto 160, 3) := by decide +kernel
theorem dX9_readCommand_279 : decode mX9_readCommand.2.1 279 = .ok (.aload_n 0, 1) := by decide +kernel
theorem dX9_readCommand_280 : decode mX9_readCommand.2.1 280 = .ok (.ldc 225, 2) := by decide +kernel
theorem dX9_readCommand_282 : decode mX9_readCommand.2.1 282 = .ok (.invokevirtual 195, 3) := by decide +kernel
theorem dX9_readCommand_285 : decode mX9_readCommand.2.1 285 = .ok (.aload_n 0, 1) := by decide +kernel
theorem dX9_readCommand_286 : decode mX9_readCommand.2.1 286 = .ok (.getfield 36, 3) := by decide +kernel
theorem dX9_readCommand_289 : decode mX9_readCommand.2.1 289 = .ok (.iload_n 2, 1) := by decide +kernel
theorem dX9_readCommand_290 : decode mX9_readCommand.2.1 290 = .ok (.iconst 1, 1) := by decide +kernel
theorem dX9_readCommand_291 : decode mX9_readCommand.2.1 291 = .ok (.iadd, 1) := by decide +kernel
theorem dX9_readCommand_292 : decode mX9_readCommand.2.1 292 = .ok (.aload_n 0, 1) := by decide +kernel
theorem dX9_readCommand_293 : decode mX9_readCommand.2.1 293 = .ok (.iconst 1, 1) := by decide +kernel
theorem dX9_readCommand_294 : decode mX9_readCommand.2.1 294 = .ok (.invokevirtual 213, 3) := by decide +kernel
theorem dX9_readCommand_297 : decode mX9_readCommand.2.1 297 = .ok (.iastore, 1) := by decide +kernel
theorem dX9_readCommand_298 : decode mX9_readCommand.2.1 298 = .ok (.aload_n 0, 1) := by decide +kernel
theorem dX9_readCommand_299 : decode mX9_readCommand.2.1 299 = .ok (.getfield 36, 3) := by decide +kernel
theorem dX9_readCommand_302 : decode mX9_readCommand.2.1 302 = .ok (.iload_n 2, 1) := by decide +kernel
theorem dX9_readCommand_303 : decode mX9_readCommand.2.1 303 = .ok (.iconst 2, 1) := by decide +kernel
theorem dX9_readCommand_304 : decode mX9_readCommand.2.1 304 = .ok (.iadd, 1) := by decide +kernel
theorem dX9_readCommand_305 : decode mX9_readCommand.2.1 305 = .ok (.aload_n 0, 1) := by decide +kernel
theorem dX9_readCommand_306 : decode mX9_readCommand.2.1 306 = .ok (.iconst 0, 1) := by decide +kernel
theorem dX9_readCommand_307 : decode mX9_readCommand.2.1 307 = .ok (.invokevirtual 216, 3) := by decide +kernel
theorem dX9_readCommand_310 : decode mX9_readCommand.2.1 310 = .ok (.iastore, 1) := by decide +kernel
theorem dX9_readCommand_311 : decode mX9_readCommand.2.1 311 = .ok (.goto 125, 3) := by decide +kernel
theorem dX9_readCommand_314 : decode mX9_readCommand.2.1 314 = .ok (.aload_n 0, 1) := by decide +kernel
theorem dX9_readCommand_315 : decode mX9_readCommand.2.1 315 = .ok (.ldc 227, 2) := by decide +kernel
theorem dX9_readCommand_317 : decode mX9_readCommand.2.1 317 = .ok (.invokevirtual 195, 3) := by decide +kernel
theorem dX9_readCommand_320 : decode mX9_readCommand.2.1 320 = .ok (.aload_n 0, 1) := by decide +kernel
theorem dX9_readCommand_321 : decode mX9_readCommand.2.1 321 = .ok (.getfield 36, 3) := by decide +kernel
theorem dX9_readCommand_324 : decode mX9_readCommand.2.1 324 = .ok (.iload_n 2, 1) := by decide +kernel
theorem dX9_readCommand_325 : decode mX9_readCommand.2.1 325 = .ok (.iconst 1, 1) := by decide +kernel
theorem dX9_readCommand_326 : decode mX9_readCommand.2.1 326 = .ok (.iadd, 1) := by decide +kernel
theorem dX9_readCommand_327 : decode mX9_readCommand.2.1 327 = .ok (.aload_n 0, 1) := by decide +kernel
theorem dX9_readCommand_328 : decode mX9_readCommand.2.1 328 = .ok (.iconst 1, 1) := by decide +kernel
theorem dX9_readCommand_329 : decode mX9_readCommand.2.1 329 = .ok (.invokevirtual 213, 3) := by decide +kernel
theorem dX9_readCommand_332 : decode mX9_readCommand.2.1 332 = .ok (.iastore, 1) := by decide +kernel
theorem dX9_readCommand_333 : decode mX9_readCommand.2.1 333 = .ok (.aload_n 0, 1) := by decide +kernel
theorem dX9_readCommand_334 : decode mX9_readCommand.2.1 334 = .ok (.getfield 36, 3) := by decide +kernel
theorem dX9_readCommand_337 : decode mX9_readCommand.2.1 337 = .ok (.iload_n 2, 1) := by decide +kernel
theorem dX9_readCommand_338 : decode mX9_readCommand.2.1 338 = .ok (.iconst 2, 1) := by decide +kernel
theorem dX9_readCommand_339 : decode mX9_readCommand.2.1 339 = .ok (.iadd, 1) := by decide +kernel
theorem dX9_readCommand_340 : decode mX9_readCommand.2.1 340 = .ok (.aload_n 0, 1) := by decide +kernel
theorem dX9_readCommand_341 : decode mX9_readCommand.2.1 341 = .ok (.iconst 0, 1) := by decide +kernel
theorem dX9_readCommand_342 : decode mX9_readCommand.2.1 342 = .ok (.invokevirtual 216, 3) := by decide +kernel
theorem dX9_readCommand_345 : decode mX9_readCommand.2.1 345 = .ok (.iastore, 1) := by decide +kernel
theorem dX9_readCommand_346 : decode mX9_readCommand.2.1 346 = .ok (.aload_n 0, 1) := by decide +kernel
theorem dX9_readCommand_347 : decode mX9_readCommand.2.1 347 = .ok (.getfield 36, 3) := by decide +kernel
theorem dX9_readCommand_350 : decode mX9_readCommand.2.1 350 = .ok (.iload_n 2, 1) := by decide +kernel
theorem dX9_readCommand_351 : decode mX9_readCommand.2.1 351 = .ok (.iconst 3, 1) := by decide +kernel
theorem dX9_readCommand_352 : decode mX9_readCommand.2.1 352 = .ok (.iadd, 1) := by decide +kernel
theorem dX9_readCommand_353 : decode mX9_readCommand.2.1 353 = .ok (.aload_n 0, 1) := by decide +kernel
theorem dX9_readCommand_354 : decode mX9_readCommand.2.1 354 = .ok (.iconst 2, 1) := by decide +kernel
theorem dX9_readCommand_355 : decode mX9_readCommand.2.1 355 = .ok (.invokevirtual 213, 3) := by decide +kernel
theorem dX9_readCommand_358 : decode mX9_readCommand.2.1 358 = .ok (.iastore, 1) := by decide +kernel
theorem dX9_readCommand_359 : decode mX9_readCommand.2.1 359 = .ok (.goto 77, 3) := by decide +kernel
theorem dX9_readCommand_362 : decode mX9_readCommand.2.1 362 = .ok (.aload_n 0, 1) := by decide +kernel
theorem dX9_readCommand_363 : decode mX9_readCommand.2.1 363 = .ok (.ldc 229, 2) := by decide +kernel
theorem dX9_readCommand_365 : decode mX9_readCommand.2.1 365 = .ok (.invokevirtual 195, 3) := by decide +kernel
theorem dX9_readCommand_368 : decode mX9_readCommand.2.1 368 = .ok (.aload_n 0, 1) := by decide +kernel
theorem dX9_readCommand_369 : decode mX9_readCommand.2.1 369 = .ok (.getfield 36, 3) := by decide +kernel
theorem dX9_readCommand_372 : decode mX9_readCommand.2.1 372 = .ok (.iload_n 2, 1) := by decide +kernel
theorem dX9_readCommand_373 : decode mX9_readCommand.2.1 373 = .ok (.iconst 1, 1) := by decide +kernel
theorem dX9_readCommand_374 : decode mX9_readCommand.2.1 374 = .ok (.iadd, 1) := by decide +kernel
theorem dX9_readCommand_375 : decode mX9_readCommand.2.1 375 = .ok (.aload_n 0, 1) := by decide +kernel
theorem dX9_readCommand_376 : decode mX9_readCommand.2.1 376 = .ok (.iconst 1, 1) := by decide +kernel
theorem dX9_readCommand_377 : decode mX9_readCommand.2.1 377 = .ok (.invokevirtual 213, 3) := by decide +kernel
theorem dX9_readCommand_380 : decode mX9_readCommand.2.1 380 = .ok (.iastore, 1) := by decide +kernel
theorem dX9_readCommand_381 : decode mX9_readCommand.2.1 381 = .ok (.goto 55, 3) := by decide +kernel
theorem dX9_readCommand_384 : decode mX9_readCommand.2.1 384 = .ok (.aload_n 0, 1) := by decide +kernel
theorem dX9_readCommand_385 : decode mX9_readCommand.2.1 385 = .ok (.iload_n 1, 1) := by decide +kernel
theorem dX9_readCommand_386 : decode mX9_readCommand.2.1 386 = .ok (.bipush 100, 2) := by decide +kernel
theorem dX9_readCommand_388 : decode mX9_readCommand.2.1 388 = .ok (.if_icmp .ne 8, 3) := by decide +kernel
theorem dX9_readCommand_391 : decode mX9_readCommand.2.1 391 = .ok (.ldc 231, 2) := by decide +kernel
theorem dX9_readCommand_393 : decode mX9_readCommand.2.1 393 = .ok (.goto 5, 3) := by decide +kernel
theorem dX9_readCommand_396 : decode mX9_readCommand.2.1 396 = .ok (.ldc 211, 2) := by decide +kernel
theorem dX9_readCommand_398 : decode mX9_readCommand.2.1 398 = .ok (.invokevirtual 195, 3) := by decide +kernel
theorem dX9_readCommand_401 : decode mX9_readCommand.2.1 401 = .ok (.aload_n 0, 1) := by decide +kernel
theorem dX9_readCommand_402 : decode mX9_readCommand.2.1 402 = .ok (.getfield 36, 3) := by decide +kernel
theorem dX9_readCommand_405 : decode mX9_readCommand.2.1 405 = .ok (.iload_n 2, 1) := by decide +kernel
theorem dX9_readCommand_406 : decode mX9_readCommand.2.1 406 = .ok (.iconst 1, 1) := by decide +kernel
theorem dX9_readCommand_407 : decode mX9_readCommand.2.1 407 = .ok (.iadd, 1) := by decide +kernel
theorem dX9_readCommand_408 : decode mX9_readCommand.2.1 408 = .ok (.aload_n 0, 1) := by decide +kernel
theorem dX9_readCommand_409 : decode mX9_readCommand.2.1 409 = .ok (.iconst 1, 1) := by decide +kernel
theorem dX9_readCommand_410 : decode mX9_readCommand.2.1 410 = .ok (.invokevirtual 213, 3) := by decide +kernel
theorem dX9_readCommand_413 : decode mX9_readCommand.2.1 413 = .ok (.iastore, 1) := by decide +kernel
theorem dX9_readCommand_414 : decode mX9_readCommand.2.1 414 = .ok (.goto 22, 3) := by decide +kernel
theorem dX9_readCommand_417 : decode mX9_readCommand.2.1 417 = .ok (.aload_n 0, 1) := by decide +kernel
theorem dX9_readCommand_418 : decode mX9_readCommand.2.1 418 = .ok (.ldc 211, 2) := by decide +kernel
theorem dX9_readCommand_420 : decode mX9_readCommand.2.1 420 = .ok (.invokevirtual 195, 3) := by decide +kernel
theorem dX9_readCommand_423 : decode mX9_readCommand.2.1 423 = .ok (.aload_n 0, 1) := by decide +kernel
theorem dX9_readCommand_424 : decode mX9_readCommand.2.1 424 = .ok (.getfield 36, 3) := by decide +kernel
theorem dX9_readCommand_427 : decode mX9_readCommand.2.1 427 = .ok (.iload_n 2, 1) := by decide +kernel
theorem dX9_readCommand_428 : decode mX9_readCommand.2.1 428 = .ok (.iconst 1, 1) := by decide +kernel
theorem dX9_readCommand_429 : decode mX9_readCommand.2.1 429 = .ok (.iadd, 1) := by decide +kernel
theorem dX9_readCommand_430 : decode mX9_readCommand.2.1 430 = .ok (.aload_n 0, 1) := by decide +kernel
theorem dX9_readCommand_431 : decode mX9_readCommand.2.1 431 = .ok (.iconst 2, 1) := by decide +kernel
theorem dX9_readCommand_432 : decode mX9_readCommand.2.1 432 = .ok (.invokevirtual 213, 3) := by decide +kernel
theorem dX9_readCommand_435 : decode mX9_readCommand.2.1 435 = .ok (.iastore, 1) := by decide +kernel
theorem dX9_readCommand_436 : decode mX9_readCommand.2.1 436 = .ok (.return_, 1) := by decide +kernel
theorem dX9_does_0 : decode mX9_does.2.1 0 = .ok (.aload_n 0, 1) := by decide +kernel
theorem dX9_does_1 : decode mX9_does.2.1 1 = .ok (.getfield 36, 3) := by decide +kernel
theorem dX9_does_4 : decode mX9_does.2.1 4 = .ok (.iconst 4, 1) := by decide +kernel
theorem dX9_does_5 : decode mX9_does.2.1 5 = .ok (.iload_n 1, 1) := by decide +kernel
theorem dX9_does_6 : decode mX9_does.2.1 6 = .ok (.imul, 1) := by decide +kernel
theorem dX9_does_7 : decode mX9_does.2.1 7 = .ok (.iconst 1, 1) := by decide +kernel
theorem dX9_does_8 : decode mX9_does.2.1 8 = .ok (.iadd, 1) := by decide +kernel
theorem dX9_does_9 : decode mX9_does.2.1 9 = .ok (.iaload, 1) := by decide +kernel
theorem dX9_does_10 : decode mX9_does.2.1 10 = .ok (.istore_n 2, 1) := by decide +kernel
theorem dX9_does_11 : decode mX9_does.2.1 11 = .ok (.aload_n 0, 1) := by decide +kernel
theorem dX9_does_12 : decode mX9_does.2.1 12 = .ok (.getfield 36, 3) := by decide +kernel
theorem dX9_does_15 : decode mX9_does.2.1 15 = .ok (.iconst 4, 1) := by decide +kernel
theorem dX9_does_16 : decode mX9_does.2.1 16 = .ok (.iload_n 1, 1) := by decide +kernel
theorem dX9_does_17 : decode mX9_does.2.1 17 = .ok (.imul, 1) := by decide +kernel
theorem dX9_does_18 : decode mX9_does.2.1 18 = .ok (.iconst 2, 1) := by decide +kernel
theorem dX9_does_19 : decode mX9_does.2.1 19 = .ok (.iadd, 1) := by decide +kernel
theorem dX9_does_20 : decode mX9_does.2.1 20 = .ok (.iaload, 1) := by decide +kernel
theorem dX9_does_21 : decode mX9_does.2.1 21 = .ok (.istore_n 3, 1) := by decide +kernel
theorem dX9_does_22 : decode mX9_does.2.1 22 = .ok (.aload_n 0, 1) := by decide +kernel
theorem dX9_does_23 : decode mX9_does.2.1 23 = .ok (.getfield 36, 3) := by decide +kernel
theorem dX9_does_26 : decode mX9_does.2.1 26 = .ok (.iconst 4, 1) := by decide +kernel
theorem dX9_does_27 : decode mX9_does.2.1 27 = .ok (.iload_n 1, 1) := by decide +kernel
theorem dX9_does_28 : decode mX9_does.2.1 28 = .ok (.imul, 1) := by decide +kernel
theorem dX9_does_29 : decode mX9_does.2.1 29 = .ok (.iconst 3, 1) := by decide +kernel
theorem dX9_does_30 : decode mX9_does.2.1 30 = .ok (.iadd, 1) := by decide +kernel
theorem dX9_does_31 : decode mX9_does.2.1 31 = .ok (.iaload, 1) := by decide +kernel
theorem dX9_does_32 : decode mX9_does.2.1 32 = .ok (.istore 4, 2) := by decide +kernel
theorem dX9_does_34 : decode mX9_does.2.1 34 = .ok (.aload_n 0, 1) := by decide +kernel
theorem dX9_does_35 : decode mX9_does.2.1 35 = .ok (.getfield 36, 3) := by decide +kernel
theorem dX9_does_38 : decode mX9_does.2.1 38 = .ok (.iconst 4, 1) := by decide +kernel
theorem dX9_does_39 : decode mX9_does.2.1 39 = .ok (.iload_n 1, 1) := by decide +kernel
theorem dX9_does_40 : decode mX9_does.2.1 40 = .ok (.imul, 1) := by decide +kernel
theorem dX9_does_41 : decode mX9_does.2.1 41 = .ok (.iaload, 1) := by decide +kernel
theorem dX9_does_42 : decode mX9_does.2.1 42 = .ok (.tableswitch 203 100 122 #[141, 203, 106, 203, 151, 203, 119, 203, 175, 203, 203, 203, 203, 203, 203, 130, 203, 203, 203, 162, 203, 203, 175], 106) := by decide +kernel
theorem dX9_does_148 : decode mX9_does.2.1 148 = .ok (.aload_n 0, 1) := by decide +kernel
theorem dX9_does_149 : decode mX9_does.2.1 149 = .ok (.iload_n 2, 1) := by decide +kernel
theorem dX9_does_150 : decode mX9_does.2.1 150 = .ok (.iload_n 3, 1) := by decide +kernel
theorem dX9_does_151 : decode mX9_does.2.1 151 = .ok (.iload 4, 2) := by decide +kernel
theorem dX9_does_153 : decode mX9_does.2.1 153 = .ok (.invokevirtual 118, 3) := by decide +kernel
theorem dX9_does_156 : decode mX9_does.2.1 156 = .ok (.istore 5, 2) := by decide +kernel
theorem dX9_does_158 : decode mX9_does.2.1 158 = .ok (.goto 94, 3) := by decide +kernel
theorem dX9_does_161 : decode mX9_does.2.1 161 = .ok (.aload_n 0, 1) := by decide +kernel
theorem dX9_does_162 : decode mX9_does.2.1 162 = .ok (.iload_n 2, 1) := by decide +kernel
theorem dX9_does_163 : decode mX9_does.2.1 163 = .ok (.iload_n 3, 1) := by decide +kernel
theorem dX9_does_164 : decode mX9_does.2.1 164 = .ok (.invokevirtual 102, 3) := by decide +kernel
theorem dX9_does_167 : decode mX9_does.2.1 167 = .ok (.istore 5, 2) := by decide +kernel
theorem dX9_does_169 : decode mX9_does.2.1 169 = .ok (.goto 83, 3) := by decide +kernel
theorem dX9_does_172 : decode mX9_does.2.1 172 = .ok (.aload_n 0, 1) := by decide +kernel
theorem dX9_does_173 : decode mX9_does.2.1 173 = .ok (.iload_n 2, 1) := by decide +kernel
theorem dX9_does_174 : decode mX9_does.2.1 174 = .ok (.iload_n 3, 1) := by decide +kernel
theorem dX9_does_175 : decode mX9_does.2.1 175 = .ok (.invokevirtual 111, 3) := by decide +kernel
theorem dX9_does_178 : decode mX9_does.2.1 178 = .ok (.istore 5, 2) := by decide +kernel
theorem dX9_does_180 : decode mX9_does.2.1 180 = .ok (.goto 72, 3) := by decide +kernel
theorem dX9_does_183 : decode mX9_does.2.1 183 = .ok (.aload_n 0, 1) := by decide +kernel
theorem dX9_does_184 : decode mX9_does.2.1 184 = .ok (.iload_n 2, 1) := by decide +kernel
theorem dX9_does_185 : decode mX9_does.2.1 185 = .ok (.invokevirtual 108, 3) := by decide +kernel
theorem dX9_does_188 : decode mX9_does.2.1 188 = .ok (.istore 5, 2) := by decide +kernel
theorem dX9_does_190 : decode mX9_does.2.1 190 = .ok (.goto 62, 3) := by decide +kernel
theorem dX9_does_193 : decode mX9_does.2.1 193 = .ok (.aload_n 0, 1) := by decide +kernel
theorem dX9_does_194 : decode mX9_does.2.1 194 = .ok (.iload_n 2, 1) := by decide +kernel
theorem dX9_does_195 : decode mX9_does.2.1 195 = .ok (.iload_n 3, 1) := by decide +kernel
theorem dX9_does_196 : decode mX9_does.2.1 196 = .ok (.invokevirtual 148, 3) := by decide +kernel
theorem dX9_does_199 : decode mX9_does.2.1 199 = .ok (.istore 5, 2) := by decide +kernel
theorem dX9_does_201 : decode mX9_does.2.1 201 = .ok (.goto 51, 3) := by decide +kernel
theorem dX9_does_204 : decode mX9_does.2.1 204 = .ok (.aload_n 0, 1) := by decide +kernel
theorem dX9_does_205 : decode mX9_does.2.1 205 = .ok (.iload_n 2, 1) := by decide +kernel
theorem dX9_does_206 : decode mX9_does.2.1 206 = .ok (.iload_n 3, 1) := by decide +kernel
theorem dX9_does_207 : decode mX9_does.2.1 207 = .ok (.iload 4, 2) := by decide +kernel
theorem dX9_does_209 : decode mX9_does.2.1 209 = .ok (.invokevirtual 151, 3) := by decide +kernel
theorem dX9_does_212 : decode mX9_does.2.1 212 = .ok (.istore 5, 2) := by decide +kernel
theorem dX9_does_214 : decode mX9_does.2.1 214 = .ok (.goto 38, 3) := by decide +kernel
theorem dX9_does_217 : decode mX9_does.2.1 217 = .ok (.aload_n 0, 1) := by decide +kernel
theorem dX9_does_218 : decode mX9_does.2.1 218 = .ok (.iload_n 2, 1) := by decide +kernel
theorem dX9_does_219 : decode mX9_does.2.1 219 = .ok (.aload_n 0, 1) := by decide +kernel
theorem dX9_does_220 : decode mX9_does.2.1 220 = .ok (.getfield 36, 3) := by decide +kernel
theorem dX9_does_223 : decode mX9_does.2.1 223 = .ok (.iconst 4, 1) := by decide +kernel
theorem dX9_does_224 : decode mX9_does.2.1 224 = .ok (.iload_n 1, 1) := by decide +kernel
theorem dX9_does_225 : decode mX9_does.2.1 225 = .ok (.imul, 1) := by decide +kernel
theorem dX9_does_226 : decode mX9_does.2.1 226 = .ok (.iaload, 1) := by decide +kernel
theorem dX9_does_227 : decode mX9_does.2.1 227 = .ok (.bipush 108, 2) := by decide +kernel
theorem dX9_does_229 : decode mX9_does.2.1 229 = .ok (.if_icmp .ne 7, 3) := by decide +kernel
theorem dX9_does_232 : decode mX9_does.2.1 232 = .ok (.iconst 1, 1) := by decide +kernel
theorem dX9_does_233 : decode mX9_does.2.1 233 = .ok (.goto 4, 3) := by decide +kernel
theorem dX9_does_236 : decode mX9_does.2.1 236 = .ok (.iconst 0, 1) := by decide +kernel
theorem dX9_does_237 : decode mX9_does.2.1 237 = .ok (.invokevirtual 125, 3) := by decide +kernel
theorem dX9_does_240 : decode mX9_does.2.1 240 = .ok (.istore 5, 2) := by decide +kernel
theorem dX9_does_242 : decode mX9_does.2.1 242 = .ok (.goto 10, 3) := by decide +kernel
theorem dX9_does_245 : decode mX9_does.2.1 245 = .ok (.aload_n 0, 1) := by decide +kernel
theorem dX9_does_246 : decode mX9_does.2.1 246 = .ok (.iload_n 2, 1) := by decide +kernel
theorem dX9_does_247 : decode mX9_does.2.1 247 = .ok (.invokevirtual 160, 3) := by decide +kernel
theorem dX9_does_250 : decode mX9_does.2.1 250 = .ok (.istore 5, 2) := by decide +kernel
theorem dX9_does_252 : decode mX9_does.2.1 252 = .ok (.return_, 1) := by decide +kernel
theorem dX9_execute_0 : decode mX9_execute.2.1 0 = .ok (.aload_n 0, 1) := by decide +kernel
theorem dX9_execute_1 : decode mX9_execute.2.1 1 = .ok (.iconst 0, 1) := by decide +kernel
theorem dX9_execute_2 : decode mX9_execute.2.1 2 = .ok (.putfield 176, 3) := by decide +kernel
theorem dX9_execute_5 : decode mX9_execute.2.1 5 = .ok (.aload_n 0, 1) := by decide +kernel
theorem dX9_execute_6 : decode mX9_execute.2.1 6 = .ok (.iconst 0, 1) := by decide +kernel
theorem dX9_execute_7 : decode mX9_execute.2.1 7 = .ok (.putfield 183, 3) := by decide +kernel
theorem dX9_execute_10 : decode mX9_execute.2.1 10 = .ok (.aload_n 0, 1) := by decide +kernel
theorem dX9_execute_11 : decode mX9_execute.2.1 11 = .ok (.iconst 0, 1) := by decide +kernel
theorem dX9_execute_12 : decode mX9_execute.2.1 12 = .ok (.putfield 203, 3) := by decide +kernel
theorem dX9_execute_15 : decode mX9_execute.2.1 15 = .ok (.aload_n 0, 1) := by decide +kernel
theorem dX9_execute_16 : decode mX9_execute.2.1 16 = .ok (.invokevirtual 233, 3) := by decide +kernel
theorem dX9_execute_19 : decode mX9_execute.2.1 19 = .ok (.aload_n 0, 1) := by decide +kernel
theorem dX9_execute_20 : decode mX9_execute.2.1 20 = .ok (.getfield 183, 3) := by decide +kernel
theorem dX9_execute_23 : decode mX9_execute.2.1 23 = .ok (.ifCond .ne 30, 3) := by decide +kernel
theorem dX9_execute_26 : decode mX9_execute.2.1 26 = .ok (.aload_n 0, 1) := by decide +kernel
theorem dX9_execute_27 : decode mX9_execute.2.1 27 = .ok (.iconst 0, 1) := by decide +kernel
theorem dX9_execute_28 : decode mX9_execute.2.1 28 = .ok (.invokevirtual 187, 3) := by decide +kernel
theorem dX9_execute_31 : decode mX9_execute.2.1 31 = .ok (.bipush 59, 2) := by decide +kernel
theorem dX9_execute_33 : decode mX9_execute.2.1 33 = .ok (.if_icmp .ne 20, 3) := by decide +kernel
theorem dX9_execute_36 : decode mX9_execute.2.1 36 = .ok (.aload_n 0, 1) := by decide +kernel
theorem dX9_execute_37 : decode mX9_execute.2.1 37 = .ok (.dup, 1) := by decide +kernel
theorem dX9_execute_38 : decode mX9_execute.2.1 38 = .ok (.getfield 176, 3) := by decide +kernel
theorem dX9_execute_41 : decode mX9_execute.2.1 41 = .ok (.iconst 1, 1) := by decide +kernel
theorem dX9_execute_42 : decode mX9_execute.2.1 42 = .ok (.iadd, 1) := by decide +kernel
theorem dX9_execute_43 : decode mX9_execute.2.1 43 = .ok (.putfield 176, 3) := by decide +kernel
theorem dX9_execute_46 : decode mX9_execute.2.1 46 = .ok (.aload_n 0, 1) := by decide +kernel
theorem dX9_execute_47 : decode mX9_execute.2.1 47 = .ok (.invokevirtual 233, 3) := by decide +kernel
theorem dX9_execute_50 : decode mX9_execute.2.1 50 = .ok (.goto (-31), 3) := by decide +kernel
theorem dX9_execute_53 : decode mX9_execute.2.1 53 = .ok (.aload_n 0, 1) := by decide +kernel
theorem dX9_execute_54 : decode mX9_execute.2.1 54 = .ok (.aload_n 0, 1) := by decide +kernel
theorem dX9_execute_55 : decode mX9_execute.2.1 55 = .ok (.getfield 183, 3) := by decide +kernel
theorem dX9_execute_58 : decode mX9_execute.2.1 58 = .ok (.ifCond .ne 14, 3) := by decide +kernel
theorem dX9_execute_61 : decode mX9_execute.2.1 61 = .ok (.aload_n 0, 1) := by decide +kernel
theorem dX9_execute_62 : decode mX9_execute.2.1 62 = .ok (.getfield 176, 3) := by decide +kernel
theorem dX9_execute_65 : decode mX9_execute.2.1 65 = .ok (.aload_n 0, 1) := by decide +kernel
theorem dX9_execute_66 : decode mX9_execute.2.1 66 = .ok (.getfield 173, 3) := by decide +kernel
theorem dX9_execute_69 : decode mX9_execute.2.1 69 = .ok (.if_icmp .ge 7, 3) := by decide +kernel
theorem dX9_execute_72 : decode mX9_execute.2.1 72 = .ok (.iconst 1, 1) := by decide +kernel
theorem dX9_execute_73 : decode mX9_execute.2.1 73 = .ok (.goto 4, 3) := by decide +kernel
theorem dX9_execute_76 : decode mX9_execute.2.1 76 = .ok (.iconst 0, 1) := by decide +kernel
theorem dX9_execute_77 : decode mX9_execute.2.1 77 = .ok (.putfield 183, 3) := by decide +kernel
theorem dX9_execute_80 : decode mX9_execute.2.1 80 = .ok (.aload_n 0, 1) := by decide +kernel
theorem dX9_execute_81 : decode mX9_execute.2.1 81 = .ok (.aload_n 0, 1) := by decide +kernel
theorem dX9_execute_82 : decode mX9_execute.2.1 82 = .ok (.getfield 183, 3) := by decide +kernel
theorem dX9_execute_85 : decode mX9_execute.2.1 85 = .ok (.ifCond .eq 10, 3) := by decide +kernel
theorem dX9_execute_88 : decode mX9_execute.2.1 88 = .ok (.aload_n 0, 1) := by decide +kernel
theorem dX9_execute_89 : decode mX9_execute.2.1 89 = .ok (.getfield 176, 3) := by decide +kernel
theorem dX9_execute_92 : decode mX9_execute.2.1 92 = .ok (.goto 7, 3) := by decide +kernel
theorem dX9_execute_95 : decode mX9_execute.2.1 95 = .ok (.aload_n 0, 1) := by decide +kernel
theorem dX9_execute_96 : decode mX9_execute.2.1 96 = .ok (.getfield 29, 3) := by decide +kernel
theorem dX9_execute_99 : decode mX9_execute.2.1 99 = .ok (.putfield 29, 3) := by decide +kernel
theorem dX9_execute_102 : decode mX9_execute.2.1 102 = .ok (.aload_n 0, 1) := by decide +kernel
theorem dX9_execute_103 : decode mX9_execute.2.1 103 = .ok (.iconst 0, 1) := by decide +kernel
theorem dX9_execute_104 : decode mX9_execute.2.1 104 = .ok (.putfield 173, 3) := by decide +kernel
theorem dX9_execute_107 : decode mX9_execute.2.1 107 = .ok (.aload_n 0, 1) := by decide +kernel
theorem dX9_execute_108 : decode mX9_execute.2.1 108 = .ok (.getfield 183, 3) := by decide +kernel
theorem dX9_execute_111 : decode mX9_execute.2.1 111 = .ok (.ifCond .eq 9, 3) := by decide +kernel
theorem dX9_execute_114 : decode mX9_execute.2.1 114 = .ok (.aload_n 0, 1) := by decide +kernel
theorem dX9_execute_115 : decode mX9_execute.2.1 115 = .ok (.iconst 1, 1) := by decide +kernel
theorem dX9_execute_116 : decode mX9_execute.2.1 116 = .ok (.invokevirtual 92, 3) := by decide +kernel
theorem dX9_execute_119 : decode mX9_execute.2.1 119 = .ok (.ireturn, 1) := by decide +kernel
theorem dX9_execute_120 : decode mX9_execute.2.1 120 = .ok (.aload_n 0, 1) := by decide +kernel
theorem dX9_execute_121 : decode mX9_execute.2.1 121 = .ok (.invokevirtual 99, 3) := by decide +kernel
theorem dX9_execute_124 : decode mX9_execute.2.1 124 = .ok (.iconst 0, 1) := by decide +kernel
theorem dX9_execute_125 : decode mX9_execute.2.1 125 = .ok (.istore_n 1, 1) := by decide +kernel
theorem dX9_execute_126 : decode mX9_execute.2.1 126 = .ok (.iload_n 1, 1) := by decide +kernel
theorem dX9_execute_127 : decode mX9_execute.2.1 127 = .ok (.aload_n 0, 1) := by decide +kernel
theorem dX9_execute_128 : decode mX9_execute.2.1 128 = .ok (.getfield 203, 3) := by decide +kernel
theorem dX9_execute_131 : decode mX9_execute.2.1 131 = .ok (.if_icmp .ge 36, 3) := by decide +kernel
theorem dX9_execute_134 : decode mX9_execute.2.1 134 = .ok (.aload_n 0, 1) := by decide +kernel
theorem dX9_execute_135 : decode mX9_execute.2.1 135 = .ok (.iload_n 1, 1) := by decide +kernel
theorem dX9_execute_136 : decode mX9_execute.2.1 136 = .ok (.invokevirtual 236, 3) := by decide +kernel
theorem dX9_execute_139 : decode mX9_execute.2.1 139 = .ok (.aload_n 0, 1) := by decide +kernel
theorem dX9_execute_140 : decode mX9_execute.2.1 140 = .ok (.getfield 39, 3) := by decide +kernel
theorem dX9_execute_143 : decode mX9_execute.2.1 143 = .ok (.ifCond .le 18, 3) := by decide +kernel
theorem dX9_execute_146 : decode mX9_execute.2.1 146 = .ok (.aload_n 0, 1) := by decide +kernel
theorem dX9_execute_147 : decode mX9_execute.2.1 147 = .ok (.iload_n 1, 1) := by decide +kernel
theorem dX9_execute_148 : decode mX9_execute.2.1 148 = .ok (.putfield 33, 3) := by decide +kernel
theorem dX9_execute_151 : decode mX9_execute.2.1 151 = .ok (.aload_n 0, 1) := by decide +kernel
theorem dX9_execute_152 : decode mX9_execute.2.1 152 = .ok (.aload_n 0, 1) := by decide +kernel
theorem dX9_execute_153 : decode mX9_execute.2.1 153 = .ok (.iconst 2, 1) := by decide +kernel
theorem dX9_execute_154 : decode mX9_execute.2.1 154 = .ok (.invokevirtual 92, 3) := by decide +kernel
theorem dX9_execute_157 : decode mX9_execute.2.1 157 = .ok (.invokevirtual 105, 3) := by decide +kernel
theorem dX9_execute_160 : decode mX9_execute.2.1 160 = .ok (.ireturn, 1) := by decide +kernel
theorem dX9_execute_161 : decode mX9_execute.2.1 161 = .ok (.iinc 1 1, 3) := by decide +kernel
theorem dX9_execute_164 : decode mX9_execute.2.1 164 = .ok (.goto (-38), 3) := by decide +kernel
theorem dX9_execute_167 : decode mX9_execute.2.1 167 = .ok (.aload_n 0, 1) := by decide +kernel
theorem dX9_execute_168 : decode mX9_execute.2.1 168 = .ok (.aload_n 0, 1) := by decide +kernel
theorem dX9_execute_169 : decode mX9_execute.2.1 169 = .ok (.getfield 203, 3) := by decide +kernel
theorem dX9_execute_172 : decode mX9_execute.2.1 172 = .ok (.invokevirtual 105, 3) := by decide +kernel
theorem dX9_execute_175 : decode mX9_execute.2.1 175 = .ok (.ireturn, 1) := by decide +kernel
theorem dX9_errorPosition_0 : decode mX9_errorPosition.2.1 0 = .ok (.aload_n 0, 1) := by decide +kernel
theorem dX9_errorPosition_1 : decode mX9_errorPosition.2.1 1 = .ok (.aload_n 0, 1) := by decide +kernel
theorem dX9_errorPosition_2 : decode mX9_errorPosition.2.1 2 = .ok (.getfield 29, 3) := by decide +kernel
theorem dX9_errorPosition_5 : decode mX9_errorPosition.2.1 5 = .ok (.ifCond .lt 7, 3) := by decide +kernel
theorem dX9_errorPosition_8 : decode mX9_errorPosition.2.1 8 = .ok (.iconst 1, 1) := by decide +kernel
theorem dX9_errorPosition_9 : decode mX9_errorPosition.2.1 9 = .ok (.goto 4, 3) := by decide +kernel
theorem dX9_errorPosition_12 : decode mX9_errorPosition.2.1 12 = .ok (.iconst 0, 1) := by decide +kernel
theorem dX9_errorPosition_13 : decode mX9_errorPosition.2.1 13 = .ok (.invokevirtual 114, 3) := by decide +kernel
theorem dX9_errorPosition_16 : decode mX9_errorPosition.2.1 16 = .ok (.ifCond .eq 10, 3) := by decide +kernel
theorem dX9_errorPosition_19 : decode mX9_errorPosition.2.1 19 = .ok (.aload_n 0, 1) := by decide +kernel
theorem dX9_errorPosition_20 : decode mX9_errorPosition.2.1 20 = .ok (.getfield 29, 3) := by decide +kernel
theorem dX9_errorPosition_23 : decode mX9_errorPosition.2.1 23 = .ok (.goto 4, 3) := by decide +kernel
theorem dX9_errorPosition_26 : decode mX9_errorPosition.2.1 26 = .ok (.iconst 0, 1) := by decide +kernel
theorem dX9_errorPosition_27 : decode mX9_errorPosition.2.1 27 = .ok (.ireturn, 1) := by decide +kernel
theorem dX9_failedCommand_0 : decode mX9_failedCommand.2.1 0 = .ok (.aload_n 0, 1) := by decide +kernel
theorem dX9_failedCommand_1 : decode mX9_failedCommand.2.1 1 = .ok (.aload_n 0, 1) := by decide +kernel
theorem dX9_failedCommand_2 : decode mX9_failedCommand.2.1 2 = .ok (.getfield 33, 3) := by decide +kernel
theorem dX9_failedCommand_5 : decode mX9_failedCommand.2.1 5 = .ok (.ifCond .lt 7, 3) := by decide +kernel
theorem dX9_failedCommand_8 : decode mX9_failedCommand.2.1 8 = .ok (.iconst 1, 1) := by decide +kernel
theorem dX9_failedCommand_9 : decode mX9_failedCommand.2.1 9 = .ok (.goto 4, 3) := by decide +kernel
theorem dX9_failedCommand_12 : decode mX9_failedCommand.2.1 12 = .ok (.iconst 0, 1) := by decide +kernel
theorem dX9_failedCommand_13 : decode mX9_failedCommand.2.1 13 = .ok (.invokevirtual 114, 3) := by decide +kernel
theorem dX9_failedCommand_16 : decode mX9_failedCommand.2.1 16 = .ok (.ifCond .eq 10, 3) := by decide +kernel
theorem dX9_failedCommand_19 : decode mX9_failedCommand.2.1 19 = .ok (.aload_n 0, 1) := by decide +kernel
theorem dX9_failedCommand_20 : decode mX9_failedCommand.2.1 20 = .ok (.getfield 33, 3) := by decide +kernel
theorem dX9_failedCommand_23 : decode mX9_failedCommand.2.1 23 = .ok (.goto 4, 3) := by decide +kernel
theorem dX9_failedCommand_26 : decode mX9_failedCommand.2.1 26 = .ok (.iconst 0, 1) := by decide +kernel
theorem dX9_failedCommand_27 : decode mX9_failedCommand.2.1 27 = .ok (.ireturn, 1) := by decide +kernel
theorem dX9_undo_0 : decode mX9_undo.2.1 0 = .ok (.aload_n 0, 1) := by decide +kernel
theorem dX9_undo_1 : decode mX9_undo.2.1 1 = .ok (.aload_n 0, 1) := by decide +kernel
theorem dX9_undo_2 : decode mX9_undo.2.1 2 = .ok (.getfield 48, 3) := by decide +kernel
theorem dX9_undo_5 : decode mX9_undo.2.1 5 = .ok (.ifCond .ne 7, 3) := by decide +kernel
theorem dX9_undo_8 : decode mX9_undo.2.1 8 = .ok (.iconst 1, 1) := by decide +kernel
theorem dX9_undo_9 : decode mX9_undo.2.1 9 = .ok (.goto 4, 3) := by decide +kernel
theorem dX9_undo_12 : decode mX9_undo.2.1 12 = .ok (.iconst 0, 1) := by decide +kernel
theorem dX9_undo_13 : decode mX9_undo.2.1 13 = .ok (.putfield 39, 3) := by decide +kernel
theorem dX9_undo_16 : decode mX9_undo.2.1 16 = .ok (.aload_n 0, 1) := by decide +kernel
theorem dX9_undo_17 : decode mX9_undo.2.1 17 = .ok (.getfield 39, 3) := by decide +kernel
theorem dX9_undo_20 : decode mX9_undo.2.1 20 = .ok (.ifCond .le 5, 3) := by decide +kernel
theorem dX9_undo_23 : decode mX9_undo.2.1 23 = .ok (.iconst 0, 1) := by decide +kernel
theorem dX9_undo_24 : decode mX9_undo.2.1 24 = .ok (.ireturn, 1) := by decide +kernel
theorem dX9_undo_25 : decode mX9_undo.2.1 25 = .ok (.aload_n 0, 1) := by decide +kernel
theorem dX9_undo_26 : decode mX9_undo.2.1 26 = .ok (.dup, 1) := by decide +kernel
theorem dX9_undo_27 : decode mX9_undo.2.1 27 = .ok (.getfield 48, 3) := by decide +kernel
theorem dX9_undo_30 : decode mX9_undo.2.1 30 = .ok (.iconst 1, 1) := by decide +kernel
theorem dX9_undo_31 : decode mX9_undo.2.1 31 = .ok (.isub, 1) := by decide +kernel
theorem dX9_undo_32 : decode mX9_undo.2.1 32 = .ok (.putfield 48, 3) := by decide +kernel
theorem dX9_undo_35 : decode mX9_undo.2.1 35 = .ok (.aload_n 0, 1) := by decide +kernel
theorem dX9_undo_36 : decode mX9_undo.2.1 36 = .ok (.getfield 19, 3) := by decide +kernel
theorem dX9_undo_39 : decode mX9_undo.2.1 39 = .ok (.sipush 858, 3) := by decide +kernel
theorem dX9_undo_42 : decode mX9_undo.2.1 42 = .ok (.aload_n 0, 1) := by decide +kernel
theorem dX9_undo_43 : decode mX9_undo.2.1 43 = .ok (.getfield 48, 3) := by decide +kernel
theorem dX9_undo_46 : decode mX9_undo.2.1 46 = .ok (.imul, 1) := by decide +kernel
theorem dX9_undo_47 : decode mX9_undo.2.1 47 = .ok (.aload_n 0, 1) := by decide +kernel
theorem dX9_undo_48 : decode mX9_undo.2.1 48 = .ok (.getfield 9, 3) := by decide +kernel
theorem dX9_undo_51 : decode mX9_undo.2.1 51 = .ok (.iconst 0, 1) := by decide +kernel
theorem dX9_undo_52 : decode mX9_undo.2.1 52 = .ok (.sipush 858, 3) := by decide +kernel
theorem dX9_undo_55 : decode mX9_undo.2.1 55 = .ok (.invokestatic 42, 3) := by decide +kernel
theorem dX9_undo_58 : decode mX9_undo.2.1 58 = .ok (.aload_n 0, 1) := by decide +kernel
theorem dX9_undo_59 : decode mX9_undo.2.1 59 = .ok (.getfield 48, 3) := by decide +kernel
theorem dX9_undo_62 : decode mX9_undo.2.1 62 = .ok (.ireturn, 1) := by decide +kernel
theorem dX9_save_0 : decode mX9_save.2.1 0 = .ok (.aload_n 0, 1) := by decide +kernel
theorem dX9_save_1 : decode mX9_save.2.1 1 = .ok (.iconst 0, 1) := by decide +kernel
theorem dX9_save_2 : decode mX9_save.2.1 2 = .ok (.putfield 39, 3) := by decide +kernel
theorem dX9_save_5 : decode mX9_save.2.1 5 = .ok (.aload_n 0, 1) := by decide +kernel
theorem dX9_save_6 : decode mX9_save.2.1 6 = .ok (.getfield 9, 3) := by decide +kernel
theorem dX9_save_9 : decode mX9_save.2.1 9 = .ok (.iconst 0, 1) := by decide +kernel
theorem dX9_save_10 : decode mX9_save.2.1 10 = .ok (.aload_n 0, 1) := by decide +kernel
theorem dX9_save_11 : decode mX9_save.2.1 11 = .ok (.getfield 16, 3) := by decide +kernel
theorem dX9_save_14 : decode mX9_save.2.1 14 = .ok (.iconst 0, 1) := by decide +kernel
theorem dX9_save_15 : decode mX9_save.2.1 15 = .ok (.sipush 858, 3) := by decide +kernel
theorem dX9_save_18 : decode mX9_save.2.1 18 = .ok (.invokestatic 42, 3) := by decide +kernel
theorem dX9_save_21 : decode mX9_save.2.1 21 = .ok (.aload_n 0, 1) := by decide +kernel
theorem dX9_save_22 : decode mX9_save.2.1 22 = .ok (.iconst 1, 1) := by decide +kernel
theorem dX9_save_23 : decode mX9_save.2.1 23 = .ok (.putfield 239, 3) := by decide +kernel
theorem dX9_save_26 : decode mX9_save.2.1 26 = .ok (.aload_n 0, 1) := by decide +kernel
theorem dX9_save_27 : decode mX9_save.2.1 27 = .ok (.invokevirtual 95, 3) := by decide +kernel
theorem dX9_save_30 : decode mX9_save.2.1 30 = .ok (.ireturn, 1) := by decide +kernel
theorem dX9_restore_0 : decode mX9_restore.2.1 0 = .ok (.aload_n 0, 1) := by decide +kernel
theorem dX9_restore_1 : decode mX9_restore.2.1 1 = .ok (.aload_n 0, 1) := by decide +kernel
theorem dX9_restore_2 : decode mX9_restore.2.1 2 = .ok (.getfield 239, 3) := by decide +kernel
theorem dX9_restore_5 : decode mX9_restore.2.1 5 = .ok (.ifCond .eq 7, 3) := by decide +kernel
theorem dX9_restore_8 : decode mX9_restore.2.1 8 = .ok (.iconst 0, 1) := by decide +kernel
theorem dX9_restore_9 : decode mX9_restore.2.1 9 = .ok (.goto 4, 3) := by decide +kernel
theorem dX9_restore_12 : decode mX9_restore.2.1 12 = .ok (.iconst 1, 1) := by decide +kernel
theorem dX9_restore_13 : decode mX9_restore.2.1 13 = .ok (.putfield 39, 3) := by decide +kernel
theorem dX9_restore_16 : decode mX9_restore.2.1 16 = .ok (.aload_n 0, 1) := by decide +kernel
theorem dX9_restore_17 : decode mX9_restore.2.1 17 = .ok (.getfield 39, 3) := by decide +kernel
theorem dX9_restore_20 : decode mX9_restore.2.1 20 = .ok (.ifCond .le 5, 3) := by decide +kernel
theorem dX9_restore_23 : decode mX9_restore.2.1 23 = .ok (.iconst 0, 1) := by decide +kernel
theorem dX9_restore_24 : decode mX9_restore.2.1 24 = .ok (.ireturn, 1) := by decide +kernel
theorem dX9_restore_25 : decode mX9_restore.2.1 25 = .ok (.aload_n 0, 1) := by decide +kernel
theorem dX9_restore_26 : decode mX9_restore.2.1 26 = .ok (.getfield 16, 3) := by decide +kernel
theorem dX9_restore_29 : decode mX9_restore.2.1 29 = .ok (.iconst 0, 1) := by decide +kernel
theorem dX9_restore_30 : decode mX9_restore.2.1 30 = .ok (.aload_n 0, 1) := by decide +kernel
theorem dX9_restore_31 : decode mX9_restore.2.1 31 = .ok (.getfield 9, 3) := by decide +kernel
theorem dX9_restore_34 : decode mX9_restore.2.1 34 = .ok (.iconst 0, 1) := by decide +kernel
theorem dX9_restore_35 : decode mX9_restore.2.1 35 = .ok (.sipush 858, 3) := by decide +kernel
theorem dX9_restore_38 : decode mX9_restore.2.1 38 = .ok (.invokestatic 42, 3) := by decide +kernel
theorem dX9_restore_41 : decode mX9_restore.2.1 41 = .ok (.aload_n 0, 1) := by decide +kernel
theorem dX9_restore_42 : decode mX9_restore.2.1 42 = .ok (.iconst 0, 1) := by decide +kernel
theorem dX9_restore_43 : decode mX9_restore.2.1 43 = .ok (.putfield 48, 3) := by decide +kernel
theorem dX9_restore_46 : decode mX9_restore.2.1 46 = .ok (.aload_n 0, 1) := by decide +kernel
theorem dX9_restore_47 : decode mX9_restore.2.1 47 = .ok (.invokevirtual 95, 3) := by decide +kernel
theorem dX9_restore_50 : decode mX9_restore.2.1 50 = .ok (.ireturn, 1) := by decide +kernel
