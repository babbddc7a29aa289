theorem dX8_init_0 : decode mX8_init.2.1 0 = .ok (.aload_n 0, 1) := by decide +kernel
theorem dX8_init_1 : decode mX8_init.2.1 1 = .ok (.invokespecial 1, 3) := by decide +kernel
theorem dX8_init_4 : decode mX8_init.2.1 4 = .ok (.aload_n 0, 1) := by decide +kernel
theorem dX8_init_5 : decode mX8_init.2.1 5 = .ok (.new 7, 3) := by decide +kernel
theorem dX8_init_8 : decode mX8_init.2.1 8 = .ok (.dup, 1) := by decide +kernel
theorem dX8_init_9 : decode mX8_init.2.1 9 = .ok (.invokespecial 9, 3) := by decide +kernel
theorem dX8_init_12 : decode mX8_init.2.1 12 = .ok (.putfield 10, 3) := by decide +kernel
theorem dX8_init_15 : decode mX8_init.2.1 15 = .ok (.aload_n 0, 1) := by decide +kernel
theorem dX8_init_16 : decode mX8_init.2.1 16 = .ok (.new 16, 3) := by decide +kernel
theorem dX8_init_19 : decode mX8_init.2.1 19 = .ok (.dup, 1) := by decide +kernel
theorem dX8_init_20 : decode mX8_init.2.1 20 = .ok (.invokespecial 18, 3) := by decide +kernel
theorem dX8_init_23 : decode mX8_init.2.1 23 = .ok (.putfield 19, 3) := by decide +kernel
theorem dX8_init_26 : decode mX8_init.2.1 26 = .ok (.aload_n 0, 1) := by decide +kernel
theorem dX8_init_27 : decode mX8_init.2.1 27 = .ok (.new 7, 3) := by decide +kernel
theorem dX8_init_30 : decode mX8_init.2.1 30 = .ok (.dup, 1) := by decide +kernel
theorem dX8_init_31 : decode mX8_init.2.1 31 = .ok (.invokespecial 9, 3) := by decide +kernel
theorem dX8_init_34 : decode mX8_init.2.1 34 = .ok (.putfield 23, 3) := by decide +kernel
theorem dX8_init_37 : decode mX8_init.2.1 37 = .ok (.aload_n 0, 1) := by decide +kernel
theorem dX8_init_38 : decode mX8_init.2.1 38 = .ok (.iconst 0, 1) := by decide +kernel
theorem dX8_init_39 : decode mX8_init.2.1 39 = .ok (.putfield 26, 3) := by decide +kernel
theorem dX8_init_42 : decode mX8_init.2.1 42 = .ok (.aload_n 0, 1) := by decide +kernel
theorem dX8_init_43 : decode mX8_init.2.1 43 = .ok (.new 30, 3) := by decide +kernel
theorem dX8_init_46 : decode mX8_init.2.1 46 = .ok (.dup, 1) := by decide +kernel
theorem dX8_init_47 : decode mX8_init.2.1 47 = .ok (.invokespecial 32, 3) := by decide +kernel
theorem dX8_init_50 : decode mX8_init.2.1 50 = .ok (.putfield 33, 3) := by decide +kernel
theorem dX8_init_53 : decode mX8_init.2.1 53 = .ok (.aload_n 0, 1) := by decide +kernel
theorem dX8_init_54 : decode mX8_init.2.1 54 = .ok (.iconst (-1), 1) := by decide +kernel
theorem dX8_init_55 : decode mX8_init.2.1 55 = .ok (.putfield 37, 3) := by decide +kernel
theorem dX8_init_58 : decode mX8_init.2.1 58 = .ok (.aload_n 0, 1) := by decide +kernel
theorem dX8_init_59 : decode mX8_init.2.1 59 = .ok (.iconst (-1), 1) := by decide +kernel
theorem dX8_init_60 : decode mX8_init.2.1 60 = .ok (.putfield 41, 3) := by decide +kernel
theorem dX8_init_63 : decode mX8_init.2.1 63 = .ok (.aload_n 0, 1) := by decide +kernel
theorem dX8_init_64 : decode mX8_init.2.1 64 = .ok (.new 44, 3) := by decide +kernel
theorem dX8_init_67 : decode mX8_init.2.1 67 = .ok (.dup, 1) := by decide +kernel
theorem dX8_init_68 : decode mX8_init.2.1 68 = .ok (.invokespecial 46, 3) := by decide +kernel
theorem dX8_init_71 : decode mX8_init.2.1 71 = .ok (.putfield 47, 3) := by decide +kernel
theorem dX8_init_74 : decode mX8_init.2.1 74 = .ok (.return_, 1) := by decide +kernel
theorem dX8_addJar_0 : decode mX8_addJar.2.1 0 = .ok (.aload_n 0, 1) := by decide +kernel
theorem dX8_addJar_1 : decode mX8_addJar.2.1 1 = .ok (.getfield 10, 3) := by decide +kernel
theorem dX8_addJar_4 : decode mX8_addJar.2.1 4 = .ok (.iload_n 1, 1) := by decide +kernel
theorem dX8_addJar_5 : decode mX8_addJar.2.1 5 = .ok (.iload_n 2, 1) := by decide +kernel
theorem dX8_addJar_6 : decode mX8_addJar.2.1 6 = .ok (.invokevirtual 51, 3) := by decide +kernel
theorem dX8_addJar_9 : decode mX8_addJar.2.1 9 = .ok (.invokestatic 55, 3) := by decide +kernel
theorem dX8_addJar_12 : decode mX8_addJar.2.1 12 = .ok (.aload_n 0, 1) := by decide +kernel
theorem dX8_addJar_13 : decode mX8_addJar.2.1 13 = .ok (.getfield 19, 3) := by decide +kernel
theorem dX8_addJar_16 : decode mX8_addJar.2.1 16 = .ok (.aload_n 0, 1) := by decide +kernel
theorem dX8_addJar_17 : decode mX8_addJar.2.1 17 = .ok (.getfield 10, 3) := by decide +kernel
theorem dX8_addJar_20 : decode mX8_addJar.2.1 20 = .ok (.invokevirtual 59, 3) := by decide +kernel
theorem dX8_addJar_23 : decode mX8_addJar.2.1 23 = .ok (.aload_n 0, 1) := by decide +kernel
theorem dX8_addJar_24 : decode mX8_addJar.2.1 24 = .ok (.getfield 10, 3) := by decide +kernel
theorem dX8_addJar_27 : decode mX8_addJar.2.1 27 = .ok (.iload_n 1, 1) := by decide +kernel
theorem dX8_addJar_28 : decode mX8_addJar.2.1 28 = .ok (.iload_n 2, 1) := by decide +kernel
theorem dX8_addJar_29 : decode mX8_addJar.2.1 29 = .ok (.invokevirtual 63, 3) := by decide +kernel
theorem dX8_addJar_32 : decode mX8_addJar.2.1 32 = .ok (.ireturn, 1) := by decide +kernel
theorem dX8_removeJar_0 : decode mX8_removeJar.2.1 0 = .ok (.aload_n 0, 1) := by decide +kernel
theorem dX8_removeJar_1 : decode mX8_removeJar.2.1 1 = .ok (.getfield 10, 3) := by decide +kernel
theorem dX8_removeJar_4 : decode mX8_removeJar.2.1 4 = .ok (.iload_n 1, 1) := by decide +kernel
theorem dX8_removeJar_5 : decode mX8_removeJar.2.1 5 = .ok (.invokevirtual 66, 3) := by decide +kernel
theorem dX8_removeJar_8 : decode mX8_removeJar.2.1 8 = .ok (.invokestatic 55, 3) := by decide +kernel
theorem dX8_removeJar_11 : decode mX8_removeJar.2.1 11 = .ok (.aload_n 0, 1) := by decide +kernel
theorem dX8_removeJar_12 : decode mX8_removeJar.2.1 12 = .ok (.getfield 19, 3) := by decide +kernel
theorem dX8_removeJar_15 : decode mX8_removeJar.2.1 15 = .ok (.aload_n 0, 1) := by decide +kernel
theorem dX8_removeJar_16 : decode mX8_removeJar.2.1 16 = .ok (.getfield 10, 3) := by decide +kernel
theorem dX8_removeJar_19 : decode mX8_removeJar.2.1 19 = .ok (.invokevirtual 59, 3) := by decide +kernel
theorem dX8_removeJar_22 : decode mX8_removeJar.2.1 22 = .ok (.aload_n 0, 1) := by decide +kernel
theorem dX8_removeJar_23 : decode mX8_removeJar.2.1 23 = .ok (.getfield 10, 3) := by decide +kernel
theorem dX8_removeJar_26 : decode mX8_removeJar.2.1 26 = .ok (.iload_n 1, 1) := by decide +kernel
theorem dX8_removeJar_27 : decode mX8_removeJar.2.1 27 = .ok (.invokevirtual 70, 3) := by decide +kernel
theorem dX8_removeJar_30 : decode mX8_removeJar.2.1 30 = .ok (.ireturn, 1) := by decide +kernel
theorem dX8_say_0 : decode mX8_say.2.1 0 = .ok (.aload_n 0, 1) := by decide +kernel
theorem dX8_say_1 : decode mX8_say.2.1 1 = .ok (.getfield 10, 3) := by decide +kernel
theorem dX8_say_4 : decode mX8_say.2.1 4 = .ok (.iload_n 1, 1) := by decide +kernel
theorem dX8_say_5 : decode mX8_say.2.1 5 = .ok (.iload_n 2, 1) := by decide +kernel
theorem dX8_say_6 : decode mX8_say.2.1 6 = .ok (.invokevirtual 73, 3) := by decide +kernel
theorem dX8_say_9 : decode mX8_say.2.1 9 = .ok (.invokestatic 55, 3) := by decide +kernel
theorem dX8_say_12 : decode mX8_say.2.1 12 = .ok (.aload_n 0, 1) := by decide +kernel
theorem dX8_say_13 : decode mX8_say.2.1 13 = .ok (.getfield 19, 3) := by decide +kernel
theorem dX8_say_16 : decode mX8_say.2.1 16 = .ok (.aload_n 0, 1) := by decide +kernel
theorem dX8_say_17 : decode mX8_say.2.1 17 = .ok (.getfield 10, 3) := by decide +kernel
theorem dX8_say_20 : decode mX8_say.2.1 20 = .ok (.invokevirtual 59, 3) := by decide +kernel
theorem dX8_say_23 : decode mX8_say.2.1 23 = .ok (.aload_n 0, 1) := by decide +kernel
theorem dX8_say_24 : decode mX8_say.2.1 24 = .ok (.getfield 10, 3) := by decide +kernel
theorem dX8_say_27 : decode mX8_say.2.1 27 = .ok (.iload_n 1, 1) := by decide +kernel
theorem dX8_say_28 : decode mX8_say.2.1 28 = .ok (.iload_n 2, 1) := by decide +kernel
theorem dX8_say_29 : decode mX8_say.2.1 29 = .ok (.invokevirtual 76, 3) := by decide +kernel
theorem dX8_say_32 : decode mX8_say.2.1 32 = .ok (.ireturn, 1) := by decide +kernel
theorem dX8_jarCount_0 : decode mX8_jarCount.2.1 0 = .ok (.aload_n 0, 1) := by decide +kernel
theorem dX8_jarCount_1 : decode mX8_jarCount.2.1 1 = .ok (.getfield 10, 3) := by decide +kernel
theorem dX8_jarCount_4 : decode mX8_jarCount.2.1 4 = .ok (.invokevirtual 79, 3) := by decide +kernel
theorem dX8_jarCount_7 : decode mX8_jarCount.2.1 7 = .ok (.ireturn, 1) := by decide +kernel
theorem dX8_jarAt_0 : decode mX8_jarAt.2.1 0 = .ok (.aload_n 0, 1) := by decide +kernel
theorem dX8_jarAt_1 : decode mX8_jarAt.2.1 1 = .ok (.getfield 10, 3) := by decide +kernel
theorem dX8_jarAt_4 : decode mX8_jarAt.2.1 4 = .ok (.iload_n 1, 1) := by decide +kernel
theorem dX8_jarAt_5 : decode mX8_jarAt.2.1 5 = .ok (.invokevirtual 83, 3) := by decide +kernel
theorem dX8_jarAt_8 : decode mX8_jarAt.2.1 8 = .ok (.istore_n 2, 1) := by decide +kernel
theorem dX8_jarAt_9 : decode mX8_jarAt.2.1 9 = .ok (.iload_n 2, 1) := by decide +kernel
theorem dX8_jarAt_10 : decode mX8_jarAt.2.1 10 = .ok (.bipush 32, 2) := by decide +kernel
theorem dX8_jarAt_12 : decode mX8_jarAt.2.1 12 = .ok (.if_icmp .ne 13, 3) := by decide +kernel
theorem dX8_jarAt_15 : decode mX8_jarAt.2.1 15 = .ok (.new 87, 3) := by decide +kernel
theorem dX8_jarAt_18 : decode mX8_jarAt.2.1 18 = .ok (.dup, 1) := by decide +kernel
theorem dX8_jarAt_19 : decode mX8_jarAt.2.1 19 = .ok (.ldc 89, 2) := by decide +kernel
theorem dX8_jarAt_21 : decode mX8_jarAt.2.1 21 = .ok (.invokespecial 91, 3) := by decide +kernel
theorem dX8_jarAt_24 : decode mX8_jarAt.2.1 24 = .ok (.athrow, 1) := by decide +kernel
theorem dX8_jarAt_25 : decode mX8_jarAt.2.1 25 = .ok (.iload_n 2, 1) := by decide +kernel
theorem dX8_jarAt_26 : decode mX8_jarAt.2.1 26 = .ok (.ireturn, 1) := by decide +kernel
theorem dX8_wordOf_0 : decode mX8_wordOf.2.1 0 = .ok (.aload_n 0, 1) := by decide +kernel
theorem dX8_wordOf_1 : decode mX8_wordOf.2.1 1 = .ok (.iload_n 1, 1) := by decide +kernel
theorem dX8_wordOf_2 : decode mX8_wordOf.2.1 2 = .ok (.invokevirtual 94, 3) := by decide +kernel
theorem dX8_wordOf_5 : decode mX8_wordOf.2.1 5 = .ok (.getfield 98, 3) := by decide +kernel
theorem dX8_wordOf_8 : decode mX8_wordOf.2.1 8 = .ok (.ireturn, 1) := by decide +kernel
theorem dX8_addShelf_0 : decode mX8_addShelf.2.1 0 = .ok (.aload_n 0, 1) := by decide +kernel
theorem dX8_addShelf_1 : decode mX8_addShelf.2.1 1 = .ok (.getfield 10, 3) := by decide +kernel
theorem dX8_addShelf_4 : decode mX8_addShelf.2.1 4 = .ok (.iload_n 1, 1) := by decide +kernel
theorem dX8_addShelf_5 : decode mX8_addShelf.2.1 5 = .ok (.iload_n 2, 1) := by decide +kernel
theorem dX8_addShelf_6 : decode mX8_addShelf.2.1 6 = .ok (.iload_n 3, 1) := by decide +kernel
theorem dX8_addShelf_7 : decode mX8_addShelf.2.1 7 = .ok (.invokevirtual 103, 3) := by decide +kernel
theorem dX8_addShelf_10 : decode mX8_addShelf.2.1 10 = .ok (.invokestatic 55, 3) := by decide +kernel
theorem dX8_addShelf_13 : decode mX8_addShelf.2.1 13 = .ok (.aload_n 0, 1) := by decide +kernel
theorem dX8_addShelf_14 : decode mX8_addShelf.2.1 14 = .ok (.getfield 19, 3) := by decide +kernel
theorem dX8_addShelf_17 : decode mX8_addShelf.2.1 17 = .ok (.aload_n 0, 1) := by decide +kernel
theorem dX8_addShelf_18 : decode mX8_addShelf.2.1 18 = .ok (.getfield 10, 3) := by decide +kernel
theorem dX8_addShelf_21 : decode mX8_addShelf.2.1 21 = .ok (.invokevirtual 59, 3) := by decide +kernel
theorem dX8_addShelf_24 : decode mX8_addShelf.2.1 24 = .ok (.aload_n 0, 1) := by decide +kernel
theorem dX8_addShelf_25 : decode mX8_addShelf.2.1 25 = .ok (.getfield 10, 3) := by decide +kernel
theorem dX8_addShelf_28 : decode mX8_addShelf.2.1 28 = .ok (.iload_n 1, 1) := by decide +kernel
theorem dX8_addShelf_29 : decode mX8_addShelf.2.1 29 = .ok (.iload_n 2, 1) := by decide +kernel
theorem dX8_addShelf_30 : decode mX8_addShelf.2.1 30 = .ok (.iload_n 3, 1) := by decide +kernel
theorem dX8_addShelf_31 : decode mX8_addShelf.2.1 31 = .ok (.invokevirtual 107, 3) := by decide +kernel
theorem dX8_addShelf_34 : decode mX8_addShelf.2.1 34 = .ok (.ireturn, 1) := by decide +kernel
theorem dX8_setListening_0 : decode mX8_setListening.2.1 0 = .ok (.aload_n 0, 1) := by decide +kernel
theorem dX8_setListening_1 : decode mX8_setListening.2.1 1 = .ok (.iload_n 1, 1) := by decide +kernel
theorem dX8_setListening_2 : decode mX8_setListening.2.1 2 = .ok (.invokevirtual 110, 3) := by decide +kernel
theorem dX8_setListening_5 : decode mX8_setListening.2.1 5 = .ok (.astore_n 3, 1) := by decide +kernel
theorem dX8_setListening_6 : decode mX8_setListening.2.1 6 = .ok (.aload_n 0, 1) := by decide +kernel
theorem dX8_setListening_7 : decode mX8_setListening.2.1 7 = .ok (.getfield 19, 3) := by decide +kernel
theorem dX8_setListening_10 : decode mX8_setListening.2.1 10 = .ok (.aload_n 0, 1) := by decide +kernel
theorem dX8_setListening_11 : decode mX8_setListening.2.1 11 = .ok (.getfield 10, 3) := by decide +kernel
theorem dX8_setListening_14 : decode mX8_setListening.2.1 14 = .ok (.invokevirtual 59, 3) := by decide +kernel
theorem dX8_setListening_17 : decode mX8_setListening.2.1 17 = .ok (.aload_n 3, 1) := by decide +kernel
theorem dX8_setListening_18 : decode mX8_setListening.2.1 18 = .ok (.getfield 114, 3) := by decide +kernel
theorem dX8_setListening_21 : decode mX8_setListening.2.1 21 = .ok (.istore 4, 2) := by decide +kernel
theorem dX8_setListening_23 : decode mX8_setListening.2.1 23 = .ok (.aload_n 3, 1) := by decide +kernel
theorem dX8_setListening_24 : decode mX8_setListening.2.1 24 = .ok (.iload_n 2, 1) := by decide +kernel
theorem dX8_setListening_25 : decode mX8_setListening.2.1 25 = .ok (.putfield 114, 3) := by decide +kernel
theorem dX8_setListening_28 : decode mX8_setListening.2.1 28 = .ok (.iload 4, 2) := by decide +kernel
theorem dX8_setListening_30 : decode mX8_setListening.2.1 30 = .ok (.ireturn, 1) := by decide +kernel
theorem dX8_shelfCount_0 : decode mX8_shelfCount.2.1 0 = .ok (.aload_n 0, 1) := by decide +kernel
theorem dX8_shelfCount_1 : decode mX8_shelfCount.2.1 1 = .ok (.getfield 10, 3) := by decide +kernel
theorem dX8_shelfCount_4 : decode mX8_shelfCount.2.1 4 = .ok (.invokevirtual 119, 3) := by decide +kernel
theorem dX8_shelfCount_7 : decode mX8_shelfCount.2.1 7 = .ok (.ireturn, 1) := by decide +kernel
theorem dX8_capacityOf_0 : decode mX8_capacityOf.2.1 0 = .ok (.aload_n 0, 1) := by decide +kernel
theorem dX8_capacityOf_1 : decode mX8_capacityOf.2.1 1 = .ok (.iload_n 1, 1) := by decide +kernel
theorem dX8_capacityOf_2 : decode mX8_capacityOf.2.1 2 = .ok (.invokevirtual 110, 3) := by decide +kernel
theorem dX8_capacityOf_5 : decode mX8_capacityOf.2.1 5 = .ok (.getfield 122, 3) := by decide +kernel
theorem dX8_capacityOf_8 : decode mX8_capacityOf.2.1 8 = .ok (.ireturn, 1) := by decide +kernel
theorem dX8_lifetimeOf_0 : decode mX8_lifetimeOf.2.1 0 = .ok (.aload_n 0, 1) := by decide +kernel
theorem dX8_lifetimeOf_1 : decode mX8_lifetimeOf.2.1 1 = .ok (.iload_n 1, 1) := by decide +kernel
theorem dX8_lifetimeOf_2 : decode mX8_lifetimeOf.2.1 2 = .ok (.invokevirtual 110, 3) := by decide +kernel
theorem dX8_lifetimeOf_5 : decode mX8_lifetimeOf.2.1 5 = .ok (.getfield 125, 3) := by decide +kernel
theorem dX8_lifetimeOf_8 : decode mX8_lifetimeOf.2.1 8 = .ok (.ireturn, 1) := by decide +kernel
theorem dX8_policyOf_0 : decode mX8_policyOf.2.1 0 = .ok (.aload_n 0, 1) := by decide +kernel
theorem dX8_policyOf_1 : decode mX8_policyOf.2.1 1 = .ok (.iload_n 1, 1) := by decide +kernel
theorem dX8_policyOf_2 : decode mX8_policyOf.2.1 2 = .ok (.invokevirtual 110, 3) := by decide +kernel
theorem dX8_policyOf_5 : decode mX8_policyOf.2.1 5 = .ok (.getfield 128, 3) := by decide +kernel
theorem dX8_policyOf_8 : decode mX8_policyOf.2.1 8 = .ok (.ireturn, 1) := by decide +kernel
theorem dX8_isListening_0 : decode mX8_isListening.2.1 0 = .ok (.aload_n 0, 1) := by decide +kernel
theorem dX8_isListening_1 : decode mX8_isListening.2.1 1 = .ok (.iload_n 1, 1) := by decide +kernel
theorem dX8_isListening_2 : decode mX8_isListening.2.1 2 = .ok (.invokevirtual 110, 3) := by decide +kernel
theorem dX8_isListening_5 : decode mX8_isListening.2.1 5 = .ok (.getfield 114, 3) := by decide +kernel
theorem dX8_isListening_8 : decode mX8_isListening.2.1 8 = .ok (.ireturn, 1) := by decide +kernel
theorem dX8_echoCount_0 : decode mX8_echoCount.2.1 0 = .ok (.aload_n 0, 1) := by decide +kernel
theorem dX8_echoCount_1 : decode mX8_echoCount.2.1 1 = .ok (.iload_n 1, 1) := by decide +kernel
theorem dX8_echoCount_2 : decode mX8_echoCount.2.1 2 = .ok (.invokevirtual 110, 3) := by decide +kernel
theorem dX8_echoCount_5 : decode mX8_echoCount.2.1 5 = .ok (.invokevirtual 132, 3) := by decide +kernel
theorem dX8_echoCount_8 : decode mX8_echoCount.2.1 8 = .ok (.ireturn, 1) := by decide +kernel
theorem dX8_echoAt_0 : decode mX8_echoAt.2.1 0 = .ok (.aload_n 0, 1) := by decide +kernel
theorem dX8_echoAt_1 : decode mX8_echoAt.2.1 1 = .ok (.iload_n 1, 1) := by decide +kernel
theorem dX8_echoAt_2 : decode mX8_echoAt.2.1 2 = .ok (.invokevirtual 110, 3) := by decide +kernel
theorem dX8_echoAt_5 : decode mX8_echoAt.2.1 5 = .ok (.iload_n 2, 1) := by decide +kernel
theorem dX8_echoAt_6 : decode mX8_echoAt.2.1 6 = .ok (.invokevirtual 135, 3) := by decide +kernel
theorem dX8_echoAt_9 : decode mX8_echoAt.2.1 9 = .ok (.istore_n 3, 1) := by decide +kernel
theorem dX8_echoAt_10 : decode mX8_echoAt.2.1 10 = .ok (.iload_n 3, 1) := by decide +kernel
theorem dX8_echoAt_11 : decode mX8_echoAt.2.1 11 = .ok (.bipush 32, 2) := by decide +kernel
theorem dX8_echoAt_13 : decode mX8_echoAt.2.1 13 = .ok (.if_icmp .ne 13, 3) := by decide +kernel
theorem dX8_echoAt_16 : decode mX8_echoAt.2.1 16 = .ok (.new 138, 3) := by decide +kernel
theorem dX8_echoAt_19 : decode mX8_echoAt.2.1 19 = .ok (.dup, 1) := by decide +kernel
theorem dX8_echoAt_20 : decode mX8_echoAt.2.1 20 = .ok (.ldc 140, 2) := by decide +kernel
theorem dX8_echoAt_22 : decode mX8_echoAt.2.1 22 = .ok (.invokespecial 142, 3) := by decide +kernel
theorem dX8_echoAt_25 : decode mX8_echoAt.2.1 25 = .ok (.athrow, 1) := by decide +kernel
theorem dX8_echoAt_26 : decode mX8_echoAt.2.1 26 = .ok (.iload_n 3, 1) := by decide +kernel
theorem dX8_echoAt_27 : decode mX8_echoAt.2.1 27 = .ok (.ireturn, 1) := by decide +kernel
theorem dX8_hasEcho_0 : decode mX8_hasEcho.2.1 0 = .ok (.aload_n 0, 1) := by decide +kernel
theorem dX8_hasEcho_1 : decode mX8_hasEcho.2.1 1 = .ok (.iload_n 1, 1) := by decide +kernel
theorem dX8_hasEcho_2 : decode mX8_hasEcho.2.1 2 = .ok (.invokevirtual 110, 3) := by decide +kernel
theorem dX8_hasEcho_5 : decode mX8_hasEcho.2.1 5 = .ok (.iload_n 2, 1) := by decide +kernel
theorem dX8_hasEcho_6 : decode mX8_hasEcho.2.1 6 = .ok (.invokevirtual 143, 3) := by decide +kernel
theorem dX8_hasEcho_9 : decode mX8_hasEcho.2.1 9 = .ok (.ifnull 7, 3) := by decide +kernel
theorem dX8_hasEcho_12 : decode mX8_hasEcho.2.1 12 = .ok (.iconst 1, 1) := by decide +kernel
theorem dX8_hasEcho_13 : decode mX8_hasEcho.2.1 13 = .ok (.goto 4, 3) := by decide +kernel
theorem dX8_hasEcho_16 : decode mX8_hasEcho.2.1 16 = .ok (.iconst 0, 1) := by decide +kernel
theorem dX8_hasEcho_17 : decode mX8_hasEcho.2.1 17 = .ok (.ireturn, 1) := by decide +kernel
theorem dX8_echoOf_0 : decode mX8_echoOf.2.1 0 = .ok (.aload_n 0, 1) := by decide +kernel
theorem dX8_echoOf_1 : decode mX8_echoOf.2.1 1 = .ok (.iload_n 1, 1) := by decide +kernel
theorem dX8_echoOf_2 : decode mX8_echoOf.2.1 2 = .ok (.iload_n 2, 1) := by decide +kernel
theorem dX8_echoOf_3 : decode mX8_echoOf.2.1 3 = .ok (.invokevirtual 147, 3) := by decide +kernel
theorem dX8_echoOf_6 : decode mX8_echoOf.2.1 6 = .ok (.getfield 151, 3) := by decide +kernel
theorem dX8_echoOf_9 : decode mX8_echoOf.2.1 9 = .ok (.ireturn, 1) := by decide +kernel
theorem dX8_ageOf_0 : decode mX8_ageOf.2.1 0 = .ok (.aload_n 0, 1) := by decide +kernel
theorem dX8_ageOf_1 : decode mX8_ageOf.2.1 1 = .ok (.iload_n 1, 1) := by decide +kernel
theorem dX8_ageOf_2 : decode mX8_ageOf.2.1 2 = .ok (.iload_n 2, 1) := by decide +kernel
theorem dX8_ageOf_3 : decode mX8_ageOf.2.1 3 = .ok (.invokevirtual 147, 3) := by decide +kernel
theorem dX8_ageOf_6 : decode mX8_ageOf.2.1 6 = .ok (.aload_n 0, 1) := by decide +kernel
theorem dX8_ageOf_7 : decode mX8_ageOf.2.1 7 = .ok (.getfield 10, 3) := by decide +kernel
theorem dX8_ageOf_10 : decode mX8_ageOf.2.1 10 = .ok (.getfield 154, 3) := by decide +kernel
theorem dX8_ageOf_13 : decode mX8_ageOf.2.1 13 = .ok (.invokevirtual 157, 3) := by decide +kernel
theorem dX8_ageOf_16 : decode mX8_ageOf.2.1 16 = .ok (.ireturn, 1) := by decide +kernel
theorem dX8_hitsOf_0 : decode mX8_hitsOf.2.1 0 = .ok (.aload_n 0, 1) := by decide +kernel
theorem dX8_hitsOf_1 : decode mX8_hitsOf.2.1 1 = .ok (.iload_n 1, 1) := by decide +kernel
theorem dX8_hitsOf_2 : decode mX8_hitsOf.2.1 2 = .ok (.iload_n 2, 1) := by decide +kernel
theorem dX8_hitsOf_3 : decode mX8_hitsOf.2.1 3 = .ok (.invokevirtual 147, 3) := by decide +kernel
theorem dX8_hitsOf_6 : decode mX8_hitsOf.2.1 6 = .ok (.getfield 161, 3) := by decide +kernel
theorem dX8_hitsOf_9 : decode mX8_hitsOf.2.1 9 = .ok (.ireturn, 1) := by decide +kernel
theorem dX8_isExpired_0 : decode mX8_isExpired.2.1 0 = .ok (.aload_n 0, 1) := by decide +kernel
theorem dX8_isExpired_1 : decode mX8_isExpired.2.1 1 = .ok (.iload_n 1, 1) := by decide +kernel
theorem dX8_isExpired_2 : decode mX8_isExpired.2.1 2 = .ok (.iload_n 2, 1) := by decide +kernel
theorem dX8_isExpired_3 : decode mX8_isExpired.2.1 3 = .ok (.invokevirtual 147, 3) := by decide +kernel
theorem dX8_isExpired_6 : decode mX8_isExpired.2.1 6 = .ok (.astore_n 3, 1) := by decide +kernel
theorem dX8_isExpired_7 : decode mX8_isExpired.2.1 7 = .ok (.aload_n 0, 1) := by decide +kernel
theorem dX8_isExpired_8 : decode mX8_isExpired.2.1 8 = .ok (.iload_n 1, 1) := by decide +kernel
theorem dX8_isExpired_9 : decode mX8_isExpired.2.1 9 = .ok (.invokevirtual 110, 3) := by decide +kernel
theorem dX8_isExpired_12 : decode mX8_isExpired.2.1 12 = .ok (.aload_n 3, 1) := by decide +kernel
theorem dX8_isExpired_13 : decode mX8_isExpired.2.1 13 = .ok (.aload_n 0, 1) := by decide +kernel
theorem dX8_isExpired_14 : decode mX8_isExpired.2.1 14 = .ok (.getfield 10, 3) := by decide +kernel
theorem dX8_isExpired_17 : decode mX8_isExpired.2.1 17 = .ok (.getfield 154, 3) := by decide +kernel
theorem dX8_isExpired_20 : decode mX8_isExpired.2.1 20 = .ok (.invokevirtual 164, 3) := by decide +kernel
theorem dX8_isExpired_23 : decode mX8_isExpired.2.1 23 = .ok (.ireturn, 1) := by decide +kernel
theorem dX8_isOpen_0 : decode mX8_isOpen.2.1 0 = .ok (.aload_n 0, 1) := by decide +kernel
theorem dX8_isOpen_1 : decode mX8_isOpen.2.1 1 = .ok (.iload_n 1, 1) := by decide +kernel
theorem dX8_isOpen_2 : decode mX8_isOpen.2.1 2 = .ok (.iload_n 2, 1) := by decide +kernel
theorem dX8_isOpen_3 : decode mX8_isOpen.2.1 3 = .ok (.invokevirtual 147, 3) := by decide +kernel
theorem dX8_isOpen_6 : decode mX8_isOpen.2.1 6 = .ok (.getfield 168, 3) := by decide +kernel
theorem dX8_isOpen_9 : decode mX8_isOpen.2.1 9 = .ok (.ireturn, 1) := by decide +kernel
theorem dX8_isTrue_0 : decode mX8_isTrue.2.1 0 = .ok (.aload_n 0, 1) := by decide +kernel
theorem dX8_isTrue_1 : decode mX8_isTrue.2.1 1 = .ok (.getfield 10, 3) := by decide +kernel
theorem dX8_isTrue_4 : decode mX8_isTrue.2.1 4 = .ok (.aload_n 0, 1) := by decide +kernel
theorem dX8_isTrue_5 : decode mX8_isTrue.2.1 5 = .ok (.iload_n 1, 1) := by decide +kernel
theorem dX8_isTrue_6 : decode mX8_isTrue.2.1 6 = .ok (.iload_n 2, 1) := by decide +kernel
theorem dX8_isTrue_7 : decode mX8_isTrue.2.1 7 = .ok (.invokevirtual 147, 3) := by decide +kernel
theorem dX8_isTrue_10 : decode mX8_isTrue.2.1 10 = .ok (.invokevirtual 171, 3) := by decide +kernel
theorem dX8_isTrue_13 : decode mX8_isTrue.2.1 13 = .ok (.ireturn, 1) := by decide +kernel
theorem dX8_isTrueBySteps_0 : decode mX8_isTrueBySteps.2.1 0 = .ok (.aload_n 0, 1) := by decide +kernel
theorem dX8_isTrueBySteps_1 : decode mX8_isTrueBySteps.2.1 1 = .ok (.getfield 10, 3) := by decide +kernel
theorem dX8_isTrueBySteps_4 : decode mX8_isTrueBySteps.2.1 4 = .ok (.aload_n 0, 1) := by decide +kernel
theorem dX8_isTrueBySteps_5 : decode mX8_isTrueBySteps.2.1 5 = .ok (.iload_n 1, 1) := by decide +kernel
theorem dX8_isTrueBySteps_6 : decode mX8_isTrueBySteps.2.1 6 = .ok (.iload_n 2, 1) := by decide +kernel
theorem dX8_isTrueBySteps_7 : decode mX8_isTrueBySteps.2.1 7 = .ok (.invokevirtual 147, 3) := by decide +kernel
theorem dX8_isTrueBySteps_10 : decode mX8_isTrueBySteps.2.1 10 = .ok (.invokevirtual 175, 3) := by decide +kernel
theorem dX8_isTrueBySteps_13 : decode mX8_isTrueBySteps.2.1 13 = .ok (.ireturn, 1) := by decide +kernel
theorem dX8_victimOf_0 : decode mX8_victimOf.2.1 0 = .ok (.aload_n 0, 1) := by decide +kernel
theorem dX8_victimOf_1 : decode mX8_victimOf.2.1 1 = .ok (.iload_n 1, 1) := by decide +kernel
theorem dX8_victimOf_2 : decode mX8_victimOf.2.1 2 = .ok (.invokevirtual 110, 3) := by decide +kernel
theorem dX8_victimOf_5 : decode mX8_victimOf.2.1 5 = .ok (.invokevirtual 178, 3) := by decide +kernel
theorem dX8_victimOf_8 : decode mX8_victimOf.2.1 8 = .ok (.astore_n 2, 1) := by decide +kernel
theorem dX8_victimOf_9 : decode mX8_victimOf.2.1 9 = .ok (.aload_n 2, 1) := by decide +kernel
theorem dX8_victimOf_10 : decode mX8_victimOf.2.1 10 = .ok (.ifnonnull 13, 3) := by decide +kernel
theorem dX8_victimOf_13 : decode mX8_victimOf.2.1 13 = .ok (.new 138, 3) := by decide +kernel
theorem dX8_victimOf_16 : decode mX8_victimOf.2.1 16 = .ok (.dup, 1) := by decide +kernel
theorem dX8_victimOf_17 : decode mX8_victimOf.2.1 17 = .ok (.ldc 182, 2) := by decide +kernel
theorem dX8_victimOf_19 : decode mX8_victimOf.2.1 19 = .ok (.invokespecial 142, 3) := by decide +kernel
theorem dX8_victimOf_22 : decode mX8_victimOf.2.1 22 = .ok (.athrow, 1) := by decide +kernel
theorem dX8_victimOf_23 : decode mX8_victimOf.2.1 23 = .ok (.aload_n 2, 1) := by decide +kernel
theorem dX8_victimOf_24 : decode mX8_victimOf.2.1 24 = .ok (.getfield 184, 3) := by decide +kernel
theorem dX8_victimOf_27 : decode mX8_victimOf.2.1 27 = .ok (.ireturn, 1) := by decide +kernel
theorem dX8_victimByScan_0 : decode mX8_victimByScan.2.1 0 = .ok (.aload_n 0, 1) := by decide +kernel
theorem dX8_victimByScan_1 : decode mX8_victimByScan.2.1 1 = .ok (.iload_n 1, 1) := by decide +kernel
theorem dX8_victimByScan_2 : decode mX8_victimByScan.2.1 2 = .ok (.invokevirtual 110, 3) := by decide +kernel
theorem dX8_victimByScan_5 : decode mX8_victimByScan.2.1 5 = .ok (.invokevirtual 187, 3) := by decide +kernel
theorem dX8_victimByScan_8 : decode mX8_victimByScan.2.1 8 = .ok (.astore_n 2, 1) := by decide +kernel
theorem dX8_victimByScan_9 : decode mX8_victimByScan.2.1 9 = .ok (.aload_n 2, 1) := by decide +kernel
theorem dX8_victimByScan_10 : decode mX8_victimByScan.2.1 10 = .ok (.ifnonnull 13, 3) := by decide +kernel
theorem dX8_victimByScan_13 : decode mX8_victimByScan.2.1 13 = .ok (.new 138, 3) := by decide +kernel
theorem dX8_victimByScan_16 : decode mX8_victimByScan.2.1 16 = .ok (.dup, 1) := by decide +kernel
theorem dX8_victimByScan_17 : decode mX8_victimByScan.2.1 17 = .ok (.ldc 182, 2) := by decide +kernel
theorem dX8_victimByScan_19 : decode mX8_victimByScan.2.1 19 = .ok (.invokespecial 142, 3) := by decide +kernel
theorem dX8_victimByScan_22 : decode mX8_victimByScan.2.1 22 = .ok (.athrow, 1) := by decide +kernel
theorem dX8_victimByScan_23 : decode mX8_victimByScan.2.1 23 = .ok (.aload_n 2, 1) := by decide +kernel
theorem dX8_victimByScan_24 : decode mX8_victimByScan.2.1 24 = .ok (.getfield 184, 3) := by decide +kernel
theorem dX8_victimByScan_27 : decode mX8_victimByScan.2.1 27 = .ok (.ireturn, 1) := by decide +kernel
theorem dX8_hear_0 : decode mX8_hear.2.1 0 = .ok (.aload_n 0, 1) := by decide +kernel
theorem dX8_hear_1 : decode mX8_hear.2.1 1 = .ok (.getfield 10, 3) := by decide +kernel
theorem dX8_hear_4 : decode mX8_hear.2.1 4 = .ok (.iload_n 1, 1) := by decide +kernel
theorem dX8_hear_5 : decode mX8_hear.2.1 5 = .ok (.iload_n 2, 1) := by decide +kernel
theorem dX8_hear_6 : decode mX8_hear.2.1 6 = .ok (.invokevirtual 190, 3) := by decide +kernel
theorem dX8_hear_9 : decode mX8_hear.2.1 9 = .ok (.invokestatic 55, 3) := by decide +kernel
theorem dX8_hear_12 : decode mX8_hear.2.1 12 = .ok (.aload_n 0, 1) := by decide +kernel
theorem dX8_hear_13 : decode mX8_hear.2.1 13 = .ok (.getfield 19, 3) := by decide +kernel
theorem dX8_hear_16 : decode mX8_hear.2.1 16 = .ok (.aload_n 0, 1) := by decide +kernel
theorem dX8_hear_17 : decode mX8_hear.2.1 17 = .ok (.getfield 10, 3) := by decide +kernel
theorem dX8_hear_20 : decode mX8_hear.2.1 20 = .ok (.invokevirtual 59, 3) := by decide +kernel
theorem dX8_hear_23 : decode mX8_hear.2.1 23 = .ok (.aload_n 0, 1) := by decide +kernel
theorem dX8_hear_24 : decode mX8_hear.2.1 24 = .ok (.getfield 10, 3) := by decide +kernel
theorem dX8_hear_27 : decode mX8_hear.2.1 27 = .ok (.iload_n 1, 1) := by decide +kernel
theorem dX8_hear_28 : decode mX8_hear.2.1 28 = .ok (.iload_n 2, 1) := by decide +kernel
theorem dX8_hear_29 : decode mX8_hear.2.1 29 = .ok (.invokevirtual 194, 3) := by decide +kernel
theorem dX8_hear_32 : decode mX8_hear.2.1 32 = .ok (.ireturn, 1) := by decide +kernel
theorem dX8_outcomeOf_0 : decode mX8_outcomeOf.2.1 0 = .ok (.aload_n 0, 1) := by decide +kernel
theorem dX8_outcomeOf_1 : decode mX8_outcomeOf.2.1 1 = .ok (.getfield 10, 3) := by decide +kernel
theorem dX8_outcomeOf_4 : decode mX8_outcomeOf.2.1 4 = .ok (.iload_n 1, 1) := by decide +kernel
theorem dX8_outcomeOf_5 : decode mX8_outcomeOf.2.1 5 = .ok (.iload_n 2, 1) := by decide +kernel
theorem dX8_outcomeOf_6 : decode mX8_outcomeOf.2.1 6 = .ok (.invokevirtual 190, 3) := by decide +kernel
theorem dX8_outcomeOf_9 : decode mX8_outcomeOf.2.1 9 = .ok (.invokestatic 55, 3) := by decide +kernel
theorem dX8_outcomeOf_12 : decode mX8_outcomeOf.2.1 12 = .ok (.aload_n 0, 1) := by decide +kernel
theorem dX8_outcomeOf_13 : decode mX8_outcomeOf.2.1 13 = .ok (.iload_n 1, 1) := by decide +kernel
theorem dX8_outcomeOf_14 : decode mX8_outcomeOf.2.1 14 = .ok (.invokevirtual 110, 3) := by decide +kernel
theorem dX8_outcomeOf_17 : decode mX8_outcomeOf.2.1 17 = .ok (.iload_n 2, 1) := by decide +kernel
theorem dX8_outcomeOf_18 : decode mX8_outcomeOf.2.1 18 = .ok (.aload_n 0, 1) := by decide +kernel
theorem dX8_outcomeOf_19 : decode mX8_outcomeOf.2.1 19 = .ok (.getfield 10, 3) := by decide +kernel
theorem dX8_outcomeOf_22 : decode mX8_outcomeOf.2.1 22 = .ok (.getfield 154, 3) := by decide +kernel
theorem dX8_outcomeOf_25 : decode mX8_outcomeOf.2.1 25 = .ok (.invokevirtual 197, 3) := by decide +kernel
theorem dX8_outcomeOf_28 : decode mX8_outcomeOf.2.1 28 = .ok (.ireturn, 1) := by decide +kernel
theorem dX8_warm_0 : decode mX8_warm.2.1 0 = .ok (.aload_n 0, 1) := by decide +kernel
theorem dX8_warm_1 : decode mX8_warm.2.1 1 = .ok (.getfield 10, 3) := by decide +kernel
theorem dX8_warm_4 : decode mX8_warm.2.1 4 = .ok (.iload_n 1, 1) := by decide +kernel
theorem dX8_warm_5 : decode mX8_warm.2.1 5 = .ok (.iload_n 2, 1) := by decide +kernel
theorem dX8_warm_6 : decode mX8_warm.2.1 6 = .ok (.iload_n 3, 1) := by decide +kernel
theorem dX8_warm_7 : decode mX8_warm.2.1 7 = .ok (.invokevirtual 201, 3) := by decide +kernel
theorem dX8_warm_10 : decode mX8_warm.2.1 10 = .ok (.invokestatic 55, 3) := by decide +kernel
theorem dX8_warm_13 : decode mX8_warm.2.1 13 = .ok (.aload_n 0, 1) := by decide +kernel
theorem dX8_warm_14 : decode mX8_warm.2.1 14 = .ok (.getfield 19, 3) := by decide +kernel
theorem dX8_warm_17 : decode mX8_warm.2.1 17 = .ok (.aload_n 0, 1) := by decide +kernel
theorem dX8_warm_18 : decode mX8_warm.2.1 18 = .ok (.getfield 10, 3) := by decide +kernel
theorem dX8_warm_21 : decode mX8_warm.2.1 21 = .ok (.invokevirtual 59, 3) := by decide +kernel
theorem dX8_warm_24 : decode mX8_warm.2.1 24 = .ok (.aload_n 0, 1) := by decide +kernel
theorem dX8_warm_25 : decode mX8_warm.2.1 25 = .ok (.getfield 10, 3) := by decide +kernel
theorem dX8_warm_28 : decode mX8_warm.2.1 28 = .ok (.iload_n 1, 1) := by decide +kernel
theorem dX8_warm_29 : decode mX8_warm.2.1 29 = .ok (.iload_n 2, 1) := by decide +kernel
theorem dX8_warm_30 : decode mX8_warm.2.1 30 = .ok (.iload_n 3, 1) := by decide +kernel
theorem dX8_warm_31 : decode mX8_warm.2.1 31 = .ok (.invokevirtual 205, 3) := by decide +kernel
theorem dX8_warm_34 : decode mX8_warm.2.1 34 = .ok (.ireturn, 1) := by decide +kernel
theorem dX8_cancelWarming_0 : decode mX8_cancelWarming.2.1 0 = .ok (.aload_n 0, 1) := by decide +kernel
theorem dX8_cancelWarming_1 : decode mX8_cancelWarming.2.1 1 = .ok (.iload_n 1, 1) := by decide +kernel
theorem dX8_cancelWarming_2 : decode mX8_cancelWarming.2.1 2 = .ok (.invokevirtual 208, 3) := by decide +kernel
theorem dX8_cancelWarming_5 : decode mX8_cancelWarming.2.1 5 = .ok (.astore_n 2, 1) := by decide +kernel
theorem dX8_cancelWarming_6 : decode mX8_cancelWarming.2.1 6 = .ok (.aload_n 0, 1) := by decide +kernel
theorem dX8_cancelWarming_7 : decode mX8_cancelWarming.2.1 7 = .ok (.getfield 19, 3) := by decide +kernel
theorem dX8_cancelWarming_10 : decode mX8_cancelWarming.2.1 10 = .ok (.aload_n 0, 1) := by decide +kernel
theorem dX8_cancelWarming_11 : decode mX8_cancelWarming.2.1 11 = .ok (.getfield 10, 3) := by decide +kernel
theorem dX8_cancelWarming_14 : decode mX8_cancelWarming.2.1 14 = .ok (.invokevirtual 59, 3) := by decide +kernel
theorem dX8_cancelWarming_17 : decode mX8_cancelWarming.2.1 17 = .ok (.aload_n 0, 1) := by decide +kernel
theorem dX8_cancelWarming_18 : decode mX8_cancelWarming.2.1 18 = .ok (.getfield 10, 3) := by decide +kernel
theorem dX8_cancelWarming_21 : decode mX8_cancelWarming.2.1 21 = .ok (.aload_n 2, 1) := by decide +kernel
theorem dX8_cancelWarming_22 : decode mX8_cancelWarming.2.1 22 = .ok (.invokevirtual 212, 3) := by decide +kernel
theorem dX8_cancelWarming_25 : decode mX8_cancelWarming.2.1 25 = .ok (.aload_n 0, 1) := by decide +kernel
theorem dX8_cancelWarming_26 : decode mX8_cancelWarming.2.1 26 = .ok (.getfield 10, 3) := by decide +kernel
theorem dX8_cancelWarming_29 : decode mX8_cancelWarming.2.1 29 = .ok (.invokevirtual 216, 3) := by decide +kernel
theorem dX8_cancelWarming_32 : decode mX8_cancelWarming.2.1 32 = .ok (.ireturn, 1) := by decide +kernel
theorem dX8_pass_0 : decode mX8_pass.2.1 0 = .ok (.aload_n 0, 1) := by decide +kernel
theorem dX8_pass_1 : decode mX8_pass.2.1 1 = .ok (.getfield 10, 3) := by decide +kernel
theorem dX8_pass_4 : decode mX8_pass.2.1 4 = .ok (.iload_n 1, 1) := by decide +kernel
theorem dX8_pass_5 : decode mX8_pass.2.1 5 = .ok (.invokevirtual 219, 3) := by decide +kernel
theorem dX8_pass_8 : decode mX8_pass.2.1 8 = .ok (.invokestatic 55, 3) := by decide +kernel
theorem dX8_pass_11 : decode mX8_pass.2.1 11 = .ok (.aload_n 0, 1) := by decide +kernel
theorem dX8_pass_12 : decode mX8_pass.2.1 12 = .ok (.getfield 19, 3) := by decide +kernel
theorem dX8_pass_15 : decode mX8_pass.2.1 15 = .ok (.aload_n 0, 1) := by decide +kernel
theorem dX8_pass_16 : decode mX8_pass.2.1 16 = .ok (.getfield 10, 3) := by decide +kernel
theorem dX8_pass_19 : decode mX8_pass.2.1 19 = .ok (.invokevirtual 59, 3) := by decide +kernel
theorem dX8_pass_22 : decode mX8_pass.2.1 22 = .ok (.aload_n 0, 1) := by decide +kernel
theorem dX8_pass_23 : decode mX8_pass.2.1 23 = .ok (.getfield 10, 3) := by decide +kernel
theorem dX8_pass_26 : decode mX8_pass.2.1 26 = .ok (.iload_n 1, 1) := by decide +kernel
theorem dX8_pass_27 : decode mX8_pass.2.1 27 = .ok (.invokevirtual 222, 3) := by decide +kernel
theorem dX8_pass_30 : decode mX8_pass.2.1 30 = .ok (.ireturn, 1) := by decide +kernel
theorem dX8_time_0 : decode mX8_time.2.1 0 = .ok (.aload_n 0, 1) := by decide +kernel
theorem dX8_time_1 : decode mX8_time.2.1 1 = .ok (.getfield 10, 3) := by decide +kernel
theorem dX8_time_4 : decode mX8_time.2.1 4 = .ok (.getfield 154, 3) := by decide +kernel
theorem dX8_time_7 : decode mX8_time.2.1 7 = .ok (.ireturn, 1) := by decide +kernel
theorem dX8_warmingCount_0 : decode mX8_warmingCount.2.1 0 = .ok (.aload_n 0, 1) := by decide +kernel
theorem dX8_warmingCount_1 : decode mX8_warmingCount.2.1 1 = .ok (.getfield 10, 3) := by decide +kernel
theorem dX8_warmingCount_4 : decode mX8_warmingCount.2.1 4 = .ok (.invokevirtual 216, 3) := by decide +kernel
theorem dX8_warmingCount_7 : decode mX8_warmingCount.2.1 7 = .ok (.ireturn, 1) := by decide +kernel
theorem dX8_warmingMinute_0 : decode mX8_warmingMinute.2.1 0 = .ok (.aload_n 0, 1) := by decide +kernel
theorem dX8_warmingMinute_1 : decode mX8_warmingMinute.2.1 1 = .ok (.iload_n 1, 1) := by decide +kernel
theorem dX8_warmingMinute_2 : decode mX8_warmingMinute.2.1 2 = .ok (.invokevirtual 208, 3) := by decide +kernel
theorem dX8_warmingMinute_5 : decode mX8_warmingMinute.2.1 5 = .ok (.getfield 225, 3) := by decide +kernel
theorem dX8_warmingMinute_8 : decode mX8_warmingMinute.2.1 8 = .ok (.ireturn, 1) := by decide +kernel
theorem dX8_warmingJar_0 : decode mX8_warmingJar.2.1 0 = .ok (.aload_n 0, 1) := by decide +kernel
theorem dX8_warmingJar_1 : decode mX8_warmingJar.2.1 1 = .ok (.iload_n 1, 1) := by decide +kernel
theorem dX8_warmingJar_2 : decode mX8_warmingJar.2.1 2 = .ok (.invokevirtual 208, 3) := by decide +kernel
theorem dX8_warmingJar_5 : decode mX8_warmingJar.2.1 5 = .ok (.getfield 228, 3) := by decide +kernel
theorem dX8_warmingJar_8 : decode mX8_warmingJar.2.1 8 = .ok (.ireturn, 1) := by decide +kernel
theorem dX8_hits_0 : decode mX8_hits.2.1 0 = .ok (.aload_n 0, 1) := by decide +kernel
theorem dX8_hits_1 : decode mX8_hits.2.1 1 = .ok (.getfield 10, 3) := by decide +kernel
theorem dX8_hits_4 : decode mX8_hits.2.1 4 = .ok (.getfield 229, 3) := by decide +kernel
theorem dX8_hits_7 : decode mX8_hits.2.1 7 = .ok (.ireturn, 1) := by decide +kernel
theorem dX8_misses_0 : decode mX8_misses.2.1 0 = .ok (.iload_n 1, 1) := by decide +kernel
theorem dX8_misses_1 : decode mX8_misses.2.1 1 = .ok (.bipush 99, 2) := by decide +kernel
theorem dX8_misses_3 : decode mX8_misses.2.1 3 = .ok (.if_icmp .ne 11, 3) := by decide +kernel
theorem dX8_misses_6 : decode mX8_misses.2.1 6 = .ok (.aload_n 0, 1) := by decide +kernel
theorem dX8_misses_7 : decode mX8_misses.2.1 7 = .ok (.getfield 10, 3) := by decide +kernel
theorem dX8_misses_10 : decode mX8_misses.2.1 10 = .ok (.getfield 232, 3) := by decide +kernel
theorem dX8_misses_13 : decode mX8_misses.2.1 13 = .ok (.ireturn, 1) := by decide +kernel
theorem dX8_misses_14 : decode mX8_misses.2.1 14 = .ok (.iload_n 1, 1) := by decide +kernel
theorem dX8_misses_15 : decode mX8_misses.2.1 15 = .ok (.bipush 101, 2) := by decide +kernel
theorem dX8_misses_17 : decode mX8_misses.2.1 17 = .ok (.if_icmp .ne 11, 3) := by decide +kernel
theorem dX8_misses_20 : decode mX8_misses.2.1 20 = .ok (.aload_n 0, 1) := by decide +kernel
theorem dX8_misses_21 : decode mX8_misses.2.1 21 = .ok (.getfield 10, 3) := by decide +kernel
theorem dX8_misses_24 : decode mX8_misses.2.1 24 = .ok (.getfield 235, 3) := by decide +kernel
theorem dX8_misses_27 : decode mX8_misses.2.1 27 = .ok (.ireturn, 1) := by decide +kernel
theorem dX8_misses_28 : decode mX8_misses.2.1 28 = .ok (.iload_n 1, 1) := by decide +kernel
theorem dX8_misses_29 : decode mX8_misses.2.1 29 = .ok (.bipush 111, 2) := by decide +kernel
theorem dX8_misses_31 : decode mX8_misses.2.1 31 = .ok (.if_icmp .ne 11, 3) := by decide +kernel
theorem dX8_misses_34 : decode mX8_misses.2.1 34 = .ok (.aload_n 0, 1) := by decide +kernel
theorem dX8_misses_35 : decode mX8_misses.2.1 35 = .ok (.getfield 10, 3) := by decide +kernel
theorem dX8_misses_38 : decode mX8_misses.2.1 38 = .ok (.getfield 238, 3) := by decide +kernel
theorem dX8_misses_41 : decode mX8_misses.2.1 41 = .ok (.ireturn, 1) := by decide +kernel
theorem dX8_misses_42 : decode mX8_misses.2.1 42 = .ok (.new 241, 3) := by decide +kernel
theorem dX8_misses_45 : decode mX8_misses.2.1 45 = .ok (.dup, 1) := by decide +kernel
theorem dX8_misses_46 : decode mX8_misses.2.1 46 = .ok (.ldc 243, 2) := by decide +kernel
theorem dX8_misses_48 : decode mX8_misses.2.1 48 = .ok (.invokespecial 245, 3) := by decide +kernel
theorem dX8_misses_51 : decode mX8_misses.2.1 51 = .ok (.athrow, 1) := by decide +kernel
theorem dX8_hitShare_0 : decode mX8_hitShare.2.1 0 = .ok (.aload_n 0, 1) := by decide +kernel
theorem dX8_hitShare_1 : decode mX8_hitShare.2.1 1 = .ok (.getfield 10, 3) := by decide +kernel
theorem dX8_hitShare_4 : decode mX8_hitShare.2.1 4 = .ok (.getfield 229, 3) := by decide +kernel
theorem dX8_hitShare_7 : decode mX8_hitShare.2.1 7 = .ok (.aload_n 0, 1) := by decide +kernel
theorem dX8_hitShare_8 : decode mX8_hitShare.2.1 8 = .ok (.getfield 10, 3) := by decide +kernel
theorem dX8_hitShare_11 : decode mX8_hitShare.2.1 11 = .ok (.getfield 232, 3) := by decide +kernel
theorem dX8_hitShare_14 : decode mX8_hitShare.2.1 14 = .ok (.iadd, 1) := by decide +kernel
theorem dX8_hitShare_15 : decode mX8_hitShare.2.1 15 = .ok (.aload_n 0, 1) := by decide +kernel
theorem dX8_hitShare_16 : decode mX8_hitShare.2.1 16 = .ok (.getfield 10, 3) := by decide +kernel
theorem dX8_hitShare_19 : decode mX8_hitShare.2.1 19 = .ok (.getfield 235, 3) := by decide +kernel
theorem dX8_hitShare_22 : decode mX8_hitShare.2.1 22 = .ok (.iadd, 1) := by decide +kernel
theorem dX8_hitShare_23 : decode mX8_hitShare.2.1 23 = .ok (.aload_n 0, 1) := by decide +kernel
theorem dX8_hitShare_24 : decode mX8_hitShare.2.1 24 = .ok (.getfield 10, 3) := by decide +kernel
theorem dX8_hitShare_27 : decode mX8_hitShare.2.1 27 = .ok (.getfield 238, 3) := by decide +kernel
theorem dX8_hitShare_30 : decode mX8_hitShare.2.1 30 = .ok (.iadd, 1) := by decide +kernel
theorem dX8_hitShare_31 : decode mX8_hitShare.2.1 31 = .ok (.istore_n 1, 1) := by decide +kernel
theorem dX8_hitShare_32 : decode mX8_hitShare.2.1 32 = .ok (.iload_n 1, 1) := by decide +kernel
theorem dX8_hitShare_33 : decode mX8_hitShare.2.1 33 = .ok (.ifCond .ne 13, 3) := by decide +kernel
theorem dX8_hitShare_36 : decode mX8_hitShare.2.1 36 = .ok (.new 246, 3) := by decide +kernel
theorem dX8_hitShare_39 : decode mX8_hitShare.2.1 39 = .ok (.dup, 1) := by decide +kernel
theorem dX8_hitShare_40 : decode mX8_hitShare.2.1 40 = .ok (.ldc 248, 2) := by decide +kernel
theorem dX8_hitShare_42 : decode mX8_hitShare.2.1 42 = .ok (.invokespecial 250, 3) := by decide +kernel
theorem dX8_hitShare_45 : decode mX8_hitShare.2.1 45 = .ok (.athrow, 1) := by decide +kernel
theorem dX8_hitShare_46 : decode mX8_hitShare.2.1 46 = .ok (.aload_n 0, 1) := by decide +kernel
theorem dX8_hitShare_47 : decode mX8_hitShare.2.1 47 = .ok (.getfield 10, 3) := by decide +kernel
theorem dX8_hitShare_50 : decode mX8_hitShare.2.1 50 = .ok (.getfield 229, 3) := by decide +kernel
theorem dX8_hitShare_53 : decode mX8_hitShare.2.1 53 = .ok (.i2f, 1) := by decide +kernel
theorem dX8_hitShare_54 : decode mX8_hitShare.2.1 54 = .ok (.iload_n 1, 1) := by decide +kernel
theorem dX8_hitShare_55 : decode mX8_hitShare.2.1 55 = .ok (.i2f, 1) := by decide +kernel
theorem dX8_hitShare_56 : decode mX8_hitShare.2.1 56 = .ok (.fdiv, 1) := by decide +kernel
theorem dX8_hitShare_57 : decode mX8_hitShare.2.1 57 = .ok (.freturn, 1) := by decide +kernel
theorem dX8_meanAge_0 : decode mX8_meanAge.2.1 0 = .ok (.iconst 0, 1) := by decide +kernel
theorem dX8_meanAge_1 : decode mX8_meanAge.2.1 1 = .ok (.istore_n 1, 1) := by decide +kernel
theorem dX8_meanAge_2 : decode mX8_meanAge.2.1 2 = .ok (.iconst 0, 1) := by decide +kernel
theorem dX8_meanAge_3 : decode mX8_meanAge.2.1 3 = .ok (.istore_n 2, 1) := by decide +kernel
theorem dX8_meanAge_4 : decode mX8_meanAge.2.1 4 = .ok (.aload_n 0, 1) := by decide +kernel
theorem dX8_meanAge_5 : decode mX8_meanAge.2.1 5 = .ok (.getfield 10, 3) := by decide +kernel
theorem dX8_meanAge_8 : decode mX8_meanAge.2.1 8 = .ok (.getfield 251, 3) := by decide +kernel
theorem dX8_meanAge_11 : decode mX8_meanAge.2.1 11 = .ok (.astore_n 3, 1) := by decide +kernel
theorem dX8_meanAge_12 : decode mX8_meanAge.2.1 12 = .ok (.aload_n 3, 1) := by decide +kernel
theorem dX8_meanAge_13 : decode mX8_meanAge.2.1 13 = .ok (.arraylength, 1) := by decide +kernel
theorem dX8_meanAge_14 : decode mX8_meanAge.2.1 14 = .ok (.istore 4, 2) := by decide +kernel
theorem dX8_meanAge_16 : decode mX8_meanAge.2.1 16 = .ok (.iconst 0, 1) := by decide +kernel
theorem dX8_meanAge_17 : decode mX8_meanAge.2.1 17 = .ok (.istore 5, 2) := by decide +kernel
theorem dX8_meanAge_19 : decode mX8_meanAge.2.1 19 = .ok (.iload 5, 2) := by decide +kernel
theorem dX8_meanAge_21 : decode mX8_meanAge.2.1 21 = .ok (.iload 4, 2) := by decide +kernel
theorem dX8_meanAge_23 : decode mX8_meanAge.2.1 23 = .ok (.if_icmp .ge 38, 3) := by decide +kernel
theorem dX8_meanAge_26 : decode mX8_meanAge.2.1 26 = .ok (.aload_n 3, 1) := by decide +kernel
theorem dX8_meanAge_27 : decode mX8_meanAge.2.1 27 = .ok (.iload 5, 2) := by decide +kernel
theorem dX8_meanAge_29 : decode mX8_meanAge.2.1 29 = .ok (.aaload, 1) := by decide +kernel
theorem dX8_meanAge_30 : decode mX8_meanAge.2.1 30 = .ok (.astore 6, 2) := by decide +kernel
theorem dX8_meanAge_32 : decode mX8_meanAge.2.1 32 = .ok (.iload_n 1, 1) := by decide +kernel
theorem dX8_meanAge_33 : decode mX8_meanAge.2.1 33 = .ok (.aload 6, 2) := by decide +kernel
theorem dX8_meanAge_35 : decode mX8_meanAge.2.1 35 = .ok (.invokevirtual 132, 3) := by decide +kernel
theorem dX8_meanAge_38 : decode mX8_meanAge.2.1 38 = .ok (.iadd, 1) := by decide +kernel
theorem dX8_meanAge_39 : decode mX8_meanAge.2.1 39 = .ok (.istore_n 1, 1) := by decide +kernel
theorem dX8_meanAge_40 : decode mX8_meanAge.2.1 40 = .ok (.iload_n 2, 1) := by decide +kernel
theorem dX8_meanAge_41 : decode mX8_meanAge.2.1 41 = .ok (.aload 6, 2) := by decide +kernel
theorem dX8_meanAge_43 : decode mX8_meanAge.2.1 43 = .ok (.aload_n 0, 1) := by decide +kernel
theorem dX8_meanAge_44 : decode mX8_meanAge.2.1 44 = .ok (.getfield 10, 3) := by decide +kernel
theorem dX8_meanAge_47 : decode mX8_meanAge.2.1 47 = .ok (.getfield 154, 3) := by decide +kernel
theorem dX8_meanAge_50 : decode mX8_meanAge.2.1 50 = .ok (.invokevirtual 255, 3) := by decide +kernel
theorem dX8_meanAge_53 : decode mX8_meanAge.2.1 53 = .ok (.iadd, 1) := by decide +kernel
theorem dX8_meanAge_54 : decode mX8_meanAge.2.1 54 = .ok (.istore_n 2, 1) := by decide +kernel
theorem dX8_meanAge_55 : decode mX8_meanAge.2.1 55 = .ok (.iinc 5 1, 3) := by decide +kernel
theorem dX8_meanAge_58 : decode mX8_meanAge.2.1 58 = .ok (.goto (-39), 3) := by decide +kernel
theorem dX8_meanAge_61 : decode mX8_meanAge.2.1 61 = .ok (.iload_n 1, 1) := by decide +kernel
theorem dX8_meanAge_62 : decode mX8_meanAge.2.1 62 = .ok (.ifCond .ne 14, 3) := by decide +kernel
theorem dX8_meanAge_65 : decode mX8_meanAge.2.1 65 = .ok (.new 246, 3) := by decide +kernel
theorem dX8_meanAge_68 : decode mX8_meanAge.2.1 68 = .ok (.dup, 1) := by decide +kernel
theorem dX8_meanAge_69 : decode mX8_meanAge.2.1 69 = .ok (.ldc_w 258, 3) := by decide +kernel
theorem dX8_meanAge_72 : decode mX8_meanAge.2.1 72 = .ok (.invokespecial 250, 3) := by decide +kernel
theorem dX8_meanAge_75 : decode mX8_meanAge.2.1 75 = .ok (.athrow, 1) := by decide +kernel
theorem dX8_meanAge_76 : decode mX8_meanAge.2.1 76 = .ok (.iload_n 2, 1) := by decide +kernel
theorem dX8_meanAge_77 : decode mX8_meanAge.2.1 77 = .ok (.i2d, 1) := by decide +kernel
theorem dX8_meanAge_78 : decode mX8_meanAge.2.1 78 = .ok (.iload_n 1, 1) := by decide +kernel
theorem dX8_meanAge_79 : decode mX8_meanAge.2.1 79 = .ok (.i2d, 1) := by decide +kernel
theorem dX8_meanAge_80 : decode mX8_meanAge.2.1 80 = .ok (.ddiv, 1) := by decide +kernel
theorem dX8_meanAge_81 : decode mX8_meanAge.2.1 81 = .ok (.dreturn, 1) := by decide +kernel
theorem dX8_shelfByHits_0 : decode mX8_shelfByHits.2.1 0 = .ok (.iconst 0, 1) := by decide +kernel
theorem dX8_shelfByHits_1 : decode mX8_shelfByHits.2.1 1 = .ok (.istore_n 2, 1) := by decide +kernel
theorem dX8_shelfByHits_2 : decode mX8_shelfByHits.2.1 2 = .ok (.iload_n 2, 1) := by decide +kernel
theorem dX8_shelfByHits_3 : decode mX8_shelfByHits.2.1 3 = .ok (.iconst 4, 1) := by decide +kernel
theorem dX8_shelfByHits_4 : decode mX8_shelfByHits.2.1 4 = .ok (.if_icmp .ge 34, 3) := by decide +kernel
theorem dX8_shelfByHits_7 : decode mX8_shelfByHits.2.1 7 = .ok (.aload_n 0, 1) := by decide +kernel
theorem dX8_shelfByHits_8 : decode mX8_shelfByHits.2.1 8 = .ok (.getfield 10, 3) := by decide +kernel
theorem dX8_shelfByHits_11 : decode mX8_shelfByHits.2.1 11 = .ok (.iload_n 2, 1) := by decide +kernel
theorem dX8_shelfByHits_12 : decode mX8_shelfByHits.2.1 12 = .ok (.invokevirtual 260, 3) := by decide +kernel
theorem dX8_shelfByHits_15 : decode mX8_shelfByHits.2.1 15 = .ok (.ifnull 17, 3) := by decide +kernel
theorem dX8_shelfByHits_18 : decode mX8_shelfByHits.2.1 18 = .ok (.aload_n 0, 1) := by decide +kernel
theorem dX8_shelfByHits_19 : decode mX8_shelfByHits.2.1 19 = .ok (.getfield 10, 3) := by decide +kernel
theorem dX8_shelfByHits_22 : decode mX8_shelfByHits.2.1 22 = .ok (.iload_n 2, 1) := by decide +kernel
theorem dX8_shelfByHits_23 : decode mX8_shelfByHits.2.1 23 = .ok (.invokevirtual 263, 3) := by decide +kernel
theorem dX8_shelfByHits_26 : decode mX8_shelfByHits.2.1 26 = .ok (.iload_n 1, 1) := by decide +kernel
theorem dX8_shelfByHits_27 : decode mX8_shelfByHits.2.1 27 = .ok (.if_icmp .ne 5, 3) := by decide +kernel
theorem dX8_shelfByHits_30 : decode mX8_shelfByHits.2.1 30 = .ok (.iload_n 2, 1) := by decide +kernel
theorem dX8_shelfByHits_31 : decode mX8_shelfByHits.2.1 31 = .ok (.ireturn, 1) := by decide +kernel
theorem dX8_shelfByHits_32 : decode mX8_shelfByHits.2.1 32 = .ok (.iinc 2 1, 3) := by decide +kernel
theorem dX8_shelfByHits_35 : decode mX8_shelfByHits.2.1 35 = .ok (.goto (-33), 3) := by decide +kernel
theorem dX8_shelfByHits_38 : decode mX8_shelfByHits.2.1 38 = .ok (.new 138, 3) := by decide +kernel
theorem dX8_shelfByHits_41 : decode mX8_shelfByHits.2.1 41 = .ok (.dup, 1) := by decide +kernel
theorem dX8_shelfByHits_42 : decode mX8_shelfByHits.2.1 42 = .ok (.ldc_w 266, 3) := by decide +kernel
theorem dX8_shelfByHits_45 : decode mX8_shelfByHits.2.1 45 = .ok (.invokespecial 142, 3) := by decide +kernel
theorem dX8_shelfByHits_48 : decode mX8_shelfByHits.2.1 48 = .ok (.athrow, 1) := by decide +kernel
theorem dX8_writeShelf_0 : decode mX8_writeShelf.2.1 0 = .ok (.aload_n 0, 1) := by decide +kernel
theorem dX8_writeShelf_1 : decode mX8_writeShelf.2.1 1 = .ok (.iload_n 1, 1) := by decide +kernel
theorem dX8_writeShelf_2 : decode mX8_writeShelf.2.1 2 = .ok (.invokevirtual 110, 3) := by decide +kernel
theorem dX8_writeShelf_5 : decode mX8_writeShelf.2.1 5 = .ok (.astore_n 2, 1) := by decide +kernel
theorem dX8_writeShelf_6 : decode mX8_writeShelf.2.1 6 = .ok (.aload_n 0, 1) := by decide +kernel
theorem dX8_writeShelf_7 : decode mX8_writeShelf.2.1 7 = .ok (.getfield 47, 3) := by decide +kernel
theorem dX8_writeShelf_10 : decode mX8_writeShelf.2.1 10 = .ok (.iconst 0, 1) := by decide +kernel
theorem dX8_writeShelf_11 : decode mX8_writeShelf.2.1 11 = .ok (.invokevirtual 268, 3) := by decide +kernel
theorem dX8_writeShelf_14 : decode mX8_writeShelf.2.1 14 = .ok (.bipush 97, 2) := by decide +kernel
theorem dX8_writeShelf_16 : decode mX8_writeShelf.2.1 16 = .ok (.istore_n 3, 1) := by decide +kernel
theorem dX8_writeShelf_17 : decode mX8_writeShelf.2.1 17 = .ok (.iload_n 3, 1) := by decide +kernel
theorem dX8_writeShelf_18 : decode mX8_writeShelf.2.1 18 = .ok (.bipush 122, 2) := by decide +kernel
theorem dX8_writeShelf_20 : decode mX8_writeShelf.2.1 20 = .ok (.if_icmp .gt 42, 3) := by decide +kernel
theorem dX8_writeShelf_23 : decode mX8_writeShelf.2.1 23 = .ok (.aload_n 2, 1) := by decide +kernel
theorem dX8_writeShelf_24 : decode mX8_writeShelf.2.1 24 = .ok (.iload_n 3, 1) := by decide +kernel
theorem dX8_writeShelf_25 : decode mX8_writeShelf.2.1 25 = .ok (.invokevirtual 143, 3) := by decide +kernel
theorem dX8_writeShelf_28 : decode mX8_writeShelf.2.1 28 = .ok (.astore 4, 2) := by decide +kernel
theorem dX8_writeShelf_30 : decode mX8_writeShelf.2.1 30 = .ok (.aload 4, 2) := by decide +kernel
theorem dX8_writeShelf_32 : decode mX8_writeShelf.2.1 32 = .ok (.ifnull 22, 3) := by decide +kernel
theorem dX8_writeShelf_35 : decode mX8_writeShelf.2.1 35 = .ok (.aload_n 0, 1) := by decide +kernel
theorem dX8_writeShelf_36 : decode mX8_writeShelf.2.1 36 = .ok (.aload 4, 2) := by decide +kernel
theorem dX8_writeShelf_38 : decode mX8_writeShelf.2.1 38 = .ok (.aload_n 2, 1) := by decide +kernel
theorem dX8_writeShelf_39 : decode mX8_writeShelf.2.1 39 = .ok (.aload 4, 2) := by decide +kernel
theorem dX8_writeShelf_41 : decode mX8_writeShelf.2.1 41 = .ok (.aload_n 0, 1) := by decide +kernel
theorem dX8_writeShelf_42 : decode mX8_writeShelf.2.1 42 = .ok (.getfield 10, 3) := by decide +kernel
theorem dX8_writeShelf_45 : decode mX8_writeShelf.2.1 45 = .ok (.getfield 154, 3) := by decide +kernel
theorem dX8_writeShelf_48 : decode mX8_writeShelf.2.1 48 = .ok (.invokevirtual 164, 3) := by decide +kernel
theorem dX8_writeShelf_51 : decode mX8_writeShelf.2.1 51 = .ok (.invokevirtual 271, 3) := by decide +kernel
theorem dX8_writeShelf_54 : decode mX8_writeShelf.2.1 54 = .ok (.iload_n 3, 1) := by decide +kernel
theorem dX8_writeShelf_55 : decode mX8_writeShelf.2.1 55 = .ok (.iconst 1, 1) := by decide +kernel
theorem dX8_writeShelf_56 : decode mX8_writeShelf.2.1 56 = .ok (.iadd, 1) := by decide +kernel
theorem dX8_writeShelf_57 : decode mX8_writeShelf.2.1 57 = .ok (.i2c, 1) := by decide +kernel
theorem dX8_writeShelf_58 : decode mX8_writeShelf.2.1 58 = .ok (.istore_n 3, 1) := by decide +kernel
theorem dX8_writeShelf_59 : decode mX8_writeShelf.2.1 59 = .ok (.goto (-42), 3) := by decide +kernel
theorem dX8_writeShelf_62 : decode mX8_writeShelf.2.1 62 = .ok (.aload_n 0, 1) := by decide +kernel
theorem dX8_writeShelf_63 : decode mX8_writeShelf.2.1 63 = .ok (.getfield 47, 3) := by decide +kernel
theorem dX8_writeShelf_66 : decode mX8_writeShelf.2.1 66 = .ok (.invokevirtual 275, 3) := by decide +kernel
theorem dX8_writeShelf_69 : decode mX8_writeShelf.2.1 69 = .ok (.ireturn, 1) := by decide +kernel
theorem dX8_lineAt_0 : decode mX8_lineAt.2.1 0 = .ok (.iload_n 1, 1) := by decide +kernel
theorem dX8_lineAt_1 : decode mX8_lineAt.2.1 1 = .ok (.ifCond .lt 14, 3) := by decide +kernel
theorem dX8_lineAt_4 : decode mX8_lineAt.2.1 4 = .ok (.iload_n 1, 1) := by decide +kernel
theorem dX8_lineAt_5 : decode mX8_lineAt.2.1 5 = .ok (.aload_n 0, 1) := by decide +kernel
theorem dX8_lineAt_6 : decode mX8_lineAt.2.1 6 = .ok (.getfield 47, 3) := by decide +kernel
theorem dX8_lineAt_9 : decode mX8_lineAt.2.1 9 = .ok (.invokevirtual 275, 3) := by decide +kernel
theorem dX8_lineAt_12 : decode mX8_lineAt.2.1 12 = .ok (.if_icmp .lt 14, 3) := by decide +kernel
theorem dX8_lineAt_15 : decode mX8_lineAt.2.1 15 = .ok (.new 87, 3) := by decide +kernel
theorem dX8_lineAt_18 : decode mX8_lineAt.2.1 18 = .ok (.dup, 1) := by decide +kernel
theorem dX8_lineAt_19 : decode mX8_lineAt.2.1 19 = .ok (.ldc_w 278, 3) := by decide +kernel
theorem dX8_lineAt_22 : decode mX8_lineAt.2.1 22 = .ok (.invokespecial 91, 3) := by decide +kernel
theorem dX8_lineAt_25 : decode mX8_lineAt.2.1 25 = .ok (.athrow, 1) := by decide +kernel
theorem dX8_lineAt_26 : decode mX8_lineAt.2.1 26 = .ok (.aload_n 0, 1) := by decide +kernel
theorem dX8_lineAt_27 : decode mX8_lineAt.2.1 27 = .ok (.getfield 47, 3) := by decide +kernel
theorem dX8_lineAt_30 : decode mX8_lineAt.2.1 30 = .ok (.iload_n 1, 1) := by decide +kernel
theorem dX8_lineAt_31 : decode mX8_lineAt.2.1 31 = .ok (.invokevirtual 280, 3) := by decide +kernel
theorem dX8_lineAt_34 : decode mX8_lineAt.2.1 34 = .ok (.ireturn, 1) := by decide +kernel
theorem dX8_isConsistent_0 : decode mX8_isConsistent.2.1 0 = .ok (.aload_n 0, 1) := by decide +kernel
theorem dX8_isConsistent_1 : decode mX8_isConsistent.2.1 1 = .ok (.getfield 10, 3) := by decide +kernel
theorem dX8_isConsistent_4 : decode mX8_isConsistent.2.1 4 = .ok (.getfield 251, 3) := by decide +kernel
theorem dX8_isConsistent_7 : decode mX8_isConsistent.2.1 7 = .ok (.astore_n 1, 1) := by decide +kernel
theorem dX8_isConsistent_8 : decode mX8_isConsistent.2.1 8 = .ok (.aload_n 1, 1) := by decide +kernel
theorem dX8_isConsistent_9 : decode mX8_isConsistent.2.1 9 = .ok (.arraylength, 1) := by decide +kernel
theorem dX8_isConsistent_10 : decode mX8_isConsistent.2.1 10 = .ok (.istore_n 2, 1) := by decide +kernel
theorem dX8_isConsistent_11 : decode mX8_isConsistent.2.1 11 = .ok (.iconst 0, 1) := by decide +kernel
theorem dX8_isConsistent_12 : decode mX8_isConsistent.2.1 12 = .ok (.istore_n 3, 1) := by decide +kernel
theorem dX8_isConsistent_13 : decode mX8_isConsistent.2.1 13 = .ok (.iload_n 3, 1) := by decide +kernel
theorem dX8_isConsistent_14 : decode mX8_isConsistent.2.1 14 = .ok (.iload_n 2, 1) := by decide +kernel
theorem dX8_isConsistent_15 : decode mX8_isConsistent.2.1 15 = .ok (.if_icmp .ge 99, 3) := by decide +kernel
theorem dX8_isConsistent_18 : decode mX8_isConsistent.2.1 18 = .ok (.aload_n 1, 1) := by decide +kernel
theorem dX8_isConsistent_19 : decode mX8_isConsistent.2.1 19 = .ok (.iload_n 3, 1) := by decide +kernel
theorem dX8_isConsistent_20 : decode mX8_isConsistent.2.1 20 = .ok (.aaload, 1) := by decide +kernel
theorem dX8_isConsistent_21 : decode mX8_isConsistent.2.1 21 = .ok (.astore 4, 2) := by decide +kernel
theorem dX8_isConsistent_23 : decode mX8_isConsistent.2.1 23 = .ok (.aload 4, 2) := by decide +kernel
theorem dX8_isConsistent_25 : decode mX8_isConsistent.2.1 25 = .ok (.invokevirtual 178, 3) := by decide +kernel
theorem dX8_isConsistent_28 : decode mX8_isConsistent.2.1 28 = .ok (.aload 4, 2) := by decide +kernel
theorem dX8_isConsistent_30 : decode mX8_isConsistent.2.1 30 = .ok (.invokevirtual 187, 3) := by decide +kernel
theorem dX8_isConsistent_33 : decode mX8_isConsistent.2.1 33 = .ok (.if_acmp .ne 16, 3) := by decide +kernel
theorem dX8_isConsistent_36 : decode mX8_isConsistent.2.1 36 = .ok (.aload 4, 2) := by decide +kernel
theorem dX8_isConsistent_38 : decode mX8_isConsistent.2.1 38 = .ok (.invokevirtual 132, 3) := by decide +kernel
theorem dX8_isConsistent_41 : decode mX8_isConsistent.2.1 41 = .ok (.aload 4, 2) := by decide +kernel
theorem dX8_isConsistent_43 : decode mX8_isConsistent.2.1 43 = .ok (.getfield 122, 3) := by decide +kernel
theorem dX8_isConsistent_46 : decode mX8_isConsistent.2.1 46 = .ok (.if_icmp .le 5, 3) := by decide +kernel
theorem dX8_isConsistent_49 : decode mX8_isConsistent.2.1 49 = .ok (.iconst 0, 1) := by decide +kernel
theorem dX8_isConsistent_50 : decode mX8_isConsistent.2.1 50 = .ok (.ireturn, 1) := by decide +kernel
theorem dX8_isConsistent_51 : decode mX8_isConsistent.2.1 51 = .ok (.aload 4, 2) := by decide +kernel
theorem dX8_isConsistent_53 : decode mX8_isConsistent.2.1 53 = .ok (.getfield 283, 3) := by decide +kernel
theorem dX8_isConsistent_56 : decode mX8_isConsistent.2.1 56 = .ok (.astore 5, 2) := by decide +kernel
theorem dX8_isConsistent_58 : decode mX8_isConsistent.2.1 58 = .ok (.aload 5, 2) := by decide +kernel
theorem dX8_isConsistent_60 : decode mX8_isConsistent.2.1 60 = .ok (.arraylength, 1) := by decide +kernel
theorem dX8_isConsistent_61 : decode mX8_isConsistent.2.1 61 = .ok (.istore 6, 2) := by decide +kernel
theorem dX8_isConsistent_63 : decode mX8_isConsistent.2.1 63 = .ok (.iconst 0, 1) := by decide +kernel
theorem dX8_isConsistent_64 : decode mX8_isConsistent.2.1 64 = .ok (.istore 7, 2) := by decide +kernel
theorem dX8_isConsistent_66 : decode mX8_isConsistent.2.1 66 = .ok (.iload 7, 2) := by decide +kernel
theorem dX8_isConsistent_68 : decode mX8_isConsistent.2.1 68 = .ok (.iload 6, 2) := by decide +kernel
theorem dX8_isConsistent_70 : decode mX8_isConsistent.2.1 70 = .ok (.if_icmp .ge 38, 3) := by decide +kernel
theorem dX8_isConsistent_73 : decode mX8_isConsistent.2.1 73 = .ok (.aload 5, 2) := by decide +kernel
theorem dX8_isConsistent_75 : decode mX8_isConsistent.2.1 75 = .ok (.iload 7, 2) := by decide +kernel
theorem dX8_isConsistent_77 : decode mX8_isConsistent.2.1 77 = .ok (.aaload, 1) := by decide +kernel
theorem dX8_isConsistent_78 : decode mX8_isConsistent.2.1 78 = .ok (.astore 8, 2) := by decide +kernel
theorem dX8_isConsistent_80 : decode mX8_isConsistent.2.1 80 = .ok (.aload 8, 2) := by decide +kernel
theorem dX8_isConsistent_82 : decode mX8_isConsistent.2.1 82 = .ok (.getfield 287, 3) := by decide +kernel
theorem dX8_isConsistent_85 : decode mX8_isConsistent.2.1 85 = .ok (.ifCond .eq 17, 3) := by decide +kernel
theorem dX8_isConsistent_88 : decode mX8_isConsistent.2.1 88 = .ok (.aload_n 0, 1) := by decide +kernel
theorem dX8_isConsistent_89 : decode mX8_isConsistent.2.1 89 = .ok (.getfield 10, 3) := by decide +kernel
theorem dX8_isConsistent_92 : decode mX8_isConsistent.2.1 92 = .ok (.aload 8, 2) := by decide +kernel
theorem dX8_isConsistent_94 : decode mX8_isConsistent.2.1 94 = .ok (.invokevirtual 290, 3) := by decide +kernel
theorem dX8_isConsistent_97 : decode mX8_isConsistent.2.1 97 = .ok (.ifCond .ne 5, 3) := by decide +kernel
theorem dX8_isConsistent_100 : decode mX8_isConsistent.2.1 100 = .ok (.iconst 0, 1) := by decide +kernel
theorem dX8_isConsistent_101 : decode mX8_isConsistent.2.1 101 = .ok (.ireturn, 1) := by decide +kernel
theorem dX8_isConsistent_102 : decode mX8_isConsistent.2.1 102 = .ok (.iinc 7 1, 3) := by decide +kernel
theorem dX8_isConsistent_105 : decode mX8_isConsistent.2.1 105 = .ok (.goto (-39), 3) := by decide +kernel
theorem dX8_isConsistent_108 : decode mX8_isConsistent.2.1 108 = .ok (.iinc 3 1, 3) := by decide +kernel
theorem dX8_isConsistent_111 : decode mX8_isConsistent.2.1 111 = .ok (.goto (-98), 3) := by decide +kernel
theorem dX8_isConsistent_114 : decode mX8_isConsistent.2.1 114 = .ok (.iconst 1, 1) := by decide +kernel
theorem dX8_isConsistent_115 : decode mX8_isConsistent.2.1 115 = .ok (.ireturn, 1) := by decide +kernel
theorem dX8_type_0 : decode mX8_type.2.1 0 = .ok (.iload_n 1, 1) := by decide +kernel
theorem dX8_type_1 : decode mX8_type.2.1 1 = .ok (.bipush 32, 2) := by decide +kernel
theorem dX8_type_3 : decode mX8_type.2.1 3 = .ok (.if_icmp .lt 9, 3) := by decide +kernel
theorem dX8_type_6 : decode mX8_type.2.1 6 = .ok (.iload_n 1, 1) := by decide +kernel
theorem dX8_type_7 : decode mX8_type.2.1 7 = .ok (.bipush 126, 2) := by decide +kernel
theorem dX8_type_9 : decode mX8_type.2.1 9 = .ok (.if_icmp .le 14, 3) := by decide +kernel
theorem dX8_type_12 : decode mX8_type.2.1 12 = .ok (.new 241, 3) := by decide +kernel
theorem dX8_type_15 : decode mX8_type.2.1 15 = .ok (.dup, 1) := by decide +kernel
theorem dX8_type_16 : decode mX8_type.2.1 16 = .ok (.ldc_w 293, 3) := by decide +kernel
theorem dX8_type_19 : decode mX8_type.2.1 19 = .ok (.invokespecial 245, 3) := by decide +kernel
theorem dX8_type_22 : decode mX8_type.2.1 22 = .ok (.athrow, 1) := by decide +kernel
theorem dX8_type_23 : decode mX8_type.2.1 23 = .ok (.aload_n 0, 1) := by decide +kernel
theorem dX8_type_24 : decode mX8_type.2.1 24 = .ok (.getfield 33, 3) := by decide +kernel
theorem dX8_type_27 : decode mX8_type.2.1 27 = .ok (.getfield 295, 3) := by decide +kernel
theorem dX8_type_30 : decode mX8_type.2.1 30 = .ok (.bipush 60, 2) := by decide +kernel
theorem dX8_type_32 : decode mX8_type.2.1 32 = .ok (.if_icmp .lt 14, 3) := by decide +kernel
theorem dX8_type_35 : decode mX8_type.2.1 35 = .ok (.new 297, 3) := by decide +kernel
theorem dX8_type_38 : decode mX8_type.2.1 38 = .ok (.dup, 1) := by decide +kernel
theorem dX8_type_39 : decode mX8_type.2.1 39 = .ok (.ldc_w 299, 3) := by decide +kernel
theorem dX8_type_42 : decode mX8_type.2.1 42 = .ok (.invokespecial 301, 3) := by decide +kernel
theorem dX8_type_45 : decode mX8_type.2.1 45 = .ok (.athrow, 1) := by decide +kernel
theorem dX8_type_46 : decode mX8_type.2.1 46 = .ok (.aload_n 0, 1) := by decide +kernel
theorem dX8_type_47 : decode mX8_type.2.1 47 = .ok (.getfield 33, 3) := by decide +kernel
theorem dX8_type_50 : decode mX8_type.2.1 50 = .ok (.iload_n 1, 1) := by decide +kernel
theorem dX8_type_51 : decode mX8_type.2.1 51 = .ok (.invokevirtual 302, 3) := by decide +kernel
theorem dX8_type_54 : decode mX8_type.2.1 54 = .ok (.ireturn, 1) := by decide +kernel
theorem dX8_execute_0 : decode mX8_execute.2.1 0 = .ok (.aload_n 0, 1) := by decide +kernel
theorem dX8_execute_1 : decode mX8_execute.2.1 1 = .ok (.getfield 33, 3) := by decide +kernel
theorem dX8_execute_4 : decode mX8_execute.2.1 4 = .ok (.invokevirtual 305, 3) := by decide +kernel
theorem dX8_execute_7 : decode mX8_execute.2.1 7 = .ok (.istore_n 1, 1) := by decide +kernel
theorem dX8_execute_8 : decode mX8_execute.2.1 8 = .ok (.aload_n 0, 1) := by decide +kernel
theorem dX8_execute_9 : decode mX8_execute.2.1 9 = .ok (.getfield 33, 3) := by decide +kernel
theorem dX8_execute_12 : decode mX8_execute.2.1 12 = .ok (.iconst 0, 1) := by decide +kernel
theorem dX8_execute_13 : decode mX8_execute.2.1 13 = .ok (.putfield 295, 3) := by decide +kernel
theorem dX8_execute_16 : decode mX8_execute.2.1 16 = .ok (.iload_n 1, 1) := by decide +kernel
theorem dX8_execute_17 : decode mX8_execute.2.1 17 = .ok (.ifCond .ne 25, 3) := by decide +kernel
theorem dX8_execute_20 : decode mX8_execute.2.1 20 = .ok (.aload_n 0, 1) := by decide +kernel
theorem dX8_execute_21 : decode mX8_execute.2.1 21 = .ok (.aload_n 0, 1) := by decide +kernel
theorem dX8_execute_22 : decode mX8_execute.2.1 22 = .ok (.getfield 33, 3) := by decide +kernel
theorem dX8_execute_25 : decode mX8_execute.2.1 25 = .ok (.getfield 309, 3) := by decide +kernel
theorem dX8_execute_28 : decode mX8_execute.2.1 28 = .ok (.putfield 37, 3) := by decide +kernel
theorem dX8_execute_31 : decode mX8_execute.2.1 31 = .ok (.new 241, 3) := by decide +kernel
theorem dX8_execute_34 : decode mX8_execute.2.1 34 = .ok (.dup, 1) := by decide +kernel
theorem dX8_execute_35 : decode mX8_execute.2.1 35 = .ok (.ldc_w 312, 3) := by decide +kernel
theorem dX8_execute_38 : decode mX8_execute.2.1 38 = .ok (.invokespecial 245, 3) := by decide +kernel
theorem dX8_execute_41 : decode mX8_execute.2.1 41 = .ok (.athrow, 1) := by decide +kernel
theorem dX8_execute_42 : decode mX8_execute.2.1 42 = .ok (.aload_n 0, 1) := by decide +kernel
theorem dX8_execute_43 : decode mX8_execute.2.1 43 = .ok (.getfield 19, 3) := by decide +kernel
theorem dX8_execute_46 : decode mX8_execute.2.1 46 = .ok (.aload_n 0, 1) := by decide +kernel
theorem dX8_execute_47 : decode mX8_execute.2.1 47 = .ok (.getfield 10, 3) := by decide +kernel
theorem dX8_execute_50 : decode mX8_execute.2.1 50 = .ok (.invokevirtual 314, 3) := by decide +kernel
theorem dX8_execute_53 : decode mX8_execute.2.1 53 = .ok (.iconst 0, 1) := by decide +kernel
theorem dX8_execute_54 : decode mX8_execute.2.1 54 = .ok (.istore_n 2, 1) := by decide +kernel
theorem dX8_execute_55 : decode mX8_execute.2.1 55 = .ok (.iload_n 2, 1) := by decide +kernel
theorem dX8_execute_56 : decode mX8_execute.2.1 56 = .ok (.aload_n 0, 1) := by decide +kernel
theorem dX8_execute_57 : decode mX8_execute.2.1 57 = .ok (.getfield 33, 3) := by decide +kernel
theorem dX8_execute_60 : decode mX8_execute.2.1 60 = .ok (.getfield 317, 3) := by decide +kernel
theorem dX8_execute_63 : decode mX8_execute.2.1 63 = .ok (.if_icmp .ge 62, 3) := by decide +kernel
theorem dX8_execute_66 : decode mX8_execute.2.1 66 = .ok (.aload_n 0, 1) := by decide +kernel
theorem dX8_execute_67 : decode mX8_execute.2.1 67 = .ok (.getfield 33, 3) := by decide +kernel
theorem dX8_execute_70 : decode mX8_execute.2.1 70 = .ok (.iload_n 2, 1) := by decide +kernel
theorem dX8_execute_71 : decode mX8_execute.2.1 71 = .ok (.invokevirtual 320, 3) := by decide +kernel
theorem dX8_execute_74 : decode mX8_execute.2.1 74 = .ok (.astore_n 3, 1) := by decide +kernel
theorem dX8_execute_75 : decode mX8_execute.2.1 75 = .ok (.aload_n 3, 1) := by decide +kernel
theorem dX8_execute_76 : decode mX8_execute.2.1 76 = .ok (.ifnull 11, 3) := by decide +kernel
theorem dX8_execute_79 : decode mX8_execute.2.1 79 = .ok (.aload_n 0, 1) := by decide +kernel
theorem dX8_execute_80 : decode mX8_execute.2.1 80 = .ok (.aload_n 3, 1) := by decide +kernel
theorem dX8_execute_81 : decode mX8_execute.2.1 81 = .ok (.invokevirtual 324, 3) := by decide +kernel
theorem dX8_execute_84 : decode mX8_execute.2.1 84 = .ok (.ifCond .eq 30, 3) := by decide +kernel
theorem dX8_execute_87 : decode mX8_execute.2.1 87 = .ok (.aload_n 0, 1) := by decide +kernel
theorem dX8_execute_88 : decode mX8_execute.2.1 88 = .ok (.getfield 19, 3) := by decide +kernel
theorem dX8_execute_91 : decode mX8_execute.2.1 91 = .ok (.aload_n 0, 1) := by decide +kernel
theorem dX8_execute_92 : decode mX8_execute.2.1 92 = .ok (.getfield 10, 3) := by decide +kernel
theorem dX8_execute_95 : decode mX8_execute.2.1 95 = .ok (.invokevirtual 328, 3) := by decide +kernel
theorem dX8_execute_98 : decode mX8_execute.2.1 98 = .ok (.aload_n 0, 1) := by decide +kernel
theorem dX8_execute_99 : decode mX8_execute.2.1 99 = .ok (.iload_n 2, 1) := by decide +kernel
theorem dX8_execute_100 : decode mX8_execute.2.1 100 = .ok (.putfield 41, 3) := by decide +kernel
theorem dX8_execute_103 : decode mX8_execute.2.1 103 = .ok (.new 297, 3) := by decide +kernel
theorem dX8_execute_106 : decode mX8_execute.2.1 106 = .ok (.dup, 1) := by decide +kernel
theorem dX8_execute_107 : decode mX8_execute.2.1 107 = .ok (.ldc_w 331, 3) := by decide +kernel
theorem dX8_execute_110 : decode mX8_execute.2.1 110 = .ok (.invokespecial 301, 3) := by decide +kernel
theorem dX8_execute_113 : decode mX8_execute.2.1 113 = .ok (.athrow, 1) := by decide +kernel
theorem dX8_execute_114 : decode mX8_execute.2.1 114 = .ok (.aload_n 0, 1) := by decide +kernel
theorem dX8_execute_115 : decode mX8_execute.2.1 115 = .ok (.aload_n 3, 1) := by decide +kernel
theorem dX8_execute_116 : decode mX8_execute.2.1 116 = .ok (.invokevirtual 333, 3) := by decide +kernel
theorem dX8_execute_119 : decode mX8_execute.2.1 119 = .ok (.iinc 2 1, 3) := by decide +kernel
theorem dX8_execute_122 : decode mX8_execute.2.1 122 = .ok (.goto (-67), 3) := by decide +kernel
theorem dX8_execute_125 : decode mX8_execute.2.1 125 = .ok (.aload_n 0, 1) := by decide +kernel
theorem dX8_execute_126 : decode mX8_execute.2.1 126 = .ok (.getfield 19, 3) := by decide +kernel
theorem dX8_execute_129 : decode mX8_execute.2.1 129 = .ok (.invokevirtual 337, 3) := by decide +kernel
theorem dX8_execute_132 : decode mX8_execute.2.1 132 = .ok (.aload_n 0, 1) := by decide +kernel
theorem dX8_execute_133 : decode mX8_execute.2.1 133 = .ok (.getfield 33, 3) := by decide +kernel
theorem dX8_execute_136 : decode mX8_execute.2.1 136 = .ok (.getfield 317, 3) := by decide +kernel
theorem dX8_execute_139 : decode mX8_execute.2.1 139 = .ok (.ireturn, 1) := by decide +kernel
theorem dX8_undo_0 : decode mX8_undo.2.1 0 = .ok (.aload_n 0, 1) := by decide +kernel
theorem dX8_undo_1 : decode mX8_undo.2.1 1 = .ok (.getfield 19, 3) := by decide +kernel
theorem dX8_undo_4 : decode mX8_undo.2.1 4 = .ok (.getfield 344, 3) := by decide +kernel
theorem dX8_undo_7 : decode mX8_undo.2.1 7 = .ok (.ifCond .ne 14, 3) := by decide +kernel
theorem dX8_undo_10 : decode mX8_undo.2.1 10 = .ok (.new 297, 3) := by decide +kernel
theorem dX8_undo_13 : decode mX8_undo.2.1 13 = .ok (.dup, 1) := by decide +kernel
theorem dX8_undo_14 : decode mX8_undo.2.1 14 = .ok (.ldc_w 347, 3) := by decide +kernel
theorem dX8_undo_17 : decode mX8_undo.2.1 17 = .ok (.invokespecial 301, 3) := by decide +kernel
theorem dX8_undo_20 : decode mX8_undo.2.1 20 = .ok (.athrow, 1) := by decide +kernel
theorem dX8_undo_21 : decode mX8_undo.2.1 21 = .ok (.aload_n 0, 1) := by decide +kernel
theorem dX8_undo_22 : decode mX8_undo.2.1 22 = .ok (.getfield 19, 3) := by decide +kernel
theorem dX8_undo_25 : decode mX8_undo.2.1 25 = .ok (.aload_n 0, 1) := by decide +kernel
theorem dX8_undo_26 : decode mX8_undo.2.1 26 = .ok (.getfield 10, 3) := by decide +kernel
theorem dX8_undo_29 : decode mX8_undo.2.1 29 = .ok (.invokevirtual 349, 3) := by decide +kernel
theorem dX8_undo_32 : decode mX8_undo.2.1 32 = .ok (.aload_n 0, 1) := by decide +kernel
theorem dX8_undo_33 : decode mX8_undo.2.1 33 = .ok (.getfield 19, 3) := by decide +kernel
theorem dX8_undo_36 : decode mX8_undo.2.1 36 = .ok (.getfield 344, 3) := by decide +kernel
theorem dX8_undo_39 : decode mX8_undo.2.1 39 = .ok (.ireturn, 1) := by decide +kernel
theorem dX8_wantJar_0 : decode mX8_wantJar.2.1 0 = .ok (.aload_n 0, 1) := by decide +kernel
theorem dX8_wantJar_1 : decode mX8_wantJar.2.1 1 = .ok (.getfield 10, 3) := by decide +kernel
theorem dX8_wantJar_4 : decode mX8_wantJar.2.1 4 = .ok (.iload_n 1, 1) := by decide +kernel
theorem dX8_wantJar_5 : decode mX8_wantJar.2.1 5 = .ok (.invokevirtual 357, 3) := by decide +kernel
theorem dX8_wantJar_8 : decode mX8_wantJar.2.1 8 = .ok (.astore_n 2, 1) := by decide +kernel
theorem dX8_wantJar_9 : decode mX8_wantJar.2.1 9 = .ok (.aload_n 2, 1) := by decide +kernel
theorem dX8_wantJar_10 : decode mX8_wantJar.2.1 10 = .ok (.ifnonnull 14, 3) := by decide +kernel
theorem dX8_wantJar_13 : decode mX8_wantJar.2.1 13 = .ok (.new 138, 3) := by decide +kernel
theorem dX8_wantJar_16 : decode mX8_wantJar.2.1 16 = .ok (.dup, 1) := by decide +kernel
theorem dX8_wantJar_17 : decode mX8_wantJar.2.1 17 = .ok (.ldc_w 360, 3) := by decide +kernel
theorem dX8_wantJar_20 : decode mX8_wantJar.2.1 20 = .ok (.invokespecial 142, 3) := by decide +kernel
theorem dX8_wantJar_23 : decode mX8_wantJar.2.1 23 = .ok (.athrow, 1) := by decide +kernel
theorem dX8_wantJar_24 : decode mX8_wantJar.2.1 24 = .ok (.aload_n 2, 1) := by decide +kernel
theorem dX8_wantJar_25 : decode mX8_wantJar.2.1 25 = .ok (.areturn, 1) := by decide +kernel
theorem dX8_wantShelf_0 : decode mX8_wantShelf.2.1 0 = .ok (.aload_n 0, 1) := by decide +kernel
theorem dX8_wantShelf_1 : decode mX8_wantShelf.2.1 1 = .ok (.getfield 10, 3) := by decide +kernel
theorem dX8_wantShelf_4 : decode mX8_wantShelf.2.1 4 = .ok (.iload_n 1, 1) := by decide +kernel
theorem dX8_wantShelf_5 : decode mX8_wantShelf.2.1 5 = .ok (.invokevirtual 260, 3) := by decide +kernel
theorem dX8_wantShelf_8 : decode mX8_wantShelf.2.1 8 = .ok (.astore_n 2, 1) := by decide +kernel
theorem dX8_wantShelf_9 : decode mX8_wantShelf.2.1 9 = .ok (.aload_n 2, 1) := by decide +kernel
theorem dX8_wantShelf_10 : decode mX8_wantShelf.2.1 10 = .ok (.ifnonnull 14, 3) := by decide +kernel
theorem dX8_wantShelf_13 : decode mX8_wantShelf.2.1 13 = .ok (.new 87, 3) := by decide +kernel
theorem dX8_wantShelf_16 : decode mX8_wantShelf.2.1 16 = .ok (.dup, 1) := by decide +kernel
theorem dX8_wantShelf_17 : decode mX8_wantShelf.2.1 17 = .ok (.ldc_w 362, 3) := by decide +kernel
theorem dX8_wantShelf_20 : decode mX8_wantShelf.2.1 20 = .ok (.invokespecial 91, 3) := by decide +kernel
theorem dX8_wantShelf_23 : decode mX8_wantShelf.2.1 23 = .ok (.athrow, 1) := by decide +kernel
theorem dX8_wantShelf_24 : decode mX8_wantShelf.2.1 24 = .ok (.aload_n 2, 1) := by decide +kernel
theorem dX8_wantShelf_25 : decode mX8_wantShelf.2.1 25 = .ok (.areturn, 1) := by decide +kernel
theorem dX8_wantEcho_0 : decode mX8_wantEcho.2.1 0 = .ok (.aload_n 0, 1) := by decide +kernel
theorem dX8_wantEcho_1 : decode mX8_wantEcho.2.1 1 = .ok (.iload_n 1, 1) := by decide +kernel
theorem dX8_wantEcho_2 : decode mX8_wantEcho.2.1 2 = .ok (.invokevirtual 110, 3) := by decide +kernel
theorem dX8_wantEcho_5 : decode mX8_wantEcho.2.1 5 = .ok (.iload_n 2, 1) := by decide +kernel
theorem dX8_wantEcho_6 : decode mX8_wantEcho.2.1 6 = .ok (.invokevirtual 143, 3) := by decide +kernel
theorem dX8_wantEcho_9 : decode mX8_wantEcho.2.1 9 = .ok (.astore_n 3, 1) := by decide +kernel
theorem dX8_wantEcho_10 : decode mX8_wantEcho.2.1 10 = .ok (.aload_n 3, 1) := by decide +kernel
theorem dX8_wantEcho_11 : decode mX8_wantEcho.2.1 11 = .ok (.ifnonnull 14, 3) := by decide +kernel
theorem dX8_wantEcho_14 : decode mX8_wantEcho.2.1 14 = .ok (.new 138, 3) := by decide +kernel
theorem dX8_wantEcho_17 : decode mX8_wantEcho.2.1 17 = .ok (.dup, 1) := by decide +kernel
theorem dX8_wantEcho_18 : decode mX8_wantEcho.2.1 18 = .ok (.ldc_w 364, 3) := by decide +kernel
theorem dX8_wantEcho_21 : decode mX8_wantEcho.2.1 21 = .ok (.invokespecial 142, 3) := by decide +kernel
theorem dX8_wantEcho_24 : decode mX8_wantEcho.2.1 24 = .ok (.athrow, 1) := by decide +kernel
theorem dX8_wantEcho_25 : decode mX8_wantEcho.2.1 25 = .ok (.aload_n 3, 1) := by decide +kernel
theorem dX8_wantEcho_26 : decode mX8_wantEcho.2.1 26 = .ok (.areturn, 1) := by decide +kernel
theorem dX8_wantWarming_0 : decode mX8_wantWarming.2.1 0 = .ok (.aload_n 0, 1) := by decide +kernel
theorem dX8_wantWarming_1 : decode mX8_wantWarming.2.1 1 = .ok (.getfield 10, 3) := by decide +kernel
theorem dX8_wantWarming_4 : decode mX8_wantWarming.2.1 4 = .ok (.iload_n 1, 1) := by decide +kernel
theorem dX8_wantWarming_5 : decode mX8_wantWarming.2.1 5 = .ok (.invokevirtual 366, 3) := by decide +kernel
theorem dX8_wantWarming_8 : decode mX8_wantWarming.2.1 8 = .ok (.astore_n 2, 1) := by decide +kernel
theorem dX8_wantWarming_9 : decode mX8_wantWarming.2.1 9 = .ok (.aload_n 2, 1) := by decide +kernel
theorem dX8_wantWarming_10 : decode mX8_wantWarming.2.1 10 = .ok (.ifnonnull 14, 3) := by decide +kernel
theorem dX8_wantWarming_13 : decode mX8_wantWarming.2.1 13 = .ok (.new 87, 3) := by decide +kernel
theorem dX8_wantWarming_16 : decode mX8_wantWarming.2.1 16 = .ok (.dup, 1) := by decide +kernel
theorem dX8_wantWarming_17 : decode mX8_wantWarming.2.1 17 = .ok (.ldc_w 369, 3) := by decide +kernel
theorem dX8_wantWarming_20 : decode mX8_wantWarming.2.1 20 = .ok (.invokespecial 91, 3) := by decide +kernel
theorem dX8_wantWarming_23 : decode mX8_wantWarming.2.1 23 = .ok (.athrow, 1) := by decide +kernel
theorem dX8_wantWarming_24 : decode mX8_wantWarming.2.1 24 = .ok (.aload_n 2, 1) := by decide +kernel
theorem dX8_wantWarming_25 : decode mX8_wantWarming.2.1 25 = .ok (.areturn, 1) := by decide +kernel
theorem dX8_refuse_0 : decode mX8_refuse.2.1 0 = .ok (.iload_n 0, 1) := by decide +kernel
theorem dX8_refuse_1 : decode mX8_refuse.2.1 1 = .ok (.iconst 1, 1) := by decide +kernel
theorem dX8_refuse_2 : decode mX8_refuse.2.1 2 = .ok (.if_icmp .ne 14, 3) := by decide +kernel
theorem dX8_refuse_5 : decode mX8_refuse.2.1 5 = .ok (.new 87, 3) := by decide +kernel
theorem dX8_refuse_8 : decode mX8_refuse.2.1 8 = .ok (.dup, 1) := by decide +kernel
theorem dX8_refuse_9 : decode mX8_refuse.2.1 9 = .ok (.ldc_w 362, 3) := by decide +kernel
theorem dX8_refuse_12 : decode mX8_refuse.2.1 12 = .ok (.invokespecial 91, 3) := by decide +kernel
theorem dX8_refuse_15 : decode mX8_refuse.2.1 15 = .ok (.athrow, 1) := by decide +kernel
theorem dX8_refuse_16 : decode mX8_refuse.2.1 16 = .ok (.iload_n 0, 1) := by decide +kernel
theorem dX8_refuse_17 : decode mX8_refuse.2.1 17 = .ok (.iconst 2, 1) := by decide +kernel
theorem dX8_refuse_18 : decode mX8_refuse.2.1 18 = .ok (.if_icmp .ne 14, 3) := by decide +kernel
theorem dX8_refuse_21 : decode mX8_refuse.2.1 21 = .ok (.new 138, 3) := by decide +kernel
theorem dX8_refuse_24 : decode mX8_refuse.2.1 24 = .ok (.dup, 1) := by decide +kernel
theorem dX8_refuse_25 : decode mX8_refuse.2.1 25 = .ok (.ldc_w 360, 3) := by decide +kernel
theorem dX8_refuse_28 : decode mX8_refuse.2.1 28 = .ok (.invokespecial 142, 3) := by decide +kernel
theorem dX8_refuse_31 : decode mX8_refuse.2.1 31 = .ok (.athrow, 1) := by decide +kernel
theorem dX8_refuse_32 : decode mX8_refuse.2.1 32 = .ok (.iload_n 0, 1) := by decide +kernel
theorem dX8_refuse_33 : decode mX8_refuse.2.1 33 = .ok (.iconst 3, 1) := by decide +kernel
theorem dX8_refuse_34 : decode mX8_refuse.2.1 34 = .ok (.if_icmp .ne 14, 3) := by decide +kernel
theorem dX8_refuse_37 : decode mX8_refuse.2.1 37 = .ok (.new 241, 3) := by decide +kernel
theorem dX8_refuse_40 : decode mX8_refuse.2.1 40 = .ok (.dup, 1) := by decide +kernel
theorem dX8_refuse_41 : decode mX8_refuse.2.1 41 = .ok (.ldc_w 371, 3) := by decide +kernel
theorem dX8_refuse_44 : decode mX8_refuse.2.1 44 = .ok (.invokespecial 245, 3) := by decide +kernel
theorem dX8_refuse_47 : decode mX8_refuse.2.1 47 = .ok (.athrow, 1) := by decide +kernel
theorem dX8_refuse_48 : decode mX8_refuse.2.1 48 = .ok (.iload_n 0, 1) := by decide +kernel
theorem dX8_refuse_49 : decode mX8_refuse.2.1 49 = .ok (.iconst 4, 1) := by decide +kernel
theorem dX8_refuse_50 : decode mX8_refuse.2.1 50 = .ok (.if_icmp .ne 14, 3) := by decide +kernel
theorem dX8_refuse_53 : decode mX8_refuse.2.1 53 = .ok (.new 297, 3) := by decide +kernel
theorem dX8_refuse_56 : decode mX8_refuse.2.1 56 = .ok (.dup, 1) := by decide +kernel
theorem dX8_refuse_57 : decode mX8_refuse.2.1 57 = .ok (.ldc_w 373, 3) := by decide +kernel
theorem dX8_refuse_60 : decode mX8_refuse.2.1 60 = .ok (.invokespecial 301, 3) := by decide +kernel
theorem dX8_refuse_63 : decode mX8_refuse.2.1 63 = .ok (.athrow, 1) := by decide +kernel
theorem dX8_refuse_64 : decode mX8_refuse.2.1 64 = .ok (.return_, 1) := by decide +kernel
theorem dX8_writeEcho_0 : decode mX8_writeEcho.2.1 0 = .ok (.aload_n 0, 1) := by decide +kernel
theorem dX8_writeEcho_1 : decode mX8_writeEcho.2.1 1 = .ok (.getfield 47, 3) := by decide +kernel
theorem dX8_writeEcho_4 : decode mX8_writeEcho.2.1 4 = .ok (.invokevirtual 275, 3) := by decide +kernel
theorem dX8_writeEcho_7 : decode mX8_writeEcho.2.1 7 = .ok (.ifCond .le 13, 3) := by decide +kernel
theorem dX8_writeEcho_10 : decode mX8_writeEcho.2.1 10 = .ok (.aload_n 0, 1) := by decide +kernel
theorem dX8_writeEcho_11 : decode mX8_writeEcho.2.1 11 = .ok (.getfield 47, 3) := by decide +kernel
theorem dX8_writeEcho_14 : decode mX8_writeEcho.2.1 14 = .ok (.bipush 32, 2) := by decide +kernel
theorem dX8_writeEcho_16 : decode mX8_writeEcho.2.1 16 = .ok (.invokevirtual 375, 3) := by decide +kernel
theorem dX8_writeEcho_19 : decode mX8_writeEcho.2.1 19 = .ok (.pop, 1) := by decide +kernel
theorem dX8_writeEcho_20 : decode mX8_writeEcho.2.1 20 = .ok (.aload_n 0, 1) := by decide +kernel
theorem dX8_writeEcho_21 : decode mX8_writeEcho.2.1 21 = .ok (.getfield 47, 3) := by decide +kernel
theorem dX8_writeEcho_24 : decode mX8_writeEcho.2.1 24 = .ok (.aload_n 1, 1) := by decide +kernel
theorem dX8_writeEcho_25 : decode mX8_writeEcho.2.1 25 = .ok (.getfield 184, 3) := by decide +kernel
theorem dX8_writeEcho_28 : decode mX8_writeEcho.2.1 28 = .ok (.invokevirtual 375, 3) := by decide +kernel
theorem dX8_writeEcho_31 : decode mX8_writeEcho.2.1 31 = .ok (.aload_n 1, 1) := by decide +kernel
theorem dX8_writeEcho_32 : decode mX8_writeEcho.2.1 32 = .ok (.getfield 151, 3) := by decide +kernel
theorem dX8_writeEcho_35 : decode mX8_writeEcho.2.1 35 = .ok (.invokevirtual 378, 3) := by decide +kernel
theorem dX8_writeEcho_38 : decode mX8_writeEcho.2.1 38 = .ok (.pop, 1) := by decide +kernel
theorem dX8_writeEcho_39 : decode mX8_writeEcho.2.1 39 = .ok (.iload_n 2, 1) := by decide +kernel
theorem dX8_writeEcho_40 : decode mX8_writeEcho.2.1 40 = .ok (.ifCond .eq 13, 3) := by decide +kernel
theorem dX8_writeEcho_43 : decode mX8_writeEcho.2.1 43 = .ok (.aload_n 0, 1) := by decide +kernel
theorem dX8_writeEcho_44 : decode mX8_writeEcho.2.1 44 = .ok (.getfield 47, 3) := by decide +kernel
theorem dX8_writeEcho_47 : decode mX8_writeEcho.2.1 47 = .ok (.bipush 126, 2) := by decide +kernel
theorem dX8_writeEcho_49 : decode mX8_writeEcho.2.1 49 = .ok (.invokevirtual 375, 3) := by decide +kernel
theorem dX8_writeEcho_52 : decode mX8_writeEcho.2.1 52 = .ok (.pop, 1) := by decide +kernel
theorem dX8_writeEcho_53 : decode mX8_writeEcho.2.1 53 = .ok (.aload_n 1, 1) := by decide +kernel
theorem dX8_writeEcho_54 : decode mX8_writeEcho.2.1 54 = .ok (.getfield 168, 3) := by decide +kernel
theorem dX8_writeEcho_57 : decode mX8_writeEcho.2.1 57 = .ok (.ifCond .eq 13, 3) := by decide +kernel
theorem dX8_writeEcho_60 : decode mX8_writeEcho.2.1 60 = .ok (.aload_n 0, 1) := by decide +kernel
theorem dX8_writeEcho_61 : decode mX8_writeEcho.2.1 61 = .ok (.getfield 47, 3) := by decide +kernel
theorem dX8_writeEcho_64 : decode mX8_writeEcho.2.1 64 = .ok (.bipush 33, 2) := by decide +kernel
theorem dX8_writeEcho_66 : decode mX8_writeEcho.2.1 66 = .ok (.invokevirtual 375, 3) := by decide +kernel
theorem dX8_writeEcho_69 : decode mX8_writeEcho.2.1 69 = .ok (.pop, 1) := by decide +kernel
theorem dX8_writeEcho_70 : decode mX8_writeEcho.2.1 70 = .ok (.return_, 1) := by decide +kernel
theorem dX8_faultOf_0 : decode mX8_faultOf.2.1 0 = .ok (.aload_n 1, 1) := by decide +kernel
theorem dX8_faultOf_1 : decode mX8_faultOf.2.1 1 = .ok (.getfield 381, 3) := by decide +kernel
theorem dX8_faultOf_4 : decode mX8_faultOf.2.1 4 = .ok (.tableswitch 176 0 8 #[52, 68, 84, 96, 116, 132, 152, 152, 164], 52) := by decide +kernel
theorem dX8_faultOf_56 : decode mX8_faultOf.2.1 56 = .ok (.aload_n 0, 1) := by decide +kernel
theorem dX8_faultOf_57 : decode mX8_faultOf.2.1 57 = .ok (.getfield 10, 3) := by decide +kernel
theorem dX8_faultOf_60 : decode mX8_faultOf.2.1 60 = .ok (.aload_n 1, 1) := by decide +kernel
theorem dX8_faultOf_61 : decode mX8_faultOf.2.1 61 = .ok (.getfield 386, 3) := by decide +kernel
theorem dX8_faultOf_64 : decode mX8_faultOf.2.1 64 = .ok (.aload_n 1, 1) := by decide +kernel
theorem dX8_faultOf_65 : decode mX8_faultOf.2.1 65 = .ok (.getfield 387, 3) := by decide +kernel
theorem dX8_faultOf_68 : decode mX8_faultOf.2.1 68 = .ok (.invokevirtual 51, 3) := by decide +kernel
theorem dX8_faultOf_71 : decode mX8_faultOf.2.1 71 = .ok (.ireturn, 1) := by decide +kernel
theorem dX8_faultOf_72 : decode mX8_faultOf.2.1 72 = .ok (.aload_n 0, 1) := by decide +kernel
theorem dX8_faultOf_73 : decode mX8_faultOf.2.1 73 = .ok (.getfield 10, 3) := by decide +kernel
theorem dX8_faultOf_76 : decode mX8_faultOf.2.1 76 = .ok (.aload_n 1, 1) := by decide +kernel
theorem dX8_faultOf_77 : decode mX8_faultOf.2.1 77 = .ok (.getfield 386, 3) := by decide +kernel
theorem dX8_faultOf_80 : decode mX8_faultOf.2.1 80 = .ok (.aload_n 1, 1) := by decide +kernel
theorem dX8_faultOf_81 : decode mX8_faultOf.2.1 81 = .ok (.getfield 387, 3) := by decide +kernel
theorem dX8_faultOf_84 : decode mX8_faultOf.2.1 84 = .ok (.invokevirtual 73, 3) := by decide +kernel
theorem dX8_faultOf_87 : decode mX8_faultOf.2.1 87 = .ok (.ireturn, 1) := by decide +kernel
theorem dX8_faultOf_88 : decode mX8_faultOf.2.1 88 = .ok (.aload_n 0, 1) := by decide +kernel
theorem dX8_faultOf_89 : decode mX8_faultOf.2.1 89 = .ok (.getfield 10, 3) := by decide +kernel
theorem dX8_faultOf_92 : decode mX8_faultOf.2.1 92 = .ok (.aload_n 1, 1) := by decide +kernel
theorem dX8_faultOf_93 : decode mX8_faultOf.2.1 93 = .ok (.getfield 386, 3) := by decide +kernel
theorem dX8_faultOf_96 : decode mX8_faultOf.2.1 96 = .ok (.invokevirtual 66, 3) := by decide +kernel
theorem dX8_faultOf_99 : decode mX8_faultOf.2.1 99 = .ok (.ireturn, 1) := by decide +kernel
theorem dX8_faultOf_100 : decode mX8_faultOf.2.1 100 = .ok (.aload_n 0, 1) := by decide +kernel
theorem dX8_faultOf_101 : decode mX8_faultOf.2.1 101 = .ok (.getfield 10, 3) := by decide +kernel
theorem dX8_faultOf_104 : decode mX8_faultOf.2.1 104 = .ok (.aload_n 1, 1) := by decide +kernel
theorem dX8_faultOf_105 : decode mX8_faultOf.2.1 105 = .ok (.getfield 390, 3) := by decide +kernel
theorem dX8_faultOf_108 : decode mX8_faultOf.2.1 108 = .ok (.aload_n 1, 1) := by decide +kernel
theorem dX8_faultOf_109 : decode mX8_faultOf.2.1 109 = .ok (.getfield 387, 3) := by decide +kernel
theorem dX8_faultOf_112 : decode mX8_faultOf.2.1 112 = .ok (.aload_n 1, 1) := by decide +kernel
theorem dX8_faultOf_113 : decode mX8_faultOf.2.1 113 = .ok (.getfield 393, 3) := by decide +kernel
theorem dX8_faultOf_116 : decode mX8_faultOf.2.1 116 = .ok (.invokevirtual 103, 3) := by decide +kernel
theorem dX8_faultOf_119 : decode mX8_faultOf.2.1 119 = .ok (.ireturn, 1) := by decide +kernel
theorem dX8_faultOf_120 : decode mX8_faultOf.2.1 120 = .ok (.aload_n 0, 1) := by decide +kernel
theorem dX8_faultOf_121 : decode mX8_faultOf.2.1 121 = .ok (.getfield 10, 3) := by decide +kernel
theorem dX8_faultOf_124 : decode mX8_faultOf.2.1 124 = .ok (.aload_n 1, 1) := by decide +kernel
theorem dX8_faultOf_125 : decode mX8_faultOf.2.1 125 = .ok (.getfield 390, 3) := by decide +kernel
theorem dX8_faultOf_128 : decode mX8_faultOf.2.1 128 = .ok (.aload_n 1, 1) := by decide +kernel
theorem dX8_faultOf_129 : decode mX8_faultOf.2.1 129 = .ok (.getfield 386, 3) := by decide +kernel
theorem dX8_faultOf_132 : decode mX8_faultOf.2.1 132 = .ok (.invokevirtual 190, 3) := by decide +kernel
theorem dX8_faultOf_135 : decode mX8_faultOf.2.1 135 = .ok (.ireturn, 1) := by decide +kernel
theorem dX8_faultOf_136 : decode mX8_faultOf.2.1 136 = .ok (.aload_n 0, 1) := by decide +kernel
theorem dX8_faultOf_137 : decode mX8_faultOf.2.1 137 = .ok (.getfield 10, 3) := by decide +kernel
theorem dX8_faultOf_140 : decode mX8_faultOf.2.1 140 = .ok (.aload_n 1, 1) := by decide +kernel
theorem dX8_faultOf_141 : decode mX8_faultOf.2.1 141 = .ok (.getfield 390, 3) := by decide +kernel
theorem dX8_faultOf_144 : decode mX8_faultOf.2.1 144 = .ok (.aload_n 1, 1) := by decide +kernel
theorem dX8_faultOf_145 : decode mX8_faultOf.2.1 145 = .ok (.getfield 386, 3) := by decide +kernel
theorem dX8_faultOf_148 : decode mX8_faultOf.2.1 148 = .ok (.aload_n 1, 1) := by decide +kernel
theorem dX8_faultOf_149 : decode mX8_faultOf.2.1 149 = .ok (.getfield 387, 3) := by decide +kernel
theorem dX8_faultOf_152 : decode mX8_faultOf.2.1 152 = .ok (.invokevirtual 201, 3) := by decide +kernel
theorem dX8_faultOf_155 : decode mX8_faultOf.2.1 155 = .ok (.ireturn, 1) := by decide +kernel
theorem dX8_faultOf_156 : decode mX8_faultOf.2.1 156 = .ok (.aload_n 0, 1) := by decide +kernel
theorem dX8_faultOf_157 : decode mX8_faultOf.2.1 157 = .ok (.getfield 10, 3) := by decide +kernel
theorem dX8_faultOf_160 : decode mX8_faultOf.2.1 160 = .ok (.aload_n 1, 1) := by decide +kernel
theorem dX8_faultOf_161 : decode mX8_faultOf.2.1 161 = .ok (.getfield 390, 3) := by decide +kernel
theorem dX8_faultOf_164 : decode mX8_faultOf.2.1 164 = .ok (.invokevirtual 394, 3) := by decide +kernel
theorem dX8_faultOf_167 : decode mX8_faultOf.2.1 167 = .ok (.ireturn, 1) := by decide +kernel
theorem dX8_faultOf_168 : decode mX8_faultOf.2.1 168 = .ok (.aload_n 0, 1) := by decide +kernel
theorem dX8_faultOf_169 : decode mX8_faultOf.2.1 169 = .ok (.getfield 10, 3) := by decide +kernel
theorem dX8_faultOf_172 : decode mX8_faultOf.2.1 172 = .ok (.aload_n 1, 1) := by decide +kernel
theorem dX8_faultOf_173 : decode mX8_faultOf.2.1 173 = .ok (.getfield 387, 3) := by decide +kernel
theorem dX8_faultOf_176 : decode mX8_faultOf.2.1 176 = .ok (.invokevirtual 219, 3) := by decide +kernel
theorem dX8_faultOf_179 : decode mX8_faultOf.2.1 179 = .ok (.ireturn, 1) := by decide +kernel
theorem dX8_faultOf_180 : decode mX8_faultOf.2.1 180 = .ok (.iconst 3, 1) := by decide +kernel
theorem dX8_faultOf_181 : decode mX8_faultOf.2.1 181 = .ok (.ireturn, 1) := by decide +kernel
theorem dX8_carryOut_0 : decode mX8_carryOut.2.1 0 = .ok (.aload_n 1, 1) := by decide +kernel
theorem dX8_carryOut_1 : decode mX8_carryOut.2.1 1 = .ok (.getfield 381, 3) := by decide +kernel
theorem dX8_carryOut_4 : decode mX8_carryOut.2.1 4 = .ok (.tableswitch 215 0 8 #[52, 71, 90, 105, 128, 147, 170, 185, 200], 52) := by decide +kernel
theorem dX8_carryOut_56 : decode mX8_carryOut.2.1 56 = .ok (.aload_n 0, 1) := by decide +kernel
theorem dX8_carryOut_57 : decode mX8_carryOut.2.1 57 = .ok (.getfield 10, 3) := by decide +kernel
theorem dX8_carryOut_60 : decode mX8_carryOut.2.1 60 = .ok (.aload_n 1, 1) := by decide +kernel
theorem dX8_carryOut_61 : decode mX8_carryOut.2.1 61 = .ok (.getfield 386, 3) := by decide +kernel
theorem dX8_carryOut_64 : decode mX8_carryOut.2.1 64 = .ok (.aload_n 1, 1) := by decide +kernel
theorem dX8_carryOut_65 : decode mX8_carryOut.2.1 65 = .ok (.getfield 387, 3) := by decide +kernel
theorem dX8_carryOut_68 : decode mX8_carryOut.2.1 68 = .ok (.invokevirtual 63, 3) := by decide +kernel
theorem dX8_carryOut_71 : decode mX8_carryOut.2.1 71 = .ok (.pop, 1) := by decide +kernel
theorem dX8_carryOut_72 : decode mX8_carryOut.2.1 72 = .ok (.goto 147, 3) := by decide +kernel
theorem dX8_carryOut_75 : decode mX8_carryOut.2.1 75 = .ok (.aload_n 0, 1) := by decide +kernel
theorem dX8_carryOut_76 : decode mX8_carryOut.2.1 76 = .ok (.getfield 10, 3) := by decide +kernel
theorem dX8_carryOut_79 : decode mX8_carryOut.2.1 79 = .ok (.aload_n 1, 1) := by decide +kernel
theorem dX8_carryOut_80 : decode mX8_carryOut.2.1 80 = .ok (.getfield 386, 3) := by decide +kernel
theorem dX8_carryOut_83 : decode mX8_carryOut.2.1 83 = .ok (.aload_n 1, 1) := by decide +kernel
theorem dX8_carryOut_84 : decode mX8_carryOut.2.1 84 = .ok (.getfield 387, 3) := by decide +kernel
theorem dX8_carryOut_87 : decode mX8_carryOut.2.1 87 = .ok (.invokevirtual 76, 3) := by decide +kernel
theorem dX8_carryOut_90 : decode mX8_carryOut.2.1 90 = .ok (.pop, 1) := by decide +kernel
theorem dX8_carryOut_91 : decode mX8_carryOut.2.1 91 = .ok (.goto 128, 3) := by decide +kernel
theorem dX8_carryOut_94 : decode mX8_carryOut.2.1 94 = .ok (.aload_n 0, 1) := by decide +kernel
theorem dX8_carryOut_95 : decode mX8_carryOut.2.1 95 = .ok (.getfield 10, 3) := by decide +kernel
theorem dX8_carryOut_98 : decode mX8_carryOut.2.1 98 = .ok (.aload_n 1, 1) := by decide +kernel
theorem dX8_carryOut_99 : decode mX8_carryOut.2.1 99 = .ok (.getfield 386, 3) := by decide +kernel
theorem dX8_carryOut_102 : decode mX8_carryOut.2.1 102 = .ok (.invokevirtual 70, 3) := by decide +kernel
theorem dX8_carryOut_105 : decode mX8_carryOut.2.1 105 = .ok (.pop, 1) := by decide +kernel
theorem dX8_carryOut_106 : decode mX8_carryOut.2.1 106 = .ok (.goto 113, 3) := by decide +kernel
theorem dX8_carryOut_109 : decode mX8_carryOut.2.1 109 = .ok (.aload_n 0, 1) := by decide +kernel
theorem dX8_carryOut_110 : decode mX8_carryOut.2.1 110 = .ok (.getfield 10, 3) := by decide +kernel
theorem dX8_carryOut_113 : decode mX8_carryOut.2.1 113 = .ok (.aload_n 1, 1) := by decide +kernel
theorem dX8_carryOut_114 : decode mX8_carryOut.2.1 114 = .ok (.getfield 390, 3) := by decide +kernel
theorem dX8_carryOut_117 : decode mX8_carryOut.2.1 117 = .ok (.aload_n 1, 1) := by decide +kernel
theorem dX8_carryOut_118 : decode mX8_carryOut.2.1 118 = .ok (.getfield 387, 3) := by decide +kernel
theorem dX8_carryOut_121 : decode mX8_carryOut.2.1 121 = .ok (.aload_n 1, 1) := by decide +kernel
theorem dX8_carryOut_122 : decode mX8_carryOut.2.1 122 = .ok (.getfield 393, 3) := by decide +kernel
theorem dX8_carryOut_125 : decode mX8_carryOut.2.1 125 = .ok (.invokevirtual 107, 3) := by decide +kernel
theorem dX8_carryOut_128 : decode mX8_carryOut.2.1 128 = .ok (.pop, 1) := by decide +kernel
theorem dX8_carryOut_129 : decode mX8_carryOut.2.1 129 = .ok (.goto 90, 3) := by decide +kernel
theorem dX8_carryOut_132 : decode mX8_carryOut.2.1 132 = .ok (.aload_n 0, 1) := by decide +kernel
theorem dX8_carryOut_133 : decode mX8_carryOut.2.1 133 = .ok (.getfield 10, 3) := by decide +kernel
theorem dX8_carryOut_136 : decode mX8_carryOut.2.1 136 = .ok (.aload_n 1, 1) := by decide +kernel
theorem dX8_carryOut_137 : decode mX8_carryOut.2.1 137 = .ok (.getfield 390, 3) := by decide +kernel
theorem dX8_carryOut_140 : decode mX8_carryOut.2.1 140 = .ok (.aload_n 1, 1) := by decide +kernel
theorem dX8_carryOut_141 : decode mX8_carryOut.2.1 141 = .ok (.getfield 386, 3) := by decide +kernel
theorem dX8_carryOut_144 : decode mX8_carryOut.2.1 144 = .ok (.invokevirtual 194, 3) := by decide +kernel
theorem dX8_carryOut_147 : decode mX8_carryOut.2.1 147 = .ok (.pop, 1) := by decide +kernel
theorem dX8_carryOut_148 : decode mX8_carryOut.2.1 148 = .ok (.goto 71, 3) := by decide +kernel
theorem dX8_carryOut_151 : decode mX8_carryOut.2.1 151 = .ok (.aload_n 0, 1) := by decide +kernel
theorem dX8_carryOut_152 : decode mX8_carryOut.2.1 152 = .ok (.getfield 10, 3) := by decide +kernel
theorem dX8_carryOut_155 : decode mX8_carryOut.2.1 155 = .ok (.aload_n 1, 1) := by decide +kernel
theorem dX8_carryOut_156 : decode mX8_carryOut.2.1 156 = .ok (.getfield 390, 3) := by decide +kernel
theorem dX8_carryOut_159 : decode mX8_carryOut.2.1 159 = .ok (.aload_n 1, 1) := by decide +kernel
theorem dX8_carryOut_160 : decode mX8_carryOut.2.1 160 = .ok (.getfield 386, 3) := by decide +kernel
theorem dX8_carryOut_163 : decode mX8_carryOut.2.1 163 = .ok (.aload_n 1, 1) := by decide +kernel
theorem dX8_carryOut_164 : decode mX8_carryOut.2.1 164 = .ok (.getfield 387, 3) := by decide +kernel
theorem dX8_carryOut_167 : decode mX8_carryOut.2.1 167 = .ok (.invokevirtual 205, 3) := by decide +kernel
theorem dX8_carryOut_170 : decode mX8_carryOut.2.1 170 = .ok (.pop, 1) := by decide +kernel
theorem dX8_carryOut_171 : decode mX8_carryOut.2.1 171 = .ok (.goto 48, 3) := by decide +kernel
theorem dX8_carryOut_174 : decode mX8_carryOut.2.1 174 = .ok (.aload_n 0, 1) := by decide +kernel
theorem dX8_carryOut_175 : decode mX8_carryOut.2.1 175 = .ok (.getfield 10, 3) := by decide +kernel
theorem dX8_carryOut_178 : decode mX8_carryOut.2.1 178 = .ok (.aload_n 1, 1) := by decide +kernel
theorem dX8_carryOut_179 : decode mX8_carryOut.2.1 179 = .ok (.getfield 390, 3) := by decide +kernel
theorem dX8_carryOut_182 : decode mX8_carryOut.2.1 182 = .ok (.iconst 1, 1) := by decide +kernel
theorem dX8_carryOut_183 : decode mX8_carryOut.2.1 183 = .ok (.invokevirtual 397, 3) := by decide +kernel
theorem dX8_carryOut_186 : decode mX8_carryOut.2.1 186 = .ok (.goto 33, 3) := by decide +kernel
theorem dX8_carryOut_189 : decode mX8_carryOut.2.1 189 = .ok (.aload_n 0, 1) := by decide +kernel
theorem dX8_carryOut_190 : decode mX8_carryOut.2.1 190 = .ok (.getfield 10, 3) := by decide +kernel
theorem dX8_carryOut_193 : decode mX8_carryOut.2.1 193 = .ok (.aload_n 1, 1) := by decide +kernel
theorem dX8_carryOut_194 : decode mX8_carryOut.2.1 194 = .ok (.getfield 390, 3) := by decide +kernel
theorem dX8_carryOut_197 : decode mX8_carryOut.2.1 197 = .ok (.iconst 0, 1) := by decide +kernel
theorem dX8_carryOut_198 : decode mX8_carryOut.2.1 198 = .ok (.invokevirtual 397, 3) := by decide +kernel
theorem dX8_carryOut_201 : decode mX8_carryOut.2.1 201 = .ok (.goto 18, 3) := by decide +kernel
theorem dX8_carryOut_204 : decode mX8_carryOut.2.1 204 = .ok (.aload_n 0, 1) := by decide +kernel
theorem dX8_carryOut_205 : decode mX8_carryOut.2.1 205 = .ok (.getfield 10, 3) := by decide +kernel
theorem dX8_carryOut_208 : decode mX8_carryOut.2.1 208 = .ok (.aload_n 1, 1) := by decide +kernel
theorem dX8_carryOut_209 : decode mX8_carryOut.2.1 209 = .ok (.getfield 387, 3) := by decide +kernel
theorem dX8_carryOut_212 : decode mX8_carryOut.2.1 212 = .ok (.invokevirtual 222, 3) := by decide +kernel
theorem dX8_carryOut_215 : decode mX8_carryOut.2.1 215 = .ok (.pop, 1) := by decide +kernel
theorem dX8_carryOut_216 : decode mX8_carryOut.2.1 216 = .ok (.goto 3, 3) := by decide +kernel
theorem dX8_carryOut_219 : decode mX8_carryOut.2.1 219 = .ok (.return_, 1) := by decide +kernel
