/-! ===== the law's instructions ===== -/
theorem dL_law_41 : decode mL_law.2.1 41 = .ok (.bipush 63, 2) := by decide +kernel
theorem dL_law_43 : decode mL_law.2.1 43 = .ok (.iand, 1) := by decide +kernel
theorem dL_law_44 : decode mL_law.2.1 44 = .ok (.tableswitch 2931 0 48 #[212, 282, 340, 410, 423, 479, 537, 619, 710, 723, 779, 835, 891, 954, 1010, 1078, 1155, 1225, 1295, 1365, 1442, 1519, 1596, 1673, 1729, 1785, 1855, 1925, 2007, 2063, 2119, 2132, 2145, 2201, 2257, 2270, 2328, 2394, 2459, 2515, 2571, 2627, 2640, 2698, 2742, 2786, 2830, 2874, 2887], 212) := by decide +kernel
theorem dL_law_2975 : decode mL_law.2.1 2975 = .ok (.iinc 5 4, 3) := by decide +kernel
theorem dL_law_2978 : decode mL_law.2.1 2978 = .ok (.goto (-2950), 3) := by decide +kernel
theorem dL_law_2981 : decode mL_law.2.1 2981 = .ok (.iconst 1, 1) := by decide +kernel
theorem dL_law_2982 : decode mL_law.2.1 2982 = .ok (.ireturn, 1) := by decide +kernel
theorem dL_law_0 : decode mL_law.2.1 0 = .ok (.new 8, 3) := by decide +kernel
theorem dL_law_3 : decode mL_law.2.1 3 = .ok (.dup, 1) := by decide +kernel
theorem dL_law_4 : decode mL_law.2.1 4 = .ok (.invokespecial 160, 3) := by decide +kernel
theorem dL_law_7 : decode mL_law.2.1 7 = .ok (.astore_n 1, 1) := by decide +kernel
theorem dL_law_8 : decode mL_law.2.1 8 = .ok (.new 161, 3) := by decide +kernel
theorem dL_law_11 : decode mL_law.2.1 11 = .ok (.dup, 1) := by decide +kernel
theorem dL_law_12 : decode mL_law.2.1 12 = .ok (.invokespecial 163, 3) := by decide +kernel
theorem dL_law_15 : decode mL_law.2.1 15 = .ok (.astore_n 2, 1) := by decide +kernel
theorem dL_law_16 : decode mL_law.2.1 16 = .ok (.iconst 1, 1) := by decide +kernel
theorem dL_law_17 : decode mL_law.2.1 17 = .ok (.newarray .long, 2) := by decide +kernel
theorem dL_law_19 : decode mL_law.2.1 19 = .ok (.astore_n 3, 1) := by decide +kernel
theorem dL_law_20 : decode mL_law.2.1 20 = .ok (.iconst 1, 1) := by decide +kernel
theorem dL_law_21 : decode mL_law.2.1 21 = .ok (.newarray .double, 2) := by decide +kernel
theorem dL_law_23 : decode mL_law.2.1 23 = .ok (.astore 4, 2) := by decide +kernel
theorem dL_law_25 : decode mL_law.2.1 25 = .ok (.iconst 0, 1) := by decide +kernel
theorem dL_law_26 : decode mL_law.2.1 26 = .ok (.istore 5, 2) := by decide +kernel
theorem dL_law_2384 : decode mL_law.2.1 2384 = .ok (.fstore 7, 2) := by decide +kernel
theorem dL_law_2386 : decode mL_law.2.1 2386 = .ok (.aload_n 2, 1) := by decide +kernel
theorem dL_law_2387 : decode mL_law.2.1 2387 = .ok (.invokevirtual 170, 3) := by decide +kernel
theorem dL_law_2390 : decode mL_law.2.1 2390 = .ok (.iload 6, 2) := by decide +kernel
theorem dL_law_2392 : decode mL_law.2.1 2392 = .ok (.if_icmp .eq 5, 3) := by decide +kernel
theorem dL_law_2395 : decode mL_law.2.1 2395 = .ok (.iconst 0, 1) := by decide +kernel
theorem dL_law_2396 : decode mL_law.2.1 2396 = .ok (.ireturn, 1) := by decide +kernel
theorem dL_law_2397 : decode mL_law.2.1 2397 = .ok (.iload 6, 2) := by decide +kernel
theorem dL_law_2399 : decode mL_law.2.1 2399 = .ok (.ifCond .ne 36, 3) := by decide +kernel
theorem dL_law_2402 : decode mL_law.2.1 2402 = .ok (.aload 4, 2) := by decide +kernel
theorem dL_law_2404 : decode mL_law.2.1 2404 = .ok (.iconst 0, 1) := by decide +kernel
theorem dL_law_2405 : decode mL_law.2.1 2405 = .ok (.daload, 1) := by decide +kernel
theorem dL_law_2406 : decode mL_law.2.1 2406 = .ok (.fload 7, 2) := by decide +kernel
theorem dL_law_2408 : decode mL_law.2.1 2408 = .ok (.f2d, 1) := by decide +kernel
theorem dL_law_2409 : decode mL_law.2.1 2409 = .ok (.dcmp .l, 1) := by decide +kernel
theorem dL_law_2410 : decode mL_law.2.1 2410 = .ok (.ifCond .eq 25, 3) := by decide +kernel
theorem dL_law_2413 : decode mL_law.2.1 2413 = .ok (.aload 4, 2) := by decide +kernel
theorem dL_law_2415 : decode mL_law.2.1 2415 = .ok (.iconst 0, 1) := by decide +kernel
theorem dL_law_2416 : decode mL_law.2.1 2416 = .ok (.daload, 1) := by decide +kernel
theorem dL_law_2417 : decode mL_law.2.1 2417 = .ok (.aload 4, 2) := by decide +kernel
theorem dL_law_2419 : decode mL_law.2.1 2419 = .ok (.iconst 0, 1) := by decide +kernel
theorem dL_law_2420 : decode mL_law.2.1 2420 = .ok (.daload, 1) := by decide +kernel
theorem dL_law_2421 : decode mL_law.2.1 2421 = .ok (.dcmp .l, 1) := by decide +kernel
theorem dL_law_2422 : decode mL_law.2.1 2422 = .ok (.ifCond .eq 11, 3) := by decide +kernel
theorem dL_law_2425 : decode mL_law.2.1 2425 = .ok (.fload 7, 2) := by decide +kernel
theorem dL_law_2427 : decode mL_law.2.1 2427 = .ok (.fload 7, 2) := by decide +kernel
theorem dL_law_2429 : decode mL_law.2.1 2429 = .ok (.fcmp .l, 1) := by decide +kernel
theorem dL_law_2430 : decode mL_law.2.1 2430 = .ok (.ifCond .ne 5, 3) := by decide +kernel
theorem dL_law_2433 : decode mL_law.2.1 2433 = .ok (.iconst 0, 1) := by decide +kernel
theorem dL_law_2434 : decode mL_law.2.1 2434 = .ok (.ireturn, 1) := by decide +kernel
theorem dL_law_2435 : decode mL_law.2.1 2435 = .ok (.goto 540, 3) := by decide +kernel
theorem dL_law_2450 : decode mL_law.2.1 2450 = .ok (.dstore 7, 2) := by decide +kernel
theorem dL_law_2452 : decode mL_law.2.1 2452 = .ok (.aload_n 2, 1) := by decide +kernel
theorem dL_law_2453 : decode mL_law.2.1 2453 = .ok (.invokevirtual 170, 3) := by decide +kernel
theorem dL_law_2456 : decode mL_law.2.1 2456 = .ok (.iload 6, 2) := by decide +kernel
theorem dL_law_2458 : decode mL_law.2.1 2458 = .ok (.if_icmp .eq 5, 3) := by decide +kernel
theorem dL_law_2461 : decode mL_law.2.1 2461 = .ok (.iconst 0, 1) := by decide +kernel
theorem dL_law_2462 : decode mL_law.2.1 2462 = .ok (.ireturn, 1) := by decide +kernel
theorem dL_law_2463 : decode mL_law.2.1 2463 = .ok (.iload 6, 2) := by decide +kernel
theorem dL_law_2465 : decode mL_law.2.1 2465 = .ok (.ifCond .ne 35, 3) := by decide +kernel
theorem dL_law_2468 : decode mL_law.2.1 2468 = .ok (.aload 4, 2) := by decide +kernel
theorem dL_law_2470 : decode mL_law.2.1 2470 = .ok (.iconst 0, 1) := by decide +kernel
theorem dL_law_2471 : decode mL_law.2.1 2471 = .ok (.daload, 1) := by decide +kernel
theorem dL_law_2472 : decode mL_law.2.1 2472 = .ok (.dload 7, 2) := by decide +kernel
theorem dL_law_2474 : decode mL_law.2.1 2474 = .ok (.dcmp .l, 1) := by decide +kernel
theorem dL_law_2475 : decode mL_law.2.1 2475 = .ok (.ifCond .eq 25, 3) := by decide +kernel
theorem dL_law_2478 : decode mL_law.2.1 2478 = .ok (.aload 4, 2) := by decide +kernel
theorem dL_law_2480 : decode mL_law.2.1 2480 = .ok (.iconst 0, 1) := by decide +kernel
theorem dL_law_2481 : decode mL_law.2.1 2481 = .ok (.daload, 1) := by decide +kernel
theorem dL_law_2482 : decode mL_law.2.1 2482 = .ok (.aload 4, 2) := by decide +kernel
theorem dL_law_2484 : decode mL_law.2.1 2484 = .ok (.iconst 0, 1) := by decide +kernel
theorem dL_law_2485 : decode mL_law.2.1 2485 = .ok (.daload, 1) := by decide +kernel
theorem dL_law_2486 : decode mL_law.2.1 2486 = .ok (.dcmp .l, 1) := by decide +kernel
theorem dL_law_2487 : decode mL_law.2.1 2487 = .ok (.ifCond .eq 11, 3) := by decide +kernel
theorem dL_law_2490 : decode mL_law.2.1 2490 = .ok (.dload 7, 2) := by decide +kernel
theorem dL_law_2492 : decode mL_law.2.1 2492 = .ok (.dload 7, 2) := by decide +kernel
theorem dL_law_2494 : decode mL_law.2.1 2494 = .ok (.dcmp .l, 1) := by decide +kernel
theorem dL_law_2495 : decode mL_law.2.1 2495 = .ok (.ifCond .ne 5, 3) := by decide +kernel
theorem dL_law_2498 : decode mL_law.2.1 2498 = .ok (.iconst 0, 1) := by decide +kernel
theorem dL_law_2499 : decode mL_law.2.1 2499 = .ok (.ireturn, 1) := by decide +kernel
theorem dL_law_2500 : decode mL_law.2.1 2500 = .ok (.goto 475, 3) := by decide +kernel
