/-! ===== the law's instructions ===== -/
theorem dL_law_338 : decode mL_law.2.1 338 = .ok (.istore 6, 2) := by decide +kernel
theorem dL_law_340 : decode mL_law.2.1 340 = .ok (.aload_n 2, 1) := by decide +kernel
theorem dL_law_347 : decode mL_law.2.1 347 = .ok (.i2c, 1) := by decide +kernel
theorem dL_law_348 : decode mL_law.2.1 348 = .ok (.invokevirtual 176, 3) := by decide +kernel
theorem dL_law_384 : decode mL_law.2.1 384 = .ok (.aload_n 1, 1) := by decide +kernel
theorem dL_law_391 : decode mL_law.2.1 391 = .ok (.i2c, 1) := by decide +kernel
theorem dL_law_398 : decode mL_law.2.1 398 = .ok (.aload_n 3, 1) := by decide +kernel
theorem dL_law_399 : decode mL_law.2.1 399 = .ok (.invokestatic 177, 3) := by decide +kernel
theorem dL_law_402 : decode mL_law.2.1 402 = .ok (.istore 6, 2) := by decide +kernel
theorem dL_law_404 : decode mL_law.2.1 404 = .ok (.aload_n 2, 1) := by decide +kernel
theorem dL_law_411 : decode mL_law.2.1 411 = .ok (.i2c, 1) := by decide +kernel
theorem dL_law_418 : decode mL_law.2.1 418 = .ok (.invokevirtual 179, 3) := by decide +kernel
theorem dL_law_454 : decode mL_law.2.1 454 = .ok (.aload_n 1, 1) := by decide +kernel
theorem dL_law_455 : decode mL_law.2.1 455 = .ok (.invokevirtual 180, 3) := by decide +kernel
theorem dL_law_458 : decode mL_law.2.1 458 = .ok (.aload_n 2, 1) := by decide +kernel
theorem dL_law_459 : decode mL_law.2.1 459 = .ok (.invokevirtual 183, 3) := by decide +kernel
theorem dL_law_462 : decode mL_law.2.1 462 = .ok (.if_icmp .eq 2513, 3) := by decide +kernel
theorem dL_law_467 : decode mL_law.2.1 467 = .ok (.aload_n 1, 1) := by decide +kernel
theorem dL_law_474 : decode mL_law.2.1 474 = .ok (.aload_n 3, 1) := by decide +kernel
theorem dL_law_475 : decode mL_law.2.1 475 = .ok (.invokestatic 184, 3) := by decide +kernel
theorem dL_law_478 : decode mL_law.2.1 478 = .ok (.istore 6, 2) := by decide +kernel
theorem dL_law_480 : decode mL_law.2.1 480 = .ok (.aload_n 2, 1) := by decide +kernel
theorem dL_law_487 : decode mL_law.2.1 487 = .ok (.invokevirtual 187, 3) := by decide +kernel
theorem dL_law_523 : decode mL_law.2.1 523 = .ok (.aload_n 1, 1) := by decide +kernel
theorem dL_law_530 : decode mL_law.2.1 530 = .ok (.i2c, 1) := by decide +kernel
theorem dL_law_531 : decode mL_law.2.1 531 = .ok (.aload_n 3, 1) := by decide +kernel
theorem dL_law_532 : decode mL_law.2.1 532 = .ok (.invokestatic 188, 3) := by decide +kernel
theorem dL_law_535 : decode mL_law.2.1 535 = .ok (.istore 6, 2) := by decide +kernel
theorem dL_law_537 : decode mL_law.2.1 537 = .ok (.aload_n 2, 1) := by decide +kernel
theorem dL_law_544 : decode mL_law.2.1 544 = .ok (.i2c, 1) := by decide +kernel
theorem dL_law_545 : decode mL_law.2.1 545 = .ok (.invokevirtual 190, 3) := by decide +kernel
theorem dL_law_581 : decode mL_law.2.1 581 = .ok (.aload_n 1, 1) := by decide +kernel
theorem dL_law_600 : decode mL_law.2.1 600 = .ok (.i2c, 1) := by decide +kernel
theorem dL_law_601 : decode mL_law.2.1 601 = .ok (.aload_n 3, 1) := by decide +kernel
theorem dL_law_602 : decode mL_law.2.1 602 = .ok (.invokestatic 191, 3) := by decide +kernel
theorem dL_law_605 : decode mL_law.2.1 605 = .ok (.istore 6, 2) := by decide +kernel
theorem dL_law_607 : decode mL_law.2.1 607 = .ok (.aload_n 2, 1) := by decide +kernel
theorem dL_law_626 : decode mL_law.2.1 626 = .ok (.i2c, 1) := by decide +kernel
theorem dL_law_627 : decode mL_law.2.1 627 = .ok (.invokevirtual 194, 3) := by decide +kernel
theorem dL_law_663 : decode mL_law.2.1 663 = .ok (.aload_n 1, 1) := by decide +kernel
theorem dL_law_684 : decode mL_law.2.1 684 = .ok (.aload_n 3, 1) := by decide +kernel
theorem dL_law_685 : decode mL_law.2.1 685 = .ok (.invokestatic 195, 3) := by decide +kernel
theorem dL_law_688 : decode mL_law.2.1 688 = .ok (.istore 6, 2) := by decide +kernel
theorem dL_law_690 : decode mL_law.2.1 690 = .ok (.aload_n 2, 1) := by decide +kernel
theorem dL_law_711 : decode mL_law.2.1 711 = .ok (.invokevirtual 198, 3) := by decide +kernel
theorem dL_law_754 : decode mL_law.2.1 754 = .ok (.aload_n 1, 1) := by decide +kernel
theorem dL_law_755 : decode mL_law.2.1 755 = .ok (.invokevirtual 199, 3) := by decide +kernel
theorem dL_law_758 : decode mL_law.2.1 758 = .ok (.aload_n 2, 1) := by decide +kernel
theorem dL_law_759 : decode mL_law.2.1 759 = .ok (.invokevirtual 202, 3) := by decide +kernel
theorem dL_law_762 : decode mL_law.2.1 762 = .ok (.if_icmp .eq 2213, 3) := by decide +kernel
theorem dL_law_767 : decode mL_law.2.1 767 = .ok (.aload_n 1, 1) := by decide +kernel
theorem dL_law_774 : decode mL_law.2.1 774 = .ok (.aload_n 3, 1) := by decide +kernel
theorem dL_law_775 : decode mL_law.2.1 775 = .ok (.invokestatic 203, 3) := by decide +kernel
theorem dL_law_778 : decode mL_law.2.1 778 = .ok (.istore 6, 2) := by decide +kernel
theorem dL_law_780 : decode mL_law.2.1 780 = .ok (.aload_n 2, 1) := by decide +kernel
theorem dL_law_787 : decode mL_law.2.1 787 = .ok (.invokevirtual 205, 3) := by decide +kernel
theorem dL_law_823 : decode mL_law.2.1 823 = .ok (.aload_n 1, 1) := by decide +kernel
theorem dL_law_830 : decode mL_law.2.1 830 = .ok (.aload_n 3, 1) := by decide +kernel
theorem dL_law_831 : decode mL_law.2.1 831 = .ok (.invokestatic 206, 3) := by decide +kernel
theorem dL_law_834 : decode mL_law.2.1 834 = .ok (.istore 6, 2) := by decide +kernel
theorem dL_law_836 : decode mL_law.2.1 836 = .ok (.aload_n 2, 1) := by decide +kernel
theorem dL_law_843 : decode mL_law.2.1 843 = .ok (.invokevirtual 208, 3) := by decide +kernel
theorem dL_law_879 : decode mL_law.2.1 879 = .ok (.aload_n 1, 1) := by decide +kernel
theorem dL_law_886 : decode mL_law.2.1 886 = .ok (.aload_n 3, 1) := by decide +kernel
theorem dL_law_887 : decode mL_law.2.1 887 = .ok (.invokestatic 209, 3) := by decide +kernel
theorem dL_law_890 : decode mL_law.2.1 890 = .ok (.istore 6, 2) := by decide +kernel
theorem dL_law_892 : decode mL_law.2.1 892 = .ok (.aload_n 2, 1) := by decide +kernel
theorem dL_law_899 : decode mL_law.2.1 899 = .ok (.invokevirtual 211, 3) := by decide +kernel
theorem dL_law_935 : decode mL_law.2.1 935 = .ok (.aload_n 1, 1) := by decide +kernel
theorem dL_law_942 : decode mL_law.2.1 942 = .ok (.aload_n 3, 1) := by decide +kernel
theorem dL_law_943 : decode mL_law.2.1 943 = .ok (.invokestatic 212, 3) := by decide +kernel
theorem dL_law_946 : decode mL_law.2.1 946 = .ok (.istore 6, 2) := by decide +kernel
theorem dL_law_948 : decode mL_law.2.1 948 = .ok (.aload_n 2, 1) := by decide +kernel
theorem dL_law_955 : decode mL_law.2.1 955 = .ok (.invokevirtual 214, 3) := by decide +kernel
theorem dL_law_998 : decode mL_law.2.1 998 = .ok (.aload_n 1, 1) := by decide +kernel
theorem dL_law_1005 : decode mL_law.2.1 1005 = .ok (.aload_n 3, 1) := by decide +kernel
theorem dL_law_1006 : decode mL_law.2.1 1006 = .ok (.invokestatic 215, 3) := by decide +kernel
theorem dL_law_1009 : decode mL_law.2.1 1009 = .ok (.istore 6, 2) := by decide +kernel
theorem dL_law_1011 : decode mL_law.2.1 1011 = .ok (.aload_n 2, 1) := by decide +kernel
theorem dL_law_1018 : decode mL_law.2.1 1018 = .ok (.invokevirtual 217, 3) := by decide +kernel
theorem dL_law_1054 : decode mL_law.2.1 1054 = .ok (.aload_n 1, 1) := by decide +kernel
theorem dL_law_1067 : decode mL_law.2.1 1067 = .ok (.aload_n 3, 1) := by decide +kernel
theorem dL_law_1068 : decode mL_law.2.1 1068 = .ok (.invokestatic 218, 3) := by decide +kernel
theorem dL_law_1071 : decode mL_law.2.1 1071 = .ok (.istore 6, 2) := by decide +kernel
theorem dL_law_1073 : decode mL_law.2.1 1073 = .ok (.aload_n 2, 1) := by decide +kernel
theorem dL_law_1086 : decode mL_law.2.1 1086 = .ok (.invokevirtual 221, 3) := by decide +kernel
theorem dL_law_1122 : decode mL_law.2.1 1122 = .ok (.aload_n 1, 1) := by decide +kernel
theorem dL_law_1135 : decode mL_law.2.1 1135 = .ok (.i2c, 1) := by decide +kernel
theorem dL_law_1136 : decode mL_law.2.1 1136 = .ok (.aload_n 3, 1) := by decide +kernel
theorem dL_law_1137 : decode mL_law.2.1 1137 = .ok (.invokestatic 222, 3) := by decide +kernel
theorem dL_law_1140 : decode mL_law.2.1 1140 = .ok (.istore 6, 2) := by decide +kernel
theorem dL_law_1142 : decode mL_law.2.1 1142 = .ok (.aload_n 2, 1) := by decide +kernel
theorem dL_law_1155 : decode mL_law.2.1 1155 = .ok (.i2c, 1) := by decide +kernel
theorem dL_law_1156 : decode mL_law.2.1 1156 = .ok (.invokevirtual 225, 3) := by decide +kernel
theorem dL_law_1199 : decode mL_law.2.1 1199 = .ok (.aload_n 1, 1) := by decide +kernel
theorem dL_law_1212 : decode mL_law.2.1 1212 = .ok (.i2c, 1) := by decide +kernel
theorem dL_law_1213 : decode mL_law.2.1 1213 = .ok (.aload_n 3, 1) := by decide +kernel
theorem dL_law_1214 : decode mL_law.2.1 1214 = .ok (.invokestatic 226, 3) := by decide +kernel
theorem dL_law_1217 : decode mL_law.2.1 1217 = .ok (.istore 6, 2) := by decide +kernel
theorem dL_law_1219 : decode mL_law.2.1 1219 = .ok (.aload_n 2, 1) := by decide +kernel
theorem dL_law_1232 : decode mL_law.2.1 1232 = .ok (.i2c, 1) := by decide +kernel
theorem dL_law_1233 : decode mL_law.2.1 1233 = .ok (.invokevirtual 228, 3) := by decide +kernel
theorem dL_law_1269 : decode mL_law.2.1 1269 = .ok (.aload_n 1, 1) := by decide +kernel
theorem dL_law_1282 : decode mL_law.2.1 1282 = .ok (.i2c, 1) := by decide +kernel
theorem dL_law_1283 : decode mL_law.2.1 1283 = .ok (.aload_n 3, 1) := by decide +kernel
theorem dL_law_1284 : decode mL_law.2.1 1284 = .ok (.invokestatic 229, 3) := by decide +kernel
theorem dL_law_1287 : decode mL_law.2.1 1287 = .ok (.istore 6, 2) := by decide +kernel
theorem dL_law_1289 : decode mL_law.2.1 1289 = .ok (.aload_n 2, 1) := by decide +kernel
theorem dL_law_1302 : decode mL_law.2.1 1302 = .ok (.i2c, 1) := by decide +kernel
theorem dL_law_1303 : decode mL_law.2.1 1303 = .ok (.invokevirtual 231, 3) := by decide +kernel
theorem dL_law_1339 : decode mL_law.2.1 1339 = .ok (.aload_n 1, 1) := by decide +kernel
theorem dL_law_1352 : decode mL_law.2.1 1352 = .ok (.i2c, 1) := by decide +kernel
theorem dL_law_1353 : decode mL_law.2.1 1353 = .ok (.aload_n 3, 1) := by decide +kernel
theorem dL_law_1354 : decode mL_law.2.1 1354 = .ok (.invokestatic 232, 3) := by decide +kernel
theorem dL_law_1357 : decode mL_law.2.1 1357 = .ok (.istore 6, 2) := by decide +kernel
theorem dL_law_1359 : decode mL_law.2.1 1359 = .ok (.aload_n 2, 1) := by decide +kernel
theorem dL_law_1372 : decode mL_law.2.1 1372 = .ok (.i2c, 1) := by decide +kernel
theorem dL_law_1373 : decode mL_law.2.1 1373 = .ok (.invokevirtual 234, 3) := by decide +kernel
theorem dL_law_1409 : decode mL_law.2.1 1409 = .ok (.aload_n 1, 1) := by decide +kernel
theorem dL_law_1422 : decode mL_law.2.1 1422 = .ok (.i2c, 1) := by decide +kernel
theorem dL_law_1423 : decode mL_law.2.1 1423 = .ok (.aload_n 3, 1) := by decide +kernel
theorem dL_law_1424 : decode mL_law.2.1 1424 = .ok (.invokestatic 235, 3) := by decide +kernel
theorem dL_law_1427 : decode mL_law.2.1 1427 = .ok (.istore 6, 2) := by decide +kernel
theorem dL_law_1429 : decode mL_law.2.1 1429 = .ok (.aload_n 2, 1) := by decide +kernel
theorem dL_law_1442 : decode mL_law.2.1 1442 = .ok (.i2c, 1) := by decide +kernel
theorem dL_law_1443 : decode mL_law.2.1 1443 = .ok (.invokevirtual 237, 3) := by decide +kernel
theorem dL_law_1486 : decode mL_law.2.1 1486 = .ok (.aload_n 1, 1) := by decide +kernel
theorem dL_law_1499 : decode mL_law.2.1 1499 = .ok (.i2c, 1) := by decide +kernel
theorem dL_law_1500 : decode mL_law.2.1 1500 = .ok (.aload_n 3, 1) := by decide +kernel
theorem dL_law_1501 : decode mL_law.2.1 1501 = .ok (.invokestatic 238, 3) := by decide +kernel
theorem dL_law_1504 : decode mL_law.2.1 1504 = .ok (.istore 6, 2) := by decide +kernel
theorem dL_law_1506 : decode mL_law.2.1 1506 = .ok (.aload_n 2, 1) := by decide +kernel
theorem dL_law_1519 : decode mL_law.2.1 1519 = .ok (.i2c, 1) := by decide +kernel
theorem dL_law_1520 : decode mL_law.2.1 1520 = .ok (.invokevirtual 240, 3) := by decide +kernel
theorem dL_law_1563 : decode mL_law.2.1 1563 = .ok (.aload_n 1, 1) := by decide +kernel
theorem dL_law_1576 : decode mL_law.2.1 1576 = .ok (.i2c, 1) := by decide +kernel
theorem dL_law_1577 : decode mL_law.2.1 1577 = .ok (.aload_n 3, 1) := by decide +kernel
theorem dL_law_1578 : decode mL_law.2.1 1578 = .ok (.invokestatic 241, 3) := by decide +kernel
theorem dL_law_1581 : decode mL_law.2.1 1581 = .ok (.istore 6, 2) := by decide +kernel
theorem dL_law_1583 : decode mL_law.2.1 1583 = .ok (.aload_n 2, 1) := by decide +kernel
theorem dL_law_1596 : decode mL_law.2.1 1596 = .ok (.i2c, 1) := by decide +kernel
theorem dL_law_1597 : decode mL_law.2.1 1597 = .ok (.invokevirtual 243, 3) := by decide +kernel
theorem dL_law_1640 : decode mL_law.2.1 1640 = .ok (.aload_n 1, 1) := by decide +kernel
theorem dL_law_1653 : decode mL_law.2.1 1653 = .ok (.i2c, 1) := by decide +kernel
theorem dL_law_1654 : decode mL_law.2.1 1654 = .ok (.aload_n 3, 1) := by decide +kernel
theorem dL_law_1655 : decode mL_law.2.1 1655 = .ok (.invokestatic 244, 3) := by decide +kernel
theorem dL_law_1658 : decode mL_law.2.1 1658 = .ok (.istore 6, 2) := by decide +kernel
theorem dL_law_1660 : decode mL_law.2.1 1660 = .ok (.aload_n 2, 1) := by decide +kernel
theorem dL_law_1673 : decode mL_law.2.1 1673 = .ok (.i2c, 1) := by decide +kernel
theorem dL_law_1674 : decode mL_law.2.1 1674 = .ok (.invokevirtual 246, 3) := by decide +kernel
theorem dL_law_1717 : decode mL_law.2.1 1717 = .ok (.aload_n 1, 1) := by decide +kernel
theorem dL_law_1724 : decode mL_law.2.1 1724 = .ok (.aload_n 3, 1) := by decide +kernel
theorem dL_law_1725 : decode mL_law.2.1 1725 = .ok (.invokestatic 247, 3) := by decide +kernel
theorem dL_law_1728 : decode mL_law.2.1 1728 = .ok (.istore 6, 2) := by decide +kernel
theorem dL_law_1730 : decode mL_law.2.1 1730 = .ok (.aload_n 2, 1) := by decide +kernel
theorem dL_law_1737 : decode mL_law.2.1 1737 = .ok (.invokevirtual 249, 3) := by decide +kernel
theorem dL_law_1773 : decode mL_law.2.1 1773 = .ok (.aload_n 1, 1) := by decide +kernel
theorem dL_law_1780 : decode mL_law.2.1 1780 = .ok (.aload_n 3, 1) := by decide +kernel
theorem dL_law_1781 : decode mL_law.2.1 1781 = .ok (.invokestatic 250, 3) := by decide +kernel
theorem dL_law_1784 : decode mL_law.2.1 1784 = .ok (.istore 6, 2) := by decide +kernel
