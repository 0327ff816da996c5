/-! the rows of the program's methods, printed by program out of its bytecode: see wip/whole/gen.py -/
-- 0: SorryPursesLaw.law ([I)Z
def kb_0_0 : List ab_Row := [(.new 8, 3, [11, 15, 134, 135, 103]), (.dup, 1, []), (.invokespecial 118, 3, [600, 1, 1, 2, 136, 137, 0, 0]), (.astore_n 1, 1, []), (.new 119, 3, [12, 45, 1810, 1811, 116]), (.dup, 1, []), (.invokespecial 121, 3, [600, 2, 1, 2, 1812, 1813, 0, 0]), (.astore_n 2, 1, []), (.iconst 1, 1, []), (.newarray .long, 2, [22, 365]), (.astore_n 3, 1, []), (.iconst 0, 1, []), (.istore 4, 2, [])]
def kb_0_23 : List ab_Row := [(.iload 4, 2, []), (.aload_n 0, 1, []), (.arraylength, 1, []), (.bipush 8, 2, []), (.isub, 1, []), (.if_icmp .gt 2636, 3, [2666]), (.aload_n 0, 1, []), (.iload 4, 2, []), (.iaload, 1, []), (.bipush 63, 2, []), (.iand, 1, []), (.tableswitch 2620 0 45 #[200, 273, 329, 385, 441, 497, 510, 523, 579, 647, 715, 783, 839, 907, 963, 1067, 1081, 1160, 1228, 1284, 1340, 1365, 1378, 1434, 1489, 1502, 1570, 1583, 1639, 1695, 1720, 1812, 1868, 1924, 1980, 2048, 2116, 2184, 2197, 2252, 2308, 2412, 2544, 2557, 2570, 2595], 200, [240, 313, 369, 425, 481, 537, 550, 563, 619, 687, 755, 823, 879, 947, 1003, 1107, 1121, 1200, 1268, 1324, 1380, 1405, 1418, 1474, 1529, 1542, 1610, 1623, 1679, 1735, 1760, 1852, 1908, 1964, 2020, 2088, 2156, 2224, 2237, 2292, 2348, 2452, 2584, 2597, 2610, 2635, 2660])]
def kb_0_240 : List ab_Row := [(.aload_n 1, 1, []), (.aload_n 0, 1, []), (.iload 4, 2, []), (.iconst 1, 1, []), (.iadd, 1, []), (.iaload, 1, []), (.aload_n 0, 1, []), (.iload 4, 2, []), (.iconst 2, 1, []), (.iadd, 1, []), (.iaload, 1, []), (.aload_n 0, 1, []), (.iload 4, 2, []), (.iconst 3, 1, []), (.iadd, 1, []), (.iaload, 1, []), (.aload_n 0, 1, []), (.iload 4, 2, []), (.iconst 4, 1, []), (.iadd, 1, []), (.iaload, 1, []), (.aload_n 0, 1, []), (.iload 4, 2, []), (.iconst 5, 1, []), (.iadd, 1, []), (.iaload, 1, []), (.invokevirtual 122, 3, [600, 3, 6, 0, 540, 541, 542, 11]), (.aload_n 2, 1, []), (.aload_n 0, 1, []), (.iload 4, 2, []), (.iconst 1, 1, []), (.iadd, 1, []), (.iaload, 1, []), (.aload_n 0, 1, []), (.iload 4, 2, []), (.iconst 2, 1, []), (.iadd, 1, []), (.iaload, 1, []), (.aload_n 0, 1, []), (.iload 4, 2, []), (.iconst 3, 1, []), (.iadd, 1, []), (.iaload, 1, []), (.aload_n 0, 1, []), (.iload 4, 2, []), (.iconst 4, 1, []), (.iadd, 1, []), (.iaload, 1, []), (.aload_n 0, 1, []), (.iload 4, 2, []), (.iconst 5, 1, []), (.iadd, 1, []), (.iaload, 1, []), (.invokevirtual 125, 3, [600, 4, 6, 0, 1972, 1973, 1974, 12]), (.if_icmp .eq 2352, 3, [2660]), (.iconst 0, 1, []), (.ireturn, 1, [])]
def kb_0_313 : List ab_Row := [(.aload_n 1, 1, []), (.aload_n 0, 1, []), (.iload 4, 2, []), (.iconst 1, 1, []), (.iadd, 1, []), (.iaload, 1, []), (.aload_n 3, 1, []), (.invokestatic 126, 3, [600, 5, 3, 5, 1080, 1081, 0, 0]), (.istore 5, 2, []), (.aload_n 2, 1, []), (.aload_n 0, 1, []), (.iload 4, 2, []), (.iconst 1, 1, []), (.iadd, 1, []), (.iaload, 1, []), (.invokevirtual 131, 3, [600, 6, 2, 0, 1976, 1977, 1978, 12]), (.istore 6, 2, []), (.aload_n 2, 1, []), (.invokevirtual 132, 3, [600, 7, 1, 0, 1968, 1969, 1970, 12]), (.iload 5, 2, []), (.if_icmp .eq 5, 3, [349]), (.iconst 0, 1, []), (.ireturn, 1, [])]
def kb_0_349 : List ab_Row := [(.iload 5, 2, []), (.ifCond .ne 15, 3, [366]), (.aload_n 3, 1, []), (.iconst 0, 1, []), (.laload, 1, []), (.iload 6, 2, []), (.i2l, 1, []), (.lcmp, 1, []), (.ifCond .eq 5, 3, [366]), (.iconst 0, 1, []), (.ireturn, 1, [])]
def kb_0_366 : List ab_Row := [(.goto 2294, 3, [2660])]
def kb_0_369 : List ab_Row := [(.aload_n 1, 1, []), (.aload_n 0, 1, []), (.iload 4, 2, []), (.iconst 1, 1, []), (.iadd, 1, []), (.iaload, 1, []), (.aload_n 3, 1, []), (.invokestatic 136, 3, [600, 8, 3, 5, 1226, 1227, 0, 0]), (.istore 5, 2, []), (.aload_n 2, 1, []), (.aload_n 0, 1, []), (.iload 4, 2, []), (.iconst 1, 1, []), (.iadd, 1, []), (.iaload, 1, []), (.invokevirtual 138, 3, [600, 9, 2, 0, 2048, 2049, 2050, 12]), (.istore 6, 2, []), (.aload_n 2, 1, []), (.invokevirtual 132, 3, [600, 7, 1, 0, 1968, 1969, 1970, 12]), (.iload 5, 2, []), (.if_icmp .eq 5, 3, [405]), (.iconst 0, 1, []), (.ireturn, 1, [])]
def kb_0_405 : List ab_Row := [(.iload 5, 2, []), (.ifCond .ne 15, 3, [422]), (.aload_n 3, 1, []), (.iconst 0, 1, []), (.laload, 1, []), (.iload 6, 2, []), (.i2l, 1, []), (.lcmp, 1, []), (.ifCond .eq 5, 3, [422]), (.iconst 0, 1, []), (.ireturn, 1, [])]
def kb_0_422 : List ab_Row := [(.goto 2238, 3, [2660])]
def kb_0_425 : List ab_Row := [(.aload_n 1, 1, []), (.aload_n 0, 1, []), (.iload 4, 2, []), (.iconst 1, 1, []), (.iadd, 1, []), (.iaload, 1, []), (.aload_n 3, 1, []), (.invokestatic 139, 3, [600, 10, 3, 5, 1270, 1271, 0, 0]), (.istore 5, 2, []), (.aload_n 2, 1, []), (.aload_n 0, 1, []), (.iload 4, 2, []), (.iconst 1, 1, []), (.iadd, 1, []), (.iaload, 1, []), (.invokevirtual 141, 3, [600, 11, 2, 0, 2105, 2106, 2107, 12]), (.istore 6, 2, []), (.aload_n 2, 1, []), (.invokevirtual 132, 3, [600, 7, 1, 0, 1968, 1969, 1970, 12]), (.iload 5, 2, []), (.if_icmp .eq 5, 3, [461]), (.iconst 0, 1, []), (.ireturn, 1, [])]
def kb_0_461 : List ab_Row := [(.iload 5, 2, []), (.ifCond .ne 15, 3, [478]), (.aload_n 3, 1, []), (.iconst 0, 1, []), (.laload, 1, []), (.iload 6, 2, []), (.i2l, 1, []), (.lcmp, 1, []), (.ifCond .eq 5, 3, [478]), (.iconst 0, 1, []), (.ireturn, 1, [])]
def kb_0_478 : List ab_Row := [(.goto 2182, 3, [2660])]
def kb_0_481 : List ab_Row := [(.aload_n 1, 1, []), (.aload_n 0, 1, []), (.iload 4, 2, []), (.iconst 1, 1, []), (.iadd, 1, []), (.iaload, 1, []), (.aload_n 3, 1, []), (.invokestatic 142, 3, [600, 12, 3, 5, 1369, 1370, 0, 0]), (.istore 5, 2, []), (.aload_n 2, 1, []), (.aload_n 0, 1, []), (.iload 4, 2, []), (.iconst 1, 1, []), (.iadd, 1, []), (.iaload, 1, []), (.invokevirtual 144, 3, [600, 13, 2, 0, 2180, 2181, 2182, 12]), (.istore 6, 2, []), (.aload_n 2, 1, []), (.invokevirtual 132, 3, [600, 7, 1, 0, 1968, 1969, 1970, 12]), (.iload 5, 2, []), (.if_icmp .eq 5, 3, [517]), (.iconst 0, 1, []), (.ireturn, 1, [])]
def kb_0_517 : List ab_Row := [(.iload 5, 2, []), (.ifCond .ne 15, 3, [534]), (.aload_n 3, 1, []), (.iconst 0, 1, []), (.laload, 1, []), (.iload 6, 2, []), (.i2l, 1, []), (.lcmp, 1, []), (.ifCond .eq 5, 3, [534]), (.iconst 0, 1, []), (.ireturn, 1, [])]
def kb_0_534 : List ab_Row := [(.goto 2126, 3, [2660])]
def kb_0_537 : List ab_Row := [(.aload_n 1, 1, []), (.invokevirtual 145, 3, [600, 14, 1, 0, 552, 553, 554, 11]), (.aload_n 2, 1, []), (.invokevirtual 148, 3, [600, 15, 1, 0, 2184, 2185, 2186, 12]), (.if_icmp .eq 2115, 3, [2660]), (.iconst 0, 1, []), (.ireturn, 1, [])]
def kb_0_550 : List ab_Row := [(.aload_n 1, 1, []), (.invokevirtual 149, 3, [600, 16, 1, 0, 556, 557, 558, 11]), (.aload_n 2, 1, []), (.invokevirtual 152, 3, [600, 17, 1, 0, 2176, 2177, 2178, 12]), (.if_icmp .eq 2102, 3, [2660]), (.iconst 0, 1, []), (.ireturn, 1, [])]
def kb_0_563 : List ab_Row := [(.aload_n 1, 1, []), (.aload_n 0, 1, []), (.iload 4, 2, []), (.iconst 1, 1, []), (.iadd, 1, []), (.iaload, 1, []), (.aload_n 3, 1, []), (.invokestatic 153, 3, [600, 18, 3, 5, 1395, 1396, 0, 0]), (.istore 5, 2, []), (.aload_n 2, 1, []), (.aload_n 0, 1, []), (.iload 4, 2, []), (.iconst 1, 1, []), (.iadd, 1, []), (.iaload, 1, []), (.invokevirtual 155, 3, [600, 19, 2, 0, 2188, 2189, 2190, 12]), (.istore 6, 2, []), (.aload_n 2, 1, []), (.invokevirtual 132, 3, [600, 7, 1, 0, 1968, 1969, 1970, 12]), (.iload 5, 2, []), (.if_icmp .eq 5, 3, [599]), (.iconst 0, 1, []), (.ireturn, 1, [])]
def kb_0_599 : List ab_Row := [(.iload 5, 2, []), (.ifCond .ne 15, 3, [616]), (.aload_n 3, 1, []), (.iconst 0, 1, []), (.laload, 1, []), (.iload 6, 2, []), (.i2l, 1, []), (.lcmp, 1, []), (.ifCond .eq 5, 3, [616]), (.iconst 0, 1, []), (.ireturn, 1, [])]
def kb_0_616 : List ab_Row := [(.goto 2044, 3, [2660])]
def kb_0_619 : List ab_Row := [(.aload_n 1, 1, []), (.aload_n 0, 1, []), (.iload 4, 2, []), (.iconst 1, 1, []), (.iadd, 1, []), (.iaload, 1, []), (.aload_n 0, 1, []), (.iload 4, 2, []), (.iconst 2, 1, []), (.iadd, 1, []), (.iaload, 1, []), (.aload_n 3, 1, []), (.invokestatic 156, 3, [600, 20, 4, 5, 1406, 1407, 0, 0]), (.istore 5, 2, []), (.aload_n 2, 1, []), (.aload_n 0, 1, []), (.iload 4, 2, []), (.iconst 1, 1, []), (.iadd, 1, []), (.iaload, 1, []), (.aload_n 0, 1, []), (.iload 4, 2, []), (.iconst 2, 1, []), (.iadd, 1, []), (.iaload, 1, []), (.invokevirtual 159, 3, [600, 21, 3, 0, 2196, 2197, 2198, 12]), (.istore 6, 2, []), (.aload_n 2, 1, []), (.invokevirtual 132, 3, [600, 7, 1, 0, 1968, 1969, 1970, 12]), (.iload 5, 2, []), (.if_icmp .eq 5, 3, [667]), (.iconst 0, 1, []), (.ireturn, 1, [])]
def kb_0_667 : List ab_Row := [(.iload 5, 2, []), (.ifCond .ne 15, 3, [684]), (.aload_n 3, 1, []), (.iconst 0, 1, []), (.laload, 1, []), (.iload 6, 2, []), (.i2l, 1, []), (.lcmp, 1, []), (.ifCond .eq 5, 3, [684]), (.iconst 0, 1, []), (.ireturn, 1, [])]
def kb_0_684 : List ab_Row := [(.goto 1976, 3, [2660])]
def kb_0_687 : List ab_Row := [(.aload_n 1, 1, []), (.aload_n 0, 1, []), (.iload 4, 2, []), (.iconst 1, 1, []), (.iadd, 1, []), (.iaload, 1, []), (.aload_n 0, 1, []), (.iload 4, 2, []), (.iconst 2, 1, []), (.iadd, 1, []), (.iaload, 1, []), (.aload_n 3, 1, []), (.invokestatic 160, 3, [600, 22, 4, 5, 1435, 1436, 0, 0]), (.istore 5, 2, []), (.aload_n 2, 1, []), (.aload_n 0, 1, []), (.iload 4, 2, []), (.iconst 1, 1, []), (.iadd, 1, []), (.iaload, 1, []), (.aload_n 0, 1, []), (.iload 4, 2, []), (.iconst 2, 1, []), (.iadd, 1, []), (.iaload, 1, []), (.invokevirtual 162, 3, [600, 23, 3, 0, 2204, 2205, 2206, 12]), (.istore 6, 2, []), (.aload_n 2, 1, []), (.invokevirtual 132, 3, [600, 7, 1, 0, 1968, 1969, 1970, 12]), (.iload 5, 2, []), (.if_icmp .eq 5, 3, [735]), (.iconst 0, 1, []), (.ireturn, 1, [])]
def kb_0_735 : List ab_Row := [(.iload 5, 2, []), (.ifCond .ne 15, 3, [752]), (.aload_n 3, 1, []), (.iconst 0, 1, []), (.laload, 1, []), (.iload 6, 2, []), (.i2l, 1, []), (.lcmp, 1, []), (.ifCond .eq 5, 3, [752]), (.iconst 0, 1, []), (.ireturn, 1, [])]
def kb_0_752 : List ab_Row := [(.goto 1908, 3, [2660])]
def kb_0_755 : List ab_Row := [(.aload_n 1, 1, []), (.aload_n 0, 1, []), (.iload 4, 2, []), (.iconst 1, 1, []), (.iadd, 1, []), (.iaload, 1, []), (.aload_n 0, 1, []), (.iload 4, 2, []), (.iconst 2, 1, []), (.iadd, 1, []), (.iaload, 1, []), (.aload_n 3, 1, []), (.invokestatic 163, 3, [600, 24, 4, 5, 1453, 1454, 0, 0]), (.istore 5, 2, []), (.aload_n 2, 1, []), (.aload_n 0, 1, []), (.iload 4, 2, []), (.iconst 1, 1, []), (.iadd, 1, []), (.iaload, 1, []), (.aload_n 0, 1, []), (.iload 4, 2, []), (.iconst 2, 1, []), (.iadd, 1, []), (.iaload, 1, []), (.invokevirtual 165, 3, [600, 25, 3, 0, 2215, 2216, 2217, 12]), (.istore 6, 2, []), (.aload_n 2, 1, []), (.invokevirtual 132, 3, [600, 7, 1, 0, 1968, 1969, 1970, 12]), (.iload 5, 2, []), (.if_icmp .eq 5, 3, [803]), (.iconst 0, 1, []), (.ireturn, 1, [])]
def kb_0_803 : List ab_Row := [(.iload 5, 2, []), (.ifCond .ne 15, 3, [820]), (.aload_n 3, 1, []), (.iconst 0, 1, []), (.laload, 1, []), (.iload 6, 2, []), (.i2l, 1, []), (.lcmp, 1, []), (.ifCond .eq 5, 3, [820]), (.iconst 0, 1, []), (.ireturn, 1, [])]
def kb_0_820 : List ab_Row := [(.goto 1840, 3, [2660])]
def kb_0_823 : List ab_Row := [(.aload_n 1, 1, []), (.aload_n 0, 1, []), (.iload 4, 2, []), (.iconst 1, 1, []), (.iadd, 1, []), (.iaload, 1, []), (.aload_n 3, 1, []), (.invokestatic 166, 3, [600, 26, 3, 5, 1460, 1461, 0, 0]), (.istore 5, 2, []), (.aload_n 2, 1, []), (.aload_n 0, 1, []), (.iload 4, 2, []), (.iconst 1, 1, []), (.iadd, 1, []), (.iaload, 1, []), (.invokevirtual 168, 3, [600, 27, 2, 0, 2222, 2223, 2224, 12]), (.istore 6, 2, []), (.aload_n 2, 1, []), (.invokevirtual 132, 3, [600, 7, 1, 0, 1968, 1969, 1970, 12]), (.iload 5, 2, []), (.if_icmp .eq 5, 3, [859]), (.iconst 0, 1, []), (.ireturn, 1, [])]
def kb_0_859 : List ab_Row := [(.iload 5, 2, []), (.ifCond .ne 15, 3, [876]), (.aload_n 3, 1, []), (.iconst 0, 1, []), (.laload, 1, []), (.iload 6, 2, []), (.i2l, 1, []), (.lcmp, 1, []), (.ifCond .eq 5, 3, [876]), (.iconst 0, 1, []), (.ireturn, 1, [])]
def kb_0_876 : List ab_Row := [(.goto 1784, 3, [2660])]
def kb_0_879 : List ab_Row := [(.aload_n 1, 1, []), (.aload_n 0, 1, []), (.iload 4, 2, []), (.iconst 1, 1, []), (.iadd, 1, []), (.iaload, 1, []), (.aload_n 0, 1, []), (.iload 4, 2, []), (.iconst 2, 1, []), (.iadd, 1, []), (.iaload, 1, []), (.aload_n 3, 1, []), (.invokestatic 169, 3, [600, 28, 4, 5, 1475, 1476, 0, 0]), (.istore 5, 2, []), (.aload_n 2, 1, []), (.aload_n 0, 1, []), (.iload 4, 2, []), (.iconst 1, 1, []), (.iadd, 1, []), (.iaload, 1, []), (.aload_n 0, 1, []), (.iload 4, 2, []), (.iconst 2, 1, []), (.iadd, 1, []), (.iaload, 1, []), (.invokevirtual 171, 3, [600, 29, 3, 0, 2230, 2231, 2232, 12]), (.istore 6, 2, []), (.aload_n 2, 1, []), (.invokevirtual 132, 3, [600, 7, 1, 0, 1968, 1969, 1970, 12]), (.iload 5, 2, []), (.if_icmp .eq 5, 3, [927]), (.iconst 0, 1, []), (.ireturn, 1, [])]
def kb_0_927 : List ab_Row := [(.iload 5, 2, []), (.ifCond .ne 15, 3, [944]), (.aload_n 3, 1, []), (.iconst 0, 1, []), (.laload, 1, []), (.iload 6, 2, []), (.i2l, 1, []), (.lcmp, 1, []), (.ifCond .eq 5, 3, [944]), (.iconst 0, 1, []), (.ireturn, 1, [])]
def kb_0_944 : List ab_Row := [(.goto 1716, 3, [2660])]
def kb_0_947 : List ab_Row := [(.aload_n 1, 1, []), (.aload_n 0, 1, []), (.iload 4, 2, []), (.iconst 1, 1, []), (.iadd, 1, []), (.iaload, 1, []), (.aload_n 3, 1, []), (.invokestatic 172, 3, [600, 30, 3, 5, 1486, 1487, 0, 0]), (.istore 5, 2, []), (.aload_n 2, 1, []), (.aload_n 0, 1, []), (.iload 4, 2, []), (.iconst 1, 1, []), (.iadd, 1, []), (.iaload, 1, []), (.invokevirtual 174, 3, [600, 31, 2, 0, 2234, 2235, 2236, 12]), (.istore 6, 2, []), (.aload_n 2, 1, []), (.invokevirtual 132, 3, [600, 7, 1, 0, 1968, 1969, 1970, 12]), (.iload 5, 2, []), (.if_icmp .eq 5, 3, [983]), (.iconst 0, 1, []), (.ireturn, 1, [])]
def kb_0_983 : List ab_Row := [(.iload 5, 2, []), (.ifCond .ne 15, 3, [1000]), (.aload_n 3, 1, []), (.iconst 0, 1, []), (.laload, 1, []), (.iload 6, 2, []), (.i2l, 1, []), (.lcmp, 1, []), (.ifCond .eq 5, 3, [1000]), (.iconst 0, 1, []), (.ireturn, 1, [])]
def kb_0_1000 : List ab_Row := [(.goto 1660, 3, [2660])]
def kb_0_1003 : List ab_Row := [(.aload_n 1, 1, []), (.aload_n 0, 1, []), (.iload 4, 2, []), (.iconst 1, 1, []), (.iadd, 1, []), (.iaload, 1, []), (.aload_n 0, 1, []), (.iload 4, 2, []), (.iconst 2, 1, []), (.iadd, 1, []), (.iaload, 1, []), (.aload_n 0, 1, []), (.iload 4, 2, []), (.iconst 3, 1, []), (.iadd, 1, []), (.iaload, 1, []), (.aload_n 0, 1, []), (.iload 4, 2, []), (.iconst 4, 1, []), (.iadd, 1, []), (.iaload, 1, []), (.aload_n 0, 1, []), (.iload 4, 2, []), (.iconst 5, 1, []), (.iadd, 1, []), (.iaload, 1, []), (.aload_n 3, 1, []), (.invokestatic 175, 3, [600, 32, 7, 5, 1494, 1495, 0, 0]), (.istore 5, 2, []), (.aload_n 2, 1, []), (.aload_n 0, 1, []), (.iload 4, 2, []), (.iconst 1, 1, []), (.iadd, 1, []), (.iaload, 1, []), (.aload_n 0, 1, []), (.iload 4, 2, []), (.iconst 2, 1, []), (.iadd, 1, []), (.iaload, 1, []), (.aload_n 0, 1, []), (.iload 4, 2, []), (.iconst 3, 1, []), (.iadd, 1, []), (.iaload, 1, []), (.aload_n 0, 1, []), (.iload 4, 2, []), (.iconst 4, 1, []), (.iadd, 1, []), (.iaload, 1, []), (.aload_n 0, 1, []), (.iload 4, 2, []), (.iconst 5, 1, []), (.iadd, 1, []), (.iaload, 1, []), (.invokevirtual 178, 3, [600, 33, 6, 0, 2084, 2085, 2086, 12]), (.istore 6, 2, []), (.aload_n 2, 1, []), (.invokevirtual 132, 3, [600, 7, 1, 0, 1968, 1969, 1970, 12]), (.iload 5, 2, []), (.if_icmp .eq 5, 3, [1087]), (.iconst 0, 1, []), (.ireturn, 1, [])]
def kb_0_1087 : List ab_Row := [(.iload 5, 2, []), (.ifCond .ne 15, 3, [1104]), (.aload_n 3, 1, []), (.iconst 0, 1, []), (.laload, 1, []), (.iload 6, 2, []), (.i2l, 1, []), (.lcmp, 1, []), (.ifCond .eq 5, 3, [1104]), (.iconst 0, 1, []), (.ireturn, 1, [])]
def kb_0_1104 : List ab_Row := [(.goto 1556, 3, [2660])]
def kb_0_1107 : List ab_Row := [(.aload_n 1, 1, []), (.invokevirtual 179, 3, [600, 34, 1, 0, 572, 573, 574, 11]), (.aload_n 2, 1, []), (.invokevirtual 183, 3, [600, 35, 1, 0, 2238, 2239, 2240, 12]), (.lcmp, 1, []), (.ifCond .eq 1544, 3, [2660]), (.iconst 0, 1, []), (.ireturn, 1, [])]
def kb_0_1121 : List ab_Row := [(.aload_n 1, 1, []), (.aload_n 0, 1, []), (.iload 4, 2, []), (.iconst 1, 1, []), (.iadd, 1, []), (.iaload, 1, []), (.aload_n 0, 1, []), (.iload 4, 2, []), (.iconst 2, 1, []), (.iadd, 1, []), (.iaload, 1, []), (.aload_n 0, 1, []), (.iload 4, 2, []), (.iconst 3, 1, []), (.iadd, 1, []), (.iaload, 1, []), (.aload_n 3, 1, []), (.invokestatic 184, 3, [600, 36, 5, 5, 1508, 1509, 0, 0]), (.istore 5, 2, []), (.aload_n 2, 1, []), (.aload_n 0, 1, []), (.iload 4, 2, []), (.iconst 1, 1, []), (.iadd, 1, []), (.iaload, 1, []), (.aload_n 0, 1, []), (.iload 4, 2, []), (.iconst 2, 1, []), (.iadd, 1, []), (.iaload, 1, []), (.aload_n 0, 1, []), (.iload 4, 2, []), (.iconst 3, 1, []), (.iadd, 1, []), (.iaload, 1, []), (.invokevirtual 187, 3, [600, 37, 4, 0, 2246, 2247, 2248, 12]), (.lstore 6, 2, []), (.aload_n 2, 1, []), (.invokevirtual 132, 3, [600, 7, 1, 0, 1968, 1969, 1970, 12]), (.iload 5, 2, []), (.if_icmp .eq 5, 3, [1181]), (.iconst 0, 1, []), (.ireturn, 1, [])]
def kb_0_1181 : List ab_Row := [(.iload 5, 2, []), (.ifCond .ne 14, 3, [1197]), (.aload_n 3, 1, []), (.iconst 0, 1, []), (.laload, 1, []), (.lload 6, 2, []), (.lcmp, 1, []), (.ifCond .eq 5, 3, [1197]), (.iconst 0, 1, []), (.ireturn, 1, [])]
def kb_0_1197 : List ab_Row := [(.goto 1463, 3, [2660])]
def kb_0_1200 : List ab_Row := [(.aload_n 1, 1, []), (.aload_n 0, 1, []), (.iload 4, 2, []), (.iconst 1, 1, []), (.iadd, 1, []), (.iaload, 1, []), (.aload_n 0, 1, []), (.iload 4, 2, []), (.iconst 2, 1, []), (.iadd, 1, []), (.iaload, 1, []), (.aload_n 3, 1, []), (.invokestatic 188, 3, [600, 38, 4, 5, 1516, 1517, 0, 0]), (.istore 5, 2, []), (.aload_n 2, 1, []), (.aload_n 0, 1, []), (.iload 4, 2, []), (.iconst 1, 1, []), (.iadd, 1, []), (.iaload, 1, []), (.aload_n 0, 1, []), (.iload 4, 2, []), (.iconst 2, 1, []), (.iadd, 1, []), (.iaload, 1, []), (.invokevirtual 190, 3, [600, 39, 3, 0, 2254, 2255, 2256, 12]), (.istore 6, 2, []), (.aload_n 2, 1, []), (.invokevirtual 132, 3, [600, 7, 1, 0, 1968, 1969, 1970, 12]), (.iload 5, 2, []), (.if_icmp .eq 5, 3, [1248]), (.iconst 0, 1, []), (.ireturn, 1, [])]
def kb_0_1248 : List ab_Row := [(.iload 5, 2, []), (.ifCond .ne 15, 3, [1265]), (.aload_n 3, 1, []), (.iconst 0, 1, []), (.laload, 1, []), (.iload 6, 2, []), (.i2l, 1, []), (.lcmp, 1, []), (.ifCond .eq 5, 3, [1265]), (.iconst 0, 1, []), (.ireturn, 1, [])]
def kb_0_1265 : List ab_Row := [(.goto 1395, 3, [2660])]
def kb_0_1268 : List ab_Row := [(.aload_n 1, 1, []), (.aload_n 0, 1, []), (.iload 4, 2, []), (.iconst 1, 1, []), (.iadd, 1, []), (.iaload, 1, []), (.aload_n 3, 1, []), (.invokestatic 191, 3, [600, 40, 3, 5, 1543, 1544, 0, 0]), (.istore 5, 2, []), (.aload_n 2, 1, []), (.aload_n 0, 1, []), (.iload 4, 2, []), (.iconst 1, 1, []), (.iadd, 1, []), (.iaload, 1, []), (.invokevirtual 193, 3, [600, 41, 2, 0, 2262, 2263, 2264, 12]), (.istore 6, 2, []), (.aload_n 2, 1, []), (.invokevirtual 132, 3, [600, 7, 1, 0, 1968, 1969, 1970, 12]), (.iload 5, 2, []), (.if_icmp .eq 5, 3, [1304]), (.iconst 0, 1, []), (.ireturn, 1, [])]
def kb_0_1304 : List ab_Row := [(.iload 5, 2, []), (.ifCond .ne 15, 3, [1321]), (.aload_n 3, 1, []), (.iconst 0, 1, []), (.laload, 1, []), (.iload 6, 2, []), (.i2l, 1, []), (.lcmp, 1, []), (.ifCond .eq 5, 3, [1321]), (.iconst 0, 1, []), (.ireturn, 1, [])]
def kb_0_1321 : List ab_Row := [(.goto 1339, 3, [2660])]
def kb_0_1324 : List ab_Row := [(.aload_n 1, 1, []), (.aload_n 0, 1, []), (.iload 4, 2, []), (.iconst 1, 1, []), (.iadd, 1, []), (.iaload, 1, []), (.aload_n 3, 1, []), (.invokestatic 194, 3, [600, 42, 3, 5, 1554, 1555, 0, 0]), (.istore 5, 2, []), (.aload_n 2, 1, []), (.aload_n 0, 1, []), (.iload 4, 2, []), (.iconst 1, 1, []), (.iadd, 1, []), (.iaload, 1, []), (.invokevirtual 196, 3, [600, 43, 2, 0, 2270, 2271, 2272, 12]), (.istore 6, 2, []), (.aload_n 2, 1, []), (.invokevirtual 132, 3, [600, 7, 1, 0, 1968, 1969, 1970, 12]), (.iload 5, 2, []), (.if_icmp .eq 5, 3, [1360]), (.iconst 0, 1, []), (.ireturn, 1, [])]
def kb_0_1360 : List ab_Row := [(.iload 5, 2, []), (.ifCond .ne 15, 3, [1377]), (.aload_n 3, 1, []), (.iconst 0, 1, []), (.laload, 1, []), (.iload 6, 2, []), (.i2l, 1, []), (.lcmp, 1, []), (.ifCond .eq 5, 3, [1377]), (.iconst 0, 1, []), (.ireturn, 1, [])]
def kb_0_1377 : List ab_Row := [(.goto 1283, 3, [2660])]
def kb_0_1380 : List ab_Row := [(.aload_n 1, 1, []), (.aload_n 0, 1, []), (.iload 4, 2, []), (.iconst 1, 1, []), (.iadd, 1, []), (.iaload, 1, []), (.invokevirtual 197, 3, [600, 44, 2, 0, 623, 624, 625, 11]), (.aload_n 2, 1, []), (.aload_n 0, 1, []), (.iload 4, 2, []), (.iconst 1, 1, []), (.iadd, 1, []), (.iaload, 1, []), (.invokevirtual 200, 3, [600, 45, 2, 0, 2281, 2282, 2283, 12]), (.if_icmp .eq 1260, 3, [2660]), (.iconst 0, 1, []), (.ireturn, 1, [])]
def kb_0_1405 : List ab_Row := [(.aload_n 1, 1, []), (.invokevirtual 201, 3, [600, 46, 1, 0, 660, 661, 662, 11]), (.aload_n 2, 1, []), (.invokevirtual 204, 3, [600, 47, 1, 0, 2289, 2290, 2291, 12]), (.if_icmp .eq 1247, 3, [2660]), (.iconst 0, 1, []), (.ireturn, 1, [])]
def kb_0_1418 : List ab_Row := [(.aload_n 1, 1, []), (.aload_n 0, 1, []), (.iload 4, 2, []), (.iconst 1, 1, []), (.iadd, 1, []), (.iaload, 1, []), (.aload_n 3, 1, []), (.invokestatic 205, 3, [600, 48, 3, 5, 1571, 1572, 0, 0]), (.istore 5, 2, []), (.aload_n 2, 1, []), (.aload_n 0, 1, []), (.iload 4, 2, []), (.iconst 1, 1, []), (.iadd, 1, []), (.iaload, 1, []), (.invokevirtual 207, 3, [600, 49, 2, 0, 2301, 2302, 2303, 12]), (.istore 6, 2, []), (.aload_n 2, 1, []), (.invokevirtual 132, 3, [600, 7, 1, 0, 1968, 1969, 1970, 12]), (.iload 5, 2, []), (.if_icmp .eq 5, 3, [1454]), (.iconst 0, 1, []), (.ireturn, 1, [])]
def kb_0_1454 : List ab_Row := [(.iload 5, 2, []), (.ifCond .ne 15, 3, [1471]), (.aload_n 3, 1, []), (.iconst 0, 1, []), (.laload, 1, []), (.iload 6, 2, []), (.i2l, 1, []), (.lcmp, 1, []), (.ifCond .eq 5, 3, [1471]), (.iconst 0, 1, []), (.ireturn, 1, [])]
def kb_0_1471 : List ab_Row := [(.goto 1189, 3, [2660])]
def kb_0_1474 : List ab_Row := [(.aload_n 1, 1, []), (.aload_n 0, 1, []), (.iload 4, 2, []), (.iconst 1, 1, []), (.iadd, 1, []), (.iaload, 1, []), (.aload_n 3, 1, []), (.invokestatic 208, 3, [600, 50, 3, 5, 1582, 1583, 0, 0]), (.istore 5, 2, []), (.aload_n 2, 1, []), (.aload_n 0, 1, []), (.iload 4, 2, []), (.iconst 1, 1, []), (.iadd, 1, []), (.iaload, 1, []), (.invokevirtual 210, 3, [600, 51, 2, 0, 2305, 2306, 2307, 12]), (.lstore 6, 2, []), (.aload_n 2, 1, []), (.invokevirtual 132, 3, [600, 7, 1, 0, 1968, 1969, 1970, 12]), (.iload 5, 2, []), (.if_icmp .eq 5, 3, [1510]), (.iconst 0, 1, []), (.ireturn, 1, [])]
def kb_0_1510 : List ab_Row := [(.iload 5, 2, []), (.ifCond .ne 14, 3, [1526]), (.aload_n 3, 1, []), (.iconst 0, 1, []), (.laload, 1, []), (.lload 6, 2, []), (.lcmp, 1, []), (.ifCond .eq 5, 3, [1526]), (.iconst 0, 1, []), (.ireturn, 1, [])]
def kb_0_1526 : List ab_Row := [(.goto 1134, 3, [2660])]
def kb_0_1529 : List ab_Row := [(.aload_n 1, 1, []), (.invokevirtual 211, 3, [600, 52, 1, 0, 1008, 1009, 1010, 11]), (.aload_n 2, 1, []), (.invokevirtual 214, 3, [600, 53, 1, 0, 2313, 2314, 2315, 12]), (.if_icmp .eq 1123, 3, [2660]), (.iconst 0, 1, []), (.ireturn, 1, [])]
def kb_0_1542 : List ab_Row := [(.aload_n 1, 1, []), (.aload_n 0, 1, []), (.iload 4, 2, []), (.iconst 1, 1, []), (.iadd, 1, []), (.iaload, 1, []), (.aload_n 0, 1, []), (.iload 4, 2, []), (.iconst 2, 1, []), (.iadd, 1, []), (.iaload, 1, []), (.aload_n 3, 1, []), (.invokestatic 215, 3, [600, 54, 4, 5, 1647, 1648, 0, 0]), (.istore 5, 2, []), (.aload_n 2, 1, []), (.aload_n 0, 1, []), (.iload 4, 2, []), (.iconst 1, 1, []), (.iadd, 1, []), (.iaload, 1, []), (.aload_n 0, 1, []), (.iload 4, 2, []), (.iconst 2, 1, []), (.iadd, 1, []), (.iaload, 1, []), (.invokevirtual 217, 3, [600, 55, 3, 0, 2317, 2318, 2319, 12]), (.istore 6, 2, []), (.aload_n 2, 1, []), (.invokevirtual 132, 3, [600, 7, 1, 0, 1968, 1969, 1970, 12]), (.iload 5, 2, []), (.if_icmp .eq 5, 3, [1590]), (.iconst 0, 1, []), (.ireturn, 1, [])]
def kb_0_1590 : List ab_Row := [(.iload 5, 2, []), (.ifCond .ne 15, 3, [1607]), (.aload_n 3, 1, []), (.iconst 0, 1, []), (.laload, 1, []), (.iload 6, 2, []), (.i2l, 1, []), (.lcmp, 1, []), (.ifCond .eq 5, 3, [1607]), (.iconst 0, 1, []), (.ireturn, 1, [])]
def kb_0_1607 : List ab_Row := [(.goto 1053, 3, [2660])]
def kb_0_1610 : List ab_Row := [(.aload_n 1, 1, []), (.invokevirtual 218, 3, [600, 56, 1, 0, 1017, 1018, 1019, 11]), (.aload_n 2, 1, []), (.invokevirtual 221, 3, [600, 57, 1, 0, 2325, 2326, 2327, 12]), (.if_icmp .eq 1042, 3, [2660]), (.iconst 0, 1, []), (.ireturn, 1, [])]
def kb_0_1623 : List ab_Row := [(.aload_n 1, 1, []), (.aload_n 0, 1, []), (.iload 4, 2, []), (.iconst 1, 1, []), (.iadd, 1, []), (.iaload, 1, []), (.aload_n 3, 1, []), (.invokestatic 222, 3, [600, 58, 3, 5, 1656, 1657, 0, 0]), (.istore 5, 2, []), (.aload_n 2, 1, []), (.aload_n 0, 1, []), (.iload 4, 2, []), (.iconst 1, 1, []), (.iadd, 1, []), (.iaload, 1, []), (.invokevirtual 224, 3, [600, 59, 2, 0, 2329, 2330, 2331, 12]), (.istore 6, 2, []), (.aload_n 2, 1, []), (.invokevirtual 132, 3, [600, 7, 1, 0, 1968, 1969, 1970, 12]), (.iload 5, 2, []), (.if_icmp .eq 5, 3, [1659]), (.iconst 0, 1, []), (.ireturn, 1, [])]
def kb_0_1659 : List ab_Row := [(.iload 5, 2, []), (.ifCond .ne 15, 3, [1676]), (.aload_n 3, 1, []), (.iconst 0, 1, []), (.laload, 1, []), (.iload 6, 2, []), (.i2l, 1, []), (.lcmp, 1, []), (.ifCond .eq 5, 3, [1676]), (.iconst 0, 1, []), (.ireturn, 1, [])]
def kb_0_1676 : List ab_Row := [(.goto 984, 3, [2660])]
def kb_0_1679 : List ab_Row := [(.aload_n 1, 1, []), (.aload_n 0, 1, []), (.iload 4, 2, []), (.iconst 1, 1, []), (.iadd, 1, []), (.iaload, 1, []), (.aload_n 3, 1, []), (.invokestatic 225, 3, [600, 60, 3, 5, 1663, 1664, 0, 0]), (.istore 5, 2, []), (.aload_n 2, 1, []), (.aload_n 0, 1, []), (.iload 4, 2, []), (.iconst 1, 1, []), (.iadd, 1, []), (.iaload, 1, []), (.invokevirtual 227, 3, [600, 61, 2, 0, 2333, 2334, 2335, 12]), (.istore 6, 2, []), (.aload_n 2, 1, []), (.invokevirtual 132, 3, [600, 7, 1, 0, 1968, 1969, 1970, 12]), (.iload 5, 2, []), (.if_icmp .eq 5, 3, [1715]), (.iconst 0, 1, []), (.ireturn, 1, [])]
def kb_0_1715 : List ab_Row := [(.iload 5, 2, []), (.ifCond .ne 15, 3, [1732]), (.aload_n 3, 1, []), (.iconst 0, 1, []), (.laload, 1, []), (.iload 6, 2, []), (.i2l, 1, []), (.lcmp, 1, []), (.ifCond .eq 5, 3, [1732]), (.iconst 0, 1, []), (.ireturn, 1, [])]
def kb_0_1732 : List ab_Row := [(.goto 928, 3, [2660])]
def kb_0_1735 : List ab_Row := [(.aload_n 1, 1, []), (.aload_n 0, 1, []), (.iload 4, 2, []), (.iconst 1, 1, []), (.iadd, 1, []), (.iaload, 1, []), (.invokevirtual 228, 3, [600, 62, 2, 0, 1033, 1034, 1035, 11]), (.aload_n 2, 1, []), (.aload_n 0, 1, []), (.iload 4, 2, []), (.iconst 1, 1, []), (.iadd, 1, []), (.iaload, 1, []), (.invokevirtual 231, 3, [600, 63, 2, 0, 2345, 2346, 2347, 12]), (.if_icmp .eq 905, 3, [2660]), (.iconst 0, 1, []), (.ireturn, 1, [])]
def kb_0_1760 : List ab_Row := [(.aload_n 1, 1, []), (.aload_n 0, 1, []), (.iload 4, 2, []), (.iconst 1, 1, []), (.iadd, 1, []), (.iaload, 1, []), (.aload_n 0, 1, []), (.iload 4, 2, []), (.iconst 2, 1, []), (.iadd, 1, []), (.iaload, 1, []), (.aload_n 0, 1, []), (.iload 4, 2, []), (.iconst 3, 1, []), (.iadd, 1, []), (.iaload, 1, []), (.aload_n 0, 1, []), (.iload 4, 2, []), (.iconst 4, 1, []), (.iadd, 1, []), (.iaload, 1, []), (.aload_n 3, 1, []), (.invokestatic 232, 3, [600, 64, 6, 5, 1670, 1671, 0, 0]), (.istore 5, 2, []), (.aload_n 2, 1, []), (.aload_n 0, 1, []), (.iload 4, 2, []), (.iconst 1, 1, []), (.iadd, 1, []), (.iaload, 1, []), (.aload_n 0, 1, []), (.iload 4, 2, []), (.iconst 2, 1, []), (.iadd, 1, []), (.iaload, 1, []), (.aload_n 0, 1, []), (.iload 4, 2, []), (.iconst 3, 1, []), (.iadd, 1, []), (.iaload, 1, []), (.aload_n 0, 1, []), (.iload 4, 2, []), (.iconst 4, 1, []), (.iadd, 1, []), (.iaload, 1, []), (.invokevirtual 235, 3, [600, 65, 5, 0, 2353, 2354, 2355, 12]), (.istore 6, 2, []), (.aload_n 2, 1, []), (.invokevirtual 132, 3, [600, 7, 1, 0, 1968, 1969, 1970, 12]), (.iload 5, 2, []), (.if_icmp .eq 5, 3, [1832]), (.iconst 0, 1, []), (.ireturn, 1, [])]
def kb_0_1832 : List ab_Row := [(.iload 5, 2, []), (.ifCond .ne 15, 3, [1849]), (.aload_n 3, 1, []), (.iconst 0, 1, []), (.laload, 1, []), (.iload 6, 2, []), (.i2l, 1, []), (.lcmp, 1, []), (.ifCond .eq 5, 3, [1849]), (.iconst 0, 1, []), (.ireturn, 1, [])]
def kb_0_1849 : List ab_Row := [(.goto 811, 3, [2660])]
def kb_0_1852 : List ab_Row := [(.aload_n 1, 1, []), (.aload_n 0, 1, []), (.iload 4, 2, []), (.iconst 1, 1, []), (.iadd, 1, []), (.iaload, 1, []), (.aload_n 3, 1, []), (.invokestatic 236, 3, [600, 66, 3, 5, 1677, 1678, 0, 0]), (.istore 5, 2, []), (.aload_n 2, 1, []), (.aload_n 0, 1, []), (.iload 4, 2, []), (.iconst 1, 1, []), (.iadd, 1, []), (.iaload, 1, []), (.invokevirtual 238, 3, [600, 67, 2, 0, 2357, 2358, 2359, 12]), (.istore 6, 2, []), (.aload_n 2, 1, []), (.invokevirtual 132, 3, [600, 7, 1, 0, 1968, 1969, 1970, 12]), (.iload 5, 2, []), (.if_icmp .eq 5, 3, [1888]), (.iconst 0, 1, []), (.ireturn, 1, [])]
def kb_0_1888 : List ab_Row := [(.iload 5, 2, []), (.ifCond .ne 15, 3, [1905]), (.aload_n 3, 1, []), (.iconst 0, 1, []), (.laload, 1, []), (.iload 6, 2, []), (.i2l, 1, []), (.lcmp, 1, []), (.ifCond .eq 5, 3, [1905]), (.iconst 0, 1, []), (.ireturn, 1, [])]
def kb_0_1905 : List ab_Row := [(.goto 755, 3, [2660])]
def kb_0_1908 : List ab_Row := [(.aload_n 1, 1, []), (.aload_n 0, 1, []), (.iload 4, 2, []), (.iconst 1, 1, []), (.iadd, 1, []), (.iaload, 1, []), (.aload_n 3, 1, []), (.invokestatic 239, 3, [600, 68, 3, 5, 1689, 1690, 0, 0]), (.istore 5, 2, []), (.aload_n 2, 1, []), (.aload_n 0, 1, []), (.iload 4, 2, []), (.iconst 1, 1, []), (.iadd, 1, []), (.iaload, 1, []), (.invokevirtual 241, 3, [600, 69, 2, 0, 2365, 2366, 2367, 12]), (.istore 6, 2, []), (.aload_n 2, 1, []), (.invokevirtual 132, 3, [600, 7, 1, 0, 1968, 1969, 1970, 12]), (.iload 5, 2, []), (.if_icmp .eq 5, 3, [1944]), (.iconst 0, 1, []), (.ireturn, 1, [])]
def kb_0_1944 : List ab_Row := [(.iload 5, 2, []), (.ifCond .ne 15, 3, [1961]), (.aload_n 3, 1, []), (.iconst 0, 1, []), (.laload, 1, []), (.iload 6, 2, []), (.i2l, 1, []), (.lcmp, 1, []), (.ifCond .eq 5, 3, [1961]), (.iconst 0, 1, []), (.ireturn, 1, [])]
def kb_0_1961 : List ab_Row := [(.goto 699, 3, [2660])]
def kb_0_1964 : List ab_Row := [(.aload_n 1, 1, []), (.aload_n 0, 1, []), (.iload 4, 2, []), (.iconst 1, 1, []), (.iadd, 1, []), (.iaload, 1, []), (.aload_n 3, 1, []), (.invokestatic 242, 3, [600, 70, 3, 5, 1704, 1705, 0, 0]), (.istore 5, 2, []), (.aload_n 2, 1, []), (.aload_n 0, 1, []), (.iload 4, 2, []), (.iconst 1, 1, []), (.iadd, 1, []), (.iaload, 1, []), (.invokevirtual 244, 3, [600, 71, 2, 0, 2369, 2370, 2371, 12]), (.istore 6, 2, []), (.aload_n 2, 1, []), (.invokevirtual 132, 3, [600, 7, 1, 0, 1968, 1969, 1970, 12]), (.iload 5, 2, []), (.if_icmp .eq 5, 3, [2000]), (.iconst 0, 1, []), (.ireturn, 1, [])]
def kb_0_2000 : List ab_Row := [(.iload 5, 2, []), (.ifCond .ne 15, 3, [2017]), (.aload_n 3, 1, []), (.iconst 0, 1, []), (.laload, 1, []), (.iload 6, 2, []), (.i2l, 1, []), (.lcmp, 1, []), (.ifCond .eq 5, 3, [2017]), (.iconst 0, 1, []), (.ireturn, 1, [])]
def kb_0_2017 : List ab_Row := [(.goto 643, 3, [2660])]
def kb_0_2020 : List ab_Row := [(.aload_n 1, 1, []), (.aload_n 0, 1, []), (.iload 4, 2, []), (.iconst 1, 1, []), (.iadd, 1, []), (.iaload, 1, []), (.aload_n 0, 1, []), (.iload 4, 2, []), (.iconst 2, 1, []), (.iadd, 1, []), (.iaload, 1, []), (.aload_n 3, 1, []), (.invokestatic 245, 3, [600, 72, 4, 5, 1715, 1716, 0, 0]), (.istore 5, 2, []), (.aload_n 2, 1, []), (.aload_n 0, 1, []), (.iload 4, 2, []), (.iconst 1, 1, []), (.iadd, 1, []), (.iaload, 1, []), (.aload_n 0, 1, []), (.iload 4, 2, []), (.iconst 2, 1, []), (.iadd, 1, []), (.iaload, 1, []), (.invokevirtual 247, 3, [600, 73, 3, 0, 2250, 2251, 2252, 12]), (.istore 6, 2, []), (.aload_n 2, 1, []), (.invokevirtual 132, 3, [600, 7, 1, 0, 1968, 1969, 1970, 12]), (.iload 5, 2, []), (.if_icmp .eq 5, 3, [2068]), (.iconst 0, 1, []), (.ireturn, 1, [])]
def kb_0_2068 : List ab_Row := [(.iload 5, 2, []), (.ifCond .ne 15, 3, [2085]), (.aload_n 3, 1, []), (.iconst 0, 1, []), (.laload, 1, []), (.iload 6, 2, []), (.i2l, 1, []), (.lcmp, 1, []), (.ifCond .eq 5, 3, [2085]), (.iconst 0, 1, []), (.ireturn, 1, [])]
def kb_0_2085 : List ab_Row := [(.goto 575, 3, [2660])]
def kb_0_2088 : List ab_Row := [(.aload_n 1, 1, []), (.aload_n 0, 1, []), (.iload 4, 2, []), (.iconst 1, 1, []), (.iadd, 1, []), (.iaload, 1, []), (.aload_n 0, 1, []), (.iload 4, 2, []), (.iconst 2, 1, []), (.iadd, 1, []), (.iaload, 1, []), (.aload_n 3, 1, []), (.invokestatic 248, 3, [600, 74, 4, 5, 1722, 1723, 0, 0]), (.istore 5, 2, []), (.aload_n 2, 1, []), (.aload_n 0, 1, []), (.iload 4, 2, []), (.iconst 1, 1, []), (.iadd, 1, []), (.iaload, 1, []), (.aload_n 0, 1, []), (.iload 4, 2, []), (.iconst 2, 1, []), (.iadd, 1, []), (.iaload, 1, []), (.invokevirtual 250, 3, [600, 75, 3, 0, 2266, 2267, 2268, 12]), (.istore 6, 2, []), (.aload_n 2, 1, []), (.invokevirtual 132, 3, [600, 7, 1, 0, 1968, 1969, 1970, 12]), (.iload 5, 2, []), (.if_icmp .eq 5, 3, [2136]), (.iconst 0, 1, []), (.ireturn, 1, [])]
def kb_0_2136 : List ab_Row := [(.iload 5, 2, []), (.ifCond .ne 15, 3, [2153]), (.aload_n 3, 1, []), (.iconst 0, 1, []), (.laload, 1, []), (.iload 6, 2, []), (.i2l, 1, []), (.lcmp, 1, []), (.ifCond .eq 5, 3, [2153]), (.iconst 0, 1, []), (.ireturn, 1, [])]
def kb_0_2153 : List ab_Row := [(.goto 507, 3, [2660])]
def kb_0_2156 : List ab_Row := [(.aload_n 1, 1, []), (.aload_n 0, 1, []), (.iload 4, 2, []), (.iconst 1, 1, []), (.iadd, 1, []), (.iaload, 1, []), (.aload_n 0, 1, []), (.iload 4, 2, []), (.iconst 2, 1, []), (.iadd, 1, []), (.iaload, 1, []), (.aload_n 3, 1, []), (.invokestatic 251, 3, [600, 76, 4, 5, 1733, 1734, 0, 0]), (.istore 5, 2, []), (.aload_n 2, 1, []), (.aload_n 0, 1, []), (.iload 4, 2, []), (.iconst 1, 1, []), (.iadd, 1, []), (.iaload, 1, []), (.aload_n 0, 1, []), (.iload 4, 2, []), (.iconst 2, 1, []), (.iadd, 1, []), (.iaload, 1, []), (.invokevirtual 253, 3, [600, 77, 3, 0, 2349, 2350, 2351, 12]), (.istore 6, 2, []), (.aload_n 2, 1, []), (.invokevirtual 132, 3, [600, 7, 1, 0, 1968, 1969, 1970, 12]), (.iload 5, 2, []), (.if_icmp .eq 5, 3, [2204]), (.iconst 0, 1, []), (.ireturn, 1, [])]
def kb_0_2204 : List ab_Row := [(.iload 5, 2, []), (.ifCond .ne 15, 3, [2221]), (.aload_n 3, 1, []), (.iconst 0, 1, []), (.laload, 1, []), (.iload 6, 2, []), (.i2l, 1, []), (.lcmp, 1, []), (.ifCond .eq 5, 3, [2221]), (.iconst 0, 1, []), (.ireturn, 1, [])]
def kb_0_2221 : List ab_Row := [(.goto 439, 3, [2660])]
def kb_0_2224 : List ab_Row := [(.aload_n 1, 1, []), (.invokevirtual 254, 3, [600, 78, 1, 0, 1047, 1048, 1049, 11]), (.aload_n 2, 1, []), (.invokevirtual 257, 3, [600, 79, 1, 0, 2285, 2286, 2287, 12]), (.if_icmp .eq 428, 3, [2660]), (.iconst 0, 1, []), (.ireturn, 1, [])]
def kb_0_2237 : List ab_Row := [(.aload_n 1, 1, []), (.aload_n 0, 1, []), (.iload 4, 2, []), (.iconst 1, 1, []), (.iadd, 1, []), (.iaload, 1, []), (.aload_n 3, 1, []), (.invokestatic 258, 3, [600, 80, 3, 5, 1742, 1743, 0, 0]), (.istore 5, 2, []), (.aload_n 2, 1, []), (.aload_n 0, 1, []), (.iload 4, 2, []), (.iconst 1, 1, []), (.iadd, 1, []), (.iaload, 1, []), (.invokevirtual 260, 3, [600, 81, 2, 0, 2373, 2374, 2375, 12]), (.lstore 6, 2, []), (.aload_n 2, 1, []), (.invokevirtual 132, 3, [600, 7, 1, 0, 1968, 1969, 1970, 12]), (.iload 5, 2, []), (.if_icmp .eq 5, 3, [2273]), (.iconst 0, 1, []), (.ireturn, 1, [])]
def kb_0_2273 : List ab_Row := [(.iload 5, 2, []), (.ifCond .ne 14, 3, [2289]), (.aload_n 3, 1, []), (.iconst 0, 1, []), (.laload, 1, []), (.lload 6, 2, []), (.lcmp, 1, []), (.ifCond .eq 5, 3, [2289]), (.iconst 0, 1, []), (.ireturn, 1, [])]
def kb_0_2289 : List ab_Row := [(.goto 371, 3, [2660])]
def kb_0_2292 : List ab_Row := [(.aload_n 1, 1, []), (.aload_n 0, 1, []), (.iload 4, 2, []), (.iconst 1, 1, []), (.iadd, 1, []), (.iaload, 1, []), (.aload_n 3, 1, []), (.invokestatic 261, 3, [600, 82, 3, 5, 1753, 1754, 0, 0]), (.istore 5, 2, []), (.aload_n 2, 1, []), (.aload_n 0, 1, []), (.iload 4, 2, []), (.iconst 1, 1, []), (.iadd, 1, []), (.iaload, 1, []), (.invokevirtual 263, 3, [600, 83, 2, 0, 2377, 2378, 2379, 12]), (.istore 6, 2, []), (.aload_n 2, 1, []), (.invokevirtual 132, 3, [600, 7, 1, 0, 1968, 1969, 1970, 12]), (.iload 5, 2, []), (.if_icmp .eq 5, 3, [2328]), (.iconst 0, 1, []), (.ireturn, 1, [])]
def kb_0_2328 : List ab_Row := [(.iload 5, 2, []), (.ifCond .ne 15, 3, [2345]), (.aload_n 3, 1, []), (.iconst 0, 1, []), (.laload, 1, []), (.iload 6, 2, []), (.i2l, 1, []), (.lcmp, 1, []), (.ifCond .eq 5, 3, [2345]), (.iconst 0, 1, []), (.ireturn, 1, [])]
def kb_0_2345 : List ab_Row := [(.goto 315, 3, [2660])]
def kb_0_2348 : List ab_Row := [(.aload_n 1, 1, []), (.aload_n 0, 1, []), (.iload 4, 2, []), (.iconst 1, 1, []), (.iadd, 1, []), (.iaload, 1, []), (.aload_n 0, 1, []), (.iload 4, 2, []), (.iconst 2, 1, []), (.iadd, 1, []), (.iaload, 1, []), (.aload_n 0, 1, []), (.iload 4, 2, []), (.iconst 3, 1, []), (.iadd, 1, []), (.iaload, 1, []), (.aload_n 0, 1, []), (.iload 4, 2, []), (.iconst 4, 1, []), (.iadd, 1, []), (.iaload, 1, []), (.aload_n 0, 1, []), (.iload 4, 2, []), (.iconst 5, 1, []), (.iadd, 1, []), (.iaload, 1, []), (.aload_n 3, 1, []), (.invokestatic 264, 3, [600, 84, 7, 5, 1760, 1761, 0, 0]), (.istore 5, 2, []), (.aload_n 2, 1, []), (.aload_n 0, 1, []), (.iload 4, 2, []), (.iconst 1, 1, []), (.iadd, 1, []), (.iaload, 1, []), (.aload_n 0, 1, []), (.iload 4, 2, []), (.iconst 2, 1, []), (.iadd, 1, []), (.iaload, 1, []), (.aload_n 0, 1, []), (.iload 4, 2, []), (.iconst 3, 1, []), (.iadd, 1, []), (.iaload, 1, []), (.aload_n 0, 1, []), (.iload 4, 2, []), (.iconst 4, 1, []), (.iadd, 1, []), (.iaload, 1, []), (.aload_n 0, 1, []), (.iload 4, 2, []), (.iconst 5, 1, []), (.iadd, 1, []), (.iaload, 1, []), (.invokevirtual 266, 3, [600, 85, 6, 0, 2381, 2382, 2383, 12]), (.istore 6, 2, []), (.aload_n 2, 1, []), (.invokevirtual 132, 3, [600, 7, 1, 0, 1968, 1969, 1970, 12]), (.iload 5, 2, []), (.if_icmp .eq 5, 3, [2432]), (.iconst 0, 1, []), (.ireturn, 1, [])]
def kb_0_2432 : List ab_Row := [(.iload 5, 2, []), (.ifCond .ne 15, 3, [2449]), (.aload_n 3, 1, []), (.iconst 0, 1, []), (.laload, 1, []), (.iload 6, 2, []), (.i2l, 1, []), (.lcmp, 1, []), (.ifCond .eq 5, 3, [2449]), (.iconst 0, 1, []), (.ireturn, 1, [])]
def kb_0_2449 : List ab_Row := [(.goto 211, 3, [2660])]
def kb_0_2452 : List ab_Row := [(.aload_n 1, 1, []), (.aload_n 0, 1, []), (.iload 4, 2, []), (.iconst 1, 1, []), (.iadd, 1, []), (.iaload, 1, []), (.aload_n 0, 1, []), (.iload 4, 2, []), (.iconst 2, 1, []), (.iadd, 1, []), (.iaload, 1, []), (.aload_n 0, 1, []), (.iload 4, 2, []), (.iconst 3, 1, []), (.iadd, 1, []), (.iaload, 1, []), (.aload_n 0, 1, []), (.iload 4, 2, []), (.iconst 4, 1, []), (.iadd, 1, []), (.iaload, 1, []), (.aload_n 0, 1, []), (.iload 4, 2, []), (.iconst 5, 1, []), (.iadd, 1, []), (.iaload, 1, []), (.aload_n 0, 1, []), (.iload 4, 2, []), (.bipush 6, 2, []), (.iadd, 1, []), (.iaload, 1, []), (.aload_n 0, 1, []), (.iload 4, 2, []), (.bipush 7, 2, []), (.iadd, 1, []), (.iaload, 1, []), (.aload_n 3, 1, []), (.invokestatic 267, 3, [600, 86, 9, 5, 1801, 1802, 0, 0]), (.istore 5, 2, []), (.aload_n 2, 1, []), (.aload_n 0, 1, []), (.iload 4, 2, []), (.iconst 1, 1, []), (.iadd, 1, []), (.iaload, 1, []), (.aload_n 0, 1, []), (.iload 4, 2, []), (.iconst 2, 1, []), (.iadd, 1, []), (.iaload, 1, []), (.aload_n 0, 1, []), (.iload 4, 2, []), (.iconst 3, 1, []), (.iadd, 1, []), (.iaload, 1, []), (.aload_n 0, 1, []), (.iload 4, 2, []), (.iconst 4, 1, []), (.iadd, 1, []), (.iaload, 1, []), (.aload_n 0, 1, []), (.iload 4, 2, []), (.iconst 5, 1, []), (.iadd, 1, []), (.iaload, 1, []), (.aload_n 0, 1, []), (.iload 4, 2, []), (.bipush 6, 2, []), (.iadd, 1, []), (.iaload, 1, []), (.aload_n 0, 1, []), (.iload 4, 2, []), (.bipush 7, 2, []), (.iadd, 1, []), (.iaload, 1, []), (.invokevirtual 270, 3, [600, 87, 8, 0, 2398, 2399, 2400, 12]), (.istore 6, 2, []), (.aload_n 2, 1, []), (.invokevirtual 132, 3, [600, 7, 1, 0, 1968, 1969, 1970, 12]), (.iload 5, 2, []), (.if_icmp .eq 5, 3, [2564]), (.iconst 0, 1, []), (.ireturn, 1, [])]
def kb_0_2564 : List ab_Row := [(.iload 5, 2, []), (.ifCond .ne 15, 3, [2581]), (.aload_n 3, 1, []), (.iconst 0, 1, []), (.laload, 1, []), (.iload 6, 2, []), (.i2l, 1, []), (.lcmp, 1, []), (.ifCond .eq 5, 3, [2581]), (.iconst 0, 1, []), (.ireturn, 1, [])]
def kb_0_2581 : List ab_Row := [(.goto 79, 3, [2660])]
def kb_0_2584 : List ab_Row := [(.aload_n 1, 1, []), (.invokevirtual 271, 3, [600, 88, 1, 0, 1052, 1053, 1054, 11]), (.aload_n 2, 1, []), (.invokevirtual 274, 3, [600, 89, 1, 0, 2402, 2403, 2404, 12]), (.if_icmp .eq 68, 3, [2660]), (.iconst 0, 1, []), (.ireturn, 1, [])]
def kb_0_2597 : List ab_Row := [(.aload_n 1, 1, []), (.invokevirtual 275, 3, [600, 90, 1, 0, 1064, 1065, 1066, 11]), (.aload_n 2, 1, []), (.invokevirtual 278, 3, [600, 91, 1, 0, 2414, 2415, 2416, 12]), (.if_icmp .eq 55, 3, [2660]), (.iconst 0, 1, []), (.ireturn, 1, [])]
def kb_0_2610 : List ab_Row := [(.aload_n 1, 1, []), (.aload_n 0, 1, []), (.iload 4, 2, []), (.iconst 1, 1, []), (.iadd, 1, []), (.iaload, 1, []), (.invokevirtual 279, 3, [600, 92, 2, 0, 1072, 1073, 1074, 11]), (.aload_n 2, 1, []), (.aload_n 0, 1, []), (.iload 4, 2, []), (.iconst 1, 1, []), (.iadd, 1, []), (.iaload, 1, []), (.invokevirtual 282, 3, [600, 93, 2, 0, 2418, 2419, 2420, 12]), (.if_icmp .eq 30, 3, [2660]), (.iconst 0, 1, []), (.ireturn, 1, [])]
def kb_0_2635 : List ab_Row := [(.aload_n 1, 1, []), (.aload_n 0, 1, []), (.iload 4, 2, []), (.iconst 1, 1, []), (.iadd, 1, []), (.iaload, 1, []), (.invokevirtual 283, 3, [600, 94, 2, 0, 1076, 1077, 1078, 11]), (.aload_n 2, 1, []), (.aload_n 0, 1, []), (.iload 4, 2, []), (.iconst 1, 1, []), (.iadd, 1, []), (.iaload, 1, []), (.invokevirtual 286, 3, [600, 95, 2, 0, 2422, 2423, 2424, 12]), (.if_icmp .eq 5, 3, [2660]), (.iconst 0, 1, []), (.ireturn, 1, [])]
def kb_0_2660 : List ab_Row := [(.iinc 4 8, 3, []), (.goto (-2640), 3, [23])]
def kb_0_2666 : List ab_Row := [(.iconst 1, 1, []), (.ireturn, 1, [])]
def kt_0 : List (Nat × List ab_Row) := [(0, kb_0_0), (23, kb_0_23), (240, kb_0_240), (313, kb_0_313), (349, kb_0_349), (366, kb_0_366), (369, kb_0_369), (405, kb_0_405), (422, kb_0_422), (425, kb_0_425), (461, kb_0_461), (478, kb_0_478), (481, kb_0_481), (517, kb_0_517), (534, kb_0_534), (537, kb_0_537), (550, kb_0_550), (563, kb_0_563), (599, kb_0_599), (616, kb_0_616), (619, kb_0_619), (667, kb_0_667), (684, kb_0_684), (687, kb_0_687), (735, kb_0_735), (752, kb_0_752), (755, kb_0_755), (803, kb_0_803), (820, kb_0_820), (823, kb_0_823), (859, kb_0_859), (876, kb_0_876), (879, kb_0_879), (927, kb_0_927), (944, kb_0_944), (947, kb_0_947), (983, kb_0_983), (1000, kb_0_1000), (1003, kb_0_1003), (1087, kb_0_1087), (1104, kb_0_1104), (1107, kb_0_1107), (1121, kb_0_1121), (1181, kb_0_1181), (1197, kb_0_1197), (1200, kb_0_1200), (1248, kb_0_1248), (1265, kb_0_1265), (1268, kb_0_1268), (1304, kb_0_1304), (1321, kb_0_1321), (1324, kb_0_1324), (1360, kb_0_1360), (1377, kb_0_1377), (1380, kb_0_1380), (1405, kb_0_1405), (1418, kb_0_1418), (1454, kb_0_1454), (1471, kb_0_1471), (1474, kb_0_1474), (1510, kb_0_1510), (1526, kb_0_1526), (1529, kb_0_1529), (1542, kb_0_1542), (1590, kb_0_1590), (1607, kb_0_1607), (1610, kb_0_1610), (1623, kb_0_1623), (1659, kb_0_1659), (1676, kb_0_1676), (1679, kb_0_1679), (1715, kb_0_1715), (1732, kb_0_1732), (1735, kb_0_1735), (1760, kb_0_1760), (1832, kb_0_1832), (1849, kb_0_1849), (1852, kb_0_1852), (1888, kb_0_1888), (1905, kb_0_1905), (1908, kb_0_1908), (1944, kb_0_1944), (1961, kb_0_1961), (1964, kb_0_1964), (2000, kb_0_2000), (2017, kb_0_2017), (2020, kb_0_2020), (2068, kb_0_2068), (2085, kb_0_2085), (2088, kb_0_2088), (2136, kb_0_2136), (2153, kb_0_2153), (2156, kb_0_2156), (2204, kb_0_2204), (2221, kb_0_2221), (2224, kb_0_2224), (2237, kb_0_2237), (2273, kb_0_2273), (2289, kb_0_2289), (2292, kb_0_2292), (2328, kb_0_2328), (2345, kb_0_2345), (2348, kb_0_2348), (2432, kb_0_2432), (2449, kb_0_2449), (2452, kb_0_2452), (2564, kb_0_2564), (2581, kb_0_2581), (2584, kb_0_2584), (2597, kb_0_2597), (2610, kb_0_2610), (2635, kb_0_2635), (2660, kb_0_2660), (2666, kb_0_2666)]
def km_0 : ab_Mi := (x, code, 8, ret, [], [])
-- 1: SorryPurses.<init> ()V
def kb_1_0 : List ab_Row := [(.aload_n 0, 1, []), (.invokespecial 1, 3, [700, 139, 140, 141]), (.aload_n 0, 1, []), (.new 7, 3, [9, 7, 142, 143, 104]), (.dup, 1, []), (.invokespecial 9, 3, [600, 96, 1, 4, 144, 145, 0, 0]), (.putfield 10, 3, [11, 0, 494, 2]), (.aload_n 0, 1, []), (.new 16, 3, [10, 9, 179, 180, 105]), (.dup, 1, []), (.invokespecial 18, 3, [600, 97, 1, 4, 181, 182, 0, 0]), (.putfield 19, 3, [11, 1, 495, 2]), (.aload_n 0, 1, []), (.new 16, 3, [10, 9, 179, 180, 105]), (.dup, 1, []), (.invokespecial 18, 3, [600, 97, 1, 4, 181, 182, 0, 0]), (.putfield 23, 3, [11, 2, 496, 2]), (.aload_n 0, 1, []), (.new 26, 3, [5, 3, 221, 222, 106]), (.dup, 1, []), (.invokespecial 28, 3, [600, 98, 1, 2, 223, 224, 0, 0]), (.putfield 29, 3, [11, 3, 497, 2]), (.aload_n 0, 1, []), (.new 26, 3, [5, 3, 221, 222, 106]), (.dup, 1, []), (.invokespecial 28, 3, [600, 98, 1, 2, 223, 224, 0, 0]), (.putfield 33, 3, [11, 4, 498, 2]), (.aload_n 0, 1, []), (.new 36, 3, [0, 14, 242, 243, 108]), (.dup, 1, []), (.invokespecial 38, 3, [600, 99, 1, 4, 244, 245, 0, 0]), (.putfield 39, 3, [11, 5, 499, 2]), (.aload_n 0, 1, []), (.new 36, 3, [0, 14, 242, 243, 108]), (.dup, 1, []), (.invokespecial 38, 3, [600, 99, 1, 4, 244, 245, 0, 0]), (.putfield 43, 3, [11, 6, 500, 2]), (.aload_n 0, 1, []), (.new 46, 3, [6, 4, 295, 296, 109]), (.dup, 1, []), (.invokespecial 48, 3, [600, 100, 1, 4, 297, 298, 0, 0]), (.putfield 49, 3, [11, 7, 501, 2]), (.aload_n 0, 1, []), (.new 53, 3, [4, 6, 323, 324, 110]), (.dup, 1, []), (.aload_n 0, 1, []), (.getfield 19, 3, [11, 1, 495]), (.aload_n 0, 1, []), (.getfield 29, 3, [11, 3, 497]), (.aload_n 0, 1, []), (.getfield 49, 3, [11, 7, 501]), (.invokespecial 55, 3, [600, 101, 4, 2, 325, 326, 0, 0]), (.putfield 58, 3, [11, 8, 502, 2]), (.aload_n 0, 1, []), (.new 62, 3, [8, 3, 349, 350, 111]), (.dup, 1, []), (.aload_n 0, 1, []), (.getfield 49, 3, [11, 7, 501]), (.invokespecial 64, 3, [600, 102, 2, 2, 351, 352, 0, 0]), (.putfield 67, 3, [11, 9, 503, 2]), (.aload_n 0, 1, []), (.new 71, 3, [2, 7, 366, 367, 112]), (.dup, 1, []), (.aload_n 0, 1, []), (.getfield 19, 3, [11, 1, 495]), (.aload_n 0, 1, []), (.getfield 49, 3, [11, 7, 501]), (.aload_n 0, 1, []), (.getfield 58, 3, [11, 8, 502]), (.aload_n 0, 1, []), (.getfield 67, 3, [11, 9, 503]), (.invokespecial 73, 3, [600, 103, 5, 2, 368, 369, 0, 0]), (.putfield 76, 3, [11, 10, 504, 2]), (.aload_n 0, 1, []), (.new 80, 3, [1, 11, 395, 396, 113]), (.dup, 1, []), (.aload_n 0, 1, []), (.getfield 19, 3, [11, 1, 495]), (.aload_n 0, 1, []), (.getfield 49, 3, [11, 7, 501]), (.aload_n 0, 1, []), (.getfield 58, 3, [11, 8, 502]), (.invokespecial 82, 3, [600, 104, 4, 2, 397, 398, 0, 0]), (.putfield 85, 3, [11, 11, 505, 2]), (.aload_n 0, 1, []), (.new 89, 3, [7, 5, 436, 437, 114]), (.dup, 1, []), (.aload_n 0, 1, []), (.getfield 19, 3, [11, 1, 495]), (.aload_n 0, 1, []), (.getfield 49, 3, [11, 7, 501]), (.invokespecial 91, 3, [600, 105, 3, 2, 438, 439, 0, 0]), (.putfield 94, 3, [11, 12, 506, 2]), (.aload_n 0, 1, []), (.new 98, 3, [3, 7, 462, 463, 115]), (.dup, 1, []), (.invokespecial 100, 3, [600, 106, 1, 4, 464, 465, 0, 0]), (.putfield 101, 3, [11, 13, 507, 2]), (.aload_n 0, 1, []), (.iconst 3, 1, []), (.newarray .int, 2, [20, 220]), (.putfield 105, 3, [11, 14, 508, 2]), (.return_, 1, [])]
def kt_1 : List (Nat × List ab_Row) := [(0, kb_1_0)]
def km_1 : ab_Mi := ((⟨"SorryPurses", "<init>", "()V"⟩ : MethodName), prog_1_method_1_code, 1, (Option.none : Option FieldType), [], [])
-- 2: SorryPursesModel.<init> ()V
def kb_2_0 : List ab_Row := [(.aload_n 0, 1, []), (.invokespecial 3, 3, [700, 1815, 140, 141]), (.aload_n 0, 1, []), (.iconst (-1), 1, []), (.putfield 9, 3, [12, 3, 1835, 0]), (.aload_n 0, 1, []), (.sipush 600, 3, []), (.newarray .int, 2, [20, 220]), (.putfield 13, 3, [12, 9, 1841, 2]), (.aload_n 0, 1, []), (.iconst 3, 1, []), (.newarray .int, 2, [20, 220]), (.putfield 17, 3, [12, 10, 1842, 2]), (.aload_n 0, 1, []), (.iconst 4, 1, []), (.newarray .int, 2, [20, 220]), (.putfield 20, 3, [12, 11, 1843, 2]), (.aload_n 0, 1, []), (.iconst 4, 1, []), (.newarray .int, 2, [20, 220]), (.putfield 23, 3, [12, 12, 1844, 2]), (.aload_n 0, 1, []), (.bipush 8, 2, []), (.newarray .int, 2, [20, 220]), (.putfield 26, 3, [12, 13, 1845, 2]), (.aload_n 0, 1, []), (.bipush 8, 2, []), (.newarray .int, 2, [20, 220]), (.putfield 29, 3, [12, 14, 1846, 2]), (.aload_n 0, 1, []), (.bipush 24, 2, []), (.iconst 4, 1, []), (.multianewarray 32 2, 4, [1816]), (.putfield 34, 3, [12, 15, 1847, 2]), (.aload_n 0, 1, []), (.sipush 160, 3, []), (.iconst 2, 1, []), (.multianewarray 32 2, 4, [1816]), (.putfield 37, 3, [12, 18, 1850, 2]), (.aload_n 0, 1, []), (.sipush 160, 3, []), (.iconst 2, 1, []), (.multianewarray 32 2, 4, [1816]), (.putfield 40, 3, [12, 19, 1851, 2]), (.aload_n 0, 1, []), (.bipush 8, 2, []), (.iconst 2, 1, []), (.multianewarray 32 2, 4, [1816]), (.putfield 43, 3, [12, 20, 1852, 2]), (.aload_n 0, 1, []), (.bipush 8, 2, []), (.iconst 2, 1, []), (.multianewarray 32 2, 4, [1816]), (.putfield 46, 3, [12, 21, 1853, 2]), (.aload_n 0, 1, []), (.bipush 30, 2, []), (.iconst 4, 1, []), (.multianewarray 32 2, 4, [1816]), (.putfield 49, 3, [12, 22, 1854, 2]), (.aload_n 0, 1, []), (.sipush 160, 3, []), (.newarray .int, 2, [20, 220]), (.putfield 52, 3, [12, 23, 1855, 2]), (.aload_n 0, 1, []), (.bipush 8, 2, []), (.newarray .int, 2, [20, 220]), (.putfield 55, 3, [12, 24, 1856, 2]), (.aload_n 0, 1, []), (.sipush 366, 3, []), (.newarray .int, 2, [20, 220]), (.putfield 58, 3, [12, 25, 1857, 2]), (.aload_n 0, 1, []), (.sipush 366, 3, []), (.newarray .int, 2, [20, 220]), (.putfield 61, 3, [12, 26, 1858, 2]), (.aload_n 0, 1, []), (.bipush 20, 2, []), (.sipush 366, 3, []), (.multianewarray 32 2, 4, [1816]), (.putfield 64, 3, [12, 27, 1859, 2]), (.aload_n 0, 1, []), (.iconst 3, 1, []), (.sipush 7688, 3, []), (.multianewarray 32 2, 4, [1816]), (.putfield 67, 3, [12, 28, 1860, 2]), (.aload_n 0, 1, []), (.bipush 41, 2, []), (.sipush 1000, 3, []), (.multianewarray 32 2, 4, [1816]), (.putfield 70, 3, [12, 34, 1866, 2]), (.aload_n 0, 1, []), (.sipush 20000, 3, []), (.newarray .boolean, 2, [23, 294]), (.putfield 73, 3, [12, 35, 1867, 2]), (.aload_n 0, 1, []), (.sipush 256, 3, []), (.newarray .int, 2, [20, 220]), (.putfield 77, 3, [12, 36, 1868, 2]), (.aload_n 0, 1, []), (.sipush 256, 3, []), (.newarray .int, 2, [20, 220]), (.putfield 80, 3, [12, 37, 1869, 2]), (.aload_n 0, 1, []), (.bipush 9, 2, []), (.sipush 256, 3, []), (.multianewarray 32 2, 4, [1816]), (.putfield 83, 3, [12, 39, 1871, 2]), (.aload_n 0, 1, []), (.bipush 8, 2, []), (.bipush 8, 2, []), (.multianewarray 32 2, 4, [1816]), (.putfield 86, 3, [12, 40, 1872, 2]), (.aload_n 0, 1, []), (.bipush 16, 2, []), (.newarray .int, 2, [20, 220]), (.putfield 89, 3, [12, 41, 1873, 2]), (.aload_n 0, 1, []), (.iconst 4, 1, []), (.newarray .int, 2, [20, 220]), (.putfield 92, 3, [12, 42, 1874, 2]), (.aload_n 0, 1, []), (.invokevirtual 95, 3, [600, 107, 1, 0, 1818, 1820, 48, 12]), (.aload_n 0, 1, []), (.invokevirtual 98, 3, [600, 108, 1, 0, 1822, 1824, 49, 12]), (.return_, 1, [])]
def kt_2 : List (Nat × List ab_Row) := [(0, kb_2_0)]
def km_2 : ab_Mi := ((⟨"SorryPursesModel", "<init>", "()V"⟩ : MethodName), prog_14_method_1_code, 1, (Option.none : Option FieldType), [], [])
-- 3: SorryPurses.feed (IIIII)I
def kb_3_0 : List ab_Row := [(.aload_n 0, 1, []), (.getfield 10, 3, [11, 0, 494]), (.invokevirtual 109, 3, [600, 109, 1, 0, 544, 545, 546, 9]), (.ifCond .ne 5, 3, [12]), (.iconst (-1), 1, []), (.ireturn, 1, [])]
def kb_3_12 : List ab_Row := [(.aload_n 0, 1, []), (.getfield 10, 3, [11, 0, 494]), (.iload_n 1, 1, []), (.invokevirtual 113, 3, [600, 110, 2, 0, 548, 549, 550, 9]), (.aload_n 0, 1, []), (.getfield 10, 3, [11, 0, 494]), (.iload_n 2, 1, []), (.invokevirtual 113, 3, [600, 110, 2, 0, 548, 549, 550, 9]), (.aload_n 0, 1, []), (.getfield 10, 3, [11, 0, 494]), (.iload_n 3, 1, []), (.invokevirtual 113, 3, [600, 110, 2, 0, 548, 549, 550, 9]), (.aload_n 0, 1, []), (.getfield 10, 3, [11, 0, 494]), (.iload 4, 2, []), (.invokevirtual 113, 3, [600, 110, 2, 0, 548, 549, 550, 9]), (.aload_n 0, 1, []), (.getfield 10, 3, [11, 0, 494]), (.iload 5, 2, []), (.invokevirtual 113, 3, [600, 110, 2, 0, 548, 549, 550, 9]), (.aload_n 0, 1, []), (.getfield 10, 3, [11, 0, 494]), (.getfield 117, 3, [9, 1, 150]), (.ireturn, 1, [])]
def kt_3 : List (Nat × List ab_Row) := [(0, kb_3_0), (12, kb_3_12)]
def km_3 : ab_Mi := ((⟨"SorryPurses", "feed", "(IIIII)I"⟩ : MethodName), prog_1_method_2_code, 6, (Option.some FieldType.int), [], [])
-- 4: SorryPursesModel.feed (IIIII)I
def kb_4_0 : List ab_Row := [(.aload_n 0, 1, []), (.iconst 0, 1, []), (.putfield 101, 3, [12, 0, 1832, 0]), (.aload_n 0, 1, []), (.getfield 104, 3, [12, 1, 1833]), (.bipush 20, 2, []), (.iadd, 1, []), (.sipush 600, 3, []), (.if_icmp .le 5, 3, [20]), (.iconst (-1), 1, []), (.ireturn, 1, [])]
def kb_4_20 : List ab_Row := [(.iconst 0, 1, []), (.istore 6, 2, [])]
def kb_4_23 : List ab_Row := [(.iload 6, 2, []), (.bipush 20, 2, []), (.if_icmp .ge 93, 3, [120]), (.iload 6, 2, []), (.iconst 4, 1, []), (.if_icmp .ge 7, 3, [40]), (.iload_n 1, 1, []), (.goto 39, 3, [76])]
def kb_4_40 : List ab_Row := [(.iload 6, 2, []), (.bipush 8, 2, []), (.if_icmp .ge 7, 3, [51]), (.iload_n 2, 1, []), (.goto 28, 3, [76])]
def kb_4_51 : List ab_Row := [(.iload 6, 2, []), (.bipush 12, 2, []), (.if_icmp .ge 7, 3, [62]), (.iload_n 3, 1, []), (.goto 17, 3, [76])]
def kb_4_62 : List ab_Row := [(.iload 6, 2, []), (.bipush 16, 2, []), (.if_icmp .ge 8, 3, [74]), (.iload 4, 2, []), (.goto 5, 3, [76])]
def kb_4_74 : List ab_Row := [(.iload 5, 2, [])]
def kb_4_76 : List ab_Row := [(.istore 7, 2, []), (.aload_n 0, 1, []), (.getfield 13, 3, [12, 9, 1841]), (.aload_n 0, 1, []), (.getfield 104, 3, [12, 1, 1833]), (.iload 7, 2, []), (.bipush 24, 2, []), (.bipush 8, 2, []), (.iload 6, 2, []), (.iconst 4, 1, []), (.irem, 1, []), (.imul, 1, []), (.isub, 1, []), (.ishr, 1, []), (.sipush 255, 3, []), (.iand, 1, []), (.iastore, 1, []), (.aload_n 0, 1, []), (.dup, 1, []), (.getfield 104, 3, [12, 1, 1833]), (.iconst 1, 1, []), (.iadd, 1, []), (.putfield 104, 3, [12, 1, 1833, 0]), (.iinc 6 1, 3, []), (.goto (-94), 3, [23])]
def kb_4_120 : List ab_Row := [(.aload_n 0, 1, []), (.getfield 104, 3, [12, 1, 1833]), (.ireturn, 1, [])]
def kt_4 : List (Nat × List ab_Row) := [(0, kb_4_0), (20, kb_4_20), (23, kb_4_23), (40, kb_4_40), (51, kb_4_51), (62, kb_4_62), (74, kb_4_74), (76, kb_4_76), (120, kb_4_120)]
def km_4 : ab_Mi := ((⟨"SorryPursesModel", "feed", "(IIIII)I"⟩ : MethodName), prog_14_method_8_code, 8, (Option.some FieldType.int), [], [])
-- 5: SorryPursesLaw.town (LSorryPurses;I[J)I
def kb_5_0 : List ab_Row := [(.aload_n 2, 1, []), (.iconst 0, 1, []), (.aload_n 0, 1, []), (.iload_n 1, 1, []), (.invokevirtual 7, 3, [600, 111, 2, 0, 1084, 1085, 1086, 11]), (.i2l, 1, []), (.lastore, 1, []), (.goto 6, 3, [15])]
def kb_5_12 : List ab_Row := [(.astore_n 3, 1, []), (.iconst 1, 1, []), (.ireturn, 1, [])]
def kb_5_15 : List ab_Row := [(.iconst 0, 1, []), (.ireturn, 1, [])]
def kt_5 : List (Nat × List ab_Row) := [(0, kb_5_0), (12, kb_5_12), (15, kb_5_15)]
def km_5 : ab_Mi := ((⟨"SorryPursesLaw", "town", "(LSorryPurses;I[J)I"⟩ : MethodName), method_3_code, 4, (Option.some FieldType.int), [(0, 9, 12, 13)], [(0, 9, 12, 1)])
-- 6: SorryPursesModel.town (I)I
def kb_6_0 : List ab_Row := [(.aload_n 0, 1, []), (.iconst 0, 1, []), (.putfield 101, 3, [12, 0, 1832, 0]), (.aload_n 0, 1, []), (.iload_n 1, 1, []), (.iconst 0, 1, []), (.aload_n 0, 1, []), (.getfield 104, 3, [12, 1, 1833]), (.invokestatic 135, 3, [600, 112, 3, 1, 1980, 1981, 0, 0]), (.ifCond .ne 7, 3, [22]), (.iconst 1, 1, []), (.goto 4, 3, [23])]
def kb_6_22 : List ab_Row := [(.iconst 0, 1, [])]
def kb_6_23 : List ab_Row := [(.iconst 1, 1, []), (.iconst 1, 1, []), (.invokevirtual 180, 3, [600, 113, 4, 0, 1983, 1985, 50, 12]), (.ifCond .eq 5, 3, [33]), (.iconst 0, 1, []), (.ireturn, 1, [])]
def kb_6_33 : List ab_Row := [(.aload_n 0, 1, []), (.iload_n 1, 1, []), (.invokevirtual 184, 3, [600, 114, 2, 0, 1987, 1989, 51, 12]), (.aload_n 0, 1, []), (.invokevirtual 95, 3, [600, 107, 1, 0, 1818, 1820, 48, 12])]
def kb_6_42 : List ab_Row := [(.aload_n 0, 1, []), (.getfield 117, 3, [12, 5, 1837]), (.ifCond .ne 25, 3, [71]), (.aload_n 0, 1, []), (.getfield 110, 3, [12, 4, 1836]), (.aload_n 0, 1, []), (.getfield 107, 3, [12, 2, 1834]), (.if_icmp .ge 14, 3, [71]), (.aload_n 0, 1, []), (.invokevirtual 187, 3, [600, 115, 1, 0, 1999, 2001, 54, 12]), (.aload_n 0, 1, []), (.invokevirtual 123, 3, [600, 116, 1, 0, 1991, 1993, 52, 12]), (.goto (-26), 3, [42])]
def kb_6_71 : List ab_Row := [(.aload_n 0, 1, []), (.getfield 117, 3, [12, 5, 1837]), (.ifCond .eq 8, 3, [83]), (.aload_n 0, 1, []), (.invokevirtual 190, 3, [600, 117, 1, 0, 2044, 2046, 62, 12]), (.ireturn, 1, [])]
def kb_6_83 : List ab_Row := [(.aload_n 0, 1, []), (.iconst (-1), 1, []), (.putfield 9, 3, [12, 3, 1835, 0]), (.aload_n 0, 1, []), (.invokevirtual 98, 3, [600, 108, 1, 0, 1822, 1824, 49, 12]), (.aload_n 0, 1, []), (.getfield 23, 3, [12, 12, 1844]), (.iconst 1, 1, []), (.iaload, 1, []), (.ireturn, 1, [])]
def kt_6 : List (Nat × List ab_Row) := [(0, kb_6_0), (22, kb_6_22), (23, kb_6_23), (33, kb_6_33), (42, kb_6_42), (71, kb_6_71), (83, kb_6_83)]
def km_6 : ab_Mi := ((⟨"SorryPursesModel", "town", "(I)I"⟩ : MethodName), prog_14_method_26_code, 2, (Option.some FieldType.int), [], [])
-- 7: SorryPursesModel.thrown ()I
def kb_7_0 : List ab_Row := [(.aload_n 0, 1, []), (.getfield 101, 3, [12, 0, 1832]), (.ireturn, 1, [])]
def kt_7 : List (Nat × List ab_Row) := [(0, kb_7_0)]
def km_7 : ab_Mi := ((⟨"SorryPursesModel", "thrown", "()I"⟩ : MethodName), prog_14_method_3_code, 1, (Option.some FieldType.int), [], [])
-- 8: SorryPursesLaw.law (LSorryPurses;I[J)I
def kb_8_0 : List ab_Row := [(.aload_n 2, 1, []), (.iconst 0, 1, []), (.aload_n 0, 1, []), (.iload_n 1, 1, []), (.invokevirtual 15, 3, [600, 118, 2, 0, 1229, 1230, 1231, 11]), (.i2l, 1, []), (.lastore, 1, []), (.goto 6, 3, [15])]
def kb_8_12 : List ab_Row := [(.astore_n 3, 1, []), (.iconst 1, 1, []), (.ireturn, 1, [])]
def kb_8_15 : List ab_Row := [(.iconst 0, 1, []), (.ireturn, 1, [])]
def kt_8 : List (Nat × List ab_Row) := [(0, kb_8_0), (12, kb_8_12), (15, kb_8_15)]
def km_8 : ab_Mi := ((⟨"SorryPursesLaw", "law", "(LSorryPurses;I[J)I"⟩ : MethodName), method_4_code, 4, (Option.some FieldType.int), [(0, 9, 12, 13)], [(0, 9, 12, 1)])
-- 9: SorryPursesModel.law (I)I
def kb_9_0 : List ab_Row := [(.aload_n 0, 1, []), (.iconst 0, 1, []), (.putfield 101, 3, [12, 0, 1832, 0]), (.aload_n 0, 1, []), (.iload_n 1, 1, []), (.iconst 0, 1, []), (.aload_n 0, 1, []), (.getfield 104, 3, [12, 1, 1833]), (.invokestatic 135, 3, [600, 112, 3, 1, 1980, 1981, 0, 0]), (.ifCond .eq 10, 3, [25]), (.iload_n 1, 1, []), (.sipush 150, 3, []), (.if_icmp .le 7, 3, [29])]
def kb_9_25 : List ab_Row := [(.iconst 1, 1, []), (.goto 4, 3, [30])]
def kb_9_29 : List ab_Row := [(.iconst 0, 1, [])]
def kb_9_30 : List ab_Row := [(.iconst 1, 1, []), (.iconst 1, 1, []), (.invokevirtual 180, 3, [600, 113, 4, 0, 1983, 1985, 50, 12]), (.ifCond .eq 5, 3, [40]), (.iconst 0, 1, []), (.ireturn, 1, [])]
def kb_9_40 : List ab_Row := [(.aload_n 0, 1, []), (.iload_n 1, 1, []), (.invokevirtual 184, 3, [600, 114, 2, 0, 1987, 1989, 51, 12]), (.aload_n 0, 1, []), (.iconst 0, 1, []), (.putfield 213, 3, [12, 17, 1849, 0]), (.aload_n 0, 1, []), (.invokevirtual 235, 3, [600, 119, 1, 0, 2052, 2054, 63, 12]), (.aload_n 0, 1, []), (.invokevirtual 123, 3, [600, 116, 1, 0, 1991, 1993, 52, 12]), (.aload_n 0, 1, []), (.getfield 117, 3, [12, 5, 1837]), (.ifCond .ne 23, 3, [85]), (.aload_n 0, 1, []), (.getfield 110, 3, [12, 4, 1836]), (.aload_n 0, 1, []), (.getfield 107, 3, [12, 2, 1834]), (.if_icmp .ge 12, 3, [85]), (.aload_n 0, 1, []), (.iconst 1, 1, []), (.aload_n 0, 1, []), (.getfield 110, 3, [12, 4, 1836]), (.invokevirtual 130, 3, [600, 120, 3, 0, 2020, 2022, 57, 12])]
def kb_9_85 : List ab_Row := [(.aload_n 0, 1, []), (.getfield 117, 3, [12, 5, 1837]), (.ifCond .eq 8, 3, [97]), (.aload_n 0, 1, []), (.invokevirtual 190, 3, [600, 117, 1, 0, 2044, 2046, 62, 12]), (.ireturn, 1, [])]
def kb_9_97 : List ab_Row := [(.aload_n 0, 1, []), (.iconst (-1), 1, []), (.putfield 9, 3, [12, 3, 1835, 0]), (.aload_n 0, 1, []), (.aload_n 0, 1, []), (.getfield 213, 3, [12, 17, 1849]), (.putfield 198, 3, [12, 16, 1848, 0]), (.iconst 0, 1, []), (.istore_n 2, 1, [])]
def kb_9_112 : List ab_Row := [(.iload_n 2, 1, []), (.aload_n 0, 1, []), (.getfield 198, 3, [12, 16, 1848]), (.if_icmp .ge 38, 3, [155]), (.iconst 0, 1, []), (.istore_n 3, 1, [])]
def kb_9_122 : List ab_Row := [(.iload_n 3, 1, []), (.iconst 2, 1, []), (.if_icmp .ge 25, 3, [149]), (.aload_n 0, 1, []), (.getfield 37, 3, [12, 18, 1850]), (.iload_n 2, 1, []), (.aaload, 1, []), (.iload_n 3, 1, []), (.aload_n 0, 1, []), (.getfield 40, 3, [12, 19, 1851]), (.iload_n 2, 1, []), (.aaload, 1, []), (.iload_n 3, 1, []), (.iaload, 1, []), (.iastore, 1, []), (.iinc 3 1, 3, []), (.goto (-24), 3, [122])]
def kb_9_149 : List ab_Row := [(.iinc 2 1, 3, []), (.goto (-40), 3, [112])]
def kb_9_155 : List ab_Row := [(.iconst 1, 1, []), (.ireturn, 1, [])]
def kt_9 : List (Nat × List ab_Row) := [(0, kb_9_0), (25, kb_9_25), (29, kb_9_29), (30, kb_9_30), (40, kb_9_40), (85, kb_9_85), (97, kb_9_97), (112, kb_9_112), (122, kb_9_122), (149, kb_9_149), (155, kb_9_155)]
def km_9 : ab_Mi := ((⟨"SorryPursesModel", "law", "(I)I"⟩ : MethodName), prog_14_method_34_code, 4, (Option.some FieldType.int), [], [])
-- 10: SorryPursesLaw.deeds (LSorryPurses;I[J)I
def kb_10_0 : List ab_Row := [(.aload_n 2, 1, []), (.iconst 0, 1, []), (.aload_n 0, 1, []), (.iload_n 1, 1, []), (.invokevirtual 18, 3, [600, 121, 2, 0, 1273, 1274, 1275, 11]), (.i2l, 1, []), (.lastore, 1, []), (.goto 6, 3, [15])]
def kb_10_12 : List ab_Row := [(.astore_n 3, 1, []), (.iconst 1, 1, []), (.ireturn, 1, [])]
def kb_10_15 : List ab_Row := [(.iconst 0, 1, []), (.ireturn, 1, [])]
def kt_10 : List (Nat × List ab_Row) := [(0, kb_10_0), (12, kb_10_12), (15, kb_10_15)]
def km_10 : ab_Mi := ((⟨"SorryPursesLaw", "deeds", "(LSorryPurses;I[J)I"⟩ : MethodName), method_5_code, 4, (Option.some FieldType.int), [(0, 9, 12, 13)], [(0, 9, 12, 1)])
-- 11: SorryPursesModel.deeds (I)I
def kb_11_0 : List ab_Row := [(.aload_n 0, 1, []), (.iconst 0, 1, []), (.putfield 101, 3, [12, 0, 1832, 0]), (.aload_n 0, 1, []), (.iload_n 1, 1, []), (.iconst 0, 1, []), (.aload_n 0, 1, []), (.getfield 104, 3, [12, 1, 1833]), (.invokestatic 135, 3, [600, 112, 3, 1, 1980, 1981, 0, 0]), (.ifCond .eq 10, 3, [25]), (.iload_n 1, 1, []), (.sipush 200, 3, []), (.if_icmp .le 7, 3, [29])]
def kb_11_25 : List ab_Row := [(.iconst 1, 1, []), (.goto 4, 3, [30])]
def kb_11_29 : List ab_Row := [(.iconst 0, 1, [])]
def kb_11_30 : List ab_Row := [(.iconst 1, 1, []), (.iconst 1, 1, []), (.invokevirtual 180, 3, [600, 113, 4, 0, 1983, 1985, 50, 12]), (.ifCond .eq 5, 3, [40]), (.iconst 0, 1, []), (.ireturn, 1, [])]
def kb_11_40 : List ab_Row := [(.aload_n 0, 1, []), (.getfield 204, 3, [12, 30, 1862]), (.bipush 20, 2, []), (.if_icmp .ne 16, 3, [62]), (.aload_n 0, 1, []), (.iconst 0, 1, []), (.putfield 104, 3, [12, 1, 1833, 0]), (.aload_n 0, 1, []), (.iconst (-1), 1, []), (.putfield 9, 3, [12, 3, 1835, 0]), (.bipush (-20), 2, []), (.ireturn, 1, [])]
def kb_11_62 : List ab_Row := [(.aload_n 0, 1, []), (.iload_n 1, 1, []), (.invokevirtual 184, 3, [600, 114, 2, 0, 1987, 1989, 51, 12]), (.iconst 0, 1, []), (.istore_n 2, 1, [])]
def kb_11_69 : List ab_Row := [(.aload_n 0, 1, []), (.getfield 117, 3, [12, 5, 1837]), (.ifCond .ne 29, 3, [102]), (.aload_n 0, 1, []), (.getfield 110, 3, [12, 4, 1836]), (.aload_n 0, 1, []), (.getfield 107, 3, [12, 2, 1834]), (.if_icmp .ge 18, 3, [102]), (.aload_n 0, 1, []), (.iload_n 2, 1, []), (.invokevirtual 313, 3, [600, 122, 2, 0, 2109, 2111, 73, 12]), (.iinc 2 1, 3, []), (.aload_n 0, 1, []), (.invokevirtual 123, 3, [600, 116, 1, 0, 1991, 1993, 52, 12]), (.goto (-30), 3, [69])]
def kb_11_102 : List ab_Row := [(.aload_n 0, 1, []), (.getfield 117, 3, [12, 5, 1837]), (.ifCond .eq 8, 3, [114]), (.aload_n 0, 1, []), (.invokevirtual 190, 3, [600, 117, 1, 0, 2044, 2046, 62, 12]), (.ireturn, 1, [])]
def kb_11_114 : List ab_Row := [(.aload_n 0, 1, []), (.iconst (-1), 1, []), (.putfield 9, 3, [12, 3, 1835, 0]), (.aload_n 0, 1, []), (.getfield 58, 3, [12, 25, 1857]), (.aload_n 0, 1, []), (.getfield 64, 3, [12, 27, 1859]), (.aload_n 0, 1, []), (.getfield 204, 3, [12, 30, 1862]), (.aaload, 1, []), (.invokestatic 316, 3, [600, 123, 2, 1, 2121, 2122, 0, 0]), (.aload_n 0, 1, []), (.dup, 1, []), (.getfield 204, 3, [12, 30, 1862]), (.iconst 1, 1, []), (.iadd, 1, []), (.putfield 204, 3, [12, 30, 1862, 0]), (.iconst 0, 1, []), (.istore_n 3, 1, []), (.iconst 0, 1, []), (.istore 4, 2, [])]
def kb_11_150 : List ab_Row := [(.iload 4, 2, []), (.iload_n 2, 1, []), (.if_icmp .ge 35, 3, [188]), (.iload_n 3, 1, []), (.aload_n 0, 1, []), (.aload_n 0, 1, []), (.getfield 58, 3, [12, 25, 1857]), (.aload_n 0, 1, []), (.getfield 49, 3, [12, 22, 1854]), (.iload 4, 2, []), (.aaload, 1, []), (.invokevirtual 320, 3, [600, 124, 3, 0, 2124, 2126, 76, 12]), (.ifCond .eq 7, 3, [179]), (.iconst 1, 1, []), (.goto 4, 3, [180])]
def kb_11_179 : List ab_Row := [(.iconst 0, 1, [])]
def kb_11_180 : List ab_Row := [(.iadd, 1, []), (.istore_n 3, 1, []), (.iinc 4 1, 3, []), (.goto (-35), 3, [150])]
def kb_11_188 : List ab_Row := [(.aload_n 0, 1, []), (.iload_n 2, 1, []), (.iload_n 3, 1, []), (.isub, 1, []), (.putfield 207, 3, [12, 31, 1863, 0]), (.iload_n 3, 1, []), (.ireturn, 1, [])]
def kt_11 : List (Nat × List ab_Row) := [(0, kb_11_0), (25, kb_11_25), (29, kb_11_29), (30, kb_11_30), (40, kb_11_40), (62, kb_11_62), (69, kb_11_69), (102, kb_11_102), (114, kb_11_114), (150, kb_11_150), (179, kb_11_179), (180, kb_11_180), (188, kb_11_188)]
def km_11 : ab_Mi := ((⟨"SorryPursesModel", "deeds", "(I)I"⟩ : MethodName), prog_14_method_58_code, 5, (Option.some FieldType.int), [], [])
-- 12: SorryPursesLaw.book (LSorryPurses;I[J)I
def kb_12_0 : List ab_Row := [(.aload_n 2, 1, []), (.iconst 0, 1, []), (.aload_n 0, 1, []), (.iload_n 1, 1, []), (.invokevirtual 21, 3, [600, 125, 2, 0, 1372, 1373, 1374, 11]), (.i2l, 1, []), (.lastore, 1, []), (.goto 6, 3, [15])]
def kb_12_12 : List ab_Row := [(.astore_n 3, 1, []), (.iconst 1, 1, []), (.ireturn, 1, [])]
def kb_12_15 : List ab_Row := [(.iconst 0, 1, []), (.ireturn, 1, [])]
def kt_12 : List (Nat × List ab_Row) := [(0, kb_12_0), (12, kb_12_12), (15, kb_12_15)]
def km_12 : ab_Mi := ((⟨"SorryPursesLaw", "book", "(LSorryPurses;I[J)I"⟩ : MethodName), method_6_code, 4, (Option.some FieldType.int), [(0, 9, 12, 13)], [(0, 9, 12, 1)])
-- 13: SorryPursesModel.book (I)I
def kb_13_0 : List ab_Row := [(.aload_n 0, 1, []), (.iconst 0, 1, []), (.putfield 101, 3, [12, 0, 1832, 0]), (.aload_n 0, 1, []), (.iload_n 1, 1, []), (.iconst 0, 1, []), (.aload_n 0, 1, []), (.getfield 104, 3, [12, 1, 1833]), (.invokestatic 135, 3, [600, 112, 3, 1, 1980, 1981, 0, 0]), (.ifCond .eq 10, 3, [25]), (.iload_n 1, 1, []), (.sipush 150, 3, []), (.if_icmp .le 7, 3, [29])]
def kb_13_25 : List ab_Row := [(.iconst 1, 1, []), (.goto 4, 3, [30])]
def kb_13_29 : List ab_Row := [(.iconst 0, 1, [])]
def kb_13_30 : List ab_Row := [(.iconst 1, 1, []), (.iconst 1, 1, []), (.invokevirtual 180, 3, [600, 113, 4, 0, 1983, 1985, 50, 12]), (.ifCond .eq 5, 3, [40]), (.iconst 0, 1, []), (.ireturn, 1, [])]
def kb_13_40 : List ab_Row := [(.aload_n 0, 1, []), (.iload_n 1, 1, []), (.invokevirtual 184, 3, [600, 114, 2, 0, 1987, 1989, 51, 12]), (.iconst 0, 1, []), (.istore_n 2, 1, [])]
def kb_13_47 : List ab_Row := [(.aload_n 0, 1, []), (.getfield 117, 3, [12, 5, 1837]), (.ifCond .ne 116, 3, [167]), (.aload_n 0, 1, []), (.getfield 110, 3, [12, 4, 1836]), (.aload_n 0, 1, []), (.getfield 107, 3, [12, 2, 1834]), (.if_icmp .ge 105, 3, [167]), (.aload_n 0, 1, []), (.getfield 110, 3, [12, 4, 1836]), (.istore_n 3, 1, []), (.aload_n 0, 1, []), (.invokevirtual 275, 3, [600, 126, 1, 0, 2117, 2119, 75, 12]), (.istore 4, 2, []), (.aload_n 0, 1, []), (.getfield 117, 3, [12, 5, 1837]), (.ifCond .ne 15, 3, [95]), (.iload_n 2, 1, []), (.bipush 8, 2, []), (.if_icmp .ne 9, 3, [95]), (.aload_n 0, 1, []), (.iconst 3, 1, []), (.iload_n 3, 1, []), (.invokevirtual 130, 3, [600, 120, 3, 0, 2020, 2022, 57, 12])]
def kb_13_95 : List ab_Row := [(.aload_n 0, 1, []), (.bipush 45, 2, []), (.invokevirtual 219, 3, [600, 127, 2, 0, 2080, 2082, 70, 12]), (.istore 5, 2, []), (.aload_n 0, 1, []), (.iconst 0, 1, []), (.sipush 9999, 3, []), (.invokevirtual 139, 3, [600, 128, 3, 0, 2028, 2030, 59, 12]), (.istore 6, 2, []), (.aload_n 0, 1, []), (.bipush 59, 2, []), (.invokevirtual 176, 3, [600, 129, 2, 0, 2040, 2042, 61, 12]), (.aload_n 0, 1, []), (.getfield 117, 3, [12, 5, 1837]), (.ifCond .ne 37, 3, [160]), (.aload_n 0, 1, []), (.getfield 46, 3, [12, 21, 1853]), (.iload_n 2, 1, []), (.aaload, 1, []), (.iconst 0, 1, []), (.iload 4, 2, []), (.iastore, 1, []), (.aload_n 0, 1, []), (.getfield 46, 3, [12, 21, 1853]), (.iload_n 2, 1, []), (.aaload, 1, []), (.iconst 1, 1, []), (.iload 5, 2, []), (.ifCond .eq 9, 3, [154]), (.iload 6, 2, []), (.ineg, 1, []), (.goto 5, 3, [156])]
def kb_13_154 : List ab_Row := [(.iload 6, 2, [])]
def kb_13_156 : List ab_Row := [(.iastore, 1, []), (.iinc 2 1, 3, [])]
def kb_13_160 : List ab_Row := [(.aload_n 0, 1, []), (.invokevirtual 123, 3, [600, 116, 1, 0, 1991, 1993, 52, 12]), (.goto (-117), 3, [47])]
def kb_13_167 : List ab_Row := [(.aload_n 0, 1, []), (.getfield 117, 3, [12, 5, 1837]), (.ifCond .eq 8, 3, [179]), (.aload_n 0, 1, []), (.invokevirtual 190, 3, [600, 117, 1, 0, 2044, 2046, 62, 12]), (.ireturn, 1, [])]
def kb_13_179 : List ab_Row := [(.aload_n 0, 1, []), (.iconst (-1), 1, []), (.putfield 9, 3, [12, 3, 1835, 0]), (.aload_n 0, 1, []), (.iload_n 2, 1, []), (.putfield 201, 3, [12, 29, 1861, 0]), (.iconst 0, 1, []), (.istore_n 3, 1, [])]
def kb_13_191 : List ab_Row := [(.iload_n 3, 1, []), (.iload_n 2, 1, []), (.if_icmp .ge 42, 3, [235]), (.iconst 0, 1, []), (.istore 4, 2, [])]
def kb_13_199 : List ab_Row := [(.iload 4, 2, []), (.iconst 2, 1, []), (.if_icmp .ge 27, 3, [229]), (.aload_n 0, 1, []), (.getfield 43, 3, [12, 20, 1852]), (.iload_n 3, 1, []), (.aaload, 1, []), (.iload 4, 2, []), (.aload_n 0, 1, []), (.getfield 46, 3, [12, 21, 1853]), (.iload_n 3, 1, []), (.aaload, 1, []), (.iload 4, 2, []), (.iaload, 1, []), (.iastore, 1, []), (.iinc 4 1, 3, []), (.goto (-27), 3, [199])]
def kb_13_229 : List ab_Row := [(.iinc 3 1, 3, []), (.goto (-41), 3, [191])]
def kb_13_235 : List ab_Row := [(.iload_n 2, 1, []), (.ireturn, 1, [])]
def kt_13 : List (Nat × List ab_Row) := [(0, kb_13_0), (25, kb_13_25), (29, kb_13_29), (30, kb_13_30), (40, kb_13_40), (47, kb_13_47), (95, kb_13_95), (154, kb_13_154), (156, kb_13_156), (160, kb_13_160), (167, kb_13_167), (179, kb_13_179), (191, kb_13_191), (199, kb_13_199), (229, kb_13_229), (235, kb_13_235)]
def km_13 : ab_Mi := ((⟨"SorryPursesModel", "book", "(I)I"⟩ : MethodName), prog_14_method_60_code, 7, (Option.some FieldType.int), [], [])
-- 14: SorryPurses.fault ()I
def kb_14_0 : List ab_Row := [(.aload_n 0, 1, []), (.getfield 10, 3, [11, 0, 494]), (.getfield 190, 3, [9, 6, 162]), (.ireturn, 1, [])]
def kt_14 : List (Nat × List ab_Row) := [(0, kb_14_0)]
def km_14 : ab_Mi := ((⟨"SorryPurses", "fault", "()I"⟩ : MethodName), prog_1_method_7_code, 1, (Option.some FieldType.int), [], [])
-- 15: SorryPursesModel.fault ()I
def kb_15_0 : List ab_Row := [(.aload_n 0, 1, []), (.iconst 0, 1, []), (.putfield 101, 3, [12, 0, 1832, 0]), (.aload_n 0, 1, []), (.getfield 9, 3, [12, 3, 1835]), (.ireturn, 1, [])]
def kt_15 : List (Nat × List ab_Row) := [(0, kb_15_0)]
def km_15 : ab_Mi := ((⟨"SorryPursesModel", "fault", "()I"⟩ : MethodName), prog_14_method_61_code, 1, (Option.some FieldType.int), [], [])
-- 16: SorryPurses.undo ()I
def kb_16_0 : List ab_Row := [(.aload_n 0, 1, []), (.getfield 101, 3, [11, 13, 507]), (.getfield 170, 3, [3, 1, 472]), (.ifCond .ne 5, 3, [12]), (.iconst (-1), 1, []), (.ireturn, 1, [])]
def kb_16_12 : List ab_Row := [(.aload_n 0, 1, []), (.getfield 101, 3, [11, 13, 507]), (.aload_n 0, 1, []), (.getfield 49, 3, [11, 7, 501]), (.invokevirtual 193, 3, [600, 130, 2, 0, 560, 561, 562, 3]), (.aload_n 0, 1, []), (.getfield 76, 3, [11, 10, 504]), (.iconst 0, 1, []), (.putfield 160, 3, [2, 6, 378, 1]), (.aload_n 0, 1, []), (.getfield 101, 3, [11, 13, 507]), (.getfield 170, 3, [3, 1, 472]), (.ireturn, 1, [])]
def kt_16 : List (Nat × List ab_Row) := [(0, kb_16_0), (12, kb_16_12)]
def km_16 : ab_Mi := ((⟨"SorryPurses", "undo", "()I"⟩ : MethodName), prog_1_method_8_code, 1, (Option.some FieldType.int), [], [])
-- 17: SorryPursesModel.undo ()I
def kb_17_0 : List ab_Row := [(.aload_n 0, 1, []), (.iconst 0, 1, []), (.putfield 101, 3, [12, 0, 1832, 0]), (.aload_n 0, 1, []), (.getfield 204, 3, [12, 30, 1862]), (.ifCond .ne 5, 3, [14]), (.iconst (-1), 1, []), (.ireturn, 1, [])]
def kb_17_14 : List ab_Row := [(.aload_n 0, 1, []), (.dup, 1, []), (.getfield 204, 3, [12, 30, 1862]), (.iconst 1, 1, []), (.isub, 1, []), (.putfield 204, 3, [12, 30, 1862, 0]), (.aload_n 0, 1, []), (.getfield 64, 3, [12, 27, 1859]), (.aload_n 0, 1, []), (.getfield 204, 3, [12, 30, 1862]), (.aaload, 1, []), (.aload_n 0, 1, []), (.getfield 58, 3, [12, 25, 1857]), (.invokestatic 316, 3, [600, 123, 2, 1, 2121, 2122, 0, 0]), (.aload_n 0, 1, []), (.iconst 0, 1, []), (.putfield 207, 3, [12, 31, 1863, 0]), (.aload_n 0, 1, []), (.getfield 204, 3, [12, 30, 1862]), (.ireturn, 1, [])]
def kt_17 : List (Nat × List ab_Row) := [(0, kb_17_0), (14, kb_17_14)]
def km_17 : ab_Mi := ((⟨"SorryPursesModel", "undo", "()I"⟩ : MethodName), prog_14_method_59_code, 1, (Option.some FieldType.int), [], [])
-- 18: SorryPursesLaw.told (LSorryPurses;I[J)I
def kb_18_0 : List ab_Row := [(.aload_n 2, 1, []), (.iconst 0, 1, []), (.aload_n 0, 1, []), (.iload_n 1, 1, []), (.invokevirtual 24, 3, [600, 131, 2, 0, 1398, 1399, 1400, 11]), (.i2l, 1, []), (.lastore, 1, []), (.goto 6, 3, [15])]
def kb_18_12 : List ab_Row := [(.astore_n 3, 1, []), (.iconst 1, 1, []), (.ireturn, 1, [])]
def kb_18_15 : List ab_Row := [(.iconst 0, 1, []), (.ireturn, 1, [])]
def kt_18 : List (Nat × List ab_Row) := [(0, kb_18_0), (12, kb_18_12), (15, kb_18_15)]
def km_18 : ab_Mi := ((⟨"SorryPursesLaw", "told", "(LSorryPurses;I[J)I"⟩ : MethodName), method_7_code, 4, (Option.some FieldType.int), [(0, 9, 12, 13)], [(0, 9, 12, 1)])
-- 19: SorryPursesModel.told (I)I
def kb_19_0 : List ab_Row := [(.aload_n 0, 1, []), (.iconst 0, 1, []), (.putfield 101, 3, [12, 0, 1832, 0]), (.aload_n 0, 1, []), (.iload_n 1, 1, []), (.iconst 0, 1, []), (.bipush 7, 2, []), (.invokestatic 135, 3, [600, 112, 3, 1, 1980, 1981, 0, 0]), (.ifCond .ne 7, 3, [20]), (.iconst 1, 1, []), (.goto 4, 3, [21])]
def kb_19_20 : List ab_Row := [(.iconst 0, 1, [])]
def kb_19_21 : List ab_Row := [(.iconst 1, 1, []), (.iconst 1, 1, []), (.invokevirtual 180, 3, [600, 113, 4, 0, 1983, 1985, 50, 12]), (.ifCond .eq 5, 3, [31]), (.iconst 0, 1, []), (.ireturn, 1, [])]
def kb_19_31 : List ab_Row := [(.iload_n 1, 1, []), (.tableswitch 92 0 6 #[44, 51, 60, 69, 78, 78, 87], 44, [76, 83, 92, 101, 110, 110, 119, 124])]
def kb_19_76 : List ab_Row := [(.aload_n 0, 1, []), (.getfield 23, 3, [12, 12, 1844]), (.iconst 0, 1, []), (.iaload, 1, []), (.ireturn, 1, [])]
def kb_19_83 : List ab_Row := [(.aload_n 0, 1, []), (.getfield 58, 3, [12, 25, 1857]), (.sipush 360, 3, []), (.iaload, 1, []), (.ireturn, 1, [])]
def kb_19_92 : List ab_Row := [(.aload_n 0, 1, []), (.aload_n 0, 1, []), (.getfield 58, 3, [12, 25, 1857]), (.invokevirtual 324, 3, [600, 132, 2, 0, 2192, 2194, 83, 12]), (.ireturn, 1, [])]
def kb_19_101 : List ab_Row := [(.aload_n 0, 1, []), (.getfield 58, 3, [12, 25, 1857]), (.sipush 361, 3, []), (.iaload, 1, []), (.ireturn, 1, [])]
def kb_19_110 : List ab_Row := [(.aload_n 0, 1, []), (.getfield 23, 3, [12, 12, 1844]), (.iload_n 1, 1, []), (.iconst 2, 1, []), (.isub, 1, []), (.iaload, 1, []), (.ireturn, 1, [])]
def kb_19_119 : List ab_Row := [(.aload_n 0, 1, []), (.getfield 201, 3, [12, 29, 1861]), (.ireturn, 1, [])]
def kb_19_124 : List ab_Row := [(.aload_n 0, 1, []), (.getfield 207, 3, [12, 31, 1863]), (.ireturn, 1, [])]
def kt_19 : List (Nat × List ab_Row) := [(0, kb_19_0), (20, kb_19_20), (21, kb_19_21), (31, kb_19_31), (76, kb_19_76), (83, kb_19_83), (92, kb_19_92), (101, kb_19_101), (110, kb_19_110), (119, kb_19_119), (124, kb_19_124)]
def km_19 : ab_Mi := ((⟨"SorryPursesModel", "told", "(I)I"⟩ : MethodName), prog_14_method_64_code, 2, (Option.some FieldType.int), [], [])
-- 20: SorryPursesLaw.claim (LSorryPurses;II[J)I
def kb_20_0 : List ab_Row := [(.aload_n 3, 1, []), (.iconst 0, 1, []), (.aload_n 0, 1, []), (.iload_n 1, 1, []), (.iload_n 2, 1, []), (.invokevirtual 27, 3, [600, 133, 3, 0, 1410, 1411, 1412, 11]), (.i2l, 1, []), (.lastore, 1, []), (.goto 11, 3, [21])]
def kb_20_13 : List ab_Row := [(.astore 4, 2, []), (.iconst 1, 1, []), (.ireturn, 1, [])]
def kb_20_17 : List ab_Row := [(.astore 4, 2, []), (.iconst 2, 1, []), (.ireturn, 1, [])]
def kb_20_21 : List ab_Row := [(.iconst 0, 1, []), (.ireturn, 1, [])]
def kt_20 : List (Nat × List ab_Row) := [(0, kb_20_0), (13, kb_20_13), (17, kb_20_17), (21, kb_20_21)]
def km_20 : ab_Mi := ((⟨"SorryPursesLaw", "claim", "(LSorryPurses;II[J)I"⟩ : MethodName), method_8_code, 5, (Option.some FieldType.int), [(0, 10, 13, 31), (0, 10, 17, 13)], [(0, 10, 13, 0), (0, 10, 17, 1)])
-- 21: SorryPursesModel.claim (II)I
def kb_21_0 : List ab_Row := [(.aload_n 0, 1, []), (.iconst 0, 1, []), (.putfield 101, 3, [12, 0, 1832, 0]), (.aload_n 0, 1, []), (.aload_n 0, 1, []), (.iload_n 1, 1, []), (.invokevirtual 328, 3, [600, 134, 2, 0, 2200, 2202, 84, 12]), (.ifCond .ne 7, 3, [18]), (.iconst 1, 1, []), (.goto 4, 3, [19])]
def kb_21_18 : List ab_Row := [(.iconst 0, 1, [])]
def kb_21_19 : List ab_Row := [(.iconst 1, 1, []), (.iconst 0, 1, []), (.invokevirtual 180, 3, [600, 113, 4, 0, 1983, 1985, 50, 12]), (.ifCond .ne 27, 3, [51]), (.aload_n 0, 1, []), (.iload_n 2, 1, []), (.iconst 0, 1, []), (.bipush 7, 2, []), (.invokestatic 135, 3, [600, 112, 3, 1, 1980, 1981, 0, 0]), (.ifCond .ne 7, 3, [42]), (.iconst 1, 1, []), (.goto 4, 3, [43])]
def kb_21_42 : List ab_Row := [(.iconst 0, 1, [])]
def kb_21_43 : List ab_Row := [(.iconst 2, 1, []), (.iconst 1, 1, []), (.invokevirtual 180, 3, [600, 113, 4, 0, 1983, 1985, 50, 12]), (.ifCond .eq 5, 3, [53])]
def kb_21_51 : List ab_Row := [(.iconst 0, 1, []), (.ireturn, 1, [])]
def kb_21_53 : List ab_Row := [(.aload_n 0, 1, []), (.getfield 58, 3, [12, 25, 1857]), (.iload_n 1, 1, []), (.iload_n 2, 1, []), (.invokestatic 254, 3, [600, 135, 3, 1, 2142, 2143, 0, 0]), (.ireturn, 1, [])]
def kt_21 : List (Nat × List ab_Row) := [(0, kb_21_0), (18, kb_21_18), (19, kb_21_19), (42, kb_21_42), (43, kb_21_43), (51, kb_21_51), (53, kb_21_53)]
def km_21 : ab_Mi := ((⟨"SorryPursesModel", "claim", "(II)I"⟩ : MethodName), prog_14_method_67_code, 3, (Option.some FieldType.int), [], [])
-- 22: SorryPursesLaw.person (LSorryPurses;II[J)I
def kb_22_0 : List ab_Row := [(.aload_n 3, 1, []), (.iconst 0, 1, []), (.aload_n 0, 1, []), (.iload_n 1, 1, []), (.iload_n 2, 1, []), (.invokevirtual 33, 3, [600, 136, 3, 0, 1438, 1439, 1440, 11]), (.i2l, 1, []), (.lastore, 1, []), (.goto 11, 3, [21])]
def kb_22_13 : List ab_Row := [(.astore 4, 2, []), (.iconst 1, 1, []), (.ireturn, 1, [])]
def kb_22_17 : List ab_Row := [(.astore 4, 2, []), (.iconst 2, 1, []), (.ireturn, 1, [])]
def kb_22_21 : List ab_Row := [(.iconst 0, 1, []), (.ireturn, 1, [])]
def kt_22 : List (Nat × List ab_Row) := [(0, kb_22_0), (13, kb_22_13), (17, kb_22_17), (21, kb_22_21)]
def km_22 : ab_Mi := ((⟨"SorryPursesLaw", "person", "(LSorryPurses;II[J)I"⟩ : MethodName), method_9_code, 5, (Option.some FieldType.int), [(0, 10, 13, 31), (0, 10, 17, 13)], [(0, 10, 13, 0), (0, 10, 17, 1)])
-- 23: SorryPursesModel.person (II)I
def kb_23_0 : List ab_Row := [(.aload_n 0, 1, []), (.iconst 0, 1, []), (.putfield 101, 3, [12, 0, 1832, 0]), (.aload_n 0, 1, []), (.aload_n 0, 1, []), (.iload_n 1, 1, []), (.invokevirtual 331, 3, [600, 137, 2, 0, 2208, 2210, 85, 12]), (.ifCond .ne 7, 3, [18]), (.iconst 1, 1, []), (.goto 4, 3, [19])]
def kb_23_18 : List ab_Row := [(.iconst 0, 1, [])]
def kb_23_19 : List ab_Row := [(.iconst 1, 1, []), (.iconst 0, 1, []), (.invokevirtual 180, 3, [600, 113, 4, 0, 1983, 1985, 50, 12]), (.ifCond .ne 26, 3, [50]), (.aload_n 0, 1, []), (.iload_n 2, 1, []), (.iconst 0, 1, []), (.iconst 4, 1, []), (.invokestatic 135, 3, [600, 112, 3, 1, 1980, 1981, 0, 0]), (.ifCond .ne 7, 3, [41]), (.iconst 1, 1, []), (.goto 4, 3, [42])]
def kb_23_41 : List ab_Row := [(.iconst 0, 1, [])]
def kb_23_42 : List ab_Row := [(.iconst 2, 1, []), (.iconst 1, 1, []), (.invokevirtual 180, 3, [600, 113, 4, 0, 1983, 1985, 50, 12]), (.ifCond .eq 5, 3, [52])]
def kb_23_50 : List ab_Row := [(.iconst 0, 1, []), (.ireturn, 1, [])]
def kb_23_52 : List ab_Row := [(.iload_n 2, 1, []), (.ifCond .ne 12, 3, [65]), (.aload_n 0, 1, []), (.getfield 29, 3, [12, 14, 1846]), (.iload_n 1, 1, []), (.iaload, 1, []), (.goto 33, 3, [95])]
def kb_23_65 : List ab_Row := [(.aload_n 0, 1, []), (.getfield 58, 3, [12, 25, 1857]), (.iload_n 2, 1, []), (.iconst 2, 1, []), (.irem, 1, []), (.iconst 1, 1, []), (.if_icmp .ne 7, 3, [80]), (.iconst 1, 1, []), (.goto 4, 3, [81])]
def kb_23_80 : List ab_Row := [(.iconst 0, 1, [])]
def kb_23_81 : List ab_Row := [(.iload_n 1, 1, []), (.iload_n 2, 1, []), (.iconst 3, 1, []), (.if_icmp .ge 7, 3, [91]), (.iconst 1, 1, []), (.goto 4, 3, [92])]
def kb_23_91 : List ab_Row := [(.iconst 0, 1, [])]
def kb_23_92 : List ab_Row := [(.invokestatic 334, 3, [600, 138, 4, 1, 2212, 2213, 0, 0])]
def kb_23_95 : List ab_Row := [(.ireturn, 1, [])]
def kt_23 : List (Nat × List ab_Row) := [(0, kb_23_0), (18, kb_23_18), (19, kb_23_19), (41, kb_23_41), (42, kb_23_42), (50, kb_23_50), (52, kb_23_52), (65, kb_23_65), (80, kb_23_80), (81, kb_23_81), (91, kb_23_91), (92, kb_23_92), (95, kb_23_95)]
def km_23 : ab_Mi := ((⟨"SorryPursesModel", "person", "(II)I"⟩ : MethodName), prog_14_method_69_code, 3, (Option.some FieldType.int), [], [])
-- 24: SorryPursesLaw.worth (LSorryPurses;II[J)I
def kb_24_0 : List ab_Row := [(.aload_n 3, 1, []), (.iconst 0, 1, []), (.aload_n 0, 1, []), (.iload_n 1, 1, []), (.iload_n 2, 1, []), (.invokevirtual 36, 3, [600, 139, 3, 0, 1456, 1457, 1458, 11]), (.i2l, 1, []), (.lastore, 1, []), (.goto 11, 3, [21])]
def kb_24_13 : List ab_Row := [(.astore 4, 2, []), (.iconst 1, 1, []), (.ireturn, 1, [])]
def kb_24_17 : List ab_Row := [(.astore 4, 2, []), (.iconst 2, 1, []), (.ireturn, 1, [])]
def kb_24_21 : List ab_Row := [(.iconst 0, 1, []), (.ireturn, 1, [])]
def kt_24 : List (Nat × List ab_Row) := [(0, kb_24_0), (13, kb_24_13), (17, kb_24_17), (21, kb_24_21)]
def km_24 : ab_Mi := ((⟨"SorryPursesLaw", "worth", "(LSorryPurses;II[J)I"⟩ : MethodName), method_10_code, 5, (Option.some FieldType.int), [(0, 10, 13, 31), (0, 10, 17, 13)], [(0, 10, 13, 0), (0, 10, 17, 1)])
-- 25: SorryPursesModel.worth (II)I
def kb_25_0 : List ab_Row := [(.aload_n 0, 1, []), (.iconst 0, 1, []), (.putfield 101, 3, [12, 0, 1832, 0]), (.aload_n 0, 1, []), (.aload_n 0, 1, []), (.iload_n 1, 1, []), (.invokevirtual 331, 3, [600, 137, 2, 0, 2208, 2210, 85, 12]), (.ifCond .ne 7, 3, [18]), (.iconst 1, 1, []), (.goto 4, 3, [19])]
def kb_25_18 : List ab_Row := [(.iconst 0, 1, [])]
def kb_25_19 : List ab_Row := [(.iconst 1, 1, []), (.iconst 0, 1, []), (.invokevirtual 180, 3, [600, 113, 4, 0, 1983, 1985, 50, 12]), (.ifCond .ne 26, 3, [50]), (.aload_n 0, 1, []), (.iload_n 2, 1, []), (.iconst 0, 1, []), (.iconst 1, 1, []), (.invokestatic 135, 3, [600, 112, 3, 1, 1980, 1981, 0, 0]), (.ifCond .ne 7, 3, [41]), (.iconst 1, 1, []), (.goto 4, 3, [42])]
def kb_25_41 : List ab_Row := [(.iconst 0, 1, [])]
def kb_25_42 : List ab_Row := [(.iconst 2, 1, []), (.iconst 1, 1, []), (.invokevirtual 180, 3, [600, 113, 4, 0, 1983, 1985, 50, 12]), (.ifCond .eq 5, 3, [52])]
def kb_25_50 : List ab_Row := [(.iconst 0, 1, []), (.ireturn, 1, [])]
def kb_25_52 : List ab_Row := [(.aload_n 0, 1, []), (.getfield 58, 3, [12, 25, 1857]), (.iload_n 1, 1, []), (.iload_n 2, 1, []), (.iconst 1, 1, []), (.if_icmp .ne 7, 3, [66]), (.iconst 1, 1, []), (.goto 4, 3, [67])]
def kb_25_66 : List ab_Row := [(.iconst 0, 1, [])]
def kb_25_67 : List ab_Row := [(.invokestatic 338, 3, [600, 140, 3, 1, 2219, 2220, 0, 0]), (.ireturn, 1, [])]
def kt_25 : List (Nat × List ab_Row) := [(0, kb_25_0), (18, kb_25_18), (19, kb_25_19), (41, kb_25_41), (42, kb_25_42), (50, kb_25_50), (52, kb_25_52), (66, kb_25_66), (67, kb_25_67)]
def km_25 : ab_Mi := ((⟨"SorryPursesModel", "worth", "(II)I"⟩ : MethodName), prog_14_method_71_code, 3, (Option.some FieldType.int), [], [])
-- 26: SorryPursesLaw.sums (LSorryPurses;I[J)I
def kb_26_0 : List ab_Row := [(.aload_n 2, 1, []), (.iconst 0, 1, []), (.aload_n 0, 1, []), (.iload_n 1, 1, []), (.invokevirtual 39, 3, [600, 141, 2, 0, 1463, 1464, 1465, 11]), (.i2l, 1, []), (.lastore, 1, []), (.goto 6, 3, [15])]
def kb_26_12 : List ab_Row := [(.astore_n 3, 1, []), (.iconst 1, 1, []), (.ireturn, 1, [])]
def kb_26_15 : List ab_Row := [(.iconst 0, 1, []), (.ireturn, 1, [])]
def kt_26 : List (Nat × List ab_Row) := [(0, kb_26_0), (12, kb_26_12), (15, kb_26_15)]
def km_26 : ab_Mi := ((⟨"SorryPursesLaw", "sums", "(LSorryPurses;I[J)I"⟩ : MethodName), method_11_code, 4, (Option.some FieldType.int), [(0, 9, 12, 13)], [(0, 9, 12, 1)])
-- 27: SorryPursesModel.sums (I)I
def kb_27_0 : List ab_Row := [(.aload_n 0, 1, []), (.iconst 0, 1, []), (.putfield 101, 3, [12, 0, 1832, 0]), (.aload_n 0, 1, []), (.iload_n 1, 1, []), (.iconst 0, 1, []), (.iconst 4, 1, []), (.invokestatic 135, 3, [600, 112, 3, 1, 1980, 1981, 0, 0]), (.ifCond .ne 7, 3, [19]), (.iconst 1, 1, []), (.goto 4, 3, [20])]
def kb_27_19 : List ab_Row := [(.iconst 0, 1, [])]
def kb_27_20 : List ab_Row := [(.iconst 1, 1, []), (.iconst 1, 1, []), (.invokevirtual 180, 3, [600, 113, 4, 0, 1983, 1985, 50, 12]), (.ifCond .eq 5, 3, [30]), (.iconst 0, 1, []), (.ireturn, 1, [])]
def kb_27_30 : List ab_Row := [(.iload_n 1, 1, []), (.ifCond .ne 14, 3, [45]), (.aload_n 0, 1, []), (.aload_n 0, 1, []), (.getfield 58, 3, [12, 25, 1857]), (.invokevirtual 342, 3, [600, 142, 2, 0, 2226, 2228, 86, 12]), (.goto 15, 3, [57])]
def kb_27_45 : List ab_Row := [(.aload_n 0, 1, []), (.getfield 58, 3, [12, 25, 1857]), (.sipush 362, 3, []), (.iload_n 1, 1, []), (.iadd, 1, []), (.iconst 1, 1, []), (.isub, 1, []), (.iaload, 1, [])]
def kb_27_57 : List ab_Row := [(.ireturn, 1, [])]
def kt_27 : List (Nat × List ab_Row) := [(0, kb_27_0), (19, kb_27_19), (20, kb_27_20), (30, kb_27_30), (45, kb_27_45), (57, kb_27_57)]
def km_27 : ab_Mi := ((⟨"SorryPursesModel", "sums", "(I)I"⟩ : MethodName), prog_14_method_72_code, 2, (Option.some FieldType.int), [], [])
-- 28: SorryPursesLaw.between (LSorryPurses;II[J)I
def kb_28_0 : List ab_Row := [(.aload_n 3, 1, []), (.iconst 0, 1, []), (.aload_n 0, 1, []), (.iload_n 1, 1, []), (.iload_n 2, 1, []), (.invokevirtual 42, 3, [600, 143, 3, 0, 1478, 1479, 1480, 11]), (.i2l, 1, []), (.lastore, 1, []), (.goto 7, 3, [17])]
def kb_28_13 : List ab_Row := [(.astore 4, 2, []), (.iconst 1, 1, []), (.ireturn, 1, [])]
def kb_28_17 : List ab_Row := [(.iconst 0, 1, []), (.ireturn, 1, [])]
def kt_28 : List (Nat × List ab_Row) := [(0, kb_28_0), (13, kb_28_13), (17, kb_28_17)]
def km_28 : ab_Mi := ((⟨"SorryPursesLaw", "between", "(LSorryPurses;II[J)I"⟩ : MethodName), method_12_code, 5, (Option.some FieldType.int), [(0, 10, 13, 31)], [(0, 10, 13, 0)])
-- 29: SorryPursesModel.between (II)I
def kb_29_0 : List ab_Row := [(.aload_n 0, 1, []), (.iconst 0, 1, []), (.putfield 101, 3, [12, 0, 1832, 0]), (.aload_n 0, 1, []), (.aload_n 0, 1, []), (.iload_n 1, 1, []), (.invokevirtual 331, 3, [600, 137, 2, 0, 2208, 2210, 85, 12]), (.ifCond .eq 11, 3, [22]), (.aload_n 0, 1, []), (.iload_n 2, 1, []), (.invokevirtual 331, 3, [600, 137, 2, 0, 2208, 2210, 85, 12]), (.ifCond .ne 7, 3, [26])]
def kb_29_22 : List ab_Row := [(.iconst 1, 1, []), (.goto 4, 3, [27])]
def kb_29_26 : List ab_Row := [(.iconst 0, 1, [])]
def kb_29_27 : List ab_Row := [(.iconst 1, 1, []), (.iconst 0, 1, []), (.invokevirtual 180, 3, [600, 113, 4, 0, 1983, 1985, 50, 12]), (.ifCond .eq 5, 3, [37]), (.iconst 0, 1, []), (.ireturn, 1, [])]
def kb_29_37 : List ab_Row := [(.iconst 0, 1, []), (.istore_n 3, 1, []), (.iconst 0, 1, []), (.istore 4, 2, [])]
def kb_29_42 : List ab_Row := [(.iload 4, 2, []), (.aload_n 0, 1, []), (.getfield 58, 3, [12, 25, 1857]), (.sipush 360, 3, []), (.iaload, 1, []), (.if_icmp .ge 66, 3, [118]), (.iload_n 3, 1, []), (.aload_n 0, 1, []), (.getfield 58, 3, [12, 25, 1857]), (.iload 4, 2, []), (.invokestatic 258, 3, [600, 144, 2, 1, 2139, 2140, 0, 0]), (.ifCond .eq 44, 3, [109]), (.aload_n 0, 1, []), (.getfield 58, 3, [12, 25, 1857]), (.iload 4, 2, []), (.iconst 0, 1, []), (.invokestatic 254, 3, [600, 135, 3, 1, 2142, 2143, 0, 0]), (.iload_n 1, 1, []), (.if_icmp .ne 30, 3, [109]), (.aload_n 0, 1, []), (.getfield 58, 3, [12, 25, 1857]), (.iload 4, 2, []), (.iconst 1, 1, []), (.invokestatic 254, 3, [600, 135, 3, 1, 2142, 2143, 0, 0]), (.iload_n 2, 1, []), (.if_icmp .ne 16, 3, [109]), (.aload_n 0, 1, []), (.getfield 58, 3, [12, 25, 1857]), (.iload 4, 2, []), (.iconst 2, 1, []), (.invokestatic 254, 3, [600, 135, 3, 1, 2142, 2143, 0, 0]), (.goto 4, 3, [110])]
def kb_29_109 : List ab_Row := [(.iconst 0, 1, [])]
def kb_29_110 : List ab_Row := [(.iadd, 1, []), (.istore_n 3, 1, []), (.iinc 4 1, 3, []), (.goto (-73), 3, [42])]
def kb_29_118 : List ab_Row := [(.iload_n 3, 1, []), (.ireturn, 1, [])]
def kt_29 : List (Nat × List ab_Row) := [(0, kb_29_0), (22, kb_29_22), (26, kb_29_26), (27, kb_29_27), (37, kb_29_37), (42, kb_29_42), (109, kb_29_109), (110, kb_29_110), (118, kb_29_118)]
def km_29 : ab_Mi := ((⟨"SorryPursesModel", "between", "(II)I"⟩ : MethodName), prog_14_method_73_code, 5, (Option.some FieldType.int), [], [])
-- 30: SorryPursesLaw.meant (LSorryPurses;I[J)I
def kb_30_0 : List ab_Row := [(.aload_n 2, 1, []), (.iconst 0, 1, []), (.aload_n 0, 1, []), (.iload_n 1, 1, []), (.invokevirtual 45, 3, [600, 145, 2, 0, 1489, 1490, 1491, 11]), (.i2l, 1, []), (.lastore, 1, []), (.goto 6, 3, [15])]
def kb_30_12 : List ab_Row := [(.astore_n 3, 1, []), (.iconst 1, 1, []), (.ireturn, 1, [])]
def kb_30_15 : List ab_Row := [(.iconst 0, 1, []), (.ireturn, 1, [])]
def kt_30 : List (Nat × List ab_Row) := [(0, kb_30_0), (12, kb_30_12), (15, kb_30_15)]
def km_30 : ab_Mi := ((⟨"SorryPursesLaw", "meant", "(LSorryPurses;I[J)I"⟩ : MethodName), method_13_code, 4, (Option.some FieldType.int), [(0, 9, 12, 31)], [(0, 9, 12, 0)])
-- 31: SorryPursesModel.meant (I)I
def kb_31_0 : List ab_Row := [(.aload_n 0, 1, []), (.iconst 0, 1, []), (.putfield 101, 3, [12, 0, 1832, 0]), (.aload_n 0, 1, []), (.aload_n 0, 1, []), (.iload_n 1, 1, []), (.invokevirtual 328, 3, [600, 134, 2, 0, 2200, 2202, 84, 12]), (.ifCond .ne 7, 3, [18]), (.iconst 1, 1, []), (.goto 4, 3, [19])]
def kb_31_18 : List ab_Row := [(.iconst 0, 1, [])]
def kb_31_19 : List ab_Row := [(.iconst 1, 1, []), (.iconst 0, 1, []), (.invokevirtual 180, 3, [600, 113, 4, 0, 1983, 1985, 50, 12]), (.ifCond .eq 5, 3, [29]), (.iconst 0, 1, []), (.ireturn, 1, [])]
def kb_31_29 : List ab_Row := [(.aload_n 0, 1, []), (.aload_n 0, 1, []), (.getfield 58, 3, [12, 25, 1857]), (.iload_n 1, 1, []), (.invokevirtual 310, 3, [600, 146, 3, 0, 2165, 2167, 81, 12]), (.ireturn, 1, [])]
def kt_31 : List (Nat × List ab_Row) := [(0, kb_31_0), (18, kb_31_18), (19, kb_31_19), (29, kb_31_29)]
def km_31 : ab_Mi := ((⟨"SorryPursesModel", "meant", "(I)I"⟩ : MethodName), prog_14_method_74_code, 2, (Option.some FieldType.int), [], [])
-- 32: SorryPursesLaw.would (LSorryPurses;IIIII[J)I
def kb_32_0 : List ab_Row := [(.aload 6, 2, []), (.iconst 0, 1, []), (.aload_n 0, 1, []), (.iload_n 1, 1, []), (.iload_n 2, 1, []), (.iload_n 3, 1, []), (.iload 4, 2, []), (.iload 5, 2, []), (.invokevirtual 48, 3, [600, 147, 6, 0, 1497, 1498, 1499, 11]), (.i2l, 1, []), (.lastore, 1, []), (.goto 7, 3, [23])]
def kb_32_19 : List ab_Row := [(.astore 7, 2, []), (.iconst 1, 1, []), (.ireturn, 1, [])]
def kb_32_23 : List ab_Row := [(.iconst 0, 1, []), (.ireturn, 1, [])]
def kt_32 : List (Nat × List ab_Row) := [(0, kb_32_0), (19, kb_32_19), (23, kb_32_23)]
def km_32 : ab_Mi := ((⟨"SorryPursesLaw", "would", "(LSorryPurses;IIIII[J)I"⟩ : MethodName), method_14_code, 8, (Option.some FieldType.int), [(0, 16, 19, 13)], [(0, 16, 19, 1)])
-- 33: SorryPursesModel.would (IIIII)I
def kb_33_0 : List ab_Row := [(.aload_n 0, 1, []), (.iconst 0, 1, []), (.putfield 101, 3, [12, 0, 1832, 0]), (.aload_n 0, 1, []), (.iload_n 1, 1, []), (.iconst 0, 1, []), (.sipush 9999, 3, []), (.invokestatic 135, 3, [600, 112, 3, 1, 1980, 1981, 0, 0]), (.ifCond .eq 47, 3, [61]), (.iload_n 2, 1, []), (.iconst 0, 1, []), (.sipush 999, 3, []), (.invokestatic 135, 3, [600, 112, 3, 1, 1980, 1981, 0, 0]), (.ifCond .eq 36, 3, [61]), (.iload_n 3, 1, []), (.iconst 0, 1, []), (.bipush 9, 2, []), (.invokestatic 135, 3, [600, 112, 3, 1, 1980, 1981, 0, 0]), (.ifCond .eq 26, 3, [61]), (.iload 4, 2, []), (.iconst 0, 1, []), (.bipush 9, 2, []), (.invokestatic 135, 3, [600, 112, 3, 1, 1980, 1981, 0, 0]), (.ifCond .eq 15, 3, [61]), (.iload 5, 2, []), (.iconst 0, 1, []), (.sipush 999, 3, []), (.invokestatic 135, 3, [600, 112, 3, 1, 1980, 1981, 0, 0]), (.ifCond .ne 7, 3, [65])]
def kb_33_61 : List ab_Row := [(.iconst 1, 1, []), (.goto 4, 3, [66])]
def kb_33_65 : List ab_Row := [(.iconst 0, 1, [])]
def kb_33_66 : List ab_Row := [(.iconst 1, 1, []), (.iconst 1, 1, []), (.invokevirtual 180, 3, [600, 113, 4, 0, 1983, 1985, 50, 12]), (.ifCond .eq 5, 3, [76]), (.iconst 0, 1, []), (.ireturn, 1, [])]
def kb_33_76 : List ab_Row := [(.iconst 0, 1, []), (.istore 6, 2, [])]
def kb_33_79 : List ab_Row := [(.iload 6, 2, []), (.bipush 8, 2, []), (.if_icmp .ge 17, 3, [100]), (.aload_n 0, 1, []), (.getfield 55, 3, [12, 24, 1856]), (.iload 6, 2, []), (.iconst 0, 1, []), (.iastore, 1, []), (.iinc 6 1, 3, []), (.goto (-18), 3, [79])]
def kb_33_100 : List ab_Row := [(.aload_n 0, 1, []), (.getfield 55, 3, [12, 24, 1856]), (.iconst 0, 1, []), (.iload_n 1, 1, []), (.iastore, 1, []), (.aload_n 0, 1, []), (.getfield 55, 3, [12, 24, 1856]), (.iconst 1, 1, []), (.iload_n 2, 1, []), (.iastore, 1, []), (.aload_n 0, 1, []), (.getfield 55, 3, [12, 24, 1856]), (.iconst 2, 1, []), (.iload_n 3, 1, []), (.iastore, 1, []), (.aload_n 0, 1, []), (.getfield 55, 3, [12, 24, 1856]), (.iconst 3, 1, []), (.iload 4, 2, []), (.iastore, 1, []), (.aload_n 0, 1, []), (.getfield 55, 3, [12, 24, 1856]), (.iconst 5, 1, []), (.iload 5, 2, []), (.iastore, 1, []), (.aload_n 0, 1, []), (.invokevirtual 262, 3, [600, 148, 1, 0, 2088, 2090, 71, 12]), (.ireturn, 1, [])]
def kt_33 : List (Nat × List ab_Row) := [(0, kb_33_0), (61, kb_33_61), (65, kb_33_65), (66, kb_33_66), (76, kb_33_76), (79, kb_33_79), (100, kb_33_100)]
def km_33 : ab_Mi := ((⟨"SorryPursesModel", "would", "(IIIII)I"⟩ : MethodName), prog_14_method_43_code, 7, (Option.some FieldType.int), [], [])
-- 34: SorryPurses.open ()J
def kb_34_0 : List ab_Row := [(.aload_n 0, 1, []), (.getfield 58, 3, [11, 8, 502]), (.invokevirtual 253, 3, [600, 149, 1, 0, 576, 577, 578, 4]), (.lreturn, 1, [])]
def kt_34 : List (Nat × List ab_Row) := [(0, kb_34_0)]
def km_34 : ab_Mi := ((⟨"SorryPurses", "open", "()J"⟩ : MethodName), prog_1_method_17_code, 1, (Option.some FieldType.long), [], [])
-- 35: SorryPursesModel.open ()J
def kb_35_0 : List ab_Row := [(.aload_n 0, 1, []), (.iconst 0, 1, []), (.putfield 101, 3, [12, 0, 1832, 0]), (.lconst 0, 1, []), (.lstore_n 1, 1, []), (.iconst 0, 1, []), (.istore_n 3, 1, [])]
def kb_35_9 : List ab_Row := [(.iload_n 3, 1, []), (.aload_n 0, 1, []), (.getfield 58, 3, [12, 25, 1857]), (.sipush 360, 3, []), (.iaload, 1, []), (.if_icmp .ge 27, 3, [45]), (.lload_n 1, 1, []), (.aload_n 0, 1, []), (.iload_n 3, 1, []), (.invokevirtual 345, 3, [600, 150, 2, 0, 2242, 2244, 87, 12]), (.ifCond .eq 9, 3, [36]), (.lconst 1, 1, []), (.iload_n 3, 1, []), (.lshl, 1, []), (.goto 4, 3, [37])]
def kb_35_36 : List ab_Row := [(.lconst 0, 1, [])]
def kb_35_37 : List ab_Row := [(.lor, 1, []), (.lstore_n 1, 1, []), (.iinc 3 1, 3, []), (.goto (-33), 3, [9])]
def kb_35_45 : List ab_Row := [(.lload_n 1, 1, []), (.lreturn, 1, [])]
def kt_35 : List (Nat × List ab_Row) := [(0, kb_35_0), (9, kb_35_9), (36, kb_35_36), (37, kb_35_37), (45, kb_35_45)]
def km_35 : ab_Mi := ((⟨"SorryPursesModel", "open", "()J"⟩ : MethodName), prog_14_method_76_code, 4, (Option.some FieldType.long), [], [])
-- 36: SorryPursesLaw.pays (LSorryPurses;III[J)I
def kb_36_0 : List ab_Row := [(.aload 4, 2, []), (.iconst 0, 1, []), (.aload_n 0, 1, []), (.iload_n 1, 1, []), (.iload_n 2, 1, []), (.iload_n 3, 1, []), (.invokevirtual 52, 3, [600, 151, 4, 0, 1511, 1512, 1513, 11]), (.lastore, 1, []), (.goto 11, 3, [22])]
def kb_36_14 : List ab_Row := [(.astore 5, 2, []), (.iconst 1, 1, []), (.ireturn, 1, [])]
def kb_36_18 : List ab_Row := [(.astore 5, 2, []), (.iconst 2, 1, []), (.ireturn, 1, [])]
def kb_36_22 : List ab_Row := [(.iconst 0, 1, []), (.ireturn, 1, [])]
def kt_36 : List (Nat × List ab_Row) := [(0, kb_36_0), (14, kb_36_14), (18, kb_36_18), (22, kb_36_22)]
def km_36 : ab_Mi := ((⟨"SorryPursesLaw", "pays", "(LSorryPurses;III[J)I"⟩ : MethodName), method_15_code, 6, (Option.some FieldType.int), [(0, 11, 14, 31), (0, 11, 18, 13)], [(0, 11, 14, 0), (0, 11, 18, 1)])
-- 37: SorryPursesModel.pays (III)J
def kb_37_0 : List ab_Row := [(.aload_n 0, 1, []), (.iconst 0, 1, []), (.putfield 101, 3, [12, 0, 1832, 0]), (.aload_n 0, 1, []), (.aload_n 0, 1, []), (.iload_n 1, 1, []), (.invokevirtual 331, 3, [600, 137, 2, 0, 2208, 2210, 85, 12]), (.ifCond .eq 11, 3, [22]), (.aload_n 0, 1, []), (.iload_n 2, 1, []), (.invokevirtual 331, 3, [600, 137, 2, 0, 2208, 2210, 85, 12]), (.ifCond .ne 7, 3, [26])]
def kb_37_22 : List ab_Row := [(.iconst 1, 1, []), (.goto 4, 3, [27])]
def kb_37_26 : List ab_Row := [(.iconst 0, 1, [])]
def kb_37_27 : List ab_Row := [(.iconst 1, 1, []), (.iconst 0, 1, []), (.invokevirtual 180, 3, [600, 113, 4, 0, 1983, 1985, 50, 12]), (.ifCond .ne 33, 3, [65]), (.aload_n 0, 1, []), (.iload_n 1, 1, []), (.iload_n 2, 1, []), (.if_icmp .eq 14, 3, [52]), (.iload_n 3, 1, []), (.iconst 1, 1, []), (.sipush 999, 3, []), (.invokestatic 135, 3, [600, 112, 3, 1, 1980, 1981, 0, 0]), (.ifCond .ne 7, 3, [56])]
def kb_37_52 : List ab_Row := [(.iconst 1, 1, []), (.goto 4, 3, [57])]
def kb_37_56 : List ab_Row := [(.iconst 0, 1, [])]
def kb_37_57 : List ab_Row := [(.iconst 2, 1, []), (.iconst 1, 1, []), (.invokevirtual 180, 3, [600, 113, 4, 0, 1983, 1985, 50, 12]), (.ifCond .eq 5, 3, [67])]
def kb_37_65 : List ab_Row := [(.lconst 0, 1, []), (.lreturn, 1, [])]
def kb_37_67 : List ab_Row := [(.aload_n 0, 1, []), (.aload_n 0, 1, []), (.getfield 58, 3, [12, 25, 1857]), (.iload_n 1, 1, []), (.iload_n 2, 1, []), (.iload_n 3, 1, []), (.invokevirtual 289, 3, [600, 152, 5, 0, 2132, 2134, 78, 12]), (.lreturn, 1, [])]
def kt_37 : List (Nat × List ab_Row) := [(0, kb_37_0), (22, kb_37_22), (26, kb_37_26), (27, kb_37_27), (52, kb_37_52), (56, kb_37_56), (57, kb_37_57), (65, kb_37_65), (67, kb_37_67)]
def km_37 : ab_Mi := ((⟨"SorryPursesModel", "pays", "(III)J"⟩ : MethodName), prog_14_method_79_code, 4, (Option.some FieldType.long), [], [])
-- 38: SorryPursesLaw.cover (LSorryPurses;II[J)I
def kb_38_0 : List ab_Row := [(.aload_n 3, 1, []), (.iconst 0, 1, []), (.aload_n 0, 1, []), (.iload_n 1, 1, []), (.iload_n 2, 1, []), (.invokevirtual 56, 3, [600, 153, 3, 0, 1519, 1520, 1521, 11]), (.i2l, 1, []), (.lastore, 1, []), (.goto 11, 3, [21])]
def kb_38_13 : List ab_Row := [(.astore 4, 2, []), (.iconst 1, 1, []), (.ireturn, 1, [])]
def kb_38_17 : List ab_Row := [(.astore 4, 2, []), (.iconst 2, 1, []), (.ireturn, 1, [])]
def kb_38_21 : List ab_Row := [(.iconst 0, 1, []), (.ireturn, 1, [])]
def kt_38 : List (Nat × List ab_Row) := [(0, kb_38_0), (13, kb_38_13), (17, kb_38_17), (21, kb_38_21)]
def km_38 : ab_Mi := ((⟨"SorryPursesLaw", "cover", "(LSorryPurses;II[J)I"⟩ : MethodName), method_16_code, 5, (Option.some FieldType.int), [(0, 10, 13, 31), (0, 10, 17, 13)], [(0, 10, 13, 0), (0, 10, 17, 1)])
-- 39: SorryPursesModel.cover (II)I
def kb_39_0 : List ab_Row := [(.aload_n 0, 1, []), (.iconst 0, 1, []), (.putfield 101, 3, [12, 0, 1832, 0]), (.aload_n 0, 1, []), (.aload_n 0, 1, []), (.iload_n 1, 1, []), (.invokevirtual 331, 3, [600, 137, 2, 0, 2208, 2210, 85, 12]), (.ifCond .ne 7, 3, [18]), (.iconst 1, 1, []), (.goto 4, 3, [19])]
def kb_39_18 : List ab_Row := [(.iconst 0, 1, [])]
def kb_39_19 : List ab_Row := [(.iconst 1, 1, []), (.iconst 0, 1, []), (.invokevirtual 180, 3, [600, 113, 4, 0, 1983, 1985, 50, 12]), (.ifCond .ne 28, 3, [52]), (.aload_n 0, 1, []), (.iload_n 2, 1, []), (.iconst 0, 1, []), (.sipush 9999, 3, []), (.invokestatic 135, 3, [600, 112, 3, 1, 1980, 1981, 0, 0]), (.ifCond .ne 7, 3, [43]), (.iconst 1, 1, []), (.goto 4, 3, [44])]
def kb_39_43 : List ab_Row := [(.iconst 0, 1, [])]
def kb_39_44 : List ab_Row := [(.iconst 2, 1, []), (.iconst 1, 1, []), (.invokevirtual 180, 3, [600, 113, 4, 0, 1983, 1985, 50, 12]), (.ifCond .eq 5, 3, [54])]
def kb_39_52 : List ab_Row := [(.iconst 0, 1, []), (.ireturn, 1, [])]
def kb_39_54 : List ab_Row := [(.aload_n 0, 1, []), (.iload_n 1, 1, []), (.invokevirtual 351, 3, [600, 154, 2, 0, 2258, 2260, 88, 12]), (.iload_n 2, 1, []), (.istore_n 3, 1, [])]
def kb_39_61 : List ab_Row := [(.iload_n 3, 1, []), (.aload_n 0, 1, []), (.getfield 73, 3, [12, 35, 1867]), (.arraylength, 1, []), (.if_icmp .ge 20, 3, [87]), (.aload_n 0, 1, []), (.getfield 73, 3, [12, 35, 1867]), (.iload_n 3, 1, []), (.baload, 1, []), (.ifCond .eq 5, 3, [81]), (.iload_n 3, 1, []), (.ireturn, 1, [])]
def kb_39_81 : List ab_Row := [(.iinc 3 1, 3, []), (.goto (-23), 3, [61])]
def kb_39_87 : List ab_Row := [(.iconst (-1), 1, []), (.ireturn, 1, [])]
def kt_39 : List (Nat × List ab_Row) := [(0, kb_39_0), (18, kb_39_18), (19, kb_39_19), (43, kb_39_43), (44, kb_39_44), (52, kb_39_52), (54, kb_39_54), (61, kb_39_61), (81, kb_39_81), (87, kb_39_87)]
def km_39 : ab_Mi := ((⟨"SorryPursesModel", "cover", "(II)I"⟩ : MethodName), prog_14_method_82_code, 4, (Option.some FieldType.int), [], [])
-- 40: SorryPursesLaw.ways (LSorryPurses;I[J)I
def kb_40_0 : List ab_Row := [(.aload_n 2, 1, []), (.iconst 0, 1, []), (.aload_n 0, 1, []), (.iload_n 1, 1, []), (.invokevirtual 59, 3, [600, 155, 2, 0, 1546, 1547, 1548, 11]), (.i2l, 1, []), (.lastore, 1, []), (.goto 6, 3, [15])]
def kb_40_12 : List ab_Row := [(.astore_n 3, 1, []), (.iconst 1, 1, []), (.ireturn, 1, [])]
def kb_40_15 : List ab_Row := [(.iconst 0, 1, []), (.ireturn, 1, [])]
def kt_40 : List (Nat × List ab_Row) := [(0, kb_40_0), (12, kb_40_12), (15, kb_40_15)]
def km_40 : ab_Mi := ((⟨"SorryPursesLaw", "ways", "(LSorryPurses;I[J)I"⟩ : MethodName), method_17_code, 4, (Option.some FieldType.int), [(0, 9, 12, 31)], [(0, 9, 12, 0)])
-- 41: SorryPursesModel.ways (I)I
def kb_41_0 : List ab_Row := [(.aload_n 0, 1, []), (.iconst 0, 1, []), (.putfield 101, 3, [12, 0, 1832, 0]), (.aload_n 0, 1, []), (.aload_n 0, 1, []), (.iload_n 1, 1, []), (.invokevirtual 331, 3, [600, 137, 2, 0, 2208, 2210, 85, 12]), (.ifCond .ne 7, 3, [18]), (.iconst 1, 1, []), (.goto 4, 3, [19])]
def kb_41_18 : List ab_Row := [(.iconst 0, 1, [])]
def kb_41_19 : List ab_Row := [(.iconst 1, 1, []), (.iconst 0, 1, []), (.invokevirtual 180, 3, [600, 113, 4, 0, 1983, 1985, 50, 12]), (.ifCond .eq 5, 3, [29]), (.iconst 0, 1, []), (.ireturn, 1, [])]
def kb_41_29 : List ab_Row := [(.aload_n 0, 1, []), (.iload_n 1, 1, []), (.invokevirtual 351, 3, [600, 154, 2, 0, 2258, 2260, 88, 12]), (.iconst 0, 1, []), (.istore_n 2, 1, []), (.iconst 1, 1, []), (.istore_n 3, 1, [])]
def kb_41_38 : List ab_Row := [(.iload_n 3, 1, []), (.sipush 9999, 3, []), (.if_icmp .gt 26, 3, [68]), (.iload_n 2, 1, []), (.aload_n 0, 1, []), (.getfield 73, 3, [12, 35, 1867]), (.iload_n 3, 1, []), (.baload, 1, []), (.ifCond .eq 7, 3, [59]), (.iconst 1, 1, []), (.goto 4, 3, [60])]
def kb_41_59 : List ab_Row := [(.iconst 0, 1, [])]
def kb_41_60 : List ab_Row := [(.iadd, 1, []), (.istore_n 2, 1, []), (.iinc 3 1, 3, []), (.goto (-27), 3, [38])]
def kb_41_68 : List ab_Row := [(.iload_n 2, 1, []), (.ireturn, 1, [])]
def kt_41 : List (Nat × List ab_Row) := [(0, kb_41_0), (18, kb_41_18), (19, kb_41_19), (29, kb_41_29), (38, kb_41_38), (59, kb_41_59), (60, kb_41_60), (68, kb_41_68)]
def km_41 : ab_Mi := ((⟨"SorryPursesModel", "ways", "(I)I"⟩ : MethodName), prog_14_method_83_code, 4, (Option.some FieldType.int), [], [])
-- 42: SorryPursesLaw.even (LSorryPurses;I[J)I
def kb_42_0 : List ab_Row := [(.aload_n 2, 1, []), (.iconst 0, 1, []), (.aload_n 0, 1, []), (.iload_n 1, 1, []), (.invokevirtual 62, 3, [600, 156, 2, 0, 1557, 1558, 1559, 11]), (.i2l, 1, []), (.lastore, 1, []), (.goto 6, 3, [15])]
def kb_42_12 : List ab_Row := [(.astore_n 3, 1, []), (.iconst 1, 1, []), (.ireturn, 1, [])]
def kb_42_15 : List ab_Row := [(.iconst 0, 1, []), (.ireturn, 1, [])]
def kt_42 : List (Nat × List ab_Row) := [(0, kb_42_0), (12, kb_42_12), (15, kb_42_15)]
def km_42 : ab_Mi := ((⟨"SorryPursesLaw", "even", "(LSorryPurses;I[J)I"⟩ : MethodName), method_18_code, 4, (Option.some FieldType.int), [(0, 9, 12, 13)], [(0, 9, 12, 1)])
-- 43: SorryPursesModel.even (I)I
def kb_43_0 : List ab_Row := [(.aload_n 0, 1, []), (.iconst 0, 1, []), (.putfield 101, 3, [12, 0, 1832, 0]), (.aload_n 0, 1, []), (.iload_n 1, 1, []), (.iconst 0, 1, []), (.iconst 1, 1, []), (.invokestatic 135, 3, [600, 112, 3, 1, 1980, 1981, 0, 0]), (.ifCond .ne 7, 3, [19]), (.iconst 1, 1, []), (.goto 4, 3, [20])]
def kb_43_19 : List ab_Row := [(.iconst 0, 1, [])]
def kb_43_20 : List ab_Row := [(.iconst 1, 1, []), (.iconst 1, 1, []), (.invokevirtual 180, 3, [600, 113, 4, 0, 1983, 1985, 50, 12]), (.ifCond .eq 5, 3, [30]), (.iconst 0, 1, []), (.ireturn, 1, [])]
def kb_43_30 : List ab_Row := [(.aload_n 0, 1, []), (.invokevirtual 357, 3, [600, 157, 1, 0, 2274, 2276, 89, 12]), (.iload_n 1, 1, []), (.iconst 1, 1, []), (.if_icmp .ne 15, 3, [51]), (.aload_n 0, 1, []), (.getfield 80, 3, [12, 37, 1869]), (.aload_n 0, 1, []), (.getfield 354, 3, [12, 38, 1870]), (.iaload, 1, []), (.goto 20, 3, [68])]
def kb_43_51 : List ab_Row := [(.aload_n 0, 1, []), (.getfield 354, 3, [12, 38, 1870]), (.invokestatic 360, 3, [600, 158, 1, 1, 2278, 2279, 0, 0]), (.aload_n 0, 1, []), (.getfield 80, 3, [12, 37, 1869]), (.aload_n 0, 1, []), (.getfield 354, 3, [12, 38, 1870]), (.iaload, 1, []), (.isub, 1, [])]
def kb_43_68 : List ab_Row := [(.ireturn, 1, [])]
def kt_43 : List (Nat × List ab_Row) := [(0, kb_43_0), (19, kb_43_19), (20, kb_43_20), (30, kb_43_30), (51, kb_43_51), (68, kb_43_68)]
def km_43 : ab_Mi := ((⟨"SorryPursesModel", "even", "(I)I"⟩ : MethodName), prog_14_method_87_code, 2, (Option.some FieldType.int), [], [])
-- 44: SorryPurses.group (I)I
def kb_44_0 : List ab_Row := [(.aload_n 0, 1, []), (.getfield 85, 3, [11, 11, 505]), (.invokevirtual 267, 3, [600, 159, 1, 0, 627, 628, 629, 1]), (.aload_n 0, 1, []), (.getfield 85, 3, [11, 11, 505]), (.iload_n 1, 1, []), (.invokevirtual 275, 3, [600, 160, 2, 0, 656, 657, 658, 1]), (.ireturn, 1, [])]
def kt_44 : List (Nat × List ab_Row) := [(0, kb_44_0)]
def km_44 : ab_Mi := ((⟨"SorryPurses", "group", "(I)I"⟩ : MethodName), prog_1_method_22_code, 2, (Option.some FieldType.int), [], [])
-- 45: SorryPursesModel.group (I)I
def kb_45_0 : List ab_Row := [(.aload_n 0, 1, []), (.iconst 0, 1, []), (.putfield 101, 3, [12, 0, 1832, 0]), (.aload_n 0, 1, []), (.invokevirtual 357, 3, [600, 157, 1, 0, 2274, 2276, 89, 12]), (.aload_n 0, 1, []), (.getfield 354, 3, [12, 38, 1870]), (.istore_n 2, 1, []), (.iload_n 1, 1, []), (.ifCond .ge 5, 3, [20]), (.iconst (-1), 1, []), (.ireturn, 1, [])]
def kb_45_20 : List ab_Row := [(.iconst 0, 1, []), (.istore_n 3, 1, [])]
def kb_45_22 : List ab_Row := [(.iload_n 2, 1, []), (.ifCond .eq 102, 3, [125]), (.iconst 0, 1, []), (.istore 4, 2, []), (.iconst 1, 1, []), (.istore 5, 2, [])]
def kb_45_32 : List ab_Row := [(.iload 5, 2, []), (.iload_n 2, 1, []), (.if_icmp .gt 69, 3, [104]), (.iload 4, 2, []), (.ifCond .ne 64, 3, [104]), (.iload 5, 2, []), (.iload_n 2, 1, []), (.iconst (-1), 1, []), (.ixor, 1, []), (.iand, 1, []), (.ifCond .ne 49, 3, [98]), (.iload 5, 2, []), (.iload_n 2, 1, []), (.iand, 1, []), (.iload_n 2, 1, []), (.ineg, 1, []), (.iand, 1, []), (.ifCond .eq 39, 3, [98]), (.aload_n 0, 1, []), (.getfield 77, 3, [12, 36, 1868]), (.iload 5, 2, []), (.iaload, 1, []), (.ifCond .ne 29, 3, [98]), (.aload_n 0, 1, []), (.getfield 80, 3, [12, 37, 1869]), (.iload_n 2, 1, []), (.iload 5, 2, []), (.iconst (-1), 1, []), (.ixor, 1, []), (.iand, 1, []), (.iaload, 1, []), (.aload_n 0, 1, []), (.getfield 80, 3, [12, 37, 1869]), (.iload_n 2, 1, []), (.iaload, 1, []), (.iconst 1, 1, []), (.isub, 1, []), (.if_icmp .ne 7, 3, [98]), (.iload 5, 2, []), (.istore 4, 2, [])]
def kb_45_98 : List ab_Row := [(.iinc 5 1, 3, []), (.goto (-69), 3, [32])]
def kb_45_104 : List ab_Row := [(.iload_n 3, 1, []), (.iload_n 1, 1, []), (.if_icmp .ne 6, 3, [112]), (.iload 4, 2, []), (.ireturn, 1, [])]
def kb_45_112 : List ab_Row := [(.iload_n 2, 1, []), (.iload 4, 2, []), (.iconst (-1), 1, []), (.ixor, 1, []), (.iand, 1, []), (.istore_n 2, 1, []), (.iinc 3 1, 3, []), (.goto (-100), 3, [22])]
def kb_45_125 : List ab_Row := [(.iconst (-1), 1, []), (.ireturn, 1, [])]
def kt_45 : List (Nat × List ab_Row) := [(0, kb_45_0), (20, kb_45_20), (22, kb_45_22), (32, kb_45_32), (98, kb_45_98), (104, kb_45_104), (112, kb_45_112), (125, kb_45_125)]
def km_45 : ab_Mi := ((⟨"SorryPursesModel", "group", "(I)I"⟩ : MethodName), prog_14_method_88_code, 6, (Option.some FieldType.int), [], [])
-- 46: SorryPurses.oneDay ()I
def kb_46_0 : List ab_Row := [(.aload_n 0, 1, []), (.getfield 85, 3, [11, 11, 505]), (.invokevirtual 278, 3, [600, 161, 1, 0, 664, 665, 666, 1]), (.aload_n 0, 1, []), (.getfield 85, 3, [11, 11, 505]), (.invokevirtual 281, 3, [600, 162, 1, 0, 1004, 1005, 1006, 1]), (.ireturn, 1, [])]
def kt_46 : List (Nat × List ab_Row) := [(0, kb_46_0)]
def km_46 : ab_Mi := ((⟨"SorryPurses", "oneDay", "()I"⟩ : MethodName), prog_1_method_23_code, 1, (Option.some FieldType.int), [], [])
-- 47: SorryPursesModel.oneDay ()I
def kb_47_0 : List ab_Row := [(.aload_n 0, 1, []), (.iconst 0, 1, []), (.putfield 101, 3, [12, 0, 1832, 0]), (.aload_n 0, 1, []), (.invokevirtual 366, 3, [600, 163, 1, 0, 2293, 2295, 90, 12]), (.aload_n 0, 1, []), (.getfield 83, 3, [12, 39, 1871]), (.iconst 0, 1, []), (.aaload, 1, []), (.iconst 0, 1, []), (.iaload, 1, []), (.ireturn, 1, [])]
def kt_47 : List (Nat × List ab_Row) := [(0, kb_47_0)]
def km_47 : ab_Mi := ((⟨"SorryPursesModel", "oneDay", "()I"⟩ : MethodName), prog_14_method_92_code, 1, (Option.some FieldType.int), [], [])
-- 48: SorryPursesLaw.says (LSorryPurses;I[J)I
def kb_48_0 : List ab_Row := [(.aload_n 2, 1, []), (.iconst 0, 1, []), (.aload_n 0, 1, []), (.iload_n 1, 1, []), (.invokevirtual 65, 3, [600, 164, 2, 0, 1574, 1575, 1576, 11]), (.i2l, 1, []), (.lastore, 1, []), (.goto 6, 3, [15])]
def kb_48_12 : List ab_Row := [(.astore_n 3, 1, []), (.iconst 1, 1, []), (.ireturn, 1, [])]
def kb_48_15 : List ab_Row := [(.iconst 0, 1, []), (.ireturn, 1, [])]
def kt_48 : List (Nat × List ab_Row) := [(0, kb_48_0), (12, kb_48_12), (15, kb_48_15)]
def km_48 : ab_Mi := ((⟨"SorryPursesLaw", "says", "(LSorryPurses;I[J)I"⟩ : MethodName), method_19_code, 4, (Option.some FieldType.int), [(0, 9, 12, 31)], [(0, 9, 12, 0)])
-- 49: SorryPursesModel.says (I)I
def kb_49_0 : List ab_Row := [(.aload_n 0, 1, []), (.iconst 0, 1, []), (.putfield 101, 3, [12, 0, 1832, 0]), (.aload_n 0, 1, []), (.aload_n 0, 1, []), (.iload_n 1, 1, []), (.invokevirtual 331, 3, [600, 137, 2, 0, 2208, 2210, 85, 12]), (.ifCond .ne 7, 3, [18]), (.iconst 1, 1, []), (.goto 4, 3, [19])]
def kb_49_18 : List ab_Row := [(.iconst 0, 1, [])]
def kb_49_19 : List ab_Row := [(.iconst 1, 1, []), (.iconst 0, 1, []), (.invokevirtual 180, 3, [600, 113, 4, 0, 1983, 1985, 50, 12]), (.ifCond .eq 5, 3, [29]), (.iconst 0, 1, []), (.ireturn, 1, [])]
def kb_49_29 : List ab_Row := [(.aload_n 0, 1, []), (.invokevirtual 366, 3, [600, 163, 1, 0, 2293, 2295, 90, 12]), (.iconst 0, 1, []), (.istore_n 2, 1, []), (.iconst (-1), 1, []), (.istore_n 3, 1, []), (.iconst 0, 1, []), (.istore 4, 2, [])]
def kb_49_40 : List ab_Row := [(.iload 4, 2, []), (.iload_n 1, 1, []), (.if_icmp .gt 135, 3, [178]), (.iconst (-1), 1, []), (.istore_n 3, 1, []), (.aload_n 0, 1, []), (.getfield 83, 3, [12, 39, 1871]), (.iload 4, 2, []), (.iconst 1, 1, []), (.iadd, 1, []), (.aaload, 1, []), (.iload_n 2, 1, []), (.iaload, 1, []), (.aload_n 0, 1, []), (.getfield 83, 3, [12, 39, 1871]), (.iload 4, 2, []), (.aaload, 1, []), (.iload_n 2, 1, []), (.iaload, 1, []), (.if_icmp .ne 6, 3, [74]), (.goto 101, 3, [172])]
def kb_49_74 : List ab_Row := [(.iconst 0, 1, []), (.istore 5, 2, [])]
def kb_49_77 : List ab_Row := [(.iload_n 2, 1, []), (.iload 5, 2, []), (.ishr, 1, []), (.iconst 1, 1, []), (.iand, 1, []), (.iconst 1, 1, []), (.if_icmp .eq 64, 3, [148]), (.aload_n 0, 1, []), (.getfield 86, 3, [12, 40, 1872]), (.iload 4, 2, []), (.aaload, 1, []), (.iload 5, 2, []), (.iaload, 1, []), (.iconst (-1), 1, []), (.if_icmp .eq 50, 3, [148]), (.aload_n 0, 1, []), (.getfield 58, 3, [12, 25, 1857]), (.aload_n 0, 1, []), (.getfield 86, 3, [12, 40, 1872]), (.iload 4, 2, []), (.aaload, 1, []), (.iload 5, 2, []), (.iaload, 1, []), (.iconst 2, 1, []), (.invokestatic 254, 3, [600, 135, 3, 1, 2142, 2143, 0, 0]), (.aload_n 0, 1, []), (.getfield 83, 3, [12, 39, 1871]), (.iload 4, 2, []), (.iconst 1, 1, []), (.iadd, 1, []), (.aaload, 1, []), (.iload_n 2, 1, []), (.iconst 1, 1, []), (.iload 5, 2, []), (.ishl, 1, []), (.ior, 1, []), (.iaload, 1, []), (.iadd, 1, []), (.aload_n 0, 1, []), (.getfield 83, 3, [12, 39, 1871]), (.iload 4, 2, []), (.aaload, 1, []), (.iload_n 2, 1, []), (.iaload, 1, []), (.if_icmp .eq 9, 3, [154])]
def kb_49_148 : List ab_Row := [(.iinc 5 1, 3, []), (.goto (-74), 3, [77])]
def kb_49_154 : List ab_Row := [(.aload_n 0, 1, []), (.getfield 86, 3, [12, 40, 1872]), (.iload 4, 2, []), (.aaload, 1, []), (.iload 5, 2, []), (.iaload, 1, []), (.istore_n 3, 1, []), (.iload_n 2, 1, []), (.iconst 1, 1, []), (.iload 5, 2, []), (.ishl, 1, []), (.ior, 1, []), (.istore_n 2, 1, [])]
def kb_49_172 : List ab_Row := [(.iinc 4 1, 3, []), (.goto (-135), 3, [40])]
def kb_49_178 : List ab_Row := [(.iload_n 3, 1, []), (.ireturn, 1, [])]
def kt_49 : List (Nat × List ab_Row) := [(0, kb_49_0), (18, kb_49_18), (19, kb_49_19), (29, kb_49_29), (40, kb_49_40), (74, kb_49_74), (77, kb_49_77), (148, kb_49_148), (154, kb_49_154), (172, kb_49_172), (178, kb_49_178)]
def km_49 : ab_Mi := ((⟨"SorryPursesModel", "says", "(I)I"⟩ : MethodName), prog_14_method_93_code, 6, (Option.some FieldType.int), [], [])
-- 50: SorryPursesLaw.lies (LSorryPurses;I[J)I
def kb_50_0 : List ab_Row := [(.aload_n 2, 1, []), (.iconst 0, 1, []), (.aload_n 0, 1, []), (.iload_n 1, 1, []), (.invokevirtual 68, 3, [600, 165, 2, 0, 1586, 1587, 1588, 11]), (.lastore, 1, []), (.goto 9, 3, [17])]
def kb_50_11 : List ab_Row := [(.astore_n 3, 1, []), (.iconst 1, 1, []), (.ireturn, 1, [])]
def kb_50_14 : List ab_Row := [(.astore_n 3, 1, []), (.iconst 2, 1, []), (.ireturn, 1, [])]
def kb_50_17 : List ab_Row := [(.iconst 0, 1, []), (.ireturn, 1, [])]
def kt_50 : List (Nat × List ab_Row) := [(0, kb_50_0), (11, kb_50_11), (14, kb_50_14), (17, kb_50_17)]
def km_50 : ab_Mi := ((⟨"SorryPursesLaw", "lies", "(LSorryPurses;I[J)I"⟩ : MethodName), method_20_code, 4, (Option.some FieldType.int), [(0, 8, 11, 13), (0, 8, 14, 72)], [(0, 8, 11, 1), (0, 8, 14, 2)])
-- 51: SorryPursesModel.lies (I)J
def kb_51_0 : List ab_Row := [(.aload_n 0, 1, []), (.iconst 0, 1, []), (.putfield 101, 3, [12, 0, 1832, 0]), (.aload_n 0, 1, []), (.iload_n 1, 1, []), (.iconst 0, 1, []), (.iconst 1, 1, []), (.invokestatic 135, 3, [600, 112, 3, 1, 1980, 1981, 0, 0]), (.ifCond .ne 7, 3, [19]), (.iconst 1, 1, []), (.goto 4, 3, [20])]
def kb_51_19 : List ab_Row := [(.iconst 0, 1, [])]
def kb_51_20 : List ab_Row := [(.iconst 1, 1, []), (.iconst 1, 1, []), (.invokevirtual 180, 3, [600, 113, 4, 0, 1983, 1985, 50, 12]), (.ifCond .ne 30, 3, [55]), (.aload_n 0, 1, []), (.aload_n 0, 1, []), (.aload_n 0, 1, []), (.getfield 58, 3, [12, 25, 1857]), (.invokevirtual 324, 3, [600, 132, 2, 0, 2192, 2194, 83, 12]), (.bipush 16, 2, []), (.if_icmp .le 7, 3, [46]), (.iconst 1, 1, []), (.goto 4, 3, [47])]
def kb_51_46 : List ab_Row := [(.iconst 0, 1, [])]
def kb_51_47 : List ab_Row := [(.iconst 2, 1, []), (.iconst 2, 1, []), (.invokevirtual 180, 3, [600, 113, 4, 0, 1983, 1985, 50, 12]), (.ifCond .eq 5, 3, [57])]
def kb_51_55 : List ab_Row := [(.lconst 0, 1, []), (.lreturn, 1, [])]
def kb_51_57 : List ab_Row := [(.iconst 0, 1, []), (.istore_n 2, 1, []), (.iconst (-1), 1, []), (.istore_n 3, 1, []), (.iconst 0, 1, []), (.istore 4, 2, [])]
def kb_51_64 : List ab_Row := [(.iload 4, 2, []), (.aload_n 0, 1, []), (.getfield 58, 3, [12, 25, 1857]), (.sipush 360, 3, []), (.iaload, 1, []), (.if_icmp .ge 35, 3, [109]), (.aload_n 0, 1, []), (.getfield 58, 3, [12, 25, 1857]), (.iload 4, 2, []), (.invokestatic 258, 3, [600, 144, 2, 1, 2139, 2140, 0, 0]), (.ifCond .ne 6, 3, [92]), (.goto 14, 3, [103])]
def kb_51_92 : List ab_Row := [(.aload_n 0, 1, []), (.getfield 89, 3, [12, 41, 1873]), (.iload_n 2, 1, []), (.iload 4, 2, []), (.iastore, 1, []), (.iinc 2 1, 3, [])]
def kb_51_103 : List ab_Row := [(.iinc 4 1, 3, []), (.goto (-42), 3, [64])]
def kb_51_109 : List ab_Row := [(.iconst 0, 1, []), (.istore 4, 2, [])]
def kb_51_112 : List ab_Row := [(.iload 4, 2, []), (.iconst 1, 1, []), (.iload_n 2, 1, []), (.ishl, 1, []), (.if_icmp .ge 39, 3, [156]), (.iload_n 3, 1, []), (.iconst (-1), 1, []), (.if_icmp .eq 15, 3, [137]), (.iload 4, 2, []), (.invokestatic 360, 3, [600, 158, 1, 1, 2278, 2279, 0, 0]), (.iload_n 3, 1, []), (.invokestatic 360, 3, [600, 158, 1, 1, 2278, 2279, 0, 0]), (.if_icmp .ge 16, 3, [150])]
def kb_51_137 : List ab_Row := [(.aload_n 0, 1, []), (.iload 4, 2, []), (.iload_n 2, 1, []), (.invokevirtual 369, 3, [600, 166, 3, 0, 2309, 2311, 92, 12]), (.ifCond .eq 6, 3, [150]), (.iload 4, 2, []), (.istore_n 3, 1, [])]
def kb_51_150 : List ab_Row := [(.iinc 4 1, 3, []), (.goto (-41), 3, [112])]
def kb_51_156 : List ab_Row := [(.iload_n 3, 1, []), (.iconst (-1), 1, []), (.if_icmp .ne 7, 3, [165]), (.ldc2_w 150, 3, [1, 1, 2016]), (.lreturn, 1, [])]
def kb_51_165 : List ab_Row := [(.lconst 0, 1, []), (.lstore 4, 2, []), (.iconst 0, 1, []), (.istore 6, 2, [])]
def kb_51_171 : List ab_Row := [(.iload 6, 2, []), (.iload_n 2, 1, []), (.if_icmp .ge 37, 3, [211]), (.lload 4, 2, []), (.iload_n 3, 1, []), (.iload 6, 2, []), (.ishr, 1, []), (.iconst 1, 1, []), (.iand, 1, []), (.iconst 1, 1, []), (.if_icmp .ne 15, 3, [201]), (.lconst 1, 1, []), (.aload_n 0, 1, []), (.getfield 89, 3, [12, 41, 1873]), (.iload 6, 2, []), (.iaload, 1, []), (.lshl, 1, []), (.goto 4, 3, [202])]
def kb_51_201 : List ab_Row := [(.lconst 0, 1, [])]
def kb_51_202 : List ab_Row := [(.lor, 1, []), (.lstore 4, 2, []), (.iinc 6 1, 3, []), (.goto (-37), 3, [171])]
def kb_51_211 : List ab_Row := [(.iload_n 1, 1, []), (.ifCond .ne 11, 3, [223]), (.iload_n 3, 1, []), (.invokestatic 360, 3, [600, 158, 1, 1, 2278, 2279, 0, 0]), (.i2l, 1, []), (.goto 5, 3, [225])]
def kb_51_223 : List ab_Row := [(.lload 4, 2, [])]
def kb_51_225 : List ab_Row := [(.lreturn, 1, [])]
def kt_51 : List (Nat × List ab_Row) := [(0, kb_51_0), (19, kb_51_19), (20, kb_51_20), (46, kb_51_46), (47, kb_51_47), (55, kb_51_55), (57, kb_51_57), (64, kb_51_64), (92, kb_51_92), (103, kb_51_103), (109, kb_51_109), (112, kb_51_112), (137, kb_51_137), (150, kb_51_150), (156, kb_51_156), (165, kb_51_165), (171, kb_51_171), (201, kb_51_201), (202, kb_51_202), (211, kb_51_211), (223, kb_51_223), (225, kb_51_225)]
def km_51 : ab_Mi := ((⟨"SorryPursesModel", "lies", "(I)J"⟩ : MethodName), prog_14_method_95_code, 7, (Option.some FieldType.long), [], [])
-- 52: SorryPurses.right ()I
def kb_52_0 : List ab_Row := [(.aload_n 0, 1, []), (.getfield 39, 3, [11, 5, 499]), (.aload_n 0, 1, []), (.getfield 49, 3, [11, 7, 501]), (.invokevirtual 305, 3, [600, 167, 2, 0, 1012, 1013, 1014, 0]), (.ireturn, 1, [])]
def kt_52 : List (Nat × List ab_Row) := [(0, kb_52_0)]
def km_52 : ab_Mi := ((⟨"SorryPurses", "right", "()I"⟩ : MethodName), prog_1_method_26_code, 1, (Option.some FieldType.int), [], [])
-- 53: SorryPursesModel.right ()I
def kb_53_0 : List ab_Row := [(.aload_n 0, 1, []), (.iconst 0, 1, []), (.putfield 101, 3, [12, 0, 1832, 0]), (.iconst 0, 1, []), (.istore_n 1, 1, [])]
def kb_53_7 : List ab_Row := [(.iload_n 1, 1, []), (.aload_n 0, 1, []), (.getfield 201, 3, [12, 29, 1861]), (.if_icmp .ge 36, 3, [48]), (.aload_n 0, 1, []), (.getfield 58, 3, [12, 25, 1857]), (.aload_n 0, 1, []), (.getfield 43, 3, [12, 20, 1852]), (.iload_n 1, 1, []), (.aaload, 1, []), (.iconst 0, 1, []), (.iaload, 1, []), (.iconst 1, 1, []), (.invokestatic 338, 3, [600, 140, 3, 1, 2219, 2220, 0, 0]), (.aload_n 0, 1, []), (.getfield 43, 3, [12, 20, 1852]), (.iload_n 1, 1, []), (.aaload, 1, []), (.iconst 1, 1, []), (.iaload, 1, []), (.if_icmp .ne 9, 3, [48]), (.iinc 1 1, 3, []), (.goto (-38), 3, [7])]
def kb_53_48 : List ab_Row := [(.iload_n 1, 1, []), (.ireturn, 1, [])]
def kt_53 : List (Nat × List ab_Row) := [(0, kb_53_0), (7, kb_53_7), (48, kb_53_48)]
def km_53 : ab_Mi := ((⟨"SorryPursesModel", "right", "()I"⟩ : MethodName), prog_14_method_96_code, 2, (Option.some FieldType.int), [], [])
-- 54: SorryPursesLaw.errors (LSorryPurses;II[J)I
def kb_54_0 : List ab_Row := [(.aload_n 3, 1, []), (.iconst 0, 1, []), (.aload_n 0, 1, []), (.iload_n 1, 1, []), (.iload_n 2, 1, []), (.invokevirtual 74, 3, [600, 168, 3, 0, 1650, 1651, 1652, 11]), (.i2l, 1, []), (.lastore, 1, []), (.goto 7, 3, [17])]
def kb_54_13 : List ab_Row := [(.astore 4, 2, []), (.iconst 1, 1, []), (.ireturn, 1, [])]
def kb_54_17 : List ab_Row := [(.iconst 0, 1, []), (.ireturn, 1, [])]
def kt_54 : List (Nat × List ab_Row) := [(0, kb_54_0), (13, kb_54_13), (17, kb_54_17)]
def km_54 : ab_Mi := ((⟨"SorryPursesLaw", "errors", "(LSorryPurses;II[J)I"⟩ : MethodName), method_21_code, 5, (Option.some FieldType.int), [(0, 10, 13, 13)], [(0, 10, 13, 1)])
-- 55: SorryPursesModel.errors (II)I
def kb_55_0 : List ab_Row := [(.aload_n 0, 1, []), (.iconst 0, 1, []), (.putfield 101, 3, [12, 0, 1832, 0]), (.aload_n 0, 1, []), (.iload_n 1, 1, []), (.iconst 0, 1, []), (.bipush 100, 2, []), (.invokestatic 135, 3, [600, 112, 3, 1, 1980, 1981, 0, 0]), (.ifCond .eq 12, 3, [25]), (.iload_n 2, 1, []), (.iconst 0, 1, []), (.iconst 1, 1, []), (.invokestatic 135, 3, [600, 112, 3, 1, 1980, 1981, 0, 0]), (.ifCond .ne 7, 3, [29])]
def kb_55_25 : List ab_Row := [(.iconst 1, 1, []), (.goto 4, 3, [30])]
def kb_55_29 : List ab_Row := [(.iconst 0, 1, [])]
def kb_55_30 : List ab_Row := [(.iconst 1, 1, []), (.iconst 1, 1, []), (.invokevirtual 180, 3, [600, 113, 4, 0, 1983, 1985, 50, 12]), (.ifCond .eq 5, 3, [40]), (.iconst 0, 1, []), (.ireturn, 1, [])]
def kb_55_40 : List ab_Row := [(.aload_n 0, 1, []), (.iload_n 1, 1, []), (.iload_n 2, 1, []), (.invokevirtual 373, 3, [600, 169, 3, 0, 2321, 2323, 93, 12]), (.ireturn, 1, [])]
def kt_55 : List (Nat × List ab_Row) := [(0, kb_55_0), (25, kb_55_25), (29, kb_55_29), (30, kb_55_30), (40, kb_55_40)]
def km_55 : ab_Mi := ((⟨"SorryPursesModel", "errors", "(II)I"⟩ : MethodName), prog_14_method_98_code, 3, (Option.some FieldType.int), [], [])
-- 56: SorryPurses.best ()I
def kb_56_0 : List ab_Row := [(.aload_n 0, 1, []), (.getfield 58, 3, [11, 8, 502]), (.invokevirtual 315, 3, [600, 170, 1, 0, 1021, 1022, 1023, 4]), (.ireturn, 1, [])]
def kt_56 : List (Nat × List ab_Row) := [(0, kb_56_0)]
def km_56 : ab_Mi := ((⟨"SorryPurses", "best", "()I"⟩ : MethodName), prog_1_method_28_code, 1, (Option.some FieldType.int), [], [])
-- 57: SorryPursesModel.best ()I
def kb_57_0 : List ab_Row := [(.aload_n 0, 1, []), (.iconst 0, 1, []), (.putfield 101, 3, [12, 0, 1832, 0]), (.iconst 0, 1, []), (.istore_n 1, 1, []), (.bipush 41, 2, []), (.istore_n 2, 1, []), (.iconst 0, 1, []), (.istore_n 3, 1, [])]
def kb_57_12 : List ab_Row := [(.iload_n 3, 1, []), (.bipush 100, 2, []), (.if_icmp .gt 38, 3, [53]), (.aload_n 0, 1, []), (.iload_n 3, 1, []), (.iconst 0, 1, []), (.invokevirtual 373, 3, [600, 169, 3, 0, 2321, 2323, 93, 12]), (.aload_n 0, 1, []), (.iload_n 3, 1, []), (.iconst 1, 1, []), (.invokevirtual 373, 3, [600, 169, 3, 0, 2321, 2323, 93, 12]), (.iadd, 1, []), (.istore 4, 2, []), (.iload 4, 2, []), (.iload_n 2, 1, []), (.if_icmp .lt 6, 3, [42]), (.goto 8, 3, [47])]
def kb_57_42 : List ab_Row := [(.iload_n 3, 1, []), (.istore_n 1, 1, []), (.iload 4, 2, []), (.istore_n 2, 1, [])]
def kb_57_47 : List ab_Row := [(.iinc 3 1, 3, []), (.goto (-38), 3, [12])]
def kb_57_53 : List ab_Row := [(.iload_n 1, 1, []), (.ireturn, 1, [])]
def kt_57 : List (Nat × List ab_Row) := [(0, kb_57_0), (12, kb_57_12), (42, kb_57_42), (47, kb_57_47), (53, kb_57_53)]
def km_57 : ab_Mi := ((⟨"SorryPursesModel", "best", "()I"⟩ : MethodName), prog_14_method_99_code, 5, (Option.some FieldType.int), [], [])
-- 58: SorryPursesLaw.bite (LSorryPurses;I[J)I
def kb_58_0 : List ab_Row := [(.aload_n 2, 1, []), (.iconst 0, 1, []), (.aload_n 0, 1, []), (.iload_n 1, 1, []), (.invokevirtual 77, 3, [600, 171, 2, 0, 1659, 1660, 1661, 11]), (.i2l, 1, []), (.lastore, 1, []), (.goto 6, 3, [15])]
def kb_58_12 : List ab_Row := [(.astore_n 3, 1, []), (.iconst 1, 1, []), (.ireturn, 1, [])]
def kb_58_15 : List ab_Row := [(.iconst 0, 1, []), (.ireturn, 1, [])]
def kt_58 : List (Nat × List ab_Row) := [(0, kb_58_0), (12, kb_58_12), (15, kb_58_15)]
def km_58 : ab_Mi := ((⟨"SorryPursesLaw", "bite", "(LSorryPurses;I[J)I"⟩ : MethodName), method_22_code, 4, (Option.some FieldType.int), [(0, 9, 12, 13)], [(0, 9, 12, 1)])
-- 59: SorryPursesModel.bite (I)I
def kb_59_0 : List ab_Row := [(.aload_n 0, 1, []), (.iconst 0, 1, []), (.putfield 101, 3, [12, 0, 1832, 0]), (.aload_n 0, 1, []), (.iload_n 1, 1, []), (.iconst 0, 1, []), (.bipush 100, 2, []), (.invokestatic 135, 3, [600, 112, 3, 1, 1980, 1981, 0, 0]), (.ifCond .ne 7, 3, [20]), (.iconst 1, 1, []), (.goto 4, 3, [21])]
def kb_59_20 : List ab_Row := [(.iconst 0, 1, [])]
def kb_59_21 : List ab_Row := [(.iconst 1, 1, []), (.iconst 1, 1, []), (.invokevirtual 180, 3, [600, 113, 4, 0, 1983, 1985, 50, 12]), (.ifCond .eq 5, 3, [31]), (.iconst 0, 1, []), (.ireturn, 1, [])]
def kb_59_31 : List ab_Row := [(.aload_n 0, 1, []), (.getfield 23, 3, [12, 12, 1844]), (.iconst 3, 1, []), (.iaload, 1, []), (.istore_n 2, 1, []), (.aload_n 0, 1, []), (.getfield 23, 3, [12, 12, 1844]), (.iconst 3, 1, []), (.iload_n 1, 1, []), (.iastore, 1, []), (.iload_n 2, 1, []), (.ireturn, 1, [])]
def kt_59 : List (Nat × List ab_Row) := [(0, kb_59_0), (20, kb_59_20), (21, kb_59_21), (31, kb_59_31)]
def km_59 : ab_Mi := ((⟨"SorryPursesModel", "bite", "(I)I"⟩ : MethodName), prog_14_method_100_code, 3, (Option.some FieldType.int), [], [])
-- 60: SorryPursesLaw.swell (LSorryPurses;I[J)I
def kb_60_0 : List ab_Row := [(.aload_n 2, 1, []), (.iconst 0, 1, []), (.aload_n 0, 1, []), (.iload_n 1, 1, []), (.invokevirtual 80, 3, [600, 172, 2, 0, 1666, 1667, 1668, 11]), (.i2l, 1, []), (.lastore, 1, []), (.goto 6, 3, [15])]
def kb_60_12 : List ab_Row := [(.astore_n 3, 1, []), (.iconst 1, 1, []), (.ireturn, 1, [])]
def kb_60_15 : List ab_Row := [(.iconst 0, 1, []), (.ireturn, 1, [])]
def kt_60 : List (Nat × List ab_Row) := [(0, kb_60_0), (12, kb_60_12), (15, kb_60_15)]
def km_60 : ab_Mi := ((⟨"SorryPursesLaw", "swell", "(LSorryPurses;I[J)I"⟩ : MethodName), method_23_code, 4, (Option.some FieldType.int), [(0, 9, 12, 13)], [(0, 9, 12, 1)])
-- 61: SorryPursesModel.swell (I)I
def kb_61_0 : List ab_Row := [(.aload_n 0, 1, []), (.iconst 0, 1, []), (.putfield 101, 3, [12, 0, 1832, 0]), (.aload_n 0, 1, []), (.iload_n 1, 1, []), (.iconst 0, 1, []), (.bipush 60, 2, []), (.invokestatic 135, 3, [600, 112, 3, 1, 1980, 1981, 0, 0]), (.ifCond .ne 7, 3, [20]), (.iconst 1, 1, []), (.goto 4, 3, [21])]
def kb_61_20 : List ab_Row := [(.iconst 0, 1, [])]
def kb_61_21 : List ab_Row := [(.iconst 1, 1, []), (.iconst 1, 1, []), (.invokevirtual 180, 3, [600, 113, 4, 0, 1983, 1985, 50, 12]), (.ifCond .eq 5, 3, [31]), (.iconst 0, 1, []), (.ireturn, 1, [])]
def kb_61_31 : List ab_Row := [(.aload_n 0, 1, []), (.iload_n 1, 1, []), (.invokevirtual 379, 3, [600, 173, 2, 0, 2337, 2339, 94, 12]), (.ireturn, 1, [])]
def kt_61 : List (Nat × List ab_Row) := [(0, kb_61_0), (20, kb_61_20), (21, kb_61_21), (31, kb_61_31)]
def km_61 : ab_Mi := ((⟨"SorryPursesModel", "swell", "(I)I"⟩ : MethodName), prog_14_method_103_code, 2, (Option.some FieldType.int), [], [])
-- 62: SorryPurses.burst (I)I
def kb_62_0 : List ab_Row := [(.aload_n 0, 1, []), (.getfield 49, 3, [11, 7, 501]), (.bipush 60, 2, []), (.aload_n 0, 1, []), (.getfield 19, 3, [11, 1, 495]), (.getfield 206, 3, [10, 7, 197]), (.invokevirtual 318, 3, [600, 174, 3, 0, 1037, 1038, 1039, 6]), (.iload_n 1, 1, []), (.if_icmp .ge 5, 3, [22]), (.iconst (-1), 1, []), (.ireturn, 1, [])]
def kb_62_22 : List ab_Row := [(.iconst 1, 1, []), (.istore_n 2, 1, []), (.bipush 60, 2, []), (.istore_n 3, 1, []), (.iconst 0, 1, []), (.istore 4, 2, [])]
def kb_62_30 : List ab_Row := [(.iload 4, 2, []), (.bipush 60, 2, []), (.if_icmp .ge 52, 3, [86]), (.iload_n 2, 1, []), (.iload_n 3, 1, []), (.if_icmp .ge 47, 3, [86]), (.iload_n 2, 1, []), (.iload_n 3, 1, []), (.iadd, 1, []), (.iconst 2, 1, []), (.idiv, 1, []), (.istore 5, 2, []), (.aload_n 0, 1, []), (.getfield 49, 3, [11, 7, 501]), (.iload 5, 2, []), (.aload_n 0, 1, []), (.getfield 19, 3, [11, 1, 495]), (.getfield 206, 3, [10, 7, 197]), (.invokevirtual 318, 3, [600, 174, 3, 0, 1037, 1038, 1039, 6]), (.iload_n 1, 1, []), (.if_icmp .lt 9, 3, [75]), (.iload 5, 2, []), (.istore_n 3, 1, []), (.goto 8, 3, [80])]
def kb_62_75 : List ab_Row := [(.iload 5, 2, []), (.iconst 1, 1, []), (.iadd, 1, []), (.istore_n 2, 1, [])]
def kb_62_80 : List ab_Row := [(.iinc 4 1, 3, []), (.goto (-53), 3, [30])]
def kb_62_86 : List ab_Row := [(.iload_n 2, 1, []), (.ireturn, 1, [])]
def kt_62 : List (Nat × List ab_Row) := [(0, kb_62_0), (22, kb_62_22), (30, kb_62_30), (75, kb_62_75), (80, kb_62_80), (86, kb_62_86)]
def km_62 : ab_Mi := ((⟨"SorryPurses", "burst", "(I)I"⟩ : MethodName), prog_1_method_31_code, 6, (Option.some FieldType.int), [], [])
-- 63: SorryPursesModel.burst (I)I
def kb_63_0 : List ab_Row := [(.aload_n 0, 1, []), (.iconst 0, 1, []), (.putfield 101, 3, [12, 0, 1832, 0]), (.iconst 1, 1, []), (.istore_n 2, 1, [])]
def kb_63_7 : List ab_Row := [(.iload_n 2, 1, []), (.bipush 60, 2, []), (.if_icmp .gt 20, 3, [30]), (.aload_n 0, 1, []), (.iload_n 2, 1, []), (.invokevirtual 379, 3, [600, 173, 2, 0, 2337, 2339, 94, 12]), (.iload_n 1, 1, []), (.if_icmp .lt 5, 3, [24]), (.iload_n 2, 1, []), (.ireturn, 1, [])]
def kb_63_24 : List ab_Row := [(.iinc 2 1, 3, []), (.goto (-20), 3, [7])]
def kb_63_30 : List ab_Row := [(.iconst (-1), 1, []), (.ireturn, 1, [])]
def kt_63 : List (Nat × List ab_Row) := [(0, kb_63_0), (7, kb_63_7), (24, kb_63_24), (30, kb_63_30)]
def km_63 : ab_Mi := ((⟨"SorryPursesModel", "burst", "(I)I"⟩ : MethodName), prog_14_method_104_code, 3, (Option.some FieldType.int), [], [])
-- 64: SorryPursesLaw.till (LSorryPurses;IIII[J)I
def kb_64_0 : List ab_Row := [(.aload 5, 2, []), (.iconst 0, 1, []), (.aload_n 0, 1, []), (.iload_n 1, 1, []), (.iload_n 2, 1, []), (.iload_n 3, 1, []), (.iload 4, 2, []), (.invokevirtual 83, 3, [600, 175, 5, 0, 1673, 1674, 1675, 11]), (.i2l, 1, []), (.lastore, 1, []), (.goto 7, 3, [21])]
def kb_64_17 : List ab_Row := [(.astore 6, 2, []), (.iconst 1, 1, []), (.ireturn, 1, [])]
def kb_64_21 : List ab_Row := [(.iconst 0, 1, []), (.ireturn, 1, [])]
def kt_64 : List (Nat × List ab_Row) := [(0, kb_64_0), (17, kb_64_17), (21, kb_64_21)]
def km_64 : ab_Mi := ((⟨"SorryPursesLaw", "till", "(LSorryPurses;IIII[J)I"⟩ : MethodName), method_24_code, 7, (Option.some FieldType.int), [(0, 14, 17, 13)], [(0, 14, 17, 1)])
-- 65: SorryPursesModel.till (IIII)I
def kb_65_0 : List ab_Row := [(.aload_n 0, 1, []), (.iconst 0, 1, []), (.putfield 101, 3, [12, 0, 1832, 0]), (.aload_n 0, 1, []), (.iload_n 1, 1, []), (.bipush (-99), 2, []), (.bipush 99, 2, []), (.invokestatic 135, 3, [600, 112, 3, 1, 1980, 1981, 0, 0]), (.ifCond .eq 37, 3, [51]), (.iload_n 2, 1, []), (.bipush (-99), 2, []), (.bipush 99, 2, []), (.invokestatic 135, 3, [600, 112, 3, 1, 1980, 1981, 0, 0]), (.ifCond .eq 26, 3, [51]), (.iload_n 3, 1, []), (.bipush (-99), 2, []), (.bipush 99, 2, []), (.invokestatic 135, 3, [600, 112, 3, 1, 1980, 1981, 0, 0]), (.ifCond .eq 15, 3, [51]), (.iload 4, 2, []), (.bipush (-99), 2, []), (.bipush 99, 2, []), (.invokestatic 135, 3, [600, 112, 3, 1, 1980, 1981, 0, 0]), (.ifCond .ne 7, 3, [55])]
def kb_65_51 : List ab_Row := [(.iconst 1, 1, []), (.goto 4, 3, [56])]
def kb_65_55 : List ab_Row := [(.iconst 0, 1, [])]
def kb_65_56 : List ab_Row := [(.iconst 1, 1, []), (.iconst 1, 1, []), (.invokevirtual 180, 3, [600, 113, 4, 0, 1983, 1985, 50, 12]), (.ifCond .eq 5, 3, [66]), (.iconst 0, 1, []), (.ireturn, 1, [])]
def kb_65_66 : List ab_Row := [(.aload_n 0, 1, []), (.getfield 92, 3, [12, 42, 1874]), (.iconst 0, 1, []), (.iload_n 1, 1, []), (.iastore, 1, []), (.aload_n 0, 1, []), (.getfield 92, 3, [12, 42, 1874]), (.iconst 1, 1, []), (.iload_n 2, 1, []), (.iastore, 1, []), (.aload_n 0, 1, []), (.getfield 92, 3, [12, 42, 1874]), (.iconst 2, 1, []), (.iload_n 3, 1, []), (.iastore, 1, []), (.aload_n 0, 1, []), (.getfield 92, 3, [12, 42, 1874]), (.iconst 3, 1, []), (.iload 4, 2, []), (.iastore, 1, []), (.iconst 0, 1, []), (.istore 5, 2, []), (.iconst 0, 1, []), (.istore 6, 2, [])]
def kb_65_101 : List ab_Row := [(.iload 6, 2, []), (.iconst 2, 1, []), (.if_icmp .ge 96, 3, [200]), (.iconst 0, 1, []), (.istore 7, 2, [])]
def kb_65_110 : List ab_Row := [(.iload 7, 2, []), (.iconst 2, 1, []), (.if_icmp .ge 81, 3, [194]), (.aload_n 0, 1, []), (.getfield 92, 3, [12, 42, 1874]), (.iconst 2, 1, []), (.iload 6, 2, []), (.imul, 1, []), (.iload 7, 2, []), (.iadd, 1, []), (.iaload, 1, []), (.aload_n 0, 1, []), (.getfield 92, 3, [12, 42, 1874]), (.iconst 2, 1, []), (.iconst 2, 1, []), (.iload 6, 2, []), (.imul, 1, []), (.isub, 1, []), (.iload 7, 2, []), (.iadd, 1, []), (.iaload, 1, []), (.if_icmp .lt 46, 3, [188]), (.aload_n 0, 1, []), (.getfield 92, 3, [12, 42, 1874]), (.iconst 2, 1, []), (.iload 7, 2, []), (.imul, 1, []), (.iload 6, 2, []), (.iadd, 1, []), (.iaload, 1, []), (.aload_n 0, 1, []), (.getfield 92, 3, [12, 42, 1874]), (.iconst 2, 1, []), (.iconst 2, 1, []), (.iload 7, 2, []), (.imul, 1, []), (.isub, 1, []), (.iload 6, 2, []), (.iadd, 1, []), (.iaload, 1, []), (.if_icmp .lt 17, 3, [188]), (.iload 5, 2, []), (.iconst 1, 1, []), (.iconst 2, 1, []), (.iload 6, 2, []), (.imul, 1, []), (.iload 7, 2, []), (.iadd, 1, []), (.ishl, 1, []), (.ior, 1, []), (.istore 5, 2, [])]
def kb_65_188 : List ab_Row := [(.iinc 7 1, 3, []), (.goto (-81), 3, [110])]
def kb_65_194 : List ab_Row := [(.iinc 6 1, 3, []), (.goto (-96), 3, [101])]
def kb_65_200 : List ab_Row := [(.iload 5, 2, []), (.ireturn, 1, [])]
def kt_65 : List (Nat × List ab_Row) := [(0, kb_65_0), (51, kb_65_51), (55, kb_65_55), (56, kb_65_56), (66, kb_65_66), (101, kb_65_101), (110, kb_65_110), (188, kb_65_188), (194, kb_65_194), (200, kb_65_200)]
def km_65 : ab_Mi := ((⟨"SorryPursesModel", "till", "(IIII)I"⟩ : MethodName), prog_14_method_106_code, 8, (Option.some FieldType.int), [], [])
-- 66: SorryPursesLaw.extreme (LSorryPurses;I[J)I
def kb_66_0 : List ab_Row := [(.aload_n 2, 1, []), (.iconst 0, 1, []), (.aload_n 0, 1, []), (.iload_n 1, 1, []), (.invokevirtual 87, 3, [600, 176, 2, 0, 1680, 1681, 1682, 11]), (.i2l, 1, []), (.lastore, 1, []), (.goto 6, 3, [15])]
def kb_66_12 : List ab_Row := [(.astore_n 3, 1, []), (.iconst 1, 1, []), (.ireturn, 1, [])]
def kb_66_15 : List ab_Row := [(.iconst 0, 1, []), (.ireturn, 1, [])]
def kt_66 : List (Nat × List ab_Row) := [(0, kb_66_0), (12, kb_66_12), (15, kb_66_15)]
def km_66 : ab_Mi := ((⟨"SorryPursesLaw", "extreme", "(LSorryPurses;I[J)I"⟩ : MethodName), method_25_code, 4, (Option.some FieldType.int), [(0, 9, 12, 13)], [(0, 9, 12, 1)])
-- 67: SorryPursesModel.extreme (I)I
def kb_67_0 : List ab_Row := [(.aload_n 0, 1, []), (.iconst 0, 1, []), (.putfield 101, 3, [12, 0, 1832, 0]), (.aload_n 0, 1, []), (.iload_n 1, 1, []), (.iconst 0, 1, []), (.iconst 1, 1, []), (.invokestatic 135, 3, [600, 112, 3, 1, 1980, 1981, 0, 0]), (.ifCond .ne 7, 3, [19]), (.iconst 1, 1, []), (.goto 4, 3, [20])]
def kb_67_19 : List ab_Row := [(.iconst 0, 1, [])]
def kb_67_20 : List ab_Row := [(.iconst 1, 1, []), (.iconst 1, 1, []), (.invokevirtual 180, 3, [600, 113, 4, 0, 1983, 1985, 50, 12]), (.ifCond .eq 5, 3, [30]), (.iconst 0, 1, []), (.ireturn, 1, [])]
def kb_67_30 : List ab_Row := [(.aload_n 0, 1, []), (.aload_n 0, 1, []), (.getfield 58, 3, [12, 25, 1857]), (.iconst 1, 1, []), (.iconst 2, 1, []), (.iload_n 1, 1, []), (.imul, 1, []), (.isub, 1, []), (.invokevirtual 382, 3, [600, 177, 3, 0, 2361, 2363, 96, 12]), (.ireturn, 1, [])]
def kt_67 : List (Nat × List ab_Row) := [(0, kb_67_0), (19, kb_67_19), (20, kb_67_20), (30, kb_67_30)]
def km_67 : ab_Mi := ((⟨"SorryPursesModel", "extreme", "(I)I"⟩ : MethodName), prog_14_method_108_code, 2, (Option.some FieldType.int), [], [])
-- 68: SorryPursesLaw.chosen (LSorryPurses;I[J)I
def kb_68_0 : List ab_Row := [(.aload_n 2, 1, []), (.iconst 0, 1, []), (.aload_n 0, 1, []), (.iload_n 1, 1, []), (.invokevirtual 90, 3, [600, 178, 2, 0, 1692, 1693, 1694, 11]), (.i2l, 1, []), (.lastore, 1, []), (.goto 6, 3, [15])]
def kb_68_12 : List ab_Row := [(.astore_n 3, 1, []), (.iconst 1, 1, []), (.ireturn, 1, [])]
def kb_68_15 : List ab_Row := [(.iconst 0, 1, []), (.ireturn, 1, [])]
def kt_68 : List (Nat × List ab_Row) := [(0, kb_68_0), (12, kb_68_12), (15, kb_68_15)]
def km_68 : ab_Mi := ((⟨"SorryPursesLaw", "chosen", "(LSorryPurses;I[J)I"⟩ : MethodName), method_26_code, 4, (Option.some FieldType.int), [(0, 9, 12, 13)], [(0, 9, 12, 1)])
-- 69: SorryPursesModel.chosen (I)I
def kb_69_0 : List ab_Row := [(.aload_n 0, 1, []), (.iconst 0, 1, []), (.putfield 101, 3, [12, 0, 1832, 0]), (.aload_n 0, 1, []), (.iload_n 1, 1, []), (.iconst 0, 1, []), (.iconst 1, 1, []), (.invokestatic 135, 3, [600, 112, 3, 1, 1980, 1981, 0, 0]), (.ifCond .ne 7, 3, [19]), (.iconst 1, 1, []), (.goto 4, 3, [20])]
def kb_69_19 : List ab_Row := [(.iconst 0, 1, [])]
def kb_69_20 : List ab_Row := [(.iconst 1, 1, []), (.iconst 1, 1, []), (.invokevirtual 180, 3, [600, 113, 4, 0, 1983, 1985, 50, 12]), (.ifCond .eq 5, 3, [30]), (.iconst 0, 1, []), (.ireturn, 1, [])]
def kb_69_30 : List ab_Row := [(.iconst (-1), 1, []), (.istore_n 2, 1, []), (.iconst 0, 1, []), (.istore_n 3, 1, [])]
def kb_69_34 : List ab_Row := [(.iload_n 3, 1, []), (.aload_n 0, 1, []), (.getfield 58, 3, [12, 25, 1857]), (.sipush 360, 3, []), (.iaload, 1, []), (.if_icmp .ge 76, 3, [119]), (.aload_n 0, 1, []), (.getfield 58, 3, [12, 25, 1857]), (.iload_n 3, 1, []), (.invokestatic 258, 3, [600, 144, 2, 1, 2139, 2140, 0, 0]), (.ifCond .eq 59, 3, [113]), (.iload_n 2, 1, []), (.iconst (-1), 1, []), (.if_icmp .eq 52, 3, [111]), (.iload_n 1, 1, []), (.ifCond .ne 27, 3, [90]), (.aload_n 0, 1, []), (.getfield 58, 3, [12, 25, 1857]), (.iload_n 3, 1, []), (.iconst 3, 1, []), (.invokestatic 254, 3, [600, 135, 3, 1, 2142, 2143, 0, 0]), (.aload_n 0, 1, []), (.getfield 58, 3, [12, 25, 1857]), (.iload_n 2, 1, []), (.iconst 3, 1, []), (.invokestatic 254, 3, [600, 135, 3, 1, 2142, 2143, 0, 0]), (.if_icmp .ge 29, 3, [113]), (.goto 24, 3, [111])]
def kb_69_90 : List ab_Row := [(.aload_n 0, 1, []), (.aload_n 0, 1, []), (.getfield 58, 3, [12, 25, 1857]), (.iload_n 3, 1, []), (.invokevirtual 310, 3, [600, 146, 3, 0, 2165, 2167, 81, 12]), (.aload_n 0, 1, []), (.aload_n 0, 1, []), (.getfield 58, 3, [12, 25, 1857]), (.iload_n 2, 1, []), (.invokevirtual 310, 3, [600, 146, 3, 0, 2165, 2167, 81, 12]), (.if_icmp .le 5, 3, [113])]
def kb_69_111 : List ab_Row := [(.iload_n 3, 1, []), (.istore_n 2, 1, [])]
def kb_69_113 : List ab_Row := [(.iinc 3 1, 3, []), (.goto (-82), 3, [34])]
def kb_69_119 : List ab_Row := [(.iload_n 2, 1, []), (.ireturn, 1, [])]
def kt_69 : List (Nat × List ab_Row) := [(0, kb_69_0), (19, kb_69_19), (20, kb_69_20), (30, kb_69_30), (34, kb_69_34), (90, kb_69_90), (111, kb_69_111), (113, kb_69_113), (119, kb_69_119)]
def km_69 : ab_Mi := ((⟨"SorryPursesModel", "chosen", "(I)I"⟩ : MethodName), prog_14_method_109_code, 4, (Option.some FieldType.int), [], [])
-- 70: SorryPursesLaw.heard (LSorryPurses;I[J)I
def kb_70_0 : List ab_Row := [(.aload_n 2, 1, []), (.iconst 0, 1, []), (.aload_n 0, 1, []), (.iload_n 1, 1, []), (.invokevirtual 93, 3, [600, 179, 2, 0, 1707, 1708, 1709, 11]), (.i2l, 1, []), (.lastore, 1, []), (.goto 6, 3, [15])]
def kb_70_12 : List ab_Row := [(.astore_n 3, 1, []), (.iconst 1, 1, []), (.ireturn, 1, [])]
def kb_70_15 : List ab_Row := [(.iconst 0, 1, []), (.ireturn, 1, [])]
def kt_70 : List (Nat × List ab_Row) := [(0, kb_70_0), (12, kb_70_12), (15, kb_70_15)]
def km_70 : ab_Mi := ((⟨"SorryPursesLaw", "heard", "(LSorryPurses;I[J)I"⟩ : MethodName), method_27_code, 4, (Option.some FieldType.int), [(0, 9, 12, 31)], [(0, 9, 12, 0)])
-- 71: SorryPursesModel.heard (I)I
def kb_71_0 : List ab_Row := [(.aload_n 0, 1, []), (.iconst 0, 1, []), (.putfield 101, 3, [12, 0, 1832, 0]), (.aload_n 0, 1, []), (.aload_n 0, 1, []), (.iload_n 1, 1, []), (.invokevirtual 331, 3, [600, 137, 2, 0, 2208, 2210, 85, 12]), (.ifCond .ne 7, 3, [18]), (.iconst 1, 1, []), (.goto 4, 3, [19])]
def kb_71_18 : List ab_Row := [(.iconst 0, 1, [])]
def kb_71_19 : List ab_Row := [(.iconst 1, 1, []), (.iconst 0, 1, []), (.invokevirtual 180, 3, [600, 113, 4, 0, 1983, 1985, 50, 12]), (.ifCond .eq 5, 3, [29]), (.iconst 0, 1, []), (.ireturn, 1, [])]
def kb_71_29 : List ab_Row := [(.aload_n 0, 1, []), (.getfield 58, 3, [12, 25, 1857]), (.iload_n 1, 1, []), (.invokestatic 265, 3, [600, 180, 2, 1, 2169, 2170, 0, 0]), (.istore_n 2, 1, []), (.iconst 0, 1, []), (.istore_n 3, 1, []), (.iconst 0, 1, []), (.istore 4, 2, [])]
def kb_71_43 : List ab_Row := [(.iload 4, 2, []), (.aload_n 0, 1, []), (.getfield 58, 3, [12, 25, 1857]), (.sipush 360, 3, []), (.iaload, 1, []), (.if_icmp .ge 74, 3, [127]), (.aload_n 0, 1, []), (.getfield 58, 3, [12, 25, 1857]), (.iload 4, 2, []), (.invokestatic 258, 3, [600, 144, 2, 1, 2139, 2140, 0, 0]), (.ifCond .eq 56, 3, [121]), (.aload_n 0, 1, []), (.getfield 58, 3, [12, 25, 1857]), (.iload 4, 2, []), (.iconst 1, 1, []), (.invokestatic 254, 3, [600, 135, 3, 1, 2142, 2143, 0, 0]), (.iload_n 1, 1, []), (.if_icmp .ne 42, 3, [121]), (.aload_n 0, 1, []), (.aload_n 0, 1, []), (.getfield 58, 3, [12, 25, 1857]), (.iload 4, 2, []), (.iload_n 2, 1, []), (.invokevirtual 269, 3, [600, 181, 4, 0, 2172, 2174, 82, 12]), (.aload_n 0, 1, []), (.getfield 23, 3, [12, 12, 1844]), (.iconst 3, 1, []), (.iaload, 1, []), (.if_icmp .ge 6, 3, [105]), (.goto 19, 3, [121])]
def kb_71_105 : List ab_Row := [(.iload_n 3, 1, []), (.aload_n 0, 1, []), (.getfield 58, 3, [12, 25, 1857]), (.iload 4, 2, []), (.iconst 2, 1, []), (.invokestatic 254, 3, [600, 135, 3, 1, 2142, 2143, 0, 0]), (.iadd, 1, []), (.istore_n 3, 1, []), (.iinc 2 (-1), 3, [])]
def kb_71_121 : List ab_Row := [(.iinc 4 1, 3, []), (.goto (-81), 3, [43])]
def kb_71_127 : List ab_Row := [(.iload_n 3, 1, []), (.ireturn, 1, [])]
def kt_71 : List (Nat × List ab_Row) := [(0, kb_71_0), (18, kb_71_18), (19, kb_71_19), (29, kb_71_29), (43, kb_71_43), (105, kb_71_105), (121, kb_71_121), (127, kb_71_127)]
def km_71 : ab_Mi := ((⟨"SorryPursesModel", "heard", "(I)I"⟩ : MethodName), prog_14_method_110_code, 5, (Option.some FieldType.int), [], [])
-- 72: SorryPursesLaw.payers (LSorryPurses;II[J)I
def kb_72_0 : List ab_Row := [(.aload_n 3, 1, []), (.iconst 0, 1, []), (.aload_n 0, 1, []), (.iload_n 1, 1, []), (.iload_n 2, 1, []), (.invokevirtual 96, 3, [600, 182, 3, 0, 1718, 1719, 1720, 11]), (.i2l, 1, []), (.lastore, 1, []), (.goto 11, 3, [21])]
def kb_72_13 : List ab_Row := [(.astore 4, 2, []), (.iconst 1, 1, []), (.ireturn, 1, [])]
def kb_72_17 : List ab_Row := [(.astore 4, 2, []), (.iconst 2, 1, []), (.ireturn, 1, [])]
def kb_72_21 : List ab_Row := [(.iconst 0, 1, []), (.ireturn, 1, [])]
def kt_72 : List (Nat × List ab_Row) := [(0, kb_72_0), (13, kb_72_13), (17, kb_72_17), (21, kb_72_21)]
def km_72 : ab_Mi := ((⟨"SorryPursesLaw", "payers", "(LSorryPurses;II[J)I"⟩ : MethodName), method_28_code, 5, (Option.some FieldType.int), [(0, 10, 13, 31), (0, 10, 17, 13)], [(0, 10, 13, 0), (0, 10, 17, 1)])
-- 73: SorryPursesModel.payers (II)I
def kb_73_0 : List ab_Row := [(.aload_n 0, 1, []), (.iconst 0, 1, []), (.putfield 101, 3, [12, 0, 1832, 0]), (.aload_n 0, 1, []), (.aload_n 0, 1, []), (.iload_n 1, 1, []), (.invokevirtual 331, 3, [600, 137, 2, 0, 2208, 2210, 85, 12]), (.ifCond .ne 7, 3, [18]), (.iconst 1, 1, []), (.goto 4, 3, [19])]
def kb_73_18 : List ab_Row := [(.iconst 0, 1, [])]
def kb_73_19 : List ab_Row := [(.iconst 1, 1, []), (.iconst 0, 1, []), (.invokevirtual 180, 3, [600, 113, 4, 0, 1983, 1985, 50, 12]), (.ifCond .ne 28, 3, [52]), (.aload_n 0, 1, []), (.iload_n 2, 1, []), (.iconst 1, 1, []), (.sipush 999, 3, []), (.invokestatic 135, 3, [600, 112, 3, 1, 1980, 1981, 0, 0]), (.ifCond .ne 7, 3, [43]), (.iconst 1, 1, []), (.goto 4, 3, [44])]
def kb_73_43 : List ab_Row := [(.iconst 0, 1, [])]
def kb_73_44 : List ab_Row := [(.iconst 2, 1, []), (.iconst 1, 1, []), (.invokevirtual 180, 3, [600, 113, 4, 0, 1983, 1985, 50, 12]), (.ifCond .eq 5, 3, [54])]
def kb_73_52 : List ab_Row := [(.iconst 0, 1, []), (.ireturn, 1, [])]
def kb_73_54 : List ab_Row := [(.iconst 0, 1, []), (.istore_n 3, 1, []), (.iconst 0, 1, []), (.istore 4, 2, [])]
def kb_73_59 : List ab_Row := [(.iload 4, 2, []), (.aload_n 0, 1, []), (.getfield 23, 3, [12, 12, 1844]), (.iconst 0, 1, []), (.iaload, 1, []), (.if_icmp .ge 43, 3, [110]), (.iload_n 3, 1, []), (.iload 4, 2, []), (.iload_n 1, 1, []), (.if_icmp .eq 27, 3, [101]), (.aload_n 0, 1, []), (.aload_n 0, 1, []), (.getfield 58, 3, [12, 25, 1857]), (.iload 4, 2, []), (.iload_n 1, 1, []), (.iload_n 2, 1, []), (.invokevirtual 289, 3, [600, 152, 5, 0, 2132, 2134, 78, 12]), (.lconst 0, 1, []), (.lcmp, 1, []), (.ifCond .eq 10, 3, [101]), (.iconst 1, 1, []), (.iload 4, 2, []), (.ishl, 1, []), (.goto 4, 3, [102])]
def kb_73_101 : List ab_Row := [(.iconst 0, 1, [])]
def kb_73_102 : List ab_Row := [(.ior, 1, []), (.istore_n 3, 1, []), (.iinc 4 1, 3, []), (.goto (-48), 3, [59])]
def kb_73_110 : List ab_Row := [(.iload_n 3, 1, []), (.ireturn, 1, [])]
def kt_73 : List (Nat × List ab_Row) := [(0, kb_73_0), (18, kb_73_18), (19, kb_73_19), (43, kb_73_43), (44, kb_73_44), (52, kb_73_52), (54, kb_73_54), (59, kb_73_59), (101, kb_73_101), (102, kb_73_102), (110, kb_73_110)]
def km_73 : ab_Mi := ((⟨"SorryPursesModel", "payers", "(II)I"⟩ : MethodName), prog_14_method_80_code, 5, (Option.some FieldType.int), [], [])
-- 74: SorryPursesLaw.lacking (LSorryPurses;II[J)I
def kb_74_0 : List ab_Row := [(.aload_n 3, 1, []), (.iconst 0, 1, []), (.aload_n 0, 1, []), (.iload_n 1, 1, []), (.iload_n 2, 1, []), (.invokevirtual 99, 3, [600, 183, 3, 0, 1725, 1726, 1727, 11]), (.i2l, 1, []), (.lastore, 1, []), (.goto 11, 3, [21])]
def kb_74_13 : List ab_Row := [(.astore 4, 2, []), (.iconst 1, 1, []), (.ireturn, 1, [])]
def kb_74_17 : List ab_Row := [(.astore 4, 2, []), (.iconst 2, 1, []), (.ireturn, 1, [])]
def kb_74_21 : List ab_Row := [(.iconst 0, 1, []), (.ireturn, 1, [])]
def kt_74 : List (Nat × List ab_Row) := [(0, kb_74_0), (13, kb_74_13), (17, kb_74_17), (21, kb_74_21)]
def km_74 : ab_Mi := ((⟨"SorryPursesLaw", "lacking", "(LSorryPurses;II[J)I"⟩ : MethodName), method_29_code, 5, (Option.some FieldType.int), [(0, 10, 13, 31), (0, 10, 17, 13)], [(0, 10, 13, 0), (0, 10, 17, 1)])
-- 75: SorryPursesModel.lacking (II)I
def kb_75_0 : List ab_Row := [(.aload_n 0, 1, []), (.iconst 0, 1, []), (.putfield 101, 3, [12, 0, 1832, 0]), (.aload_n 0, 1, []), (.aload_n 0, 1, []), (.iload_n 1, 1, []), (.invokevirtual 331, 3, [600, 137, 2, 0, 2208, 2210, 85, 12]), (.ifCond .ne 7, 3, [18]), (.iconst 1, 1, []), (.goto 4, 3, [19])]
def kb_75_18 : List ab_Row := [(.iconst 0, 1, [])]
def kb_75_19 : List ab_Row := [(.iconst 1, 1, []), (.iconst 0, 1, []), (.invokevirtual 180, 3, [600, 113, 4, 0, 1983, 1985, 50, 12]), (.ifCond .ne 28, 3, [52]), (.aload_n 0, 1, []), (.iload_n 2, 1, []), (.iconst 0, 1, []), (.sipush 9999, 3, []), (.invokestatic 135, 3, [600, 112, 3, 1, 1980, 1981, 0, 0]), (.ifCond .ne 7, 3, [43]), (.iconst 1, 1, []), (.goto 4, 3, [44])]
def kb_75_43 : List ab_Row := [(.iconst 0, 1, [])]
def kb_75_44 : List ab_Row := [(.iconst 2, 1, []), (.iconst 1, 1, []), (.invokevirtual 180, 3, [600, 113, 4, 0, 1983, 1985, 50, 12]), (.ifCond .eq 5, 3, [54])]
def kb_75_52 : List ab_Row := [(.iconst 0, 1, []), (.ireturn, 1, [])]
def kb_75_54 : List ab_Row := [(.aload_n 0, 1, []), (.iload_n 1, 1, []), (.invokevirtual 351, 3, [600, 154, 2, 0, 2258, 2260, 88, 12]), (.iload_n 2, 1, []), (.istore_n 3, 1, [])]
def kb_75_61 : List ab_Row := [(.aload_n 0, 1, []), (.getfield 73, 3, [12, 35, 1867]), (.iload_n 3, 1, []), (.baload, 1, []), (.ifCond .ne 9, 3, [76]), (.iinc 3 (-1), 3, []), (.goto (-12), 3, [61])]
def kb_75_76 : List ab_Row := [(.iload_n 2, 1, []), (.iload_n 3, 1, []), (.isub, 1, []), (.ireturn, 1, [])]
def kt_75 : List (Nat × List ab_Row) := [(0, kb_75_0), (18, kb_75_18), (19, kb_75_19), (43, kb_75_43), (44, kb_75_44), (52, kb_75_52), (54, kb_75_54), (61, kb_75_61), (76, kb_75_76)]
def km_75 : ab_Mi := ((⟨"SorryPursesModel", "lacking", "(II)I"⟩ : MethodName), prog_14_method_84_code, 4, (Option.some FieldType.int), [], [])
-- 76: SorryPursesLaw.grown (LSorryPurses;II[J)I
def kb_76_0 : List ab_Row := [(.aload_n 3, 1, []), (.iconst 0, 1, []), (.aload_n 0, 1, []), (.iload_n 1, 1, []), (.iload_n 2, 1, []), (.invokevirtual 102, 3, [600, 184, 3, 0, 1736, 1737, 1738, 11]), (.i2l, 1, []), (.lastore, 1, []), (.goto 11, 3, [21])]
def kb_76_13 : List ab_Row := [(.astore 4, 2, []), (.iconst 1, 1, []), (.ireturn, 1, [])]
def kb_76_17 : List ab_Row := [(.astore 4, 2, []), (.iconst 2, 1, []), (.ireturn, 1, [])]
def kb_76_21 : List ab_Row := [(.iconst 0, 1, []), (.ireturn, 1, [])]
def kt_76 : List (Nat × List ab_Row) := [(0, kb_76_0), (13, kb_76_13), (17, kb_76_17), (21, kb_76_21)]
def km_76 : ab_Mi := ((⟨"SorryPursesLaw", "grown", "(LSorryPurses;II[J)I"⟩ : MethodName), method_30_code, 5, (Option.some FieldType.int), [(0, 10, 13, 31), (0, 10, 17, 13)], [(0, 10, 13, 0), (0, 10, 17, 1)])
-- 77: SorryPursesModel.grown (II)I
def kb_77_0 : List ab_Row := [(.aload_n 0, 1, []), (.iconst 0, 1, []), (.putfield 101, 3, [12, 0, 1832, 0]), (.aload_n 0, 1, []), (.aload_n 0, 1, []), (.iload_n 1, 1, []), (.invokevirtual 328, 3, [600, 134, 2, 0, 2200, 2202, 84, 12]), (.ifCond .ne 7, 3, [18]), (.iconst 1, 1, []), (.goto 4, 3, [19])]
def kb_77_18 : List ab_Row := [(.iconst 0, 1, [])]
def kb_77_19 : List ab_Row := [(.iconst 1, 1, []), (.iconst 0, 1, []), (.invokevirtual 180, 3, [600, 113, 4, 0, 1983, 1985, 50, 12]), (.ifCond .ne 27, 3, [51]), (.aload_n 0, 1, []), (.iload_n 2, 1, []), (.iconst 0, 1, []), (.bipush 60, 2, []), (.invokestatic 135, 3, [600, 112, 3, 1, 1980, 1981, 0, 0]), (.ifCond .ne 7, 3, [42]), (.iconst 1, 1, []), (.goto 4, 3, [43])]
def kb_77_42 : List ab_Row := [(.iconst 0, 1, [])]
def kb_77_43 : List ab_Row := [(.iconst 2, 1, []), (.iconst 1, 1, []), (.invokevirtual 180, 3, [600, 113, 4, 0, 1983, 1985, 50, 12]), (.ifCond .eq 5, 3, [53])]
def kb_77_51 : List ab_Row := [(.iconst 0, 1, []), (.ireturn, 1, [])]
def kb_77_53 : List ab_Row := [(.aload_n 0, 1, []), (.getfield 58, 3, [12, 25, 1857]), (.iload_n 1, 1, []), (.invokestatic 258, 3, [600, 144, 2, 1, 2139, 2140, 0, 0]), (.ifCond .eq 20, 3, [81]), (.aload_n 0, 1, []), (.aload_n 0, 1, []), (.getfield 58, 3, [12, 25, 1857]), (.iload_n 1, 1, []), (.iconst 2, 1, []), (.invokestatic 254, 3, [600, 135, 3, 1, 2142, 2143, 0, 0]), (.iload_n 2, 1, []), (.invokevirtual 376, 3, [600, 185, 3, 0, 2341, 2343, 95, 12]), (.goto 4, 3, [82])]
def kb_77_81 : List ab_Row := [(.iconst 0, 1, [])]
def kb_77_82 : List ab_Row := [(.ireturn, 1, [])]
def kt_77 : List (Nat × List ab_Row) := [(0, kb_77_0), (18, kb_77_18), (19, kb_77_19), (42, kb_77_42), (43, kb_77_43), (51, kb_77_51), (53, kb_77_53), (81, kb_77_81), (82, kb_77_82)]
def km_77 : ab_Mi := ((⟨"SorryPursesModel", "grown", "(II)I"⟩ : MethodName), prog_14_method_105_code, 3, (Option.some FieldType.int), [], [])
-- 78: SorryPurses.square ()I
def kb_78_0 : List ab_Row := [(.iconst 0, 1, []), (.istore_n 1, 1, []), (.iconst 0, 1, []), (.istore_n 2, 1, [])]
def kb_78_4 : List ab_Row := [(.iload_n 2, 1, []), (.aload_n 0, 1, []), (.getfield 19, 3, [11, 1, 495]), (.getfield 181, 3, [10, 5, 194]), (.if_icmp .ge 27, 3, [39]), (.aload_n 0, 1, []), (.getfield 49, 3, [11, 7, 501]), (.iload_n 2, 1, []), (.iconst 0, 1, []), (.invokevirtual 229, 3, [600, 186, 3, 0, 1051, 632, 633, 6]), (.ifCond .ne 9, 3, [33]), (.iload_n 1, 1, []), (.iconst 1, 1, []), (.iload_n 2, 1, []), (.ishl, 1, []), (.ior, 1, []), (.istore_n 1, 1, [])]
def kb_78_33 : List ab_Row := [(.iinc 2 1, 3, []), (.goto (-32), 3, [4])]
def kb_78_39 : List ab_Row := [(.iload_n 1, 1, []), (.ireturn, 1, [])]
def kt_78 : List (Nat × List ab_Row) := [(0, kb_78_0), (4, kb_78_4), (33, kb_78_33), (39, kb_78_39)]
def km_78 : ab_Mi := ((⟨"SorryPurses", "square", "()I"⟩ : MethodName), prog_1_method_39_code, 3, (Option.some FieldType.int), [], [])
-- 79: SorryPursesModel.square ()I
def kb_79_0 : List ab_Row := [(.aload_n 0, 1, []), (.iconst 0, 1, []), (.putfield 101, 3, [12, 0, 1832, 0]), (.iconst 0, 1, []), (.istore_n 1, 1, []), (.iconst 0, 1, []), (.istore_n 2, 1, [])]
def kb_79_9 : List ab_Row := [(.iload_n 2, 1, []), (.aload_n 0, 1, []), (.getfield 23, 3, [12, 12, 1844]), (.iconst 0, 1, []), (.iaload, 1, []), (.if_icmp .ge 31, 3, [47]), (.iload_n 1, 1, []), (.aload_n 0, 1, []), (.getfield 58, 3, [12, 25, 1857]), (.iload_n 2, 1, []), (.iconst 0, 1, []), (.invokestatic 338, 3, [600, 140, 3, 1, 2219, 2220, 0, 0]), (.ifCond .ne 9, 3, [38]), (.iconst 1, 1, []), (.iload_n 2, 1, []), (.ishl, 1, []), (.goto 4, 3, [39])]
def kb_79_38 : List ab_Row := [(.iconst 0, 1, [])]
def kb_79_39 : List ab_Row := [(.ior, 1, []), (.istore_n 1, 1, []), (.iinc 2 1, 3, []), (.goto (-35), 3, [9])]
def kb_79_47 : List ab_Row := [(.iload_n 1, 1, []), (.ireturn, 1, [])]
def kt_79 : List (Nat × List ab_Row) := [(0, kb_79_0), (9, kb_79_9), (38, kb_79_38), (39, kb_79_39), (47, kb_79_47)]
def km_79 : ab_Mi := ((⟨"SorryPursesModel", "square", "()I"⟩ : MethodName), prog_14_method_89_code, 3, (Option.some FieldType.int), [], [])
-- 80: SorryPursesLaw.aged (LSorryPurses;I[J)I
def kb_80_0 : List ab_Row := [(.aload_n 2, 1, []), (.iconst 0, 1, []), (.aload_n 0, 1, []), (.iload_n 1, 1, []), (.invokevirtual 105, 3, [600, 187, 2, 0, 1745, 1746, 1747, 11]), (.lastore, 1, []), (.goto 6, 3, [14])]
def kb_80_11 : List ab_Row := [(.astore_n 3, 1, []), (.iconst 1, 1, []), (.ireturn, 1, [])]
def kb_80_14 : List ab_Row := [(.iconst 0, 1, []), (.ireturn, 1, [])]
def kt_80 : List (Nat × List ab_Row) := [(0, kb_80_0), (11, kb_80_11), (14, kb_80_14)]
def km_80 : ab_Mi := ((⟨"SorryPursesLaw", "aged", "(LSorryPurses;I[J)I"⟩ : MethodName), method_31_code, 4, (Option.some FieldType.int), [(0, 8, 11, 13)], [(0, 8, 11, 1)])
-- 81: SorryPursesModel.aged (I)J
def kb_81_0 : List ab_Row := [(.aload_n 0, 1, []), (.iconst 0, 1, []), (.putfield 101, 3, [12, 0, 1832, 0]), (.aload_n 0, 1, []), (.iload_n 1, 1, []), (.iconst 0, 1, []), (.sipush 9999, 3, []), (.invokestatic 135, 3, [600, 112, 3, 1, 1980, 1981, 0, 0]), (.ifCond .ne 7, 3, [21]), (.iconst 1, 1, []), (.goto 4, 3, [22])]
def kb_81_21 : List ab_Row := [(.iconst 0, 1, [])]
def kb_81_22 : List ab_Row := [(.iconst 1, 1, []), (.iconst 1, 1, []), (.invokevirtual 180, 3, [600, 113, 4, 0, 1983, 1985, 50, 12]), (.ifCond .eq 5, 3, [32]), (.lconst 0, 1, []), (.lreturn, 1, [])]
def kb_81_32 : List ab_Row := [(.lconst 0, 1, []), (.lstore_n 2, 1, []), (.iconst 0, 1, []), (.istore 4, 2, [])]
def kb_81_37 : List ab_Row := [(.iload 4, 2, []), (.aload_n 0, 1, []), (.getfield 58, 3, [12, 25, 1857]), (.sipush 360, 3, []), (.iaload, 1, []), (.if_icmp .ge 55, 3, [102]), (.lload_n 2, 1, []), (.aload_n 0, 1, []), (.getfield 58, 3, [12, 25, 1857]), (.iload 4, 2, []), (.invokestatic 258, 3, [600, 144, 2, 1, 2139, 2140, 0, 0]), (.ifCond .eq 33, 3, [93]), (.aload_n 0, 1, []), (.getfield 58, 3, [12, 25, 1857]), (.sipush 361, 3, []), (.iaload, 1, []), (.aload_n 0, 1, []), (.getfield 58, 3, [12, 25, 1857]), (.iload 4, 2, []), (.iconst 3, 1, []), (.invokestatic 254, 3, [600, 135, 3, 1, 2142, 2143, 0, 0]), (.isub, 1, []), (.iload_n 1, 1, []), (.if_icmp .lt 10, 3, [93]), (.lconst 1, 1, []), (.iload 4, 2, []), (.lshl, 1, []), (.goto 4, 3, [94])]
def kb_81_93 : List ab_Row := [(.lconst 0, 1, [])]
def kb_81_94 : List ab_Row := [(.lor, 1, []), (.lstore_n 2, 1, []), (.iinc 4 1, 3, []), (.goto (-62), 3, [37])]
def kb_81_102 : List ab_Row := [(.lload_n 2, 1, []), (.lreturn, 1, [])]
def kt_81 : List (Nat × List ab_Row) := [(0, kb_81_0), (21, kb_81_21), (22, kb_81_22), (32, kb_81_32), (37, kb_81_37), (93, kb_81_93), (94, kb_81_94), (102, kb_81_102)]
def km_81 : ab_Mi := ((⟨"SorryPursesModel", "aged", "(I)J"⟩ : MethodName), prog_14_method_111_code, 5, (Option.some FieldType.long), [], [])
-- 82: SorryPursesLaw.master (LSorryPurses;I[J)I
def kb_82_0 : List ab_Row := [(.aload_n 2, 1, []), (.iconst 0, 1, []), (.aload_n 0, 1, []), (.iload_n 1, 1, []), (.invokevirtual 108, 3, [600, 188, 2, 0, 1756, 1757, 1758, 11]), (.i2l, 1, []), (.lastore, 1, []), (.goto 6, 3, [15])]
def kb_82_12 : List ab_Row := [(.astore_n 3, 1, []), (.iconst 1, 1, []), (.ireturn, 1, [])]
def kb_82_15 : List ab_Row := [(.iconst 0, 1, []), (.ireturn, 1, [])]
def kt_82 : List (Nat × List ab_Row) := [(0, kb_82_0), (12, kb_82_12), (15, kb_82_15)]
def km_82 : ab_Mi := ((⟨"SorryPursesLaw", "master", "(LSorryPurses;I[J)I"⟩ : MethodName), method_32_code, 4, (Option.some FieldType.int), [(0, 9, 12, 31)], [(0, 9, 12, 0)])
-- 83: SorryPursesModel.master (I)I
def kb_83_0 : List ab_Row := [(.aload_n 0, 1, []), (.iconst 0, 1, []), (.putfield 101, 3, [12, 0, 1832, 0]), (.aload_n 0, 1, []), (.aload_n 0, 1, []), (.iload_n 1, 1, []), (.invokevirtual 331, 3, [600, 137, 2, 0, 2208, 2210, 85, 12]), (.ifCond .ne 7, 3, [18]), (.iconst 1, 1, []), (.goto 4, 3, [19])]
def kb_83_18 : List ab_Row := [(.iconst 0, 1, [])]
def kb_83_19 : List ab_Row := [(.iconst 1, 1, []), (.iconst 0, 1, []), (.invokevirtual 180, 3, [600, 113, 4, 0, 1983, 1985, 50, 12]), (.ifCond .eq 5, 3, [29]), (.iconst 0, 1, []), (.ireturn, 1, [])]
def kb_83_29 : List ab_Row := [(.iconst (-1), 1, []), (.istore_n 2, 1, []), (.iconst 0, 1, []), (.istore_n 3, 1, []), (.iconst 0, 1, []), (.istore 4, 2, [])]
def kb_83_36 : List ab_Row := [(.iload 4, 2, []), (.aload_n 0, 1, []), (.getfield 23, 3, [12, 12, 1844]), (.iconst 0, 1, []), (.iaload, 1, []), (.if_icmp .ge 109, 3, [153]), (.iconst 0, 1, []), (.istore 5, 2, []), (.iconst 0, 1, []), (.istore 6, 2, [])]
def kb_83_53 : List ab_Row := [(.iload 6, 2, []), (.aload_n 0, 1, []), (.getfield 58, 3, [12, 25, 1857]), (.sipush 360, 3, []), (.iaload, 1, []), (.if_icmp .ge 69, 3, [132]), (.iload 5, 2, []), (.aload_n 0, 1, []), (.getfield 58, 3, [12, 25, 1857]), (.iload 6, 2, []), (.invokestatic 258, 3, [600, 144, 2, 1, 2139, 2140, 0, 0]), (.ifCond .eq 45, 3, [122]), (.aload_n 0, 1, []), (.getfield 58, 3, [12, 25, 1857]), (.iload 6, 2, []), (.iconst 0, 1, []), (.invokestatic 254, 3, [600, 135, 3, 1, 2142, 2143, 0, 0]), (.iload_n 1, 1, []), (.if_icmp .ne 31, 3, [122]), (.aload_n 0, 1, []), (.getfield 58, 3, [12, 25, 1857]), (.iload 6, 2, []), (.iconst 1, 1, []), (.invokestatic 254, 3, [600, 135, 3, 1, 2142, 2143, 0, 0]), (.iload 4, 2, []), (.if_icmp .ne 16, 3, [122]), (.aload_n 0, 1, []), (.getfield 58, 3, [12, 25, 1857]), (.iload 6, 2, []), (.iconst 2, 1, []), (.invokestatic 254, 3, [600, 135, 3, 1, 2142, 2143, 0, 0]), (.goto 4, 3, [123])]
def kb_83_122 : List ab_Row := [(.iconst 0, 1, [])]
def kb_83_123 : List ab_Row := [(.iadd, 1, []), (.istore 5, 2, []), (.iinc 6 1, 3, []), (.goto (-76), 3, [53])]
def kb_83_132 : List ab_Row := [(.iload 5, 2, []), (.iload_n 3, 1, []), (.if_icmp .gt 6, 3, [141]), (.goto 9, 3, [147])]
def kb_83_141 : List ab_Row := [(.iload 4, 2, []), (.istore_n 2, 1, []), (.iload 5, 2, []), (.istore_n 3, 1, [])]
def kb_83_147 : List ab_Row := [(.iinc 4 1, 3, []), (.goto (-114), 3, [36])]
def kb_83_153 : List ab_Row := [(.iload_n 2, 1, []), (.ireturn, 1, [])]
def kt_83 : List (Nat × List ab_Row) := [(0, kb_83_0), (18, kb_83_18), (19, kb_83_19), (29, kb_83_29), (36, kb_83_36), (53, kb_83_53), (122, kb_83_122), (123, kb_83_123), (132, kb_83_132), (141, kb_83_141), (147, kb_83_147), (153, kb_83_153)]
def km_83 : ab_Mi := ((⟨"SorryPursesModel", "master", "(I)I"⟩ : MethodName), prog_14_method_112_code, 7, (Option.some FieldType.int), [], [])
-- 84: SorryPursesLaw.month (LSorryPurses;IIIII[J)I
def kb_84_0 : List ab_Row := [(.aload 6, 2, []), (.iconst 0, 1, []), (.aload_n 0, 1, []), (.iload_n 1, 1, []), (.iload_n 2, 1, []), (.iload_n 3, 1, []), (.iload 4, 2, []), (.iload 5, 2, []), (.invokevirtual 111, 3, [600, 189, 6, 0, 1763, 1764, 1765, 11]), (.i2l, 1, []), (.lastore, 1, []), (.goto 7, 3, [23])]
def kb_84_19 : List ab_Row := [(.astore 7, 2, []), (.iconst 1, 1, []), (.ireturn, 1, [])]
def kb_84_23 : List ab_Row := [(.iconst 0, 1, []), (.ireturn, 1, [])]
def kt_84 : List (Nat × List ab_Row) := [(0, kb_84_0), (19, kb_84_19), (23, kb_84_23)]
def km_84 : ab_Mi := ((⟨"SorryPursesLaw", "month", "(LSorryPurses;IIIII[J)I"⟩ : MethodName), method_33_code, 8, (Option.some FieldType.int), [(0, 16, 19, 13)], [(0, 16, 19, 1)])
-- 85: SorryPursesModel.month (IIIII)I
def kb_85_0 : List ab_Row := [(.aload_n 0, 1, []), (.iconst 0, 1, []), (.putfield 101, 3, [12, 0, 1832, 0]), (.aload_n 0, 1, []), (.iload_n 2, 1, []), (.iconst 1, 1, []), (.bipush 30, 2, []), (.invokestatic 135, 3, [600, 112, 3, 1, 1980, 1981, 0, 0]), (.ifCond .eq 34, 3, [47]), (.iload_n 3, 1, []), (.iconst 0, 1, []), (.bipush 16, 2, []), (.invokestatic 135, 3, [600, 112, 3, 1, 1980, 1981, 0, 0]), (.ifCond .eq 24, 3, [47]), (.iload 4, 2, []), (.iconst 0, 1, []), (.bipush 16, 2, []), (.invokestatic 135, 3, [600, 112, 3, 1, 1980, 1981, 0, 0]), (.ifCond .eq 13, 3, [47]), (.iload 5, 2, []), (.iconst 0, 1, []), (.iconst 3, 1, []), (.invokestatic 135, 3, [600, 112, 3, 1, 1980, 1981, 0, 0]), (.ifCond .ne 7, 3, [51])]
def kb_85_47 : List ab_Row := [(.iconst 1, 1, []), (.goto 4, 3, [52])]
def kb_85_51 : List ab_Row := [(.iconst 0, 1, [])]
def kb_85_52 : List ab_Row := [(.iconst 1, 1, []), (.iconst 1, 1, []), (.invokevirtual 180, 3, [600, 113, 4, 0, 1983, 1985, 50, 12]), (.ifCond .eq 5, 3, [62]), (.iconst 0, 1, []), (.ireturn, 1, [])]
def kb_85_62 : List ab_Row := [(.aload_n 0, 1, []), (.iload_n 1, 1, []), (.iload_n 2, 1, []), (.iload_n 3, 1, []), (.iload 4, 2, []), (.invokevirtual 399, 3, [600, 190, 5, 0, 2385, 2387, 97, 12]), (.iload 5, 2, []), (.ifCond .ne 14, 3, [87]), (.aload_n 0, 1, []), (.aload_n 0, 1, []), (.getfield 61, 3, [12, 26, 1858]), (.invokevirtual 342, 3, [600, 142, 2, 0, 2226, 2228, 86, 12]), (.goto 42, 3, [126])]
def kb_85_87 : List ab_Row := [(.iload 5, 2, []), (.iconst 1, 1, []), (.if_icmp .ne 14, 3, [104]), (.aload_n 0, 1, []), (.aload_n 0, 1, []), (.getfield 61, 3, [12, 26, 1858]), (.invokevirtual 324, 3, [600, 132, 2, 0, 2192, 2194, 83, 12]), (.goto 25, 3, [126])]
def kb_85_104 : List ab_Row := [(.iload 5, 2, []), (.iconst 2, 1, []), (.if_icmp .ne 10, 3, [117]), (.aload_n 0, 1, []), (.getfield 389, 3, [12, 44, 1876]), (.goto 12, 3, [126])]
def kb_85_117 : List ab_Row := [(.aload_n 0, 1, []), (.aload_n 0, 1, []), (.getfield 61, 3, [12, 26, 1858]), (.iconst 1, 1, []), (.invokevirtual 382, 3, [600, 177, 3, 0, 2361, 2363, 96, 12])]
def kb_85_126 : List ab_Row := [(.ireturn, 1, [])]
def kt_85 : List (Nat × List ab_Row) := [(0, kb_85_0), (47, kb_85_47), (51, kb_85_51), (52, kb_85_52), (62, kb_85_62), (87, kb_85_87), (104, kb_85_104), (117, kb_85_117), (126, kb_85_126)]
def km_85 : ab_Mi := ((⟨"SorryPursesModel", "month", "(IIIII)I"⟩ : MethodName), prog_14_method_116_code, 6, (Option.some FieldType.int), [], [])
-- 86: SorryPursesLaw.span (LSorryPurses;IIIIIII[J)I
def kb_86_0 : List ab_Row := [(.aload 8, 2, []), (.iconst 0, 1, []), (.aload_n 0, 1, []), (.iload_n 1, 1, []), (.iload_n 2, 1, []), (.iload_n 3, 1, []), (.iload 4, 2, []), (.iload 5, 2, []), (.iload 6, 2, []), (.iload 7, 2, []), (.invokevirtual 114, 3, [600, 191, 8, 0, 1804, 1805, 1806, 11]), (.i2l, 1, []), (.lastore, 1, []), (.goto 7, 3, [27])]
def kb_86_23 : List ab_Row := [(.astore 9, 2, []), (.iconst 1, 1, []), (.ireturn, 1, [])]
def kb_86_27 : List ab_Row := [(.iconst 0, 1, []), (.ireturn, 1, [])]
def kt_86 : List (Nat × List ab_Row) := [(0, kb_86_0), (23, kb_86_23), (27, kb_86_27)]
def km_86 : ab_Mi := ((⟨"SorryPursesLaw", "span", "(LSorryPurses;IIIIIII[J)I"⟩ : MethodName), method_34_code, 10, (Option.some FieldType.int), [(0, 20, 23, 13)], [(0, 20, 23, 1)])
-- 87: SorryPursesModel.span (IIIIIII)I
def kb_87_0 : List ab_Row := [(.aload_n 0, 1, []), (.iconst 0, 1, []), (.putfield 101, 3, [12, 0, 1832, 0]), (.aload_n 0, 1, []), (.iload_n 2, 1, []), (.iconst 1, 1, []), (.bipush 20, 2, []), (.invokestatic 135, 3, [600, 112, 3, 1, 1980, 1981, 0, 0]), (.ifCond .eq 54, 3, [67]), (.iload_n 3, 1, []), (.iconst 1, 1, []), (.bipush 30, 2, []), (.invokestatic 135, 3, [600, 112, 3, 1, 1980, 1981, 0, 0]), (.ifCond .eq 44, 3, [67]), (.iload 4, 2, []), (.iconst 0, 1, []), (.bipush 16, 2, []), (.invokestatic 135, 3, [600, 112, 3, 1, 1980, 1981, 0, 0]), (.ifCond .eq 33, 3, [67]), (.iload 5, 2, []), (.iconst 0, 1, []), (.bipush 16, 2, []), (.invokestatic 135, 3, [600, 112, 3, 1, 1980, 1981, 0, 0]), (.ifCond .eq 22, 3, [67]), (.iload 6, 2, []), (.iconst 0, 1, []), (.iconst 2, 1, []), (.invokestatic 135, 3, [600, 112, 3, 1, 1980, 1981, 0, 0]), (.ifCond .eq 12, 3, [67]), (.aload_n 0, 1, []), (.iload 7, 2, []), (.invokevirtual 331, 3, [600, 137, 2, 0, 2208, 2210, 85, 12]), (.ifCond .ne 7, 3, [71])]
def kb_87_67 : List ab_Row := [(.iconst 1, 1, []), (.goto 4, 3, [72])]
def kb_87_71 : List ab_Row := [(.iconst 0, 1, [])]
def kb_87_72 : List ab_Row := [(.iconst 1, 1, []), (.iconst 1, 1, []), (.invokevirtual 180, 3, [600, 113, 4, 0, 1983, 1985, 50, 12]), (.ifCond .eq 5, 3, [82]), (.iconst 0, 1, []), (.ireturn, 1, [])]
def kb_87_82 : List ab_Row := [(.iconst (-1), 1, []), (.istore 8, 2, []), (.iconst 0, 1, []), (.istore 9, 2, []), (.iconst 0, 1, []), (.istore 10, 2, []), (.iconst 0, 1, []), (.istore 11, 2, [])]
def kb_87_94 : List ab_Row := [(.iload 11, 2, []), (.iload_n 2, 1, []), (.if_icmp .ge 85, 3, [182]), (.aload_n 0, 1, []), (.iload_n 1, 1, []), (.iload 11, 2, []), (.iadd, 1, []), (.iload_n 3, 1, []), (.iload 4, 2, []), (.iload 5, 2, []), (.invokevirtual 399, 3, [600, 190, 5, 0, 2385, 2387, 97, 12]), (.aload_n 0, 1, []), (.aload_n 0, 1, []), (.getfield 61, 3, [12, 26, 1858]), (.invokevirtual 342, 3, [600, 142, 2, 0, 2226, 2228, 86, 12]), (.istore 12, 2, []), (.iload 8, 2, []), (.iconst (-1), 1, []), (.if_icmp .ne 8, 3, [134]), (.iload 12, 2, []), (.goto 10, 3, [141])]
def kb_87_134 : List ab_Row := [(.iload 8, 2, []), (.iload 12, 2, []), (.invokestatic 241, 3, [600, 192, 2, 1, 2099, 2100, 0, 0])]
def kb_87_141 : List ab_Row := [(.istore 8, 2, []), (.iload 9, 2, []), (.iload 12, 2, []), (.invokestatic 244, 3, [600, 193, 2, 1, 2102, 2103, 0, 0]), (.istore 9, 2, []), (.iload 10, 2, []), (.aload_n 0, 1, []), (.aload_n 0, 1, []), (.getfield 61, 3, [12, 26, 1858]), (.iconst 1, 1, []), (.invokevirtual 382, 3, [600, 177, 3, 0, 2361, 2363, 96, 12]), (.iload 7, 2, []), (.if_icmp .ne 7, 3, [172]), (.iconst 1, 1, []), (.goto 4, 3, [173])]
def kb_87_172 : List ab_Row := [(.iconst 0, 1, [])]
def kb_87_173 : List ab_Row := [(.iadd, 1, []), (.istore 10, 2, []), (.iinc 11 1, 3, []), (.goto (-85), 3, [94])]
def kb_87_182 : List ab_Row := [(.iload 6, 2, []), (.ifCond .ne 8, 3, [192]), (.iload 8, 2, []), (.goto 16, 3, [205])]
def kb_87_192 : List ab_Row := [(.iload 6, 2, []), (.iconst 1, 1, []), (.if_icmp .ne 8, 3, [203]), (.iload 9, 2, []), (.goto 5, 3, [205])]
def kb_87_203 : List ab_Row := [(.iload 10, 2, [])]
def kb_87_205 : List ab_Row := [(.ireturn, 1, [])]
def kt_87 : List (Nat × List ab_Row) := [(0, kb_87_0), (67, kb_87_67), (71, kb_87_71), (72, kb_87_72), (82, kb_87_82), (94, kb_87_94), (134, kb_87_134), (141, kb_87_141), (172, kb_87_172), (173, kb_87_173), (182, kb_87_182), (192, kb_87_192), (203, kb_87_203), (205, kb_87_205)]
def km_87 : ab_Mi := ((⟨"SorryPursesModel", "span", "(IIIIIII)I"⟩ : MethodName), prog_14_method_117_code, 13, (Option.some FieldType.int), [], [])
-- 88: SorryPurses.image ()I
def kb_88_0 : List ab_Row := [(.aload_n 0, 1, []), (.getfield 101, 3, [11, 13, 507]), (.getfield 373, 3, [3, 6, 478]), (.iconst 3, 1, []), (.if_icmp .lt 5, 3, [13]), (.iconst (-1), 1, []), (.ireturn, 1, [])]
def kb_88_13 : List ab_Row := [(.aload_n 0, 1, []), (.getfield 101, 3, [11, 13, 507]), (.aload_n 0, 1, []), (.getfield 49, 3, [11, 7, 501]), (.aload_n 0, 1, []), (.getfield 58, 3, [11, 8, 502]), (.getfield 148, 3, [4, 5, 335]), (.invokevirtual 376, 3, [600, 194, 3, 0, 1056, 1057, 1058, 3]), (.aload_n 0, 1, []), (.getfield 101, 3, [11, 13, 507]), (.getfield 373, 3, [3, 6, 478]), (.ireturn, 1, [])]
def kt_88 : List (Nat × List ab_Row) := [(0, kb_88_0), (13, kb_88_13)]
def km_88 : ab_Mi := ((⟨"SorryPurses", "image", "()I"⟩ : MethodName), prog_1_method_44_code, 1, (Option.some FieldType.int), [], [])
-- 89: SorryPursesModel.image ()I
def kb_89_0 : List ab_Row := [(.aload_n 0, 1, []), (.iconst 0, 1, []), (.putfield 101, 3, [12, 0, 1832, 0]), (.aload_n 0, 1, []), (.getfield 210, 3, [12, 32, 1864]), (.iconst 3, 1, []), (.if_icmp .ne 5, 3, [15]), (.iconst (-1), 1, []), (.ireturn, 1, [])]
def kb_89_15 : List ab_Row := [(.aload_n 0, 1, []), (.aload_n 0, 1, []), (.getfield 67, 3, [12, 28, 1860]), (.aload_n 0, 1, []), (.getfield 210, 3, [12, 32, 1864]), (.aaload, 1, []), (.iconst 0, 1, []), (.invokevirtual 409, 3, [600, 195, 3, 0, 2406, 2408, 100, 12]), (.aload_n 0, 1, []), (.dup, 1, []), (.getfield 210, 3, [12, 32, 1864]), (.iconst 1, 1, []), (.iadd, 1, []), (.putfield 210, 3, [12, 32, 1864, 0]), (.aload_n 0, 1, []), (.getfield 210, 3, [12, 32, 1864]), (.ireturn, 1, [])]
def kt_89 : List (Nat × List ab_Row) := [(0, kb_89_0), (15, kb_89_15)]
def km_89 : ab_Mi := ((⟨"SorryPursesModel", "image", "()I"⟩ : MethodName), prog_14_method_120_code, 1, (Option.some FieldType.int), [], [])
-- 90: SorryPurses.restore ()I
def kb_90_0 : List ab_Row := [(.aload_n 0, 1, []), (.getfield 101, 3, [11, 13, 507]), (.getfield 373, 3, [3, 6, 478]), (.ifCond .ne 5, 3, [12]), (.iconst (-1), 1, []), (.ireturn, 1, [])]
def kb_90_12 : List ab_Row := [(.aload_n 0, 1, []), (.getfield 58, 3, [11, 8, 502]), (.aload_n 0, 1, []), (.getfield 101, 3, [11, 13, 507]), (.aload_n 0, 1, []), (.getfield 49, 3, [11, 7, 501]), (.invokevirtual 380, 3, [600, 196, 2, 0, 1068, 1069, 1070, 3]), (.putfield 148, 3, [4, 5, 335, 1]), (.aload_n 0, 1, []), (.getfield 76, 3, [11, 10, 504]), (.iconst 0, 1, []), (.putfield 160, 3, [2, 6, 378, 1]), (.aload_n 0, 1, []), (.getfield 101, 3, [11, 13, 507]), (.getfield 373, 3, [3, 6, 478]), (.ireturn, 1, [])]
def kt_90 : List (Nat × List ab_Row) := [(0, kb_90_0), (12, kb_90_12)]
def km_90 : ab_Mi := ((⟨"SorryPurses", "restore", "()I"⟩ : MethodName), prog_1_method_45_code, 1, (Option.some FieldType.int), [], [])
-- 91: SorryPursesModel.restore ()I
def kb_91_0 : List ab_Row := [(.aload_n 0, 1, []), (.iconst 0, 1, []), (.putfield 101, 3, [12, 0, 1832, 0]), (.aload_n 0, 1, []), (.getfield 210, 3, [12, 32, 1864]), (.ifCond .ne 5, 3, [14]), (.iconst (-1), 1, []), (.ireturn, 1, [])]
def kb_91_14 : List ab_Row := [(.aload_n 0, 1, []), (.dup, 1, []), (.getfield 210, 3, [12, 32, 1864]), (.iconst 1, 1, []), (.isub, 1, []), (.putfield 210, 3, [12, 32, 1864, 0]), (.aload_n 0, 1, []), (.aload_n 0, 1, []), (.getfield 67, 3, [12, 28, 1860]), (.aload_n 0, 1, []), (.getfield 210, 3, [12, 32, 1864]), (.aaload, 1, []), (.iconst 1, 1, []), (.invokevirtual 409, 3, [600, 195, 3, 0, 2406, 2408, 100, 12]), (.aload_n 0, 1, []), (.iconst 0, 1, []), (.putfield 207, 3, [12, 31, 1863, 0]), (.aload_n 0, 1, []), (.getfield 210, 3, [12, 32, 1864]), (.ireturn, 1, [])]
def kt_91 : List (Nat × List ab_Row) := [(0, kb_91_0), (14, kb_91_14)]
def km_91 : ab_Mi := ((⟨"SorryPursesModel", "restore", "()I"⟩ : MethodName), prog_14_method_121_code, 1, (Option.some FieldType.int), [], [])
-- 92: SorryPurses.status (I)I
def kb_92_0 : List ab_Row := [(.iload_n 1, 1, []), (.ifCond .lt 21, 3, [22]), (.iload_n 1, 1, []), (.aload_n 0, 1, []), (.getfield 105, 3, [11, 14, 508]), (.arraylength, 1, []), (.if_icmp .ge 12, 3, [22]), (.aload_n 0, 1, []), (.getfield 105, 3, [11, 14, 508]), (.iload_n 1, 1, []), (.iaload, 1, []), (.goto 4, 3, [23])]
def kb_92_22 : List ab_Row := [(.iconst (-1), 1, [])]
def kb_92_23 : List ab_Row := [(.ireturn, 1, [])]
def kt_92 : List (Nat × List ab_Row) := [(0, kb_92_0), (22, kb_92_22), (23, kb_92_23)]
def km_92 : ab_Mi := ((⟨"SorryPurses", "status", "(I)I"⟩ : MethodName), prog_1_method_46_code, 2, (Option.some FieldType.int), [], [])
-- 93: SorryPursesModel.status (I)I
def kb_93_0 : List ab_Row := [(.aload_n 0, 1, []), (.iconst 0, 1, []), (.putfield 101, 3, [12, 0, 1832, 0]), (.iload_n 1, 1, []), (.iconst 0, 1, []), (.iconst 2, 1, []), (.invokestatic 135, 3, [600, 112, 3, 1, 1980, 1981, 0, 0]), (.ifCond .eq 12, 3, [23]), (.aload_n 0, 1, []), (.getfield 17, 3, [12, 10, 1842]), (.iload_n 1, 1, []), (.iaload, 1, []), (.goto 4, 3, [24])]
def kb_93_23 : List ab_Row := [(.iconst (-1), 1, [])]
def kb_93_24 : List ab_Row := [(.ireturn, 1, [])]
def kt_93 : List (Nat × List ab_Row) := [(0, kb_93_0), (23, kb_93_23), (24, kb_93_24)]
def km_93 : ab_Mi := ((⟨"SorryPursesModel", "status", "(I)I"⟩ : MethodName), prog_14_method_122_code, 2, (Option.some FieldType.int), [], [])
-- 94: SorryPurses.count (I)I
def kb_94_0 : List ab_Row := [(.iload_n 1, 1, []), (.tableswitch 51 0 2 #[27, 35, 43], 27, [28, 36, 44, 52])]
def kb_94_28 : List ab_Row := [(.aload_n 0, 1, []), (.getfield 101, 3, [11, 13, 507]), (.getfield 373, 3, [3, 6, 478]), (.ireturn, 1, [])]
def kb_94_36 : List ab_Row := [(.aload_n 0, 1, []), (.getfield 10, 3, [11, 0, 494]), (.getfield 117, 3, [9, 1, 150]), (.ireturn, 1, [])]
def kb_94_44 : List ab_Row := [(.aload_n 0, 1, []), (.getfield 101, 3, [11, 13, 507]), (.getfield 170, 3, [3, 1, 472]), (.ireturn, 1, [])]
def kb_94_52 : List ab_Row := [(.iconst (-1), 1, []), (.ireturn, 1, [])]
def kt_94 : List (Nat × List ab_Row) := [(0, kb_94_0), (28, kb_94_28), (36, kb_94_36), (44, kb_94_44), (52, kb_94_52)]
def km_94 : ab_Mi := ((⟨"SorryPurses", "count", "(I)I"⟩ : MethodName), prog_1_method_47_code, 2, (Option.some FieldType.int), [], [])
-- 95: SorryPursesModel.count (I)I
def kb_95_0 : List ab_Row := [(.aload_n 0, 1, []), (.iconst 0, 1, []), (.putfield 101, 3, [12, 0, 1832, 0]), (.iload_n 1, 1, []), (.ifCond .ne 10, 3, [16]), (.aload_n 0, 1, []), (.getfield 210, 3, [12, 32, 1864]), (.goto 28, 3, [41])]
def kb_95_16 : List ab_Row := [(.iload_n 1, 1, []), (.iconst 1, 1, []), (.if_icmp .ne 10, 3, [28]), (.aload_n 0, 1, []), (.getfield 104, 3, [12, 1, 1833]), (.goto 16, 3, [41])]
def kb_95_28 : List ab_Row := [(.iload_n 1, 1, []), (.iconst 2, 1, []), (.if_icmp .ne 10, 3, [40]), (.aload_n 0, 1, []), (.getfield 204, 3, [12, 30, 1862]), (.goto 4, 3, [41])]
def kb_95_40 : List ab_Row := [(.iconst (-1), 1, [])]
def kb_95_41 : List ab_Row := [(.ireturn, 1, [])]
def kt_95 : List (Nat × List ab_Row) := [(0, kb_95_0), (16, kb_95_16), (28, kb_95_28), (40, kb_95_40), (41, kb_95_41)]
def km_95 : ab_Mi := ((⟨"SorryPursesModel", "count", "(I)I"⟩ : MethodName), prog_14_method_123_code, 2, (Option.some FieldType.int), [], [])
-- 96: SorryPurses$Tape.<init> ()V
def kb_96_0 : List ab_Row := [(.aload_n 0, 1, []), (.invokespecial 3, 3, [700, 147, 140, 141]), (.aload_n 0, 1, []), (.sipush 600, 3, []), (.newarray .byte, 2, [21, 178]), (.putfield 9, 3, [9, 0, 148, 2]), (.aload_n 0, 1, []), (.iconst (-1), 1, []), (.putfield 15, 3, [9, 6, 161, 0]), (.return_, 1, [])]
def kt_96 : List (Nat × List ab_Row) := [(0, kb_96_0)]
def km_96 : ab_Mi := ((⟨"SorryPurses$Tape", "<init>", "()V"⟩ : MethodName), prog_11_method_1_code, 1, (Option.none : Option FieldType), [], [])
-- 97: SorryPurses$Town.<init> ()V
def kb_97_0 : List ab_Row := [(.aload_n 0, 1, []), (.invokespecial 3, 3, [700, 184, 140, 141]), (.aload_n 0, 1, []), (.bipush 8, 2, []), (.newarray .int, 2, [20, 220]), (.putfield 9, 3, [10, 0, 185, 2]), (.aload_n 0, 1, []), (.bipush 24, 2, []), (.newarray .int, 2, [20, 220]), (.putfield 15, 3, [10, 1, 186, 2]), (.aload_n 0, 1, []), (.bipush 24, 2, []), (.newarray .int, 2, [20, 220]), (.putfield 18, 3, [10, 2, 187, 2]), (.aload_n 0, 1, []), (.bipush 24, 2, []), (.newarray .int, 2, [20, 220]), (.putfield 21, 3, [10, 3, 188, 2]), (.aload_n 0, 1, []), (.bipush 24, 2, []), (.newarray .int, 2, [20, 220]), (.putfield 24, 3, [10, 4, 189, 2]), (.aload_n 0, 1, []), (.bipush 10, 2, []), (.putfield 27, 3, [10, 7, 196, 0]), (.aload_n 0, 1, []), (.bipush 30, 2, []), (.putfield 31, 3, [10, 8, 199, 0]), (.return_, 1, [])]
def kt_97 : List (Nat × List ab_Row) := [(0, kb_97_0)]
def km_97 : ab_Mi := ((⟨"SorryPurses$Town", "<init>", "()V"⟩ : MethodName), prog_12_method_1_code, 1, (Option.none : Option FieldType), [], [])
-- 98: SorryPurses$Law.<init> ()V
def kb_98_0 : List ab_Row := [(.aload_n 0, 1, []), (.invokespecial 3, 3, [700, 226, 140, 141]), (.aload_n 0, 1, []), (.sipush 150, 3, []), (.newarray .int, 2, [20, 220]), (.putfield 9, 3, [5, 0, 232, 2]), (.aload_n 0, 1, []), (.bipush 32, 2, []), (.newarray .int, 2, [20, 220]), (.putfield 15, 3, [5, 2, 234, 2]), (.getstatic 18, 3, [1, 227]), (.iconst 0, 1, []), (.aload_n 0, 1, []), (.getfield 9, 3, [5, 0, 232]), (.iconst 0, 1, []), (.getstatic 18, 3, [1, 227]), (.arraylength, 1, []), (.invokestatic 21, 3, [1000, 229, 231, 230, 107]), (.aload_n 0, 1, []), (.getstatic 18, 3, [1, 227]), (.arraylength, 1, []), (.putfield 27, 3, [5, 1, 233, 0]), (.return_, 1, [])]
def kt_98 : List (Nat × List ab_Row) := [(0, kb_98_0)]
def km_98 : ab_Mi := ((⟨"SorryPurses$Law", "<init>", "()V"⟩ : MethodName), prog_7_method_1_code, 1, (Option.none : Option FieldType), [], [])
-- 99: SorryPurses$Book.<init> ()V
def kb_99_0 : List ab_Row := [(.aload_n 0, 1, []), (.invokespecial 3, 3, [700, 247, 140, 141]), (.aload_n 0, 1, []), (.bipush 8, 2, []), (.newarray .int, 2, [20, 220]), (.putfield 9, 3, [0, 0, 248, 2]), (.aload_n 0, 1, []), (.bipush 8, 2, []), (.newarray .int, 2, [20, 220]), (.putfield 15, 3, [0, 1, 249, 2]), (.aload_n 0, 1, []), (.bipush 16, 2, []), (.newarray .int, 2, [20, 220]), (.putfield 18, 3, [0, 3, 252, 2]), (.aload_n 0, 1, []), (.bipush 16, 2, []), (.newarray .int, 2, [20, 220]), (.putfield 21, 3, [0, 4, 253, 2]), (.aload_n 0, 1, []), (.bipush 16, 2, []), (.newarray .int, 2, [20, 220]), (.putfield 24, 3, [0, 5, 254, 2]), (.aload_n 0, 1, []), (.bipush 16, 2, []), (.newarray .int, 2, [20, 220]), (.putfield 27, 3, [0, 6, 255, 2]), (.aload_n 0, 1, []), (.bipush 8, 2, []), (.newarray .boolean, 2, [23, 294]), (.putfield 30, 3, [0, 8, 257, 2]), (.aload_n 0, 1, []), (.bipush 8, 2, []), (.newarray .int, 2, [20, 220]), (.putfield 34, 3, [0, 9, 258, 2]), (.aload_n 0, 1, []), (.sipush 136, 3, []), (.newarray .int, 2, [20, 220]), (.putfield 37, 3, [0, 10, 259, 2]), (.aload_n 0, 1, []), (.sipush 136, 3, []), (.newarray .int, 2, [20, 220]), (.putfield 40, 3, [0, 11, 260, 2]), (.return_, 1, [])]
def kt_99 : List (Nat × List ab_Row) := [(0, kb_99_0)]
def km_99 : ab_Mi := ((⟨"SorryPurses$Book", "<init>", "()V"⟩ : MethodName), prog_2_method_1_code, 1, (Option.none : Option FieldType), [], [])
-- 100: SorryPurses$Ledger.<init> ()V
def kb_100_0 : List ab_Row := [(.aload_n 0, 1, []), (.invokespecial 3, 3, [700, 300, 140, 141]), (.aload_n 0, 1, []), (.sipush 360, 3, []), (.newarray .int, 2, [20, 220]), (.putfield 9, 3, [6, 0, 301, 2]), (.aload_n 0, 1, []), (.iconst 5, 1, []), (.newarray .int, 2, [20, 220]), (.putfield 15, 3, [6, 1, 302, 2]), (.return_, 1, [])]
def kt_100 : List (Nat × List ab_Row) := [(0, kb_100_0)]
def km_100 : ab_Mi := ((⟨"SorryPurses$Ledger", "<init>", "()V"⟩ : MethodName), prog_8_method_1_code, 1, (Option.none : Option FieldType), [], [])
-- 101: SorryPurses$Judge.<init> (LSorryPurses$Town;LSorryPurses$Law;LSorryPurses$Ledger;)V
def kb_101_0 : List ab_Row := [(.aload_n 0, 1, []), (.invokespecial 3, 3, [700, 328, 140, 141]), (.aload_n 0, 1, []), (.bipush 8, 2, []), (.newarray .int, 2, [20, 220]), (.putfield 11, 3, [4, 3, 332, 2]), (.aload_n 0, 1, []), (.bipush 40, 2, []), (.newarray .int, 2, [20, 220]), (.putfield 17, 3, [4, 4, 333, 2]), (.aload_n 0, 1, []), (.bipush 30, 2, []), (.putfield 20, 3, [4, 5, 334, 0]), (.aload_n 0, 1, []), (.aload_n 1, 1, []), (.putfield 24, 3, [4, 0, 329, 2]), (.aload_n 0, 1, []), (.aload_n 2, 1, []), (.putfield 28, 3, [4, 1, 330, 2]), (.aload_n 0, 1, []), (.aload_n 3, 1, []), (.putfield 32, 3, [4, 2, 331, 2]), (.return_, 1, [])]
def kt_101 : List (Nat × List ab_Row) := [(0, kb_101_0)]
def km_101 : ab_Mi := ((⟨"SorryPurses$Judge", "<init>", "(LSorryPurses$Town;LSorryPurses$Law;LSorryPurses$Ledger;)V"⟩ : MethodName), prog_6_method_1_code, 4, (Option.none : Option FieldType), [], [])
-- 102: SorryPurses$Purse.<init> (LSorryPurses$Ledger;)V
def kb_102_0 : List ab_Row := [(.aload_n 0, 1, []), (.invokespecial 5, 3, [700, 354, 140, 141]), (.aload_n 0, 1, []), (.sipush 313, 3, []), (.newarray .long, 2, [22, 365]), (.putfield 11, 3, [8, 1, 356, 2]), (.aload_n 0, 1, []), (.sipush 1000, 3, []), (.newarray .long, 2, [22, 365]), (.putfield 15, 3, [8, 2, 357, 2]), (.aload_n 0, 1, []), (.aload_n 1, 1, []), (.putfield 18, 3, [8, 0, 355, 2]), (.return_, 1, [])]
def kt_102 : List (Nat × List ab_Row) := [(0, kb_102_0)]
def km_102 : ab_Mi := ((⟨"SorryPurses$Purse", "<init>", "(LSorryPurses$Ledger;)V"⟩ : MethodName), prog_10_method_1_code, 2, (Option.none : Option FieldType), [], [])
-- 103: SorryPurses$Deeds.<init> (LSorryPurses$Town;LSorryPurses$Ledger;LSorryPurses$Judge;LSorryPurses$Purse;)V
def kb_103_0 : List ab_Row := [(.aload_n 0, 1, []), (.invokespecial 3, 3, [700, 371, 140, 141]), (.aload_n 0, 1, []), (.bipush 120, 2, []), (.newarray .int, 2, [20, 220]), (.putfield 11, 3, [2, 4, 376, 2]), (.aload_n 0, 1, []), (.aload_n 1, 1, []), (.putfield 15, 3, [2, 0, 372, 2]), (.aload_n 0, 1, []), (.aload_n 2, 1, []), (.putfield 19, 3, [2, 1, 373, 2]), (.aload_n 0, 1, []), (.aload_n 3, 1, []), (.putfield 23, 3, [2, 2, 374, 2]), (.aload_n 0, 1, []), (.aload 4, 2, []), (.putfield 27, 3, [2, 3, 375, 2]), (.return_, 1, [])]
def kt_103 : List (Nat × List ab_Row) := [(0, kb_103_0)]
def km_103 : ab_Mi := ((⟨"SorryPurses$Deeds", "<init>", "(LSorryPurses$Town;LSorryPurses$Ledger;LSorryPurses$Judge;LSorryPurses$Purse;)V"⟩ : MethodName), prog_4_method_1_code, 5, (Option.none : Option FieldType), [], [])
-- 104: SorryPurses$Crowd.<init> (LSorryPurses$Town;LSorryPurses$Ledger;LSorryPurses$Judge;)V
def kb_104_0 : List ab_Row := [(.aload_n 0, 1, []), (.invokespecial 3, 3, [700, 400, 140, 141]), (.aload_n 0, 1, []), (.sipush 256, 3, []), (.newarray .int, 2, [20, 220]), (.putfield 11, 3, [1, 3, 404, 2]), (.aload_n 0, 1, []), (.sipush 256, 3, []), (.newarray .int, 2, [20, 220]), (.putfield 15, 3, [1, 4, 405, 2]), (.aload_n 0, 1, []), (.bipush 8, 2, []), (.newarray .int, 2, [20, 220]), (.putfield 18, 3, [1, 5, 406, 2]), (.aload_n 0, 1, []), (.bipush 64, 2, []), (.newarray .int, 2, [20, 220]), (.putfield 21, 3, [1, 8, 410, 2]), (.aload_n 0, 1, []), (.bipush 8, 2, []), (.newarray .int, 2, [20, 220]), (.putfield 24, 3, [1, 9, 411, 2]), (.aload_n 0, 1, []), (.sipush 2304, 3, []), (.newarray .int, 2, [20, 220]), (.putfield 27, 3, [1, 10, 412, 2]), (.aload_n 0, 1, []), (.aload_n 1, 1, []), (.putfield 30, 3, [1, 0, 401, 2]), (.aload_n 0, 1, []), (.aload_n 2, 1, []), (.putfield 34, 3, [1, 1, 402, 2]), (.aload_n 0, 1, []), (.aload_n 3, 1, []), (.putfield 38, 3, [1, 2, 403, 2]), (.return_, 1, [])]
def kt_104 : List (Nat × List ab_Row) := [(0, kb_104_0)]
def km_104 : ab_Mi := ((⟨"SorryPurses$Crowd", "<init>", "(LSorryPurses$Town;LSorryPurses$Ledger;LSorryPurses$Judge;)V"⟩ : MethodName), prog_3_method_1_code, 4, (Option.none : Option FieldType), [], [])
-- 105: SorryPurses$Months.<init> (LSorryPurses$Town;LSorryPurses$Ledger;)V
def kb_105_0 : List ab_Row := [(.aload_n 0, 1, []), (.invokespecial 3, 3, [700, 441, 140, 141]), (.aload_n 0, 1, []), (.new 9, 3, [6, 4, 442, 296, 109]), (.dup, 1, []), (.invokespecial 11, 3, [600, 100, 1, 4, 443, 298, 0, 0]), (.putfield 12, 3, [7, 2, 446, 2]), (.aload_n 0, 1, []), (.aload_n 1, 1, []), (.putfield 18, 3, [7, 0, 444, 2]), (.aload_n 0, 1, []), (.aload_n 2, 1, []), (.putfield 22, 3, [7, 1, 445, 2]), (.return_, 1, [])]
def kt_105 : List (Nat × List ab_Row) := [(0, kb_105_0)]
def km_105 : ab_Mi := ((⟨"SorryPurses$Months", "<init>", "(LSorryPurses$Town;LSorryPurses$Ledger;)V"⟩ : MethodName), prog_9_method_1_code, 3, (Option.none : Option FieldType), [], [])
-- 106: SorryPurses$History.<init> ()V
def kb_106_0 : List ab_Row := [(.aload_n 0, 1, []), (.invokespecial 3, 3, [700, 467, 140, 141]), (.aload_n 0, 1, []), (.bipush 20, 2, []), (.anewarray 9, 3, [468]), (.putfield 11, 3, [3, 0, 470, 2]), (.aload_n 0, 1, []), (.iconst 3, 1, []), (.anewarray 9, 3, [468]), (.putfield 17, 3, [3, 2, 473, 2]), (.aload_n 0, 1, []), (.bipush 60, 2, []), (.anewarray 9, 3, [468]), (.putfield 20, 3, [3, 3, 474, 2]), (.aload_n 0, 1, []), (.iconst 3, 1, []), (.newarray .int, 2, [20, 220]), (.putfield 23, 3, [3, 4, 475, 2]), (.aload_n 0, 1, []), (.iconst 3, 1, []), (.newarray .int, 2, [20, 220]), (.putfield 27, 3, [3, 5, 476, 2]), (.return_, 1, [])]
def kt_106 : List (Nat × List ab_Row) := [(0, kb_106_0)]
def km_106 : ab_Mi := ((⟨"SorryPurses$History", "<init>", "()V"⟩ : MethodName), prog_5_method_1_code, 1, (Option.none : Option FieldType), [], [])
-- 107: SorryPursesModel.tellsNothing ()V
def kb_107_0 : List ab_Row := [(.aload_n 0, 1, []), (.getfield 20, 3, [12, 11, 1843]), (.iconst 0, 1, []), (.iconst 0, 1, []), (.iastore, 1, []), (.aload_n 0, 1, []), (.getfield 20, 3, [12, 11, 1843]), (.iconst 1, 1, []), (.iconst 0, 1, []), (.iastore, 1, []), (.aload_n 0, 1, []), (.getfield 20, 3, [12, 11, 1843]), (.iconst 2, 1, []), (.bipush 10, 2, []), (.iastore, 1, []), (.aload_n 0, 1, []), (.getfield 20, 3, [12, 11, 1843]), (.iconst 3, 1, []), (.bipush 30, 2, []), (.iastore, 1, []), (.return_, 1, [])]
def kt_107 : List (Nat × List ab_Row) := [(0, kb_107_0)]
def km_107 : ab_Mi := ((⟨"SorryPursesModel", "tellsNothing", "()V"⟩ : MethodName), prog_14_method_2_code, 1, (Option.none : Option FieldType), [], [])
-- 108: SorryPursesModel.stands ()V
def kb_108_0 : List ab_Row := [(.iconst 0, 1, []), (.istore_n 1, 1, [])]
def kb_108_2 : List ab_Row := [(.iload_n 1, 1, []), (.iconst 4, 1, []), (.if_icmp .ge 21, 3, [25]), (.aload_n 0, 1, []), (.getfield 23, 3, [12, 12, 1844]), (.iload_n 1, 1, []), (.aload_n 0, 1, []), (.getfield 20, 3, [12, 11, 1843]), (.iload_n 1, 1, []), (.iaload, 1, []), (.iastore, 1, []), (.iinc 1 1, 3, []), (.goto (-20), 3, [2])]
def kb_108_25 : List ab_Row := [(.iconst 0, 1, []), (.istore_n 1, 1, [])]
def kb_108_27 : List ab_Row := [(.iload_n 1, 1, []), (.aload_n 0, 1, []), (.getfield 23, 3, [12, 12, 1844]), (.iconst 0, 1, []), (.iaload, 1, []), (.if_icmp .ge 21, 3, [55]), (.aload_n 0, 1, []), (.getfield 29, 3, [12, 14, 1846]), (.iload_n 1, 1, []), (.aload_n 0, 1, []), (.getfield 26, 3, [12, 13, 1845]), (.iload_n 1, 1, []), (.iaload, 1, []), (.iastore, 1, []), (.iinc 1 1, 3, []), (.goto (-25), 3, [27])]
def kb_108_55 : List ab_Row := [(.iconst 0, 1, []), (.istore_n 1, 1, [])]
def kb_108_57 : List ab_Row := [(.iload_n 1, 1, []), (.sipush 366, 3, []), (.if_icmp .ge 16, 3, [77]), (.aload_n 0, 1, []), (.getfield 58, 3, [12, 25, 1857]), (.iload_n 1, 1, []), (.iconst 0, 1, []), (.iastore, 1, []), (.iinc 1 1, 3, []), (.goto (-17), 3, [57])]
def kb_108_77 : List ab_Row := [(.iconst 0, 1, []), (.istore_n 1, 1, [])]
def kb_108_79 : List ab_Row := [(.iload_n 1, 1, []), (.aload_n 0, 1, []), (.getfield 23, 3, [12, 12, 1844]), (.iconst 1, 1, []), (.iaload, 1, []), (.if_icmp .ge 49, 3, [135]), (.aload_n 0, 1, []), (.getfield 58, 3, [12, 25, 1857]), (.aload_n 0, 1, []), (.getfield 34, 3, [12, 15, 1847]), (.iload_n 1, 1, []), (.aaload, 1, []), (.iconst 0, 1, []), (.iaload, 1, []), (.aload_n 0, 1, []), (.getfield 34, 3, [12, 15, 1847]), (.iload_n 1, 1, []), (.aaload, 1, []), (.iconst 1, 1, []), (.iaload, 1, []), (.aload_n 0, 1, []), (.getfield 34, 3, [12, 15, 1847]), (.iload_n 1, 1, []), (.aaload, 1, []), (.iconst 2, 1, []), (.iaload, 1, []), (.aload_n 0, 1, []), (.getfield 34, 3, [12, 15, 1847]), (.iload_n 1, 1, []), (.aaload, 1, []), (.iconst 3, 1, []), (.iaload, 1, []), (.invokestatic 194, 3, [600, 197, 5, 1, 1826, 1827, 0, 0]), (.pop, 1, []), (.iinc 1 1, 3, []), (.goto (-53), 3, [79])]
def kb_108_135 : List ab_Row := [(.aload_n 0, 1, []), (.iconst 0, 1, []), (.putfield 198, 3, [12, 16, 1848, 0]), (.aload_n 0, 1, []), (.iconst 0, 1, []), (.putfield 201, 3, [12, 29, 1861, 0]), (.aload_n 0, 1, []), (.iconst 0, 1, []), (.putfield 204, 3, [12, 30, 1862, 0]), (.aload_n 0, 1, []), (.iconst 0, 1, []), (.putfield 207, 3, [12, 31, 1863, 0]), (.aload_n 0, 1, []), (.iconst 0, 1, []), (.putfield 210, 3, [12, 32, 1864, 0]), (.return_, 1, [])]
def kt_108 : List (Nat × List ab_Row) := [(0, kb_108_0), (2, kb_108_2), (25, kb_108_25), (27, kb_108_27), (55, kb_108_55), (57, kb_108_57), (77, kb_108_77), (79, kb_108_79), (135, kb_108_135)]
def km_108 : ab_Mi := ((⟨"SorryPursesModel", "stands", "()V"⟩ : MethodName), prog_14_method_27_code, 2, (Option.none : Option FieldType), [], [])
-- 109: SorryPurses$Tape.hasRoom ()Z
def kb_109_0 : List ab_Row := [(.aload_n 0, 1, []), (.getfield 19, 3, [9, 1, 149]), (.bipush 20, 2, []), (.iadd, 1, []), (.sipush 600, 3, []), (.if_icmp .gt 7, 3, [17]), (.iconst 1, 1, []), (.goto 4, 3, [18])]
def kb_109_17 : List ab_Row := [(.iconst 0, 1, [])]
def kb_109_18 : List ab_Row := [(.ireturn, 1, [])]
def kt_109 : List (Nat × List ab_Row) := [(0, kb_109_0), (17, kb_109_17), (18, kb_109_18)]
def km_109 : ab_Mi := ((⟨"SorryPurses$Tape", "hasRoom", "()Z"⟩ : MethodName), prog_11_method_2_code, 1, (Option.some FieldType.boolean), [], [])
-- 110: SorryPurses$Tape.put (I)V
def kb_110_0 : List ab_Row := [(.bipush 24, 2, []), (.istore_n 2, 1, [])]
def kb_110_3 : List ab_Row := [(.iload_n 2, 1, []), (.ifCond .lt 51, 3, [55]), (.aload_n 0, 1, []), (.getfield 19, 3, [9, 1, 149]), (.ifCond .lt 38, 3, [49]), (.aload_n 0, 1, []), (.getfield 19, 3, [9, 1, 149]), (.aload_n 0, 1, []), (.getfield 9, 3, [9, 0, 148]), (.arraylength, 1, []), (.if_icmp .ge 26, 3, [49]), (.aload_n 0, 1, []), (.getfield 9, 3, [9, 0, 148]), (.aload_n 0, 1, []), (.getfield 19, 3, [9, 1, 149]), (.iload_n 1, 1, []), (.iload_n 2, 1, []), (.ishr, 1, []), (.i2b, 1, []), (.bastore, 1, []), (.aload_n 0, 1, []), (.dup, 1, []), (.getfield 19, 3, [9, 1, 149]), (.iconst 1, 1, []), (.iadd, 1, []), (.putfield 19, 3, [9, 1, 149, 0])]
def kb_110_49 : List ab_Row := [(.iinc 2 (-8), 3, []), (.goto (-49), 3, [3])]
def kb_110_55 : List ab_Row := [(.return_, 1, [])]
def kt_110 : List (Nat × List ab_Row) := [(0, kb_110_0), (3, kb_110_3), (49, kb_110_49), (55, kb_110_55)]
def km_110 : ab_Mi := ((⟨"SorryPurses$Tape", "put", "(I)V"⟩ : MethodName), prog_11_method_3_code, 3, (Option.none : Option FieldType), [], [])
-- 111: SorryPurses.town (I)I
def kb_111_0 : List ab_Row := [(.aload_n 0, 1, []), (.iload_n 1, 1, []), (.sipush 600, 3, []), (.invokevirtual 121, 3, [600, 198, 3, 0, 1088, 1090, 12, 11]), (.aload_n 0, 1, []), (.getfield 10, 3, [11, 0, 494]), (.iload_n 1, 1, []), (.invokevirtual 125, 3, [600, 199, 2, 0, 1099, 1100, 1101, 9]), (.aload_n 0, 1, []), (.getfield 23, 3, [11, 2, 496]), (.aload_n 0, 1, []), (.getfield 10, 3, [11, 0, 494]), (.invokevirtual 128, 3, [600, 200, 2, 0, 1104, 1105, 1106, 10]), (.aload_n 0, 1, []), (.getfield 10, 3, [11, 0, 494]), (.invokevirtual 132, 3, [600, 201, 1, 0, 1195, 1167, 1168, 9]), (.ifCond .eq 14, 3, [48]), (.aload_n 0, 1, []), (.getfield 10, 3, [11, 0, 494]), (.getfield 135, 3, [9, 5, 159]), (.bipush 10, 2, []), (.isub, 1, []), (.ireturn, 1, [])]
def kb_111_48 : List ab_Row := [(.aload_n 0, 1, []), (.getfield 19, 3, [11, 1, 495]), (.aload_n 0, 1, []), (.getfield 23, 3, [11, 2, 496]), (.invokevirtual 138, 3, [600, 202, 2, 0, 1196, 1197, 1198, 10]), (.aload_n 0, 1, []), (.getfield 19, 3, [11, 1, 495]), (.aload_n 0, 1, []), (.getfield 49, 3, [11, 7, 501]), (.invokevirtual 142, 3, [600, 203, 2, 0, 1201, 1202, 1203, 10]), (.aload_n 0, 1, []), (.getfield 58, 3, [11, 8, 502]), (.aload_n 0, 1, []), (.getfield 19, 3, [11, 1, 495]), (.getfield 145, 3, [10, 8, 200]), (.putfield 148, 3, [4, 5, 335, 1]), (.aload_n 0, 1, []), (.getfield 29, 3, [11, 3, 497]), (.invokevirtual 151, 3, [600, 204, 1, 0, 1218, 1219, 1220, 5]), (.aload_n 0, 1, []), (.getfield 39, 3, [11, 5, 499]), (.iconst 0, 1, []), (.putfield 154, 3, [0, 2, 251, 1]), (.aload_n 0, 1, []), (.getfield 101, 3, [11, 13, 507]), (.invokevirtual 157, 3, [600, 205, 1, 0, 1222, 1223, 1224, 3]), (.aload_n 0, 1, []), (.getfield 76, 3, [11, 10, 504]), (.iconst 0, 1, []), (.putfield 160, 3, [2, 6, 378, 1]), (.aload_n 0, 1, []), (.getfield 49, 3, [11, 7, 501]), (.getfield 163, 3, [6, 2, 305]), (.ireturn, 1, [])]
def kt_111 : List (Nat × List ab_Row) := [(0, kb_111_0), (48, kb_111_48)]
def km_111 : ab_Mi := ((⟨"SorryPurses", "town", "(I)I"⟩ : MethodName), prog_1_method_3_code, 2, (Option.some FieldType.int), [], [])
-- 112: SorryPursesModel.in (III)Z
def kb_112_0 : List ab_Row := [(.iload_n 0, 1, []), (.iload_n 1, 1, []), (.if_icmp .lt 12, 3, [14]), (.iload_n 0, 1, []), (.iload_n 2, 1, []), (.if_icmp .gt 7, 3, [14]), (.iconst 1, 1, []), (.goto 4, 3, [15])]
def kb_112_14 : List ab_Row := [(.iconst 0, 1, [])]
def kb_112_15 : List ab_Row := [(.ireturn, 1, [])]
def kt_112 : List (Nat × List ab_Row) := [(0, kb_112_0), (14, kb_112_14), (15, kb_112_15)]
def km_112 : ab_Mi := ((⟨"SorryPursesModel", "in", "(III)Z"⟩ : MethodName), prog_14_method_5_code, 3, (Option.some FieldType.boolean), [], [])
-- 113: SorryPursesModel.bad (ZII)Z
def kb_113_0 : List ab_Row := [(.iload_n 1, 1, []), (.ifCond .eq 25, 3, [26]), (.aload_n 0, 1, []), (.getfield 101, 3, [12, 0, 1832]), (.ifCond .ne 18, 3, [26]), (.aload_n 0, 1, []), (.iload_n 2, 1, []), (.putfield 101, 3, [12, 0, 1832, 0]), (.aload_n 0, 1, []), (.getfield 17, 3, [12, 10, 1842]), (.iload_n 3, 1, []), (.dup2, 1, []), (.iaload, 1, []), (.iconst 1, 1, []), (.iadd, 1, []), (.iastore, 1, [])]
def kb_113_26 : List ab_Row := [(.aload_n 0, 1, []), (.getfield 101, 3, [12, 0, 1832]), (.ifCond .eq 7, 3, [37]), (.iconst 1, 1, []), (.goto 4, 3, [38])]
def kb_113_37 : List ab_Row := [(.iconst 0, 1, [])]
def kb_113_38 : List ab_Row := [(.ireturn, 1, [])]
def kt_113 : List (Nat × List ab_Row) := [(0, kb_113_0), (26, kb_113_26), (37, kb_113_37), (38, kb_113_38)]
def km_113 : ab_Mi := ((⟨"SorryPursesModel", "bad", "(ZII)Z"⟩ : MethodName), prog_14_method_4_code, 4, (Option.some FieldType.boolean), [], [])
-- 114: SorryPursesModel.starts (I)V
def kb_114_0 : List ab_Row := [(.aload_n 0, 1, []), (.iconst 0, 1, []), (.putfield 104, 3, [12, 1, 1833, 0]), (.aload_n 0, 1, []), (.iload_n 1, 1, []), (.putfield 107, 3, [12, 2, 1834, 0]), (.aload_n 0, 1, []), (.iconst 0, 1, []), (.putfield 110, 3, [12, 4, 1836, 0]), (.aload_n 0, 1, []), (.iconst 0, 1, []), (.putfield 117, 3, [12, 5, 1837, 0]), (.aload_n 0, 1, []), (.iconst (-1), 1, []), (.putfield 120, 3, [12, 6, 1838, 0]), (.aload_n 0, 1, []), (.iconst 0, 1, []), (.putfield 167, 3, [12, 7, 1839, 0]), (.aload_n 0, 1, []), (.iconst 0, 1, []), (.putfield 170, 3, [12, 8, 1840, 0]), (.aload_n 0, 1, []), (.invokevirtual 123, 3, [600, 116, 1, 0, 1991, 1993, 52, 12]), (.return_, 1, [])]
def kt_114 : List (Nat × List ab_Row) := [(0, kb_114_0)]
def km_114 : ab_Mi := ((⟨"SorryPursesModel", "starts", "(I)V"⟩ : MethodName), prog_14_method_23_code, 2, (Option.none : Option FieldType), [], [])
-- 115: SorryPursesModel.clause ()V
def kb_115_0 : List ab_Row := [(.aload_n 0, 1, []), (.bipush 16, 2, []), (.iconst 5, 1, []), (.bipush 18, 2, []), (.bipush 19, 2, []), (.bipush 15, 2, []), (.bipush 14, 2, []), (.iconst 0, 1, []), (.iconst 0, 1, []), (.invokevirtual 160, 3, [600, 206, 9, 0, 2003, 2005, 55, 12]), (.ifCond .eq 7, 3, [24]), (.iconst 0, 1, []), (.goto 96, 3, [117])]
def kb_115_24 : List ab_Row := [(.aload_n 0, 1, []), (.bipush 23, 2, []), (.bipush 18, 2, []), (.bipush 15, 2, []), (.bipush 14, 2, []), (.bipush 7, 2, []), (.iconst 0, 1, []), (.iconst 0, 1, []), (.iconst 0, 1, []), (.invokevirtual 160, 3, [600, 206, 9, 0, 2003, 2005, 55, 12]), (.ifCond .eq 7, 3, [48]), (.iconst 1, 1, []), (.goto 72, 3, [117])]
def kb_115_48 : List ab_Row := [(.aload_n 0, 1, []), (.bipush 6, 2, []), (.iconst 1, 1, []), (.bipush 12, 2, []), (.bipush 19, 2, []), (.iconst 5, 1, []), (.iconst 0, 1, []), (.iconst 0, 1, []), (.iconst 0, 1, []), (.invokevirtual 160, 3, [600, 206, 9, 0, 2003, 2005, 55, 12]), (.ifCond .eq 7, 3, [70]), (.iconst 2, 1, []), (.goto 50, 3, [117])]
def kb_115_70 : List ab_Row := [(.aload_n 0, 1, []), (.bipush 9, 2, []), (.bipush 14, 2, []), (.bipush 20, 2, []), (.iconst 5, 1, []), (.bipush 18, 2, []), (.iconst 5, 1, []), (.bipush 19, 2, []), (.bipush 20, 2, []), (.invokevirtual 160, 3, [600, 206, 9, 0, 2003, 2005, 55, 12]), (.ifCond .eq 7, 3, [95]), (.iconst 3, 1, []), (.goto 25, 3, [117])]
def kb_115_95 : List ab_Row := [(.aload_n 0, 1, []), (.iconst 2, 1, []), (.bipush 9, 2, []), (.bipush 20, 2, []), (.iconst 5, 1, []), (.iconst 0, 1, []), (.iconst 0, 1, []), (.iconst 0, 1, []), (.iconst 0, 1, []), (.invokevirtual 160, 3, [600, 206, 9, 0, 2003, 2005, 55, 12]), (.ifCond .eq 7, 3, [116]), (.iconst 4, 1, []), (.goto 4, 3, [117])]
def kb_115_116 : List ab_Row := [(.iconst (-1), 1, [])]
def kb_115_117 : List ab_Row := [(.istore_n 1, 1, []), (.iload_n 1, 1, []), (.iconst (-1), 1, []), (.if_icmp .ne 15, 3, [135]), (.aload_n 0, 1, []), (.iconst 1, 1, []), (.aload_n 0, 1, []), (.getfield 110, 3, [12, 4, 1836]), (.invokevirtual 130, 3, [600, 120, 3, 0, 2020, 2022, 57, 12]), (.goto 56, 3, [188])]
def kb_115_135 : List ab_Row := [(.aload_n 0, 1, []), (.getfield 167, 3, [12, 7, 1839]), (.bipush 60, 2, []), (.if_icmp .eq 38, 3, [179]), (.iload_n 1, 1, []), (.ifCond .ne 14, 3, [159]), (.aload_n 0, 1, []), (.getfield 20, 3, [12, 11, 1843]), (.iconst 0, 1, []), (.iaload, 1, []), (.bipush 8, 2, []), (.if_icmp .eq 23, 3, [179])]
def kb_115_159 : List ab_Row := [(.iload_n 1, 1, []), (.iconst 1, 1, []), (.iconst 2, 1, []), (.invokestatic 135, 3, [600, 112, 3, 1, 1980, 1981, 0, 0]), (.ifCond .eq 23, 3, [188]), (.aload_n 0, 1, []), (.getfield 20, 3, [12, 11, 1843]), (.iconst 1, 1, []), (.iaload, 1, []), (.bipush 24, 2, []), (.if_icmp .ne 12, 3, [188])]
def kb_115_179 : List ab_Row := [(.aload_n 0, 1, []), (.iconst 3, 1, []), (.aload_n 0, 1, []), (.getfield 110, 3, [12, 4, 1836]), (.invokevirtual 130, 3, [600, 120, 3, 0, 2020, 2022, 57, 12])]
def kb_115_188 : List ab_Row := [(.aload_n 0, 1, []), (.getfield 117, 3, [12, 5, 1837]), (.ifCond .eq 4, 3, [196]), (.return_, 1, [])]
def kb_115_196 : List ab_Row := [(.aload_n 0, 1, []), (.invokevirtual 164, 3, [600, 207, 1, 0, 2024, 2026, 58, 12]), (.aload_n 0, 1, []), (.dup, 1, []), (.getfield 167, 3, [12, 7, 1839]), (.iconst 1, 1, []), (.iadd, 1, []), (.putfield 167, 3, [12, 7, 1839, 0]), (.iload_n 1, 1, []), (.ifCond .ne 45, 3, [256]), (.aload_n 0, 1, []), (.getfield 26, 3, [12, 13, 1845]), (.aload_n 0, 1, []), (.getfield 20, 3, [12, 11, 1843]), (.iconst 0, 1, []), (.iaload, 1, []), (.aload_n 0, 1, []), (.iconst 0, 1, []), (.bipush 9, 2, []), (.invokevirtual 139, 3, [600, 128, 3, 0, 2028, 2030, 59, 12]), (.iastore, 1, []), (.aload_n 0, 1, []), (.getfield 20, 3, [12, 11, 1843]), (.iconst 0, 1, []), (.dup2, 1, []), (.iaload, 1, []), (.aload_n 0, 1, []), (.getfield 117, 3, [12, 5, 1837]), (.ifCond .ne 7, 3, [250]), (.iconst 1, 1, []), (.goto 4, 3, [251])]
def kb_115_250 : List ab_Row := [(.iconst 0, 1, [])]
def kb_115_251 : List ab_Row := [(.iadd, 1, []), (.iastore, 1, []), (.goto 127, 3, [380])]
def kb_115_256 : List ab_Row := [(.iload_n 1, 1, []), (.iconst 3, 1, []), (.if_icmp .ge 97, 3, [355]), (.aload_n 0, 1, []), (.getfield 34, 3, [12, 15, 1847]), (.aload_n 0, 1, []), (.getfield 20, 3, [12, 11, 1843]), (.iconst 1, 1, []), (.iaload, 1, []), (.aaload, 1, []), (.astore_n 2, 1, []), (.aload_n 2, 1, []), (.iconst 0, 1, []), (.aload_n 0, 1, []), (.iconst 0, 1, []), (.aload_n 0, 1, []), (.getfield 20, 3, [12, 11, 1843]), (.iconst 0, 1, []), (.iaload, 1, []), (.iconst 1, 1, []), (.isub, 1, []), (.invokevirtual 139, 3, [600, 128, 3, 0, 2028, 2030, 59, 12]), (.iastore, 1, []), (.aload_n 2, 1, []), (.iconst 1, 1, []), (.aload_n 0, 1, []), (.aload_n 0, 1, []), (.getfield 20, 3, [12, 11, 1843]), (.iconst 0, 1, []), (.iaload, 1, []), (.iconst 1, 1, []), (.isub, 1, []), (.aload_n 2, 1, []), (.iconst 0, 1, []), (.iaload, 1, []), (.invokevirtual 173, 3, [600, 208, 3, 0, 2036, 2038, 60, 12]), (.iastore, 1, []), (.aload_n 2, 1, []), (.iconst 2, 1, []), (.aload_n 0, 1, []), (.iconst 1, 1, []), (.sipush 999, 3, []), (.invokevirtual 139, 3, [600, 128, 3, 0, 2028, 2030, 59, 12]), (.iastore, 1, []), (.aload_n 2, 1, []), (.iconst 3, 1, []), (.iload_n 1, 1, []), (.iconst 1, 1, []), (.if_icmp .ne 7, 3, [329]), (.iconst 1, 1, []), (.goto 4, 3, [330])]
def kb_115_329 : List ab_Row := [(.iconst 0, 1, [])]
def kb_115_330 : List ab_Row := [(.iastore, 1, []), (.aload_n 0, 1, []), (.getfield 20, 3, [12, 11, 1843]), (.iconst 1, 1, []), (.dup2, 1, []), (.iaload, 1, []), (.aload_n 0, 1, []), (.getfield 117, 3, [12, 5, 1837]), (.ifCond .ne 7, 3, [349]), (.iconst 1, 1, []), (.goto 4, 3, [350])]
def kb_115_349 : List ab_Row := [(.iconst 0, 1, [])]
def kb_115_350 : List ab_Row := [(.iadd, 1, []), (.iastore, 1, []), (.goto 28, 3, [380])]
def kb_115_355 : List ab_Row := [(.aload_n 0, 1, []), (.getfield 20, 3, [12, 11, 1843]), (.iload_n 1, 1, []), (.iconst 1, 1, []), (.isub, 1, []), (.aload_n 0, 1, []), (.iconst 0, 1, []), (.iload_n 1, 1, []), (.iconst 3, 1, []), (.if_icmp .ne 8, 3, [374]), (.bipush 50, 2, []), (.goto 5, 3, [376])]
def kb_115_374 : List ab_Row := [(.bipush 100, 2, [])]
def kb_115_376 : List ab_Row := [(.invokevirtual 139, 3, [600, 128, 3, 0, 2028, 2030, 59, 12]), (.iastore, 1, [])]
def kb_115_380 : List ab_Row := [(.aload_n 0, 1, []), (.bipush 59, 2, []), (.invokevirtual 176, 3, [600, 129, 2, 0, 2040, 2042, 61, 12]), (.return_, 1, [])]
def kt_115 : List (Nat × List ab_Row) := [(0, kb_115_0), (24, kb_115_24), (48, kb_115_48), (70, kb_115_70), (95, kb_115_95), (116, kb_115_116), (117, kb_115_117), (135, kb_115_135), (159, kb_115_159), (179, kb_115_179), (188, kb_115_188), (196, kb_115_196), (250, kb_115_250), (251, kb_115_251), (256, kb_115_256), (329, kb_115_329), (330, kb_115_330), (349, kb_115_349), (350, kb_115_350), (355, kb_115_355), (374, kb_115_374), (376, kb_115_376), (380, kb_115_380)]
def km_115 : ab_Mi := ((⟨"SorryPursesModel", "clause", "()V"⟩ : MethodName), prog_14_method_25_code, 3, (Option.none : Option FieldType), [], [])
-- 116: SorryPursesModel.blanks ()V
def kb_116_0 : List ab_Row := [(.aload_n 0, 1, []), (.aload_n 0, 1, []), (.getfield 110, 3, [12, 4, 1836]), (.invokevirtual 113, 3, [600, 209, 2, 0, 1995, 1997, 53, 12]), (.bipush 32, 2, []), (.if_icmp .ne 16, 3, [26]), (.aload_n 0, 1, []), (.dup, 1, []), (.getfield 110, 3, [12, 4, 1836]), (.iconst 1, 1, []), (.iadd, 1, []), (.putfield 110, 3, [12, 4, 1836, 0]), (.goto (-23), 3, [0])]
def kb_116_26 : List ab_Row := [(.return_, 1, [])]
def kt_116 : List (Nat × List ab_Row) := [(0, kb_116_0), (26, kb_116_26)]
def km_116 : ab_Mi := ((⟨"SorryPursesModel", "blanks", "()V"⟩ : MethodName), prog_14_method_10_code, 1, (Option.none : Option FieldType), [], [])
-- 117: SorryPursesModel.ends ()I
def kb_117_0 : List ab_Row := [(.aload_n 0, 1, []), (.aload_n 0, 1, []), (.getfield 120, 3, [12, 6, 1838]), (.putfield 9, 3, [12, 3, 1835, 0]), (.aload_n 0, 1, []), (.getfield 117, 3, [12, 5, 1837]), (.bipush 10, 2, []), (.isub, 1, []), (.ireturn, 1, [])]
def kt_117 : List (Nat × List ab_Row) := [(0, kb_117_0)]
def km_117 : ab_Mi := ((⟨"SorryPursesModel", "ends", "()I"⟩ : MethodName), prog_14_method_24_code, 1, (Option.some FieldType.int), [], [])
-- 118: SorryPurses.law (I)I
def kb_118_0 : List ab_Row := [(.aload_n 0, 1, []), (.iload_n 1, 1, []), (.sipush 150, 3, []), (.invokevirtual 121, 3, [600, 198, 3, 0, 1088, 1090, 12, 11]), (.aload_n 0, 1, []), (.getfield 10, 3, [11, 0, 494]), (.iload_n 1, 1, []), (.invokevirtual 125, 3, [600, 199, 2, 0, 1099, 1100, 1101, 9]), (.aload_n 0, 1, []), (.getfield 33, 3, [11, 4, 498]), (.aload_n 0, 1, []), (.getfield 10, 3, [11, 0, 494]), (.invokevirtual 166, 3, [600, 210, 2, 0, 1233, 1234, 1235, 5]), (.aload_n 0, 1, []), (.getfield 10, 3, [11, 0, 494]), (.invokevirtual 132, 3, [600, 201, 1, 0, 1195, 1167, 1168, 9]), (.ifCond .eq 14, 3, [48]), (.aload_n 0, 1, []), (.getfield 10, 3, [11, 0, 494]), (.getfield 135, 3, [9, 5, 159]), (.bipush 10, 2, []), (.isub, 1, []), (.ireturn, 1, [])]
def kb_118_48 : List ab_Row := [(.aload_n 0, 1, []), (.getfield 29, 3, [11, 3, 497]), (.aload_n 0, 1, []), (.getfield 33, 3, [11, 4, 498]), (.invokevirtual 167, 3, [600, 211, 2, 0, 1266, 1267, 1268, 5]), (.iconst 1, 1, []), (.ireturn, 1, [])]
def kt_118 : List (Nat × List ab_Row) := [(0, kb_118_0), (48, kb_118_48)]
def km_118 : ab_Mi := ((⟨"SorryPurses", "law", "(I)I"⟩ : MethodName), prog_1_method_4_code, 2, (Option.some FieldType.int), [], [])
-- 119: SorryPursesModel.sum ()V
def kb_119_0 : List ab_Row := [(.aload_n 0, 1, []), (.invokevirtual 216, 3, [600, 212, 1, 0, 2056, 2058, 64, 12])]
def kb_119_4 : List ab_Row := [(.aload_n 0, 1, []), (.getfield 117, 3, [12, 5, 1837]), (.ifCond .ne 50, 3, [58]), (.aload_n 0, 1, []), (.bipush 43, 2, []), (.invokevirtual 219, 3, [600, 127, 2, 0, 2080, 2082, 70, 12]), (.ifCond .eq 7, 3, [24]), (.iconst 2, 1, []), (.goto 17, 3, [38])]
def kb_119_24 : List ab_Row := [(.aload_n 0, 1, []), (.bipush 45, 2, []), (.invokevirtual 219, 3, [600, 127, 2, 0, 2080, 2082, 70, 12]), (.ifCond .eq 7, 3, [37]), (.iconst 3, 1, []), (.goto 4, 3, [38])]
def kb_119_37 : List ab_Row := [(.iconst (-1), 1, [])]
def kb_119_38 : List ab_Row := [(.istore_n 1, 1, []), (.iload_n 1, 1, []), (.iconst (-1), 1, []), (.if_icmp .ne 4, 3, [45]), (.return_, 1, [])]
def kb_119_45 : List ab_Row := [(.aload_n 0, 1, []), (.invokevirtual 216, 3, [600, 212, 1, 0, 2056, 2058, 64, 12]), (.aload_n 0, 1, []), (.iload_n 1, 1, []), (.iconst 0, 1, []), (.invokevirtual 222, 3, [600, 213, 3, 0, 2068, 2070, 67, 12]), (.goto (-51), 3, [4])]
def kb_119_58 : List ab_Row := [(.return_, 1, [])]
def kt_119 : List (Nat × List ab_Row) := [(0, kb_119_0), (4, kb_119_4), (24, kb_119_24), (37, kb_119_37), (38, kb_119_38), (45, kb_119_45), (58, kb_119_58)]
def km_119 : ab_Mi := ((⟨"SorryPursesModel", "sum", "()V"⟩ : MethodName), prog_14_method_30_code, 2, (Option.none : Option FieldType), [], [])
-- 120: SorryPursesModel.wrong (II)V
def kb_120_0 : List ab_Row := [(.aload_n 0, 1, []), (.getfield 117, 3, [12, 5, 1837]), (.ifCond .ne 13, 3, [17]), (.aload_n 0, 1, []), (.iload_n 1, 1, []), (.putfield 117, 3, [12, 5, 1837, 0]), (.aload_n 0, 1, []), (.iload_n 2, 1, []), (.putfield 120, 3, [12, 6, 1838, 0])]
def kb_120_17 : List ab_Row := [(.return_, 1, [])]
def kt_120 : List (Nat × List ab_Row) := [(0, kb_120_0), (17, kb_120_17)]
def km_120 : ab_Mi := ((⟨"SorryPursesModel", "wrong", "(II)V"⟩ : MethodName), prog_14_method_11_code, 3, (Option.none : Option FieldType), [], [])
-- 121: SorryPurses.deeds (I)I
def kb_121_0 : List ab_Row := [(.aload_n 0, 1, []), (.iload_n 1, 1, []), (.sipush 200, 3, []), (.invokevirtual 121, 3, [600, 198, 3, 0, 1088, 1090, 12, 11]), (.aload_n 0, 1, []), (.getfield 101, 3, [11, 13, 507]), (.getfield 170, 3, [3, 1, 472]), (.bipush 20, 2, []), (.if_icmp .lt 14, 3, [31]), (.aload_n 0, 1, []), (.getfield 10, 3, [11, 0, 494]), (.iconst 0, 1, []), (.invokevirtual 125, 3, [600, 199, 2, 0, 1099, 1100, 1101, 9]), (.bipush (-20), 2, []), (.ireturn, 1, [])]
def kb_121_31 : List ab_Row := [(.aload_n 0, 1, []), (.getfield 10, 3, [11, 0, 494]), (.iload_n 1, 1, []), (.invokevirtual 125, 3, [600, 199, 2, 0, 1099, 1100, 1101, 9]), (.aload_n 0, 1, []), (.getfield 76, 3, [11, 10, 504]), (.aload_n 0, 1, []), (.getfield 10, 3, [11, 0, 494]), (.invokevirtual 173, 3, [600, 214, 2, 0, 1277, 1278, 1279, 2]), (.aload_n 0, 1, []), (.getfield 10, 3, [11, 0, 494]), (.invokevirtual 132, 3, [600, 201, 1, 0, 1195, 1167, 1168, 9]), (.ifCond .eq 14, 3, [71]), (.aload_n 0, 1, []), (.getfield 10, 3, [11, 0, 494]), (.getfield 135, 3, [9, 5, 159]), (.bipush 10, 2, []), (.isub, 1, []), (.ireturn, 1, [])]
def kb_121_71 : List ab_Row := [(.aload_n 0, 1, []), (.getfield 101, 3, [11, 13, 507]), (.aload_n 0, 1, []), (.getfield 49, 3, [11, 7, 501]), (.invokevirtual 174, 3, [600, 215, 2, 0, 1308, 1309, 1310, 3]), (.aload_n 0, 1, []), (.getfield 76, 3, [11, 10, 504]), (.invokevirtual 177, 3, [600, 216, 1, 0, 1312, 1313, 1314, 2]), (.ireturn, 1, [])]
def kt_121 : List (Nat × List ab_Row) := [(0, kb_121_0), (31, kb_121_31), (71, kb_121_71)]
def km_121 : ab_Mi := ((⟨"SorryPurses", "deeds", "(I)I"⟩ : MethodName), prog_1_method_5_code, 2, (Option.some FieldType.int), [], [])
-- 122: SorryPursesModel.readsDeed (I)V
def kb_122_0 : List ab_Row := [(.aload_n 0, 1, []), (.invokevirtual 272, 3, [600, 217, 1, 0, 2113, 2115, 74, 12]), (.istore_n 2, 1, []), (.iload_n 2, 1, []), (.iconst (-1), 1, []), (.if_icmp .ne 15, 3, [22]), (.aload_n 0, 1, []), (.iconst 1, 1, []), (.aload_n 0, 1, []), (.getfield 110, 3, [12, 4, 1836]), (.invokevirtual 130, 3, [600, 120, 3, 0, 2020, 2022, 57, 12]), (.goto 18, 3, [37])]
def kb_122_22 : List ab_Row := [(.iload_n 1, 1, []), (.bipush 30, 2, []), (.if_icmp .ne 12, 3, [37]), (.aload_n 0, 1, []), (.iconst 3, 1, []), (.aload_n 0, 1, []), (.getfield 110, 3, [12, 4, 1836]), (.invokevirtual 130, 3, [600, 120, 3, 0, 2020, 2022, 57, 12])]
def kb_122_37 : List ab_Row := [(.aload_n 0, 1, []), (.getfield 117, 3, [12, 5, 1837]), (.ifCond .eq 4, 3, [45]), (.return_, 1, [])]
def kb_122_45 : List ab_Row := [(.aload_n 0, 1, []), (.invokevirtual 164, 3, [600, 207, 1, 0, 2024, 2026, 58, 12]), (.aload_n 0, 1, []), (.getfield 49, 3, [12, 22, 1854]), (.iload_n 1, 1, []), (.aaload, 1, []), (.astore_n 3, 1, []), (.aload_n 3, 1, []), (.iconst 0, 1, []), (.iload_n 2, 1, []), (.iastore, 1, []), (.iload_n 2, 1, []), (.ifCond .ne 16, 3, [77]), (.aload_n 3, 1, []), (.iconst 1, 1, []), (.aload_n 0, 1, []), (.iconst 1, 1, []), (.bipush 30, 2, []), (.invokevirtual 139, 3, [600, 128, 3, 0, 2028, 2030, 59, 12]), (.iastore, 1, []), (.goto 118, 3, [192])]
def kb_122_77 : List ab_Row := [(.iload_n 2, 1, []), (.iconst 1, 1, []), (.if_icmp .eq 9, 3, [88]), (.iload_n 2, 1, []), (.bipush 9, 2, []), (.if_icmp .ne 42, 3, [127])]
def kb_122_88 : List ab_Row := [(.aload_n 3, 1, []), (.iconst 1, 1, []), (.aload_n 0, 1, []), (.invokevirtual 275, 3, [600, 126, 1, 0, 2117, 2119, 75, 12]), (.iastore, 1, []), (.aload_n 3, 1, []), (.iconst 2, 1, []), (.aload_n 0, 1, []), (.aload_n 0, 1, []), (.getfield 23, 3, [12, 12, 1844]), (.iconst 0, 1, []), (.iaload, 1, []), (.iconst 1, 1, []), (.isub, 1, []), (.aload_n 3, 1, []), (.iconst 1, 1, []), (.iaload, 1, []), (.invokevirtual 173, 3, [600, 208, 3, 0, 2036, 2038, 60, 12]), (.iastore, 1, []), (.aload_n 3, 1, []), (.iconst 3, 1, []), (.aload_n 0, 1, []), (.iconst 1, 1, []), (.sipush 999, 3, []), (.invokevirtual 139, 3, [600, 128, 3, 0, 2028, 2030, 59, 12]), (.iastore, 1, []), (.goto 68, 3, [192])]
def kb_122_127 : List ab_Row := [(.aload_n 3, 1, []), (.iconst 1, 1, []), (.aload_n 0, 1, []), (.iconst 0, 1, []), (.bipush 39, 2, []), (.invokevirtual 139, 3, [600, 128, 3, 0, 2028, 2030, 59, 12]), (.iastore, 1, []), (.aload_n 3, 1, []), (.iconst 2, 1, []), (.iload_n 2, 1, []), (.iconst 2, 1, []), (.if_icmp .eq 9, 3, [150]), (.iload_n 2, 1, []), (.bipush 7, 2, []), (.if_icmp .ne 10, 3, [157])]
def kb_122_150 : List ab_Row := [(.aload_n 0, 1, []), (.invokevirtual 275, 3, [600, 126, 1, 0, 2117, 2119, 75, 12]), (.goto 37, 3, [191])]
def kb_122_157 : List ab_Row := [(.iload_n 2, 1, []), (.iconst 3, 1, []), (.if_icmp .ne 14, 3, [173]), (.aload_n 0, 1, []), (.iconst 1, 1, []), (.sipush 999, 3, []), (.invokevirtual 139, 3, [600, 128, 3, 0, 2028, 2030, 59, 12]), (.goto 21, 3, [191])]
def kb_122_173 : List ab_Row := [(.iload_n 2, 1, []), (.iconst 4, 1, []), (.if_icmp .ne 15, 3, [190]), (.aload_n 0, 1, []), (.bipush 39, 2, []), (.aload_n 3, 1, []), (.iconst 1, 1, []), (.iaload, 1, []), (.invokevirtual 173, 3, [600, 208, 3, 0, 2036, 2038, 60, 12]), (.goto 4, 3, [191])]
def kb_122_190 : List ab_Row := [(.iconst 0, 1, [])]
def kb_122_191 : List ab_Row := [(.iastore, 1, [])]
def kb_122_192 : List ab_Row := [(.aload_n 0, 1, []), (.bipush 59, 2, []), (.invokevirtual 176, 3, [600, 129, 2, 0, 2040, 2042, 61, 12]), (.return_, 1, [])]
def kt_122 : List (Nat × List ab_Row) := [(0, kb_122_0), (22, kb_122_22), (37, kb_122_37), (45, kb_122_45), (77, kb_122_77), (88, kb_122_88), (127, kb_122_127), (150, kb_122_150), (157, kb_122_157), (173, kb_122_173), (190, kb_122_190), (191, kb_122_191), (192, kb_122_192)]
def km_122 : ab_Mi := ((⟨"SorryPursesModel", "readsDeed", "(I)V"⟩ : MethodName), prog_14_method_46_code, 4, (Option.none : Option FieldType), [], [])
-- 123: SorryPursesModel.copies ([I[I)V
def kb_123_0 : List ab_Row := [(.iconst 0, 1, []), (.istore_n 2, 1, [])]
def kb_123_2 : List ab_Row := [(.iload_n 2, 1, []), (.sipush 366, 3, []), (.if_icmp .ge 15, 3, [21]), (.aload_n 1, 1, []), (.iload_n 2, 1, []), (.aload_n 0, 1, []), (.iload_n 2, 1, []), (.iaload, 1, []), (.iastore, 1, []), (.iinc 2 1, 3, []), (.goto (-16), 3, [2])]
def kb_123_21 : List ab_Row := [(.return_, 1, [])]
def kt_123 : List (Nat × List ab_Row) := [(0, kb_123_0), (2, kb_123_2), (21, kb_123_21)]
def km_123 : ab_Mi := ((⟨"SorryPursesModel", "copies", "([I[I)V"⟩ : MethodName), prog_14_method_57_code, 3, (Option.none : Option FieldType), [], [])
-- 124: SorryPursesModel.does ([I[I)Z
def kb_124_0 : List ab_Row := [(.aload_n 2, 1, []), (.iconst 1, 1, []), (.iaload, 1, []), (.istore_n 3, 1, []), (.aload_n 2, 1, []), (.iconst 0, 1, []), (.iaload, 1, []), (.ifCond .ne 14, 3, [21]), (.aload_n 1, 1, []), (.sipush 361, 3, []), (.dup2, 1, []), (.iaload, 1, []), (.iload_n 3, 1, []), (.iadd, 1, []), (.iastore, 1, []), (.iconst 1, 1, []), (.ireturn, 1, [])]
def kb_124_21 : List ab_Row := [(.aload_n 2, 1, []), (.iconst 0, 1, []), (.iaload, 1, []), (.iconst 1, 1, []), (.if_icmp .ne 25, 3, [50]), (.aload_n 1, 1, []), (.iload_n 3, 1, []), (.aload_n 2, 1, []), (.iconst 2, 1, []), (.iaload, 1, []), (.aload_n 2, 1, []), (.iconst 3, 1, []), (.iaload, 1, []), (.iconst 1, 1, []), (.invokestatic 194, 3, [600, 197, 5, 1, 1826, 1827, 0, 0]), (.iconst (-1), 1, []), (.if_icmp .eq 7, 3, [48]), (.iconst 1, 1, []), (.goto 4, 3, [49])]
def kb_124_48 : List ab_Row := [(.iconst 0, 1, [])]
def kb_124_49 : List ab_Row := [(.ireturn, 1, [])]
def kb_124_50 : List ab_Row := [(.aload_n 2, 1, []), (.iconst 0, 1, []), (.iaload, 1, []), (.bipush 9, 2, []), (.if_icmp .ne 16, 3, [71]), (.aload_n 0, 1, []), (.aload_n 1, 1, []), (.iload_n 3, 1, []), (.aload_n 2, 1, []), (.iconst 2, 1, []), (.iaload, 1, []), (.aload_n 2, 1, []), (.iconst 3, 1, []), (.iaload, 1, []), (.invokevirtual 296, 3, [600, 218, 5, 0, 2128, 2130, 77, 12]), (.ireturn, 1, [])]
def kb_124_71 : List ab_Row := [(.aload_n 1, 1, []), (.iload_n 3, 1, []), (.invokestatic 258, 3, [600, 144, 2, 1, 2139, 2140, 0, 0]), (.ifCond .ne 5, 3, [81]), (.iconst 0, 1, []), (.ireturn, 1, [])]
def kb_124_81 : List ab_Row := [(.aload_n 1, 1, []), (.iload_n 3, 1, []), (.iconst 1, 1, []), (.invokestatic 254, 3, [600, 135, 3, 1, 2142, 2143, 0, 0]), (.istore 4, 2, []), (.aload_n 2, 1, []), (.iconst 0, 1, []), (.iaload, 1, []), (.tableswitch 151 2 7 #[40, 60, 69, 78, 85, 110], 40, [132, 152, 161, 170, 177, 202, 243])]
def kb_124_132 : List ab_Row := [(.iload 4, 2, []), (.aload_n 2, 1, []), (.iconst 2, 1, []), (.iaload, 1, []), (.if_icmp .ne 5, 3, [142]), (.iconst 0, 1, []), (.ireturn, 1, [])]
def kb_124_142 : List ab_Row := [(.aload_n 1, 1, []), (.iload_n 3, 1, []), (.aload_n 2, 1, []), (.iconst 2, 1, []), (.iaload, 1, []), (.invokestatic 293, 3, [600, 219, 3, 1, 2145, 2146, 0, 0]), (.iconst 1, 1, []), (.ireturn, 1, [])]
def kb_124_152 : List ab_Row := [(.aload_n 1, 1, []), (.iload_n 3, 1, []), (.aload_n 2, 1, []), (.iconst 2, 1, []), (.iaload, 1, []), (.invokestatic 300, 3, [600, 220, 3, 1, 2151, 2152, 0, 0]), (.ireturn, 1, [])]
def kb_124_161 : List ab_Row := [(.aload_n 1, 1, []), (.iload_n 3, 1, []), (.aload_n 2, 1, []), (.iconst 2, 1, []), (.iaload, 1, []), (.invokestatic 304, 3, [600, 221, 3, 1, 2154, 2155, 0, 0]), (.ireturn, 1, [])]
def kb_124_170 : List ab_Row := [(.aload_n 0, 1, []), (.aload_n 1, 1, []), (.iload_n 3, 1, []), (.invokevirtual 307, 3, [600, 222, 3, 0, 2157, 2159, 79, 12]), (.ireturn, 1, [])]
def kb_124_177 : List ab_Row := [(.aload_n 0, 1, []), (.aload_n 1, 1, []), (.iload_n 3, 1, []), (.invokevirtual 310, 3, [600, 146, 3, 0, 2165, 2167, 81, 12]), (.aload_n 0, 1, []), (.getfield 23, 3, [12, 12, 1844]), (.iconst 3, 1, []), (.iaload, 1, []), (.if_icmp .ge 5, 3, [194]), (.iconst 0, 1, []), (.ireturn, 1, [])]
def kb_124_194 : List ab_Row := [(.aload_n 1, 1, []), (.iload_n 3, 1, []), (.iconst 1, 1, []), (.invokestatic 282, 3, [600, 223, 3, 1, 2148, 2149, 0, 0]), (.iconst 1, 1, []), (.ireturn, 1, [])]
def kb_124_202 : List ab_Row := [(.aload_n 2, 1, []), (.iconst 2, 1, []), (.iaload, 1, []), (.iload 4, 2, []), (.if_icmp .eq 34, 3, [241]), (.aload_n 2, 1, []), (.iconst 2, 1, []), (.iaload, 1, []), (.aload_n 1, 1, []), (.iload_n 3, 1, []), (.iconst 0, 1, []), (.invokestatic 254, 3, [600, 135, 3, 1, 2142, 2143, 0, 0]), (.if_icmp .eq 22, 3, [241]), (.aload_n 1, 1, []), (.aload_n 2, 1, []), (.iconst 2, 1, []), (.iaload, 1, []), (.iload 4, 2, []), (.iconst 1, 1, []), (.iconst 1, 1, []), (.invokestatic 194, 3, [600, 197, 5, 1, 1826, 1827, 0, 0]), (.iconst (-1), 1, []), (.if_icmp .eq 7, 3, [241]), (.iconst 1, 1, []), (.goto 4, 3, [242])]
def kb_124_241 : List ab_Row := [(.iconst 0, 1, [])]
def kb_124_242 : List ab_Row := [(.ireturn, 1, [])]
def kb_124_243 : List ab_Row := [(.aload_n 1, 1, []), (.iload_n 3, 1, []), (.iconst 2, 1, []), (.invokestatic 282, 3, [600, 223, 3, 1, 2148, 2149, 0, 0]), (.iconst 1, 1, []), (.ireturn, 1, [])]
def kt_124 : List (Nat × List ab_Row) := [(0, kb_124_0), (21, kb_124_21), (48, kb_124_48), (49, kb_124_49), (50, kb_124_50), (71, kb_124_71), (81, kb_124_81), (132, kb_124_132), (142, kb_124_142), (152, kb_124_152), (161, kb_124_161), (170, kb_124_170), (177, kb_124_177), (194, kb_124_194), (202, kb_124_202), (241, kb_124_241), (242, kb_124_242), (243, kb_124_243)]
def km_124 : ab_Mi := ((⟨"SorryPursesModel", "does", "([I[I)Z"⟩ : MethodName), prog_14_method_56_code, 5, (Option.some FieldType.boolean), [], [])
-- 125: SorryPurses.book (I)I
def kb_125_0 : List ab_Row := [(.aload_n 0, 1, []), (.iload_n 1, 1, []), (.sipush 150, 3, []), (.invokevirtual 121, 3, [600, 198, 3, 0, 1088, 1090, 12, 11]), (.aload_n 0, 1, []), (.getfield 10, 3, [11, 0, 494]), (.iload_n 1, 1, []), (.invokevirtual 125, 3, [600, 199, 2, 0, 1099, 1100, 1101, 9]), (.aload_n 0, 1, []), (.getfield 43, 3, [11, 6, 500]), (.aload_n 0, 1, []), (.getfield 10, 3, [11, 0, 494]), (.aload_n 0, 1, []), (.getfield 19, 3, [11, 1, 495]), (.getfield 181, 3, [10, 5, 194]), (.invokevirtual 184, 3, [600, 224, 3, 0, 1376, 1377, 1378, 0]), (.aload_n 0, 1, []), (.getfield 10, 3, [11, 0, 494]), (.invokevirtual 132, 3, [600, 201, 1, 0, 1195, 1167, 1168, 9]), (.ifCond .eq 14, 3, [55]), (.aload_n 0, 1, []), (.getfield 10, 3, [11, 0, 494]), (.getfield 135, 3, [9, 5, 159]), (.bipush 10, 2, []), (.isub, 1, []), (.ireturn, 1, [])]
def kb_125_55 : List ab_Row := [(.aload_n 0, 1, []), (.getfield 39, 3, [11, 5, 499]), (.aload_n 0, 1, []), (.getfield 43, 3, [11, 6, 500]), (.invokevirtual 187, 3, [600, 225, 2, 0, 1390, 1391, 1392, 0]), (.aload_n 0, 1, []), (.getfield 39, 3, [11, 5, 499]), (.getfield 154, 3, [0, 2, 251]), (.ireturn, 1, [])]
def kt_125 : List (Nat × List ab_Row) := [(0, kb_125_0), (55, kb_125_55)]
def km_125 : ab_Mi := ((⟨"SorryPurses", "book", "(I)I"⟩ : MethodName), prog_1_method_6_code, 2, (Option.some FieldType.int), [], [])
-- 126: SorryPursesModel.personHere ()I
def kb_126_0 : List ab_Row := [(.aload_n 0, 1, []), (.iconst 0, 1, []), (.aload_n 0, 1, []), (.getfield 23, 3, [12, 12, 1844]), (.iconst 0, 1, []), (.iaload, 1, []), (.iconst 1, 1, []), (.isub, 1, []), (.invokevirtual 139, 3, [600, 128, 3, 0, 2028, 2030, 59, 12]), (.ireturn, 1, [])]
def kt_126 : List (Nat × List ab_Row) := [(0, kb_126_0)]
def km_126 : ab_Mi := ((⟨"SorryPursesModel", "personHere", "()I"⟩ : MethodName), prog_14_method_45_code, 1, (Option.some FieldType.int), [], [])
-- 127: SorryPursesModel.takesSign (I)Z
def kb_127_0 : List ab_Row := [(.aload_n 0, 1, []), (.getfield 117, 3, [12, 5, 1837]), (.ifCond .eq 5, 3, [9]), (.iconst 0, 1, []), (.ireturn, 1, [])]
def kb_127_9 : List ab_Row := [(.aload_n 0, 1, []), (.invokevirtual 123, 3, [600, 116, 1, 0, 1991, 1993, 52, 12]), (.aload_n 0, 1, []), (.aload_n 0, 1, []), (.getfield 110, 3, [12, 4, 1836]), (.invokevirtual 113, 3, [600, 209, 2, 0, 1995, 1997, 53, 12]), (.iload_n 1, 1, []), (.if_icmp .ne 7, 3, [29]), (.iconst 1, 1, []), (.goto 4, 3, [30])]
def kb_127_29 : List ab_Row := [(.iconst 0, 1, [])]
def kb_127_30 : List ab_Row := [(.istore_n 2, 1, []), (.iload_n 2, 1, []), (.ifCond .eq 13, 3, [45]), (.aload_n 0, 1, []), (.dup, 1, []), (.getfield 110, 3, [12, 4, 1836]), (.iconst 1, 1, []), (.iadd, 1, []), (.putfield 110, 3, [12, 4, 1836, 0])]
def kb_127_45 : List ab_Row := [(.iload_n 2, 1, []), (.ireturn, 1, [])]
def kt_127 : List (Nat × List ab_Row) := [(0, kb_127_0), (9, kb_127_9), (29, kb_127_29), (30, kb_127_30), (45, kb_127_45)]
def km_127 : ab_Mi := ((⟨"SorryPursesModel", "takesSign", "(I)Z"⟩ : MethodName), prog_14_method_22_code, 3, (Option.some FieldType.boolean), [], [])
-- 128: SorryPursesModel.number (II)I
def kb_128_0 : List ab_Row := [(.aload_n 0, 1, []), (.getfield 117, 3, [12, 5, 1837]), (.ifCond .eq 5, 3, [9]), (.iconst 0, 1, []), (.ireturn, 1, [])]
def kb_128_9 : List ab_Row := [(.aload_n 0, 1, []), (.invokevirtual 123, 3, [600, 116, 1, 0, 1991, 1993, 52, 12]), (.aload_n 0, 1, []), (.getfield 110, 3, [12, 4, 1836]), (.istore_n 3, 1, []), (.iconst 0, 1, []), (.istore 4, 2, []), (.aload_n 0, 1, []), (.aload_n 0, 1, []), (.getfield 110, 3, [12, 4, 1836]), (.invokevirtual 113, 3, [600, 209, 2, 0, 1995, 1997, 53, 12]), (.invokestatic 126, 3, [600, 226, 1, 1, 2032, 2033, 0, 0]), (.ifCond .ne 12, 3, [44]), (.aload_n 0, 1, []), (.iconst 1, 1, []), (.aload_n 0, 1, []), (.getfield 110, 3, [12, 4, 1836]), (.invokevirtual 130, 3, [600, 120, 3, 0, 2020, 2022, 57, 12])]
def kb_128_44 : List ab_Row := [(.aload_n 0, 1, []), (.aload_n 0, 1, []), (.getfield 110, 3, [12, 4, 1836]), (.invokevirtual 113, 3, [600, 209, 2, 0, 1995, 1997, 53, 12]), (.invokestatic 126, 3, [600, 226, 1, 1, 2032, 2033, 0, 0]), (.ifCond .eq 51, 3, [106]), (.bipush 10, 2, []), (.iload 4, 2, []), (.imul, 1, []), (.aload_n 0, 1, []), (.aload_n 0, 1, []), (.getfield 110, 3, [12, 4, 1836]), (.invokevirtual 113, 3, [600, 209, 2, 0, 1995, 1997, 53, 12]), (.iadd, 1, []), (.bipush 48, 2, []), (.isub, 1, []), (.istore 4, 2, []), (.iload 4, 2, []), (.ldc 134, 2, [0, 100000, 2035]), (.if_icmp .le 8, 3, [89]), (.ldc 134, 2, [0, 100000, 2035]), (.goto 5, 3, [91])]
def kb_128_89 : List ab_Row := [(.iload 4, 2, [])]
def kb_128_91 : List ab_Row := [(.istore 4, 2, []), (.aload_n 0, 1, []), (.dup, 1, []), (.getfield 110, 3, [12, 4, 1836]), (.iconst 1, 1, []), (.iadd, 1, []), (.putfield 110, 3, [12, 4, 1836, 0]), (.goto (-59), 3, [44])]
def kb_128_106 : List ab_Row := [(.iload 4, 2, []), (.iload_n 1, 1, []), (.iload_n 2, 1, []), (.invokestatic 135, 3, [600, 112, 3, 1, 1980, 1981, 0, 0]), (.ifCond .ne 9, 3, [122]), (.aload_n 0, 1, []), (.iconst 2, 1, []), (.iload_n 3, 1, []), (.invokevirtual 130, 3, [600, 120, 3, 0, 2020, 2022, 57, 12])]
def kb_128_122 : List ab_Row := [(.aload_n 0, 1, []), (.getfield 117, 3, [12, 5, 1837]), (.ifCond .ne 8, 3, [134]), (.iload 4, 2, []), (.goto 4, 3, [135])]
def kb_128_134 : List ab_Row := [(.iconst 0, 1, [])]
def kb_128_135 : List ab_Row := [(.ireturn, 1, [])]
def kt_128 : List (Nat × List ab_Row) := [(0, kb_128_0), (9, kb_128_9), (44, kb_128_44), (89, kb_128_89), (91, kb_128_91), (106, kb_128_106), (122, kb_128_122), (134, kb_128_134), (135, kb_128_135)]
def km_128 : ab_Mi := ((⟨"SorryPursesModel", "number", "(II)I"⟩ : MethodName), prog_14_method_14_code, 5, (Option.some FieldType.int), [], [])
-- 129: SorryPursesModel.sign (I)V
def kb_129_0 : List ab_Row := [(.aload_n 0, 1, []), (.getfield 117, 3, [12, 5, 1837]), (.ifCond .eq 4, 3, [8]), (.return_, 1, [])]
def kb_129_8 : List ab_Row := [(.aload_n 0, 1, []), (.invokevirtual 123, 3, [600, 116, 1, 0, 1991, 1993, 52, 12]), (.aload_n 0, 1, []), (.aload_n 0, 1, []), (.getfield 110, 3, [12, 4, 1836]), (.invokevirtual 113, 3, [600, 209, 2, 0, 1995, 1997, 53, 12]), (.iload_n 1, 1, []), (.if_icmp .ne 16, 3, [37]), (.aload_n 0, 1, []), (.dup, 1, []), (.getfield 110, 3, [12, 4, 1836]), (.iconst 1, 1, []), (.iadd, 1, []), (.putfield 110, 3, [12, 4, 1836, 0]), (.goto 12, 3, [46])]
def kb_129_37 : List ab_Row := [(.aload_n 0, 1, []), (.iconst 1, 1, []), (.aload_n 0, 1, []), (.getfield 110, 3, [12, 4, 1836]), (.invokevirtual 130, 3, [600, 120, 3, 0, 2020, 2022, 57, 12])]
def kb_129_46 : List ab_Row := [(.return_, 1, [])]
def kt_129 : List (Nat × List ab_Row) := [(0, kb_129_0), (8, kb_129_8), (37, kb_129_37), (46, kb_129_46)]
def km_129 : ab_Mi := ((⟨"SorryPursesModel", "sign", "(I)V"⟩ : MethodName), prog_14_method_21_code, 2, (Option.none : Option FieldType), [], [])
-- 130: SorryPurses$History.pop (LSorryPurses$Ledger;)V
def kb_130_0 : List ab_Row := [(.aload_n 0, 1, []), (.getfield 30, 3, [3, 1, 471]), (.ifCond .le 25, 3, [29]), (.aload_n 0, 1, []), (.dup, 1, []), (.getfield 30, 3, [3, 1, 471]), (.iconst 1, 1, []), (.isub, 1, []), (.putfield 30, 3, [3, 1, 471, 0]), (.aload_n 0, 1, []), (.getfield 11, 3, [3, 0, 470]), (.aload_n 0, 1, []), (.getfield 30, 3, [3, 1, 471]), (.aload_n 1, 1, []), (.invokestatic 41, 3, [600, 227, 3, 1, 564, 565, 0, 0])]
def kb_130_29 : List ab_Row := [(.return_, 1, [])]
def kt_130 : List (Nat × List ab_Row) := [(0, kb_130_0), (29, kb_130_29)]
def km_130 : ab_Mi := ((⟨"SorryPurses$History", "pop", "(LSorryPurses$Ledger;)V"⟩ : MethodName), prog_5_method_4_code, 2, (Option.none : Option FieldType), [], [])
-- 131: SorryPurses.told (I)I
def kb_131_0 : List ab_Row := [(.aload_n 0, 1, []), (.iload_n 1, 1, []), (.ifCond .lt 13, 3, [15]), (.iload_n 1, 1, []), (.bipush 7, 2, []), (.if_icmp .gt 7, 3, [15]), (.iconst 1, 1, []), (.goto 4, 3, [16])]
def kb_131_15 : List ab_Row := [(.iconst 0, 1, [])]
def kb_131_16 : List ab_Row := [(.invokevirtual 196, 3, [600, 228, 2, 0, 1092, 1094, 13, 11]), (.iload_n 1, 1, []), (.tableswitch 100 0 6 #[44, 52, 60, 68, 76, 84, 92], 44, [64, 72, 80, 88, 96, 104, 112, 120])]
def kb_131_64 : List ab_Row := [(.aload_n 0, 1, []), (.getfield 19, 3, [11, 1, 495]), (.getfield 181, 3, [10, 5, 194]), (.ireturn, 1, [])]
def kb_131_72 : List ab_Row := [(.aload_n 0, 1, []), (.getfield 49, 3, [11, 7, 501]), (.getfield 163, 3, [6, 2, 305]), (.ireturn, 1, [])]
def kb_131_80 : List ab_Row := [(.aload_n 0, 1, []), (.getfield 49, 3, [11, 7, 501]), (.invokevirtual 200, 3, [600, 229, 1, 0, 1402, 1403, 1404, 6]), (.ireturn, 1, [])]
def kb_131_88 : List ab_Row := [(.aload_n 0, 1, []), (.getfield 49, 3, [11, 7, 501]), (.getfield 203, 3, [6, 3, 313]), (.ireturn, 1, [])]
def kb_131_96 : List ab_Row := [(.aload_n 0, 1, []), (.getfield 19, 3, [11, 1, 495]), (.getfield 206, 3, [10, 7, 197]), (.ireturn, 1, [])]
def kb_131_104 : List ab_Row := [(.aload_n 0, 1, []), (.getfield 58, 3, [11, 8, 502]), (.getfield 148, 3, [4, 5, 335]), (.ireturn, 1, [])]
def kb_131_112 : List ab_Row := [(.aload_n 0, 1, []), (.getfield 39, 3, [11, 5, 499]), (.getfield 154, 3, [0, 2, 251]), (.ireturn, 1, [])]
def kb_131_120 : List ab_Row := [(.aload_n 0, 1, []), (.getfield 76, 3, [11, 10, 504]), (.getfield 160, 3, [2, 6, 378]), (.ireturn, 1, [])]
def kt_131 : List (Nat × List ab_Row) := [(0, kb_131_0), (15, kb_131_15), (16, kb_131_16), (64, kb_131_64), (72, kb_131_72), (80, kb_131_80), (88, kb_131_88), (96, kb_131_96), (104, kb_131_104), (112, kb_131_112), (120, kb_131_120)]
def km_131 : ab_Mi := ((⟨"SorryPurses", "told", "(I)I"⟩ : MethodName), prog_1_method_9_code, 2, (Option.some FieldType.int), [], [])
-- 132: SorryPursesModel.standing ([I)I
def kb_132_0 : List ab_Row := [(.iconst 0, 1, []), (.istore_n 2, 1, []), (.iconst 0, 1, []), (.istore_n 3, 1, [])]
def kb_132_4 : List ab_Row := [(.iload_n 3, 1, []), (.aload_n 1, 1, []), (.sipush 360, 3, []), (.iaload, 1, []), (.if_icmp .ge 25, 3, [35]), (.iload_n 2, 1, []), (.aload_n 1, 1, []), (.iload_n 3, 1, []), (.invokestatic 258, 3, [600, 144, 2, 1, 2139, 2140, 0, 0]), (.ifCond .eq 7, 3, [26]), (.iconst 1, 1, []), (.goto 4, 3, [27])]
def kb_132_26 : List ab_Row := [(.iconst 0, 1, [])]
def kb_132_27 : List ab_Row := [(.iadd, 1, []), (.istore_n 2, 1, []), (.iinc 3 1, 3, []), (.goto (-28), 3, [4])]
def kb_132_35 : List ab_Row := [(.iload_n 2, 1, []), (.ireturn, 1, [])]
def kt_132 : List (Nat × List ab_Row) := [(0, kb_132_0), (4, kb_132_4), (26, kb_132_26), (27, kb_132_27), (35, kb_132_35)]
def km_132 : ab_Mi := ((⟨"SorryPursesModel", "standing", "([I)I"⟩ : MethodName), prog_14_method_62_code, 4, (Option.some FieldType.int), [], [])
-- 133: SorryPurses.claim (II)I
def kb_133_0 : List ab_Row := [(.aload_n 0, 1, []), (.iload_n 1, 1, []), (.invokevirtual 209, 3, [600, 230, 2, 0, 1414, 1416, 33, 11]), (.aload_n 0, 1, []), (.iload_n 2, 1, []), (.ifCond .lt 13, 3, [20]), (.iload_n 2, 1, []), (.bipush 7, 2, []), (.if_icmp .gt 7, 3, [20]), (.iconst 1, 1, []), (.goto 4, 3, [21])]
def kb_133_20 : List ab_Row := [(.iconst 0, 1, [])]
def kb_133_21 : List ab_Row := [(.invokevirtual 196, 3, [600, 228, 2, 0, 1092, 1094, 13, 11]), (.aload_n 0, 1, []), (.getfield 49, 3, [11, 7, 501]), (.iload_n 2, 1, []), (.iload_n 1, 1, []), (.invokevirtual 212, 3, [600, 231, 3, 0, 1434, 589, 590, 6]), (.ireturn, 1, [])]
def kt_133 : List (Nat × List ab_Row) := [(0, kb_133_0), (20, kb_133_20), (21, kb_133_21)]
def km_133 : ab_Mi := ((⟨"SorryPurses", "claim", "(II)I"⟩ : MethodName), prog_1_method_10_code, 3, (Option.some FieldType.int), [], [])
-- 134: SorryPursesModel.isClaim (I)Z
def kb_134_0 : List ab_Row := [(.iload_n 1, 1, []), (.iconst 0, 1, []), (.aload_n 0, 1, []), (.getfield 58, 3, [12, 25, 1857]), (.sipush 360, 3, []), (.iaload, 1, []), (.iconst 1, 1, []), (.isub, 1, []), (.invokestatic 135, 3, [600, 112, 3, 1, 1980, 1981, 0, 0]), (.ireturn, 1, [])]
def kt_134 : List (Nat × List ab_Row) := [(0, kb_134_0)]
def km_134 : ab_Mi := ((⟨"SorryPursesModel", "isClaim", "(I)Z"⟩ : MethodName), prog_14_method_65_code, 2, (Option.some FieldType.boolean), [], [])
-- 135: SorryPursesModel.of ([III)I
def kb_135_0 : List ab_Row := [(.aload_n 0, 1, []), (.bipush 9, 2, []), (.iload_n 1, 1, []), (.imul, 1, []), (.iload_n 2, 1, []), (.iadd, 1, []), (.iaload, 1, []), (.ireturn, 1, [])]
def kt_135 : List (Nat × List ab_Row) := [(0, kb_135_0)]
def km_135 : ab_Mi := ((⟨"SorryPursesModel", "of", "([III)I"⟩ : MethodName), prog_14_method_38_code, 3, (Option.some FieldType.int), [], [])
-- 136: SorryPurses.person (II)I
def kb_136_0 : List ab_Row := [(.aload_n 0, 1, []), (.iload_n 1, 1, []), (.invokevirtual 216, 3, [600, 232, 2, 0, 1442, 1444, 34, 11]), (.aload_n 0, 1, []), (.iload_n 2, 1, []), (.ifCond .lt 12, 3, [19]), (.iload_n 2, 1, []), (.iconst 4, 1, []), (.if_icmp .gt 7, 3, [19]), (.iconst 1, 1, []), (.goto 4, 3, [20])]
def kb_136_19 : List ab_Row := [(.iconst 0, 1, [])]
def kb_136_20 : List ab_Row := [(.invokevirtual 196, 3, [600, 228, 2, 0, 1092, 1094, 13, 11]), (.iload_n 2, 1, []), (.tableswitch 71 0 3 #[32, 41, 51, 61], 32, [56, 65, 75, 85, 95])]
def kb_136_56 : List ab_Row := [(.aload_n 0, 1, []), (.getfield 19, 3, [11, 1, 495]), (.iload_n 1, 1, []), (.invokevirtual 219, 3, [600, 233, 2, 0, 1447, 607, 608, 10]), (.ireturn, 1, [])]
def kb_136_65 : List ab_Row := [(.aload_n 0, 1, []), (.getfield 49, 3, [11, 7, 501]), (.iconst 1, 1, []), (.iload_n 1, 1, []), (.invokevirtual 223, 3, [600, 234, 3, 0, 1448, 1449, 1450, 6]), (.ireturn, 1, [])]
def kb_136_75 : List ab_Row := [(.aload_n 0, 1, []), (.getfield 49, 3, [11, 7, 501]), (.iconst 0, 1, []), (.iload_n 1, 1, []), (.invokevirtual 223, 3, [600, 234, 3, 0, 1448, 1449, 1450, 6]), (.ireturn, 1, [])]
def kb_136_85 : List ab_Row := [(.aload_n 0, 1, []), (.getfield 49, 3, [11, 7, 501]), (.iconst 1, 1, []), (.iload_n 1, 1, []), (.invokevirtual 226, 3, [600, 235, 3, 0, 1452, 598, 599, 6]), (.ireturn, 1, [])]
def kb_136_95 : List ab_Row := [(.aload_n 0, 1, []), (.getfield 49, 3, [11, 7, 501]), (.iconst 0, 1, []), (.iload_n 1, 1, []), (.invokevirtual 226, 3, [600, 235, 3, 0, 1452, 598, 599, 6]), (.ireturn, 1, [])]
def kt_136 : List (Nat × List ab_Row) := [(0, kb_136_0), (19, kb_136_19), (20, kb_136_20), (56, kb_136_56), (65, kb_136_65), (75, kb_136_75), (85, kb_136_85), (95, kb_136_95)]
def km_136 : ab_Mi := ((⟨"SorryPurses", "person", "(II)I"⟩ : MethodName), prog_1_method_11_code, 3, (Option.some FieldType.int), [], [])
-- 137: SorryPursesModel.isPerson (I)Z
def kb_137_0 : List ab_Row := [(.iload_n 1, 1, []), (.iconst 0, 1, []), (.aload_n 0, 1, []), (.getfield 23, 3, [12, 12, 1844]), (.iconst 0, 1, []), (.iaload, 1, []), (.iconst 1, 1, []), (.isub, 1, []), (.invokestatic 135, 3, [600, 112, 3, 1, 1980, 1981, 0, 0]), (.ireturn, 1, [])]
def kt_137 : List (Nat × List ab_Row) := [(0, kb_137_0)]
def km_137 : ab_Mi := ((⟨"SorryPursesModel", "isPerson", "(I)Z"⟩ : MethodName), prog_14_method_66_code, 2, (Option.some FieldType.boolean), [], [])
-- 138: SorryPursesModel.all ([IIIZ)I
def kb_138_0 : List ab_Row := [(.iconst 0, 1, []), (.istore 4, 2, []), (.iconst 0, 1, []), (.istore 5, 2, [])]
def kb_138_6 : List ab_Row := [(.iload 5, 2, []), (.aload_n 0, 1, []), (.sipush 360, 3, []), (.iaload, 1, []), (.if_icmp .ge 49, 3, [62]), (.aload_n 0, 1, []), (.iload 5, 2, []), (.invokestatic 258, 3, [600, 144, 2, 1, 2139, 2140, 0, 0]), (.ifCond .eq 34, 3, [56]), (.aload_n 0, 1, []), (.iload 5, 2, []), (.iload_n 1, 1, []), (.invokestatic 254, 3, [600, 135, 3, 1, 2142, 2143, 0, 0]), (.iload_n 2, 1, []), (.if_icmp .ne 23, 3, [56]), (.iload 4, 2, []), (.iload_n 3, 1, []), (.ifCond .eq 13, 3, [52]), (.aload_n 0, 1, []), (.iload 5, 2, []), (.iconst 2, 1, []), (.invokestatic 254, 3, [600, 135, 3, 1, 2142, 2143, 0, 0]), (.goto 4, 3, [53])]
def kb_138_52 : List ab_Row := [(.iconst 1, 1, [])]
def kb_138_53 : List ab_Row := [(.iadd, 1, []), (.istore 4, 2, [])]
def kb_138_56 : List ab_Row := [(.iinc 5 1, 3, []), (.goto (-53), 3, [6])]
def kb_138_62 : List ab_Row := [(.iload 4, 2, []), (.ireturn, 1, [])]
def kt_138 : List (Nat × List ab_Row) := [(0, kb_138_0), (6, kb_138_6), (52, kb_138_52), (53, kb_138_53), (56, kb_138_56), (62, kb_138_62)]
def km_138 : ab_Mi := ((⟨"SorryPursesModel", "all", "([IIIZ)I"⟩ : MethodName), prog_14_method_68_code, 6, (Option.some FieldType.int), [], [])
-- 139: SorryPurses.worth (II)I
def kb_139_0 : List ab_Row := [(.aload_n 0, 1, []), (.iload_n 1, 1, []), (.invokevirtual 216, 3, [600, 232, 2, 0, 1442, 1444, 34, 11]), (.aload_n 0, 1, []), (.iload_n 2, 1, []), (.ifCond .eq 8, 3, [15]), (.iload_n 2, 1, []), (.iconst 1, 1, []), (.if_icmp .ne 7, 3, [19])]
def kb_139_15 : List ab_Row := [(.iconst 1, 1, []), (.goto 4, 3, [20])]
def kb_139_19 : List ab_Row := [(.iconst 0, 1, [])]
def kb_139_20 : List ab_Row := [(.invokevirtual 196, 3, [600, 228, 2, 0, 1092, 1094, 13, 11]), (.aload_n 0, 1, []), (.getfield 49, 3, [11, 7, 501]), (.iload_n 1, 1, []), (.iload_n 2, 1, []), (.iconst 1, 1, []), (.if_icmp .ne 7, 3, [37]), (.iconst 1, 1, []), (.goto 4, 3, [38])]
def kb_139_37 : List ab_Row := [(.iconst 0, 1, [])]
def kb_139_38 : List ab_Row := [(.invokevirtual 229, 3, [600, 186, 3, 0, 1051, 632, 633, 6]), (.ireturn, 1, [])]
def kt_139 : List (Nat × List ab_Row) := [(0, kb_139_0), (15, kb_139_15), (19, kb_139_19), (20, kb_139_20), (37, kb_139_37), (38, kb_139_38)]
def km_139 : ab_Mi := ((⟨"SorryPurses", "worth", "(II)I"⟩ : MethodName), prog_1_method_12_code, 3, (Option.some FieldType.int), [], [])
-- 140: SorryPursesModel.worthOf ([IIZ)I
def kb_140_0 : List ab_Row := [(.iconst 0, 1, []), (.istore_n 3, 1, []), (.iconst 0, 1, []), (.istore 4, 2, [])]
def kb_140_5 : List ab_Row := [(.iload 4, 2, []), (.aload_n 0, 1, []), (.sipush 360, 3, []), (.iaload, 1, []), (.if_icmp .ge 86, 3, [98]), (.aload_n 0, 1, []), (.iload 4, 2, []), (.invokestatic 258, 3, [600, 144, 2, 1, 2139, 2140, 0, 0]), (.ifCond .eq 71, 3, [92]), (.iload_n 2, 1, []), (.ifCond .eq 17, 3, [42]), (.aload_n 0, 1, []), (.iload 4, 2, []), (.bipush 6, 2, []), (.invokestatic 254, 3, [600, 135, 3, 1, 2142, 2143, 0, 0]), (.ifCond .ne 6, 3, [42]), (.goto 53, 3, [92])]
def kb_140_42 : List ab_Row := [(.iload_n 3, 1, []), (.aload_n 0, 1, []), (.iload 4, 2, []), (.iconst 1, 1, []), (.invokestatic 254, 3, [600, 135, 3, 1, 2142, 2143, 0, 0]), (.iload_n 1, 1, []), (.if_icmp .ne 13, 3, [64]), (.aload_n 0, 1, []), (.iload 4, 2, []), (.iconst 2, 1, []), (.invokestatic 254, 3, [600, 135, 3, 1, 2142, 2143, 0, 0]), (.goto 4, 3, [65])]
def kb_140_64 : List ab_Row := [(.iconst 0, 1, [])]
def kb_140_65 : List ab_Row := [(.iadd, 1, []), (.istore_n 3, 1, []), (.iload_n 3, 1, []), (.aload_n 0, 1, []), (.iload 4, 2, []), (.iconst 0, 1, []), (.invokestatic 254, 3, [600, 135, 3, 1, 2142, 2143, 0, 0]), (.iload_n 1, 1, []), (.if_icmp .ne 13, 3, [89]), (.aload_n 0, 1, []), (.iload 4, 2, []), (.iconst 2, 1, []), (.invokestatic 254, 3, [600, 135, 3, 1, 2142, 2143, 0, 0]), (.goto 4, 3, [90])]
def kb_140_89 : List ab_Row := [(.iconst 0, 1, [])]
def kb_140_90 : List ab_Row := [(.isub, 1, []), (.istore_n 3, 1, [])]
def kb_140_92 : List ab_Row := [(.iinc 4 1, 3, []), (.goto (-90), 3, [5])]
def kb_140_98 : List ab_Row := [(.iload_n 3, 1, []), (.ireturn, 1, [])]
def kt_140 : List (Nat × List ab_Row) := [(0, kb_140_0), (5, kb_140_5), (42, kb_140_42), (64, kb_140_64), (65, kb_140_65), (89, kb_140_89), (90, kb_140_90), (92, kb_140_92), (98, kb_140_98)]
def km_140 : ab_Mi := ((⟨"SorryPursesModel", "worthOf", "([IIZ)I"⟩ : MethodName), prog_14_method_70_code, 5, (Option.some FieldType.int), [], [])
-- 141: SorryPurses.sums (I)I
def kb_141_0 : List ab_Row := [(.aload_n 0, 1, []), (.iload_n 1, 1, []), (.ifCond .lt 12, 3, [14]), (.iload_n 1, 1, []), (.iconst 4, 1, []), (.if_icmp .gt 7, 3, [14]), (.iconst 1, 1, []), (.goto 4, 3, [15])]
def kb_141_14 : List ab_Row := [(.iconst 0, 1, [])]
def kb_141_15 : List ab_Row := [(.invokevirtual 196, 3, [600, 228, 2, 0, 1092, 1094, 13, 11]), (.iload_n 1, 1, []), (.ifCond .ne 13, 3, [32]), (.aload_n 0, 1, []), (.getfield 49, 3, [11, 7, 501]), (.invokevirtual 233, 3, [600, 236, 1, 0, 1467, 1468, 1469, 6]), (.goto 11, 3, [40])]
def kb_141_32 : List ab_Row := [(.aload_n 0, 1, []), (.getfield 49, 3, [11, 7, 501]), (.iload_n 1, 1, []), (.invokevirtual 236, 3, [600, 237, 2, 0, 1471, 1472, 1473, 6])]
def kb_141_40 : List ab_Row := [(.ireturn, 1, [])]
def kt_141 : List (Nat × List ab_Row) := [(0, kb_141_0), (14, kb_141_14), (15, kb_141_15), (32, kb_141_32), (40, kb_141_40)]
def km_141 : ab_Mi := ((⟨"SorryPurses", "sums", "(I)I"⟩ : MethodName), prog_1_method_13_code, 2, (Option.some FieldType.int), [], [])
-- 142: SorryPursesModel.sorrows ([I)I
def kb_142_0 : List ab_Row := [(.iconst 0, 1, []), (.istore_n 2, 1, []), (.iconst 0, 1, []), (.istore_n 3, 1, [])]
def kb_142_4 : List ab_Row := [(.iload_n 3, 1, []), (.aload_n 1, 1, []), (.sipush 360, 3, []), (.iaload, 1, []), (.if_icmp .ge 30, 3, [40]), (.iload_n 2, 1, []), (.aload_n 1, 1, []), (.iload_n 3, 1, []), (.invokestatic 258, 3, [600, 144, 2, 1, 2139, 2140, 0, 0]), (.ifCond .eq 12, 3, [31]), (.aload_n 1, 1, []), (.iload_n 3, 1, []), (.iconst 2, 1, []), (.invokestatic 254, 3, [600, 135, 3, 1, 2142, 2143, 0, 0]), (.goto 4, 3, [32])]
def kb_142_31 : List ab_Row := [(.iconst 0, 1, [])]
def kb_142_32 : List ab_Row := [(.iadd, 1, []), (.istore_n 2, 1, []), (.iinc 3 1, 3, []), (.goto (-33), 3, [4])]
def kb_142_40 : List ab_Row := [(.iload_n 2, 1, []), (.ireturn, 1, [])]
def kt_142 : List (Nat × List ab_Row) := [(0, kb_142_0), (4, kb_142_4), (31, kb_142_31), (32, kb_142_32), (40, kb_142_40)]
def km_142 : ab_Mi := ((⟨"SorryPursesModel", "sorrows", "([I)I"⟩ : MethodName), prog_14_method_63_code, 4, (Option.some FieldType.int), [], [])
-- 143: SorryPurses.between (II)I
def kb_143_0 : List ab_Row := [(.aload_n 0, 1, []), (.iload_n 1, 1, []), (.invokevirtual 216, 3, [600, 232, 2, 0, 1442, 1444, 34, 11]), (.aload_n 0, 1, []), (.iload_n 2, 1, []), (.invokevirtual 216, 3, [600, 232, 2, 0, 1442, 1444, 34, 11]), (.aload_n 0, 1, []), (.getfield 49, 3, [11, 7, 501]), (.iload_n 1, 1, []), (.iload_n 2, 1, []), (.invokevirtual 239, 3, [600, 238, 3, 0, 1482, 1483, 1484, 6]), (.ireturn, 1, [])]
def kt_143 : List (Nat × List ab_Row) := [(0, kb_143_0)]
def km_143 : ab_Mi := ((⟨"SorryPurses", "between", "(II)I"⟩ : MethodName), prog_1_method_14_code, 3, (Option.some FieldType.int), [], [])
-- 144: SorryPursesModel.isStanding ([II)Z
def kb_144_0 : List ab_Row := [(.iload_n 1, 1, []), (.aload_n 0, 1, []), (.sipush 360, 3, []), (.iaload, 1, []), (.if_icmp .ge 17, 3, [23]), (.aload_n 0, 1, []), (.iload_n 1, 1, []), (.bipush 7, 2, []), (.invokestatic 254, 3, [600, 135, 3, 1, 2142, 2143, 0, 0]), (.ifCond .ne 7, 3, [23]), (.iconst 1, 1, []), (.goto 4, 3, [24])]
def kb_144_23 : List ab_Row := [(.iconst 0, 1, [])]
def kb_144_24 : List ab_Row := [(.ireturn, 1, [])]
def kt_144 : List (Nat × List ab_Row) := [(0, kb_144_0), (23, kb_144_23), (24, kb_144_24)]
def km_144 : ab_Mi := ((⟨"SorryPursesModel", "isStanding", "([II)Z"⟩ : MethodName), prog_14_method_39_code, 2, (Option.some FieldType.boolean), [], [])
-- 145: SorryPurses.meant (I)I
def kb_145_0 : List ab_Row := [(.aload_n 0, 1, []), (.iload_n 1, 1, []), (.invokevirtual 209, 3, [600, 230, 2, 0, 1414, 1416, 33, 11]), (.aload_n 0, 1, []), (.getfield 58, 3, [11, 8, 502]), (.iload_n 1, 1, []), (.invokevirtual 242, 3, [600, 239, 2, 0, 1493, 593, 594, 4]), (.ireturn, 1, [])]
def kt_145 : List (Nat × List ab_Row) := [(0, kb_145_0)]
def km_145 : ab_Mi := ((⟨"SorryPurses", "meant", "(I)I"⟩ : MethodName), prog_1_method_15_code, 2, (Option.some FieldType.int), [], [])
-- 146: SorryPursesModel.meantIn ([II)I
def kb_146_0 : List ab_Row := [(.aload_n 0, 1, []), (.aload_n 1, 1, []), (.iload_n 2, 1, []), (.aload_n 1, 1, []), (.aload_n 1, 1, []), (.iload_n 2, 1, []), (.iconst 1, 1, []), (.invokestatic 254, 3, [600, 135, 3, 1, 2142, 2143, 0, 0]), (.invokestatic 265, 3, [600, 180, 2, 1, 2169, 2170, 0, 0]), (.invokevirtual 269, 3, [600, 181, 4, 0, 2172, 2174, 82, 12]), (.ireturn, 1, [])]
def kt_146 : List (Nat × List ab_Row) := [(0, kb_146_0)]
def km_146 : ab_Mi := ((⟨"SorryPursesModel", "meantIn", "([II)I"⟩ : MethodName), prog_14_method_42_code, 3, (Option.some FieldType.int), [], [])
-- 147: SorryPurses.would (IIIII)I
def kb_147_0 : List ab_Row := [(.aload_n 0, 1, []), (.iload_n 1, 1, []), (.iconst 0, 1, []), (.sipush 9999, 3, []), (.invokestatic 245, 3, [600, 240, 3, 1, 1501, 1502, 0, 0]), (.ifCond .eq 51, 3, [60]), (.iload_n 2, 1, []), (.iconst 0, 1, []), (.sipush 999, 3, []), (.invokestatic 245, 3, [600, 240, 3, 1, 1501, 1502, 0, 0]), (.ifCond .eq 40, 3, [60]), (.iload_n 3, 1, []), (.iconst 0, 1, []), (.bipush 9, 2, []), (.invokestatic 245, 3, [600, 240, 3, 1, 1501, 1502, 0, 0]), (.ifCond .eq 30, 3, [60]), (.iload 4, 2, []), (.iconst 0, 1, []), (.bipush 9, 2, []), (.invokestatic 245, 3, [600, 240, 3, 1, 1501, 1502, 0, 0]), (.ifCond .eq 19, 3, [60]), (.iload 5, 2, []), (.iconst 0, 1, []), (.sipush 999, 3, []), (.invokestatic 245, 3, [600, 240, 3, 1, 1501, 1502, 0, 0]), (.ifCond .eq 7, 3, [60]), (.iconst 1, 1, []), (.goto 4, 3, [61])]
def kb_147_60 : List ab_Row := [(.iconst 0, 1, [])]
def kb_147_61 : List ab_Row := [(.invokevirtual 196, 3, [600, 228, 2, 0, 1092, 1094, 13, 11]), (.aload_n 0, 1, []), (.getfield 58, 3, [11, 8, 502]), (.iload_n 1, 1, []), (.iload_n 2, 1, []), (.iload_n 3, 1, []), (.iload 4, 2, []), (.iload 5, 2, []), (.invokevirtual 249, 3, [600, 241, 6, 0, 1504, 1505, 1506, 4]), (.ireturn, 1, [])]
def kt_147 : List (Nat × List ab_Row) := [(0, kb_147_0), (60, kb_147_60), (61, kb_147_61)]
def km_147 : ab_Mi := ((⟨"SorryPurses", "would", "(IIIII)I"⟩ : MethodName), prog_1_method_16_code, 6, (Option.some FieldType.int), [], [])
-- 148: SorryPursesModel.meantNow ()I
def kb_148_0 : List ab_Row := [(.iconst 0, 1, []), (.bipush 99, 2, []), (.aload_n 0, 1, []), (.invokevirtual 251, 3, [600, 242, 1, 0, 2092, 2094, 72, 12]), (.invokestatic 241, 3, [600, 192, 2, 1, 2099, 2100, 0, 0]), (.invokestatic 244, 3, [600, 193, 2, 1, 2102, 2103, 0, 0]), (.ireturn, 1, [])]
def kt_148 : List (Nat × List ab_Row) := [(0, kb_148_0)]
def km_148 : ab_Mi := ((⟨"SorryPursesModel", "meantNow", "()I"⟩ : MethodName), prog_14_method_37_code, 1, (Option.some FieldType.int), [], [])
-- 149: SorryPurses$Judge.openClaims ()J
def kb_149_0 : List ab_Row := [(.lconst 0, 1, []), (.lstore_n 1, 1, []), (.iconst 0, 1, []), (.istore_n 3, 1, [])]
def kb_149_4 : List ab_Row := [(.iload_n 3, 1, []), (.aload_n 0, 1, []), (.getfield 32, 3, [4, 2, 331]), (.getfield 68, 3, [6, 2, 306]), (.if_icmp .ge 23, 3, [35]), (.aload_n 0, 1, []), (.iload_n 3, 1, []), (.invokevirtual 71, 3, [600, 243, 2, 0, 580, 581, 582, 4]), (.ifCond .eq 9, 3, [29]), (.lload_n 1, 1, []), (.lconst 1, 1, []), (.iload_n 3, 1, []), (.lshl, 1, []), (.lor, 1, []), (.lstore_n 1, 1, [])]
def kb_149_29 : List ab_Row := [(.iinc 3 1, 3, []), (.goto (-28), 3, [4])]
def kb_149_35 : List ab_Row := [(.lload_n 1, 1, []), (.lreturn, 1, [])]
def kt_149 : List (Nat × List ab_Row) := [(0, kb_149_0), (4, kb_149_4), (29, kb_149_29), (35, kb_149_35)]
def km_149 : ab_Mi := ((⟨"SorryPurses$Judge", "openClaims", "()J"⟩ : MethodName), prog_6_method_6_code, 4, (Option.some FieldType.long), [], [])
-- 150: SorryPursesModel.isOpen (I)Z
def kb_150_0 : List ab_Row := [(.aload_n 0, 1, []), (.getfield 58, 3, [12, 25, 1857]), (.iload_n 1, 1, []), (.invokestatic 258, 3, [600, 144, 2, 1, 2139, 2140, 0, 0]), (.ifCond .eq 25, 3, [33]), (.aload_n 0, 1, []), (.aload_n 0, 1, []), (.getfield 58, 3, [12, 25, 1857]), (.iload_n 1, 1, []), (.invokevirtual 310, 3, [600, 146, 3, 0, 2165, 2167, 81, 12]), (.aload_n 0, 1, []), (.getfield 23, 3, [12, 12, 1844]), (.iconst 3, 1, []), (.iaload, 1, []), (.if_icmp .lt 7, 3, [33]), (.iconst 1, 1, []), (.goto 4, 3, [34])]
def kb_150_33 : List ab_Row := [(.iconst 0, 1, [])]
def kb_150_34 : List ab_Row := [(.ireturn, 1, [])]
def kt_150 : List (Nat × List ab_Row) := [(0, kb_150_0), (33, kb_150_33), (34, kb_150_34)]
def km_150 : ab_Mi := ((⟨"SorryPursesModel", "isOpen", "(I)Z"⟩ : MethodName), prog_14_method_75_code, 2, (Option.some FieldType.boolean), [], [])
-- 151: SorryPurses.pays (III)J
def kb_151_0 : List ab_Row := [(.aload_n 0, 1, []), (.iload_n 1, 1, []), (.invokevirtual 216, 3, [600, 232, 2, 0, 1442, 1444, 34, 11]), (.aload_n 0, 1, []), (.iload_n 2, 1, []), (.invokevirtual 216, 3, [600, 232, 2, 0, 1442, 1444, 34, 11]), (.aload_n 0, 1, []), (.iload_n 1, 1, []), (.iload_n 2, 1, []), (.if_icmp .eq 18, 3, [31]), (.iload_n 3, 1, []), (.iconst 1, 1, []), (.sipush 999, 3, []), (.invokestatic 245, 3, [600, 240, 3, 1, 1501, 1502, 0, 0]), (.ifCond .eq 7, 3, [31]), (.iconst 1, 1, []), (.goto 4, 3, [32])]
def kb_151_31 : List ab_Row := [(.iconst 0, 1, [])]
def kb_151_32 : List ab_Row := [(.invokevirtual 196, 3, [600, 228, 2, 0, 1092, 1094, 13, 11]), (.aload_n 0, 1, []), (.getfield 67, 3, [11, 9, 503]), (.iload_n 1, 1, []), (.iload_n 2, 1, []), (.iload_n 3, 1, []), (.invokevirtual 257, 3, [600, 244, 4, 0, 1515, 1350, 1351, 8]), (.lreturn, 1, [])]
def kt_151 : List (Nat × List ab_Row) := [(0, kb_151_0), (31, kb_151_31), (32, kb_151_32)]
def km_151 : ab_Mi := ((⟨"SorryPurses", "pays", "(III)J"⟩ : MethodName), prog_1_method_18_code, 4, (Option.some FieldType.long), [], [])
-- 152: SorryPursesModel.paidWith ([IIII)J
def kb_152_0 : List ab_Row := [(.aload_n 1, 1, []), (.sipush 360, 3, []), (.iaload, 1, []), (.istore 5, 2, []), (.iconst 0, 1, []), (.istore 6, 2, [])]
def kb_152_10 : List ab_Row := [(.iload 6, 2, []), (.iload 4, 2, []), (.if_icmp .gt 29, 3, [43]), (.aload_n 0, 1, []), (.getfield 70, 3, [12, 34, 1866]), (.iload 5, 2, []), (.aaload, 1, []), (.iload 6, 2, []), (.iload 6, 2, []), (.ifCond .ne 7, 3, [35]), (.iconst 0, 1, []), (.goto 4, 3, [36])]
def kb_152_35 : List ab_Row := [(.iconst (-1), 1, [])]
def kb_152_36 : List ab_Row := [(.iastore, 1, []), (.iinc 6 1, 3, []), (.goto (-30), 3, [10])]
def kb_152_43 : List ab_Row := [(.iload 5, 2, []), (.iconst 1, 1, []), (.isub, 1, []), (.istore 6, 2, [])]
def kb_152_49 : List ab_Row := [(.iload 6, 2, []), (.ifCond .lt 133, 3, [184]), (.iconst 0, 1, []), (.istore 7, 2, [])]
def kb_152_57 : List ab_Row := [(.iload 7, 2, []), (.iload 4, 2, []), (.if_icmp .gt 117, 3, [178]), (.aload_n 0, 1, []), (.getfield 70, 3, [12, 34, 1866]), (.iload 6, 2, []), (.iconst 1, 1, []), (.iadd, 1, []), (.aaload, 1, []), (.iload 7, 2, []), (.iaload, 1, []), (.istore 8, 2, []), (.aload_n 1, 1, []), (.iload 6, 2, []), (.iload_n 2, 1, []), (.iload_n 3, 1, []), (.invokestatic 348, 3, [600, 245, 4, 1, 2136, 2137, 0, 0]), (.ifCond .eq 38, 3, [124]), (.aload_n 1, 1, []), (.iload 6, 2, []), (.iconst 2, 1, []), (.invokestatic 254, 3, [600, 135, 3, 1, 2142, 2143, 0, 0]), (.iload 7, 2, []), (.if_icmp .gt 26, 3, [124]), (.aload_n 0, 1, []), (.getfield 70, 3, [12, 34, 1866]), (.iload 6, 2, []), (.iconst 1, 1, []), (.iadd, 1, []), (.aaload, 1, []), (.iload 7, 2, []), (.aload_n 1, 1, []), (.iload 6, 2, []), (.iconst 2, 1, []), (.invokestatic 254, 3, [600, 135, 3, 1, 2142, 2143, 0, 0]), (.isub, 1, []), (.iaload, 1, []), (.goto 4, 3, [125])]
def kb_152_124 : List ab_Row := [(.iconst (-1), 1, [])]
def kb_152_125 : List ab_Row := [(.istore 9, 2, []), (.aload_n 0, 1, []), (.getfield 70, 3, [12, 34, 1866]), (.iload 6, 2, []), (.aaload, 1, []), (.iload 7, 2, []), (.iload 9, 2, []), (.iconst (-1), 1, []), (.if_icmp .ne 8, 3, [147]), (.iload 8, 2, []), (.goto 27, 3, [171])]
def kb_152_147 : List ab_Row := [(.iload 8, 2, []), (.iconst (-1), 1, []), (.if_icmp .eq 12, 3, [162]), (.iload 9, 2, []), (.iconst 1, 1, []), (.iadd, 1, []), (.iload 8, 2, []), (.if_icmp .ge 10, 3, [169])]
def kb_152_162 : List ab_Row := [(.iload 9, 2, []), (.iconst 1, 1, []), (.iadd, 1, []), (.goto 5, 3, [171])]
def kb_152_169 : List ab_Row := [(.iload 8, 2, [])]
def kb_152_171 : List ab_Row := [(.iastore, 1, []), (.iinc 7 1, 3, []), (.goto (-118), 3, [57])]
def kb_152_178 : List ab_Row := [(.iinc 6 (-1), 3, []), (.goto (-132), 3, [49])]
def kb_152_184 : List ab_Row := [(.lconst 0, 1, []), (.lstore 6, 2, []), (.iload 4, 2, []), (.istore 8, 2, []), (.iconst 0, 1, []), (.istore 9, 2, [])]
def kb_152_194 : List ab_Row := [(.iload 9, 2, []), (.iload 5, 2, []), (.if_icmp .ge 117, 3, [315]), (.aload_n 0, 1, []), (.getfield 70, 3, [12, 34, 1866]), (.iconst 0, 1, []), (.aaload, 1, []), (.iload 4, 2, []), (.iaload, 1, []), (.iconst (-1), 1, []), (.if_icmp .eq 104, 3, [315]), (.aload_n 1, 1, []), (.iload 9, 2, []), (.iload_n 2, 1, []), (.iload_n 3, 1, []), (.invokestatic 348, 3, [600, 245, 4, 1, 2136, 2137, 0, 0]), (.ifCond .eq 87, 3, [309]), (.aload_n 1, 1, []), (.iload 9, 2, []), (.iconst 2, 1, []), (.invokestatic 254, 3, [600, 135, 3, 1, 2142, 2143, 0, 0]), (.iload 8, 2, []), (.if_icmp .le 6, 3, [240]), (.goto 72, 3, [309])]
def kb_152_240 : List ab_Row := [(.aload_n 0, 1, []), (.getfield 70, 3, [12, 34, 1866]), (.iload 9, 2, []), (.iconst 1, 1, []), (.iadd, 1, []), (.aaload, 1, []), (.iload 8, 2, []), (.aload_n 1, 1, []), (.iload 9, 2, []), (.iconst 2, 1, []), (.invokestatic 254, 3, [600, 135, 3, 1, 2142, 2143, 0, 0]), (.isub, 1, []), (.iaload, 1, []), (.istore 10, 2, []), (.iload 10, 2, []), (.iconst (-1), 1, []), (.if_icmp .eq 44, 3, [309]), (.iload 10, 2, []), (.iconst 1, 1, []), (.iadd, 1, []), (.aload_n 0, 1, []), (.getfield 70, 3, [12, 34, 1866]), (.iload 9, 2, []), (.aaload, 1, []), (.iload 8, 2, []), (.iaload, 1, []), (.if_icmp .eq 6, 3, [288]), (.goto 24, 3, [309])]
def kb_152_288 : List ab_Row := [(.lload 6, 2, []), (.lconst 1, 1, []), (.iload 9, 2, []), (.lshl, 1, []), (.lor, 1, []), (.lstore 6, 2, []), (.iload 8, 2, []), (.aload_n 1, 1, []), (.iload 9, 2, []), (.iconst 2, 1, []), (.invokestatic 254, 3, [600, 135, 3, 1, 2142, 2143, 0, 0]), (.isub, 1, []), (.istore 8, 2, [])]
def kb_152_309 : List ab_Row := [(.iinc 9 1, 3, []), (.goto (-118), 3, [194])]
def kb_152_315 : List ab_Row := [(.lload 6, 2, []), (.lreturn, 1, [])]
def kt_152 : List (Nat × List ab_Row) := [(0, kb_152_0), (10, kb_152_10), (35, kb_152_35), (36, kb_152_36), (43, kb_152_43), (49, kb_152_49), (57, kb_152_57), (124, kb_152_124), (125, kb_152_125), (147, kb_152_147), (162, kb_152_162), (169, kb_152_169), (171, kb_152_171), (178, kb_152_178), (184, kb_152_184), (194, kb_152_194), (240, kb_152_240), (288, kb_152_288), (309, kb_152_309), (315, kb_152_315)]
def km_152 : ab_Mi := ((⟨"SorryPursesModel", "paidWith", "([IIII)J"⟩ : MethodName), prog_14_method_77_code, 11, (Option.some FieldType.long), [], [])
-- 153: SorryPurses.cover (II)I
def kb_153_0 : List ab_Row := [(.aload_n 0, 1, []), (.iload_n 1, 1, []), (.invokevirtual 216, 3, [600, 232, 2, 0, 1442, 1444, 34, 11]), (.aload_n 0, 1, []), (.iload_n 2, 1, []), (.iconst 0, 1, []), (.sipush 9999, 3, []), (.invokestatic 245, 3, [600, 240, 3, 1, 1501, 1502, 0, 0]), (.invokevirtual 196, 3, [600, 228, 2, 0, 1092, 1094, 13, 11]), (.aload_n 0, 1, []), (.getfield 67, 3, [11, 9, 503]), (.iload_n 1, 1, []), (.iload_n 2, 1, []), (.invokevirtual 261, 3, [600, 246, 3, 0, 1523, 1524, 1525, 8]), (.ireturn, 1, [])]
def kt_153 : List (Nat × List ab_Row) := [(0, kb_153_0)]
def km_153 : ab_Mi := ((⟨"SorryPurses", "cover", "(II)I"⟩ : MethodName), prog_1_method_19_code, 3, (Option.some FieldType.int), [], [])
-- 154: SorryPursesModel.laysSums (I)V
def kb_154_0 : List ab_Row := [(.iconst 0, 1, []), (.istore_n 2, 1, [])]
def kb_154_2 : List ab_Row := [(.iload_n 2, 1, []), (.aload_n 0, 1, []), (.getfield 73, 3, [12, 35, 1867]), (.arraylength, 1, []), (.if_icmp .ge 24, 3, [32]), (.aload_n 0, 1, []), (.getfield 73, 3, [12, 35, 1867]), (.iload_n 2, 1, []), (.iload_n 2, 1, []), (.ifCond .ne 7, 3, [24]), (.iconst 1, 1, []), (.goto 4, 3, [25])]
def kb_154_24 : List ab_Row := [(.iconst 0, 1, [])]
def kb_154_25 : List ab_Row := [(.bastore, 1, []), (.iinc 2 1, 3, []), (.goto (-27), 3, [2])]
def kb_154_32 : List ab_Row := [(.iconst 0, 1, []), (.istore_n 2, 1, [])]
def kb_154_34 : List ab_Row := [(.iload_n 2, 1, []), (.aload_n 0, 1, []), (.getfield 58, 3, [12, 25, 1857]), (.sipush 360, 3, []), (.iaload, 1, []), (.if_icmp .ge 102, 3, [145]), (.aload_n 0, 1, []), (.getfield 58, 3, [12, 25, 1857]), (.iload_n 2, 1, []), (.invokestatic 258, 3, [600, 144, 2, 1, 2139, 2140, 0, 0]), (.ifCond .eq 85, 3, [139]), (.aload_n 0, 1, []), (.getfield 58, 3, [12, 25, 1857]), (.iload_n 2, 1, []), (.iconst 1, 1, []), (.invokestatic 254, 3, [600, 135, 3, 1, 2142, 2143, 0, 0]), (.iload_n 1, 1, []), (.if_icmp .eq 6, 3, [73]), (.goto 69, 3, [139])]
def kb_154_73 : List ab_Row := [(.aload_n 0, 1, []), (.getfield 73, 3, [12, 35, 1867]), (.arraylength, 1, []), (.iconst 1, 1, []), (.isub, 1, []), (.istore_n 3, 1, [])]
def kb_154_81 : List ab_Row := [(.iload_n 3, 1, []), (.aload_n 0, 1, []), (.getfield 58, 3, [12, 25, 1857]), (.iload_n 2, 1, []), (.iconst 2, 1, []), (.invokestatic 254, 3, [600, 135, 3, 1, 2142, 2143, 0, 0]), (.if_icmp .lt 48, 3, [139]), (.aload_n 0, 1, []), (.getfield 73, 3, [12, 35, 1867]), (.iload_n 3, 1, []), (.aload_n 0, 1, []), (.getfield 73, 3, [12, 35, 1867]), (.iload_n 3, 1, []), (.baload, 1, []), (.ifCond .ne 22, 3, [127]), (.aload_n 0, 1, []), (.getfield 73, 3, [12, 35, 1867]), (.iload_n 3, 1, []), (.aload_n 0, 1, []), (.getfield 58, 3, [12, 25, 1857]), (.iload_n 2, 1, []), (.iconst 2, 1, []), (.invokestatic 254, 3, [600, 135, 3, 1, 2142, 2143, 0, 0]), (.isub, 1, []), (.baload, 1, []), (.ifCond .eq 7, 3, [131])]
def kb_154_127 : List ab_Row := [(.iconst 1, 1, []), (.goto 4, 3, [132])]
def kb_154_131 : List ab_Row := [(.iconst 0, 1, [])]
def kb_154_132 : List ab_Row := [(.bastore, 1, []), (.iinc 3 (-1), 3, []), (.goto (-55), 3, [81])]
def kb_154_139 : List ab_Row := [(.iinc 2 1, 3, []), (.goto (-108), 3, [34])]
def kb_154_145 : List ab_Row := [(.return_, 1, [])]
def kt_154 : List (Nat × List ab_Row) := [(0, kb_154_0), (2, kb_154_2), (24, kb_154_24), (25, kb_154_25), (32, kb_154_32), (34, kb_154_34), (73, kb_154_73), (81, kb_154_81), (127, kb_154_127), (131, kb_154_131), (132, kb_154_132), (139, kb_154_139), (145, kb_154_145)]
def km_154 : ab_Mi := ((⟨"SorryPursesModel", "laysSums", "(I)V"⟩ : MethodName), prog_14_method_81_code, 4, (Option.none : Option FieldType), [], [])
-- 155: SorryPurses.ways (I)I
def kb_155_0 : List ab_Row := [(.aload_n 0, 1, []), (.iload_n 1, 1, []), (.invokevirtual 216, 3, [600, 232, 2, 0, 1442, 1444, 34, 11]), (.aload_n 0, 1, []), (.getfield 67, 3, [11, 9, 503]), (.iload_n 1, 1, []), (.invokevirtual 264, 3, [600, 247, 2, 0, 1550, 1551, 1552, 8]), (.ireturn, 1, [])]
def kt_155 : List (Nat × List ab_Row) := [(0, kb_155_0)]
def km_155 : ab_Mi := ((⟨"SorryPurses", "ways", "(I)I"⟩ : MethodName), prog_1_method_20_code, 2, (Option.some FieldType.int), [], [])
-- 156: SorryPurses.even (I)I
def kb_156_0 : List ab_Row := [(.aload_n 0, 1, []), (.iload_n 1, 1, []), (.ifCond .eq 8, 3, [10]), (.iload_n 1, 1, []), (.iconst 1, 1, []), (.if_icmp .ne 7, 3, [14])]
def kb_156_10 : List ab_Row := [(.iconst 1, 1, []), (.goto 4, 3, [15])]
def kb_156_14 : List ab_Row := [(.iconst 0, 1, [])]
def kb_156_15 : List ab_Row := [(.invokevirtual 196, 3, [600, 228, 2, 0, 1092, 1094, 13, 11]), (.aload_n 0, 1, []), (.getfield 85, 3, [11, 11, 505]), (.invokevirtual 267, 3, [600, 159, 1, 0, 627, 628, 629, 1]), (.iload_n 1, 1, []), (.iconst 1, 1, []), (.if_icmp .ne 13, 3, [40]), (.aload_n 0, 1, []), (.getfield 85, 3, [11, 11, 505]), (.getfield 269, 3, [1, 7, 409]), (.goto 18, 3, [55])]
def kb_156_40 : List ab_Row := [(.aload_n 0, 1, []), (.getfield 85, 3, [11, 11, 505]), (.invokevirtual 272, 3, [600, 248, 1, 0, 1561, 1562, 1563, 1]), (.aload_n 0, 1, []), (.getfield 85, 3, [11, 11, 505]), (.getfield 269, 3, [1, 7, 409]), (.isub, 1, [])]
def kb_156_55 : List ab_Row := [(.ireturn, 1, [])]
def kt_156 : List (Nat × List ab_Row) := [(0, kb_156_0), (10, kb_156_10), (14, kb_156_14), (15, kb_156_15), (40, kb_156_40), (55, kb_156_55)]
def km_156 : ab_Mi := ((⟨"SorryPurses", "even", "(I)I"⟩ : MethodName), prog_1_method_21_code, 2, (Option.some FieldType.int), [], [])
-- 157: SorryPursesModel.laysGroups ()V
def kb_157_0 : List ab_Row := [(.aload_n 0, 1, []), (.iconst 0, 1, []), (.putfield 354, 3, [12, 38, 1870, 0]), (.iconst 0, 1, []), (.istore_n 1, 1, [])]
def kb_157_7 : List ab_Row := [(.iload_n 1, 1, []), (.aload_n 0, 1, []), (.getfield 23, 3, [12, 12, 1844]), (.iconst 0, 1, []), (.iaload, 1, []), (.if_icmp .ge 37, 3, [51]), (.aload_n 0, 1, []), (.dup, 1, []), (.getfield 354, 3, [12, 38, 1870]), (.aload_n 0, 1, []), (.getfield 58, 3, [12, 25, 1857]), (.iload_n 1, 1, []), (.iconst 0, 1, []), (.invokestatic 338, 3, [600, 140, 3, 1, 2219, 2220, 0, 0]), (.ifCond .eq 9, 3, [40]), (.iconst 1, 1, []), (.iload_n 1, 1, []), (.ishl, 1, []), (.goto 4, 3, [41])]
def kb_157_40 : List ab_Row := [(.iconst 0, 1, [])]
def kb_157_41 : List ab_Row := [(.ior, 1, []), (.putfield 354, 3, [12, 38, 1870, 0]), (.iinc 1 1, 3, []), (.goto (-41), 3, [7])]
def kb_157_51 : List ab_Row := [(.iconst 0, 1, []), (.istore_n 1, 1, [])]
def kb_157_53 : List ab_Row := [(.iload_n 1, 1, []), (.iconst 1, 1, []), (.aload_n 0, 1, []), (.getfield 23, 3, [12, 12, 1844]), (.iconst 0, 1, []), (.iaload, 1, []), (.ishl, 1, []), (.if_icmp .ge 168, 3, [230]), (.aload_n 0, 1, []), (.getfield 77, 3, [12, 36, 1868]), (.iload_n 1, 1, []), (.iconst 0, 1, []), (.iastore, 1, []), (.iconst 0, 1, []), (.istore_n 2, 1, [])]
def kb_157_74 : List ab_Row := [(.iload_n 2, 1, []), (.aload_n 0, 1, []), (.getfield 23, 3, [12, 12, 1844]), (.iconst 0, 1, []), (.iaload, 1, []), (.if_icmp .ge 40, 3, [121]), (.aload_n 0, 1, []), (.getfield 77, 3, [12, 36, 1868]), (.iload_n 1, 1, []), (.dup2, 1, []), (.iaload, 1, []), (.iload_n 1, 1, []), (.iload_n 2, 1, []), (.ishr, 1, []), (.iconst 1, 1, []), (.iand, 1, []), (.iconst 1, 1, []), (.if_icmp .ne 15, 3, [112]), (.aload_n 0, 1, []), (.getfield 58, 3, [12, 25, 1857]), (.iload_n 2, 1, []), (.iconst 0, 1, []), (.invokestatic 338, 3, [600, 140, 3, 1, 2219, 2220, 0, 0]), (.goto 4, 3, [113])]
def kb_157_112 : List ab_Row := [(.iconst 0, 1, [])]
def kb_157_113 : List ab_Row := [(.iadd, 1, []), (.iastore, 1, []), (.iinc 2 1, 3, []), (.goto (-44), 3, [74])]
def kb_157_121 : List ab_Row := [(.aload_n 0, 1, []), (.getfield 80, 3, [12, 37, 1869]), (.iload_n 1, 1, []), (.iload_n 1, 1, []), (.ifCond .ne 7, 3, [134]), (.iconst 0, 1, []), (.goto 4, 3, [135])]
def kb_157_134 : List ab_Row := [(.iconst (-1), 1, [])]
def kb_157_135 : List ab_Row := [(.iastore, 1, []), (.iload_n 1, 1, []), (.aload_n 0, 1, []), (.getfield 354, 3, [12, 38, 1870]), (.iconst (-1), 1, []), (.ixor, 1, []), (.iand, 1, []), (.ifCond .eq 6, 3, [150]), (.goto 77, 3, [224])]
def kb_157_150 : List ab_Row := [(.iload_n 1, 1, []), (.istore_n 2, 1, [])]
def kb_157_152 : List ab_Row := [(.iload_n 2, 1, []), (.ifCond .le 71, 3, [224]), (.iload_n 2, 1, []), (.iload_n 1, 1, []), (.iand, 1, []), (.iload_n 1, 1, []), (.ineg, 1, []), (.iand, 1, []), (.ifCond .eq 53, 3, [215]), (.aload_n 0, 1, []), (.getfield 77, 3, [12, 36, 1868]), (.iload_n 2, 1, []), (.iaload, 1, []), (.ifCond .ne 44, 3, [215]), (.aload_n 0, 1, []), (.getfield 80, 3, [12, 37, 1869]), (.iload_n 1, 1, []), (.iload_n 2, 1, []), (.iconst (-1), 1, []), (.ixor, 1, []), (.iand, 1, []), (.iaload, 1, []), (.iconst (-1), 1, []), (.if_icmp .eq 30, 3, [215]), (.aload_n 0, 1, []), (.getfield 80, 3, [12, 37, 1869]), (.iload_n 1, 1, []), (.aload_n 0, 1, []), (.getfield 80, 3, [12, 37, 1869]), (.iload_n 1, 1, []), (.iaload, 1, []), (.aload_n 0, 1, []), (.getfield 80, 3, [12, 37, 1869]), (.iload_n 1, 1, []), (.iload_n 2, 1, []), (.iconst (-1), 1, []), (.ixor, 1, []), (.iand, 1, []), (.iaload, 1, []), (.iconst 1, 1, []), (.iadd, 1, []), (.invokestatic 244, 3, [600, 193, 2, 1, 2102, 2103, 0, 0]), (.iastore, 1, [])]
def kb_157_215 : List ab_Row := [(.iload_n 2, 1, []), (.iconst 1, 1, []), (.isub, 1, []), (.iload_n 1, 1, []), (.iand, 1, []), (.istore_n 2, 1, []), (.goto (-69), 3, [152])]
def kb_157_224 : List ab_Row := [(.iinc 1 1, 3, []), (.goto (-174), 3, [53])]
def kb_157_230 : List ab_Row := [(.return_, 1, [])]
def kt_157 : List (Nat × List ab_Row) := [(0, kb_157_0), (7, kb_157_7), (40, kb_157_40), (41, kb_157_41), (51, kb_157_51), (53, kb_157_53), (74, kb_157_74), (112, kb_157_112), (113, kb_157_113), (121, kb_157_121), (134, kb_157_134), (135, kb_157_135), (150, kb_157_150), (152, kb_157_152), (215, kb_157_215), (224, kb_157_224), (230, kb_157_230)]
def km_157 : ab_Mi := ((⟨"SorryPursesModel", "laysGroups", "()V"⟩ : MethodName), prog_14_method_85_code, 3, (Option.none : Option FieldType), [], [])
-- 158: SorryPursesModel.ones (I)I
def kb_158_0 : List ab_Row := [(.iconst 0, 1, []), (.istore_n 1, 1, []), (.iconst 0, 1, []), (.istore_n 2, 1, [])]
def kb_158_4 : List ab_Row := [(.iload_n 2, 1, []), (.bipush 16, 2, []), (.if_icmp .ge 17, 3, [24]), (.iload_n 1, 1, []), (.iload_n 0, 1, []), (.iload_n 2, 1, []), (.ishr, 1, []), (.iconst 1, 1, []), (.iand, 1, []), (.iadd, 1, []), (.istore_n 1, 1, []), (.iinc 2 1, 3, []), (.goto (-17), 3, [4])]
def kb_158_24 : List ab_Row := [(.iload_n 1, 1, []), (.ireturn, 1, [])]
def kt_158 : List (Nat × List ab_Row) := [(0, kb_158_0), (4, kb_158_4), (24, kb_158_24)]
def km_158 : ab_Mi := ((⟨"SorryPursesModel", "ones", "(I)I"⟩ : MethodName), prog_14_method_86_code, 3, (Option.some FieldType.int), [], [])
-- 159: SorryPurses$Crowd.settle ()V
def kb_159_0 : List ab_Row := [(.aload_n 0, 1, []), (.iconst 0, 1, []), (.putfield 42, 3, [1, 6, 407, 0]), (.aload_n 0, 1, []), (.getfield 11, 3, [1, 3, 404]), (.iconst 0, 1, []), (.iconst 0, 1, []), (.iastore, 1, []), (.aload_n 0, 1, []), (.getfield 15, 3, [1, 4, 405]), (.iconst 0, 1, []), (.iconst 0, 1, []), (.iastore, 1, []), (.iconst 0, 1, []), (.istore_n 1, 1, [])]
def kb_159_21 : List ab_Row := [(.iload_n 1, 1, []), (.aload_n 0, 1, []), (.getfield 30, 3, [1, 0, 401]), (.getfield 55, 3, [10, 5, 193]), (.if_icmp .ge 54, 3, [83]), (.iload_n 1, 1, []), (.bipush 8, 2, []), (.if_icmp .ge 48, 3, [83]), (.aload_n 0, 1, []), (.getfield 34, 3, [1, 1, 402]), (.iload_n 1, 1, []), (.iconst 0, 1, []), (.invokevirtual 60, 3, [600, 186, 3, 0, 631, 632, 633, 6]), (.istore_n 2, 1, []), (.aload_n 0, 1, []), (.getfield 11, 3, [1, 3, 404]), (.iconst 1, 1, []), (.iload_n 1, 1, []), (.ishl, 1, []), (.iload_n 2, 1, []), (.iastore, 1, []), (.aload_n 0, 1, []), (.dup, 1, []), (.getfield 42, 3, [1, 6, 407]), (.iload_n 2, 1, []), (.ifCond .eq 9, 3, [72]), (.iconst 1, 1, []), (.iload_n 1, 1, []), (.ishl, 1, []), (.goto 4, 3, [73])]
def kb_159_72 : List ab_Row := [(.iconst 0, 1, [])]
def kb_159_73 : List ab_Row := [(.ior, 1, []), (.putfield 42, 3, [1, 6, 407, 0]), (.iinc 1 1, 3, []), (.goto (-59), 3, [21])]
def kb_159_83 : List ab_Row := [(.iconst 1, 1, []), (.istore_n 1, 1, [])]
def kb_159_85 : List ab_Row := [(.iload_n 1, 1, []), (.sipush 256, 3, []), (.if_icmp .ge 25, 3, [114]), (.iload_n 1, 1, []), (.aload_n 0, 1, []), (.getfield 42, 3, [1, 6, 407]), (.iconst (-1), 1, []), (.ixor, 1, []), (.iand, 1, []), (.ifCond .ne 8, 3, [108]), (.aload_n 0, 1, []), (.iload_n 1, 1, []), (.invokevirtual 66, 3, [600, 249, 2, 0, 639, 641, 1, 1])]
def kb_159_108 : List ab_Row := [(.iinc 1 1, 3, []), (.goto (-26), 3, [85])]
def kb_159_114 : List ab_Row := [(.aload_n 0, 1, []), (.invokevirtual 70, 3, [600, 250, 1, 0, 648, 650, 3, 1]), (.return_, 1, [])]
def kt_159 : List (Nat × List ab_Row) := [(0, kb_159_0), (21, kb_159_21), (72, kb_159_72), (73, kb_159_73), (83, kb_159_83), (85, kb_159_85), (108, kb_159_108), (114, kb_159_114)]
def km_159 : ab_Mi := ((⟨"SorryPurses$Crowd", "settle", "()V"⟩ : MethodName), prog_3_method_4_code, 3, (Option.none : Option FieldType), [], [])
-- 160: SorryPurses$Crowd.groupAt (I)I
def kb_160_0 : List ab_Row := [(.iload_n 1, 1, []), (.ifCond .lt 26, 3, [27]), (.iload_n 1, 1, []), (.aload_n 0, 1, []), (.getfield 52, 3, [1, 7, 408]), (.if_icmp .ge 18, 3, [27]), (.iload_n 1, 1, []), (.bipush 8, 2, []), (.if_icmp .ge 12, 3, [27]), (.aload_n 0, 1, []), (.getfield 18, 3, [1, 5, 406]), (.iload_n 1, 1, []), (.iaload, 1, []), (.goto 4, 3, [28])]
def kb_160_27 : List ab_Row := [(.iconst (-1), 1, [])]
def kb_160_28 : List ab_Row := [(.ireturn, 1, [])]
def kt_160 : List (Nat × List ab_Row) := [(0, kb_160_0), (27, kb_160_27), (28, kb_160_28)]
def km_160 : ab_Mi := ((⟨"SorryPurses$Crowd", "groupAt", "(I)I"⟩ : MethodName), prog_3_method_3_code, 2, (Option.some FieldType.int), [], [])
-- 161: SorryPurses$Crowd.meet ()V
def kb_161_0 : List ab_Row := [(.aload_n 0, 1, []), (.invokevirtual 86, 3, [600, 251, 1, 0, 668, 670, 5, 1]), (.aload_n 0, 1, []), (.getfield 30, 3, [1, 0, 401]), (.getfield 55, 3, [10, 5, 193]), (.bipush 8, 2, []), (.invokestatic 89, 3, [710, 681, 618, 121, 619]), (.istore_n 1, 1, []), (.aload_n 0, 1, []), (.getfield 27, 3, [1, 10, 412]), (.iload_n 1, 1, []), (.sipush 256, 3, []), (.imul, 1, []), (.iload_n 1, 1, []), (.iconst 1, 1, []), (.iadd, 1, []), (.sipush 256, 3, []), (.imul, 1, []), (.iconst 0, 1, []), (.invokestatic 92, 3, [600, 253, 4, 1, 682, 683, 0, 0]), (.iload_n 1, 1, []), (.iconst 1, 1, []), (.isub, 1, []), (.istore_n 2, 1, [])]
def kb_161_41 : List ab_Row := [(.iload_n 2, 1, []), (.ifCond .lt 42, 3, [84]), (.iconst 0, 1, []), (.istore_n 3, 1, [])]
def kb_161_47 : List ab_Row := [(.iload_n 3, 1, []), (.iconst 1, 1, []), (.iload_n 1, 1, []), (.ishl, 1, []), (.if_icmp .ge 27, 3, [78]), (.aload_n 0, 1, []), (.getfield 27, 3, [1, 10, 412]), (.iload_n 2, 1, []), (.sipush 256, 3, []), (.imul, 1, []), (.iload_n 3, 1, []), (.iadd, 1, []), (.aload_n 0, 1, []), (.iload_n 2, 1, []), (.iload_n 3, 1, []), (.invokevirtual 98, 3, [600, 254, 3, 0, 988, 990, 8, 1]), (.iastore, 1, []), (.iinc 3 1, 3, []), (.goto (-28), 3, [47])]
def kb_161_78 : List ab_Row := [(.iinc 2 (-1), 3, []), (.goto (-40), 3, [41])]
def kb_161_84 : List ab_Row := [(.aload_n 0, 1, []), (.iload_n 1, 1, []), (.invokevirtual 101, 3, [600, 255, 2, 0, 996, 998, 10, 1]), (.return_, 1, [])]
def kt_161 : List (Nat × List ab_Row) := [(0, kb_161_0), (41, kb_161_41), (47, kb_161_47), (78, kb_161_78), (84, kb_161_84)]
def km_161 : ab_Mi := ((⟨"SorryPurses$Crowd", "meet", "()V"⟩ : MethodName), prog_3_method_11_code, 4, (Option.none : Option FieldType), [], [])
-- 162: SorryPurses$Crowd.mostPaid ()I
def kb_162_0 : List ab_Row := [(.aload_n 0, 1, []), (.getfield 27, 3, [1, 10, 412]), (.iconst 0, 1, []), (.iaload, 1, []), (.ireturn, 1, [])]
def kt_162 : List (Nat × List ab_Row) := [(0, kb_162_0)]
def km_162 : ab_Mi := ((⟨"SorryPurses$Crowd", "mostPaid", "()I"⟩ : MethodName), prog_3_method_9_code, 1, (Option.some FieldType.int), [], [])
-- 163: SorryPursesModel.laysDays ()V
def kb_163_0 : List ab_Row := [(.iconst 0, 1, []), (.istore_n 1, 1, [])]
def kb_163_2 : List ab_Row := [(.iload_n 1, 1, []), (.aload_n 0, 1, []), (.getfield 23, 3, [12, 12, 1844]), (.iconst 0, 1, []), (.iaload, 1, []), (.if_icmp .ge 41, 3, [50]), (.iconst 0, 1, []), (.istore_n 2, 1, [])]
def kb_163_14 : List ab_Row := [(.iload_n 2, 1, []), (.aload_n 0, 1, []), (.getfield 23, 3, [12, 12, 1844]), (.iconst 0, 1, []), (.iaload, 1, []), (.if_icmp .ge 23, 3, [44]), (.aload_n 0, 1, []), (.getfield 86, 3, [12, 40, 1872]), (.iload_n 1, 1, []), (.aaload, 1, []), (.iload_n 2, 1, []), (.aload_n 0, 1, []), (.iload_n 1, 1, []), (.iload_n 2, 1, []), (.invokevirtual 363, 3, [600, 256, 3, 0, 2297, 2299, 91, 12]), (.iastore, 1, []), (.iinc 2 1, 3, []), (.goto (-27), 3, [14])]
def kb_163_44 : List ab_Row := [(.iinc 1 1, 3, []), (.goto (-45), 3, [2])]
def kb_163_50 : List ab_Row := [(.aload_n 0, 1, []), (.getfield 23, 3, [12, 12, 1844]), (.iconst 0, 1, []), (.iaload, 1, []), (.istore_n 1, 1, [])]
def kb_163_57 : List ab_Row := [(.iload_n 1, 1, []), (.ifCond .lt 159, 3, [217]), (.iconst 0, 1, []), (.istore_n 2, 1, [])]
def kb_163_63 : List ab_Row := [(.iload_n 2, 1, []), (.iconst 1, 1, []), (.aload_n 0, 1, []), (.getfield 23, 3, [12, 12, 1844]), (.iconst 0, 1, []), (.iaload, 1, []), (.ishl, 1, []), (.if_icmp .ge 139, 3, [211]), (.aload_n 0, 1, []), (.getfield 83, 3, [12, 39, 1871]), (.iload_n 1, 1, []), (.aaload, 1, []), (.iload_n 2, 1, []), (.iload_n 1, 1, []), (.aload_n 0, 1, []), (.getfield 23, 3, [12, 12, 1844]), (.iconst 0, 1, []), (.iaload, 1, []), (.if_icmp .ne 7, 3, [96]), (.iconst 0, 1, []), (.goto 13, 3, [106])]
def kb_163_96 : List ab_Row := [(.aload_n 0, 1, []), (.getfield 83, 3, [12, 39, 1871]), (.iload_n 1, 1, []), (.iconst 1, 1, []), (.iadd, 1, []), (.aaload, 1, []), (.iload_n 2, 1, []), (.iaload, 1, [])]
def kb_163_106 : List ab_Row := [(.iastore, 1, []), (.iconst 0, 1, []), (.istore_n 3, 1, [])]
def kb_163_109 : List ab_Row := [(.iload_n 3, 1, []), (.aload_n 0, 1, []), (.getfield 23, 3, [12, 12, 1844]), (.iconst 0, 1, []), (.iaload, 1, []), (.if_icmp .ge 89, 3, [205]), (.iload_n 1, 1, []), (.aload_n 0, 1, []), (.getfield 23, 3, [12, 12, 1844]), (.iconst 0, 1, []), (.iaload, 1, []), (.if_icmp .ge 79, 3, [205]), (.iload_n 2, 1, []), (.iload_n 3, 1, []), (.ishr, 1, []), (.iconst 1, 1, []), (.iand, 1, []), (.ifCond .ne 65, 3, [199]), (.aload_n 0, 1, []), (.getfield 86, 3, [12, 40, 1872]), (.iload_n 1, 1, []), (.aaload, 1, []), (.iload_n 3, 1, []), (.iaload, 1, []), (.iconst (-1), 1, []), (.if_icmp .eq 53, 3, [199]), (.aload_n 0, 1, []), (.getfield 83, 3, [12, 39, 1871]), (.iload_n 1, 1, []), (.aaload, 1, []), (.iload_n 2, 1, []), (.aload_n 0, 1, []), (.getfield 83, 3, [12, 39, 1871]), (.iload_n 1, 1, []), (.aaload, 1, []), (.iload_n 2, 1, []), (.iaload, 1, []), (.aload_n 0, 1, []), (.getfield 58, 3, [12, 25, 1857]), (.aload_n 0, 1, []), (.getfield 86, 3, [12, 40, 1872]), (.iload_n 1, 1, []), (.aaload, 1, []), (.iload_n 3, 1, []), (.iaload, 1, []), (.iconst 2, 1, []), (.invokestatic 254, 3, [600, 135, 3, 1, 2142, 2143, 0, 0]), (.aload_n 0, 1, []), (.getfield 83, 3, [12, 39, 1871]), (.iload_n 1, 1, []), (.iconst 1, 1, []), (.iadd, 1, []), (.aaload, 1, []), (.iload_n 2, 1, []), (.iconst 1, 1, []), (.iload_n 3, 1, []), (.ishl, 1, []), (.ior, 1, []), (.iaload, 1, []), (.iadd, 1, []), (.invokestatic 244, 3, [600, 193, 2, 1, 2102, 2103, 0, 0]), (.iastore, 1, [])]
def kb_163_199 : List ab_Row := [(.iinc 3 1, 3, []), (.goto (-93), 3, [109])]
def kb_163_205 : List ab_Row := [(.iinc 2 1, 3, []), (.goto (-145), 3, [63])]
def kb_163_211 : List ab_Row := [(.iinc 1 (-1), 3, []), (.goto (-157), 3, [57])]
def kb_163_217 : List ab_Row := [(.return_, 1, [])]
def kt_163 : List (Nat × List ab_Row) := [(0, kb_163_0), (2, kb_163_2), (14, kb_163_14), (44, kb_163_44), (50, kb_163_50), (57, kb_163_57), (63, kb_163_63), (96, kb_163_96), (106, kb_163_106), (109, kb_163_109), (199, kb_163_199), (205, kb_163_205), (211, kb_163_211), (217, kb_163_217)]
def km_163 : ab_Mi := ((⟨"SorryPursesModel", "laysDays", "()V"⟩ : MethodName), prog_14_method_91_code, 4, (Option.none : Option FieldType), [], [])
-- 164: SorryPurses.says (I)I
def kb_164_0 : List ab_Row := [(.aload_n 0, 1, []), (.iload_n 1, 1, []), (.invokevirtual 216, 3, [600, 232, 2, 0, 1442, 1444, 34, 11]), (.aload_n 0, 1, []), (.getfield 85, 3, [11, 11, 505]), (.invokevirtual 278, 3, [600, 161, 1, 0, 664, 665, 666, 1]), (.aload_n 0, 1, []), (.getfield 85, 3, [11, 11, 505]), (.iload_n 1, 1, []), (.invokevirtual 284, 3, [600, 257, 2, 0, 1578, 1579, 1580, 1]), (.ireturn, 1, [])]
def kt_164 : List (Nat × List ab_Row) := [(0, kb_164_0)]
def km_164 : ab_Mi := ((⟨"SorryPurses", "says", "(I)I"⟩ : MethodName), prog_1_method_24_code, 2, (Option.some FieldType.int), [], [])
-- 165: SorryPurses.lies (I)J
def kb_165_0 : List ab_Row := [(.aload_n 0, 1, []), (.iload_n 1, 1, []), (.ifCond .eq 8, 3, [10]), (.iload_n 1, 1, []), (.iconst 1, 1, []), (.if_icmp .ne 7, 3, [14])]
def kb_165_10 : List ab_Row := [(.iconst 1, 1, []), (.goto 4, 3, [15])]
def kb_165_14 : List ab_Row := [(.iconst 0, 1, [])]
def kb_165_15 : List ab_Row := [(.invokevirtual 196, 3, [600, 228, 2, 0, 1092, 1094, 13, 11]), (.aload_n 0, 1, []), (.aload_n 0, 1, []), (.getfield 49, 3, [11, 7, 501]), (.invokevirtual 200, 3, [600, 229, 1, 0, 1402, 1403, 1404, 6]), (.bipush 16, 2, []), (.if_icmp .gt 7, 3, [35]), (.iconst 1, 1, []), (.goto 4, 3, [36])]
def kb_165_35 : List ab_Row := [(.iconst 0, 1, [])]
def kb_165_36 : List ab_Row := [(.invokevirtual 287, 3, [600, 258, 2, 0, 1590, 1592, 38, 11]), (.aload_n 0, 1, []), (.getfield 39, 3, [11, 5, 499]), (.aload_n 0, 1, []), (.getfield 49, 3, [11, 7, 501]), (.invokevirtual 290, 3, [600, 259, 2, 0, 1610, 1611, 1612, 0]), (.aload_n 0, 1, []), (.getfield 39, 3, [11, 5, 499]), (.invokevirtual 293, 3, [600, 260, 1, 0, 1642, 1643, 1644, 0]), (.ifCond .ne 7, 3, [64]), (.ldc2_w 296, 3, [1, 1, 1646]), (.lreturn, 1, [])]
def kb_165_64 : List ab_Row := [(.iload_n 1, 1, []), (.ifCond .ne 14, 3, [79]), (.aload_n 0, 1, []), (.getfield 39, 3, [11, 5, 499]), (.getfield 298, 3, [0, 12, 262]), (.i2l, 1, []), (.goto 10, 3, [86])]
def kb_165_79 : List ab_Row := [(.aload_n 0, 1, []), (.getfield 39, 3, [11, 5, 499]), (.getfield 301, 3, [0, 13, 264])]
def kb_165_86 : List ab_Row := [(.lreturn, 1, [])]
def kt_165 : List (Nat × List ab_Row) := [(0, kb_165_0), (10, kb_165_10), (14, kb_165_14), (15, kb_165_15), (35, kb_165_35), (36, kb_165_36), (64, kb_165_64), (79, kb_165_79), (86, kb_165_86)]
def km_165 : ab_Mi := ((⟨"SorryPurses", "lies", "(I)J"⟩ : MethodName), prog_1_method_25_code, 2, (Option.some FieldType.long), [], [])
-- 166: SorryPursesModel.tellsBook (II)Z
def kb_166_0 : List ab_Row := [(.iconst 0, 1, []), (.istore_n 3, 1, [])]
def kb_166_2 : List ab_Row := [(.iload_n 3, 1, []), (.aload_n 0, 1, []), (.getfield 201, 3, [12, 29, 1861]), (.if_icmp .ge 155, 3, [162]), (.iconst 0, 1, []), (.istore 4, 2, []), (.iconst 0, 1, []), (.istore 5, 2, [])]
def kb_166_16 : List ab_Row := [(.iload 5, 2, []), (.iload_n 2, 1, []), (.if_icmp .ge 122, 3, [141]), (.iload_n 1, 1, []), (.iload 5, 2, []), (.ishr, 1, []), (.iconst 1, 1, []), (.iand, 1, []), (.iconst 1, 1, []), (.if_icmp .ne 6, 3, [35]), (.goto 103, 3, [135])]
def kb_166_35 : List ab_Row := [(.iload 4, 2, []), (.aload_n 0, 1, []), (.getfield 58, 3, [12, 25, 1857]), (.aload_n 0, 1, []), (.getfield 89, 3, [12, 41, 1873]), (.iload 5, 2, []), (.iaload, 1, []), (.iconst 1, 1, []), (.invokestatic 254, 3, [600, 135, 3, 1, 2142, 2143, 0, 0]), (.aload_n 0, 1, []), (.getfield 43, 3, [12, 20, 1852]), (.iload_n 3, 1, []), (.aaload, 1, []), (.iconst 0, 1, []), (.iaload, 1, []), (.if_icmp .ne 21, 3, [81]), (.aload_n 0, 1, []), (.getfield 58, 3, [12, 25, 1857]), (.aload_n 0, 1, []), (.getfield 89, 3, [12, 41, 1873]), (.iload 5, 2, []), (.iaload, 1, []), (.iconst 2, 1, []), (.invokestatic 254, 3, [600, 135, 3, 1, 2142, 2143, 0, 0]), (.goto 4, 3, [82])]
def kb_166_81 : List ab_Row := [(.iconst 0, 1, [])]
def kb_166_82 : List ab_Row := [(.iadd, 1, []), (.istore 4, 2, []), (.iload 4, 2, []), (.aload_n 0, 1, []), (.getfield 58, 3, [12, 25, 1857]), (.aload_n 0, 1, []), (.getfield 89, 3, [12, 41, 1873]), (.iload 5, 2, []), (.iaload, 1, []), (.iconst 0, 1, []), (.invokestatic 254, 3, [600, 135, 3, 1, 2142, 2143, 0, 0]), (.aload_n 0, 1, []), (.getfield 43, 3, [12, 20, 1852]), (.iload_n 3, 1, []), (.aaload, 1, []), (.iconst 0, 1, []), (.iaload, 1, []), (.if_icmp .ne 21, 3, [131]), (.aload_n 0, 1, []), (.getfield 58, 3, [12, 25, 1857]), (.aload_n 0, 1, []), (.getfield 89, 3, [12, 41, 1873]), (.iload 5, 2, []), (.iaload, 1, []), (.iconst 2, 1, []), (.invokestatic 254, 3, [600, 135, 3, 1, 2142, 2143, 0, 0]), (.goto 4, 3, [132])]
def kb_166_131 : List ab_Row := [(.iconst 0, 1, [])]
def kb_166_132 : List ab_Row := [(.isub, 1, []), (.istore 4, 2, [])]
def kb_166_135 : List ab_Row := [(.iinc 5 1, 3, []), (.goto (-122), 3, [16])]
def kb_166_141 : List ab_Row := [(.iload 4, 2, []), (.aload_n 0, 1, []), (.getfield 43, 3, [12, 20, 1852]), (.iload_n 3, 1, []), (.aaload, 1, []), (.iconst 1, 1, []), (.iaload, 1, []), (.if_icmp .eq 5, 3, [156]), (.iconst 0, 1, []), (.ireturn, 1, [])]
def kb_166_156 : List ab_Row := [(.iinc 3 1, 3, []), (.goto (-157), 3, [2])]
def kb_166_162 : List ab_Row := [(.iconst 1, 1, []), (.ireturn, 1, [])]
def kt_166 : List (Nat × List ab_Row) := [(0, kb_166_0), (2, kb_166_2), (16, kb_166_16), (35, kb_166_35), (81, kb_166_81), (82, kb_166_82), (131, kb_166_131), (132, kb_166_132), (135, kb_166_135), (141, kb_166_141), (156, kb_166_156), (162, kb_166_162)]
def km_166 : ab_Mi := ((⟨"SorryPursesModel", "tellsBook", "(II)Z"⟩ : MethodName), prog_14_method_94_code, 6, (Option.some FieldType.boolean), [], [])
-- 167: SorryPurses$Book.rightLines (LSorryPurses$Ledger;)I
def kb_167_0 : List ab_Row := [(.iconst 0, 1, []), (.istore_n 2, 1, [])]
def kb_167_2 : List ab_Row := [(.iload_n 2, 1, []), (.aload_n 0, 1, []), (.getfield 43, 3, [0, 2, 250]), (.if_icmp .ge 37, 3, [44]), (.iload_n 2, 1, []), (.bipush 8, 2, []), (.if_icmp .ge 31, 3, [44]), (.aload_n 1, 1, []), (.aload_n 0, 1, []), (.getfield 9, 3, [0, 0, 248]), (.iload_n 2, 1, []), (.iaload, 1, []), (.iconst 1, 1, []), (.invokevirtual 85, 3, [600, 186, 3, 0, 1016, 632, 633, 6]), (.aload_n 0, 1, []), (.getfield 15, 3, [0, 1, 249]), (.iload_n 2, 1, []), (.iaload, 1, []), (.if_icmp .eq 5, 3, [38]), (.iload_n 2, 1, []), (.ireturn, 1, [])]
def kb_167_38 : List ab_Row := [(.iinc 2 1, 3, []), (.goto (-39), 3, [2])]
def kb_167_44 : List ab_Row := [(.aload_n 0, 1, []), (.getfield 43, 3, [0, 2, 250]), (.ireturn, 1, [])]
def kt_167 : List (Nat × List ab_Row) := [(0, kb_167_0), (2, kb_167_2), (38, kb_167_38), (44, kb_167_44)]
def km_167 : ab_Mi := ((⟨"SorryPurses$Book", "rightLines", "(LSorryPurses$Ledger;)I"⟩ : MethodName), prog_2_method_5_code, 3, (Option.some FieldType.int), [], [])
-- 168: SorryPurses.errors (II)I
def kb_168_0 : List ab_Row := [(.aload_n 0, 1, []), (.iload_n 1, 1, []), (.iconst 0, 1, []), (.bipush 100, 2, []), (.invokestatic 245, 3, [600, 240, 3, 1, 1501, 1502, 0, 0]), (.ifCond .eq 16, 3, [24]), (.iload_n 2, 1, []), (.ifCond .eq 8, 3, [20]), (.iload_n 2, 1, []), (.iconst 1, 1, []), (.if_icmp .ne 7, 3, [24])]
def kb_168_20 : List ab_Row := [(.iconst 1, 1, []), (.goto 4, 3, [25])]
def kb_168_24 : List ab_Row := [(.iconst 0, 1, [])]
def kb_168_25 : List ab_Row := [(.invokevirtual 196, 3, [600, 228, 2, 0, 1092, 1094, 13, 11]), (.aload_n 0, 1, []), (.getfield 58, 3, [11, 8, 502]), (.invokevirtual 309, 3, [600, 261, 1, 0, 1654, 1026, 1027, 4]), (.aload_n 0, 1, []), (.getfield 58, 3, [11, 8, 502]), (.iload_n 1, 1, []), (.iconst 1, 1, []), (.iload_n 2, 1, []), (.isub, 1, []), (.invokevirtual 312, 3, [600, 262, 3, 0, 1655, 1030, 1031, 4]), (.ireturn, 1, [])]
def kt_168 : List (Nat × List ab_Row) := [(0, kb_168_0), (20, kb_168_20), (24, kb_168_24), (25, kb_168_25)]
def km_168 : ab_Mi := ((⟨"SorryPurses", "errors", "(II)I"⟩ : MethodName), prog_1_method_27_code, 3, (Option.some FieldType.int), [], [])
-- 169: SorryPursesModel.errorsOf (II)I
def kb_169_0 : List ab_Row := [(.iconst 0, 1, []), (.istore_n 3, 1, []), (.iconst 0, 1, []), (.istore 4, 2, [])]
def kb_169_5 : List ab_Row := [(.iload 4, 2, []), (.aload_n 0, 1, []), (.getfield 58, 3, [12, 25, 1857]), (.sipush 360, 3, []), (.iaload, 1, []), (.if_icmp .ge 78, 3, [93]), (.iload_n 3, 1, []), (.aload_n 0, 1, []), (.getfield 58, 3, [12, 25, 1857]), (.iload 4, 2, []), (.invokestatic 258, 3, [600, 144, 2, 1, 2139, 2140, 0, 0]), (.ifCond .eq 56, 3, [84]), (.aload_n 0, 1, []), (.getfield 58, 3, [12, 25, 1857]), (.iload 4, 2, []), (.bipush 6, 2, []), (.invokestatic 254, 3, [600, 135, 3, 1, 2142, 2143, 0, 0]), (.iconst 1, 1, []), (.iload_n 2, 1, []), (.isub, 1, []), (.if_icmp .ne 39, 3, [84]), (.aload_n 0, 1, []), (.aload_n 0, 1, []), (.getfield 58, 3, [12, 25, 1857]), (.iload 4, 2, []), (.invokevirtual 310, 3, [600, 146, 3, 0, 2165, 2167, 81, 12]), (.iload_n 1, 1, []), (.if_icmp .lt 7, 3, [66]), (.iconst 1, 1, []), (.goto 4, 3, [67])]
def kb_169_66 : List ab_Row := [(.iconst 0, 1, [])]
def kb_169_67 : List ab_Row := [(.iload_n 2, 1, []), (.iconst 1, 1, []), (.if_icmp .ne 7, 3, [76]), (.iconst 1, 1, []), (.goto 4, 3, [77])]
def kb_169_76 : List ab_Row := [(.iconst 0, 1, [])]
def kb_169_77 : List ab_Row := [(.if_icmp .ne 7, 3, [84]), (.iconst 1, 1, []), (.goto 4, 3, [85])]
def kb_169_84 : List ab_Row := [(.iconst 0, 1, [])]
def kb_169_85 : List ab_Row := [(.iadd, 1, []), (.istore_n 3, 1, []), (.iinc 4 1, 3, []), (.goto (-85), 3, [5])]
def kb_169_93 : List ab_Row := [(.iload_n 3, 1, []), (.ireturn, 1, [])]
def kt_169 : List (Nat × List ab_Row) := [(0, kb_169_0), (5, kb_169_5), (66, kb_169_66), (67, kb_169_67), (76, kb_169_76), (77, kb_169_77), (84, kb_169_84), (85, kb_169_85), (93, kb_169_93)]
def km_169 : ab_Mi := ((⟨"SorryPursesModel", "errorsOf", "(II)I"⟩ : MethodName), prog_14_method_97_code, 5, (Option.some FieldType.int), [], [])
-- 170: SorryPurses$Judge.leastErring ()I
def kb_170_0 : List ab_Row := [(.aload_n 0, 1, []), (.invokevirtual 74, 3, [600, 261, 1, 0, 1025, 1026, 1027, 4]), (.iconst 0, 1, []), (.istore_n 1, 1, []), (.bipush 41, 2, []), (.istore_n 2, 1, []), (.iconst 0, 1, []), (.istore_n 3, 1, [])]
def kb_170_11 : List ab_Row := [(.iload_n 3, 1, []), (.bipush 100, 2, []), (.if_icmp .gt 35, 3, [49]), (.aload_n 0, 1, []), (.iload_n 3, 1, []), (.iconst 1, 1, []), (.invokevirtual 77, 3, [600, 262, 3, 0, 1029, 1030, 1031, 4]), (.aload_n 0, 1, []), (.iload_n 3, 1, []), (.iconst 0, 1, []), (.invokevirtual 77, 3, [600, 262, 3, 0, 1029, 1030, 1031, 4]), (.iadd, 1, []), (.istore 4, 2, []), (.iload 4, 2, []), (.iload_n 2, 1, []), (.if_icmp .ge 8, 3, [43]), (.iload 4, 2, []), (.istore_n 2, 1, []), (.iload_n 3, 1, []), (.istore_n 1, 1, [])]
def kb_170_43 : List ab_Row := [(.iinc 3 1, 3, []), (.goto (-35), 3, [11])]
def kb_170_49 : List ab_Row := [(.iload_n 1, 1, []), (.ireturn, 1, [])]
def kt_170 : List (Nat × List ab_Row) := [(0, kb_170_0), (11, kb_170_11), (43, kb_170_43), (49, kb_170_49)]
def km_170 : ab_Mi := ((⟨"SorryPurses$Judge", "leastErring", "()I"⟩ : MethodName), prog_6_method_11_code, 5, (Option.some FieldType.int), [], [])
-- 171: SorryPurses.bite (I)I
def kb_171_0 : List ab_Row := [(.aload_n 0, 1, []), (.iload_n 1, 1, []), (.iconst 0, 1, []), (.bipush 100, 2, []), (.invokestatic 245, 3, [600, 240, 3, 1, 1501, 1502, 0, 0]), (.invokevirtual 196, 3, [600, 228, 2, 0, 1092, 1094, 13, 11]), (.aload_n 0, 1, []), (.getfield 58, 3, [11, 8, 502]), (.getfield 148, 3, [4, 5, 335]), (.istore_n 2, 1, []), (.aload_n 0, 1, []), (.getfield 58, 3, [11, 8, 502]), (.iload_n 1, 1, []), (.putfield 148, 3, [4, 5, 335, 1]), (.iload_n 2, 1, []), (.ireturn, 1, [])]
def kt_171 : List (Nat × List ab_Row) := [(0, kb_171_0)]
def km_171 : ab_Mi := ((⟨"SorryPurses", "bite", "(I)I"⟩ : MethodName), prog_1_method_29_code, 3, (Option.some FieldType.int), [], [])
-- 172: SorryPurses.swell (I)I
def kb_172_0 : List ab_Row := [(.aload_n 0, 1, []), (.iload_n 1, 1, []), (.iconst 0, 1, []), (.bipush 60, 2, []), (.invokestatic 245, 3, [600, 240, 3, 1, 1501, 1502, 0, 0]), (.invokevirtual 196, 3, [600, 228, 2, 0, 1092, 1094, 13, 11]), (.aload_n 0, 1, []), (.getfield 49, 3, [11, 7, 501]), (.iload_n 1, 1, []), (.aload_n 0, 1, []), (.getfield 19, 3, [11, 1, 495]), (.getfield 206, 3, [10, 7, 197]), (.invokevirtual 318, 3, [600, 174, 3, 0, 1037, 1038, 1039, 6]), (.ireturn, 1, [])]
def kt_172 : List (Nat × List ab_Row) := [(0, kb_172_0)]
def km_172 : ab_Mi := ((⟨"SorryPurses", "swell", "(I)I"⟩ : MethodName), prog_1_method_30_code, 2, (Option.some FieldType.int), [], [])
-- 173: SorryPursesModel.swellOf (I)I
def kb_173_0 : List ab_Row := [(.iconst 0, 1, []), (.istore_n 2, 1, []), (.iconst 0, 1, []), (.istore_n 3, 1, [])]
def kb_173_4 : List ab_Row := [(.iload_n 3, 1, []), (.aload_n 0, 1, []), (.getfield 58, 3, [12, 25, 1857]), (.sipush 360, 3, []), (.iaload, 1, []), (.if_icmp .ge 41, 3, [54]), (.iload_n 2, 1, []), (.aload_n 0, 1, []), (.getfield 58, 3, [12, 25, 1857]), (.iload_n 3, 1, []), (.invokestatic 258, 3, [600, 144, 2, 1, 2139, 2140, 0, 0]), (.ifCond .eq 20, 3, [45]), (.aload_n 0, 1, []), (.aload_n 0, 1, []), (.getfield 58, 3, [12, 25, 1857]), (.iload_n 3, 1, []), (.iconst 2, 1, []), (.invokestatic 254, 3, [600, 135, 3, 1, 2142, 2143, 0, 0]), (.iload_n 1, 1, []), (.invokevirtual 376, 3, [600, 185, 3, 0, 2341, 2343, 95, 12]), (.goto 4, 3, [46])]
def kb_173_45 : List ab_Row := [(.iconst 0, 1, [])]
def kb_173_46 : List ab_Row := [(.iadd, 1, []), (.istore_n 2, 1, []), (.iinc 3 1, 3, []), (.goto (-47), 3, [4])]
def kb_173_54 : List ab_Row := [(.iload_n 2, 1, []), (.ireturn, 1, [])]
def kt_173 : List (Nat × List ab_Row) := [(0, kb_173_0), (4, kb_173_4), (45, kb_173_45), (46, kb_173_46), (54, kb_173_54)]
def km_173 : ab_Mi := ((⟨"SorryPursesModel", "swellOf", "(I)I"⟩ : MethodName), prog_14_method_102_code, 4, (Option.some FieldType.int), [], [])
-- 174: SorryPurses$Ledger.swollen (II)I
def kb_174_0 : List ab_Row := [(.iconst 0, 1, []), (.istore_n 3, 1, []), (.iconst 0, 1, []), (.istore 4, 2, [])]
def kb_174_5 : List ab_Row := [(.iload 4, 2, []), (.aload_n 0, 1, []), (.getfield 18, 3, [6, 2, 303]), (.if_icmp .ge 33, 3, [44]), (.iload_n 3, 1, []), (.aload_n 0, 1, []), (.iload 4, 2, []), (.invokevirtual 45, 3, [600, 263, 2, 0, 601, 585, 586, 6]), (.ifCond .eq 14, 3, [35]), (.aload_n 0, 1, []), (.iload 4, 2, []), (.iload_n 1, 1, []), (.iload_n 2, 1, []), (.invokevirtual 53, 3, [600, 264, 4, 0, 1041, 1042, 1043, 6]), (.goto 4, 3, [36])]
def kb_174_35 : List ab_Row := [(.iconst 0, 1, [])]
def kb_174_36 : List ab_Row := [(.iadd, 1, []), (.istore_n 3, 1, []), (.iinc 4 1, 3, []), (.goto (-36), 3, [5])]
def kb_174_44 : List ab_Row := [(.iload_n 3, 1, []), (.ireturn, 1, [])]
def kt_174 : List (Nat × List ab_Row) := [(0, kb_174_0), (5, kb_174_5), (35, kb_174_35), (36, kb_174_36), (44, kb_174_44)]
def km_174 : ab_Mi := ((⟨"SorryPurses$Ledger", "swollen", "(II)I"⟩ : MethodName), prog_8_method_15_code, 5, (Option.some FieldType.int), [], [])
-- 175: SorryPurses.till (IIII)I
def kb_175_0 : List ab_Row := [(.aload_n 0, 1, []), (.iload_n 1, 1, []), (.bipush (-99), 2, []), (.bipush 99, 2, []), (.invokestatic 245, 3, [600, 240, 3, 1, 1501, 1502, 0, 0]), (.ifCond .eq 41, 3, [50]), (.iload_n 2, 1, []), (.bipush (-99), 2, []), (.bipush 99, 2, []), (.invokestatic 245, 3, [600, 240, 3, 1, 1501, 1502, 0, 0]), (.ifCond .eq 30, 3, [50]), (.iload_n 3, 1, []), (.bipush (-99), 2, []), (.bipush 99, 2, []), (.invokestatic 245, 3, [600, 240, 3, 1, 1501, 1502, 0, 0]), (.ifCond .eq 19, 3, [50]), (.iload 4, 2, []), (.bipush (-99), 2, []), (.bipush 99, 2, []), (.invokestatic 245, 3, [600, 240, 3, 1, 1501, 1502, 0, 0]), (.ifCond .eq 7, 3, [50]), (.iconst 1, 1, []), (.goto 4, 3, [51])]
def kb_175_50 : List ab_Row := [(.iconst 0, 1, [])]
def kb_175_51 : List ab_Row := [(.invokevirtual 196, 3, [600, 228, 2, 0, 1092, 1094, 13, 11]), (.iload_n 1, 1, []), (.iload_n 3, 1, []), (.if_icmp .lt 7, 3, [63]), (.iconst 1, 1, []), (.goto 4, 3, [64])]
def kb_175_63 : List ab_Row := [(.iconst 0, 1, [])]
def kb_175_64 : List ab_Row := [(.istore 5, 2, []), (.iload_n 2, 1, []), (.iload 4, 2, []), (.if_icmp .lt 7, 3, [76]), (.iconst 1, 1, []), (.goto 4, 3, [77])]
def kb_175_76 : List ab_Row := [(.iconst 0, 1, [])]
def kb_175_77 : List ab_Row := [(.istore 6, 2, []), (.iload 6, 2, []), (.ifCond .eq 12, 3, [93]), (.iload_n 3, 1, []), (.iload_n 1, 1, []), (.if_icmp .lt 7, 3, [93]), (.iconst 1, 1, []), (.goto 4, 3, [94])]
def kb_175_93 : List ab_Row := [(.iconst 0, 1, [])]
def kb_175_94 : List ab_Row := [(.istore 7, 2, []), (.iload 4, 2, []), (.iload_n 2, 1, []), (.if_icmp .lt 7, 3, [106]), (.iconst 1, 1, []), (.goto 4, 3, [107])]
def kb_175_106 : List ab_Row := [(.iconst 0, 1, [])]
def kb_175_107 : List ab_Row := [(.istore 8, 2, []), (.iload 5, 2, []), (.ifCond .eq 7, 3, [118]), (.iconst 1, 1, []), (.goto 4, 3, [119])]
def kb_175_118 : List ab_Row := [(.iconst 0, 1, [])]
def kb_175_119 : List ab_Row := [(.iload 7, 2, []), (.ifCond .eq 8, 3, [129]), (.bipush 6, 2, []), (.goto 4, 3, [130])]
def kb_175_129 : List ab_Row := [(.iconst 0, 1, [])]
def kb_175_130 : List ab_Row := [(.iadd, 1, []), (.iload 8, 2, []), (.ifCond .eq 8, 3, [141]), (.bipush 8, 2, []), (.goto 4, 3, [142])]
def kb_175_141 : List ab_Row := [(.iconst 0, 1, [])]
def kb_175_142 : List ab_Row := [(.iadd, 1, []), (.ireturn, 1, [])]
def kt_175 : List (Nat × List ab_Row) := [(0, kb_175_0), (50, kb_175_50), (51, kb_175_51), (63, kb_175_63), (64, kb_175_64), (76, kb_175_76), (77, kb_175_77), (93, kb_175_93), (94, kb_175_94), (106, kb_175_106), (107, kb_175_107), (118, kb_175_118), (119, kb_175_119), (129, kb_175_129), (130, kb_175_130), (141, kb_175_141), (142, kb_175_142)]
def km_175 : ab_Mi := ((⟨"SorryPurses", "till", "(IIII)I"⟩ : MethodName), prog_1_method_32_code, 9, (Option.some FieldType.int), [], [])
-- 176: SorryPurses.extreme (I)I
def kb_176_0 : List ab_Row := [(.aload_n 0, 1, []), (.iload_n 1, 1, []), (.ifCond .eq 8, 3, [10]), (.iload_n 1, 1, []), (.iconst 1, 1, []), (.if_icmp .ne 7, 3, [14])]
def kb_176_10 : List ab_Row := [(.iconst 1, 1, []), (.goto 4, 3, [15])]
def kb_176_14 : List ab_Row := [(.iconst 0, 1, [])]
def kb_176_15 : List ab_Row := [(.invokevirtual 196, 3, [600, 228, 2, 0, 1092, 1094, 13, 11]), (.aload_n 0, 1, []), (.getfield 49, 3, [11, 7, 501]), (.aload_n 0, 1, []), (.getfield 19, 3, [11, 1, 495]), (.getfield 181, 3, [10, 5, 194]), (.iload_n 1, 1, []), (.ifCond .ne 7, 3, [37]), (.iconst 1, 1, []), (.goto 4, 3, [38])]
def kb_176_37 : List ab_Row := [(.iconst (-1), 1, [])]
def kb_176_38 : List ab_Row := [(.invokevirtual 321, 3, [600, 265, 3, 0, 1684, 1685, 1686, 6]), (.ireturn, 1, [])]
def kt_176 : List (Nat × List ab_Row) := [(0, kb_176_0), (10, kb_176_10), (14, kb_176_14), (15, kb_176_15), (37, kb_176_37), (38, kb_176_38)]
def km_176 : ab_Mi := ((⟨"SorryPurses", "extreme", "(I)I"⟩ : MethodName), prog_1_method_33_code, 2, (Option.some FieldType.int), [], [])
-- 177: SorryPursesModel.richest ([II)I
def kb_177_0 : List ab_Row := [(.iconst (-1), 1, []), (.istore_n 3, 1, []), (.iconst 0, 1, []), (.istore 4, 2, [])]
def kb_177_5 : List ab_Row := [(.iload 4, 2, []), (.aload_n 0, 1, []), (.getfield 23, 3, [12, 12, 1844]), (.iconst 0, 1, []), (.iaload, 1, []), (.if_icmp .ge 37, 3, [50]), (.iload_n 3, 1, []), (.iconst (-1), 1, []), (.if_icmp .eq 23, 3, [41]), (.iload_n 2, 1, []), (.aload_n 1, 1, []), (.iload 4, 2, []), (.iconst 0, 1, []), (.invokestatic 338, 3, [600, 140, 3, 1, 2219, 2220, 0, 0]), (.imul, 1, []), (.iload_n 2, 1, []), (.aload_n 1, 1, []), (.iload_n 3, 1, []), (.iconst 0, 1, []), (.invokestatic 338, 3, [600, 140, 3, 1, 2219, 2220, 0, 0]), (.imul, 1, []), (.if_icmp .le 6, 3, [44])]
def kb_177_41 : List ab_Row := [(.iload 4, 2, []), (.istore_n 3, 1, [])]
def kb_177_44 : List ab_Row := [(.iinc 4 1, 3, []), (.goto (-42), 3, [5])]
def kb_177_50 : List ab_Row := [(.iload_n 3, 1, []), (.ireturn, 1, [])]
def kt_177 : List (Nat × List ab_Row) := [(0, kb_177_0), (5, kb_177_5), (41, kb_177_41), (44, kb_177_44), (50, kb_177_50)]
def km_177 : ab_Mi := ((⟨"SorryPursesModel", "richest", "([II)I"⟩ : MethodName), prog_14_method_107_code, 5, (Option.some FieldType.int), [], [])
-- 178: SorryPurses.chosen (I)I
def kb_178_0 : List ab_Row := [(.aload_n 0, 1, []), (.iload_n 1, 1, []), (.ifCond .eq 8, 3, [10]), (.iload_n 1, 1, []), (.iconst 1, 1, []), (.if_icmp .ne 7, 3, [14])]
def kb_178_10 : List ab_Row := [(.iconst 1, 1, []), (.goto 4, 3, [15])]
def kb_178_14 : List ab_Row := [(.iconst 0, 1, [])]
def kb_178_15 : List ab_Row := [(.invokevirtual 196, 3, [600, 228, 2, 0, 1092, 1094, 13, 11]), (.iload_n 1, 1, []), (.ifCond .ne 13, 3, [32]), (.aload_n 0, 1, []), (.getfield 49, 3, [11, 7, 501]), (.invokevirtual 324, 3, [600, 266, 1, 0, 1696, 1697, 1698, 6]), (.goto 10, 3, [39])]
def kb_178_32 : List ab_Row := [(.aload_n 0, 1, []), (.getfield 58, 3, [11, 8, 502]), (.invokevirtual 327, 3, [600, 267, 1, 0, 1700, 1701, 1702, 4])]
def kb_178_39 : List ab_Row := [(.ireturn, 1, [])]
def kt_178 : List (Nat × List ab_Row) := [(0, kb_178_0), (10, kb_178_10), (14, kb_178_14), (15, kb_178_15), (32, kb_178_32), (39, kb_178_39)]
def km_178 : ab_Mi := ((⟨"SorryPurses", "chosen", "(I)I"⟩ : MethodName), prog_1_method_34_code, 2, (Option.some FieldType.int), [], [])
-- 179: SorryPurses.heard (I)I
def kb_179_0 : List ab_Row := [(.aload_n 0, 1, []), (.iload_n 1, 1, []), (.invokevirtual 216, 3, [600, 232, 2, 0, 1442, 1444, 34, 11]), (.aload_n 0, 1, []), (.getfield 58, 3, [11, 8, 502]), (.iload_n 1, 1, []), (.invokevirtual 330, 3, [600, 268, 2, 0, 1711, 1712, 1713, 4]), (.ireturn, 1, [])]
def kt_179 : List (Nat × List ab_Row) := [(0, kb_179_0)]
def km_179 : ab_Mi := ((⟨"SorryPurses", "heard", "(I)I"⟩ : MethodName), prog_1_method_35_code, 2, (Option.some FieldType.int), [], [])
-- 180: SorryPursesModel.heldBy ([II)I
def kb_180_0 : List ab_Row := [(.iconst 0, 1, []), (.istore_n 2, 1, []), (.iconst 0, 1, []), (.istore_n 3, 1, [])]
def kb_180_4 : List ab_Row := [(.iload_n 3, 1, []), (.aload_n 0, 1, []), (.sipush 360, 3, []), (.iaload, 1, []), (.if_icmp .ge 35, 3, [45]), (.iload_n 2, 1, []), (.aload_n 0, 1, []), (.iload_n 3, 1, []), (.invokestatic 258, 3, [600, 144, 2, 1, 2139, 2140, 0, 0]), (.ifCond .eq 17, 3, [36]), (.aload_n 0, 1, []), (.iload_n 3, 1, []), (.iconst 1, 1, []), (.invokestatic 254, 3, [600, 135, 3, 1, 2142, 2143, 0, 0]), (.iload_n 1, 1, []), (.if_icmp .ne 7, 3, [36]), (.iconst 1, 1, []), (.goto 4, 3, [37])]
def kb_180_36 : List ab_Row := [(.iconst 0, 1, [])]
def kb_180_37 : List ab_Row := [(.iadd, 1, []), (.istore_n 2, 1, []), (.iinc 3 1, 3, []), (.goto (-38), 3, [4])]
def kb_180_45 : List ab_Row := [(.iload_n 2, 1, []), (.ireturn, 1, [])]
def kt_180 : List (Nat × List ab_Row) := [(0, kb_180_0), (4, kb_180_4), (36, kb_180_36), (37, kb_180_37), (45, kb_180_45)]
def km_180 : ab_Mi := ((⟨"SorryPursesModel", "heldBy", "([II)I"⟩ : MethodName), prog_14_method_40_code, 4, (Option.some FieldType.int), [], [])
-- 181: SorryPursesModel.meantOf ([III)I
def kb_181_0 : List ab_Row := [(.aload_n 0, 1, []), (.getfield 55, 3, [12, 24, 1856]), (.iconst 0, 1, []), (.aload_n 1, 1, []), (.iload_n 2, 1, []), (.iconst 2, 1, []), (.invokestatic 254, 3, [600, 135, 3, 1, 2142, 2143, 0, 0]), (.iastore, 1, []), (.aload_n 0, 1, []), (.getfield 55, 3, [12, 24, 1856]), (.iconst 1, 1, []), (.aload_n 1, 1, []), (.sipush 361, 3, []), (.iaload, 1, []), (.aload_n 1, 1, []), (.iload_n 2, 1, []), (.iconst 3, 1, []), (.invokestatic 254, 3, [600, 135, 3, 1, 2142, 2143, 0, 0]), (.isub, 1, []), (.iastore, 1, []), (.aload_n 0, 1, []), (.getfield 55, 3, [12, 24, 1856]), (.iconst 2, 1, []), (.aload_n 0, 1, []), (.getfield 29, 3, [12, 14, 1846]), (.aload_n 1, 1, []), (.iload_n 2, 1, []), (.iconst 0, 1, []), (.invokestatic 254, 3, [600, 135, 3, 1, 2142, 2143, 0, 0]), (.iaload, 1, []), (.iastore, 1, []), (.aload_n 0, 1, []), (.getfield 55, 3, [12, 24, 1856]), (.iconst 3, 1, []), (.aload_n 0, 1, []), (.getfield 29, 3, [12, 14, 1846]), (.aload_n 1, 1, []), (.iload_n 2, 1, []), (.iconst 1, 1, []), (.invokestatic 254, 3, [600, 135, 3, 1, 2142, 2143, 0, 0]), (.iaload, 1, []), (.iastore, 1, []), (.aload_n 0, 1, []), (.getfield 55, 3, [12, 24, 1856]), (.iconst 4, 1, []), (.aload_n 1, 1, []), (.iload_n 2, 1, []), (.iconst 4, 1, []), (.invokestatic 254, 3, [600, 135, 3, 1, 2142, 2143, 0, 0]), (.iastore, 1, []), (.aload_n 0, 1, []), (.getfield 55, 3, [12, 24, 1856]), (.iconst 5, 1, []), (.aload_n 1, 1, []), (.iload_n 2, 1, []), (.iconst 5, 1, []), (.invokestatic 254, 3, [600, 135, 3, 1, 2142, 2143, 0, 0]), (.iastore, 1, []), (.aload_n 0, 1, []), (.getfield 55, 3, [12, 24, 1856]), (.bipush 6, 2, []), (.aload_n 1, 1, []), (.sipush 361, 3, []), (.iaload, 1, []), (.iastore, 1, []), (.aload_n 0, 1, []), (.getfield 55, 3, [12, 24, 1856]), (.bipush 7, 2, []), (.iload_n 3, 1, []), (.iastore, 1, []), (.aload_n 0, 1, []), (.invokevirtual 262, 3, [600, 148, 1, 0, 2088, 2090, 71, 12]), (.ireturn, 1, [])]
def kt_181 : List (Nat × List ab_Row) := [(0, kb_181_0)]
def km_181 : ab_Mi := ((⟨"SorryPursesModel", "meantOf", "([III)I"⟩ : MethodName), prog_14_method_41_code, 4, (Option.some FieldType.int), [], [])
-- 182: SorryPurses.payers (II)I
def kb_182_0 : List ab_Row := [(.aload_n 0, 1, []), (.iload_n 1, 1, []), (.invokevirtual 216, 3, [600, 232, 2, 0, 1442, 1444, 34, 11]), (.aload_n 0, 1, []), (.iload_n 2, 1, []), (.iconst 1, 1, []), (.sipush 999, 3, []), (.invokestatic 245, 3, [600, 240, 3, 1, 1501, 1502, 0, 0]), (.invokevirtual 196, 3, [600, 228, 2, 0, 1092, 1094, 13, 11]), (.iconst 0, 1, []), (.istore_n 3, 1, []), (.iconst 0, 1, []), (.istore 4, 2, [])]
def kb_182_22 : List ab_Row := [(.iload 4, 2, []), (.aload_n 0, 1, []), (.getfield 19, 3, [11, 1, 495]), (.getfield 181, 3, [10, 5, 194]), (.if_icmp .ge 38, 3, [69]), (.iload 4, 2, []), (.iload_n 1, 1, []), (.if_icmp .eq 26, 3, [63]), (.aload_n 0, 1, []), (.getfield 67, 3, [11, 9, 503]), (.iload 4, 2, []), (.iload_n 1, 1, []), (.iload_n 2, 1, []), (.invokevirtual 257, 3, [600, 244, 4, 0, 1515, 1350, 1351, 8]), (.lconst 0, 1, []), (.lcmp, 1, []), (.ifCond .eq 10, 3, [63]), (.iload_n 3, 1, []), (.iconst 1, 1, []), (.iload 4, 2, []), (.ishl, 1, []), (.ior, 1, []), (.istore_n 3, 1, [])]
def kb_182_63 : List ab_Row := [(.iinc 4 1, 3, []), (.goto (-44), 3, [22])]
def kb_182_69 : List ab_Row := [(.iload_n 3, 1, []), (.ireturn, 1, [])]
def kt_182 : List (Nat × List ab_Row) := [(0, kb_182_0), (22, kb_182_22), (63, kb_182_63), (69, kb_182_69)]
def km_182 : ab_Mi := ((⟨"SorryPurses", "payers", "(II)I"⟩ : MethodName), prog_1_method_36_code, 5, (Option.some FieldType.int), [], [])
-- 183: SorryPurses.lacking (II)I
def kb_183_0 : List ab_Row := [(.aload_n 0, 1, []), (.iload_n 1, 1, []), (.invokevirtual 216, 3, [600, 232, 2, 0, 1442, 1444, 34, 11]), (.aload_n 0, 1, []), (.iload_n 2, 1, []), (.iconst 0, 1, []), (.sipush 9999, 3, []), (.invokestatic 245, 3, [600, 240, 3, 1, 1501, 1502, 0, 0]), (.invokevirtual 196, 3, [600, 228, 2, 0, 1092, 1094, 13, 11]), (.iload_n 2, 1, []), (.aload_n 0, 1, []), (.getfield 67, 3, [11, 9, 503]), (.iload_n 1, 1, []), (.iload_n 2, 1, []), (.invokevirtual 333, 3, [600, 269, 3, 0, 1729, 1730, 1731, 8]), (.isub, 1, []), (.ireturn, 1, [])]
def kt_183 : List (Nat × List ab_Row) := [(0, kb_183_0)]
def km_183 : ab_Mi := ((⟨"SorryPurses", "lacking", "(II)I"⟩ : MethodName), prog_1_method_37_code, 3, (Option.some FieldType.int), [], [])
-- 184: SorryPurses.grown (II)I
def kb_184_0 : List ab_Row := [(.aload_n 0, 1, []), (.iload_n 1, 1, []), (.invokevirtual 209, 3, [600, 230, 2, 0, 1414, 1416, 33, 11]), (.aload_n 0, 1, []), (.iload_n 2, 1, []), (.iconst 0, 1, []), (.bipush 60, 2, []), (.invokestatic 245, 3, [600, 240, 3, 1, 1501, 1502, 0, 0]), (.invokevirtual 196, 3, [600, 228, 2, 0, 1092, 1094, 13, 11]), (.aload_n 0, 1, []), (.getfield 49, 3, [11, 7, 501]), (.iload_n 1, 1, []), (.invokevirtual 336, 3, [600, 263, 2, 0, 1740, 585, 586, 6]), (.ifCond .eq 22, 3, [46]), (.aload_n 0, 1, []), (.getfield 49, 3, [11, 7, 501]), (.iload_n 1, 1, []), (.iload_n 2, 1, []), (.aload_n 0, 1, []), (.getfield 19, 3, [11, 1, 495]), (.getfield 206, 3, [10, 7, 197]), (.invokevirtual 340, 3, [600, 264, 4, 0, 1741, 1042, 1043, 6]), (.goto 4, 3, [47])]
def kb_184_46 : List ab_Row := [(.iconst 0, 1, [])]
def kb_184_47 : List ab_Row := [(.ireturn, 1, [])]
def kt_184 : List (Nat × List ab_Row) := [(0, kb_184_0), (46, kb_184_46), (47, kb_184_47)]
def km_184 : ab_Mi := ((⟨"SorryPurses", "grown", "(II)I"⟩ : MethodName), prog_1_method_38_code, 3, (Option.some FieldType.int), [], [])
-- 185: SorryPursesModel.grownBy (II)I
def kb_185_0 : List ab_Row := [(.iload_n 1, 1, []), (.istore_n 3, 1, []), (.iconst 0, 1, []), (.istore 4, 2, [])]
def kb_185_5 : List ab_Row := [(.iload 4, 2, []), (.iload_n 2, 1, []), (.if_icmp .ge 15, 3, [23]), (.aload_n 0, 1, []), (.iload_n 3, 1, []), (.invokevirtual 286, 3, [600, 270, 2, 0, 2161, 2163, 80, 12]), (.istore_n 3, 1, []), (.iinc 4 1, 3, []), (.goto (-15), 3, [5])]
def kb_185_23 : List ab_Row := [(.iload_n 3, 1, []), (.ireturn, 1, [])]
def kt_185 : List (Nat × List ab_Row) := [(0, kb_185_0), (5, kb_185_5), (23, kb_185_23)]
def km_185 : ab_Mi := ((⟨"SorryPursesModel", "grownBy", "(II)I"⟩ : MethodName), prog_14_method_101_code, 5, (Option.some FieldType.int), [], [])
-- 186: SorryPurses$Ledger.worthOf (IZ)I
def kb_186_0 : List ab_Row := [(.iconst 0, 1, []), (.istore_n 3, 1, []), (.iconst 0, 1, []), (.istore 4, 2, [])]
def kb_186_5 : List ab_Row := [(.iload 4, 2, []), (.aload_n 0, 1, []), (.getfield 18, 3, [6, 2, 303]), (.if_icmp .ge 44, 3, [55]), (.aload_n 0, 1, []), (.iload 4, 2, []), (.invokevirtual 45, 3, [600, 263, 2, 0, 601, 585, 586, 6]), (.ifCond .eq 29, 3, [49]), (.iload_n 2, 1, []), (.ifCond .eq 15, 3, [39]), (.aload_n 0, 1, []), (.bipush 6, 2, []), (.iload 4, 2, []), (.invokevirtual 37, 3, [600, 231, 3, 0, 588, 589, 590, 6]), (.iconst 1, 1, []), (.if_icmp .ne 13, 3, [49])]
def kb_186_39 : List ab_Row := [(.iload_n 3, 1, []), (.aload_n 0, 1, []), (.iload 4, 2, []), (.iload_n 1, 1, []), (.invokevirtual 65, 3, [600, 271, 3, 0, 635, 636, 637, 6]), (.iadd, 1, []), (.istore_n 3, 1, [])]
def kb_186_49 : List ab_Row := [(.iinc 4 1, 3, []), (.goto (-47), 3, [5])]
def kb_186_55 : List ab_Row := [(.iload_n 3, 1, []), (.ireturn, 1, [])]
def kt_186 : List (Nat × List ab_Row) := [(0, kb_186_0), (5, kb_186_5), (39, kb_186_39), (49, kb_186_49), (55, kb_186_55)]
def km_186 : ab_Mi := ((⟨"SorryPurses$Ledger", "worthOf", "(IZ)I"⟩ : MethodName), prog_8_method_21_code, 5, (Option.some FieldType.int), [], [])
-- 187: SorryPurses.aged (I)J
def kb_187_0 : List ab_Row := [(.aload_n 0, 1, []), (.iload_n 1, 1, []), (.iconst 0, 1, []), (.sipush 9999, 3, []), (.invokestatic 245, 3, [600, 240, 3, 1, 1501, 1502, 0, 0]), (.invokevirtual 196, 3, [600, 228, 2, 0, 1092, 1094, 13, 11]), (.aload_n 0, 1, []), (.getfield 49, 3, [11, 7, 501]), (.iload_n 1, 1, []), (.invokevirtual 344, 3, [600, 272, 2, 0, 1749, 1750, 1751, 6]), (.lreturn, 1, [])]
def kt_187 : List (Nat × List ab_Row) := [(0, kb_187_0)]
def km_187 : ab_Mi := ((⟨"SorryPurses", "aged", "(I)J"⟩ : MethodName), prog_1_method_40_code, 2, (Option.some FieldType.long), [], [])
-- 188: SorryPurses.master (I)I
def kb_188_0 : List ab_Row := [(.aload_n 0, 1, []), (.iload_n 1, 1, []), (.invokevirtual 216, 3, [600, 232, 2, 0, 1442, 1444, 34, 11]), (.iconst (-1), 1, []), (.istore_n 2, 1, []), (.iconst 0, 1, []), (.istore_n 3, 1, []), (.iconst 0, 1, []), (.istore 4, 2, [])]
def kb_188_12 : List ab_Row := [(.iload 4, 2, []), (.aload_n 0, 1, []), (.getfield 19, 3, [11, 1, 495]), (.getfield 181, 3, [10, 5, 194]), (.if_icmp .ge 33, 3, [54]), (.aload_n 0, 1, []), (.getfield 49, 3, [11, 7, 501]), (.iload_n 1, 1, []), (.iload 4, 2, []), (.invokevirtual 239, 3, [600, 238, 3, 0, 1482, 1483, 1484, 6]), (.istore 5, 2, []), (.iload 5, 2, []), (.iload_n 3, 1, []), (.if_icmp .le 9, 3, [48]), (.iload 5, 2, []), (.istore_n 3, 1, []), (.iload 4, 2, []), (.istore_n 2, 1, [])]
def kb_188_48 : List ab_Row := [(.iinc 4 1, 3, []), (.goto (-39), 3, [12])]
def kb_188_54 : List ab_Row := [(.iload_n 2, 1, []), (.ireturn, 1, [])]
def kt_188 : List (Nat × List ab_Row) := [(0, kb_188_0), (12, kb_188_12), (48, kb_188_48), (54, kb_188_54)]
def km_188 : ab_Mi := ((⟨"SorryPurses", "master", "(I)I"⟩ : MethodName), prog_1_method_41_code, 6, (Option.some FieldType.int), [], [])
-- 189: SorryPurses.month (IIIII)I
def kb_189_0 : List ab_Row := [(.aload_n 0, 1, []), (.iload_n 2, 1, []), (.iload_n 3, 1, []), (.iload 4, 2, []), (.invokevirtual 348, 3, [600, 273, 4, 0, 1767, 1769, 44, 11]), (.aload_n 0, 1, []), (.iload 5, 2, []), (.ifCond .lt 13, 3, [24]), (.iload 5, 2, []), (.iconst 3, 1, []), (.if_icmp .gt 7, 3, [24]), (.iconst 1, 1, []), (.goto 4, 3, [25])]
def kb_189_24 : List ab_Row := [(.iconst 0, 1, [])]
def kb_189_25 : List ab_Row := [(.invokevirtual 196, 3, [600, 228, 2, 0, 1092, 1094, 13, 11]), (.aload_n 0, 1, []), (.getfield 94, 3, [11, 12, 506]), (.iload_n 1, 1, []), (.iload_n 2, 1, []), (.iload_n 3, 1, []), (.iload 4, 2, []), (.invokevirtual 352, 3, [600, 274, 5, 0, 1771, 1772, 1773, 7]), (.iload 5, 2, []), (.tableswitch 56 0 2 #[26, 37, 48], 26, [68, 79, 90, 98])]
def kb_189_68 : List ab_Row := [(.aload_n 0, 1, []), (.getfield 94, 3, [11, 12, 506]), (.getfield 356, 3, [7, 2, 447]), (.invokevirtual 233, 3, [600, 236, 1, 0, 1467, 1468, 1469, 6]), (.ireturn, 1, [])]
def kb_189_79 : List ab_Row := [(.aload_n 0, 1, []), (.getfield 94, 3, [11, 12, 506]), (.getfield 356, 3, [7, 2, 447]), (.invokevirtual 200, 3, [600, 229, 1, 0, 1402, 1403, 1404, 6]), (.ireturn, 1, [])]
def kb_189_90 : List ab_Row := [(.aload_n 0, 1, []), (.getfield 94, 3, [11, 12, 506]), (.getfield 359, 3, [7, 4, 450]), (.ireturn, 1, [])]
def kb_189_98 : List ab_Row := [(.aload_n 0, 1, []), (.getfield 94, 3, [11, 12, 506]), (.invokevirtual 362, 3, [600, 275, 1, 0, 1796, 1797, 1798, 7]), (.ireturn, 1, [])]
def kt_189 : List (Nat × List ab_Row) := [(0, kb_189_0), (24, kb_189_24), (25, kb_189_25), (68, kb_189_68), (79, kb_189_79), (90, kb_189_90), (98, kb_189_98)]
def km_189 : ab_Mi := ((⟨"SorryPurses", "month", "(IIIII)I"⟩ : MethodName), prog_1_method_42_code, 6, (Option.some FieldType.int), [], [])
-- 190: SorryPursesModel.months (IIII)V
def kb_190_0 : List ab_Row := [(.aload_n 0, 1, []), (.getfield 58, 3, [12, 25, 1857]), (.aload_n 0, 1, []), (.getfield 61, 3, [12, 26, 1858]), (.invokestatic 316, 3, [600, 123, 2, 1, 2121, 2122, 0, 0]), (.aload_n 0, 1, []), (.iload_n 1, 1, []), (.putfield 385, 3, [12, 43, 1875, 0]), (.aload_n 0, 1, []), (.iconst 0, 1, []), (.putfield 389, 3, [12, 44, 1876, 0]), (.iconst 0, 1, []), (.istore 5, 2, [])]
def kb_190_24 : List ab_Row := [(.iload 5, 2, []), (.iload_n 2, 1, []), (.if_icmp .ge 134, 3, [161]), (.aload_n 0, 1, []), (.getfield 61, 3, [12, 26, 1858]), (.sipush 361, 3, []), (.dup2, 1, []), (.iaload, 1, []), (.iconst 1, 1, []), (.iadd, 1, []), (.iastore, 1, []), (.iconst 0, 1, []), (.istore 6, 2, [])]
def kb_190_45 : List ab_Row := [(.iload 6, 2, []), (.aload_n 0, 1, []), (.getfield 23, 3, [12, 12, 1844]), (.iconst 0, 1, []), (.iaload, 1, []), (.if_icmp .ge 83, 3, [136]), (.aload_n 0, 1, []), (.bipush 16, 2, []), (.invokevirtual 392, 3, [600, 276, 2, 0, 2389, 2391, 98, 12]), (.iload_n 3, 1, []), (.if_icmp .ge 67, 3, [130]), (.aload_n 0, 1, []), (.getfield 23, 3, [12, 12, 1844]), (.iconst 0, 1, []), (.iaload, 1, []), (.iconst 2, 1, []), (.if_icmp .ge 6, 3, [79]), (.goto 54, 3, [130])]
def kb_190_79 : List ab_Row := [(.iload 6, 2, []), (.iconst 1, 1, []), (.iadd, 1, []), (.aload_n 0, 1, []), (.aload_n 0, 1, []), (.getfield 23, 3, [12, 12, 1844]), (.iconst 0, 1, []), (.iaload, 1, []), (.iconst 1, 1, []), (.isub, 1, []), (.invokevirtual 392, 3, [600, 276, 2, 0, 2389, 2391, 98, 12]), (.iadd, 1, []), (.aload_n 0, 1, []), (.getfield 23, 3, [12, 12, 1844]), (.iconst 0, 1, []), (.iaload, 1, []), (.irem, 1, []), (.istore 7, 2, []), (.iconst 1, 1, []), (.aload_n 0, 1, []), (.bipush 9, 2, []), (.invokevirtual 392, 3, [600, 276, 2, 0, 2389, 2391, 98, 12]), (.iadd, 1, []), (.istore 8, 2, []), (.aload_n 0, 1, []), (.getfield 61, 3, [12, 26, 1858]), (.iload 6, 2, []), (.iload 7, 2, []), (.iload 8, 2, []), (.iconst 1, 1, []), (.invokestatic 194, 3, [600, 197, 5, 1, 1826, 1827, 0, 0]), (.pop, 1, [])]
def kb_190_130 : List ab_Row := [(.iinc 6 1, 3, []), (.goto (-88), 3, [45])]
def kb_190_136 : List ab_Row := [(.aload_n 0, 1, []), (.bipush 16, 2, []), (.invokevirtual 392, 3, [600, 276, 2, 0, 2389, 2391, 98, 12]), (.iload 4, 2, []), (.if_icmp .ge 11, 3, [155]), (.aload_n 0, 1, []), (.aload_n 0, 1, []), (.getfield 61, 3, [12, 26, 1858]), (.invokevirtual 395, 3, [600, 277, 2, 0, 2394, 2396, 99, 12])]
def kb_190_155 : List ab_Row := [(.iinc 5 1, 3, []), (.goto (-134), 3, [24])]
def kb_190_161 : List ab_Row := [(.return_, 1, [])]
def kt_190 : List (Nat × List ab_Row) := [(0, kb_190_0), (24, kb_190_24), (45, kb_190_45), (79, kb_190_79), (130, kb_190_130), (136, kb_190_136), (155, kb_190_155), (161, kb_190_161)]
def km_190 : ab_Mi := ((⟨"SorryPursesModel", "months", "(IIII)V"⟩ : MethodName), prog_14_method_115_code, 9, (Option.none : Option FieldType), [], [])
-- 191: SorryPurses.span (IIIIIII)I
def kb_191_0 : List ab_Row := [(.aload_n 0, 1, []), (.iload_n 3, 1, []), (.iload 4, 2, []), (.iload 5, 2, []), (.invokevirtual 348, 3, [600, 273, 4, 0, 1767, 1769, 44, 11]), (.aload_n 0, 1, []), (.iload_n 2, 1, []), (.iconst 1, 1, []), (.bipush 20, 2, []), (.invokestatic 245, 3, [600, 240, 3, 1, 1501, 1502, 0, 0]), (.ifCond .eq 36, 3, [53]), (.iload 6, 2, []), (.ifCond .lt 31, 3, [53]), (.iload 6, 2, []), (.iconst 2, 1, []), (.if_icmp .gt 25, 3, [53]), (.iload 7, 2, []), (.iconst 0, 1, []), (.aload_n 0, 1, []), (.getfield 19, 3, [11, 1, 495]), (.getfield 181, 3, [10, 5, 194]), (.iconst 1, 1, []), (.isub, 1, []), (.invokestatic 245, 3, [600, 240, 3, 1, 1501, 1502, 0, 0]), (.ifCond .eq 7, 3, [53]), (.iconst 1, 1, []), (.goto 4, 3, [54])]
def kb_191_53 : List ab_Row := [(.iconst 0, 1, [])]
def kb_191_54 : List ab_Row := [(.invokevirtual 196, 3, [600, 228, 2, 0, 1092, 1094, 13, 11]), (.iconst 0, 1, []), (.istore 8, 2, []), (.iconst 0, 1, []), (.istore 9, 2, []), (.iconst 0, 1, []), (.istore 10, 2, []), (.iconst 0, 1, []), (.istore 11, 2, [])]
def kb_191_69 : List ab_Row := [(.iload 11, 2, []), (.iload_n 2, 1, []), (.if_icmp .ge 93, 3, [165]), (.aload_n 0, 1, []), (.getfield 94, 3, [11, 12, 506]), (.iload_n 1, 1, []), (.iload 11, 2, []), (.iadd, 1, []), (.iload_n 3, 1, []), (.iload 4, 2, []), (.iload 5, 2, []), (.invokevirtual 352, 3, [600, 274, 5, 0, 1771, 1772, 1773, 7]), (.aload_n 0, 1, []), (.getfield 94, 3, [11, 12, 506]), (.getfield 356, 3, [7, 2, 447]), (.invokevirtual 233, 3, [600, 236, 1, 0, 1467, 1468, 1469, 6]), (.istore 12, 2, []), (.iload 11, 2, []), (.ifCond .ne 8, 3, [113]), (.iload 12, 2, []), (.goto 10, 3, [120])]
def kb_191_113 : List ab_Row := [(.iload 8, 2, []), (.iload 12, 2, []), (.invokestatic 365, 3, [710, 1808, 618, 121, 619])]
def kb_191_120 : List ab_Row := [(.istore 8, 2, []), (.iload 9, 2, []), (.iload 12, 2, []), (.invokestatic 370, 3, [711, 1809, 621, 121, 622]), (.istore 9, 2, []), (.iload 10, 2, []), (.iload 6, 2, []), (.iconst 2, 1, []), (.if_icmp .ne 19, 3, [155]), (.aload_n 0, 1, []), (.getfield 94, 3, [11, 12, 506]), (.invokevirtual 362, 3, [600, 275, 1, 0, 1796, 1797, 1798, 7]), (.iload 7, 2, []), (.if_icmp .ne 7, 3, [155]), (.iconst 1, 1, []), (.goto 4, 3, [156])]
def kb_191_155 : List ab_Row := [(.iconst 0, 1, [])]
def kb_191_156 : List ab_Row := [(.iadd, 1, []), (.istore 10, 2, []), (.iinc 11 1, 3, []), (.goto (-93), 3, [69])]
def kb_191_165 : List ab_Row := [(.iload 6, 2, []), (.ifCond .ne 8, 3, [175]), (.iload 8, 2, []), (.goto 16, 3, [188])]
def kb_191_175 : List ab_Row := [(.iload 6, 2, []), (.iconst 1, 1, []), (.if_icmp .ne 8, 3, [186]), (.iload 9, 2, []), (.goto 5, 3, [188])]
def kb_191_186 : List ab_Row := [(.iload 10, 2, [])]
def kb_191_188 : List ab_Row := [(.ireturn, 1, [])]
def kt_191 : List (Nat × List ab_Row) := [(0, kb_191_0), (53, kb_191_53), (54, kb_191_54), (69, kb_191_69), (113, kb_191_113), (120, kb_191_120), (155, kb_191_155), (156, kb_191_156), (165, kb_191_165), (175, kb_191_175), (186, kb_191_186), (188, kb_191_188)]
def km_191 : ab_Mi := ((⟨"SorryPurses", "span", "(IIIIIII)I"⟩ : MethodName), prog_1_method_43_code, 13, (Option.some FieldType.int), [], [])
-- 192: SorryPursesModel.less (II)I
def kb_192_0 : List ab_Row := [(.iload_n 0, 1, []), (.iload_n 1, 1, []), (.if_icmp .ge 7, 3, [9]), (.iload_n 0, 1, []), (.goto 4, 3, [10])]
def kb_192_9 : List ab_Row := [(.iload_n 1, 1, [])]
def kb_192_10 : List ab_Row := [(.ireturn, 1, [])]
def kt_192 : List (Nat × List ab_Row) := [(0, kb_192_0), (9, kb_192_9), (10, kb_192_10)]
def km_192 : ab_Mi := ((⟨"SorryPursesModel", "less", "(II)I"⟩ : MethodName), prog_14_method_6_code, 2, (Option.some FieldType.int), [], [])
-- 193: SorryPursesModel.more (II)I
def kb_193_0 : List ab_Row := [(.iload_n 0, 1, []), (.iload_n 1, 1, []), (.if_icmp .le 7, 3, [9]), (.iload_n 0, 1, []), (.goto 4, 3, [10])]
def kb_193_9 : List ab_Row := [(.iload_n 1, 1, [])]
def kb_193_10 : List ab_Row := [(.ireturn, 1, [])]
def kt_193 : List (Nat × List ab_Row) := [(0, kb_193_0), (9, kb_193_9), (10, kb_193_10)]
def km_193 : ab_Mi := ((⟨"SorryPursesModel", "more", "(II)I"⟩ : MethodName), prog_14_method_7_code, 2, (Option.some FieldType.int), [], [])
-- 194: SorryPurses$History.takeImage (LSorryPurses$Ledger;I)V
def kb_194_0 : List ab_Row := [(.aload_n 0, 1, []), (.getfield 34, 3, [3, 6, 477]), (.ifCond .lt 11, 3, [15]), (.aload_n 0, 1, []), (.getfield 34, 3, [3, 6, 477]), (.iconst 3, 1, []), (.if_icmp .lt 4, 3, [16])]
def kb_194_15 : List ab_Row := [(.return_, 1, [])]
def kb_194_16 : List ab_Row := [(.aload_n 0, 1, []), (.getfield 17, 3, [3, 2, 473]), (.aload_n 0, 1, []), (.getfield 34, 3, [3, 6, 477]), (.aload_n 1, 1, []), (.invokestatic 37, 3, [600, 279, 3, 1, 1060, 1061, 0, 0]), (.iconst 0, 1, []), (.istore_n 3, 1, [])]
def kb_194_30 : List ab_Row := [(.iload_n 3, 1, []), (.aload_n 0, 1, []), (.getfield 30, 3, [3, 1, 471]), (.if_icmp .ge 37, 3, [72]), (.iload_n 3, 1, []), (.bipush 20, 2, []), (.if_icmp .ge 31, 3, [72]), (.aload_n 0, 1, []), (.getfield 20, 3, [3, 3, 474]), (.aload_n 0, 1, []), (.getfield 34, 3, [3, 6, 477]), (.bipush 20, 2, []), (.imul, 1, []), (.iload_n 3, 1, []), (.iadd, 1, []), (.aload_n 0, 1, []), (.getfield 11, 3, [3, 0, 470]), (.iload_n 3, 1, []), (.aaload, 1, []), (.invokestatic 37, 3, [600, 279, 3, 1, 1060, 1061, 0, 0]), (.iinc 3 1, 3, []), (.goto (-39), 3, [30])]
def kb_194_72 : List ab_Row := [(.aload_n 0, 1, []), (.getfield 23, 3, [3, 4, 475]), (.aload_n 0, 1, []), (.getfield 34, 3, [3, 6, 477]), (.aload_n 0, 1, []), (.getfield 30, 3, [3, 1, 471]), (.iastore, 1, []), (.aload_n 0, 1, []), (.getfield 27, 3, [3, 5, 476]), (.aload_n 0, 1, []), (.getfield 34, 3, [3, 6, 477]), (.iload_n 2, 1, []), (.iastore, 1, []), (.aload_n 0, 1, []), (.dup, 1, []), (.getfield 34, 3, [3, 6, 477]), (.iconst 1, 1, []), (.iadd, 1, []), (.putfield 34, 3, [3, 6, 477, 0]), (.return_, 1, [])]
def kt_194 : List (Nat × List ab_Row) := [(0, kb_194_0), (15, kb_194_15), (16, kb_194_16), (30, kb_194_30), (72, kb_194_72)]
def km_194 : ab_Mi := ((⟨"SorryPurses$History", "takeImage", "(LSorryPurses$Ledger;I)V"⟩ : MethodName), prog_5_method_5_code, 4, (Option.none : Option FieldType), [], [])
-- 195: SorryPursesModel.putsAll ([IZ)V
def kb_195_0 : List ab_Row := [(.aload_n 0, 1, []), (.iconst 0, 1, []), (.putfield 403, 3, [12, 33, 1865, 0]), (.aload_n 0, 1, []), (.getfield 23, 3, [12, 12, 1844]), (.iconst 3, 1, []), (.aload_n 0, 1, []), (.aload_n 1, 1, []), (.aload_n 0, 1, []), (.getfield 23, 3, [12, 12, 1844]), (.iconst 3, 1, []), (.iaload, 1, []), (.iload_n 2, 1, []), (.invokevirtual 406, 3, [600, 280, 4, 0, 2410, 2412, 101, 12]), (.iastore, 1, []), (.aload_n 0, 1, []), (.aload_n 0, 1, []), (.aload_n 1, 1, []), (.aload_n 0, 1, []), (.getfield 204, 3, [12, 30, 1862]), (.iload_n 2, 1, []), (.invokevirtual 406, 3, [600, 280, 4, 0, 2410, 2412, 101, 12]), (.putfield 204, 3, [12, 30, 1862, 0]), (.iconst 0, 1, []), (.istore_n 3, 1, [])]
def kb_195_39 : List ab_Row := [(.iload_n 3, 1, []), (.sipush 366, 3, []), (.if_icmp .ge 27, 3, [70]), (.aload_n 0, 1, []), (.getfield 58, 3, [12, 25, 1857]), (.iload_n 3, 1, []), (.aload_n 0, 1, []), (.aload_n 1, 1, []), (.aload_n 0, 1, []), (.getfield 58, 3, [12, 25, 1857]), (.iload_n 3, 1, []), (.iaload, 1, []), (.iload_n 2, 1, []), (.invokevirtual 406, 3, [600, 280, 4, 0, 2410, 2412, 101, 12]), (.iastore, 1, []), (.iinc 3 1, 3, []), (.goto (-28), 3, [39])]
def kb_195_70 : List ab_Row := [(.iconst 0, 1, []), (.istore_n 3, 1, [])]
def kb_195_72 : List ab_Row := [(.iload_n 3, 1, []), (.bipush 20, 2, []), (.if_icmp .ge 50, 3, [125]), (.iconst 0, 1, []), (.istore 4, 2, [])]
def kb_195_81 : List ab_Row := [(.iload 4, 2, []), (.sipush 366, 3, []), (.if_icmp .ge 33, 3, [119]), (.aload_n 0, 1, []), (.getfield 64, 3, [12, 27, 1859]), (.iload_n 3, 1, []), (.aaload, 1, []), (.iload 4, 2, []), (.aload_n 0, 1, []), (.aload_n 1, 1, []), (.aload_n 0, 1, []), (.getfield 64, 3, [12, 27, 1859]), (.iload_n 3, 1, []), (.aaload, 1, []), (.iload 4, 2, []), (.iaload, 1, []), (.iload_n 2, 1, []), (.invokevirtual 406, 3, [600, 280, 4, 0, 2410, 2412, 101, 12]), (.iastore, 1, []), (.iinc 4 1, 3, []), (.goto (-35), 3, [81])]
def kb_195_119 : List ab_Row := [(.iinc 3 1, 3, []), (.goto (-50), 3, [72])]
def kb_195_125 : List ab_Row := [(.return_, 1, [])]
def kt_195 : List (Nat × List ab_Row) := [(0, kb_195_0), (39, kb_195_39), (70, kb_195_70), (72, kb_195_72), (81, kb_195_81), (119, kb_195_119), (125, kb_195_125)]
def km_195 : ab_Mi := ((⟨"SorryPursesModel", "putsAll", "([IZ)V"⟩ : MethodName), prog_14_method_119_code, 5, (Option.none : Option FieldType), [], [])
-- 196: SorryPurses$History.giveBack (LSorryPurses$Ledger;)I
def kb_196_0 : List ab_Row := [(.aload_n 0, 1, []), (.getfield 34, 3, [3, 6, 477]), (.ifCond .le 11, 3, [15]), (.aload_n 0, 1, []), (.getfield 34, 3, [3, 6, 477]), (.iconst 3, 1, []), (.if_icmp .le 5, 3, [17])]
def kb_196_15 : List ab_Row := [(.iconst 0, 1, []), (.ireturn, 1, [])]
def kb_196_17 : List ab_Row := [(.aload_n 0, 1, []), (.dup, 1, []), (.getfield 34, 3, [3, 6, 477]), (.iconst 1, 1, []), (.isub, 1, []), (.putfield 34, 3, [3, 6, 477, 0]), (.aload_n 0, 1, []), (.getfield 17, 3, [3, 2, 473]), (.aload_n 0, 1, []), (.getfield 34, 3, [3, 6, 477]), (.aload_n 1, 1, []), (.invokestatic 41, 3, [600, 227, 3, 1, 564, 565, 0, 0]), (.aload_n 0, 1, []), (.aload_n 0, 1, []), (.getfield 23, 3, [3, 4, 475]), (.aload_n 0, 1, []), (.getfield 34, 3, [3, 6, 477]), (.iaload, 1, []), (.putfield 30, 3, [3, 1, 471, 0]), (.iconst 0, 1, []), (.istore_n 2, 1, [])]
def kb_196_54 : List ab_Row := [(.iload_n 2, 1, []), (.aload_n 0, 1, []), (.getfield 30, 3, [3, 1, 471]), (.if_icmp .ge 37, 3, [96]), (.iload_n 2, 1, []), (.bipush 20, 2, []), (.if_icmp .ge 31, 3, [96]), (.aload_n 0, 1, []), (.getfield 11, 3, [3, 0, 470]), (.iload_n 2, 1, []), (.aload_n 0, 1, []), (.getfield 20, 3, [3, 3, 474]), (.aload_n 0, 1, []), (.getfield 34, 3, [3, 6, 477]), (.bipush 20, 2, []), (.imul, 1, []), (.iload_n 2, 1, []), (.iadd, 1, []), (.aaload, 1, []), (.invokestatic 37, 3, [600, 279, 3, 1, 1060, 1061, 0, 0]), (.iinc 2 1, 3, []), (.goto (-39), 3, [54])]
def kb_196_96 : List ab_Row := [(.aload_n 0, 1, []), (.getfield 27, 3, [3, 5, 476]), (.aload_n 0, 1, []), (.getfield 34, 3, [3, 6, 477]), (.iaload, 1, []), (.ireturn, 1, [])]
def kt_196 : List (Nat × List ab_Row) := [(0, kb_196_0), (15, kb_196_15), (17, kb_196_17), (54, kb_196_54), (96, kb_196_96)]
def km_196 : ab_Mi := ((⟨"SorryPurses$History", "giveBack", "(LSorryPurses$Ledger;)I"⟩ : MethodName), prog_5_method_6_code, 3, (Option.some FieldType.int), [], [])
-- 197: SorryPursesModel.makes ([IIIII)I
def kb_197_0 : List ab_Row := [(.aload_n 0, 1, []), (.sipush 360, 3, []), (.iaload, 1, []), (.istore 5, 2, []), (.iload 5, 2, []), (.bipush 40, 2, []), (.if_icmp .ne 5, 3, [16]), (.iconst (-1), 1, []), (.ireturn, 1, [])]
def kb_197_16 : List ab_Row := [(.aload_n 0, 1, []), (.sipush 360, 3, []), (.dup2, 1, []), (.iaload, 1, []), (.iconst 1, 1, []), (.iadd, 1, []), (.iastore, 1, []), (.aload_n 0, 1, []), (.iload 5, 2, []), (.iconst 0, 1, []), (.iload_n 1, 1, []), (.invokestatic 278, 3, [600, 281, 4, 1, 1829, 1830, 0, 0]), (.aload_n 0, 1, []), (.iload 5, 2, []), (.iconst 1, 1, []), (.iload_n 2, 1, []), (.invokestatic 278, 3, [600, 281, 4, 1, 1829, 1830, 0, 0]), (.aload_n 0, 1, []), (.iload 5, 2, []), (.iconst 2, 1, []), (.iload_n 3, 1, []), (.invokestatic 278, 3, [600, 281, 4, 1, 1829, 1830, 0, 0]), (.aload_n 0, 1, []), (.iload 5, 2, []), (.iconst 3, 1, []), (.aload_n 0, 1, []), (.sipush 361, 3, []), (.iaload, 1, []), (.invokestatic 278, 3, [600, 281, 4, 1, 1829, 1830, 0, 0]), (.aload_n 0, 1, []), (.iload 5, 2, []), (.iconst 4, 1, []), (.iconst 0, 1, []), (.invokestatic 278, 3, [600, 281, 4, 1, 1829, 1830, 0, 0]), (.aload_n 0, 1, []), (.iload 5, 2, []), (.iconst 5, 1, []), (.iconst 0, 1, []), (.invokestatic 278, 3, [600, 281, 4, 1, 1829, 1830, 0, 0]), (.aload_n 0, 1, []), (.iload 5, 2, []), (.bipush 6, 2, []), (.iload 4, 2, []), (.invokestatic 278, 3, [600, 281, 4, 1, 1829, 1830, 0, 0]), (.aload_n 0, 1, []), (.iload 5, 2, []), (.bipush 7, 2, []), (.iconst 0, 1, []), (.invokestatic 278, 3, [600, 281, 4, 1, 1829, 1830, 0, 0]), (.aload_n 0, 1, []), (.iload 5, 2, []), (.bipush 8, 2, []), (.iconst (-1), 1, []), (.invokestatic 278, 3, [600, 281, 4, 1, 1829, 1830, 0, 0]), (.aload_n 0, 1, []), (.sipush 362, 3, []), (.dup2, 1, []), (.iaload, 1, []), (.iload_n 3, 1, []), (.iadd, 1, []), (.iastore, 1, []), (.iload 5, 2, []), (.ireturn, 1, [])]
def kt_197 : List (Nat × List ab_Row) := [(0, kb_197_0), (16, kb_197_16)]
def km_197 : ab_Mi := ((⟨"SorryPursesModel", "makes", "([IIIII)I"⟩ : MethodName), prog_14_method_48_code, 6, (Option.some FieldType.int), [], [])
-- 198: SorryPurses.needText (II)V
def kb_198_0 : List ab_Row := [(.aload_n 0, 1, []), (.iload_n 1, 1, []), (.ifCond .lt 23, 3, [25]), (.iload_n 1, 1, []), (.iload_n 2, 1, []), (.if_icmp .gt 18, 3, [25]), (.iload_n 1, 1, []), (.aload_n 0, 1, []), (.getfield 10, 3, [11, 0, 494]), (.getfield 117, 3, [9, 1, 150]), (.if_icmp .gt 7, 3, [25]), (.iconst 1, 1, []), (.goto 4, 3, [26])]
def kb_198_25 : List ab_Row := [(.iconst 0, 1, [])]
def kb_198_26 : List ab_Row := [(.invokevirtual 196, 3, [600, 228, 2, 0, 1092, 1094, 13, 11]), (.return_, 1, [])]
def kt_198 : List (Nat × List ab_Row) := [(0, kb_198_0), (25, kb_198_25), (26, kb_198_26)]
def km_198 : ab_Mi := ((⟨"SorryPurses", "needText", "(II)V"⟩ : MethodName), prog_1_method_49_code, 3, (Option.none : Option FieldType), [], [])
-- 199: SorryPurses$Tape.start (I)V
def kb_199_0 : List ab_Row := [(.aload_n 0, 1, []), (.iconst 0, 1, []), (.putfield 19, 3, [9, 1, 149, 0]), (.aload_n 0, 1, []), (.iload_n 1, 1, []), (.aload_n 0, 1, []), (.getfield 9, 3, [9, 0, 148]), (.arraylength, 1, []), (.invokestatic 22, 3, [710, 1103, 618, 121, 619]), (.putfield 28, 3, [9, 2, 151, 0]), (.aload_n 0, 1, []), (.iconst 0, 1, []), (.putfield 31, 3, [9, 3, 152, 0]), (.aload_n 0, 1, []), (.iconst 0, 1, []), (.putfield 34, 3, [9, 4, 157, 0]), (.aload_n 0, 1, []), (.iconst 0, 1, []), (.putfield 37, 3, [9, 5, 160, 0]), (.aload_n 0, 1, []), (.iconst (-1), 1, []), (.putfield 15, 3, [9, 6, 161, 0]), (.return_, 1, [])]
def kt_199 : List (Nat × List ab_Row) := [(0, kb_199_0)]
def km_199 : ab_Mi := ((⟨"SorryPurses$Tape", "start", "(I)V"⟩ : MethodName), prog_11_method_4_code, 2, (Option.none : Option FieldType), [], [])
-- 200: SorryPurses$Town.read (LSorryPurses$Tape;)V
def kb_200_0 : List ab_Row := [(.aload_n 0, 1, []), (.iconst 0, 1, []), (.putfield 34, 3, [10, 5, 190, 0]), (.aload_n 0, 1, []), (.iconst 0, 1, []), (.putfield 37, 3, [10, 6, 195, 0]), (.aload_n 0, 1, []), (.bipush 10, 2, []), (.putfield 27, 3, [10, 7, 196, 0]), (.aload_n 0, 1, []), (.bipush 30, 2, []), (.putfield 31, 3, [10, 8, 199, 0]), (.iconst 0, 1, []), (.istore_n 2, 1, [])]
def kb_200_24 : List ab_Row := [(.iload_n 2, 1, []), (.bipush 60, 2, []), (.if_icmp .gt 22, 3, [49]), (.aload_n 1, 1, []), (.invokevirtual 40, 3, [600, 282, 1, 0, 1108, 1109, 1110, 9]), (.ifCond .eq 15, 3, [49]), (.aload_n 0, 1, []), (.aload_n 1, 1, []), (.iload_n 2, 1, []), (.invokevirtual 46, 3, [600, 283, 3, 0, 1120, 1122, 15, 10]), (.iinc 2 1, 3, []), (.goto (-22), 3, [24])]
def kb_200_49 : List ab_Row := [(.return_, 1, [])]
def kt_200 : List (Nat × List ab_Row) := [(0, kb_200_0), (24, kb_200_24), (49, kb_200_49)]
def km_200 : ab_Mi := ((⟨"SorryPurses$Town", "read", "(LSorryPurses$Tape;)V"⟩ : MethodName), prog_12_method_2_code, 3, (Option.none : Option FieldType), [], [])
-- 201: SorryPurses$Tape.isFaulty ()Z
def kb_201_0 : List ab_Row := [(.aload_n 0, 1, []), (.getfield 37, 3, [9, 5, 160]), (.ifCond .eq 7, 3, [11]), (.iconst 1, 1, []), (.goto 4, 3, [12])]
def kb_201_11 : List ab_Row := [(.iconst 0, 1, [])]
def kb_201_12 : List ab_Row := [(.ireturn, 1, [])]
def kt_201 : List (Nat × List ab_Row) := [(0, kb_201_0), (11, kb_201_11), (12, kb_201_12)]
def km_201 : ab_Mi := ((⟨"SorryPurses$Tape", "isFaulty", "()Z"⟩ : MethodName), prog_11_method_5_code, 1, (Option.some FieldType.boolean), [], [])
-- 202: SorryPurses$Town.copyFrom (LSorryPurses$Town;)V
def kb_202_0 : List ab_Row := [(.aload_n 1, 1, []), (.getfield 9, 3, [10, 0, 185]), (.iconst 0, 1, []), (.aload_n 0, 1, []), (.getfield 9, 3, [10, 0, 185]), (.iconst 0, 1, []), (.bipush 8, 2, []), (.invokestatic 85, 3, [1000, 1200, 231, 230, 107]), (.aload_n 1, 1, []), (.getfield 15, 3, [10, 1, 186]), (.iconst 0, 1, []), (.aload_n 0, 1, []), (.getfield 15, 3, [10, 1, 186]), (.iconst 0, 1, []), (.bipush 24, 2, []), (.invokestatic 85, 3, [1000, 1200, 231, 230, 107]), (.aload_n 1, 1, []), (.getfield 18, 3, [10, 2, 187]), (.iconst 0, 1, []), (.aload_n 0, 1, []), (.getfield 18, 3, [10, 2, 187]), (.iconst 0, 1, []), (.bipush 24, 2, []), (.invokestatic 85, 3, [1000, 1200, 231, 230, 107]), (.aload_n 1, 1, []), (.getfield 21, 3, [10, 3, 188]), (.iconst 0, 1, []), (.aload_n 0, 1, []), (.getfield 21, 3, [10, 3, 188]), (.iconst 0, 1, []), (.bipush 24, 2, []), (.invokestatic 85, 3, [1000, 1200, 231, 230, 107]), (.aload_n 1, 1, []), (.getfield 24, 3, [10, 4, 189]), (.iconst 0, 1, []), (.aload_n 0, 1, []), (.getfield 24, 3, [10, 4, 189]), (.iconst 0, 1, []), (.bipush 24, 2, []), (.invokestatic 85, 3, [1000, 1200, 231, 230, 107]), (.aload_n 0, 1, []), (.aload_n 1, 1, []), (.getfield 34, 3, [10, 5, 190]), (.putfield 34, 3, [10, 5, 190, 0]), (.aload_n 0, 1, []), (.aload_n 1, 1, []), (.getfield 37, 3, [10, 6, 195]), (.putfield 37, 3, [10, 6, 195, 0]), (.aload_n 0, 1, []), (.aload_n 1, 1, []), (.getfield 27, 3, [10, 7, 196]), (.putfield 27, 3, [10, 7, 196, 0]), (.aload_n 0, 1, []), (.aload_n 1, 1, []), (.getfield 31, 3, [10, 8, 199]), (.putfield 31, 3, [10, 8, 199, 0]), (.return_, 1, [])]
def kt_202 : List (Nat × List ab_Row) := [(0, kb_202_0)]
def km_202 : ab_Mi := ((⟨"SorryPurses$Town", "copyFrom", "(LSorryPurses$Town;)V"⟩ : MethodName), prog_12_method_6_code, 2, (Option.none : Option FieldType), [], [])
-- 203: SorryPurses$Town.settle (LSorryPurses$Ledger;)V
def kb_203_0 : List ab_Row := [(.aload_n 1, 1, []), (.invokevirtual 91, 3, [600, 284, 1, 0, 1205, 1206, 1207, 6]), (.iconst 0, 1, []), (.istore_n 2, 1, [])]
def kb_203_6 : List ab_Row := [(.iload_n 2, 1, []), (.aload_n 0, 1, []), (.getfield 37, 3, [10, 6, 195]), (.if_icmp .ge 44, 3, [55]), (.iload_n 2, 1, []), (.bipush 24, 2, []), (.if_icmp .ge 38, 3, [55]), (.aload_n 1, 1, []), (.aload_n 0, 1, []), (.getfield 15, 3, [10, 1, 186]), (.iload_n 2, 1, []), (.iaload, 1, []), (.aload_n 0, 1, []), (.getfield 18, 3, [10, 2, 187]), (.iload_n 2, 1, []), (.iaload, 1, []), (.aload_n 0, 1, []), (.getfield 21, 3, [10, 3, 188]), (.iload_n 2, 1, []), (.iaload, 1, []), (.aload_n 0, 1, []), (.getfield 24, 3, [10, 4, 189]), (.iload_n 2, 1, []), (.iaload, 1, []), (.invokevirtual 96, 3, [600, 285, 5, 0, 1210, 1211, 1212, 6]), (.pop, 1, []), (.iinc 2 1, 3, []), (.goto (-46), 3, [6])]
def kb_203_55 : List ab_Row := [(.return_, 1, [])]
def kt_203 : List (Nat × List ab_Row) := [(0, kb_203_0), (6, kb_203_6), (55, kb_203_55)]
def km_203 : ab_Mi := ((⟨"SorryPurses$Town", "settle", "(LSorryPurses$Ledger;)V"⟩ : MethodName), prog_12_method_7_code, 3, (Option.none : Option FieldType), [], [])
-- 204: SorryPurses$Law.reset ()V
def kb_204_0 : List ab_Row := [(.getstatic 18, 3, [1, 227]), (.iconst 0, 1, []), (.aload_n 0, 1, []), (.getfield 9, 3, [5, 0, 232]), (.iconst 0, 1, []), (.getstatic 18, 3, [1, 227]), (.arraylength, 1, []), (.invokestatic 21, 3, [1000, 229, 231, 230, 107]), (.aload_n 0, 1, []), (.getstatic 18, 3, [1, 227]), (.arraylength, 1, []), (.putfield 27, 3, [5, 1, 233, 0]), (.return_, 1, [])]
def kt_204 : List (Nat × List ab_Row) := [(0, kb_204_0)]
def km_204 : ab_Mi := ((⟨"SorryPurses$Law", "reset", "()V"⟩ : MethodName), prog_7_method_2_code, 1, (Option.none : Option FieldType), [], [])
-- 205: SorryPurses$History.forget ()V
def kb_205_0 : List ab_Row := [(.aload_n 0, 1, []), (.iconst 0, 1, []), (.putfield 30, 3, [3, 1, 471, 0]), (.aload_n 0, 1, []), (.iconst 0, 1, []), (.putfield 34, 3, [3, 6, 477, 0]), (.return_, 1, [])]
def kt_205 : List (Nat × List ab_Row) := [(0, kb_205_0)]
def km_205 : ab_Mi := ((⟨"SorryPurses$History", "forget", "()V"⟩ : MethodName), prog_5_method_2_code, 1, (Option.none : Option FieldType), [], [])
-- 206: SorryPursesModel.isWord (IIIIIIII)Z
def kb_206_0 : List ab_Row := [(.aload_n 0, 1, []), (.getfield 117, 3, [12, 5, 1837]), (.ifCond .ne 31, 3, [35]), (.aload_n 0, 1, []), (.invokevirtual 152, 3, [600, 286, 1, 0, 2007, 2009, 56, 12]), (.iload_n 1, 1, []), (.iload_n 2, 1, []), (.iload_n 3, 1, []), (.iload 4, 2, []), (.iload 5, 2, []), (.iload 6, 2, []), (.iload 7, 2, []), (.iload 8, 2, []), (.invokestatic 156, 3, [600, 287, 8, 1, 2017, 2018, 0, 0]), (.lcmp, 1, []), (.ifCond .ne 7, 3, [35]), (.iconst 1, 1, []), (.goto 4, 3, [36])]
def kb_206_35 : List ab_Row := [(.iconst 0, 1, [])]
def kb_206_36 : List ab_Row := [(.ireturn, 1, [])]
def kt_206 : List (Nat × List ab_Row) := [(0, kb_206_0), (35, kb_206_35), (36, kb_206_36)]
def km_206 : ab_Mi := ((⟨"SorryPursesModel", "isWord", "(IIIIIIII)Z"⟩ : MethodName), prog_14_method_18_code, 9, (Option.some FieldType.boolean), [], [])
-- 207: SorryPursesModel.skipWord ()V
def kb_207_0 : List ab_Row := [(.aload_n 0, 1, []), (.aload_n 0, 1, []), (.getfield 110, 3, [12, 4, 1836]), (.invokevirtual 113, 3, [600, 209, 2, 0, 1995, 1997, 53, 12]), (.invokestatic 143, 3, [600, 288, 1, 1, 2011, 2012, 0, 0]), (.ifCond .eq 16, 3, [27]), (.aload_n 0, 1, []), (.dup, 1, []), (.getfield 110, 3, [12, 4, 1836]), (.iconst 1, 1, []), (.iadd, 1, []), (.putfield 110, 3, [12, 4, 1836, 0]), (.goto (-24), 3, [0])]
def kb_207_27 : List ab_Row := [(.return_, 1, [])]
def kt_207 : List (Nat × List ab_Row) := [(0, kb_207_0), (27, kb_207_27)]
def km_207 : ab_Mi := ((⟨"SorryPursesModel", "skipWord", "()V"⟩ : MethodName), prog_14_method_19_code, 1, (Option.none : Option FieldType), [], [])
-- 208: SorryPursesModel.otherNumber (II)I
def kb_208_0 : List ab_Row := [(.aload_n 0, 1, []), (.getfield 117, 3, [12, 5, 1837]), (.ifCond .eq 5, 3, [9]), (.iconst 0, 1, []), (.ireturn, 1, [])]
def kb_208_9 : List ab_Row := [(.aload_n 0, 1, []), (.invokevirtual 123, 3, [600, 116, 1, 0, 1991, 1993, 52, 12]), (.aload_n 0, 1, []), (.getfield 110, 3, [12, 4, 1836]), (.istore_n 3, 1, []), (.aload_n 0, 1, []), (.iconst 0, 1, []), (.iload_n 1, 1, []), (.invokevirtual 139, 3, [600, 128, 3, 0, 2028, 2030, 59, 12]), (.istore 4, 2, []), (.aload_n 0, 1, []), (.getfield 117, 3, [12, 5, 1837]), (.ifCond .ne 15, 3, [45]), (.iload 4, 2, []), (.iload_n 2, 1, []), (.if_icmp .ne 9, 3, [45]), (.aload_n 0, 1, []), (.iconst 2, 1, []), (.iload_n 3, 1, []), (.invokevirtual 130, 3, [600, 120, 3, 0, 2020, 2022, 57, 12])]
def kb_208_45 : List ab_Row := [(.iload 4, 2, []), (.ireturn, 1, [])]
def kt_208 : List (Nat × List ab_Row) := [(0, kb_208_0), (9, kb_208_9), (45, kb_208_45)]
def km_208 : ab_Mi := ((⟨"SorryPursesModel", "otherNumber", "(II)I"⟩ : MethodName), prog_14_method_15_code, 5, (Option.some FieldType.int), [], [])
-- 209: SorryPursesModel.byteAt (I)I
def kb_209_0 : List ab_Row := [(.iload_n 1, 1, []), (.aload_n 0, 1, []), (.getfield 107, 3, [12, 2, 1834]), (.if_icmp .lt 7, 3, [12]), (.iconst (-1), 1, []), (.goto 9, 3, [18])]
def kb_209_12 : List ab_Row := [(.aload_n 0, 1, []), (.getfield 13, 3, [12, 9, 1841]), (.iload_n 1, 1, []), (.iaload, 1, [])]
def kb_209_18 : List ab_Row := [(.ireturn, 1, [])]
def kt_209 : List (Nat × List ab_Row) := [(0, kb_209_0), (12, kb_209_12), (18, kb_209_18)]
def km_209 : ab_Mi := ((⟨"SorryPursesModel", "byteAt", "(I)I"⟩ : MethodName), prog_14_method_9_code, 2, (Option.some FieldType.int), [], [])
-- 210: SorryPurses$Law.read (LSorryPurses$Tape;)V
def kb_210_0 : List ab_Row := [(.aload_n 0, 1, []), (.iconst 0, 1, []), (.putfield 27, 3, [5, 1, 233, 0]), (.aload_n 0, 1, []), (.aload_n 1, 1, []), (.iconst 0, 1, []), (.invokevirtual 31, 3, [600, 289, 3, 0, 1237, 1239, 20, 5]), (.aload_n 1, 1, []), (.invokevirtual 35, 3, [600, 282, 1, 0, 1265, 1109, 1110, 9]), (.ifCond .eq 12, 3, [27]), (.aload_n 1, 1, []), (.iconst 1, 1, []), (.aload_n 1, 1, []), (.getfield 41, 3, [9, 3, 153]), (.invokevirtual 44, 3, [600, 290, 3, 0, 1259, 1162, 1163, 9])]
def kb_210_27 : List ab_Row := [(.return_, 1, [])]
def kt_210 : List (Nat × List ab_Row) := [(0, kb_210_0), (27, kb_210_27)]
def km_210 : ab_Mi := ((⟨"SorryPurses$Law", "read", "(LSorryPurses$Tape;)V"⟩ : MethodName), prog_7_method_4_code, 2, (Option.none : Option FieldType), [], [])
-- 211: SorryPurses$Law.copyFrom (LSorryPurses$Law;)V
def kb_211_0 : List ab_Row := [(.aload_n 1, 1, []), (.getfield 9, 3, [5, 0, 232]), (.iconst 0, 1, []), (.aload_n 0, 1, []), (.getfield 9, 3, [5, 0, 232]), (.iconst 0, 1, []), (.sipush 150, 3, []), (.invokestatic 21, 3, [1000, 229, 231, 230, 107]), (.aload_n 0, 1, []), (.aload_n 1, 1, []), (.getfield 27, 3, [5, 1, 233]), (.putfield 27, 3, [5, 1, 233, 0]), (.return_, 1, [])]
def kt_211 : List (Nat × List ab_Row) := [(0, kb_211_0)]
def km_211 : ab_Mi := ((⟨"SorryPurses$Law", "copyFrom", "(LSorryPurses$Law;)V"⟩ : MethodName), prog_7_method_3_code, 2, (Option.none : Option FieldType), [], [])
-- 212: SorryPursesModel.product ()V
def kb_212_0 : List ab_Row := [(.aload_n 0, 1, []), (.invokevirtual 225, 3, [600, 291, 1, 0, 2060, 2062, 65, 12])]
def kb_212_4 : List ab_Row := [(.aload_n 0, 1, []), (.getfield 117, 3, [12, 5, 1837]), (.ifCond .ne 50, 3, [58]), (.aload_n 0, 1, []), (.bipush 42, 2, []), (.invokevirtual 219, 3, [600, 127, 2, 0, 2080, 2082, 70, 12]), (.ifCond .eq 7, 3, [24]), (.iconst 4, 1, []), (.goto 17, 3, [38])]
def kb_212_24 : List ab_Row := [(.aload_n 0, 1, []), (.bipush 47, 2, []), (.invokevirtual 219, 3, [600, 127, 2, 0, 2080, 2082, 70, 12]), (.ifCond .eq 7, 3, [37]), (.iconst 5, 1, []), (.goto 4, 3, [38])]
def kb_212_37 : List ab_Row := [(.iconst (-1), 1, [])]
def kb_212_38 : List ab_Row := [(.istore_n 1, 1, []), (.iload_n 1, 1, []), (.iconst (-1), 1, []), (.if_icmp .ne 4, 3, [45]), (.return_, 1, [])]
def kb_212_45 : List ab_Row := [(.aload_n 0, 1, []), (.invokevirtual 225, 3, [600, 291, 1, 0, 2060, 2062, 65, 12]), (.aload_n 0, 1, []), (.iload_n 1, 1, []), (.iconst 0, 1, []), (.invokevirtual 222, 3, [600, 213, 3, 0, 2068, 2070, 67, 12]), (.goto (-51), 3, [4])]
def kb_212_58 : List ab_Row := [(.return_, 1, [])]
def kt_212 : List (Nat × List ab_Row) := [(0, kb_212_0), (4, kb_212_4), (24, kb_212_24), (37, kb_212_37), (38, kb_212_38), (45, kb_212_45), (58, kb_212_58)]
def km_212 : ab_Mi := ((⟨"SorryPursesModel", "product", "()V"⟩ : MethodName), prog_14_method_31_code, 2, (Option.none : Option FieldType), [], [])
-- 213: SorryPursesModel.notes (II)V
def kb_213_0 : List ab_Row := [(.aload_n 0, 1, []), (.getfield 117, 3, [12, 5, 1837]), (.ifCond .eq 4, 3, [8]), (.return_, 1, [])]
def kb_213_8 : List ab_Row := [(.aload_n 0, 1, []), (.getfield 40, 3, [12, 19, 1851]), (.aload_n 0, 1, []), (.getfield 213, 3, [12, 17, 1849]), (.aaload, 1, []), (.iconst 0, 1, []), (.iload_n 1, 1, []), (.iastore, 1, []), (.aload_n 0, 1, []), (.getfield 40, 3, [12, 19, 1851]), (.aload_n 0, 1, []), (.getfield 213, 3, [12, 17, 1849]), (.aaload, 1, []), (.iconst 1, 1, []), (.iload_n 2, 1, []), (.iastore, 1, []), (.aload_n 0, 1, []), (.dup, 1, []), (.getfield 213, 3, [12, 17, 1849]), (.iconst 1, 1, []), (.iadd, 1, []), (.putfield 213, 3, [12, 17, 1849, 0]), (.return_, 1, [])]
def kt_213 : List (Nat × List ab_Row) := [(0, kb_213_0), (8, kb_213_8)]
def km_213 : ab_Mi := ((⟨"SorryPursesModel", "notes", "(II)V"⟩ : MethodName), prog_14_method_28_code, 3, (Option.none : Option FieldType), [], [])
-- 214: SorryPurses$Deeds.read (LSorryPurses$Tape;)V
def kb_214_0 : List ab_Row := [(.aload_n 0, 1, []), (.iconst 0, 1, []), (.putfield 31, 3, [2, 5, 377, 0]), (.iconst 0, 1, []), (.istore_n 2, 1, [])]
def kb_214_7 : List ab_Row := [(.iload_n 2, 1, []), (.bipush 30, 2, []), (.if_icmp .gt 22, 3, [32]), (.aload_n 1, 1, []), (.invokevirtual 35, 3, [600, 282, 1, 0, 1281, 1109, 1110, 9]), (.ifCond .eq 15, 3, [32]), (.aload_n 0, 1, []), (.aload_n 1, 1, []), (.iload_n 2, 1, []), (.invokevirtual 41, 3, [600, 292, 3, 0, 1282, 1284, 24, 2]), (.iinc 2 1, 3, []), (.goto (-22), 3, [7])]
def kb_214_32 : List ab_Row := [(.return_, 1, [])]
def kt_214 : List (Nat × List ab_Row) := [(0, kb_214_0), (7, kb_214_7), (32, kb_214_32)]
def km_214 : ab_Mi := ((⟨"SorryPurses$Deeds", "read", "(LSorryPurses$Tape;)V"⟩ : MethodName), prog_4_method_2_code, 3, (Option.none : Option FieldType), [], [])
-- 215: SorryPurses$History.push (LSorryPurses$Ledger;)V
def kb_215_0 : List ab_Row := [(.aload_n 0, 1, []), (.getfield 30, 3, [3, 1, 471]), (.bipush 20, 2, []), (.if_icmp .ge 25, 3, [31]), (.aload_n 0, 1, []), (.getfield 11, 3, [3, 0, 470]), (.aload_n 0, 1, []), (.getfield 30, 3, [3, 1, 471]), (.aload_n 1, 1, []), (.invokestatic 37, 3, [600, 279, 3, 1, 1060, 1061, 0, 0]), (.aload_n 0, 1, []), (.dup, 1, []), (.getfield 30, 3, [3, 1, 471]), (.iconst 1, 1, []), (.iadd, 1, []), (.putfield 30, 3, [3, 1, 471, 0])]
def kb_215_31 : List ab_Row := [(.return_, 1, [])]
def kt_215 : List (Nat × List ab_Row) := [(0, kb_215_0), (31, kb_215_31)]
def km_215 : ab_Mi := ((⟨"SorryPurses$History", "push", "(LSorryPurses$Ledger;)V"⟩ : MethodName), prog_5_method_3_code, 2, (Option.none : Option FieldType), [], [])
-- 216: SorryPurses$Deeds.perform ()I
def kb_216_0 : List ab_Row := [(.iconst 0, 1, []), (.istore_n 1, 1, []), (.iconst 0, 1, []), (.istore_n 2, 1, [])]
def kb_216_4 : List ab_Row := [(.iload_n 2, 1, []), (.aload_n 0, 1, []), (.getfield 31, 3, [2, 5, 377]), (.if_icmp .ge 64, 3, [73]), (.iload_n 2, 1, []), (.bipush 30, 2, []), (.if_icmp .ge 58, 3, [73]), (.iload_n 2, 1, []), (.iconst 4, 1, []), (.imul, 1, []), (.istore_n 3, 1, []), (.iload_n 1, 1, []), (.aload_n 0, 1, []), (.aload_n 0, 1, []), (.getfield 11, 3, [2, 4, 376]), (.iload_n 3, 1, []), (.iaload, 1, []), (.aload_n 0, 1, []), (.getfield 11, 3, [2, 4, 376]), (.iload_n 3, 1, []), (.iconst 1, 1, []), (.iadd, 1, []), (.iaload, 1, []), (.aload_n 0, 1, []), (.getfield 11, 3, [2, 4, 376]), (.iload_n 3, 1, []), (.iconst 2, 1, []), (.iadd, 1, []), (.iaload, 1, []), (.aload_n 0, 1, []), (.getfield 11, 3, [2, 4, 376]), (.iload_n 3, 1, []), (.iconst 3, 1, []), (.iadd, 1, []), (.iaload, 1, []), (.invokevirtual 93, 3, [600, 293, 5, 0, 1316, 1318, 28, 2]), (.ifCond .eq 7, 3, [64]), (.iconst 1, 1, []), (.goto 4, 3, [65])]
def kb_216_64 : List ab_Row := [(.iconst 0, 1, [])]
def kb_216_65 : List ab_Row := [(.iadd, 1, []), (.istore_n 1, 1, []), (.iinc 2 1, 3, []), (.goto (-66), 3, [4])]
def kb_216_73 : List ab_Row := [(.aload_n 0, 1, []), (.aload_n 0, 1, []), (.getfield 31, 3, [2, 5, 377]), (.iload_n 1, 1, []), (.isub, 1, []), (.putfield 97, 3, [2, 6, 379, 0]), (.iload_n 1, 1, []), (.ireturn, 1, [])]
def kt_216 : List (Nat × List ab_Row) := [(0, kb_216_0), (4, kb_216_4), (64, kb_216_64), (65, kb_216_65), (73, kb_216_73)]
def km_216 : ab_Mi := ((⟨"SorryPurses$Deeds", "perform", "()I"⟩ : MethodName), prog_4_method_8_code, 4, (Option.some FieldType.int), [], [])
-- 217: SorryPursesModel.deedHere ()I
def kb_217_0 : List ab_Row := [(.aload_n 0, 1, []), (.iconst 4, 1, []), (.iconst 1, 1, []), (.bipush 25, 2, []), (.iconst 0, 1, []), (.iconst 0, 1, []), (.iconst 0, 1, []), (.iconst 0, 1, []), (.iconst 0, 1, []), (.invokevirtual 160, 3, [600, 206, 9, 0, 2003, 2005, 55, 12]), (.ifCond .eq 5, 3, [18]), (.iconst 0, 1, []), (.ireturn, 1, [])]
def kb_217_18 : List ab_Row := [(.aload_n 0, 1, []), (.bipush 19, 2, []), (.bipush 12, 2, []), (.iconst 1, 1, []), (.bipush 16, 2, []), (.iconst 0, 1, []), (.iconst 0, 1, []), (.iconst 0, 1, []), (.iconst 0, 1, []), (.invokevirtual 160, 3, [600, 206, 9, 0, 2003, 2005, 55, 12]), (.ifCond .eq 5, 3, [38]), (.iconst 1, 1, []), (.ireturn, 1, [])]
def kb_217_38 : List ab_Row := [(.aload_n 0, 1, []), (.bipush 16, 2, []), (.iconst 1, 1, []), (.bipush 19, 2, []), (.bipush 19, 2, []), (.iconst 0, 1, []), (.iconst 0, 1, []), (.iconst 0, 1, []), (.iconst 0, 1, []), (.invokevirtual 160, 3, [600, 206, 9, 0, 2003, 2005, 55, 12]), (.ifCond .eq 5, 3, [58]), (.iconst 2, 1, []), (.ireturn, 1, [])]
def kb_217_58 : List ab_Row := [(.aload_n 0, 1, []), (.bipush 19, 2, []), (.bipush 16, 2, []), (.bipush 12, 2, []), (.bipush 9, 2, []), (.bipush 20, 2, []), (.iconst 0, 1, []), (.iconst 0, 1, []), (.iconst 0, 1, []), (.invokevirtual 160, 3, [600, 206, 9, 0, 2003, 2005, 55, 12]), (.ifCond .eq 5, 3, [80]), (.iconst 3, 1, []), (.ireturn, 1, [])]
def kb_217_80 : List ab_Row := [(.aload_n 0, 1, []), (.bipush 10, 2, []), (.bipush 15, 2, []), (.bipush 9, 2, []), (.bipush 14, 2, []), (.iconst 0, 1, []), (.iconst 0, 1, []), (.iconst 0, 1, []), (.iconst 0, 1, []), (.invokevirtual 160, 3, [600, 206, 9, 0, 2003, 2005, 55, 12]), (.ifCond .eq 5, 3, [101]), (.iconst 4, 1, []), (.ireturn, 1, [])]
def kb_217_101 : List ab_Row := [(.aload_n 0, 1, []), (.bipush 20, 2, []), (.iconst 5, 1, []), (.bipush 12, 2, []), (.bipush 12, 2, []), (.iconst 0, 1, []), (.iconst 0, 1, []), (.iconst 0, 1, []), (.iconst 0, 1, []), (.invokevirtual 160, 3, [600, 206, 9, 0, 2003, 2005, 55, 12]), (.ifCond .eq 5, 3, [121]), (.iconst 5, 1, []), (.ireturn, 1, [])]
def kb_217_121 : List ab_Row := [(.aload_n 0, 1, []), (.bipush 19, 2, []), (.bipush 15, 2, []), (.bipush 18, 2, []), (.bipush 18, 2, []), (.bipush 25, 2, []), (.iconst 0, 1, []), (.iconst 0, 1, []), (.iconst 0, 1, []), (.invokevirtual 160, 3, [600, 206, 9, 0, 2003, 2005, 55, 12]), (.ifCond .eq 6, 3, [144]), (.bipush 6, 2, []), (.ireturn, 1, [])]
def kb_217_144 : List ab_Row := [(.aload_n 0, 1, []), (.bipush 23, 2, []), (.bipush 18, 2, []), (.bipush 15, 2, []), (.bipush 14, 2, []), (.bipush 7, 2, []), (.bipush 12, 2, []), (.bipush 25, 2, []), (.iconst 0, 1, []), (.invokevirtual 160, 3, [600, 206, 9, 0, 2003, 2005, 55, 12]), (.ifCond .eq 6, 3, [169]), (.bipush 7, 2, []), (.ireturn, 1, [])]
def kb_217_169 : List ab_Row := [(.aload_n 0, 1, []), (.bipush 6, 2, []), (.bipush 15, 2, []), (.bipush 18, 2, []), (.bipush 7, 2, []), (.bipush 9, 2, []), (.bipush 22, 2, []), (.iconst 5, 1, []), (.iconst 0, 1, []), (.invokevirtual 160, 3, [600, 206, 9, 0, 2003, 2005, 55, 12]), (.ifCond .eq 6, 3, [193]), (.bipush 8, 2, []), (.ireturn, 1, [])]
def kb_217_193 : List ab_Row := [(.aload_n 0, 1, []), (.bipush 16, 2, []), (.iconst 1, 1, []), (.bipush 25, 2, []), (.iconst 0, 1, []), (.iconst 0, 1, []), (.iconst 0, 1, []), (.iconst 0, 1, []), (.iconst 0, 1, []), (.invokevirtual 160, 3, [600, 206, 9, 0, 2003, 2005, 55, 12]), (.ifCond .eq 8, 3, [215]), (.bipush 9, 2, []), (.goto 4, 3, [216])]
def kb_217_215 : List ab_Row := [(.iconst (-1), 1, [])]
def kb_217_216 : List ab_Row := [(.ireturn, 1, [])]
def kt_217 : List (Nat × List ab_Row) := [(0, kb_217_0), (18, kb_217_18), (38, kb_217_38), (58, kb_217_58), (80, kb_217_80), (101, kb_217_101), (121, kb_217_121), (144, kb_217_144), (169, kb_217_169), (193, kb_217_193), (215, kb_217_215), (216, kb_217_216)]
def km_217 : ab_Mi := ((⟨"SorryPursesModel", "deedHere", "()I"⟩ : MethodName), prog_14_method_44_code, 1, (Option.some FieldType.int), [], [])
-- 218: SorryPursesModel.paysAll ([IIII)Z
def kb_218_0 : List ab_Row := [(.aload_n 0, 1, []), (.aload_n 1, 1, []), (.iload_n 2, 1, []), (.iload_n 3, 1, []), (.iload 4, 2, []), (.invokevirtual 289, 3, [600, 152, 5, 0, 2132, 2134, 78, 12]), (.lstore 5, 2, []), (.iconst 0, 1, []), (.istore 7, 2, [])]
def kb_218_14 : List ab_Row := [(.iload 7, 2, []), (.aload_n 1, 1, []), (.sipush 360, 3, []), (.iaload, 1, []), (.if_icmp .ge 28, 3, [49]), (.lload 5, 2, []), (.iload 7, 2, []), (.lshr, 1, []), (.lconst 1, 1, []), (.land, 1, []), (.lconst 1, 1, []), (.lcmp, 1, []), (.ifCond .ne 10, 3, [43]), (.aload_n 1, 1, []), (.iload 7, 2, []), (.iload_n 3, 1, []), (.invokestatic 293, 3, [600, 219, 3, 1, 2145, 2146, 0, 0])]
def kb_218_43 : List ab_Row := [(.iinc 7 1, 3, []), (.goto (-32), 3, [14])]
def kb_218_49 : List ab_Row := [(.lload 5, 2, []), (.lconst 0, 1, []), (.lcmp, 1, []), (.ifCond .eq 7, 3, [60]), (.iconst 1, 1, []), (.goto 4, 3, [61])]
def kb_218_60 : List ab_Row := [(.iconst 0, 1, [])]
def kb_218_61 : List ab_Row := [(.ireturn, 1, [])]
def kt_218 : List (Nat × List ab_Row) := [(0, kb_218_0), (14, kb_218_14), (43, kb_218_43), (49, kb_218_49), (60, kb_218_60), (61, kb_218_61)]
def km_218 : ab_Mi := ((⟨"SorryPursesModel", "paysAll", "([IIII)Z"⟩ : MethodName), prog_14_method_55_code, 8, (Option.some FieldType.boolean), [], [])
-- 219: SorryPursesModel.passes ([III)V
def kb_219_0 : List ab_Row := [(.aload_n 0, 1, []), (.iload_n 1, 1, []), (.iconst 1, 1, []), (.iload_n 2, 1, []), (.invokestatic 278, 3, [600, 281, 4, 1, 1829, 1830, 0, 0]), (.aload_n 0, 1, []), (.iload_n 1, 1, []), (.iconst 4, 1, []), (.aload_n 0, 1, []), (.iload_n 1, 1, []), (.iconst 4, 1, []), (.invokestatic 254, 3, [600, 135, 3, 1, 2142, 2143, 0, 0]), (.iconst 1, 1, []), (.iadd, 1, []), (.invokestatic 278, 3, [600, 281, 4, 1, 1829, 1830, 0, 0]), (.aload_n 0, 1, []), (.iload_n 1, 1, []), (.iconst 0, 1, []), (.invokestatic 254, 3, [600, 135, 3, 1, 2142, 2143, 0, 0]), (.iload_n 2, 1, []), (.if_icmp .ne 9, 3, [37]), (.aload_n 0, 1, []), (.iload_n 1, 1, []), (.iconst 3, 1, []), (.invokestatic 282, 3, [600, 223, 3, 1, 2148, 2149, 0, 0])]
def kb_219_37 : List ab_Row := [(.return_, 1, [])]
def kt_219 : List (Nat × List ab_Row) := [(0, kb_219_0), (37, kb_219_37)]
def km_219 : ab_Mi := ((⟨"SorryPursesModel", "passes", "([III)V"⟩ : MethodName), prog_14_method_50_code, 3, (Option.none : Option FieldType), [], [])
-- 220: SorryPursesModel.splits ([III)Z
def kb_220_0 : List ab_Row := [(.aload_n 0, 1, []), (.iload_n 1, 1, []), (.iconst 2, 1, []), (.invokestatic 254, 3, [600, 135, 3, 1, 2142, 2143, 0, 0]), (.iload_n 2, 1, []), (.if_icmp .le 13, 3, [20]), (.aload_n 0, 1, []), (.sipush 360, 3, []), (.iaload, 1, []), (.bipush 40, 2, []), (.if_icmp .ne 5, 3, [22])]
def kb_220_20 : List ab_Row := [(.iconst 0, 1, []), (.ireturn, 1, [])]
def kb_220_22 : List ab_Row := [(.aload_n 0, 1, []), (.sipush 360, 3, []), (.iaload, 1, []), (.istore_n 3, 1, []), (.aload_n 0, 1, []), (.sipush 360, 3, []), (.dup2, 1, []), (.iaload, 1, []), (.iconst 1, 1, []), (.iadd, 1, []), (.iastore, 1, []), (.iconst 0, 1, []), (.istore 4, 2, [])]
def kb_220_40 : List ab_Row := [(.iload 4, 2, []), (.bipush 9, 2, []), (.if_icmp .ge 23, 3, [67]), (.aload_n 0, 1, []), (.iload_n 3, 1, []), (.iload 4, 2, []), (.aload_n 0, 1, []), (.iload_n 1, 1, []), (.iload 4, 2, []), (.invokestatic 254, 3, [600, 135, 3, 1, 2142, 2143, 0, 0]), (.invokestatic 278, 3, [600, 281, 4, 1, 1829, 1830, 0, 0]), (.iinc 4 1, 3, []), (.goto (-24), 3, [40])]
def kb_220_67 : List ab_Row := [(.aload_n 0, 1, []), (.iload_n 3, 1, []), (.iconst 2, 1, []), (.aload_n 0, 1, []), (.iload_n 1, 1, []), (.iconst 2, 1, []), (.invokestatic 254, 3, [600, 135, 3, 1, 2142, 2143, 0, 0]), (.iload_n 2, 1, []), (.isub, 1, []), (.invokestatic 278, 3, [600, 281, 4, 1, 1829, 1830, 0, 0]), (.aload_n 0, 1, []), (.iload_n 1, 1, []), (.iconst 2, 1, []), (.iload_n 2, 1, []), (.invokestatic 278, 3, [600, 281, 4, 1, 1829, 1830, 0, 0]), (.iconst 1, 1, []), (.ireturn, 1, [])]
def kt_220 : List (Nat × List ab_Row) := [(0, kb_220_0), (20, kb_220_20), (22, kb_220_22), (40, kb_220_40), (67, kb_220_67)]
def km_220 : ab_Mi := ((⟨"SorryPursesModel", "splits", "([III)Z"⟩ : MethodName), prog_14_method_51_code, 5, (Option.some FieldType.boolean), [], [])
-- 221: SorryPursesModel.joins ([III)Z
def kb_221_0 : List ab_Row := [(.aload_n 0, 1, []), (.iload_n 2, 1, []), (.invokestatic 258, 3, [600, 144, 2, 1, 2139, 2140, 0, 0]), (.ifCond .eq 69, 3, [74]), (.aload_n 0, 1, []), (.iload_n 1, 1, []), (.iconst 0, 1, []), (.invokestatic 254, 3, [600, 135, 3, 1, 2142, 2143, 0, 0]), (.aload_n 0, 1, []), (.iload_n 2, 1, []), (.iconst 0, 1, []), (.invokestatic 254, 3, [600, 135, 3, 1, 2142, 2143, 0, 0]), (.if_icmp .ne 54, 3, [74]), (.aload_n 0, 1, []), (.iload_n 1, 1, []), (.iconst 1, 1, []), (.invokestatic 254, 3, [600, 135, 3, 1, 2142, 2143, 0, 0]), (.aload_n 0, 1, []), (.iload_n 2, 1, []), (.iconst 1, 1, []), (.invokestatic 254, 3, [600, 135, 3, 1, 2142, 2143, 0, 0]), (.if_icmp .ne 39, 3, [74]), (.aload_n 0, 1, []), (.iload_n 1, 1, []), (.bipush 6, 2, []), (.invokestatic 254, 3, [600, 135, 3, 1, 2142, 2143, 0, 0]), (.aload_n 0, 1, []), (.iload_n 2, 1, []), (.bipush 6, 2, []), (.invokestatic 254, 3, [600, 135, 3, 1, 2142, 2143, 0, 0]), (.if_icmp .ne 22, 3, [74]), (.aload_n 0, 1, []), (.iload_n 1, 1, []), (.iconst 2, 1, []), (.invokestatic 254, 3, [600, 135, 3, 1, 2142, 2143, 0, 0]), (.aload_n 0, 1, []), (.iload_n 2, 1, []), (.iconst 2, 1, []), (.invokestatic 254, 3, [600, 135, 3, 1, 2142, 2143, 0, 0]), (.iadd, 1, []), (.sipush 9999, 3, []), (.if_icmp .le 5, 3, [76])]
def kb_221_74 : List ab_Row := [(.iconst 0, 1, []), (.ireturn, 1, [])]
def kb_221_76 : List ab_Row := [(.aload_n 0, 1, []), (.iload_n 1, 1, []), (.iconst 2, 1, []), (.aload_n 0, 1, []), (.iload_n 1, 1, []), (.iconst 2, 1, []), (.invokestatic 254, 3, [600, 135, 3, 1, 2142, 2143, 0, 0]), (.aload_n 0, 1, []), (.iload_n 2, 1, []), (.iconst 2, 1, []), (.invokestatic 254, 3, [600, 135, 3, 1, 2142, 2143, 0, 0]), (.iadd, 1, []), (.invokestatic 278, 3, [600, 281, 4, 1, 1829, 1830, 0, 0]), (.aload_n 0, 1, []), (.iload_n 2, 1, []), (.iconst 4, 1, []), (.invokestatic 282, 3, [600, 223, 3, 1, 2148, 2149, 0, 0]), (.iconst 1, 1, []), (.ireturn, 1, [])]
def kt_221 : List (Nat × List ab_Row) := [(0, kb_221_0), (74, kb_221_74), (76, kb_221_76)]
def km_221 : ab_Mi := ((⟨"SorryPursesModel", "joins", "([III)Z"⟩ : MethodName), prog_14_method_52_code, 3, (Option.some FieldType.boolean), [], [])
-- 222: SorryPursesModel.tells ([II)Z
def kb_222_0 : List ab_Row := [(.aload_n 1, 1, []), (.iload_n 2, 1, []), (.bipush 8, 2, []), (.invokestatic 254, 3, [600, 135, 3, 1, 2142, 2143, 0, 0]), (.aload_n 1, 1, []), (.sipush 361, 3, []), (.iaload, 1, []), (.if_icmp .ne 5, 3, [17]), (.iconst 0, 1, []), (.ireturn, 1, [])]
def kb_222_17 : List ab_Row := [(.aload_n 0, 1, []), (.aload_n 1, 1, []), (.iload_n 2, 1, []), (.iconst 2, 1, []), (.invokestatic 254, 3, [600, 135, 3, 1, 2142, 2143, 0, 0]), (.invokevirtual 286, 3, [600, 270, 2, 0, 2161, 2163, 80, 12]), (.istore_n 3, 1, []), (.aload_n 1, 1, []), (.sipush 362, 3, []), (.dup2, 1, []), (.iaload, 1, []), (.iload_n 3, 1, []), (.aload_n 1, 1, []), (.iload_n 2, 1, []), (.iconst 2, 1, []), (.invokestatic 254, 3, [600, 135, 3, 1, 2142, 2143, 0, 0]), (.isub, 1, []), (.iadd, 1, []), (.iastore, 1, []), (.aload_n 1, 1, []), (.iload_n 2, 1, []), (.iconst 2, 1, []), (.iload_n 3, 1, []), (.invokestatic 278, 3, [600, 281, 4, 1, 1829, 1830, 0, 0]), (.aload_n 1, 1, []), (.iload_n 2, 1, []), (.iconst 5, 1, []), (.aload_n 1, 1, []), (.iload_n 2, 1, []), (.iconst 5, 1, []), (.invokestatic 254, 3, [600, 135, 3, 1, 2142, 2143, 0, 0]), (.iconst 1, 1, []), (.iadd, 1, []), (.invokestatic 278, 3, [600, 281, 4, 1, 1829, 1830, 0, 0]), (.aload_n 1, 1, []), (.iload_n 2, 1, []), (.bipush 8, 2, []), (.aload_n 1, 1, []), (.sipush 361, 3, []), (.iaload, 1, []), (.invokestatic 278, 3, [600, 281, 4, 1, 1829, 1830, 0, 0]), (.iconst 1, 1, []), (.ireturn, 1, [])]
def kt_222 : List (Nat × List ab_Row) := [(0, kb_222_0), (17, kb_222_17)]
def km_222 : ab_Mi := ((⟨"SorryPursesModel", "tells", "([II)Z"⟩ : MethodName), prog_14_method_54_code, 4, (Option.some FieldType.boolean), [], [])
-- 223: SorryPursesModel.gone ([III)V
def kb_223_0 : List ab_Row := [(.aload_n 0, 1, []), (.iload_n 1, 1, []), (.bipush 7, 2, []), (.iload_n 2, 1, []), (.invokestatic 278, 3, [600, 281, 4, 1, 1829, 1830, 0, 0]), (.iload_n 2, 1, []), (.iconst 4, 1, []), (.if_icmp .ge 19, 3, [29]), (.aload_n 0, 1, []), (.sipush 362, 3, []), (.iload_n 2, 1, []), (.iadd, 1, []), (.dup2, 1, []), (.iaload, 1, []), (.aload_n 0, 1, []), (.iload_n 1, 1, []), (.iconst 2, 1, []), (.invokestatic 254, 3, [600, 135, 3, 1, 2142, 2143, 0, 0]), (.iadd, 1, []), (.iastore, 1, [])]
def kb_223_29 : List ab_Row := [(.return_, 1, [])]
def kt_223 : List (Nat × List ab_Row) := [(0, kb_223_0), (29, kb_223_29)]
def km_223 : ab_Mi := ((⟨"SorryPursesModel", "gone", "([III)V"⟩ : MethodName), prog_14_method_49_code, 3, (Option.none : Option FieldType), [], [])
-- 224: SorryPurses$Book.read (LSorryPurses$Tape;I)V
def kb_224_0 : List ab_Row := [(.aload_n 0, 1, []), (.iconst 0, 1, []), (.putfield 43, 3, [0, 2, 250, 0]), (.iconst 0, 1, []), (.istore_n 3, 1, [])]
def kb_224_7 : List ab_Row := [(.iload_n 3, 1, []), (.bipush 8, 2, []), (.if_icmp .gt 22, 3, [32]), (.aload_n 1, 1, []), (.invokevirtual 47, 3, [600, 282, 1, 0, 1380, 1109, 1110, 9]), (.ifCond .eq 15, 3, [32]), (.aload_n 0, 1, []), (.aload_n 1, 1, []), (.iload_n 2, 1, []), (.invokevirtual 53, 3, [600, 294, 3, 0, 1381, 1383, 32, 0]), (.iinc 3 1, 3, []), (.goto (-22), 3, [7])]
def kb_224_32 : List ab_Row := [(.return_, 1, [])]
def kt_224 : List (Nat × List ab_Row) := [(0, kb_224_0), (7, kb_224_7), (32, kb_224_32)]
def km_224 : ab_Mi := ((⟨"SorryPurses$Book", "read", "(LSorryPurses$Tape;I)V"⟩ : MethodName), prog_2_method_2_code, 4, (Option.none : Option FieldType), [], [])
-- 225: SorryPurses$Book.copyFrom (LSorryPurses$Book;)V
def kb_225_0 : List ab_Row := [(.aload_n 1, 1, []), (.getfield 9, 3, [0, 0, 248]), (.iconst 0, 1, []), (.aload_n 0, 1, []), (.getfield 9, 3, [0, 0, 248]), (.iconst 0, 1, []), (.bipush 8, 2, []), (.invokestatic 79, 3, [1000, 1394, 231, 230, 107]), (.aload_n 1, 1, []), (.getfield 15, 3, [0, 1, 249]), (.iconst 0, 1, []), (.aload_n 0, 1, []), (.getfield 15, 3, [0, 1, 249]), (.iconst 0, 1, []), (.bipush 8, 2, []), (.invokestatic 79, 3, [1000, 1394, 231, 230, 107]), (.aload_n 0, 1, []), (.aload_n 1, 1, []), (.getfield 43, 3, [0, 2, 250]), (.putfield 43, 3, [0, 2, 250, 0]), (.return_, 1, [])]
def kt_225 : List (Nat × List ab_Row) := [(0, kb_225_0)]
def km_225 : ab_Mi := ((⟨"SorryPurses$Book", "copyFrom", "(LSorryPurses$Book;)V"⟩ : MethodName), prog_2_method_4_code, 2, (Option.none : Option FieldType), [], [])
-- 226: SorryPursesModel.isDigit (I)Z
def kb_226_0 : List ab_Row := [(.iload_n 0, 1, []), (.bipush 48, 2, []), (.if_icmp .lt 13, 3, [16]), (.iload_n 0, 1, []), (.bipush 57, 2, []), (.if_icmp .gt 7, 3, [16]), (.iconst 1, 1, []), (.goto 4, 3, [17])]
def kb_226_16 : List ab_Row := [(.iconst 0, 1, [])]
def kb_226_17 : List ab_Row := [(.ireturn, 1, [])]
def kt_226 : List (Nat × List ab_Row) := [(0, kb_226_0), (16, kb_226_16), (17, kb_226_17)]
def km_226 : ab_Mi := ((⟨"SorryPursesModel", "isDigit", "(I)Z"⟩ : MethodName), prog_14_method_12_code, 1, (Option.some FieldType.boolean), [], [])
-- 227: SorryPurses$History.fetch ([LSorryPurses$Ledger;ILSorryPurses$Ledger;)V
def kb_227_0 : List ab_Row := [(.iload_n 1, 1, []), (.ifCond .lt 22, 3, [23]), (.iload_n 1, 1, []), (.aload_n 0, 1, []), (.arraylength, 1, []), (.if_icmp .ge 16, 3, [23]), (.aload_n 0, 1, []), (.iload_n 1, 1, []), (.aaload, 1, []), (.ifnull 10, 3, [23]), (.aload_n 2, 1, []), (.aload_n 0, 1, []), (.iload_n 1, 1, []), (.aaload, 1, []), (.invokevirtual 45, 3, [600, 295, 2, 0, 567, 568, 569, 6])]
def kb_227_23 : List ab_Row := [(.return_, 1, [])]
def kt_227 : List (Nat × List ab_Row) := [(0, kb_227_0), (23, kb_227_23)]
def km_227 : ab_Mi := ((⟨"SorryPurses$History", "fetch", "([LSorryPurses$Ledger;ILSorryPurses$Ledger;)V"⟩ : MethodName), prog_5_method_8_code, 3, (Option.none : Option FieldType), [], [])
-- 228: SorryPurses.needArgument (Z)V
def kb_228_0 : List ab_Row := [(.iload_n 1, 1, []), (.ifCond .ne 24, 3, [25]), (.aload_n 0, 1, []), (.getfield 105, 3, [11, 14, 508]), (.iconst 1, 1, []), (.dup2, 1, []), (.iaload, 1, []), (.iconst 1, 1, []), (.iadd, 1, []), (.iastore, 1, []), (.new 392, 3, [500, 1, 2]), (.dup, 1, []), (.ldc_w 394, 3, [0, 0, 0]), (.invokespecial 396, 3, []), (.athrow, 1, [])]
def kb_228_25 : List ab_Row := [(.return_, 1, [])]
def kt_228 : List (Nat × List ab_Row) := [(0, kb_228_0), (25, kb_228_25)]
def km_228 : ab_Mi := ((⟨"SorryPurses", "needArgument", "(Z)V"⟩ : MethodName), prog_1_method_53_code, 2, (Option.none : Option FieldType), [], [])
-- 229: SorryPurses$Ledger.standing ()I
def kb_229_0 : List ab_Row := [(.iconst 0, 1, []), (.istore_n 1, 1, []), (.iconst 0, 1, []), (.istore_n 2, 1, [])]
def kb_229_4 : List ab_Row := [(.iload_n 2, 1, []), (.aload_n 0, 1, []), (.getfield 18, 3, [6, 2, 303]), (.if_icmp .ge 25, 3, [34]), (.iload_n 1, 1, []), (.aload_n 0, 1, []), (.iload_n 2, 1, []), (.invokevirtual 45, 3, [600, 263, 2, 0, 601, 585, 586, 6]), (.ifCond .eq 7, 3, [25]), (.iconst 1, 1, []), (.goto 4, 3, [26])]
def kb_229_25 : List ab_Row := [(.iconst 0, 1, [])]
def kb_229_26 : List ab_Row := [(.iadd, 1, []), (.istore_n 1, 1, []), (.iinc 2 1, 3, []), (.goto (-27), 3, [4])]
def kb_229_34 : List ab_Row := [(.iload_n 1, 1, []), (.ireturn, 1, [])]
def kt_229 : List (Nat × List ab_Row) := [(0, kb_229_0), (4, kb_229_4), (25, kb_229_25), (26, kb_229_26), (34, kb_229_34)]
def km_229 : ab_Mi := ((⟨"SorryPurses$Ledger", "standing", "()I"⟩ : MethodName), prog_8_method_16_code, 3, (Option.some FieldType.int), [], [])
-- 230: SorryPurses.needClaim (I)V
def kb_230_0 : List ab_Row := [(.iload_n 1, 1, []), (.ifCond .lt 14, 3, [15]), (.iload_n 1, 1, []), (.aload_n 0, 1, []), (.getfield 49, 3, [11, 7, 501]), (.getfield 163, 3, [6, 2, 305]), (.if_icmp .lt 24, 3, [36])]
def kb_230_15 : List ab_Row := [(.aload_n 0, 1, []), (.getfield 105, 3, [11, 14, 508]), (.iconst 0, 1, []), (.dup2, 1, []), (.iaload, 1, []), (.iconst 1, 1, []), (.iadd, 1, []), (.iastore, 1, []), (.new 383, 3, [500, 0, 1]), (.dup, 1, []), (.ldc_w 390, 3, [0, 0, 0]), (.invokespecial 387, 3, []), (.athrow, 1, [])]
def kb_230_36 : List ab_Row := [(.return_, 1, [])]
def kt_230 : List (Nat × List ab_Row) := [(0, kb_230_0), (15, kb_230_15), (36, kb_230_36)]
def km_230 : ab_Mi := ((⟨"SorryPurses", "needClaim", "(I)V"⟩ : MethodName), prog_1_method_52_code, 2, (Option.none : Option FieldType), [], [])
-- 231: SorryPurses$Ledger.get (II)I
def kb_231_0 : List ab_Row := [(.iload_n 1, 1, []), (.ifCond .lt 23, 3, [24]), (.iload_n 1, 1, []), (.bipush 9, 2, []), (.if_icmp .ge 17, 3, [24]), (.iload_n 2, 1, []), (.ifCond .lt 13, 3, [24]), (.iload_n 2, 1, []), (.bipush 40, 2, []), (.if_icmp .ge 7, 3, [24]), (.iconst 1, 1, []), (.goto 4, 3, [25])]
def kb_231_24 : List ab_Row := [(.iconst 0, 1, [])]
def kb_231_25 : List ab_Row := [(.istore_n 3, 1, []), (.iload_n 3, 1, []), (.ifCond .eq 17, 3, [44]), (.aload_n 0, 1, []), (.getfield 9, 3, [6, 0, 301]), (.iload_n 1, 1, []), (.bipush 40, 2, []), (.imul, 1, []), (.iload_n 2, 1, []), (.iadd, 1, []), (.iaload, 1, []), (.goto 4, 3, [45])]
def kb_231_44 : List ab_Row := [(.iconst 0, 1, [])]
def kb_231_45 : List ab_Row := [(.ireturn, 1, [])]
def kt_231 : List (Nat × List ab_Row) := [(0, kb_231_0), (24, kb_231_24), (25, kb_231_25), (44, kb_231_44), (45, kb_231_45)]
def km_231 : ab_Mi := ((⟨"SorryPurses$Ledger", "get", "(II)I"⟩ : MethodName), prog_8_method_4_code, 4, (Option.some FieldType.int), [], [])
-- 232: SorryPurses.needPerson (I)V
def kb_232_0 : List ab_Row := [(.iload_n 1, 1, []), (.ifCond .lt 14, 3, [15]), (.iload_n 1, 1, []), (.aload_n 0, 1, []), (.getfield 19, 3, [11, 1, 495]), (.getfield 181, 3, [10, 5, 194]), (.if_icmp .lt 24, 3, [36])]
def kb_232_15 : List ab_Row := [(.aload_n 0, 1, []), (.getfield 105, 3, [11, 14, 508]), (.iconst 0, 1, []), (.dup2, 1, []), (.iaload, 1, []), (.iconst 1, 1, []), (.iadd, 1, []), (.iastore, 1, []), (.new 383, 3, [500, 0, 0]), (.dup, 1, []), (.ldc_w 385, 3, [0, 0, 0]), (.invokespecial 387, 3, []), (.athrow, 1, [])]
def kb_232_36 : List ab_Row := [(.return_, 1, [])]
def kt_232 : List (Nat × List ab_Row) := [(0, kb_232_0), (15, kb_232_15), (36, kb_232_36)]
def km_232 : ab_Mi := ((⟨"SorryPurses", "needPerson", "(I)V"⟩ : MethodName), prog_1_method_51_code, 2, (Option.none : Option FieldType), [], [])
-- 233: SorryPurses$Town.temperOf (I)I
def kb_233_0 : List ab_Row := [(.iload_n 1, 1, []), (.ifCond .lt 21, 3, [22]), (.iload_n 1, 1, []), (.aload_n 0, 1, []), (.getfield 9, 3, [10, 0, 185]), (.arraylength, 1, []), (.if_icmp .ge 12, 3, [22]), (.aload_n 0, 1, []), (.getfield 9, 3, [10, 0, 185]), (.iload_n 1, 1, []), (.iaload, 1, []), (.goto 4, 3, [23])]
def kb_233_22 : List ab_Row := [(.iconst 0, 1, [])]
def kb_233_23 : List ab_Row := [(.ireturn, 1, [])]
def kt_233 : List (Nat × List ab_Row) := [(0, kb_233_0), (22, kb_233_22), (23, kb_233_23)]
def km_233 : ab_Mi := ((⟨"SorryPurses$Town", "temperOf", "(I)I"⟩ : MethodName), prog_12_method_8_code, 2, (Option.some FieldType.int), [], [])
-- 234: SorryPurses$Ledger.sorrows (II)I
def kb_234_0 : List ab_Row := [(.iconst 0, 1, []), (.istore_n 3, 1, []), (.iconst 0, 1, []), (.istore 4, 2, [])]
def kb_234_5 : List ab_Row := [(.iload 4, 2, []), (.aload_n 0, 1, []), (.getfield 18, 3, [6, 2, 303]), (.if_icmp .ge 43, 3, [54]), (.iload_n 3, 1, []), (.aload_n 0, 1, []), (.iload 4, 2, []), (.invokevirtual 45, 3, [600, 263, 2, 0, 601, 585, 586, 6]), (.ifCond .eq 24, 3, [45]), (.aload_n 0, 1, []), (.iload_n 1, 1, []), (.iload 4, 2, []), (.invokevirtual 37, 3, [600, 231, 3, 0, 588, 589, 590, 6]), (.iload_n 2, 1, []), (.if_icmp .ne 13, 3, [45]), (.aload_n 0, 1, []), (.iconst 2, 1, []), (.iload 4, 2, []), (.invokevirtual 37, 3, [600, 231, 3, 0, 588, 589, 590, 6]), (.goto 4, 3, [46])]
def kb_234_45 : List ab_Row := [(.iconst 0, 1, [])]
def kb_234_46 : List ab_Row := [(.iadd, 1, []), (.istore_n 3, 1, []), (.iinc 4 1, 3, []), (.goto (-46), 3, [5])]
def kb_234_54 : List ab_Row := [(.iload_n 3, 1, []), (.ireturn, 1, [])]
def kt_234 : List (Nat × List ab_Row) := [(0, kb_234_0), (5, kb_234_5), (45, kb_234_45), (46, kb_234_46), (54, kb_234_54)]
def km_234 : ab_Mi := ((⟨"SorryPurses$Ledger", "sorrows", "(II)I"⟩ : MethodName), prog_8_method_18_code, 5, (Option.some FieldType.int), [], [])
-- 235: SorryPurses$Ledger.howMany (II)I
def kb_235_0 : List ab_Row := [(.iconst 0, 1, []), (.istore_n 3, 1, []), (.iconst 0, 1, []), (.istore 4, 2, [])]
def kb_235_5 : List ab_Row := [(.iload 4, 2, []), (.aload_n 0, 1, []), (.getfield 18, 3, [6, 2, 303]), (.if_icmp .ge 37, 3, [48]), (.iload_n 3, 1, []), (.aload_n 0, 1, []), (.iload 4, 2, []), (.invokevirtual 45, 3, [600, 263, 2, 0, 601, 585, 586, 6]), (.ifCond .eq 18, 3, [39]), (.aload_n 0, 1, []), (.iload_n 1, 1, []), (.iload 4, 2, []), (.invokevirtual 37, 3, [600, 231, 3, 0, 588, 589, 590, 6]), (.iload_n 2, 1, []), (.if_icmp .ne 7, 3, [39]), (.iconst 1, 1, []), (.goto 4, 3, [40])]
def kb_235_39 : List ab_Row := [(.iconst 0, 1, [])]
def kb_235_40 : List ab_Row := [(.iadd, 1, []), (.istore_n 3, 1, []), (.iinc 4 1, 3, []), (.goto (-40), 3, [5])]
def kb_235_48 : List ab_Row := [(.iload_n 3, 1, []), (.ireturn, 1, [])]
def kt_235 : List (Nat × List ab_Row) := [(0, kb_235_0), (5, kb_235_5), (39, kb_235_39), (40, kb_235_40), (48, kb_235_48)]
def km_235 : ab_Mi := ((⟨"SorryPurses$Ledger", "howMany", "(II)I"⟩ : MethodName), prog_8_method_19_code, 5, (Option.some FieldType.int), [], [])
-- 236: SorryPurses$Ledger.standingSorrows ()I
def kb_236_0 : List ab_Row := [(.iconst 0, 1, []), (.istore_n 1, 1, []), (.iconst 0, 1, []), (.istore_n 2, 1, [])]
def kb_236_4 : List ab_Row := [(.iload_n 2, 1, []), (.aload_n 0, 1, []), (.getfield 18, 3, [6, 2, 303]), (.if_icmp .ge 30, 3, [39]), (.iload_n 1, 1, []), (.aload_n 0, 1, []), (.iload_n 2, 1, []), (.invokevirtual 45, 3, [600, 263, 2, 0, 601, 585, 586, 6]), (.ifCond .eq 12, 3, [30]), (.aload_n 0, 1, []), (.iconst 2, 1, []), (.iload_n 2, 1, []), (.invokevirtual 37, 3, [600, 231, 3, 0, 588, 589, 590, 6]), (.goto 4, 3, [31])]
def kb_236_30 : List ab_Row := [(.iconst 0, 1, [])]
def kb_236_31 : List ab_Row := [(.iadd, 1, []), (.istore_n 1, 1, []), (.iinc 2 1, 3, []), (.goto (-32), 3, [4])]
def kb_236_39 : List ab_Row := [(.iload_n 1, 1, []), (.ireturn, 1, [])]
def kt_236 : List (Nat × List ab_Row) := [(0, kb_236_0), (4, kb_236_4), (30, kb_236_30), (31, kb_236_31), (39, kb_236_39)]
def km_236 : ab_Mi := ((⟨"SorryPurses$Ledger", "standingSorrows", "()I"⟩ : MethodName), prog_8_method_17_code, 3, (Option.some FieldType.int), [], [])
-- 237: SorryPurses$Ledger.totalOf (I)I
def kb_237_0 : List ab_Row := [(.iload_n 1, 1, []), (.ifCond .lt 17, 3, [18]), (.iload_n 1, 1, []), (.iconst 5, 1, []), (.if_icmp .ge 12, 3, [18]), (.aload_n 0, 1, []), (.getfield 15, 3, [6, 1, 302]), (.iload_n 1, 1, []), (.iaload, 1, []), (.goto 4, 3, [19])]
def kb_237_18 : List ab_Row := [(.iconst 0, 1, [])]
def kb_237_19 : List ab_Row := [(.ireturn, 1, [])]
def kt_237 : List (Nat × List ab_Row) := [(0, kb_237_0), (18, kb_237_18), (19, kb_237_19)]
def km_237 : ab_Mi := ((⟨"SorryPurses$Ledger", "totalOf", "(I)I"⟩ : MethodName), prog_8_method_6_code, 2, (Option.some FieldType.int), [], [])
-- 238: SorryPurses$Ledger.owed (II)I
def kb_238_0 : List ab_Row := [(.iconst 0, 1, []), (.istore_n 3, 1, []), (.iconst 0, 1, []), (.istore 4, 2, [])]
def kb_238_5 : List ab_Row := [(.iload 4, 2, []), (.aload_n 0, 1, []), (.getfield 18, 3, [6, 2, 303]), (.if_icmp .ge 50, 3, [61]), (.aload_n 0, 1, []), (.iload 4, 2, []), (.invokevirtual 45, 3, [600, 263, 2, 0, 601, 585, 586, 6]), (.ifCond .eq 35, 3, [55]), (.aload_n 0, 1, []), (.iconst 0, 1, []), (.iload 4, 2, []), (.invokevirtual 37, 3, [600, 231, 3, 0, 588, 589, 590, 6]), (.iload_n 1, 1, []), (.if_icmp .ne 24, 3, [55]), (.aload_n 0, 1, []), (.iconst 1, 1, []), (.iload 4, 2, []), (.invokevirtual 37, 3, [600, 231, 3, 0, 588, 589, 590, 6]), (.iload_n 2, 1, []), (.if_icmp .ne 13, 3, [55]), (.iload_n 3, 1, []), (.aload_n 0, 1, []), (.iconst 2, 1, []), (.iload 4, 2, []), (.invokevirtual 37, 3, [600, 231, 3, 0, 588, 589, 590, 6]), (.iadd, 1, []), (.istore_n 3, 1, [])]
def kb_238_55 : List ab_Row := [(.iinc 4 1, 3, []), (.goto (-53), 3, [5])]
def kb_238_61 : List ab_Row := [(.iload_n 3, 1, []), (.ireturn, 1, [])]
def kt_238 : List (Nat × List ab_Row) := [(0, kb_238_0), (5, kb_238_5), (55, kb_238_55), (61, kb_238_61)]
def km_238 : ab_Mi := ((⟨"SorryPurses$Ledger", "owed", "(II)I"⟩ : MethodName), prog_8_method_20_code, 5, (Option.some FieldType.int), [], [])
-- 239: SorryPurses$Judge.weigh (I)I
def kb_239_0 : List ab_Row := [(.aload_n 0, 1, []), (.iload_n 1, 1, []), (.aload_n 0, 1, []), (.getfield 32, 3, [4, 2, 331]), (.iconst 1, 1, []), (.aload_n 0, 1, []), (.getfield 32, 3, [4, 2, 331]), (.iconst 1, 1, []), (.iload_n 1, 1, []), (.invokevirtual 36, 3, [600, 231, 3, 0, 596, 589, 590, 6]), (.invokevirtual 42, 3, [600, 235, 3, 0, 597, 598, 599, 6]), (.invokevirtual 45, 3, [600, 296, 3, 0, 602, 604, 0, 4]), (.ireturn, 1, [])]
def kt_239 : List (Nat × List ab_Row) := [(0, kb_239_0)]
def km_239 : ab_Mi := ((⟨"SorryPurses$Judge", "weigh", "(I)I"⟩ : MethodName), prog_6_method_2_code, 2, (Option.some FieldType.int), [], [])
-- 240: SorryPurses.isIn (III)Z
def kb_240_0 : List ab_Row := [(.iload_n 0, 1, []), (.iload_n 1, 1, []), (.if_icmp .lt 12, 3, [14]), (.iload_n 0, 1, []), (.iload_n 2, 1, []), (.if_icmp .gt 7, 3, [14]), (.iconst 1, 1, []), (.goto 4, 3, [15])]
def kb_240_14 : List ab_Row := [(.iconst 0, 1, [])]
def kb_240_15 : List ab_Row := [(.ireturn, 1, [])]
def kt_240 : List (Nat × List ab_Row) := [(0, kb_240_0), (14, kb_240_14), (15, kb_240_15)]
def km_240 : ab_Mi := ((⟨"SorryPurses", "isIn", "(III)Z"⟩ : MethodName), prog_1_method_48_code, 3, (Option.some FieldType.boolean), [], [])
-- 241: SorryPurses$Judge.imagine (IIIII)I
def kb_241_0 : List ab_Row := [(.aload_n 0, 1, []), (.getfield 11, 3, [4, 3, 332]), (.iconst 0, 1, []), (.iload_n 1, 1, []), (.iastore, 1, []), (.aload_n 0, 1, []), (.getfield 11, 3, [4, 3, 332]), (.iconst 1, 1, []), (.iload_n 2, 1, []), (.iastore, 1, []), (.aload_n 0, 1, []), (.getfield 11, 3, [4, 3, 332]), (.iconst 2, 1, []), (.iload_n 3, 1, []), (.iastore, 1, []), (.aload_n 0, 1, []), (.getfield 11, 3, [4, 3, 332]), (.iconst 3, 1, []), (.iload 4, 2, []), (.iastore, 1, []), (.aload_n 0, 1, []), (.getfield 11, 3, [4, 3, 332]), (.iconst 4, 1, []), (.iconst 0, 1, []), (.iastore, 1, []), (.aload_n 0, 1, []), (.getfield 11, 3, [4, 3, 332]), (.iconst 5, 1, []), (.iload 5, 2, []), (.iastore, 1, []), (.aload_n 0, 1, []), (.getfield 11, 3, [4, 3, 332]), (.bipush 6, 2, []), (.iconst 0, 1, []), (.iastore, 1, []), (.aload_n 0, 1, []), (.getfield 11, 3, [4, 3, 332]), (.bipush 7, 2, []), (.iconst 0, 1, []), (.iastore, 1, []), (.aload_n 0, 1, []), (.getfield 28, 3, [4, 1, 330]), (.aload_n 0, 1, []), (.getfield 11, 3, [4, 3, 332]), (.invokevirtual 57, 3, [600, 297, 2, 0, 610, 611, 612, 5]), (.ireturn, 1, [])]
def kt_241 : List (Nat × List ab_Row) := [(0, kb_241_0)]
def km_241 : ab_Mi := ((⟨"SorryPurses$Judge", "imagine", "(IIIII)I"⟩ : MethodName), prog_6_method_4_code, 6, (Option.some FieldType.int), [], [])
-- 242: SorryPursesModel.byLaw ()I
def kb_242_0 : List ab_Row := [(.aload_n 0, 1, []), (.getfield 198, 3, [12, 16, 1848]), (.ifCond .ne 22, 3, [26]), (.bipush 50, 2, []), (.iconst 5, 1, []), (.aload_n 0, 1, []), (.getfield 55, 3, [12, 24, 1856]), (.iconst 2, 1, []), (.iaload, 1, []), (.imul, 1, []), (.iadd, 1, []), (.aload_n 0, 1, []), (.getfield 55, 3, [12, 24, 1856]), (.iconst 5, 1, []), (.iaload, 1, []), (.isub, 1, []), (.ireturn, 1, [])]
def kb_242_26 : List ab_Row := [(.iconst 0, 1, []), (.istore_n 1, 1, []), (.iconst 0, 1, []), (.istore_n 2, 1, [])]
def kb_242_30 : List ab_Row := [(.iload_n 2, 1, []), (.aload_n 0, 1, []), (.getfield 198, 3, [12, 16, 1848]), (.if_icmp .ge 104, 3, [139]), (.aload_n 0, 1, []), (.getfield 37, 3, [12, 18, 1850]), (.iload_n 2, 1, []), (.aaload, 1, []), (.iconst 0, 1, []), (.iaload, 1, []), (.iconst 2, 1, []), (.if_icmp .ge 50, 3, [97]), (.aload_n 0, 1, []), (.getfield 52, 3, [12, 23, 1855]), (.iload_n 1, 1, []), (.aload_n 0, 1, []), (.getfield 37, 3, [12, 18, 1850]), (.iload_n 2, 1, []), (.aaload, 1, []), (.iconst 0, 1, []), (.iaload, 1, []), (.ifCond .ne 14, 3, [77]), (.aload_n 0, 1, []), (.getfield 37, 3, [12, 18, 1850]), (.iload_n 2, 1, []), (.aaload, 1, []), (.iconst 1, 1, []), (.iaload, 1, []), (.goto 16, 3, [90])]
def kb_242_77 : List ab_Row := [(.aload_n 0, 1, []), (.getfield 55, 3, [12, 24, 1856]), (.aload_n 0, 1, []), (.getfield 37, 3, [12, 18, 1850]), (.iload_n 2, 1, []), (.aaload, 1, []), (.iconst 1, 1, []), (.iaload, 1, []), (.iaload, 1, [])]
def kb_242_90 : List ab_Row := [(.iastore, 1, []), (.iinc 1 1, 3, []), (.goto 39, 3, [133])]
def kb_242_97 : List ab_Row := [(.iinc 1 (-1), 3, []), (.aload_n 0, 1, []), (.getfield 52, 3, [12, 23, 1855]), (.iload_n 1, 1, []), (.iconst 1, 1, []), (.isub, 1, []), (.aload_n 0, 1, []), (.getfield 37, 3, [12, 18, 1850]), (.iload_n 2, 1, []), (.aaload, 1, []), (.iconst 0, 1, []), (.iaload, 1, []), (.aload_n 0, 1, []), (.getfield 52, 3, [12, 23, 1855]), (.iload_n 1, 1, []), (.iconst 1, 1, []), (.isub, 1, []), (.iaload, 1, []), (.aload_n 0, 1, []), (.getfield 52, 3, [12, 23, 1855]), (.iload_n 1, 1, []), (.iaload, 1, []), (.invokestatic 247, 3, [600, 298, 3, 1, 2096, 2097, 0, 0]), (.iastore, 1, [])]
def kb_242_133 : List ab_Row := [(.iinc 2 1, 3, []), (.goto (-106), 3, [30])]
def kb_242_139 : List ab_Row := [(.aload_n 0, 1, []), (.getfield 52, 3, [12, 23, 1855]), (.iconst 0, 1, []), (.iaload, 1, []), (.ireturn, 1, [])]
def kt_242 : List (Nat × List ab_Row) := [(0, kb_242_0), (26, kb_242_26), (30, kb_242_30), (77, kb_242_77), (90, kb_242_90), (97, kb_242_97), (133, kb_242_133), (139, kb_242_139)]
def km_242 : ab_Mi := ((⟨"SorryPursesModel", "byLaw", "()I"⟩ : MethodName), prog_14_method_36_code, 3, (Option.some FieldType.int), [], [])
-- 243: SorryPurses$Judge.wouldPay (I)Z
def kb_243_0 : List ab_Row := [(.aload_n 0, 1, []), (.getfield 32, 3, [4, 2, 331]), (.iload_n 1, 1, []), (.invokevirtual 61, 3, [600, 263, 2, 0, 584, 585, 586, 6]), (.ifCond .eq 19, 3, [27]), (.aload_n 0, 1, []), (.iload_n 1, 1, []), (.invokevirtual 65, 3, [600, 239, 2, 0, 592, 593, 594, 4]), (.aload_n 0, 1, []), (.getfield 20, 3, [4, 5, 334]), (.if_icmp .lt 7, 3, [27]), (.iconst 1, 1, []), (.goto 4, 3, [28])]
def kb_243_27 : List ab_Row := [(.iconst 0, 1, [])]
def kb_243_28 : List ab_Row := [(.ireturn, 1, [])]
def kt_243 : List (Nat × List ab_Row) := [(0, kb_243_0), (27, kb_243_27), (28, kb_243_28)]
def km_243 : ab_Mi := ((⟨"SorryPurses$Judge", "wouldPay", "(I)Z"⟩ : MethodName), prog_6_method_5_code, 2, (Option.some FieldType.boolean), [], [])
-- 244: SorryPurses$Purse.fewest (III)J
def kb_244_0 : List ab_Row := [(.iload_n 3, 1, []), (.iconst 1, 1, []), (.if_icmp .lt 12, 3, [14]), (.iload_n 3, 1, []), (.aload_n 0, 1, []), (.getfield 15, 3, [8, 2, 357]), (.arraylength, 1, []), (.if_icmp .lt 5, 3, [16])]
def kb_244_14 : List ab_Row := [(.lconst 0, 1, []), (.lreturn, 1, [])]
def kb_244_16 : List ab_Row := [(.aload_n 0, 1, []), (.getfield 15, 3, [8, 2, 357]), (.iconst 0, 1, []), (.iload_n 3, 1, []), (.iconst 1, 1, []), (.iadd, 1, []), (.ldc2_w 22, 3, [1, 1, 1353]), (.invokestatic 24, 3, [600, 299, 4, 1, 1354, 1355, 0, 0]), (.aload_n 0, 1, []), (.getfield 15, 3, [8, 2, 357]), (.iconst 0, 1, []), (.lconst 0, 1, []), (.lastore, 1, []), (.aload_n 0, 1, []), (.getfield 18, 3, [8, 0, 355]), (.getfield 30, 3, [6, 2, 304]), (.iconst 1, 1, []), (.isub, 1, []), (.istore 4, 2, [])]
def kb_244_48 : List ab_Row := [(.iload 4, 2, []), (.ifCond .lt 78, 3, [128]), (.aload_n 0, 1, []), (.getfield 18, 3, [8, 0, 355]), (.iload 4, 2, []), (.invokevirtual 36, 3, [600, 263, 2, 0, 1357, 585, 586, 6]), (.ifCond .eq 35, 3, [97]), (.aload_n 0, 1, []), (.getfield 18, 3, [8, 0, 355]), (.iconst 1, 1, []), (.iload 4, 2, []), (.invokevirtual 40, 3, [600, 231, 3, 0, 1358, 589, 590, 6]), (.iload_n 1, 1, []), (.if_icmp .ne 21, 3, [97]), (.aload_n 0, 1, []), (.getfield 18, 3, [8, 0, 355]), (.iconst 0, 1, []), (.iload 4, 2, []), (.invokevirtual 40, 3, [600, 231, 3, 0, 1358, 589, 590, 6]), (.iload_n 2, 1, []), (.if_icmp .eq 7, 3, [97]), (.iconst 1, 1, []), (.goto 4, 3, [98])]
def kb_244_97 : List ab_Row := [(.iconst 0, 1, [])]
def kb_244_98 : List ab_Row := [(.istore 5, 2, []), (.iload 5, 2, []), (.ifCond .eq 20, 3, [122]), (.aload_n 0, 1, []), (.iload 4, 2, []), (.aload_n 0, 1, []), (.getfield 18, 3, [8, 0, 355]), (.iconst 2, 1, []), (.iload 4, 2, []), (.invokevirtual 40, 3, [600, 231, 3, 0, 1358, 589, 590, 6]), (.iload_n 3, 1, []), (.invokevirtual 44, 3, [600, 300, 4, 0, 1359, 1361, 30, 8])]
def kb_244_122 : List ab_Row := [(.iinc 4 (-1), 3, []), (.goto (-77), 3, [48])]
def kb_244_128 : List ab_Row := [(.aload_n 0, 1, []), (.getfield 15, 3, [8, 2, 357]), (.iload_n 3, 1, []), (.laload, 1, []), (.lconst 0, 1, []), (.lcmp, 1, []), (.ifCond .ge 7, 3, [143]), (.lconst 0, 1, []), (.goto 13, 3, [153])]
def kb_244_143 : List ab_Row := [(.aload_n 0, 1, []), (.getfield 15, 3, [8, 2, 357]), (.iload_n 3, 1, []), (.laload, 1, []), (.ldc2_w 48, 3, [0, 1099511627775, 1364]), (.land, 1, [])]
def kb_244_153 : List ab_Row := [(.lreturn, 1, [])]
def kt_244 : List (Nat × List ab_Row) := [(0, kb_244_0), (14, kb_244_14), (16, kb_244_16), (48, kb_244_48), (97, kb_244_97), (98, kb_244_98), (122, kb_244_122), (128, kb_244_128), (143, kb_244_143), (153, kb_244_153)]
def km_244 : ab_Mi := ((⟨"SorryPurses$Purse", "fewest", "(III)J"⟩ : MethodName), prog_10_method_2_code, 6, (Option.some FieldType.long), [], [])
-- 245: SorryPursesModel.mayPay ([IIII)Z
def kb_245_0 : List ab_Row := [(.aload_n 0, 1, []), (.iload_n 1, 1, []), (.invokestatic 258, 3, [600, 144, 2, 1, 2139, 2140, 0, 0]), (.ifCond .eq 27, 3, [32]), (.aload_n 0, 1, []), (.iload_n 1, 1, []), (.iconst 1, 1, []), (.invokestatic 254, 3, [600, 135, 3, 1, 2142, 2143, 0, 0]), (.iload_n 2, 1, []), (.if_icmp .ne 17, 3, [32]), (.aload_n 0, 1, []), (.iload_n 1, 1, []), (.iconst 0, 1, []), (.invokestatic 254, 3, [600, 135, 3, 1, 2142, 2143, 0, 0]), (.iload_n 3, 1, []), (.if_icmp .eq 7, 3, [32]), (.iconst 1, 1, []), (.goto 4, 3, [33])]
def kb_245_32 : List ab_Row := [(.iconst 0, 1, [])]
def kb_245_33 : List ab_Row := [(.ireturn, 1, [])]
def kt_245 : List (Nat × List ab_Row) := [(0, kb_245_0), (32, kb_245_32), (33, kb_245_33)]
def km_245 : ab_Mi := ((⟨"SorryPursesModel", "mayPay", "([IIII)Z"⟩ : MethodName), prog_14_method_78_code, 4, (Option.some FieldType.boolean), [], [])
-- 246: SorryPurses$Purse.leastFrom (II)I
def kb_246_0 : List ab_Row := [(.aload_n 0, 1, []), (.iload_n 1, 1, []), (.invokevirtual 64, 3, [600, 301, 2, 0, 1527, 1529, 35, 8]), (.istore_n 3, 1, []), (.iload_n 2, 1, []), (.istore 4, 2, [])]
def kb_246_9 : List ab_Row := [(.iload 4, 2, []), (.sipush 20032, 3, []), (.if_icmp .ge 27, 3, [41]), (.iload 4, 2, []), (.iload_n 3, 1, []), (.if_icmp .gt 21, 3, [41]), (.aload_n 0, 1, []), (.iload 4, 2, []), (.invokevirtual 68, 3, [600, 302, 2, 0, 1539, 1541, 37, 8]), (.ifCond .eq 6, 3, [35]), (.iload 4, 2, []), (.ireturn, 1, [])]
def kb_246_35 : List ab_Row := [(.iinc 4 1, 3, []), (.goto (-29), 3, [9])]
def kb_246_41 : List ab_Row := [(.iconst (-1), 1, []), (.ireturn, 1, [])]
def kt_246 : List (Nat × List ab_Row) := [(0, kb_246_0), (9, kb_246_9), (35, kb_246_35), (41, kb_246_41)]
def km_246 : ab_Mi := ((⟨"SorryPurses$Purse", "leastFrom", "(II)I"⟩ : MethodName), prog_10_method_7_code, 5, (Option.some FieldType.int), [], [])
-- 247: SorryPurses$Purse.howManySums (I)I
def kb_247_0 : List ab_Row := [(.aload_n 0, 1, []), (.iload_n 1, 1, []), (.invokevirtual 64, 3, [600, 301, 2, 0, 1527, 1529, 35, 8]), (.istore_n 2, 1, []), (.iconst 0, 1, []), (.istore_n 3, 1, []), (.iconst 1, 1, []), (.istore 4, 2, [])]
def kb_247_11 : List ab_Row := [(.iload 4, 2, []), (.sipush 9999, 3, []), (.if_icmp .gt 32, 3, [48]), (.iload 4, 2, []), (.iload_n 2, 1, []), (.if_icmp .gt 26, 3, [48]), (.iload_n 3, 1, []), (.aload_n 0, 1, []), (.iload 4, 2, []), (.invokevirtual 68, 3, [600, 302, 2, 0, 1539, 1541, 37, 8]), (.ifCond .eq 7, 3, [39]), (.iconst 1, 1, []), (.goto 4, 3, [40])]
def kb_247_39 : List ab_Row := [(.iconst 0, 1, [])]
def kb_247_40 : List ab_Row := [(.iadd, 1, []), (.istore_n 3, 1, []), (.iinc 4 1, 3, []), (.goto (-34), 3, [11])]
def kb_247_48 : List ab_Row := [(.iload_n 3, 1, []), (.ireturn, 1, [])]
def kt_247 : List (Nat × List ab_Row) := [(0, kb_247_0), (11, kb_247_11), (39, kb_247_39), (40, kb_247_40), (48, kb_247_48)]
def km_247 : ab_Mi := ((⟨"SorryPurses$Purse", "howManySums", "(I)I"⟩ : MethodName), prog_10_method_9_code, 5, (Option.some FieldType.int), [], [])
-- 248: SorryPurses$Crowd.unevenPeople ()I
def kb_248_0 : List ab_Row := [(.aload_n 0, 1, []), (.getfield 42, 3, [1, 6, 407]), (.invokestatic 46, 3, [600, 303, 1, 1, 1565, 1566, 0, 0]), (.ireturn, 1, [])]
def kt_248 : List (Nat × List ab_Row) := [(0, kb_248_0)]
def km_248 : ab_Mi := ((⟨"SorryPurses$Crowd", "unevenPeople", "()I"⟩ : MethodName), prog_3_method_2_code, 1, (Option.some FieldType.int), [], [])
-- 249: SorryPurses$Crowd.weighSet (I)V
def kb_249_0 : List ab_Row := [(.iload_n 1, 1, []), (.iload_n 1, 1, []), (.ineg, 1, []), (.iand, 1, []), (.istore_n 2, 1, []), (.iload_n 1, 1, []), (.iload_n 2, 1, []), (.ixor, 1, []), (.istore_n 3, 1, []), (.aload_n 0, 1, []), (.getfield 11, 3, [1, 3, 404]), (.iload_n 1, 1, []), (.aload_n 0, 1, []), (.getfield 11, 3, [1, 3, 404]), (.iload_n 2, 1, []), (.iaload, 1, []), (.aload_n 0, 1, []), (.getfield 11, 3, [1, 3, 404]), (.iload_n 3, 1, []), (.iaload, 1, []), (.iadd, 1, []), (.iastore, 1, []), (.aload_n 0, 1, []), (.getfield 15, 3, [1, 4, 405]), (.iload_n 1, 1, []), (.iconst 0, 1, []), (.iastore, 1, []), (.aload_n 0, 1, []), (.getfield 11, 3, [1, 3, 404]), (.iload_n 1, 1, []), (.iaload, 1, []), (.ifCond .eq 4, 3, [45]), (.return_, 1, [])]
def kb_249_45 : List ab_Row := [(.iload_n 2, 1, []), (.istore 4, 2, [])]
def kb_249_48 : List ab_Row := [(.iload 4, 2, []), (.iload_n 1, 1, []), (.if_icmp .gt 45, 3, [96]), (.aload_n 0, 1, []), (.iload 4, 2, []), (.iload_n 1, 1, []), (.invokevirtual 73, 3, [600, 304, 3, 0, 643, 645, 2, 1]), (.ifCond .eq 29, 3, [90]), (.aload_n 0, 1, []), (.getfield 15, 3, [1, 4, 405]), (.iload_n 1, 1, []), (.aload_n 0, 1, []), (.getfield 15, 3, [1, 4, 405]), (.iload_n 1, 1, []), (.iaload, 1, []), (.iconst 1, 1, []), (.aload_n 0, 1, []), (.getfield 15, 3, [1, 4, 405]), (.iload_n 1, 1, []), (.iload 4, 2, []), (.ixor, 1, []), (.iaload, 1, []), (.iadd, 1, []), (.invokestatic 77, 3, [711, 647, 621, 121, 622]), (.iastore, 1, [])]
def kb_249_90 : List ab_Row := [(.iinc 4 1, 3, []), (.goto (-45), 3, [48])]
def kb_249_96 : List ab_Row := [(.return_, 1, [])]
def kt_249 : List (Nat × List ab_Row) := [(0, kb_249_0), (45, kb_249_45), (48, kb_249_48), (90, kb_249_90), (96, kb_249_96)]
def km_249 : ab_Mi := ((⟨"SorryPurses$Crowd", "weighSet", "(I)V"⟩ : MethodName), prog_3_method_5_code, 5, (Option.none : Option FieldType), [], [])
-- 250: SorryPurses$Crowd.listGroups ()V
def kb_250_0 : List ab_Row := [(.aload_n 0, 1, []), (.iconst 0, 1, []), (.putfield 52, 3, [1, 7, 408, 0]), (.aload_n 0, 1, []), (.getfield 42, 3, [1, 6, 407]), (.istore_n 1, 1, []), (.iconst 0, 1, []), (.istore_n 2, 1, [])]
def kb_250_12 : List ab_Row := [(.iload_n 2, 1, []), (.bipush 8, 2, []), (.if_icmp .ge 40, 3, [55]), (.iload_n 1, 1, []), (.ifCond .eq 36, 3, [55]), (.aload_n 0, 1, []), (.iload_n 1, 1, []), (.invokevirtual 83, 3, [600, 305, 2, 0, 652, 654, 4, 1]), (.istore_n 3, 1, []), (.aload_n 0, 1, []), (.getfield 18, 3, [1, 5, 406]), (.iload_n 2, 1, []), (.iload_n 3, 1, []), (.iastore, 1, []), (.aload_n 0, 1, []), (.dup, 1, []), (.getfield 52, 3, [1, 7, 408]), (.iconst 1, 1, []), (.iadd, 1, []), (.putfield 52, 3, [1, 7, 408, 0]), (.iload_n 1, 1, []), (.iload_n 3, 1, []), (.ixor, 1, []), (.istore_n 1, 1, []), (.iinc 2 1, 3, []), (.goto (-40), 3, [12])]
def kb_250_55 : List ab_Row := [(.return_, 1, [])]
def kt_250 : List (Nat × List ab_Row) := [(0, kb_250_0), (12, kb_250_12), (55, kb_250_55)]
def km_250 : ab_Mi := ((⟨"SorryPurses$Crowd", "listGroups", "()V"⟩ : MethodName), prog_3_method_7_code, 4, (Option.none : Option FieldType), [], [])
-- 251: SorryPurses$Crowd.gatherOffers ()V
def kb_251_0 : List ab_Row := [(.aload_n 0, 1, []), (.getfield 21, 3, [1, 8, 410]), (.iconst (-1), 1, []), (.invokestatic 104, 3, [600, 306, 2, 1, 672, 673, 0, 0]), (.iconst 0, 1, []), (.istore_n 1, 1, [])]
def kb_251_10 : List ab_Row := [(.iload_n 1, 1, []), (.aload_n 0, 1, []), (.getfield 34, 3, [1, 1, 402]), (.getfield 107, 3, [6, 2, 308]), (.if_icmp .ge 85, 3, [103]), (.aload_n 0, 1, []), (.getfield 34, 3, [1, 1, 402]), (.iconst 0, 1, []), (.iload_n 1, 1, []), (.invokevirtual 110, 3, [600, 231, 3, 0, 675, 589, 590, 6]), (.bipush 8, 2, []), (.imul, 1, []), (.aload_n 0, 1, []), (.getfield 34, 3, [1, 1, 402]), (.iconst 1, 1, []), (.iload_n 1, 1, []), (.invokevirtual 110, 3, [600, 231, 3, 0, 675, 589, 590, 6]), (.iadd, 1, []), (.istore_n 2, 1, []), (.iload_n 2, 1, []), (.ifCond .lt 52, 3, [97]), (.iload_n 2, 1, []), (.aload_n 0, 1, []), (.getfield 21, 3, [1, 8, 410]), (.arraylength, 1, []), (.if_icmp .ge 43, 3, [97]), (.aload_n 0, 1, []), (.getfield 38, 3, [1, 2, 403]), (.iload_n 1, 1, []), (.invokevirtual 113, 3, [600, 243, 2, 0, 676, 581, 582, 4]), (.ifCond .eq 32, 3, [97]), (.aload_n 0, 1, []), (.getfield 34, 3, [1, 1, 402]), (.iconst 2, 1, []), (.iload_n 1, 1, []), (.invokevirtual 110, 3, [600, 231, 3, 0, 675, 589, 590, 6]), (.aload_n 0, 1, []), (.aload_n 0, 1, []), (.getfield 21, 3, [1, 8, 410]), (.iload_n 2, 1, []), (.iaload, 1, []), (.invokevirtual 119, 3, [600, 307, 2, 0, 677, 679, 6, 1]), (.if_icmp .le 10, 3, [97]), (.aload_n 0, 1, []), (.getfield 21, 3, [1, 8, 410]), (.iload_n 2, 1, []), (.iload_n 1, 1, []), (.iastore, 1, [])]
def kb_251_97 : List ab_Row := [(.iinc 1 1, 3, []), (.goto (-90), 3, [10])]
def kb_251_103 : List ab_Row := [(.return_, 1, [])]
def kt_251 : List (Nat × List ab_Row) := [(0, kb_251_0), (10, kb_251_10), (97, kb_251_97), (103, kb_251_103)]
def km_251 : ab_Mi := ((⟨"SorryPurses$Crowd", "gatherOffers", "()V"⟩ : MethodName), prog_3_method_12_code, 3, (Option.none : Option FieldType), [], [])
-- 252: SorryPurses.isIn (III)Z
def kb_252_0 : List ab_Row := [(.iload_n 0, 1, []), (.iload_n 1, 1, []), (.if_icmp .lt 12, 3, [14]), (.iload_n 0, 1, []), (.iload_n 2, 1, []), (.if_icmp .gt 7, 3, [14]), (.iconst 1, 1, []), (.goto 4, 3, [15])]
def kb_252_14 : List ab_Row := [(.iconst 0, 1, [])]
def kb_252_15 : List ab_Row := [(.ireturn, 1, [])]
def kt_252 : List (Nat × List ab_Row) := [(0, kb_252_0), (14, kb_252_14), (15, kb_252_15)]
def km_252 : ab_Mi := ((⟨"SorryPurses", "isIn", "(III)Z"⟩ : MethodName), prog_1_method_48_code, 3, (Option.some FieldType.boolean), [], [])
-- 253: java/util/Arrays.fill ([IIII)V
def kb_253_0 : List ab_Row := [(.aload_n 0, 1, []), (.arraylength, 1, []), (.iload_n 1, 1, []), (.iload_n 2, 1, []), (.invokestatic 13, 3, [600, 308, 3, 1, 685, 686, 0, 0]), (.iload_n 1, 1, []), (.istore 4, 2, [])]
def kb_253_10 : List ab_Row := [(.iload 4, 2, []), (.iload_n 2, 1, []), (.if_icmp .ge 14, 3, [27]), (.aload_n 0, 1, []), (.iload 4, 2, []), (.iload_n 3, 1, []), (.iastore, 1, []), (.iinc 4 1, 3, []), (.goto (-14), 3, [10])]
def kb_253_27 : List ab_Row := [(.return_, 1, [])]
def kt_253 : List (Nat × List ab_Row) := [(0, kb_253_0), (10, kb_253_10), (27, kb_253_27)]
def km_253 : ab_Mi := ((⟨"java/util/Arrays", "fill", "([IIII)V"⟩ : MethodName), prog_36_method_104_code, 5, (Option.none : Option FieldType), [], [])
-- 254: SorryPurses$Crowd.mostFrom (II)I
def kb_254_0 : List ab_Row := [(.aload_n 0, 1, []), (.getfield 27, 3, [1, 10, 412]), (.iload_n 1, 1, []), (.iconst 1, 1, []), (.iadd, 1, []), (.sipush 256, 3, []), (.imul, 1, []), (.iload_n 2, 1, []), (.iadd, 1, []), (.iaload, 1, []), (.istore_n 3, 1, []), (.iconst 0, 1, []), (.istore 4, 2, [])]
def kb_254_18 : List ab_Row := [(.iload 4, 2, []), (.bipush 8, 2, []), (.if_icmp .ge 47, 3, [69]), (.aload_n 0, 1, []), (.getfield 21, 3, [1, 8, 410]), (.iload_n 1, 1, []), (.bipush 8, 2, []), (.imul, 1, []), (.iload 4, 2, []), (.iadd, 1, []), (.iaload, 1, []), (.iconst (-1), 1, []), (.if_icmp .eq 25, 3, [63]), (.iload_n 2, 1, []), (.iload 4, 2, []), (.ishr, 1, []), (.iconst 1, 1, []), (.iand, 1, []), (.ifCond .ne 16, 3, [63]), (.iload_n 3, 1, []), (.aload_n 0, 1, []), (.iload_n 1, 1, []), (.iload 4, 2, []), (.iload_n 2, 1, []), (.invokevirtual 122, 3, [600, 309, 4, 0, 992, 994, 9, 1]), (.invokestatic 77, 3, [711, 647, 621, 121, 622]), (.istore_n 3, 1, [])]
def kb_254_63 : List ab_Row := [(.iinc 4 1, 3, []), (.goto (-48), 3, [18])]
def kb_254_69 : List ab_Row := [(.iload_n 3, 1, []), (.ireturn, 1, [])]
def kt_254 : List (Nat × List ab_Row) := [(0, kb_254_0), (18, kb_254_18), (63, kb_254_63), (69, kb_254_69)]
def km_254 : ab_Mi := ((⟨"SorryPurses$Crowd", "mostFrom", "(II)I"⟩ : MethodName), prog_3_method_14_code, 5, (Option.some FieldType.int), [], [])
-- 255: SorryPurses$Crowd.chooseWay (I)V
def kb_255_0 : List ab_Row := [(.aload_n 0, 1, []), (.getfield 24, 3, [1, 9, 411]), (.iconst (-1), 1, []), (.invokestatic 104, 3, [600, 306, 2, 1, 672, 673, 0, 0]), (.iconst 0, 1, []), (.istore_n 2, 1, []), (.iconst 0, 1, []), (.istore_n 3, 1, [])]
def kb_255_12 : List ab_Row := [(.iload_n 3, 1, []), (.iload_n 1, 1, []), (.if_icmp .ge 48, 3, [62]), (.aload_n 0, 1, []), (.iload_n 3, 1, []), (.iload_n 2, 1, []), (.invokevirtual 126, 3, [600, 310, 3, 0, 1000, 1002, 11, 1]), (.istore 4, 2, []), (.iload 4, 2, []), (.iconst (-1), 1, []), (.if_icmp .eq 28, 3, [56]), (.aload_n 0, 1, []), (.getfield 24, 3, [1, 9, 411]), (.iload_n 3, 1, []), (.aload_n 0, 1, []), (.getfield 21, 3, [1, 8, 410]), (.iload_n 3, 1, []), (.bipush 8, 2, []), (.imul, 1, []), (.iload 4, 2, []), (.iadd, 1, []), (.iaload, 1, []), (.iastore, 1, []), (.iload_n 2, 1, []), (.iconst 1, 1, []), (.iload 4, 2, []), (.ishl, 1, []), (.ior, 1, []), (.istore_n 2, 1, [])]
def kb_255_56 : List ab_Row := [(.iinc 3 1, 3, []), (.goto (-47), 3, [12])]
def kb_255_62 : List ab_Row := [(.return_, 1, [])]
def kt_255 : List (Nat × List ab_Row) := [(0, kb_255_0), (12, kb_255_12), (56, kb_255_56), (62, kb_255_62)]
def km_255 : ab_Mi := ((⟨"SorryPurses$Crowd", "chooseWay", "(I)V"⟩ : MethodName), prog_3_method_16_code, 5, (Option.none : Option FieldType), [], [])
-- 256: SorryPursesModel.bestOf (II)I
def kb_256_0 : List ab_Row := [(.iconst (-1), 1, []), (.istore_n 3, 1, []), (.iconst 0, 1, []), (.istore 4, 2, [])]
def kb_256_5 : List ab_Row := [(.iload 4, 2, []), (.aload_n 0, 1, []), (.getfield 58, 3, [12, 25, 1857]), (.sipush 360, 3, []), (.iaload, 1, []), (.if_icmp .ge 88, 3, [103]), (.aload_n 0, 1, []), (.getfield 58, 3, [12, 25, 1857]), (.iload 4, 2, []), (.invokestatic 258, 3, [600, 144, 2, 1, 2139, 2140, 0, 0]), (.ifCond .eq 70, 3, [97]), (.aload_n 0, 1, []), (.getfield 58, 3, [12, 25, 1857]), (.iload 4, 2, []), (.iconst 0, 1, []), (.invokestatic 254, 3, [600, 135, 3, 1, 2142, 2143, 0, 0]), (.iload_n 1, 1, []), (.if_icmp .ne 56, 3, [97]), (.aload_n 0, 1, []), (.getfield 58, 3, [12, 25, 1857]), (.iload 4, 2, []), (.iconst 1, 1, []), (.invokestatic 254, 3, [600, 135, 3, 1, 2142, 2143, 0, 0]), (.iload_n 2, 1, []), (.if_icmp .ne 42, 3, [97]), (.aload_n 0, 1, []), (.iload 4, 2, []), (.invokevirtual 345, 3, [600, 150, 2, 0, 2242, 2244, 87, 12]), (.ifCond .eq 33, 3, [97]), (.iload_n 3, 1, []), (.iconst (-1), 1, []), (.if_icmp .eq 25, 3, [94]), (.aload_n 0, 1, []), (.getfield 58, 3, [12, 25, 1857]), (.iload 4, 2, []), (.iconst 2, 1, []), (.invokestatic 254, 3, [600, 135, 3, 1, 2142, 2143, 0, 0]), (.aload_n 0, 1, []), (.getfield 58, 3, [12, 25, 1857]), (.iload_n 3, 1, []), (.iconst 2, 1, []), (.invokestatic 254, 3, [600, 135, 3, 1, 2142, 2143, 0, 0]), (.if_icmp .le 6, 3, [97])]
def kb_256_94 : List ab_Row := [(.iload 4, 2, []), (.istore_n 3, 1, [])]
def kb_256_97 : List ab_Row := [(.iinc 4 1, 3, []), (.goto (-95), 3, [5])]
def kb_256_103 : List ab_Row := [(.iload_n 3, 1, []), (.ireturn, 1, [])]
def kt_256 : List (Nat × List ab_Row) := [(0, kb_256_0), (5, kb_256_5), (94, kb_256_94), (97, kb_256_97), (103, kb_256_103)]
def km_256 : ab_Mi := ((⟨"SorryPursesModel", "bestOf", "(II)I"⟩ : MethodName), prog_14_method_90_code, 5, (Option.some FieldType.int), [], [])
-- 257: SorryPurses$Crowd.saidBy (I)I
def kb_257_0 : List ab_Row := [(.iload_n 1, 1, []), (.ifCond .lt 18, 3, [19]), (.iload_n 1, 1, []), (.bipush 8, 2, []), (.if_icmp .ge 12, 3, [19]), (.aload_n 0, 1, []), (.getfield 24, 3, [1, 9, 411]), (.iload_n 1, 1, []), (.iaload, 1, []), (.goto 4, 3, [20])]
def kb_257_19 : List ab_Row := [(.iconst (-1), 1, [])]
def kb_257_20 : List ab_Row := [(.ireturn, 1, [])]
def kt_257 : List (Nat × List ab_Row) := [(0, kb_257_0), (19, kb_257_19), (20, kb_257_20)]
def km_257 : ab_Mi := ((⟨"SorryPurses$Crowd", "saidBy", "(I)I"⟩ : MethodName), prog_3_method_10_code, 2, (Option.some FieldType.int), [], [])
-- 258: SorryPurses.needState (Z)V
def kb_258_0 : List ab_Row := [(.iload_n 1, 1, []), (.ifCond .ne 24, 3, [25]), (.aload_n 0, 1, []), (.getfield 105, 3, [11, 14, 508]), (.iconst 2, 1, []), (.dup2, 1, []), (.iaload, 1, []), (.iconst 1, 1, []), (.iadd, 1, []), (.iastore, 1, []), (.new 397, 3, [500, 2, 3]), (.dup, 1, []), (.ldc_w 399, 3, [0, 0, 0]), (.invokespecial 401, 3, []), (.athrow, 1, [])]
def kb_258_25 : List ab_Row := [(.return_, 1, [])]
def kt_258 : List (Nat × List ab_Row) := [(0, kb_258_0), (25, kb_258_25)]
def km_258 : ab_Mi := ((⟨"SorryPurses", "needState", "(Z)V"⟩ : MethodName), prog_1_method_54_code, 2, (Option.none : Option FieldType), [], [])
-- 259: SorryPurses$Book.seekFalse (LSorryPurses$Ledger;)V
def kb_259_0 : List ab_Row := [(.aload_n 0, 1, []), (.bipush 17, 2, []), (.putfield 91, 3, [0, 12, 261, 0]), (.aload_n 0, 1, []), (.lconst 0, 1, []), (.putfield 94, 3, [0, 13, 263, 0]), (.aload_n 0, 1, []), (.aload_n 1, 1, []), (.invokevirtual 98, 3, [600, 311, 2, 0, 1614, 1616, 39, 0]), (.aload_n 0, 1, []), (.aload_n 1, 1, []), (.invokevirtual 102, 3, [600, 312, 2, 0, 1620, 1622, 40, 0]), (.ifCond .ne 4, 3, [25]), (.return_, 1, [])]
def kb_259_25 : List ab_Row := [(.aload_n 0, 1, []), (.invokevirtual 106, 3, [600, 313, 1, 0, 1625, 1627, 41, 0]), (.iconst 0, 1, []), (.istore_n 2, 1, [])]
def kb_259_31 : List ab_Row := [(.iload_n 2, 1, []), (.bipush 8, 2, []), (.if_icmp .ge 22, 3, [56]), (.aload_n 0, 1, []), (.aload_n 0, 1, []), (.getfield 109, 3, [0, 7, 256]), (.iload_n 2, 1, []), (.invokevirtual 112, 3, [600, 314, 3, 0, 1630, 1632, 42, 0]), (.ifCond .ne 4, 3, [50]), (.return_, 1, [])]
def kb_259_50 : List ab_Row := [(.iinc 2 1, 3, []), (.goto (-22), 3, [31])]
def kb_259_56 : List ab_Row := [(.aload_n 0, 1, []), (.aload_n 0, 1, []), (.getfield 109, 3, [0, 7, 256]), (.iconst 0, 1, []), (.lconst 0, 1, []), (.invokestatic 116, 3, [600, 315, 4, 1, 1635, 1636, 0, 0]), (.return_, 1, [])]
def kt_259 : List (Nat × List ab_Row) := [(0, kb_259_0), (25, kb_259_25), (31, kb_259_31), (50, kb_259_50), (56, kb_259_56)]
def km_259 : ab_Mi := ((⟨"SorryPurses$Book", "seekFalse", "(LSorryPurses$Ledger;)V"⟩ : MethodName), prog_2_method_7_code, 3, (Option.none : Option FieldType), [], [])
-- 260: SorryPurses$Book.hasFound ()Z
def kb_260_0 : List ab_Row := [(.aload_n 0, 1, []), (.getfield 91, 3, [0, 12, 261]), (.bipush 16, 2, []), (.if_icmp .gt 7, 3, [13]), (.iconst 1, 1, []), (.goto 4, 3, [14])]
def kb_260_13 : List ab_Row := [(.iconst 0, 1, [])]
def kb_260_14 : List ab_Row := [(.ireturn, 1, [])]
def kt_260 : List (Nat × List ab_Row) := [(0, kb_260_0), (13, kb_260_13), (14, kb_260_14)]
def km_260 : ab_Mi := ((⟨"SorryPurses$Book", "hasFound", "()Z"⟩ : MethodName), prog_2_method_6_code, 1, (Option.some FieldType.boolean), [], [])
-- 261: SorryPurses$Judge.weighAll ()V
def kb_261_0 : List ab_Row := [(.iconst 0, 1, []), (.istore_n 1, 1, [])]
def kb_261_2 : List ab_Row := [(.iload_n 1, 1, []), (.aload_n 0, 1, []), (.getfield 17, 3, [4, 4, 333]), (.arraylength, 1, []), (.if_icmp .ge 35, 3, [43]), (.aload_n 0, 1, []), (.getfield 17, 3, [4, 4, 333]), (.iload_n 1, 1, []), (.aload_n 0, 1, []), (.getfield 32, 3, [4, 2, 331]), (.iload_n 1, 1, []), (.invokevirtual 61, 3, [600, 263, 2, 0, 584, 585, 586, 6]), (.ifCond .eq 11, 3, [35]), (.aload_n 0, 1, []), (.iload_n 1, 1, []), (.invokevirtual 65, 3, [600, 239, 2, 0, 592, 593, 594, 4]), (.goto 4, 3, [36])]
def kb_261_35 : List ab_Row := [(.iconst (-1), 1, [])]
def kb_261_36 : List ab_Row := [(.iastore, 1, []), (.iinc 1 1, 3, []), (.goto (-38), 3, [2])]
def kb_261_43 : List ab_Row := [(.return_, 1, [])]
def kt_261 : List (Nat × List ab_Row) := [(0, kb_261_0), (2, kb_261_2), (35, kb_261_35), (36, kb_261_36), (43, kb_261_43)]
def km_261 : ab_Mi := ((⟨"SorryPurses$Judge", "weighAll", "()V"⟩ : MethodName), prog_6_method_9_code, 2, (Option.none : Option FieldType), [], [])
-- 262: SorryPurses$Judge.errorsAt (II)I
def kb_262_0 : List ab_Row := [(.iconst 0, 1, []), (.istore_n 3, 1, []), (.iconst 0, 1, []), (.istore 4, 2, [])]
def kb_262_5 : List ab_Row := [(.iload 4, 2, []), (.aload_n 0, 1, []), (.getfield 17, 3, [4, 4, 333]), (.arraylength, 1, []), (.if_icmp .ge 84, 3, [96]), (.aload_n 0, 1, []), (.getfield 17, 3, [4, 4, 333]), (.iload 4, 2, []), (.iaload, 1, []), (.iconst (-1), 1, []), (.if_icmp .eq 22, 3, [45]), (.aload_n 0, 1, []), (.getfield 32, 3, [4, 2, 331]), (.bipush 6, 2, []), (.iload 4, 2, []), (.invokevirtual 36, 3, [600, 231, 3, 0, 596, 589, 590, 6]), (.iload_n 2, 1, []), (.if_icmp .ne 7, 3, [45]), (.iconst 1, 1, []), (.goto 4, 3, [46])]
def kb_262_45 : List ab_Row := [(.iconst 0, 1, [])]
def kb_262_46 : List ab_Row := [(.istore 5, 2, []), (.iload_n 3, 1, []), (.iload 5, 2, []), (.ifCond .eq 36, 3, [87]), (.aload_n 0, 1, []), (.getfield 17, 3, [4, 4, 333]), (.iload 4, 2, []), (.iaload, 1, []), (.iload_n 1, 1, []), (.if_icmp .ge 7, 3, [69]), (.iconst 1, 1, []), (.goto 4, 3, [70])]
def kb_262_69 : List ab_Row := [(.iconst 0, 1, [])]
def kb_262_70 : List ab_Row := [(.iload_n 2, 1, []), (.iconst 1, 1, []), (.if_icmp .ne 7, 3, [79]), (.iconst 1, 1, []), (.goto 4, 3, [80])]
def kb_262_79 : List ab_Row := [(.iconst 0, 1, [])]
def kb_262_80 : List ab_Row := [(.if_icmp .ne 7, 3, [87]), (.iconst 1, 1, []), (.goto 4, 3, [88])]
def kb_262_87 : List ab_Row := [(.iconst 0, 1, [])]
def kb_262_88 : List ab_Row := [(.iadd, 1, []), (.istore_n 3, 1, []), (.iinc 4 1, 3, []), (.goto (-88), 3, [5])]
def kb_262_96 : List ab_Row := [(.iload_n 3, 1, []), (.ireturn, 1, [])]
def kt_262 : List (Nat × List ab_Row) := [(0, kb_262_0), (5, kb_262_5), (45, kb_262_45), (46, kb_262_46), (69, kb_262_69), (70, kb_262_70), (79, kb_262_79), (80, kb_262_80), (87, kb_262_87), (88, kb_262_88), (96, kb_262_96)]
def km_262 : ab_Mi := ((⟨"SorryPurses$Judge", "errorsAt", "(II)I"⟩ : MethodName), prog_6_method_10_code, 6, (Option.some FieldType.int), [], [])
-- 263: SorryPurses$Ledger.isStanding (I)Z
def kb_263_0 : List ab_Row := [(.iload_n 1, 1, []), (.ifCond .lt 25, 3, [26]), (.iload_n 1, 1, []), (.aload_n 0, 1, []), (.getfield 18, 3, [6, 2, 303]), (.if_icmp .ge 17, 3, [26]), (.aload_n 0, 1, []), (.bipush 7, 2, []), (.iload_n 1, 1, []), (.invokevirtual 37, 3, [600, 231, 3, 0, 588, 589, 590, 6]), (.ifCond .ne 7, 3, [26]), (.iconst 1, 1, []), (.goto 4, 3, [27])]
def kb_263_26 : List ab_Row := [(.iconst 0, 1, [])]
def kb_263_27 : List ab_Row := [(.ireturn, 1, [])]
def kt_263 : List (Nat × List ab_Row) := [(0, kb_263_0), (26, kb_263_26), (27, kb_263_27)]
def km_263 : ab_Mi := ((⟨"SorryPurses$Ledger", "isStanding", "(I)Z"⟩ : MethodName), prog_8_method_7_code, 2, (Option.some FieldType.boolean), [], [])
-- 264: SorryPurses$Ledger.sizeAfter (III)I
def kb_264_0 : List ab_Row := [(.aload_n 0, 1, []), (.iconst 2, 1, []), (.iload_n 1, 1, []), (.invokevirtual 37, 3, [600, 231, 3, 0, 588, 589, 590, 6]), (.istore 4, 2, []), (.iconst 0, 1, []), (.istore 5, 2, [])]
def kb_264_11 : List ab_Row := [(.iload 5, 2, []), (.iload_n 2, 1, []), (.if_icmp .ge 39, 3, [53]), (.iload 4, 2, []), (.sipush 9999, 3, []), (.if_icmp .ge 31, 3, [53]), (.sipush 9999, 3, []), (.iload 4, 2, []), (.iconst 1, 1, []), (.iload 4, 2, []), (.iload_n 3, 1, []), (.imul, 1, []), (.bipush 100, 2, []), (.idiv, 1, []), (.invokestatic 57, 3, [711, 1045, 621, 121, 622]), (.iadd, 1, []), (.invokestatic 62, 3, [710, 1046, 618, 121, 619]), (.istore 4, 2, []), (.iinc 5 1, 3, []), (.goto (-39), 3, [11])]
def kb_264_53 : List ab_Row := [(.iload 4, 2, []), (.ireturn, 1, [])]
def kt_264 : List (Nat × List ab_Row) := [(0, kb_264_0), (11, kb_264_11), (53, kb_264_53)]
def km_264 : ab_Mi := ((⟨"SorryPurses$Ledger", "sizeAfter", "(III)I"⟩ : MethodName), prog_8_method_14_code, 6, (Option.some FieldType.int), [], [])
-- 265: SorryPurses$Ledger.extremePerson (II)I
def kb_265_0 : List ab_Row := [(.iconst (-1), 1, []), (.istore_n 3, 1, []), (.iconst 0, 1, []), (.istore 4, 2, []), (.iconst 0, 1, []), (.istore 5, 2, [])]
def kb_265_8 : List ab_Row := [(.iload 5, 2, []), (.iload_n 1, 1, []), (.if_icmp .ge 39, 3, [50]), (.iload_n 2, 1, []), (.aload_n 0, 1, []), (.iload 5, 2, []), (.iconst 0, 1, []), (.invokevirtual 68, 3, [600, 186, 3, 0, 1688, 632, 633, 6]), (.imul, 1, []), (.istore 6, 2, []), (.iload_n 3, 1, []), (.iconst (-1), 1, []), (.if_icmp .eq 10, 3, [37]), (.iload 6, 2, []), (.iload 4, 2, []), (.if_icmp .le 10, 3, [44])]
def kb_265_37 : List ab_Row := [(.iload 5, 2, []), (.istore_n 3, 1, []), (.iload 6, 2, []), (.istore 4, 2, [])]
def kb_265_44 : List ab_Row := [(.iinc 5 1, 3, []), (.goto (-39), 3, [8])]
def kb_265_50 : List ab_Row := [(.iload_n 3, 1, []), (.ireturn, 1, [])]
def kt_265 : List (Nat × List ab_Row) := [(0, kb_265_0), (8, kb_265_8), (37, kb_265_37), (44, kb_265_44), (50, kb_265_50)]
def km_265 : ab_Mi := ((⟨"SorryPurses$Ledger", "extremePerson", "(II)I"⟩ : MethodName), prog_8_method_23_code, 7, (Option.some FieldType.int), [], [])
-- 266: SorryPurses$Ledger.oldest ()I
def kb_266_0 : List ab_Row := [(.iconst (-1), 1, []), (.istore_n 1, 1, []), (.iconst 0, 1, []), (.istore_n 2, 1, [])]
def kb_266_4 : List ab_Row := [(.iload_n 2, 1, []), (.aload_n 0, 1, []), (.getfield 18, 3, [6, 2, 303]), (.if_icmp .ge 39, 3, [48]), (.aload_n 0, 1, []), (.iload_n 2, 1, []), (.invokevirtual 45, 3, [600, 263, 2, 0, 601, 585, 586, 6]), (.ifCond .eq 25, 3, [42]), (.iload_n 1, 1, []), (.iconst (-1), 1, []), (.if_icmp .eq 18, 3, [40]), (.aload_n 0, 1, []), (.iconst 3, 1, []), (.iload_n 2, 1, []), (.invokevirtual 37, 3, [600, 231, 3, 0, 588, 589, 590, 6]), (.aload_n 0, 1, []), (.iconst 3, 1, []), (.iload_n 1, 1, []), (.invokevirtual 37, 3, [600, 231, 3, 0, 588, 589, 590, 6]), (.if_icmp .ge 5, 3, [42])]
def kb_266_40 : List ab_Row := [(.iload_n 2, 1, []), (.istore_n 1, 1, [])]
def kb_266_42 : List ab_Row := [(.iinc 2 1, 3, []), (.goto (-41), 3, [4])]
def kb_266_48 : List ab_Row := [(.iload_n 1, 1, []), (.ireturn, 1, [])]
def kt_266 : List (Nat × List ab_Row) := [(0, kb_266_0), (4, kb_266_4), (40, kb_266_40), (42, kb_266_42), (48, kb_266_48)]
def km_266 : ab_Mi := ((⟨"SorryPurses$Ledger", "oldest", "()I"⟩ : MethodName), prog_8_method_24_code, 3, (Option.some FieldType.int), [], [])
-- 267: SorryPurses$Judge.sweetest ()I
def kb_267_0 : List ab_Row := [(.iconst (-1), 1, []), (.istore_n 1, 1, []), (.iconst (-1), 1, []), (.istore_n 2, 1, []), (.iconst 0, 1, []), (.istore_n 3, 1, [])]
def kb_267_6 : List ab_Row := [(.iload_n 3, 1, []), (.aload_n 0, 1, []), (.getfield 32, 3, [4, 2, 331]), (.getfield 68, 3, [6, 2, 306]), (.if_icmp .ge 42, 3, [56]), (.aload_n 0, 1, []), (.getfield 32, 3, [4, 2, 331]), (.iload_n 3, 1, []), (.invokevirtual 61, 3, [600, 263, 2, 0, 584, 585, 586, 6]), (.ifCond .eq 11, 3, [36]), (.aload_n 0, 1, []), (.iload_n 3, 1, []), (.invokevirtual 65, 3, [600, 239, 2, 0, 592, 593, 594, 4]), (.goto 4, 3, [37])]
def kb_267_36 : List ab_Row := [(.iconst (-1), 1, [])]
def kb_267_37 : List ab_Row := [(.istore 4, 2, []), (.iload 4, 2, []), (.iload_n 2, 1, []), (.if_icmp .le 8, 3, [50]), (.iload_n 3, 1, []), (.istore_n 1, 1, []), (.iload 4, 2, []), (.istore_n 2, 1, [])]
def kb_267_50 : List ab_Row := [(.iinc 3 1, 3, []), (.goto (-47), 3, [6])]
def kb_267_56 : List ab_Row := [(.iload_n 1, 1, []), (.ireturn, 1, [])]
def kt_267 : List (Nat × List ab_Row) := [(0, kb_267_0), (6, kb_267_6), (36, kb_267_36), (37, kb_267_37), (50, kb_267_50), (56, kb_267_56)]
def km_267 : ab_Mi := ((⟨"SorryPurses$Judge", "sweetest", "()I"⟩ : MethodName), prog_6_method_8_code, 5, (Option.some FieldType.int), [], [])
-- 268: SorryPurses$Judge.hearAll (I)I
def kb_268_0 : List ab_Row := [(.aload_n 0, 1, []), (.getfield 32, 3, [4, 2, 331]), (.iconst 1, 1, []), (.iload_n 1, 1, []), (.invokevirtual 42, 3, [600, 235, 3, 0, 597, 598, 599, 6]), (.istore_n 2, 1, []), (.iconst 0, 1, []), (.istore_n 3, 1, []), (.iconst 0, 1, []), (.istore 4, 2, [])]
def kb_268_15 : List ab_Row := [(.iload 4, 2, []), (.aload_n 0, 1, []), (.getfield 32, 3, [4, 2, 331]), (.getfield 68, 3, [6, 2, 306]), (.if_icmp .ge 65, 3, [89]), (.aload_n 0, 1, []), (.getfield 32, 3, [4, 2, 331]), (.iload 4, 2, []), (.invokevirtual 61, 3, [600, 263, 2, 0, 584, 585, 586, 6]), (.ifCond .eq 47, 3, [83]), (.aload_n 0, 1, []), (.getfield 32, 3, [4, 2, 331]), (.iconst 1, 1, []), (.iload 4, 2, []), (.invokevirtual 36, 3, [600, 231, 3, 0, 596, 589, 590, 6]), (.iload_n 1, 1, []), (.if_icmp .ne 33, 3, [83]), (.aload_n 0, 1, []), (.iload 4, 2, []), (.iload_n 2, 1, []), (.invokevirtual 45, 3, [600, 296, 3, 0, 602, 604, 0, 4]), (.aload_n 0, 1, []), (.getfield 20, 3, [4, 5, 334]), (.if_icmp .lt 19, 3, [83]), (.iload_n 3, 1, []), (.aload_n 0, 1, []), (.getfield 32, 3, [4, 2, 331]), (.iconst 2, 1, []), (.iload 4, 2, []), (.invokevirtual 36, 3, [600, 231, 3, 0, 596, 589, 590, 6]), (.iadd, 1, []), (.istore_n 3, 1, []), (.iinc 2 (-1), 3, [])]
def kb_268_83 : List ab_Row := [(.iinc 4 1, 3, []), (.goto (-71), 3, [15])]
def kb_268_89 : List ab_Row := [(.iload_n 3, 1, []), (.ireturn, 1, [])]
def kt_268 : List (Nat × List ab_Row) := [(0, kb_268_0), (15, kb_268_15), (83, kb_268_83), (89, kb_268_89)]
def km_268 : ab_Mi := ((⟨"SorryPurses$Judge", "hearAll", "(I)I"⟩ : MethodName), prog_6_method_7_code, 5, (Option.some FieldType.int), [], [])
-- 269: SorryPurses$Purse.mostUpTo (II)I
def kb_269_0 : List ab_Row := [(.aload_n 0, 1, []), (.iload_n 1, 1, []), (.invokevirtual 64, 3, [600, 301, 2, 0, 1527, 1529, 35, 8]), (.pop, 1, []), (.iload_n 2, 1, []), (.istore_n 3, 1, [])]
def kb_269_8 : List ab_Row := [(.iload_n 3, 1, []), (.ifCond .le 19, 3, [28]), (.aload_n 0, 1, []), (.iload_n 3, 1, []), (.invokevirtual 68, 3, [600, 302, 2, 0, 1539, 1541, 37, 8]), (.ifCond .eq 5, 3, [22]), (.iload_n 3, 1, []), (.ireturn, 1, [])]
def kb_269_22 : List ab_Row := [(.iinc 3 (-1), 3, []), (.goto (-17), 3, [8])]
def kb_269_28 : List ab_Row := [(.iconst 0, 1, []), (.ireturn, 1, [])]
def kt_269 : List (Nat × List ab_Row) := [(0, kb_269_0), (8, kb_269_8), (22, kb_269_22), (28, kb_269_28)]
def km_269 : ab_Mi := ((⟨"SorryPurses$Purse", "mostUpTo", "(II)I"⟩ : MethodName), prog_10_method_8_code, 4, (Option.some FieldType.int), [], [])
-- 270: SorryPursesModel.grownOnce (I)I
def kb_270_0 : List ab_Row := [(.sipush 9999, 3, []), (.iload_n 1, 1, []), (.iconst 1, 1, []), (.iload_n 1, 1, []), (.aload_n 0, 1, []), (.getfield 23, 3, [12, 12, 1844]), (.iconst 2, 1, []), (.iaload, 1, []), (.imul, 1, []), (.bipush 100, 2, []), (.idiv, 1, []), (.invokestatic 244, 3, [600, 193, 2, 1, 2102, 2103, 0, 0]), (.iadd, 1, []), (.invokestatic 241, 3, [600, 192, 2, 1, 2099, 2100, 0, 0]), (.ireturn, 1, [])]
def kt_270 : List (Nat × List ab_Row) := [(0, kb_270_0)]
def km_270 : ab_Mi := ((⟨"SorryPursesModel", "grownOnce", "(I)I"⟩ : MethodName), prog_14_method_53_code, 2, (Option.some FieldType.int), [], [])
-- 271: SorryPurses$Ledger.share (II)I
def kb_271_0 : List ab_Row := [(.aload_n 0, 1, []), (.iconst 2, 1, []), (.iload_n 1, 1, []), (.invokevirtual 37, 3, [600, 231, 3, 0, 588, 589, 590, 6]), (.istore_n 3, 1, []), (.aload_n 0, 1, []), (.iconst 1, 1, []), (.iload_n 1, 1, []), (.invokevirtual 37, 3, [600, 231, 3, 0, 588, 589, 590, 6]), (.iload_n 2, 1, []), (.if_icmp .ne 7, 3, [21]), (.iload_n 3, 1, []), (.goto 4, 3, [22])]
def kb_271_21 : List ab_Row := [(.iconst 0, 1, [])]
def kb_271_22 : List ab_Row := [(.aload_n 0, 1, []), (.iconst 0, 1, []), (.iload_n 1, 1, []), (.invokevirtual 37, 3, [600, 231, 3, 0, 588, 589, 590, 6]), (.iload_n 2, 1, []), (.if_icmp .ne 7, 3, [36]), (.iload_n 3, 1, []), (.goto 4, 3, [37])]
def kb_271_36 : List ab_Row := [(.iconst 0, 1, [])]
def kb_271_37 : List ab_Row := [(.isub, 1, []), (.ireturn, 1, [])]
def kt_271 : List (Nat × List ab_Row) := [(0, kb_271_0), (21, kb_271_21), (22, kb_271_22), (36, kb_271_36), (37, kb_271_37)]
def km_271 : ab_Mi := ((⟨"SorryPurses$Ledger", "share", "(II)I"⟩ : MethodName), prog_8_method_22_code, 4, (Option.some FieldType.int), [], [])
-- 272: SorryPurses$Ledger.madeAgo (I)J
def kb_272_0 : List ab_Row := [(.lconst 0, 1, []), (.lstore_n 2, 1, []), (.iconst 0, 1, []), (.istore 4, 2, [])]
def kb_272_5 : List ab_Row := [(.iload 4, 2, []), (.aload_n 0, 1, []), (.getfield 18, 3, [6, 2, 303]), (.if_icmp .ge 41, 3, [52]), (.aload_n 0, 1, []), (.iload 4, 2, []), (.invokevirtual 45, 3, [600, 263, 2, 0, 601, 585, 586, 6]), (.ifCond .eq 26, 3, [46]), (.aload_n 0, 1, []), (.getfield 22, 3, [6, 3, 309]), (.aload_n 0, 1, []), (.iconst 3, 1, []), (.iload 4, 2, []), (.invokevirtual 37, 3, [600, 231, 3, 0, 588, 589, 590, 6]), (.isub, 1, []), (.iload_n 1, 1, []), (.if_icmp .lt 10, 3, [46]), (.lload_n 2, 1, []), (.lconst 1, 1, []), (.iload 4, 2, []), (.lshl, 1, []), (.lor, 1, []), (.lstore_n 2, 1, [])]
def kb_272_46 : List ab_Row := [(.iinc 4 1, 3, []), (.goto (-44), 3, [5])]
def kb_272_52 : List ab_Row := [(.lload_n 2, 1, []), (.lreturn, 1, [])]
def kt_272 : List (Nat × List ab_Row) := [(0, kb_272_0), (5, kb_272_5), (46, kb_272_46), (52, kb_272_52)]
def km_272 : ab_Mi := ((⟨"SorryPurses$Ledger", "madeAgo", "(I)J"⟩ : MethodName), prog_8_method_26_code, 5, (Option.some FieldType.long), [], [])
-- 273: SorryPurses.needMonth (III)V
def kb_273_0 : List ab_Row := [(.aload_n 0, 1, []), (.iload_n 1, 1, []), (.iconst 1, 1, []), (.bipush 30, 2, []), (.invokestatic 245, 3, [600, 240, 3, 1, 1501, 1502, 0, 0]), (.ifCond .eq 27, 3, [35]), (.iload_n 2, 1, []), (.iconst 0, 1, []), (.bipush 16, 2, []), (.invokestatic 245, 3, [600, 240, 3, 1, 1501, 1502, 0, 0]), (.ifCond .eq 17, 3, [35]), (.iload_n 3, 1, []), (.iconst 0, 1, []), (.bipush 16, 2, []), (.invokestatic 245, 3, [600, 240, 3, 1, 1501, 1502, 0, 0]), (.ifCond .eq 7, 3, [35]), (.iconst 1, 1, []), (.goto 4, 3, [36])]
def kb_273_35 : List ab_Row := [(.iconst 0, 1, [])]
def kb_273_36 : List ab_Row := [(.invokevirtual 196, 3, [600, 228, 2, 0, 1092, 1094, 13, 11]), (.return_, 1, [])]
def kt_273 : List (Nat × List ab_Row) := [(0, kb_273_0), (35, kb_273_35), (36, kb_273_36)]
def km_273 : ab_Mi := ((⟨"SorryPurses", "needMonth", "(III)V"⟩ : MethodName), prog_1_method_50_code, 4, (Option.none : Option FieldType), [], [])
-- 274: SorryPurses$Months.run (IIII)V
def kb_274_0 : List ab_Row := [(.aload_n 0, 1, []), (.getfield 12, 3, [7, 2, 446]), (.aload_n 0, 1, []), (.getfield 22, 3, [7, 1, 445]), (.invokevirtual 25, 3, [600, 295, 2, 0, 1775, 568, 569, 6]), (.aload_n 0, 1, []), (.iload_n 1, 1, []), (.putfield 29, 3, [7, 3, 448, 0]), (.aload_n 0, 1, []), (.iconst 0, 1, []), (.putfield 33, 3, [7, 4, 449, 0]), (.iconst 0, 1, []), (.istore 5, 2, [])]
def kb_274_24 : List ab_Row := [(.iload 5, 2, []), (.iload_n 2, 1, []), (.if_icmp .ge 85, 3, [112]), (.aload_n 0, 1, []), (.getfield 12, 3, [7, 2, 446]), (.dup, 1, []), (.getfield 36, 3, [6, 3, 310]), (.iconst 1, 1, []), (.iadd, 1, []), (.putfield 36, 3, [6, 3, 310, 1]), (.iconst 0, 1, []), (.istore 6, 2, [])]
def kb_274_46 : List ab_Row := [(.iload 6, 2, []), (.aload_n 0, 1, []), (.getfield 18, 3, [7, 0, 444]), (.getfield 39, 3, [10, 5, 191]), (.if_icmp .ge 36, 3, [91]), (.aload_n 0, 1, []), (.bipush 16, 2, []), (.invokevirtual 44, 3, [600, 316, 2, 0, 1776, 1778, 45, 7]), (.iload_n 3, 1, []), (.if_icmp .ge 20, 3, [85]), (.aload_n 0, 1, []), (.getfield 18, 3, [7, 0, 444]), (.getfield 39, 3, [10, 5, 191]), (.iconst 1, 1, []), (.if_icmp .le 9, 3, [85]), (.aload_n 0, 1, []), (.iload 6, 2, []), (.invokevirtual 48, 3, [600, 317, 2, 0, 1781, 1783, 46, 7])]
def kb_274_85 : List ab_Row := [(.iinc 6 1, 3, []), (.goto (-42), 3, [46])]
def kb_274_91 : List ab_Row := [(.aload_n 0, 1, []), (.bipush 16, 2, []), (.invokevirtual 44, 3, [600, 316, 2, 0, 1776, 1778, 45, 7]), (.iload 4, 2, []), (.if_icmp .ge 7, 3, [106]), (.aload_n 0, 1, []), (.invokevirtual 52, 3, [600, 318, 1, 0, 1786, 1788, 47, 7])]
def kb_274_106 : List ab_Row := [(.iinc 5 1, 3, []), (.goto (-85), 3, [24])]
def kb_274_112 : List ab_Row := [(.return_, 1, [])]
def kt_274 : List (Nat × List ab_Row) := [(0, kb_274_0), (24, kb_274_24), (46, kb_274_46), (85, kb_274_85), (91, kb_274_91), (106, kb_274_106), (112, kb_274_112)]
def km_274 : ab_Mi := ((⟨"SorryPurses$Months", "run", "(IIII)V"⟩ : MethodName), prog_9_method_2_code, 7, (Option.none : Option FieldType), [], [])
-- 275: SorryPurses$Months.richest ()I
def kb_275_0 : List ab_Row := [(.aload_n 0, 1, []), (.getfield 12, 3, [7, 2, 446]), (.aload_n 0, 1, []), (.getfield 18, 3, [7, 0, 444]), (.getfield 39, 3, [10, 5, 191]), (.iconst 1, 1, []), (.invokevirtual 55, 3, [600, 265, 3, 0, 1800, 1685, 1686, 6]), (.ireturn, 1, [])]
def kt_275 : List (Nat × List ab_Row) := [(0, kb_275_0)]
def km_275 : ab_Mi := ((⟨"SorryPurses$Months", "richest", "()I"⟩ : MethodName), prog_9_method_3_code, 1, (Option.some FieldType.int), [], [])
-- 276: SorryPursesModel.draw (I)I
def kb_276_0 : List ab_Row := [(.aload_n 0, 1, []), (.aload_n 0, 1, []), (.getfield 385, 3, [12, 43, 1875]), (.ldc_w 388, 3, [0, 1103515245, 2393]), (.imul, 1, []), (.sipush 12345, 3, []), (.iadd, 1, []), (.putfield 385, 3, [12, 43, 1875, 0]), (.aload_n 0, 1, []), (.getfield 385, 3, [12, 43, 1875]), (.bipush 16, 2, []), (.ishr, 1, []), (.sipush 32767, 3, []), (.iand, 1, []), (.iload_n 1, 1, []), (.irem, 1, []), (.ireturn, 1, [])]
def kt_276 : List (Nat × List ab_Row) := [(0, kb_276_0)]
def km_276 : ab_Mi := ((⟨"SorryPursesModel", "draw", "(I)I"⟩ : MethodName), prog_14_method_113_code, 2, (Option.some FieldType.int), [], [])
-- 277: SorryPursesModel.saint ([I)V
def kb_277_0 : List ab_Row := [(.iconst (-1), 1, []), (.istore_n 2, 1, []), (.iconst 0, 1, []), (.istore_n 3, 1, [])]
def kb_277_4 : List ab_Row := [(.iload_n 3, 1, []), (.aload_n 1, 1, []), (.sipush 360, 3, []), (.iaload, 1, []), (.if_icmp .ge 39, 3, [49]), (.aload_n 1, 1, []), (.iload_n 3, 1, []), (.invokestatic 258, 3, [600, 144, 2, 1, 2139, 2140, 0, 0]), (.ifCond .eq 25, 3, [43]), (.iload_n 2, 1, []), (.iconst (-1), 1, []), (.if_icmp .eq 18, 3, [41]), (.aload_n 1, 1, []), (.iload_n 3, 1, []), (.iconst 2, 1, []), (.invokestatic 254, 3, [600, 135, 3, 1, 2142, 2143, 0, 0]), (.aload_n 1, 1, []), (.iload_n 2, 1, []), (.iconst 2, 1, []), (.invokestatic 254, 3, [600, 135, 3, 1, 2142, 2143, 0, 0]), (.if_icmp .le 5, 3, [43])]
def kb_277_41 : List ab_Row := [(.iload_n 3, 1, []), (.istore_n 2, 1, [])]
def kb_277_43 : List ab_Row := [(.iinc 3 1, 3, []), (.goto (-42), 3, [4])]
def kb_277_49 : List ab_Row := [(.iload_n 2, 1, []), (.iconst (-1), 1, []), (.if_icmp .ne 4, 3, [55]), (.return_, 1, [])]
def kb_277_55 : List ab_Row := [(.aload_n 0, 1, []), (.dup, 1, []), (.getfield 389, 3, [12, 44, 1876]), (.aload_n 1, 1, []), (.iload_n 2, 1, []), (.iconst 2, 1, []), (.invokestatic 254, 3, [600, 135, 3, 1, 2142, 2143, 0, 0]), (.iadd, 1, []), (.putfield 389, 3, [12, 44, 1876, 0]), (.aload_n 1, 1, []), (.iload_n 2, 1, []), (.iconst 2, 1, []), (.invokestatic 282, 3, [600, 223, 3, 1, 2148, 2149, 0, 0]), (.return_, 1, [])]
def kt_277 : List (Nat × List ab_Row) := [(0, kb_277_0), (4, kb_277_4), (41, kb_277_41), (43, kb_277_43), (49, kb_277_49), (55, kb_277_55)]
def km_277 : ab_Mi := ((⟨"SorryPursesModel", "saint", "([I)V"⟩ : MethodName), prog_14_method_114_code, 4, (Option.none : Option FieldType), [], [])
-- 278: SorryPurses.isIn (III)Z
def kb_278_0 : List ab_Row := [(.iload_n 0, 1, []), (.iload_n 1, 1, []), (.if_icmp .lt 12, 3, [14]), (.iload_n 0, 1, []), (.iload_n 2, 1, []), (.if_icmp .gt 7, 3, [14]), (.iconst 1, 1, []), (.goto 4, 3, [15])]
def kb_278_14 : List ab_Row := [(.iconst 0, 1, [])]
def kb_278_15 : List ab_Row := [(.ireturn, 1, [])]
def kt_278 : List (Nat × List ab_Row) := [(0, kb_278_0), (14, kb_278_14), (15, kb_278_15)]
def km_278 : ab_Mi := ((⟨"SorryPurses", "isIn", "(III)Z"⟩ : MethodName), prog_1_method_48_code, 3, (Option.some FieldType.boolean), [], [])
-- 279: SorryPurses$History.store ([LSorryPurses$Ledger;ILSorryPurses$Ledger;)V
def kb_279_0 : List ab_Row := [(.aload_n 2, 1, []), (.ifnull 13, 3, [14]), (.iload_n 1, 1, []), (.ifCond .lt 9, 3, [14]), (.iload_n 1, 1, []), (.aload_n 0, 1, []), (.arraylength, 1, []), (.if_icmp .lt 4, 3, [15])]
def kb_279_14 : List ab_Row := [(.return_, 1, [])]
def kb_279_15 : List ab_Row := [(.aload_n 0, 1, []), (.iload_n 1, 1, []), (.aaload, 1, []), (.ifnonnull 13, 3, [31]), (.aload_n 0, 1, []), (.iload_n 1, 1, []), (.new 9, 3, [6, 4, 468, 296, 109]), (.dup, 1, []), (.invokespecial 44, 3, [600, 100, 1, 4, 1063, 298, 0, 0]), (.aastore, 1, [])]
def kb_279_31 : List ab_Row := [(.aload_n 0, 1, []), (.iload_n 1, 1, []), (.aaload, 1, []), (.aload_n 2, 1, []), (.invokevirtual 45, 3, [600, 295, 2, 0, 567, 568, 569, 6]), (.return_, 1, [])]
def kt_279 : List (Nat × List ab_Row) := [(0, kb_279_0), (14, kb_279_14), (15, kb_279_15), (31, kb_279_31)]
def km_279 : ab_Mi := ((⟨"SorryPurses$History", "store", "([LSorryPurses$Ledger;ILSorryPurses$Ledger;)V"⟩ : MethodName), prog_5_method_7_code, 3, (Option.none : Option FieldType), [], [])
-- 280: SorryPursesModel.puts ([IIZ)I
def kb_280_0 : List ab_Row := [(.iload_n 3, 1, []), (.ifCond .ne 10, 3, [11]), (.aload_n 1, 1, []), (.aload_n 0, 1, []), (.getfield 403, 3, [12, 33, 1865]), (.iload_n 2, 1, []), (.iastore, 1, [])]
def kb_280_11 : List ab_Row := [(.aload_n 0, 1, []), (.dup, 1, []), (.getfield 403, 3, [12, 33, 1865]), (.iconst 1, 1, []), (.iadd, 1, []), (.putfield 403, 3, [12, 33, 1865, 0]), (.aload_n 1, 1, []), (.aload_n 0, 1, []), (.getfield 403, 3, [12, 33, 1865]), (.iconst 1, 1, []), (.isub, 1, []), (.iaload, 1, []), (.ireturn, 1, [])]
def kt_280 : List (Nat × List ab_Row) := [(0, kb_280_0), (11, kb_280_11)]
def km_280 : ab_Mi := ((⟨"SorryPursesModel", "puts", "([IIZ)I"⟩ : MethodName), prog_14_method_118_code, 4, (Option.some FieldType.int), [], [])
-- 281: SorryPursesModel.set ([IIII)V
def kb_281_0 : List ab_Row := [(.aload_n 0, 1, []), (.bipush 9, 2, []), (.iload_n 1, 1, []), (.imul, 1, []), (.iload_n 2, 1, []), (.iadd, 1, []), (.iload_n 3, 1, []), (.iastore, 1, []), (.return_, 1, [])]
def kt_281 : List (Nat × List ab_Row) := [(0, kb_281_0)]
def km_281 : ab_Mi := ((⟨"SorryPursesModel", "set", "([IIII)V"⟩ : MethodName), prog_14_method_47_code, 4, (Option.none : Option FieldType), [], [])
-- 282: SorryPurses$Tape.hasMore ()Z
def kb_282_0 : List ab_Row := [(.aload_n 0, 1, []), (.getfield 37, 3, [9, 5, 160]), (.ifCond .ne 15, 3, [19]), (.aload_n 0, 1, []), (.invokevirtual 44, 3, [600, 319, 1, 0, 1112, 1113, 1114, 9]), (.iconst (-1), 1, []), (.if_icmp .eq 7, 3, [19]), (.iconst 1, 1, []), (.goto 4, 3, [20])]
def kb_282_19 : List ab_Row := [(.iconst 0, 1, [])]
def kb_282_20 : List ab_Row := [(.ireturn, 1, [])]
def kt_282 : List (Nat × List ab_Row) := [(0, kb_282_0), (19, kb_282_19), (20, kb_282_20)]
def km_282 : ab_Mi := ((⟨"SorryPurses$Tape", "hasMore", "()Z"⟩ : MethodName), prog_11_method_8_code, 1, (Option.some FieldType.boolean), [], [])
-- 283: SorryPurses$Town.readClause (LSorryPurses$Tape;I)V
def kb_283_0 : List ab_Row := [(.aload_n 1, 1, []), (.ldc 50, 2, [30, 0, 0]), (.invokevirtual 52, 3, [600, 320, 2, 0, 1125, 1126, 1127, 9]), (.istore_n 3, 1, []), (.iload_n 2, 1, []), (.bipush 60, 2, []), (.if_icmp .ge 35, 3, [45]), (.iload_n 3, 1, []), (.ifCond .ne 12, 3, [26]), (.aload_n 0, 1, []), (.getfield 34, 3, [10, 5, 190]), (.bipush 8, 2, []), (.if_icmp .ge 22, 3, [45])]
def kb_283_26 : List ab_Row := [(.iload_n 3, 1, []), (.iconst 1, 1, []), (.if_icmp .eq 8, 3, [36]), (.iload_n 3, 1, []), (.iconst 2, 1, []), (.if_icmp .ne 16, 3, [49])]
def kb_283_36 : List ab_Row := [(.aload_n 0, 1, []), (.getfield 37, 3, [10, 6, 195]), (.bipush 24, 2, []), (.if_icmp .lt 7, 3, [49])]
def kb_283_45 : List ab_Row := [(.iconst 1, 1, []), (.goto 4, 3, [50])]
def kb_283_49 : List ab_Row := [(.iconst 0, 1, [])]
def kb_283_50 : List ab_Row := [(.istore 4, 2, []), (.iload 4, 2, []), (.ifCond .eq 12, 3, [66]), (.aload_n 1, 1, []), (.iconst 3, 1, []), (.aload_n 1, 1, []), (.getfield 56, 3, [9, 4, 156]), (.invokevirtual 59, 3, [600, 290, 3, 0, 1165, 1162, 1163, 9])]
def kb_283_66 : List ab_Row := [(.aload_n 1, 1, []), (.invokevirtual 63, 3, [600, 201, 1, 0, 1166, 1167, 1168, 9]), (.ifCond .eq 4, 3, [74]), (.return_, 1, [])]
def kb_283_74 : List ab_Row := [(.iload_n 3, 1, []), (.tableswitch 69 0 3 #[29, 37, 37, 55], 29, [104, 112, 112, 130, 144])]
def kb_283_104 : List ab_Row := [(.aload_n 0, 1, []), (.aload_n 1, 1, []), (.invokevirtual 66, 3, [600, 321, 2, 0, 1170, 1172, 17, 10]), (.goto 46, 3, [155])]
def kb_283_112 : List ab_Row := [(.aload_n 0, 1, []), (.aload_n 1, 1, []), (.iload_n 3, 1, []), (.iconst 1, 1, []), (.if_icmp .ne 7, 3, [123]), (.iconst 1, 1, []), (.goto 4, 3, [124])]
def kb_283_123 : List ab_Row := [(.iconst 0, 1, [])]
def kb_283_124 : List ab_Row := [(.invokevirtual 70, 3, [600, 322, 3, 0, 1182, 1184, 18, 10]), (.goto 28, 3, [155])]
def kb_283_130 : List ab_Row := [(.aload_n 0, 1, []), (.aload_n 1, 1, []), (.iconst 0, 1, []), (.bipush 50, 2, []), (.invokevirtual 73, 3, [600, 323, 3, 0, 1174, 1175, 1176, 9]), (.putfield 27, 3, [10, 7, 196, 0]), (.goto 14, 3, [155])]
def kb_283_144 : List ab_Row := [(.aload_n 0, 1, []), (.aload_n 1, 1, []), (.iconst 0, 1, []), (.bipush 100, 2, []), (.invokevirtual 73, 3, [600, 323, 3, 0, 1174, 1175, 1176, 9]), (.putfield 31, 3, [10, 8, 199, 0])]
def kb_283_155 : List ab_Row := [(.aload_n 1, 1, []), (.bipush 59, 2, []), (.invokevirtual 77, 3, [600, 324, 2, 0, 1191, 1192, 1193, 9]), (.return_, 1, [])]
def kt_283 : List (Nat × List ab_Row) := [(0, kb_283_0), (26, kb_283_26), (36, kb_283_36), (45, kb_283_45), (49, kb_283_49), (50, kb_283_50), (66, kb_283_66), (74, kb_283_74), (104, kb_283_104), (112, kb_283_112), (123, kb_283_123), (124, kb_283_124), (130, kb_283_130), (144, kb_283_144), (155, kb_283_155)]
def km_283 : ab_Mi := ((⟨"SorryPurses$Town", "readClause", "(LSorryPurses$Tape;I)V"⟩ : MethodName), prog_12_method_3_code, 5, (Option.none : Option FieldType), [], [])
-- 284: SorryPurses$Ledger.clear ()V
def kb_284_0 : List ab_Row := [(.aload_n 0, 1, []), (.iconst 0, 1, []), (.putfield 18, 3, [6, 2, 303, 0]), (.aload_n 0, 1, []), (.iconst 0, 1, []), (.putfield 22, 3, [6, 3, 309, 0]), (.aload_n 0, 1, []), (.getfield 15, 3, [6, 1, 302]), (.iconst 0, 1, []), (.invokestatic 25, 3, [600, 306, 2, 1, 1209, 673, 0, 0]), (.return_, 1, [])]
def kt_284 : List (Nat × List ab_Row) := [(0, kb_284_0)]
def km_284 : ab_Mi := ((⟨"SorryPurses$Ledger", "clear", "()V"⟩ : MethodName), prog_8_method_2_code, 1, (Option.none : Option FieldType), [], [])
-- 285: SorryPurses$Ledger.add (IIII)Z
def kb_285_0 : List ab_Row := [(.aload_n 0, 1, []), (.getfield 18, 3, [6, 2, 303]), (.ifCond .lt 12, 3, [16]), (.aload_n 0, 1, []), (.getfield 18, 3, [6, 2, 303]), (.bipush 40, 2, []), (.if_icmp .lt 5, 3, [18])]
def kb_285_16 : List ab_Row := [(.iconst 0, 1, []), (.ireturn, 1, [])]
def kb_285_18 : List ab_Row := [(.aload_n 0, 1, []), (.iconst 0, 1, []), (.aload_n 0, 1, []), (.getfield 18, 3, [6, 2, 303]), (.iload_n 1, 1, []), (.invokevirtual 41, 3, [600, 325, 4, 0, 1214, 1216, 19, 6]), (.aload_n 0, 1, []), (.iconst 1, 1, []), (.aload_n 0, 1, []), (.getfield 18, 3, [6, 2, 303]), (.iload_n 2, 1, []), (.invokevirtual 41, 3, [600, 325, 4, 0, 1214, 1216, 19, 6]), (.aload_n 0, 1, []), (.iconst 2, 1, []), (.aload_n 0, 1, []), (.getfield 18, 3, [6, 2, 303]), (.iload_n 3, 1, []), (.invokevirtual 41, 3, [600, 325, 4, 0, 1214, 1216, 19, 6]), (.aload_n 0, 1, []), (.iconst 3, 1, []), (.aload_n 0, 1, []), (.getfield 18, 3, [6, 2, 303]), (.aload_n 0, 1, []), (.getfield 22, 3, [6, 3, 309]), (.invokevirtual 41, 3, [600, 325, 4, 0, 1214, 1216, 19, 6]), (.aload_n 0, 1, []), (.iconst 4, 1, []), (.aload_n 0, 1, []), (.getfield 18, 3, [6, 2, 303]), (.iconst 0, 1, []), (.invokevirtual 41, 3, [600, 325, 4, 0, 1214, 1216, 19, 6]), (.aload_n 0, 1, []), (.iconst 5, 1, []), (.aload_n 0, 1, []), (.getfield 18, 3, [6, 2, 303]), (.iconst 0, 1, []), (.invokevirtual 41, 3, [600, 325, 4, 0, 1214, 1216, 19, 6]), (.aload_n 0, 1, []), (.bipush 6, 2, []), (.aload_n 0, 1, []), (.getfield 18, 3, [6, 2, 303]), (.iload 4, 2, []), (.invokevirtual 41, 3, [600, 325, 4, 0, 1214, 1216, 19, 6]), (.aload_n 0, 1, []), (.bipush 7, 2, []), (.aload_n 0, 1, []), (.getfield 18, 3, [6, 2, 303]), (.iconst 0, 1, []), (.invokevirtual 41, 3, [600, 325, 4, 0, 1214, 1216, 19, 6]), (.aload_n 0, 1, []), (.bipush 8, 2, []), (.aload_n 0, 1, []), (.getfield 18, 3, [6, 2, 303]), (.iconst (-1), 1, []), (.invokevirtual 41, 3, [600, 325, 4, 0, 1214, 1216, 19, 6]), (.aload_n 0, 1, []), (.dup, 1, []), (.getfield 18, 3, [6, 2, 303]), (.iconst 1, 1, []), (.iadd, 1, []), (.putfield 18, 3, [6, 2, 303, 0]), (.aload_n 0, 1, []), (.getfield 15, 3, [6, 1, 302]), (.iconst 1, 1, []), (.dup2, 1, []), (.iaload, 1, []), (.iload_n 3, 1, []), (.iadd, 1, []), (.iastore, 1, []), (.iconst 1, 1, []), (.ireturn, 1, [])]
def kt_285 : List (Nat × List ab_Row) := [(0, kb_285_0), (16, kb_285_16), (18, kb_285_18)]
def km_285 : ab_Mi := ((⟨"SorryPurses$Ledger", "add", "(IIII)Z"⟩ : MethodName), prog_8_method_8_code, 5, (Option.some FieldType.boolean), [], [])
-- 286: SorryPursesModel.wordHere ()J
def kb_286_0 : List ab_Row := [(.aload_n 0, 1, []), (.invokevirtual 123, 3, [600, 116, 1, 0, 1991, 1993, 52, 12]), (.lconst 0, 1, []), (.lstore_n 1, 1, []), (.iconst 0, 1, []), (.istore_n 3, 1, [])]
def kb_286_8 : List ab_Row := [(.aload_n 0, 1, []), (.aload_n 0, 1, []), (.getfield 110, 3, [12, 4, 1836]), (.iload_n 3, 1, []), (.iadd, 1, []), (.invokevirtual 113, 3, [600, 209, 2, 0, 1995, 1997, 53, 12]), (.invokestatic 143, 3, [600, 288, 1, 1, 2011, 2012, 0, 0]), (.ifCond .eq 43, 3, [64]), (.iload_n 3, 1, []), (.bipush 9, 2, []), (.if_icmp .ge 29, 3, [56]), (.ldc2_w 146, 3, [0, 27, 2014]), (.lload_n 1, 1, []), (.lmul, 1, []), (.aload_n 0, 1, []), (.aload_n 0, 1, []), (.getfield 110, 3, [12, 4, 1836]), (.iload_n 3, 1, []), (.iadd, 1, []), (.invokevirtual 113, 3, [600, 209, 2, 0, 1995, 1997, 53, 12]), (.i2l, 1, []), (.ladd, 1, []), (.ldc2_w 148, 3, [0, 97, 2015]), (.lsub, 1, []), (.lconst 1, 1, []), (.ladd, 1, []), (.goto 4, 3, [57])]
def kb_286_56 : List ab_Row := [(.lload_n 1, 1, [])]
def kb_286_57 : List ab_Row := [(.lstore_n 1, 1, []), (.iinc 3 1, 3, []), (.goto (-53), 3, [8])]
def kb_286_64 : List ab_Row := [(.iload_n 3, 1, []), (.bipush 8, 2, []), (.if_icmp .le 9, 3, [76]), (.ldc2_w 150, 3, [1, 1, 2016]), (.goto 4, 3, [77])]
def kb_286_76 : List ab_Row := [(.lload_n 1, 1, [])]
def kb_286_77 : List ab_Row := [(.lreturn, 1, [])]
def kt_286 : List (Nat × List ab_Row) := [(0, kb_286_0), (8, kb_286_8), (56, kb_286_56), (57, kb_286_57), (64, kb_286_64), (76, kb_286_76), (77, kb_286_77)]
def km_286 : ab_Mi := ((⟨"SorryPursesModel", "wordHere", "()J"⟩ : MethodName), prog_14_method_16_code, 4, (Option.some FieldType.long), [], [])
-- 287: SorryPursesModel.eight (IIIIIIII)J
def kb_287_0 : List ab_Row := [(.ldc2_w 146, 3, [0, 27, 2014]), (.ldc2_w 146, 3, [0, 27, 2014]), (.iload_n 0, 1, []), (.i2l, 1, []), (.lmul, 1, []), (.iload_n 1, 1, []), (.i2l, 1, []), (.ladd, 1, []), (.lmul, 1, []), (.iload_n 2, 1, []), (.i2l, 1, []), (.ladd, 1, []), (.lstore 8, 2, []), (.iload_n 3, 1, []), (.ifCond .ne 8, 3, [27]), (.lload 8, 2, []), (.goto 12, 3, [36])]
def kb_287_27 : List ab_Row := [(.ldc2_w 146, 3, [0, 27, 2014]), (.lload 8, 2, []), (.lmul, 1, []), (.iload_n 3, 1, []), (.i2l, 1, []), (.ladd, 1, [])]
def kb_287_36 : List ab_Row := [(.lstore 8, 2, []), (.iload 4, 2, []), (.ifCond .ne 8, 3, [48]), (.lload 8, 2, []), (.goto 13, 3, [58])]
def kb_287_48 : List ab_Row := [(.ldc2_w 146, 3, [0, 27, 2014]), (.lload 8, 2, []), (.lmul, 1, []), (.iload 4, 2, []), (.i2l, 1, []), (.ladd, 1, [])]
def kb_287_58 : List ab_Row := [(.lstore 8, 2, []), (.iload 5, 2, []), (.ifCond .ne 8, 3, [70]), (.lload 8, 2, []), (.goto 13, 3, [80])]
def kb_287_70 : List ab_Row := [(.ldc2_w 146, 3, [0, 27, 2014]), (.lload 8, 2, []), (.lmul, 1, []), (.iload 5, 2, []), (.i2l, 1, []), (.ladd, 1, [])]
def kb_287_80 : List ab_Row := [(.lstore 8, 2, []), (.iload 6, 2, []), (.ifCond .ne 8, 3, [92]), (.lload 8, 2, []), (.goto 13, 3, [102])]
def kb_287_92 : List ab_Row := [(.ldc2_w 146, 3, [0, 27, 2014]), (.lload 8, 2, []), (.lmul, 1, []), (.iload 6, 2, []), (.i2l, 1, []), (.ladd, 1, [])]
def kb_287_102 : List ab_Row := [(.lstore 8, 2, []), (.iload 7, 2, []), (.ifCond .ne 8, 3, [114]), (.lload 8, 2, []), (.goto 13, 3, [124])]
def kb_287_114 : List ab_Row := [(.ldc2_w 146, 3, [0, 27, 2014]), (.lload 8, 2, []), (.lmul, 1, []), (.iload 7, 2, []), (.i2l, 1, []), (.ladd, 1, [])]
def kb_287_124 : List ab_Row := [(.lreturn, 1, [])]
def kt_287 : List (Nat × List ab_Row) := [(0, kb_287_0), (27, kb_287_27), (36, kb_287_36), (48, kb_287_48), (58, kb_287_58), (70, kb_287_70), (80, kb_287_80), (92, kb_287_92), (102, kb_287_102), (114, kb_287_114), (124, kb_287_124)]
def km_287 : ab_Mi := ((⟨"SorryPursesModel", "eight", "(IIIIIIII)J"⟩ : MethodName), prog_14_method_17_code, 10, (Option.some FieldType.long), [], [])
-- 288: SorryPursesModel.isSmall (I)Z
def kb_288_0 : List ab_Row := [(.iload_n 0, 1, []), (.bipush 97, 2, []), (.if_icmp .lt 13, 3, [16]), (.iload_n 0, 1, []), (.bipush 122, 2, []), (.if_icmp .gt 7, 3, [16]), (.iconst 1, 1, []), (.goto 4, 3, [17])]
def kb_288_16 : List ab_Row := [(.iconst 0, 1, [])]
def kb_288_17 : List ab_Row := [(.ireturn, 1, [])]
def kt_288 : List (Nat × List ab_Row) := [(0, kb_288_0), (16, kb_288_16), (17, kb_288_17)]
def km_288 : ab_Mi := ((⟨"SorryPursesModel", "isSmall", "(I)Z"⟩ : MethodName), prog_14_method_13_code, 1, (Option.some FieldType.boolean), [], [])
-- 289: SorryPurses$Law.readSum (LSorryPurses$Tape;I)V
def kb_289_0 : List ab_Row := [(.aload_n 0, 1, []), (.aload_n 1, 1, []), (.iload_n 2, 1, []), (.invokevirtual 48, 3, [600, 326, 3, 0, 1241, 1243, 21, 5]), (.iconst 0, 1, []), (.istore_n 3, 1, [])]
def kb_289_8 : List ab_Row := [(.iload_n 3, 1, []), (.sipush 150, 3, []), (.if_icmp .ge 61, 3, [73]), (.aload_n 1, 1, []), (.bipush 43, 2, []), (.invokevirtual 51, 3, [600, 327, 2, 0, 1261, 1262, 1263, 9]), (.ifCond .eq 9, 3, [30]), (.sipush 2000, 3, []), (.goto 19, 3, [46])]
def kb_289_30 : List ab_Row := [(.aload_n 1, 1, []), (.bipush 45, 2, []), (.invokevirtual 51, 3, [600, 327, 2, 0, 1261, 1262, 1263, 9]), (.ifCond .eq 9, 3, [45]), (.sipush 2001, 3, []), (.goto 4, 3, [46])]
def kb_289_45 : List ab_Row := [(.iconst (-1), 1, [])]
def kb_289_46 : List ab_Row := [(.istore 4, 2, []), (.iload 4, 2, []), (.iconst (-1), 1, []), (.if_icmp .ne 4, 3, [55]), (.return_, 1, [])]
def kb_289_55 : List ab_Row := [(.aload_n 0, 1, []), (.aload_n 1, 1, []), (.iload_n 2, 1, []), (.invokevirtual 48, 3, [600, 326, 3, 0, 1241, 1243, 21, 5]), (.aload_n 0, 1, []), (.iload 4, 2, []), (.invokevirtual 55, 3, [600, 328, 2, 0, 1253, 1255, 23, 5]), (.iinc 3 1, 3, []), (.goto (-62), 3, [8])]
def kb_289_73 : List ab_Row := [(.return_, 1, [])]
def kt_289 : List (Nat × List ab_Row) := [(0, kb_289_0), (8, kb_289_8), (30, kb_289_30), (45, kb_289_45), (46, kb_289_46), (55, kb_289_55), (73, kb_289_73)]
def km_289 : ab_Mi := ((⟨"SorryPurses$Law", "readSum", "(LSorryPurses$Tape;I)V"⟩ : MethodName), prog_7_method_5_code, 5, (Option.none : Option FieldType), [], [])
-- 290: SorryPurses$Tape.blame (II)V
def kb_290_0 : List ab_Row := [(.aload_n 0, 1, []), (.getfield 37, 3, [9, 5, 160]), (.ifCond .ne 13, 3, [17]), (.aload_n 0, 1, []), (.iload_n 1, 1, []), (.putfield 37, 3, [9, 5, 160, 0]), (.aload_n 0, 1, []), (.iload_n 2, 1, []), (.putfield 15, 3, [9, 6, 161, 0])]
def kb_290_17 : List ab_Row := [(.return_, 1, [])]
def kt_290 : List (Nat × List ab_Row) := [(0, kb_290_0), (17, kb_290_17)]
def km_290 : ab_Mi := ((⟨"SorryPurses$Tape", "blame", "(II)V"⟩ : MethodName), prog_11_method_6_code, 3, (Option.none : Option FieldType), [], [])
-- 291: SorryPursesModel.one ()V
def kb_291_0 : List ab_Row := [(.aload_n 0, 1, []), (.getfield 117, 3, [12, 5, 1837]), (.ifCond .eq 4, 3, [8]), (.return_, 1, [])]
def kb_291_8 : List ab_Row := [(.aload_n 0, 1, []), (.invokevirtual 123, 3, [600, 116, 1, 0, 1991, 1993, 52, 12]), (.aload_n 0, 1, []), (.bipush 12, 2, []), (.iconst 5, 1, []), (.iconst 1, 1, []), (.bipush 19, 2, []), (.bipush 20, 2, []), (.iconst 0, 1, []), (.iconst 0, 1, []), (.iconst 0, 1, []), (.invokevirtual 160, 3, [600, 206, 9, 0, 2003, 2005, 55, 12]), (.ifCond .eq 8, 3, [35]), (.bipush 6, 2, []), (.goto 28, 3, [60])]
def kb_291_35 : List ab_Row := [(.aload_n 0, 1, []), (.bipush 13, 2, []), (.bipush 15, 2, []), (.bipush 19, 2, []), (.bipush 20, 2, []), (.iconst 0, 1, []), (.iconst 0, 1, []), (.iconst 0, 1, []), (.iconst 0, 1, []), (.invokevirtual 160, 3, [600, 206, 9, 0, 2003, 2005, 55, 12]), (.ifCond .eq 8, 3, [59]), (.bipush 7, 2, []), (.goto 4, 3, [60])]
def kb_291_59 : List ab_Row := [(.iconst (-1), 1, [])]
def kb_291_60 : List ab_Row := [(.istore_n 1, 1, []), (.iload_n 1, 1, []), (.iconst (-1), 1, []), (.if_icmp .eq 58, 3, [121]), (.aload_n 0, 1, []), (.invokevirtual 231, 3, [600, 329, 1, 0, 2064, 2066, 66, 12]), (.ifCond .ne 4, 3, [74]), (.return_, 1, [])]
def kb_291_74 : List ab_Row := [(.aload_n 0, 1, []), (.invokevirtual 164, 3, [600, 207, 1, 0, 2024, 2026, 58, 12]), (.aload_n 0, 1, []), (.bipush 91, 2, []), (.invokevirtual 176, 3, [600, 129, 2, 0, 2040, 2042, 61, 12]), (.aload_n 0, 1, []), (.invokevirtual 235, 3, [600, 119, 1, 0, 2052, 2054, 63, 12]), (.aload_n 0, 1, []), (.bipush 44, 2, []), (.invokevirtual 176, 3, [600, 129, 2, 0, 2040, 2042, 61, 12]), (.aload_n 0, 1, []), (.invokevirtual 235, 3, [600, 119, 1, 0, 2052, 2054, 63, 12]), (.aload_n 0, 1, []), (.bipush 93, 2, []), (.invokevirtual 176, 3, [600, 129, 2, 0, 2040, 2042, 61, 12]), (.aload_n 0, 1, []), (.iload_n 1, 1, []), (.iconst 0, 1, []), (.invokevirtual 222, 3, [600, 213, 3, 0, 2068, 2070, 67, 12]), (.aload_n 0, 1, []), (.dup, 1, []), (.getfield 170, 3, [12, 8, 1840]), (.iconst 1, 1, []), (.isub, 1, []), (.putfield 170, 3, [12, 8, 1840, 0]), (.return_, 1, [])]
def kb_291_121 : List ab_Row := [(.aload_n 0, 1, []), (.aload_n 0, 1, []), (.getfield 110, 3, [12, 4, 1836]), (.invokevirtual 113, 3, [600, 209, 2, 0, 1995, 1997, 53, 12]), (.bipush 40, 2, []), (.if_icmp .ne 42, 3, [173]), (.aload_n 0, 1, []), (.invokevirtual 231, 3, [600, 329, 1, 0, 2064, 2066, 66, 12]), (.ifCond .ne 4, 3, [142]), (.return_, 1, [])]
def kb_291_142 : List ab_Row := [(.aload_n 0, 1, []), (.dup, 1, []), (.getfield 110, 3, [12, 4, 1836]), (.iconst 1, 1, []), (.iadd, 1, []), (.putfield 110, 3, [12, 4, 1836, 0]), (.aload_n 0, 1, []), (.invokevirtual 235, 3, [600, 119, 1, 0, 2052, 2054, 63, 12]), (.aload_n 0, 1, []), (.bipush 41, 2, []), (.invokevirtual 176, 3, [600, 129, 2, 0, 2040, 2042, 61, 12]), (.aload_n 0, 1, []), (.dup, 1, []), (.getfield 170, 3, [12, 8, 1840]), (.iconst 1, 1, []), (.isub, 1, []), (.putfield 170, 3, [12, 8, 1840, 0]), (.return_, 1, [])]
def kb_291_173 : List ab_Row := [(.aload_n 0, 1, []), (.invokevirtual 238, 3, [600, 330, 1, 0, 2072, 2074, 68, 12]), (.istore_n 2, 1, []), (.iload_n 2, 1, []), (.iconst (-1), 1, []), (.if_icmp .eq 12, 3, [192]), (.aload_n 0, 1, []), (.iconst 1, 1, []), (.iload_n 2, 1, []), (.invokevirtual 222, 3, [600, 213, 3, 0, 2068, 2070, 67, 12]), (.goto 16, 3, [205])]
def kb_291_192 : List ab_Row := [(.aload_n 0, 1, []), (.iconst 0, 1, []), (.aload_n 0, 1, []), (.iconst 0, 1, []), (.sipush 999, 3, []), (.invokevirtual 139, 3, [600, 128, 3, 0, 2028, 2030, 59, 12]), (.invokevirtual 222, 3, [600, 213, 3, 0, 2068, 2070, 67, 12])]
def kb_291_205 : List ab_Row := [(.return_, 1, [])]
def kt_291 : List (Nat × List ab_Row) := [(0, kb_291_0), (8, kb_291_8), (35, kb_291_35), (59, kb_291_59), (60, kb_291_60), (74, kb_291_74), (121, kb_291_121), (142, kb_291_142), (173, kb_291_173), (192, kb_291_192), (205, kb_291_205)]
def km_291 : ab_Mi := ((⟨"SorryPursesModel", "one", "()V"⟩ : MethodName), prog_14_method_33_code, 3, (Option.none : Option FieldType), [], [])
-- 292: SorryPurses$Deeds.readDeed (LSorryPurses$Tape;I)V
def kb_292_0 : List ab_Row := [(.aload_n 1, 1, []), (.ldc 45, 2, [30, 2, 2]), (.invokevirtual 47, 3, [600, 320, 2, 0, 1287, 1126, 1127, 9]), (.istore_n 3, 1, []), (.iload_n 2, 1, []), (.bipush 30, 2, []), (.if_icmp .lt 12, 3, [22]), (.aload_n 1, 1, []), (.iconst 3, 1, []), (.aload_n 1, 1, []), (.getfield 51, 3, [9, 4, 154]), (.invokevirtual 54, 3, [600, 290, 3, 0, 1288, 1162, 1163, 9])]
def kb_292_22 : List ab_Row := [(.aload_n 1, 1, []), (.invokevirtual 58, 3, [600, 201, 1, 0, 1289, 1167, 1168, 9]), (.ifCond .eq 4, 3, [30]), (.return_, 1, [])]
def kb_292_30 : List ab_Row := [(.iload_n 3, 1, []), (.tableswitch 136 0 8 #[49, 136, 66, 93, 114, 122, 122, 66, 122], 49, [80, 167, 97, 124, 145, 153, 153, 97, 153, 167])]
def kb_292_80 : List ab_Row := [(.aload_n 0, 1, []), (.iload_n 3, 1, []), (.aload_n 1, 1, []), (.iconst 1, 1, []), (.bipush 30, 2, []), (.invokevirtual 61, 3, [600, 323, 3, 0, 1290, 1175, 1176, 9]), (.iconst 0, 1, []), (.iconst 0, 1, []), (.invokevirtual 65, 3, [600, 331, 5, 0, 1291, 1293, 25, 2]), (.goto 79, 3, [173])]
def kb_292_97 : List ab_Row := [(.aload_n 0, 1, []), (.iload_n 3, 1, []), (.aload_n 1, 1, []), (.invokestatic 69, 3, [600, 332, 1, 1, 1295, 1296, 0, 0]), (.aload_n 1, 1, []), (.iconst 0, 1, []), (.aload_n 0, 1, []), (.getfield 15, 3, [2, 0, 372]), (.getfield 73, 3, [10, 5, 192]), (.iconst 1, 1, []), (.isub, 1, []), (.invokevirtual 61, 3, [600, 323, 3, 0, 1290, 1175, 1176, 9]), (.iconst 0, 1, []), (.invokevirtual 65, 3, [600, 331, 5, 0, 1291, 1293, 25, 2]), (.goto 52, 3, [173])]
def kb_292_124 : List ab_Row := [(.aload_n 0, 1, []), (.iload_n 3, 1, []), (.aload_n 1, 1, []), (.invokestatic 69, 3, [600, 332, 1, 1, 1295, 1296, 0, 0]), (.aload_n 1, 1, []), (.iconst 1, 1, []), (.sipush 999, 3, []), (.invokevirtual 61, 3, [600, 323, 3, 0, 1290, 1175, 1176, 9]), (.iconst 0, 1, []), (.invokevirtual 65, 3, [600, 331, 5, 0, 1291, 1293, 25, 2]), (.goto 31, 3, [173])]
def kb_292_145 : List ab_Row := [(.aload_n 0, 1, []), (.aload_n 1, 1, []), (.invokevirtual 78, 3, [600, 333, 2, 0, 1298, 1300, 26, 2]), (.goto 23, 3, [173])]
def kb_292_153 : List ab_Row := [(.aload_n 0, 1, []), (.iload_n 3, 1, []), (.aload_n 1, 1, []), (.invokestatic 69, 3, [600, 332, 1, 1, 1295, 1296, 0, 0]), (.iconst 0, 1, []), (.iconst 0, 1, []), (.invokevirtual 65, 3, [600, 331, 5, 0, 1291, 1293, 25, 2]), (.goto 9, 3, [173])]
def kb_292_167 : List ab_Row := [(.aload_n 0, 1, []), (.aload_n 1, 1, []), (.iload_n 3, 1, []), (.invokevirtual 82, 3, [600, 334, 3, 0, 1303, 1305, 27, 2])]
def kb_292_173 : List ab_Row := [(.aload_n 1, 1, []), (.bipush 59, 2, []), (.invokevirtual 85, 3, [600, 324, 2, 0, 1307, 1192, 1193, 9]), (.return_, 1, [])]
def kt_292 : List (Nat × List ab_Row) := [(0, kb_292_0), (22, kb_292_22), (30, kb_292_30), (80, kb_292_80), (97, kb_292_97), (124, kb_292_124), (145, kb_292_145), (153, kb_292_153), (167, kb_292_167), (173, kb_292_173)]
def km_292 : ab_Mi := ((⟨"SorryPurses$Deeds", "readDeed", "(LSorryPurses$Tape;I)V"⟩ : MethodName), prog_4_method_3_code, 4, (Option.none : Option FieldType), [], [])
-- 293: SorryPurses$Deeds.act (IIII)Z
def kb_293_0 : List ab_Row := [(.iload_n 1, 1, []), (.tableswitch 171 0 8 #[51, 66, 79, 89, 99, 109, 125, 154, 161], 51, [52, 67, 80, 90, 100, 110, 126, 155, 162, 172])]
def kb_293_52 : List ab_Row := [(.aload_n 0, 1, []), (.getfield 19, 3, [2, 1, 373]), (.dup, 1, []), (.getfield 100, 3, [6, 3, 312]), (.iload_n 2, 1, []), (.iadd, 1, []), (.putfield 100, 3, [6, 3, 312, 1]), (.iconst 1, 1, []), (.ireturn, 1, [])]
def kb_293_67 : List ab_Row := [(.aload_n 0, 1, []), (.getfield 19, 3, [2, 1, 373]), (.iload_n 2, 1, []), (.iload_n 3, 1, []), (.iload 4, 2, []), (.iconst 1, 1, []), (.invokevirtual 105, 3, [600, 285, 5, 0, 1320, 1211, 1212, 6]), (.ireturn, 1, [])]
def kb_293_80 : List ab_Row := [(.aload_n 0, 1, []), (.getfield 19, 3, [2, 1, 373]), (.iload_n 2, 1, []), (.iload_n 3, 1, []), (.invokevirtual 108, 3, [600, 335, 3, 0, 1321, 1322, 1323, 6]), (.ireturn, 1, [])]
def kb_293_90 : List ab_Row := [(.aload_n 0, 1, []), (.getfield 19, 3, [2, 1, 373]), (.iload_n 2, 1, []), (.iload_n 3, 1, []), (.invokevirtual 112, 3, [600, 336, 3, 0, 1329, 1330, 1331, 6]), (.ireturn, 1, [])]
def kb_293_100 : List ab_Row := [(.aload_n 0, 1, []), (.getfield 19, 3, [2, 1, 373]), (.iload_n 2, 1, []), (.iload_n 3, 1, []), (.invokevirtual 115, 3, [600, 337, 3, 0, 1333, 1334, 1335, 6]), (.ireturn, 1, [])]
def kb_293_110 : List ab_Row := [(.aload_n 0, 1, []), (.getfield 19, 3, [2, 1, 373]), (.iload_n 2, 1, []), (.aload_n 0, 1, []), (.getfield 15, 3, [2, 0, 372]), (.getfield 118, 3, [10, 7, 198]), (.invokevirtual 121, 3, [600, 338, 3, 0, 1337, 1338, 1339, 6]), (.ireturn, 1, [])]
def kb_293_126 : List ab_Row := [(.aload_n 0, 1, []), (.getfield 23, 3, [2, 2, 374]), (.iload_n 2, 1, []), (.invokevirtual 124, 3, [600, 243, 2, 0, 1341, 581, 582, 4]), (.ifCond .eq 19, 3, [153]), (.aload_n 0, 1, []), (.getfield 19, 3, [2, 1, 373]), (.iload_n 2, 1, []), (.iconst 1, 1, []), (.invokevirtual 130, 3, [600, 339, 3, 0, 1342, 1326, 1327, 6]), (.ifCond .eq 7, 3, [153]), (.iconst 1, 1, []), (.goto 4, 3, [154])]
def kb_293_153 : List ab_Row := [(.iconst 0, 1, [])]
def kb_293_154 : List ab_Row := [(.ireturn, 1, [])]
def kb_293_155 : List ab_Row := [(.aload_n 0, 1, []), (.iload_n 2, 1, []), (.iload_n 3, 1, []), (.invokevirtual 133, 3, [600, 340, 3, 0, 1343, 1345, 29, 2]), (.ireturn, 1, [])]
def kb_293_162 : List ab_Row := [(.aload_n 0, 1, []), (.getfield 19, 3, [2, 1, 373]), (.iload_n 2, 1, []), (.iconst 2, 1, []), (.invokevirtual 130, 3, [600, 339, 3, 0, 1342, 1326, 1327, 6]), (.ireturn, 1, [])]
def kb_293_172 : List ab_Row := [(.aload_n 0, 1, []), (.aload_n 0, 1, []), (.getfield 27, 3, [2, 3, 375]), (.iload_n 2, 1, []), (.iload_n 3, 1, []), (.iload 4, 2, []), (.invokevirtual 136, 3, [600, 244, 4, 0, 1349, 1350, 1351, 8]), (.iload_n 3, 1, []), (.invokevirtual 142, 3, [600, 341, 3, 0, 1365, 1367, 31, 2]), (.ireturn, 1, [])]
def kt_293 : List (Nat × List ab_Row) := [(0, kb_293_0), (52, kb_293_52), (67, kb_293_67), (80, kb_293_80), (90, kb_293_90), (100, kb_293_100), (110, kb_293_110), (126, kb_293_126), (153, kb_293_153), (154, kb_293_154), (155, kb_293_155), (162, kb_293_162), (172, kb_293_172)]
def km_293 : ab_Mi := ((⟨"SorryPurses$Deeds", "act", "(IIII)Z"⟩ : MethodName), prog_4_method_9_code, 5, (Option.some FieldType.boolean), [], [])
-- 294: SorryPurses$Book.readLine (LSorryPurses$Tape;I)V
def kb_294_0 : List ab_Row := [(.aload_n 1, 1, []), (.iconst 0, 1, []), (.iload_n 2, 1, []), (.iconst 1, 1, []), (.isub, 1, []), (.invokevirtual 57, 3, [600, 323, 3, 0, 1385, 1175, 1176, 9]), (.istore_n 3, 1, []), (.aload_n 0, 1, []), (.getfield 43, 3, [0, 2, 250]), (.bipush 8, 2, []), (.if_icmp .lt 12, 3, [27]), (.aload_n 1, 1, []), (.iconst 3, 1, []), (.aload_n 1, 1, []), (.getfield 61, 3, [9, 4, 155]), (.invokevirtual 64, 3, [600, 290, 3, 0, 1386, 1162, 1163, 9])]
def kb_294_27 : List ab_Row := [(.aload_n 1, 1, []), (.invokevirtual 68, 3, [600, 201, 1, 0, 1387, 1167, 1168, 9]), (.ifCond .eq 4, 3, [35]), (.return_, 1, [])]
def kb_294_35 : List ab_Row := [(.aload_n 1, 1, []), (.bipush 45, 2, []), (.invokevirtual 71, 3, [600, 327, 2, 0, 1388, 1262, 1263, 9]), (.ifCond .eq 7, 3, [48]), (.iconst (-1), 1, []), (.goto 4, 3, [49])]
def kb_294_48 : List ab_Row := [(.iconst 1, 1, [])]
def kb_294_49 : List ab_Row := [(.istore 4, 2, []), (.aload_n 1, 1, []), (.iconst 0, 1, []), (.sipush 9999, 3, []), (.invokevirtual 57, 3, [600, 323, 3, 0, 1385, 1175, 1176, 9]), (.istore 5, 2, []), (.aload_n 1, 1, []), (.bipush 59, 2, []), (.invokevirtual 75, 3, [600, 324, 2, 0, 1389, 1192, 1193, 9]), (.aload_n 0, 1, []), (.getfield 43, 3, [0, 2, 250]), (.ifCond .lt 46, 3, [117]), (.aload_n 0, 1, []), (.getfield 43, 3, [0, 2, 250]), (.bipush 8, 2, []), (.if_icmp .ge 37, 3, [117]), (.aload_n 0, 1, []), (.getfield 9, 3, [0, 0, 248]), (.aload_n 0, 1, []), (.getfield 43, 3, [0, 2, 250]), (.iload_n 3, 1, []), (.iastore, 1, []), (.aload_n 0, 1, []), (.getfield 15, 3, [0, 1, 249]), (.aload_n 0, 1, []), (.getfield 43, 3, [0, 2, 250]), (.iload 4, 2, []), (.iload 5, 2, []), (.imul, 1, []), (.iastore, 1, []), (.aload_n 0, 1, []), (.dup, 1, []), (.getfield 43, 3, [0, 2, 250]), (.iconst 1, 1, []), (.iadd, 1, []), (.putfield 43, 3, [0, 2, 250, 0])]
def kb_294_117 : List ab_Row := [(.return_, 1, [])]
def kt_294 : List (Nat × List ab_Row) := [(0, kb_294_0), (27, kb_294_27), (35, kb_294_35), (48, kb_294_48), (49, kb_294_49), (117, kb_294_117)]
def km_294 : ab_Mi := ((⟨"SorryPurses$Book", "readLine", "(LSorryPurses$Tape;I)V"⟩ : MethodName), prog_2_method_3_code, 6, (Option.none : Option FieldType), [], [])
-- 295: SorryPurses$Ledger.copyFrom (LSorryPurses$Ledger;)V
def kb_295_0 : List ab_Row := [(.aload_n 1, 1, []), (.getfield 9, 3, [6, 0, 301]), (.iconst 0, 1, []), (.aload_n 0, 1, []), (.getfield 9, 3, [6, 0, 301]), (.iconst 0, 1, []), (.sipush 360, 3, []), (.invokestatic 31, 3, [1000, 571, 231, 230, 107]), (.aload_n 1, 1, []), (.getfield 15, 3, [6, 1, 302]), (.iconst 0, 1, []), (.aload_n 0, 1, []), (.getfield 15, 3, [6, 1, 302]), (.iconst 0, 1, []), (.iconst 5, 1, []), (.invokestatic 31, 3, [1000, 571, 231, 230, 107]), (.aload_n 0, 1, []), (.aload_n 1, 1, []), (.getfield 18, 3, [6, 2, 303]), (.putfield 18, 3, [6, 2, 303, 0]), (.aload_n 0, 1, []), (.aload_n 1, 1, []), (.getfield 22, 3, [6, 3, 309]), (.putfield 22, 3, [6, 3, 309, 0]), (.return_, 1, [])]
def kt_295 : List (Nat × List ab_Row) := [(0, kb_295_0)]
def km_295 : ab_Mi := ((⟨"SorryPurses$Ledger", "copyFrom", "(LSorryPurses$Ledger;)V"⟩ : MethodName), prog_8_method_3_code, 2, (Option.none : Option FieldType), [], [])
-- 296: SorryPurses$Judge.weighHeld (II)I
def kb_296_0 : List ab_Row := [(.aload_n 0, 1, []), (.getfield 11, 3, [4, 3, 332]), (.iconst 0, 1, []), (.aload_n 0, 1, []), (.getfield 32, 3, [4, 2, 331]), (.iconst 2, 1, []), (.iload_n 1, 1, []), (.invokevirtual 36, 3, [600, 231, 3, 0, 596, 589, 590, 6]), (.iastore, 1, []), (.aload_n 0, 1, []), (.getfield 11, 3, [4, 3, 332]), (.iconst 1, 1, []), (.aload_n 0, 1, []), (.getfield 32, 3, [4, 2, 331]), (.getfield 48, 3, [6, 3, 311]), (.aload_n 0, 1, []), (.getfield 32, 3, [4, 2, 331]), (.iconst 3, 1, []), (.iload_n 1, 1, []), (.invokevirtual 36, 3, [600, 231, 3, 0, 596, 589, 590, 6]), (.isub, 1, []), (.iastore, 1, []), (.aload_n 0, 1, []), (.getfield 11, 3, [4, 3, 332]), (.iconst 2, 1, []), (.aload_n 0, 1, []), (.getfield 24, 3, [4, 0, 329]), (.aload_n 0, 1, []), (.getfield 32, 3, [4, 2, 331]), (.iconst 0, 1, []), (.iload_n 1, 1, []), (.invokevirtual 36, 3, [600, 231, 3, 0, 596, 589, 590, 6]), (.invokevirtual 51, 3, [600, 233, 2, 0, 606, 607, 608, 10]), (.iastore, 1, []), (.aload_n 0, 1, []), (.getfield 11, 3, [4, 3, 332]), (.iconst 3, 1, []), (.aload_n 0, 1, []), (.getfield 24, 3, [4, 0, 329]), (.aload_n 0, 1, []), (.getfield 32, 3, [4, 2, 331]), (.iconst 1, 1, []), (.iload_n 1, 1, []), (.invokevirtual 36, 3, [600, 231, 3, 0, 596, 589, 590, 6]), (.invokevirtual 51, 3, [600, 233, 2, 0, 606, 607, 608, 10]), (.iastore, 1, []), (.aload_n 0, 1, []), (.getfield 11, 3, [4, 3, 332]), (.iconst 4, 1, []), (.aload_n 0, 1, []), (.getfield 32, 3, [4, 2, 331]), (.iconst 4, 1, []), (.iload_n 1, 1, []), (.invokevirtual 36, 3, [600, 231, 3, 0, 596, 589, 590, 6]), (.iastore, 1, []), (.aload_n 0, 1, []), (.getfield 11, 3, [4, 3, 332]), (.iconst 5, 1, []), (.aload_n 0, 1, []), (.getfield 32, 3, [4, 2, 331]), (.iconst 5, 1, []), (.iload_n 1, 1, []), (.invokevirtual 36, 3, [600, 231, 3, 0, 596, 589, 590, 6]), (.iastore, 1, []), (.aload_n 0, 1, []), (.getfield 11, 3, [4, 3, 332]), (.bipush 6, 2, []), (.aload_n 0, 1, []), (.getfield 32, 3, [4, 2, 331]), (.getfield 48, 3, [6, 3, 311]), (.iastore, 1, []), (.aload_n 0, 1, []), (.getfield 11, 3, [4, 3, 332]), (.bipush 7, 2, []), (.iload_n 2, 1, []), (.iastore, 1, []), (.aload_n 0, 1, []), (.getfield 28, 3, [4, 1, 330]), (.aload_n 0, 1, []), (.getfield 11, 3, [4, 3, 332]), (.invokevirtual 57, 3, [600, 297, 2, 0, 610, 611, 612, 5]), (.ireturn, 1, [])]
def kt_296 : List (Nat × List ab_Row) := [(0, kb_296_0)]
def km_296 : ab_Mi := ((⟨"SorryPurses$Judge", "weighHeld", "(II)I"⟩ : MethodName), prog_6_method_3_code, 3, (Option.some FieldType.int), [], [])
-- 297: SorryPurses$Law.meantBy ([I)I
def kb_297_0 : List ab_Row := [(.iconst 0, 1, []), (.istore_n 2, 1, []), (.iconst 0, 1, []), (.istore_n 3, 1, [])]
def kb_297_4 : List ab_Row := [(.iload_n 3, 1, []), (.aload_n 0, 1, []), (.getfield 27, 3, [5, 1, 233]), (.if_icmp .ge 129, 3, [138]), (.iload_n 3, 1, []), (.aload_n 0, 1, []), (.getfield 9, 3, [5, 0, 232]), (.arraylength, 1, []), (.if_icmp .ge 120, 3, [138]), (.aload_n 0, 1, []), (.getfield 9, 3, [5, 0, 232]), (.iload_n 3, 1, []), (.iaload, 1, []), (.istore 4, 2, []), (.iload 4, 2, []), (.sipush 1000, 3, []), (.isub, 1, []), (.istore 5, 2, []), (.iload 4, 2, []), (.sipush 2000, 3, []), (.if_icmp .ge 45, 3, [87]), (.iload_n 2, 1, []), (.aload_n 0, 1, []), (.getfield 15, 3, [5, 2, 234]), (.arraylength, 1, []), (.if_icmp .ge 36, 3, [87]), (.aload_n 0, 1, []), (.getfield 15, 3, [5, 2, 234]), (.iload_n 2, 1, []), (.iload 5, 2, []), (.ifCond .lt 17, 3, [78]), (.iload 5, 2, []), (.aload_n 1, 1, []), (.arraylength, 1, []), (.if_icmp .ge 10, 3, [78]), (.aload_n 1, 1, []), (.iload 5, 2, []), (.iaload, 1, []), (.goto 5, 3, [80])]
def kb_297_78 : List ab_Row := [(.iload 4, 2, [])]
def kb_297_80 : List ab_Row := [(.iastore, 1, []), (.iinc 2 1, 3, []), (.goto 48, 3, [132])]
def kb_297_87 : List ab_Row := [(.iload 4, 2, []), (.sipush 2000, 3, []), (.if_icmp .lt 40, 3, [132]), (.iload_n 2, 1, []), (.iconst 2, 1, []), (.if_icmp .lt 35, 3, [132]), (.aload_n 0, 1, []), (.getfield 15, 3, [5, 2, 234]), (.iload_n 2, 1, []), (.iconst 2, 1, []), (.isub, 1, []), (.iload 4, 2, []), (.aload_n 0, 1, []), (.getfield 15, 3, [5, 2, 234]), (.iload_n 2, 1, []), (.iconst 2, 1, []), (.isub, 1, []), (.iaload, 1, []), (.aload_n 0, 1, []), (.getfield 15, 3, [5, 2, 234]), (.iload_n 2, 1, []), (.iconst 1, 1, []), (.isub, 1, []), (.iaload, 1, []), (.invokestatic 90, 3, [600, 342, 3, 1, 614, 615, 0, 0]), (.iastore, 1, []), (.iinc 2 (-1), 3, [])]
def kb_297_132 : List ab_Row := [(.iinc 3 1, 3, []), (.goto (-131), 3, [4])]
def kb_297_138 : List ab_Row := [(.iconst 0, 1, []), (.bipush 99, 2, []), (.aload_n 0, 1, []), (.getfield 15, 3, [5, 2, 234]), (.iconst 0, 1, []), (.iaload, 1, []), (.invokestatic 94, 3, [710, 617, 618, 121, 619]), (.invokestatic 99, 3, [711, 620, 621, 121, 622]), (.ireturn, 1, [])]
def kt_297 : List (Nat × List ab_Row) := [(0, kb_297_0), (4, kb_297_4), (78, kb_297_78), (80, kb_297_80), (87, kb_297_87), (132, kb_297_132), (138, kb_297_138)]
def km_297 : ab_Mi := ((⟨"SorryPurses$Law", "meantBy", "([I)I"⟩ : MethodName), prog_7_method_9_code, 6, (Option.some FieldType.int), [], [])
-- 298: SorryPursesModel.by (III)I
def kb_298_0 : List ab_Row := [(.iload_n 0, 1, []), (.tableswitch 75 2 6 #[35, 39, 43, 47, 69], 35, [36, 40, 44, 48, 70, 76])]
def kb_298_36 : List ab_Row := [(.iload_n 1, 1, []), (.iload_n 2, 1, []), (.iadd, 1, []), (.ireturn, 1, [])]
def kb_298_40 : List ab_Row := [(.iload_n 1, 1, []), (.iload_n 2, 1, []), (.isub, 1, []), (.ireturn, 1, [])]
def kb_298_44 : List ab_Row := [(.iload_n 1, 1, []), (.iload_n 2, 1, []), (.imul, 1, []), (.ireturn, 1, [])]
def kb_298_48 : List ab_Row := [(.iload_n 2, 1, []), (.ifCond .ne 7, 3, [56]), (.iconst 0, 1, []), (.goto 16, 3, [69])]
def kb_298_56 : List ab_Row := [(.iload_n 2, 1, []), (.iconst (-1), 1, []), (.if_icmp .ne 8, 3, [66]), (.iload_n 1, 1, []), (.ineg, 1, []), (.goto 6, 3, [69])]
def kb_298_66 : List ab_Row := [(.iload_n 1, 1, []), (.iload_n 2, 1, []), (.idiv, 1, [])]
def kb_298_69 : List ab_Row := [(.ireturn, 1, [])]
def kb_298_70 : List ab_Row := [(.iload_n 1, 1, []), (.iload_n 2, 1, []), (.invokestatic 241, 3, [600, 192, 2, 1, 2099, 2100, 0, 0]), (.ireturn, 1, [])]
def kb_298_76 : List ab_Row := [(.iload_n 1, 1, []), (.iload_n 2, 1, []), (.invokestatic 244, 3, [600, 193, 2, 1, 2102, 2103, 0, 0]), (.ireturn, 1, [])]
def kt_298 : List (Nat × List ab_Row) := [(0, kb_298_0), (36, kb_298_36), (40, kb_298_40), (44, kb_298_44), (48, kb_298_48), (56, kb_298_56), (66, kb_298_66), (69, kb_298_69), (70, kb_298_70), (76, kb_298_76)]
def km_298 : ab_Mi := ((⟨"SorryPursesModel", "by", "(III)I"⟩ : MethodName), prog_14_method_35_code, 3, (Option.some FieldType.int), [], [])
-- 299: java/util/Arrays.fill ([JIIJ)V
def kb_299_0 : List ab_Row := [(.aload_n 0, 1, []), (.arraylength, 1, []), (.iload_n 1, 1, []), (.iload_n 2, 1, []), (.invokestatic 13, 3, [600, 308, 3, 1, 685, 686, 0, 0]), (.iload_n 1, 1, []), (.istore 5, 2, [])]
def kb_299_10 : List ab_Row := [(.iload 5, 2, []), (.iload_n 2, 1, []), (.if_icmp .ge 14, 3, [27]), (.aload_n 0, 1, []), (.iload 5, 2, []), (.lload_n 3, 1, []), (.lastore, 1, []), (.iinc 5 1, 3, []), (.goto (-14), 3, [10])]
def kb_299_27 : List ab_Row := [(.return_, 1, [])]
def kt_299 : List (Nat × List ab_Row) := [(0, kb_299_0), (10, kb_299_10), (27, kb_299_27)]
def km_299 : ab_Mi := ((⟨"java/util/Arrays", "fill", "([JIIJ)V"⟩ : MethodName), prog_36_method_102_code, 6, (Option.none : Option FieldType), [], [])
-- 300: SorryPurses$Purse.addChoice (III)V
def kb_300_0 : List ab_Row := [(.ldc2_w 50, 3, [0, 1099511627776, 1363]), (.lconst 1, 1, []), (.iload_n 1, 1, []), (.lshl, 1, []), (.ladd, 1, []), (.lstore 4, 2, []), (.iload_n 3, 1, []), (.istore 6, 2, [])]
def kb_300_12 : List ab_Row := [(.iload 6, 2, []), (.iload_n 2, 1, []), (.if_icmp .lt 88, 3, [103]), (.iload_n 2, 1, []), (.ifCond .le 84, 3, [103]), (.iload 6, 2, []), (.aload_n 0, 1, []), (.getfield 15, 3, [8, 2, 357]), (.arraylength, 1, []), (.if_icmp .ge 74, 3, [103]), (.aload_n 0, 1, []), (.getfield 15, 3, [8, 2, 357]), (.iload 6, 2, []), (.iload_n 2, 1, []), (.isub, 1, []), (.laload, 1, []), (.lstore 7, 2, []), (.lload 7, 2, []), (.lload 4, 2, []), (.ladd, 1, []), (.lstore 9, 2, []), (.lload 7, 2, []), (.lconst 0, 1, []), (.lcmp, 1, []), (.ifCond .lt 43, 3, [97]), (.aload_n 0, 1, []), (.getfield 15, 3, [8, 2, 357]), (.iload 6, 2, []), (.laload, 1, []), (.lconst 0, 1, []), (.lcmp, 1, []), (.ifCond .lt 22, 3, [88]), (.lload 9, 2, []), (.bipush 40, 2, []), (.lshr, 1, []), (.aload_n 0, 1, []), (.getfield 15, 3, [8, 2, 357]), (.iload 6, 2, []), (.laload, 1, []), (.bipush 40, 2, []), (.lshr, 1, []), (.lcmp, 1, []), (.ifCond .gt 12, 3, [97])]
def kb_300_88 : List ab_Row := [(.aload_n 0, 1, []), (.getfield 15, 3, [8, 2, 357]), (.iload 6, 2, []), (.lload 9, 2, []), (.lastore, 1, [])]
def kb_300_97 : List ab_Row := [(.iinc 6 (-1), 3, []), (.goto (-88), 3, [12])]
def kb_300_103 : List ab_Row := [(.return_, 1, [])]
def kt_300 : List (Nat × List ab_Row) := [(0, kb_300_0), (12, kb_300_12), (88, kb_300_88), (97, kb_300_97), (103, kb_300_103)]
def km_300 : ab_Mi := ((⟨"SorryPurses$Purse", "addChoice", "(III)V"⟩ : MethodName), prog_10_method_3_code, 11, (Option.none : Option FieldType), [], [])
-- 301: SorryPurses$Purse.reachAll (I)I
def kb_301_0 : List ab_Row := [(.aload_n 0, 1, []), (.getfield 11, 3, [8, 1, 356]), (.lconst 0, 1, []), (.invokestatic 52, 3, [600, 343, 2, 1, 1531, 1532, 0, 0]), (.aload_n 0, 1, []), (.getfield 11, 3, [8, 1, 356]), (.iconst 0, 1, []), (.lconst 1, 1, []), (.lastore, 1, []), (.iconst 0, 1, []), (.istore_n 2, 1, []), (.iconst 0, 1, []), (.istore_n 3, 1, [])]
def kb_301_19 : List ab_Row := [(.iload_n 3, 1, []), (.aload_n 0, 1, []), (.getfield 18, 3, [8, 0, 355]), (.getfield 30, 3, [6, 2, 304]), (.if_icmp .ge 68, 3, [95]), (.aload_n 0, 1, []), (.getfield 18, 3, [8, 0, 355]), (.iload_n 3, 1, []), (.invokevirtual 36, 3, [600, 263, 2, 0, 1357, 585, 586, 6]), (.ifCond .eq 51, 3, [89]), (.aload_n 0, 1, []), (.getfield 18, 3, [8, 0, 355]), (.iconst 1, 1, []), (.iload_n 3, 1, []), (.invokevirtual 40, 3, [600, 231, 3, 0, 1358, 589, 590, 6]), (.iload_n 1, 1, []), (.if_icmp .ne 38, 3, [89]), (.iload_n 2, 1, []), (.aload_n 0, 1, []), (.getfield 18, 3, [8, 0, 355]), (.iconst 2, 1, []), (.iload_n 3, 1, []), (.invokevirtual 40, 3, [600, 231, 3, 0, 1358, 589, 590, 6]), (.iadd, 1, []), (.istore_n 2, 1, []), (.aload_n 0, 1, []), (.aload_n 0, 1, []), (.getfield 18, 3, [8, 0, 355]), (.iconst 2, 1, []), (.iload_n 3, 1, []), (.invokevirtual 40, 3, [600, 231, 3, 0, 1358, 589, 590, 6]), (.iload_n 2, 1, []), (.bipush 64, 2, []), (.idiv, 1, []), (.sipush 312, 3, []), (.invokestatic 55, 3, [710, 1534, 618, 121, 619]), (.invokevirtual 60, 3, [600, 344, 3, 0, 1535, 1537, 36, 8])]
def kb_301_89 : List ab_Row := [(.iinc 3 1, 3, []), (.goto (-73), 3, [19])]
def kb_301_95 : List ab_Row := [(.iload_n 2, 1, []), (.ireturn, 1, [])]
def kt_301 : List (Nat × List ab_Row) := [(0, kb_301_0), (19, kb_301_19), (89, kb_301_89), (95, kb_301_95)]
def km_301 : ab_Mi := ((⟨"SorryPurses$Purse", "reachAll", "(I)I"⟩ : MethodName), prog_10_method_4_code, 4, (Option.some FieldType.int), [], [])
-- 302: SorryPurses$Purse.canMake (I)Z
def kb_302_0 : List ab_Row := [(.iload_n 1, 1, []), (.ifCond .lt 35, 3, [36]), (.iload_n 1, 1, []), (.sipush 20032, 3, []), (.if_icmp .ge 28, 3, [36]), (.aload_n 0, 1, []), (.getfield 11, 3, [8, 1, 356]), (.iload_n 1, 1, []), (.bipush 6, 2, []), (.ishr, 1, []), (.laload, 1, []), (.iload_n 1, 1, []), (.bipush 63, 2, []), (.iand, 1, []), (.lushr, 1, []), (.lconst 1, 1, []), (.land, 1, []), (.lconst 0, 1, []), (.lcmp, 1, []), (.ifCond .eq 7, 3, [36]), (.iconst 1, 1, []), (.goto 4, 3, [37])]
def kb_302_36 : List ab_Row := [(.iconst 0, 1, [])]
def kb_302_37 : List ab_Row := [(.ireturn, 1, [])]
def kt_302 : List (Nat × List ab_Row) := [(0, kb_302_0), (36, kb_302_36), (37, kb_302_37)]
def km_302 : ab_Mi := ((⟨"SorryPurses$Purse", "canMake", "(I)Z"⟩ : MethodName), prog_10_method_6_code, 2, (Option.some FieldType.boolean), [], [])
-- 303: java/lang/Integer.bitCount (I)I
def kb_303_0 : List ab_Row := [(.iload_n 0, 1, []), (.iload_n 0, 1, []), (.iconst 1, 1, []), (.iushr, 1, []), (.ldc_w 265, 3, [0, 1431655765, 1568]), (.iand, 1, []), (.isub, 1, []), (.istore_n 0, 1, []), (.iload_n 0, 1, []), (.ldc_w 266, 3, [0, 858993459, 1569]), (.iand, 1, []), (.iload_n 0, 1, []), (.iconst 2, 1, []), (.iushr, 1, []), (.ldc_w 266, 3, [0, 858993459, 1569]), (.iand, 1, []), (.iadd, 1, []), (.istore_n 0, 1, []), (.iload_n 0, 1, []), (.iload_n 0, 1, []), (.iconst 4, 1, []), (.iushr, 1, []), (.iadd, 1, []), (.ldc_w 267, 3, [0, 252645135, 1570]), (.iand, 1, []), (.istore_n 0, 1, []), (.iload_n 0, 1, []), (.iload_n 0, 1, []), (.bipush 8, 2, []), (.iushr, 1, []), (.iadd, 1, []), (.istore_n 0, 1, []), (.iload_n 0, 1, []), (.iload_n 0, 1, []), (.bipush 16, 2, []), (.iushr, 1, []), (.iadd, 1, []), (.istore_n 0, 1, []), (.iload_n 0, 1, []), (.bipush 63, 2, []), (.iand, 1, []), (.ireturn, 1, [])]
def kt_303 : List (Nat × List ab_Row) := [(0, kb_303_0)]
def km_303 : ab_Mi := ((⟨"java/lang/Integer", "bitCount", "(I)I"⟩ : MethodName), prog_24_method_49_code, 1, (Option.some FieldType.int), [], [])
-- 304: SorryPurses$Crowd.isGroupOf (II)Z
def kb_304_0 : List ab_Row := [(.iload_n 1, 1, []), (.iload_n 2, 1, []), (.iand, 1, []), (.iload_n 2, 1, []), (.ineg, 1, []), (.iand, 1, []), (.ifCond .eq 24, 3, [30]), (.iload_n 1, 1, []), (.iload_n 2, 1, []), (.iconst (-1), 1, []), (.ixor, 1, []), (.iand, 1, []), (.ifCond .ne 16, 3, [30]), (.aload_n 0, 1, []), (.getfield 11, 3, [1, 3, 404]), (.iload_n 1, 1, []), (.iaload, 1, []), (.ifCond .ne 7, 3, [30]), (.iconst 1, 1, []), (.goto 4, 3, [31])]
def kb_304_30 : List ab_Row := [(.iconst 0, 1, [])]
def kb_304_31 : List ab_Row := [(.ireturn, 1, [])]
def kt_304 : List (Nat × List ab_Row) := [(0, kb_304_0), (30, kb_304_30), (31, kb_304_31)]
def km_304 : ab_Mi := ((⟨"SorryPurses$Crowd", "isGroupOf", "(II)Z"⟩ : MethodName), prog_3_method_6_code, 3, (Option.some FieldType.boolean), [], [])
-- 305: SorryPurses$Crowd.firstGroup (I)I
def kb_305_0 : List ab_Row := [(.iconst 1, 1, []), (.istore_n 2, 1, [])]
def kb_305_2 : List ab_Row := [(.iload_n 2, 1, []), (.iload_n 1, 1, []), (.if_icmp .ge 39, 3, [43]), (.aload_n 0, 1, []), (.iload_n 2, 1, []), (.iload_n 1, 1, []), (.invokevirtual 73, 3, [600, 304, 3, 0, 643, 645, 2, 1]), (.ifCond .eq 24, 3, [37]), (.iconst 1, 1, []), (.aload_n 0, 1, []), (.getfield 15, 3, [1, 4, 405]), (.iload_n 1, 1, []), (.iload_n 2, 1, []), (.ixor, 1, []), (.iaload, 1, []), (.iadd, 1, []), (.aload_n 0, 1, []), (.getfield 15, 3, [1, 4, 405]), (.iload_n 1, 1, []), (.iaload, 1, []), (.if_icmp .ne 5, 3, [37]), (.iload_n 2, 1, []), (.ireturn, 1, [])]
def kb_305_37 : List ab_Row := [(.iinc 2 1, 3, []), (.goto (-38), 3, [2])]
def kb_305_43 : List ab_Row := [(.iload_n 1, 1, []), (.ireturn, 1, [])]
def kt_305 : List (Nat × List ab_Row) := [(0, kb_305_0), (2, kb_305_2), (37, kb_305_37), (43, kb_305_43)]
def km_305 : ab_Mi := ((⟨"SorryPurses$Crowd", "firstGroup", "(I)I"⟩ : MethodName), prog_3_method_8_code, 3, (Option.some FieldType.int), [], [])
-- 306: java/util/Arrays.fill ([II)V
def kb_306_0 : List ab_Row := [(.iconst 0, 1, []), (.istore_n 2, 1, []), (.aload_n 0, 1, []), (.arraylength, 1, []), (.istore_n 3, 1, [])]
def kb_306_5 : List ab_Row := [(.iload_n 2, 1, []), (.iload_n 3, 1, []), (.if_icmp .ge 13, 3, [20]), (.aload_n 0, 1, []), (.iload_n 2, 1, []), (.iload_n 1, 1, []), (.iastore, 1, []), (.iinc 2 1, 3, []), (.goto (-12), 3, [5])]
def kb_306_20 : List ab_Row := [(.return_, 1, [])]
def kt_306 : List (Nat × List ab_Row) := [(0, kb_306_0), (5, kb_306_5), (20, kb_306_20)]
def km_306 : ab_Mi := ((⟨"java/util/Arrays", "fill", "([II)V"⟩ : MethodName), prog_36_method_103_code, 4, (Option.none : Option FieldType), [], [])
-- 307: SorryPurses$Crowd.sizeOf (I)I
def kb_307_0 : List ab_Row := [(.iload_n 1, 1, []), (.iconst (-1), 1, []), (.if_icmp .ne 7, 3, [9]), (.iconst 0, 1, []), (.goto 12, 3, [18])]
def kb_307_9 : List ab_Row := [(.aload_n 0, 1, []), (.getfield 34, 3, [1, 1, 402]), (.iconst 2, 1, []), (.iload_n 1, 1, []), (.invokevirtual 110, 3, [600, 231, 3, 0, 675, 589, 590, 6])]
def kb_307_18 : List ab_Row := [(.ireturn, 1, [])]
def kt_307 : List (Nat × List ab_Row) := [(0, kb_307_0), (9, kb_307_9), (18, kb_307_18)]
def km_307 : ab_Mi := ((⟨"SorryPurses$Crowd", "sizeOf", "(I)I"⟩ : MethodName), prog_3_method_13_code, 2, (Option.some FieldType.int), [], [])
-- 308: java/util/Arrays.rangeCheck (III)V
def kb_308_0 : List ab_Row := [(.iload_n 1, 1, []), (.iload_n 2, 1, []), (.if_icmp .le 44, 3, [46])]
def kb_308_46 : List ab_Row := [(.iload_n 1, 1, []), (.ifCond .ge 12, 3, [59])]
def kb_308_59 : List ab_Row := [(.iload_n 2, 1, []), (.iload_n 0, 1, []), (.if_icmp .le 12, 3, [73])]
def kb_308_73 : List ab_Row := [(.return_, 1, [])]
def kt_308 : List (Nat × List ab_Row) := [(0, kb_308_0), (46, kb_308_46), (59, kb_308_59), (73, kb_308_73)]
def km_308 : ab_Mi := ((⟨"java/util/Arrays", "rangeCheck", "(III)V"⟩ : MethodName), prog_36_method_30_code, 3, (Option.none : Option FieldType), [], [])
-- 309: SorryPurses$Crowd.mostWith (III)I
def kb_309_0 : List ab_Row := [(.aload_n 0, 1, []), (.aload_n 0, 1, []), (.getfield 21, 3, [1, 8, 410]), (.iload_n 1, 1, []), (.bipush 8, 2, []), (.imul, 1, []), (.iload_n 2, 1, []), (.iadd, 1, []), (.iaload, 1, []), (.invokevirtual 119, 3, [600, 307, 2, 0, 677, 679, 6, 1]), (.aload_n 0, 1, []), (.getfield 27, 3, [1, 10, 412]), (.iload_n 1, 1, []), (.iconst 1, 1, []), (.iadd, 1, []), (.sipush 256, 3, []), (.imul, 1, []), (.iload_n 3, 1, []), (.iconst 1, 1, []), (.iload_n 2, 1, []), (.ishl, 1, []), (.ior, 1, []), (.iadd, 1, []), (.iaload, 1, []), (.iadd, 1, []), (.ireturn, 1, [])]
def kt_309 : List (Nat × List ab_Row) := [(0, kb_309_0)]
def km_309 : ab_Mi := ((⟨"SorryPurses$Crowd", "mostWith", "(III)I"⟩ : MethodName), prog_3_method_15_code, 4, (Option.some FieldType.int), [], [])
-- 310: SorryPurses$Crowd.firstHearer (II)I
def kb_310_0 : List ab_Row := [(.aload_n 0, 1, []), (.getfield 27, 3, [1, 10, 412]), (.iload_n 1, 1, []), (.sipush 256, 3, []), (.imul, 1, []), (.iload_n 2, 1, []), (.iadd, 1, []), (.iaload, 1, []), (.istore_n 3, 1, []), (.aload_n 0, 1, []), (.getfield 27, 3, [1, 10, 412]), (.iload_n 1, 1, []), (.iconst 1, 1, []), (.iadd, 1, []), (.sipush 256, 3, []), (.imul, 1, []), (.iload_n 2, 1, []), (.iadd, 1, []), (.iaload, 1, []), (.iload_n 3, 1, []), (.if_icmp .ne 5, 3, [33]), (.iconst (-1), 1, []), (.ireturn, 1, [])]
def kb_310_33 : List ab_Row := [(.iconst 0, 1, []), (.istore 4, 2, [])]
def kb_310_36 : List ab_Row := [(.iload 4, 2, []), (.bipush 8, 2, []), (.if_icmp .ge 61, 3, [101]), (.aload_n 0, 1, []), (.getfield 21, 3, [1, 8, 410]), (.iload_n 1, 1, []), (.bipush 8, 2, []), (.imul, 1, []), (.iload 4, 2, []), (.iadd, 1, []), (.iaload, 1, []), (.iconst (-1), 1, []), (.if_icmp .eq 16, 3, [72]), (.iload_n 2, 1, []), (.iload 4, 2, []), (.ishr, 1, []), (.iconst 1, 1, []), (.iand, 1, []), (.ifCond .ne 7, 3, [72]), (.iconst 1, 1, []), (.goto 4, 3, [73])]
def kb_310_72 : List ab_Row := [(.iconst 0, 1, [])]
def kb_310_73 : List ab_Row := [(.istore 5, 2, []), (.iload 5, 2, []), (.ifCond .eq 18, 3, [95]), (.aload_n 0, 1, []), (.iload_n 1, 1, []), (.iload 4, 2, []), (.iload_n 2, 1, []), (.invokevirtual 122, 3, [600, 309, 4, 0, 992, 994, 9, 1]), (.iload_n 3, 1, []), (.if_icmp .ne 6, 3, [95]), (.iload 4, 2, []), (.ireturn, 1, [])]
def kb_310_95 : List ab_Row := [(.iinc 4 1, 3, []), (.goto (-62), 3, [36])]
def kb_310_101 : List ab_Row := [(.iconst (-1), 1, []), (.ireturn, 1, [])]
def kt_310 : List (Nat × List ab_Row) := [(0, kb_310_0), (33, kb_310_33), (36, kb_310_36), (72, kb_310_72), (73, kb_310_73), (95, kb_310_95), (101, kb_310_101)]
def km_310 : ab_Mi := ((⟨"SorryPurses$Crowd", "firstHearer", "(II)I"⟩ : MethodName), prog_3_method_17_code, 6, (Option.some FieldType.int), [], [])
-- 311: SorryPurses$Book.gather (LSorryPurses$Ledger;)V
def kb_311_0 : List ab_Row := [(.aload_n 0, 1, []), (.iconst 0, 1, []), (.putfield 109, 3, [0, 7, 256, 0]), (.iconst 0, 1, []), (.istore_n 2, 1, [])]
def kb_311_7 : List ab_Row := [(.iload_n 2, 1, []), (.aload_n 1, 1, []), (.getfield 120, 3, [6, 2, 307]), (.if_icmp .ge 91, 3, [103]), (.aload_n 1, 1, []), (.iload_n 2, 1, []), (.invokevirtual 123, 3, [600, 263, 2, 0, 1618, 585, 586, 6]), (.ifCond .eq 77, 3, [97]), (.aload_n 0, 1, []), (.getfield 109, 3, [0, 7, 256]), (.bipush 16, 2, []), (.if_icmp .ge 68, 3, [97]), (.aload_n 0, 1, []), (.getfield 18, 3, [0, 3, 252]), (.aload_n 0, 1, []), (.getfield 109, 3, [0, 7, 256]), (.iload_n 2, 1, []), (.iastore, 1, []), (.aload_n 0, 1, []), (.getfield 21, 3, [0, 4, 253]), (.aload_n 0, 1, []), (.getfield 109, 3, [0, 7, 256]), (.aload_n 1, 1, []), (.iconst 0, 1, []), (.iload_n 2, 1, []), (.invokevirtual 127, 3, [600, 231, 3, 0, 1619, 589, 590, 6]), (.iastore, 1, []), (.aload_n 0, 1, []), (.getfield 24, 3, [0, 5, 254]), (.aload_n 0, 1, []), (.getfield 109, 3, [0, 7, 256]), (.aload_n 1, 1, []), (.iconst 1, 1, []), (.iload_n 2, 1, []), (.invokevirtual 127, 3, [600, 231, 3, 0, 1619, 589, 590, 6]), (.iastore, 1, []), (.aload_n 0, 1, []), (.getfield 27, 3, [0, 6, 255]), (.aload_n 0, 1, []), (.getfield 109, 3, [0, 7, 256]), (.aload_n 1, 1, []), (.iconst 2, 1, []), (.iload_n 2, 1, []), (.invokevirtual 127, 3, [600, 231, 3, 0, 1619, 589, 590, 6]), (.iastore, 1, []), (.aload_n 0, 1, []), (.dup, 1, []), (.getfield 109, 3, [0, 7, 256]), (.iconst 1, 1, []), (.iadd, 1, []), (.putfield 109, 3, [0, 7, 256, 0])]
def kb_311_97 : List ab_Row := [(.iinc 2 1, 3, []), (.goto (-93), 3, [7])]
def kb_311_103 : List ab_Row := [(.return_, 1, [])]
def kt_311 : List (Nat × List ab_Row) := [(0, kb_311_0), (7, kb_311_7), (97, kb_311_97), (103, kb_311_103)]
def km_311 : ab_Mi := ((⟨"SorryPurses$Book", "gather", "(LSorryPurses$Ledger;)V"⟩ : MethodName), prog_2_method_8_code, 3, (Option.none : Option FieldType), [], [])
-- 312: SorryPurses$Book.fillNeeded (LSorryPurses$Ledger;)Z
def kb_312_0 : List ab_Row := [(.aload_n 0, 1, []), (.getfield 34, 3, [0, 9, 258]), (.iconst 0, 1, []), (.invokestatic 130, 3, [600, 306, 2, 1, 1624, 673, 0, 0]), (.iconst 0, 1, []), (.istore_n 2, 1, [])]
def kb_312_10 : List ab_Row := [(.iload_n 2, 1, []), (.bipush 8, 2, []), (.if_icmp .ge 16, 3, [29]), (.aload_n 0, 1, []), (.getfield 30, 3, [0, 8, 257]), (.iload_n 2, 1, []), (.iconst 0, 1, []), (.bastore, 1, []), (.iinc 2 1, 3, []), (.goto (-16), 3, [10])]
def kb_312_29 : List ab_Row := [(.iconst 0, 1, []), (.istore_n 2, 1, [])]
def kb_312_31 : List ab_Row := [(.iload_n 2, 1, []), (.aload_n 0, 1, []), (.getfield 43, 3, [0, 2, 250]), (.if_icmp .ge 86, 3, [122]), (.iload_n 2, 1, []), (.bipush 8, 2, []), (.if_icmp .ge 80, 3, [122]), (.aload_n 0, 1, []), (.getfield 9, 3, [0, 0, 248]), (.iload_n 2, 1, []), (.iaload, 1, []), (.istore_n 3, 1, []), (.iload_n 3, 1, []), (.ifCond .lt 9, 3, [62]), (.iload_n 3, 1, []), (.bipush 8, 2, []), (.if_icmp .lt 5, 3, [64])]
def kb_312_62 : List ab_Row := [(.iconst 0, 1, []), (.ireturn, 1, [])]
def kb_312_64 : List ab_Row := [(.aload_n 1, 1, []), (.iload_n 3, 1, []), (.iconst 0, 1, []), (.invokevirtual 85, 3, [600, 186, 3, 0, 1016, 632, 633, 6]), (.aload_n 0, 1, []), (.getfield 15, 3, [0, 1, 249]), (.iload_n 2, 1, []), (.iaload, 1, []), (.isub, 1, []), (.istore 4, 2, []), (.aload_n 0, 1, []), (.getfield 30, 3, [0, 8, 257]), (.iload_n 3, 1, []), (.baload, 1, []), (.ifCond .eq 16, 3, [101]), (.aload_n 0, 1, []), (.getfield 34, 3, [0, 9, 258]), (.iload_n 3, 1, []), (.iaload, 1, []), (.iload 4, 2, []), (.if_icmp .eq 5, 3, [101]), (.iconst 0, 1, []), (.ireturn, 1, [])]
def kb_312_101 : List ab_Row := [(.aload_n 0, 1, []), (.getfield 30, 3, [0, 8, 257]), (.iload_n 3, 1, []), (.iconst 1, 1, []), (.bastore, 1, []), (.aload_n 0, 1, []), (.getfield 34, 3, [0, 9, 258]), (.iload_n 3, 1, []), (.iload 4, 2, []), (.iastore, 1, []), (.iinc 2 1, 3, []), (.goto (-88), 3, [31])]
def kb_312_122 : List ab_Row := [(.iconst 1, 1, []), (.ireturn, 1, [])]
def kt_312 : List (Nat × List ab_Row) := [(0, kb_312_0), (10, kb_312_10), (29, kb_312_29), (31, kb_312_31), (62, kb_312_62), (64, kb_312_64), (101, kb_312_101), (122, kb_312_122)]
def km_312 : ab_Mi := ((⟨"SorryPurses$Book", "fillNeeded", "(LSorryPurses$Ledger;)Z"⟩ : MethodName), prog_2_method_9_code, 5, (Option.some FieldType.boolean), [], [])
-- 313: SorryPurses$Book.fillBounds ()V
def kb_313_0 : List ab_Row := [(.aload_n 0, 1, []), (.getfield 37, 3, [0, 10, 259]), (.iconst 0, 1, []), (.bipush 8, 2, []), (.iconst 0, 1, []), (.invokestatic 136, 3, [600, 253, 4, 1, 1629, 683, 0, 0]), (.aload_n 0, 1, []), (.getfield 40, 3, [0, 11, 260]), (.iconst 0, 1, []), (.bipush 8, 2, []), (.iconst 0, 1, []), (.invokestatic 136, 3, [600, 253, 4, 1, 1629, 683, 0, 0]), (.iconst 0, 1, []), (.istore_n 1, 1, [])]
def kb_313_24 : List ab_Row := [(.iload_n 1, 1, []), (.aload_n 0, 1, []), (.getfield 109, 3, [0, 7, 256]), (.if_icmp .ge 116, 3, [145]), (.iload_n 1, 1, []), (.bipush 16, 2, []), (.if_icmp .ge 110, 3, [145]), (.iload_n 1, 1, []), (.iconst 1, 1, []), (.iadd, 1, []), (.bipush 8, 2, []), (.imul, 1, []), (.istore_n 2, 1, []), (.iconst 0, 1, []), (.istore_n 3, 1, [])]
def kb_313_47 : List ab_Row := [(.iload_n 3, 1, []), (.bipush 8, 2, []), (.if_icmp .ge 89, 3, [139]), (.aload_n 0, 1, []), (.getfield 37, 3, [0, 10, 259]), (.iload_n 2, 1, []), (.iload_n 3, 1, []), (.iadd, 1, []), (.aload_n 0, 1, []), (.getfield 37, 3, [0, 10, 259]), (.iload_n 2, 1, []), (.iload_n 3, 1, []), (.iadd, 1, []), (.bipush 8, 2, []), (.isub, 1, []), (.iaload, 1, []), (.aload_n 0, 1, []), (.getfield 21, 3, [0, 4, 253]), (.iload_n 1, 1, []), (.iaload, 1, []), (.iload_n 3, 1, []), (.if_icmp .ne 12, 3, [90]), (.aload_n 0, 1, []), (.getfield 27, 3, [0, 6, 255]), (.iload_n 1, 1, []), (.iaload, 1, []), (.goto 4, 3, [91])]
def kb_313_90 : List ab_Row := [(.iconst 0, 1, [])]
def kb_313_91 : List ab_Row := [(.isub, 1, []), (.iastore, 1, []), (.aload_n 0, 1, []), (.getfield 40, 3, [0, 11, 260]), (.iload_n 2, 1, []), (.iload_n 3, 1, []), (.iadd, 1, []), (.aload_n 0, 1, []), (.getfield 40, 3, [0, 11, 260]), (.iload_n 2, 1, []), (.iload_n 3, 1, []), (.iadd, 1, []), (.bipush 8, 2, []), (.isub, 1, []), (.iaload, 1, []), (.aload_n 0, 1, []), (.getfield 24, 3, [0, 5, 254]), (.iload_n 1, 1, []), (.iaload, 1, []), (.iload_n 3, 1, []), (.if_icmp .ne 12, 3, [130]), (.aload_n 0, 1, []), (.getfield 27, 3, [0, 6, 255]), (.iload_n 1, 1, []), (.iaload, 1, []), (.goto 4, 3, [131])]
def kb_313_130 : List ab_Row := [(.iconst 0, 1, [])]
def kb_313_131 : List ab_Row := [(.iadd, 1, []), (.iastore, 1, []), (.iinc 3 1, 3, []), (.goto (-89), 3, [47])]
def kb_313_139 : List ab_Row := [(.iinc 1 1, 3, []), (.goto (-118), 3, [24])]
def kb_313_145 : List ab_Row := [(.return_, 1, [])]
def kt_313 : List (Nat × List ab_Row) := [(0, kb_313_0), (24, kb_313_24), (47, kb_313_47), (90, kb_313_90), (91, kb_313_91), (130, kb_313_130), (131, kb_313_131), (139, kb_313_139), (145, kb_313_145)]
def km_313 : ab_Mi := ((⟨"SorryPurses$Book", "fillBounds", "()V"⟩ : MethodName), prog_2_method_10_code, 4, (Option.none : Option FieldType), [], [])
-- 314: SorryPurses$Book.canFit (II)Z
def kb_314_0 : List ab_Row := [(.iload_n 2, 1, []), (.iconst 0, 1, []), (.bipush 7, 2, []), (.invokestatic 139, 3, [600, 240, 3, 3, 1634, 1502, 0, 0]), (.ifCond .eq 13, 3, [20]), (.iload_n 1, 1, []), (.iconst 0, 1, []), (.bipush 16, 2, []), (.invokestatic 139, 3, [600, 240, 3, 3, 1634, 1502, 0, 0]), (.ifCond .ne 5, 3, [22])]
def kb_314_20 : List ab_Row := [(.iconst 0, 1, []), (.ireturn, 1, [])]
def kb_314_22 : List ab_Row := [(.iload_n 1, 1, []), (.bipush 8, 2, []), (.imul, 1, []), (.iload_n 2, 1, []), (.iadd, 1, []), (.istore_n 3, 1, []), (.aload_n 0, 1, []), (.getfield 30, 3, [0, 8, 257]), (.iload_n 2, 1, []), (.baload, 1, []), (.ifCond .eq 33, 3, [68]), (.aload_n 0, 1, []), (.getfield 37, 3, [0, 10, 259]), (.iload_n 3, 1, []), (.iaload, 1, []), (.aload_n 0, 1, []), (.getfield 34, 3, [0, 9, 258]), (.iload_n 2, 1, []), (.iaload, 1, []), (.if_icmp .gt 22, 3, [72]), (.aload_n 0, 1, []), (.getfield 34, 3, [0, 9, 258]), (.iload_n 2, 1, []), (.iaload, 1, []), (.aload_n 0, 1, []), (.getfield 40, 3, [0, 11, 260]), (.iload_n 3, 1, []), (.iaload, 1, []), (.if_icmp .gt 7, 3, [72])]
def kb_314_68 : List ab_Row := [(.iconst 1, 1, []), (.goto 4, 3, [73])]
def kb_314_72 : List ab_Row := [(.iconst 0, 1, [])]
def kb_314_73 : List ab_Row := [(.ireturn, 1, [])]
def kt_314 : List (Nat × List ab_Row) := [(0, kb_314_0), (20, kb_314_20), (22, kb_314_22), (68, kb_314_68), (72, kb_314_72), (73, kb_314_73)]
def km_314 : ab_Mi := ((⟨"SorryPurses$Book", "canFit", "(II)Z"⟩ : MethodName), prog_2_method_11_code, 4, (Option.some FieldType.boolean), [], [])
-- 315: SorryPurses$Book.seek (LSorryPurses$Book;IIJ)V
def kb_315_0 : List ab_Row := [(.iload_n 2, 1, []), (.aload_n 0, 1, []), (.getfield 91, 3, [0, 12, 261]), (.if_icmp .ge 9, 3, [14]), (.iload_n 1, 1, []), (.bipush 16, 2, []), (.if_icmp .le 4, 3, [15])]
def kb_315_14 : List ab_Row := [(.return_, 1, [])]
def kb_315_15 : List ab_Row := [(.iload_n 1, 1, []), (.ifCond .gt 14, 3, [30]), (.aload_n 0, 1, []), (.iload_n 2, 1, []), (.putfield 91, 3, [0, 12, 261, 0]), (.aload_n 0, 1, []), (.lload_n 3, 1, []), (.putfield 94, 3, [0, 13, 263, 0]), (.return_, 1, [])]
def kb_315_30 : List ab_Row := [(.iload_n 1, 1, []), (.iconst 1, 1, []), (.isub, 1, []), (.istore 5, 2, []), (.aload_n 0, 1, []), (.iload 5, 2, []), (.aload_n 0, 1, []), (.getfield 21, 3, [0, 4, 253]), (.iload 5, 2, []), (.iaload, 1, []), (.invokevirtual 112, 3, [600, 314, 3, 0, 1630, 1632, 42, 0]), (.ifCond .eq 27, 3, [75]), (.aload_n 0, 1, []), (.iload 5, 2, []), (.aload_n 0, 1, []), (.getfield 24, 3, [0, 5, 254]), (.iload 5, 2, []), (.iaload, 1, []), (.invokevirtual 112, 3, [600, 314, 3, 0, 1630, 1632, 42, 0]), (.ifCond .eq 11, 3, [75]), (.aload_n 0, 1, []), (.iload 5, 2, []), (.iload_n 2, 1, []), (.lload_n 3, 1, []), (.invokestatic 116, 3, [600, 315, 4, 1, 1635, 1636, 0, 0])]
def kb_315_75 : List ab_Row := [(.aload_n 0, 1, []), (.iload 5, 2, []), (.iconst 1, 1, []), (.invokevirtual 143, 3, [600, 345, 3, 0, 1638, 1640, 43, 0]), (.aload_n 0, 1, []), (.iload 5, 2, []), (.aload_n 0, 1, []), (.getfield 21, 3, [0, 4, 253]), (.iload 5, 2, []), (.iaload, 1, []), (.invokevirtual 112, 3, [600, 314, 3, 0, 1630, 1632, 42, 0]), (.ifCond .eq 39, 3, [134]), (.aload_n 0, 1, []), (.iload 5, 2, []), (.aload_n 0, 1, []), (.getfield 24, 3, [0, 5, 254]), (.iload 5, 2, []), (.iaload, 1, []), (.invokevirtual 112, 3, [600, 314, 3, 0, 1630, 1632, 42, 0]), (.ifCond .eq 23, 3, [134]), (.aload_n 0, 1, []), (.iload 5, 2, []), (.iload_n 2, 1, []), (.iconst 1, 1, []), (.iadd, 1, []), (.lload_n 3, 1, []), (.lconst 1, 1, []), (.aload_n 0, 1, []), (.getfield 18, 3, [0, 3, 252]), (.iload 5, 2, []), (.iaload, 1, []), (.lshl, 1, []), (.lor, 1, []), (.invokestatic 116, 3, [600, 315, 4, 1, 1635, 1636, 0, 0])]
def kb_315_134 : List ab_Row := [(.aload_n 0, 1, []), (.iload 5, 2, []), (.iconst (-1), 1, []), (.invokevirtual 143, 3, [600, 345, 3, 0, 1638, 1640, 43, 0]), (.return_, 1, [])]
def kt_315 : List (Nat × List ab_Row) := [(0, kb_315_0), (14, kb_315_14), (15, kb_315_15), (30, kb_315_30), (75, kb_315_75), (134, kb_315_134)]
def km_315 : ab_Mi := ((⟨"SorryPurses$Book", "seek", "(LSorryPurses$Book;IIJ)V"⟩ : MethodName), prog_2_method_13_code, 6, (Option.none : Option FieldType), [], [])
-- 316: SorryPurses$Months.draw (I)I
def kb_316_0 : List ab_Row := [(.aload_n 0, 1, []), (.aload_n 0, 1, []), (.getfield 29, 3, [7, 3, 448]), (.ldc 59, 2, [0, 1103515245, 1780]), (.imul, 1, []), (.sipush 12345, 3, []), (.iadd, 1, []), (.putfield 29, 3, [7, 3, 448, 0]), (.aload_n 0, 1, []), (.getfield 29, 3, [7, 3, 448]), (.bipush 16, 2, []), (.iushr, 1, []), (.sipush 32767, 3, []), (.iand, 1, []), (.istore_n 2, 1, []), (.iload_n 1, 1, []), (.ifCond .le 9, 3, [37]), (.iload_n 2, 1, []), (.iload_n 1, 1, []), (.irem, 1, []), (.goto 4, 3, [38])]
def kb_316_37 : List ab_Row := [(.iconst 0, 1, [])]
def kb_316_38 : List ab_Row := [(.ireturn, 1, [])]
def kt_316 : List (Nat × List ab_Row) := [(0, kb_316_0), (37, kb_316_37), (38, kb_316_38)]
def km_316 : ab_Mi := ((⟨"SorryPurses$Months", "draw", "(I)I"⟩ : MethodName), prog_9_method_4_code, 3, (Option.some FieldType.int), [], [])
-- 317: SorryPurses$Months.slapFrom (I)V
def kb_317_0 : List ab_Row := [(.aload_n 0, 1, []), (.aload_n 0, 1, []), (.getfield 18, 3, [7, 0, 444]), (.getfield 39, 3, [10, 5, 191]), (.iconst 1, 1, []), (.isub, 1, []), (.invokevirtual 44, 3, [600, 316, 2, 0, 1776, 1778, 45, 7]), (.iconst 1, 1, []), (.iadd, 1, []), (.istore_n 2, 1, []), (.aload_n 0, 1, []), (.bipush 9, 2, []), (.invokevirtual 44, 3, [600, 316, 2, 0, 1776, 1778, 45, 7]), (.iconst 1, 1, []), (.iadd, 1, []), (.istore_n 3, 1, []), (.iload_n 1, 1, []), (.iload_n 2, 1, []), (.iadd, 1, []), (.aload_n 0, 1, []), (.getfield 18, 3, [7, 0, 444]), (.getfield 39, 3, [10, 5, 191]), (.if_icmp .ge 9, 3, [44]), (.iload_n 1, 1, []), (.iload_n 2, 1, []), (.iadd, 1, []), (.goto 14, 3, [55])]
def kb_317_44 : List ab_Row := [(.iload_n 1, 1, []), (.iload_n 2, 1, []), (.iadd, 1, []), (.aload_n 0, 1, []), (.getfield 18, 3, [7, 0, 444]), (.getfield 39, 3, [10, 5, 191]), (.isub, 1, [])]
def kb_317_55 : List ab_Row := [(.istore 4, 2, []), (.aload_n 0, 1, []), (.getfield 12, 3, [7, 2, 446]), (.iload_n 1, 1, []), (.iload 4, 2, []), (.iload_n 3, 1, []), (.iconst 1, 1, []), (.invokevirtual 60, 3, [600, 285, 5, 0, 1785, 1211, 1212, 6]), (.pop, 1, []), (.return_, 1, [])]
def kt_317 : List (Nat × List ab_Row) := [(0, kb_317_0), (44, kb_317_44), (55, kb_317_55)]
def km_317 : ab_Mi := ((⟨"SorryPurses$Months", "slapFrom", "(I)V"⟩ : MethodName), prog_9_method_5_code, 5, (Option.none : Option FieldType), [], [])
-- 318: SorryPurses$Months.sendSaint ()V
def kb_318_0 : List ab_Row := [(.aload_n 0, 1, []), (.getfield 12, 3, [7, 2, 446]), (.invokevirtual 64, 3, [600, 346, 1, 0, 1790, 1791, 1792, 6]), (.istore_n 1, 1, []), (.aload_n 0, 1, []), (.getfield 12, 3, [7, 2, 446]), (.iload_n 1, 1, []), (.iconst 2, 1, []), (.invokevirtual 68, 3, [600, 339, 3, 0, 1794, 1326, 1327, 6]), (.ifCond .eq 21, 3, [38]), (.aload_n 0, 1, []), (.dup, 1, []), (.getfield 33, 3, [7, 4, 449]), (.aload_n 0, 1, []), (.getfield 12, 3, [7, 2, 446]), (.iconst 2, 1, []), (.iload_n 1, 1, []), (.invokevirtual 72, 3, [600, 231, 3, 0, 1795, 589, 590, 6]), (.iadd, 1, []), (.putfield 33, 3, [7, 4, 449, 0])]
def kb_318_38 : List ab_Row := [(.return_, 1, [])]
def kt_318 : List (Nat × List ab_Row) := [(0, kb_318_0), (38, kb_318_38)]
def km_318 : ab_Mi := ((⟨"SorryPurses$Months", "sendSaint", "()V"⟩ : MethodName), prog_9_method_6_code, 2, (Option.none : Option FieldType), [], [])
-- 319: SorryPurses$Tape.next ()I
def kb_319_0 : List ab_Row := [(.aload_n 0, 1, []), (.getfield 31, 3, [9, 3, 152]), (.istore_n 1, 1, [])]
def kb_319_5 : List ab_Row := [(.iload_n 1, 1, []), (.aload_n 0, 1, []), (.getfield 28, 3, [9, 2, 151]), (.if_icmp .ge 28, 3, [38]), (.aload_n 0, 1, []), (.iload_n 1, 1, []), (.invokevirtual 40, 3, [600, 347, 2, 0, 1116, 1118, 14, 9]), (.istore_n 2, 1, []), (.iload_n 2, 1, []), (.bipush 32, 2, []), (.if_icmp .eq 10, 3, [32]), (.aload_n 0, 1, []), (.iload_n 1, 1, []), (.putfield 31, 3, [9, 3, 152, 0]), (.iload_n 2, 1, []), (.ireturn, 1, [])]
def kb_319_32 : List ab_Row := [(.iinc 1 1, 3, []), (.goto (-30), 3, [5])]
def kb_319_38 : List ab_Row := [(.aload_n 0, 1, []), (.aload_n 0, 1, []), (.getfield 28, 3, [9, 2, 151]), (.putfield 31, 3, [9, 3, 152, 0]), (.iconst (-1), 1, []), (.ireturn, 1, [])]
def kt_319 : List (Nat × List ab_Row) := [(0, kb_319_0), (5, kb_319_5), (32, kb_319_32), (38, kb_319_38)]
def km_319 : ab_Mi := ((⟨"SorryPurses$Tape", "next", "()I"⟩ : MethodName), prog_11_method_7_code, 3, (Option.some FieldType.int), [], [])
-- 320: SorryPurses$Tape.word (Ljava/lang/String;)I
def kb_320_0 : List ab_Row := [(.aload_n 0, 1, []), (.getfield 37, 3, [9, 5, 160]), (.ifCond .eq 5, 3, [9]), (.iconst (-1), 1, []), (.ireturn, 1, [])]
def kb_320_9 : List ab_Row := [(.aload_n 0, 1, []), (.invokevirtual 44, 3, [600, 319, 1, 0, 1112, 1113, 1114, 9]), (.pop, 1, []), (.aload_n 0, 1, []), (.aload_n 0, 1, []), (.getfield 31, 3, [9, 3, 152]), (.putfield 34, 3, [9, 4, 157, 0]), (.aload_n 0, 1, []), (.getfield 31, 3, [9, 3, 152]), (.istore_n 2, 1, []), (.aload_n 0, 1, []), (.getfield 31, 3, [9, 3, 152]), (.istore_n 3, 1, [])]
def kb_320_32 : List ab_Row := [(.iload_n 3, 1, []), (.aload_n 0, 1, []), (.getfield 28, 3, [9, 2, 151]), (.if_icmp .ge 24, 3, [61]), (.aload_n 0, 1, []), (.iload_n 3, 1, []), (.invokevirtual 40, 3, [600, 347, 2, 0, 1116, 1118, 14, 9]), (.invokestatic 52, 3, [600, 348, 1, 1, 1129, 1130, 0, 0]), (.ifCond .eq 13, 3, [61]), (.iload_n 3, 1, []), (.iconst 1, 1, []), (.iadd, 1, []), (.istore_n 2, 1, []), (.iinc 3 1, 3, []), (.goto (-26), 3, [32])]
def kb_320_61 : List ab_Row := [(.iload_n 2, 1, []), (.aload_n 0, 1, []), (.getfield 34, 3, [9, 4, 157]), (.if_icmp .le 12, 3, [78]), (.aload_n 0, 1, []), (.aload_n 1, 1, []), (.iload_n 2, 1, []), (.invokevirtual 56, 3, [600, 349, 3, 0, 1132, 1134, 16, 9]), (.goto 4, 3, [79])]
def kb_320_78 : List ab_Row := [(.iconst (-1), 1, [])]
def kb_320_79 : List ab_Row := [(.istore_n 3, 1, []), (.iload_n 3, 1, []), (.iconst (-1), 1, []), (.if_icmp .ne 15, 3, [97]), (.aload_n 0, 1, []), (.iconst 1, 1, []), (.aload_n 0, 1, []), (.getfield 34, 3, [9, 4, 157]), (.invokevirtual 48, 3, [600, 290, 3, 0, 1161, 1162, 1163, 9]), (.goto 8, 3, [102])]
def kb_320_97 : List ab_Row := [(.aload_n 0, 1, []), (.iload_n 2, 1, []), (.putfield 31, 3, [9, 3, 152, 0])]
def kb_320_102 : List ab_Row := [(.iload_n 3, 1, []), (.ireturn, 1, [])]
def kt_320 : List (Nat × List ab_Row) := [(0, kb_320_0), (9, kb_320_9), (32, kb_320_32), (61, kb_320_61), (78, kb_320_78), (79, kb_320_79), (97, kb_320_97), (102, kb_320_102)]
def km_320 : ab_Mi := ((⟨"SorryPurses$Tape", "word", "(Ljava/lang/String;)I"⟩ : MethodName), prog_11_method_11_code, 4, (Option.some FieldType.int), [], [])
-- 321: SorryPurses$Town.readPerson (LSorryPurses$Tape;)V
def kb_321_0 : List ab_Row := [(.aload_n 1, 1, []), (.iconst 0, 1, []), (.bipush 9, 2, []), (.invokevirtual 73, 3, [600, 323, 3, 0, 1174, 1175, 1176, 9]), (.istore_n 2, 1, []), (.aload_n 0, 1, []), (.getfield 34, 3, [10, 5, 190]), (.ifCond .lt 35, 3, [47]), (.aload_n 0, 1, []), (.getfield 34, 3, [10, 5, 190]), (.aload_n 0, 1, []), (.getfield 9, 3, [10, 0, 185]), (.arraylength, 1, []), (.if_icmp .ge 23, 3, [47]), (.aload_n 0, 1, []), (.getfield 9, 3, [10, 0, 185]), (.aload_n 0, 1, []), (.getfield 34, 3, [10, 5, 190]), (.iload_n 2, 1, []), (.iastore, 1, []), (.aload_n 0, 1, []), (.dup, 1, []), (.getfield 34, 3, [10, 5, 190]), (.iconst 1, 1, []), (.iadd, 1, []), (.putfield 34, 3, [10, 5, 190, 0])]
def kb_321_47 : List ab_Row := [(.return_, 1, [])]
def kt_321 : List (Nat × List ab_Row) := [(0, kb_321_0), (47, kb_321_47)]
def km_321 : ab_Mi := ((⟨"SorryPurses$Town", "readPerson", "(LSorryPurses$Tape;)V"⟩ : MethodName), prog_12_method_4_code, 3, (Option.none : Option FieldType), [], [])
-- 322: SorryPurses$Town.readClaim (LSorryPurses$Tape;I)V
def kb_322_0 : List ab_Row := [(.aload_n 1, 1, []), (.iconst 0, 1, []), (.aload_n 0, 1, []), (.getfield 34, 3, [10, 5, 190]), (.iconst 1, 1, []), (.isub, 1, []), (.invokevirtual 73, 3, [600, 323, 3, 0, 1174, 1175, 1176, 9]), (.istore_n 3, 1, []), (.aload_n 1, 1, []), (.iload_n 3, 1, []), (.iconst 0, 1, []), (.aload_n 0, 1, []), (.getfield 34, 3, [10, 5, 190]), (.iconst 1, 1, []), (.isub, 1, []), (.invokevirtual 81, 3, [600, 350, 4, 0, 1186, 1187, 1188, 9]), (.istore 4, 2, []), (.aload_n 1, 1, []), (.iconst 1, 1, []), (.sipush 999, 3, []), (.invokevirtual 73, 3, [600, 323, 3, 0, 1174, 1175, 1176, 9]), (.istore 5, 2, []), (.aload_n 0, 1, []), (.getfield 37, 3, [10, 6, 195]), (.ifCond .lt 64, 3, [104]), (.aload_n 0, 1, []), (.getfield 37, 3, [10, 6, 195]), (.bipush 24, 2, []), (.if_icmp .ge 55, 3, [104]), (.aload_n 0, 1, []), (.getfield 15, 3, [10, 1, 186]), (.aload_n 0, 1, []), (.getfield 37, 3, [10, 6, 195]), (.iload_n 3, 1, []), (.iastore, 1, []), (.aload_n 0, 1, []), (.getfield 18, 3, [10, 2, 187]), (.aload_n 0, 1, []), (.getfield 37, 3, [10, 6, 195]), (.iload 4, 2, []), (.iastore, 1, []), (.aload_n 0, 1, []), (.getfield 21, 3, [10, 3, 188]), (.aload_n 0, 1, []), (.getfield 37, 3, [10, 6, 195]), (.iload 5, 2, []), (.iastore, 1, []), (.aload_n 0, 1, []), (.getfield 24, 3, [10, 4, 189]), (.aload_n 0, 1, []), (.getfield 37, 3, [10, 6, 195]), (.iload_n 2, 1, []), (.iastore, 1, []), (.aload_n 0, 1, []), (.dup, 1, []), (.getfield 37, 3, [10, 6, 195]), (.iconst 1, 1, []), (.iadd, 1, []), (.putfield 37, 3, [10, 6, 195, 0])]
def kb_322_104 : List ab_Row := [(.return_, 1, [])]
def kt_322 : List (Nat × List ab_Row) := [(0, kb_322_0), (104, kb_322_104)]
def km_322 : ab_Mi := ((⟨"SorryPurses$Town", "readClaim", "(LSorryPurses$Tape;I)V"⟩ : MethodName), prog_12_method_5_code, 6, (Option.none : Option FieldType), [], [])
-- 323: SorryPurses$Tape.number (II)I
def kb_323_0 : List ab_Row := [(.aload_n 0, 1, []), (.getfield 37, 3, [9, 5, 160]), (.ifCond .eq 5, 3, [9]), (.iconst (-1), 1, []), (.ireturn, 1, [])]
def kb_323_9 : List ab_Row := [(.aload_n 0, 1, []), (.invokevirtual 44, 3, [600, 319, 1, 0, 1112, 1113, 1114, 9]), (.pop, 1, []), (.aload_n 0, 1, []), (.aload_n 0, 1, []), (.getfield 31, 3, [9, 3, 152]), (.putfield 34, 3, [9, 4, 157, 0]), (.iconst 0, 1, []), (.istore_n 3, 1, []), (.aload_n 0, 1, []), (.getfield 31, 3, [9, 3, 152]), (.istore 4, 2, []), (.aload_n 0, 1, []), (.getfield 31, 3, [9, 3, 152]), (.istore 5, 2, [])]
def kb_323_36 : List ab_Row := [(.iload 5, 2, []), (.aload_n 0, 1, []), (.getfield 28, 3, [9, 2, 151]), (.if_icmp .ge 47, 3, [89]), (.aload_n 0, 1, []), (.iload 5, 2, []), (.invokevirtual 40, 3, [600, 347, 2, 0, 1116, 1118, 14, 9]), (.invokestatic 60, 3, [600, 351, 1, 1, 1178, 1179, 0, 0]), (.ifCond .eq 35, 3, [89]), (.ldc 63, 2, [0, 1000000, 1181]), (.iload_n 3, 1, []), (.bipush 10, 2, []), (.imul, 1, []), (.aload_n 0, 1, []), (.iload 5, 2, []), (.invokevirtual 40, 3, [600, 347, 2, 0, 1116, 1118, 14, 9]), (.iadd, 1, []), (.bipush 48, 2, []), (.isub, 1, []), (.invokestatic 22, 3, [710, 1103, 618, 121, 619]), (.istore_n 3, 1, []), (.iload 5, 2, []), (.iconst 1, 1, []), (.iadd, 1, []), (.istore 4, 2, []), (.iinc 5 1, 3, []), (.goto (-50), 3, [36])]
def kb_323_89 : List ab_Row := [(.iload 4, 2, []), (.aload_n 0, 1, []), (.getfield 34, 3, [9, 4, 157]), (.if_icmp .ne 14, 3, [109]), (.aload_n 0, 1, []), (.iconst 1, 1, []), (.aload_n 0, 1, []), (.getfield 34, 3, [9, 4, 157]), (.invokevirtual 48, 3, [600, 290, 3, 0, 1161, 1162, 1163, 9]), (.iconst (-1), 1, []), (.ireturn, 1, [])]
def kb_323_109 : List ab_Row := [(.aload_n 0, 1, []), (.iload 4, 2, []), (.putfield 31, 3, [9, 3, 152, 0]), (.iload_n 3, 1, []), (.iload_n 1, 1, []), (.if_icmp .lt 8, 3, [125]), (.iload_n 3, 1, []), (.iload_n 2, 1, []), (.if_icmp .le 14, 3, [136])]
def kb_323_125 : List ab_Row := [(.aload_n 0, 1, []), (.iconst 2, 1, []), (.aload_n 0, 1, []), (.getfield 34, 3, [9, 4, 157]), (.invokevirtual 48, 3, [600, 290, 3, 0, 1161, 1162, 1163, 9]), (.iconst (-1), 1, []), (.ireturn, 1, [])]
def kb_323_136 : List ab_Row := [(.iload_n 3, 1, []), (.ireturn, 1, [])]
def kt_323 : List (Nat × List ab_Row) := [(0, kb_323_0), (9, kb_323_9), (36, kb_323_36), (89, kb_323_89), (109, kb_323_109), (125, kb_323_125), (136, kb_323_136)]
def km_323 : ab_Mi := ((⟨"SorryPurses$Tape", "number", "(II)I"⟩ : MethodName), prog_11_method_12_code, 6, (Option.some FieldType.int), [], [])
-- 324: SorryPurses$Tape.needSign (C)V
def kb_324_0 : List ab_Row := [(.aload_n 0, 1, []), (.getfield 37, 3, [9, 5, 160]), (.ifCond .eq 4, 3, [8]), (.return_, 1, [])]
def kb_324_8 : List ab_Row := [(.aload_n 0, 1, []), (.invokevirtual 44, 3, [600, 319, 1, 0, 1112, 1113, 1114, 9]), (.iload_n 1, 1, []), (.if_icmp .ne 16, 3, [29]), (.aload_n 0, 1, []), (.dup, 1, []), (.getfield 31, 3, [9, 3, 152]), (.iconst 1, 1, []), (.iadd, 1, []), (.putfield 31, 3, [9, 3, 152, 0]), (.goto 12, 3, [38])]
def kb_324_29 : List ab_Row := [(.aload_n 0, 1, []), (.iconst 1, 1, []), (.aload_n 0, 1, []), (.getfield 31, 3, [9, 3, 152]), (.invokevirtual 48, 3, [600, 290, 3, 0, 1161, 1162, 1163, 9])]
def kb_324_38 : List ab_Row := [(.return_, 1, [])]
def kt_324 : List (Nat × List ab_Row) := [(0, kb_324_0), (8, kb_324_8), (29, kb_324_29), (38, kb_324_38)]
def km_324 : ab_Mi := ((⟨"SorryPurses$Tape", "needSign", "(C)V"⟩ : MethodName), prog_11_method_10_code, 2, (Option.none : Option FieldType), [], [])
-- 325: SorryPurses$Ledger.set (III)V
def kb_325_0 : List ab_Row := [(.iload_n 1, 1, []), (.ifCond .lt 31, 3, [32]), (.iload_n 1, 1, []), (.bipush 9, 2, []), (.if_icmp .ge 25, 3, [32]), (.iload_n 2, 1, []), (.ifCond .lt 21, 3, [32]), (.iload_n 2, 1, []), (.bipush 40, 2, []), (.if_icmp .ge 15, 3, [32]), (.aload_n 0, 1, []), (.getfield 9, 3, [6, 0, 301]), (.iload_n 1, 1, []), (.bipush 40, 2, []), (.imul, 1, []), (.iload_n 2, 1, []), (.iadd, 1, []), (.iload_n 3, 1, []), (.iastore, 1, [])]
def kb_325_32 : List ab_Row := [(.return_, 1, [])]
def kt_325 : List (Nat × List ab_Row) := [(0, kb_325_0), (32, kb_325_32)]
def km_325 : ab_Mi := ((⟨"SorryPurses$Ledger", "set", "(III)V"⟩ : MethodName), prog_8_method_5_code, 4, (Option.none : Option FieldType), [], [])
-- 326: SorryPurses$Law.readProduct (LSorryPurses$Tape;I)V
def kb_326_0 : List ab_Row := [(.aload_n 0, 1, []), (.aload_n 1, 1, []), (.iload_n 2, 1, []), (.invokevirtual 59, 3, [600, 352, 3, 0, 1245, 1247, 22, 5]), (.iconst 0, 1, []), (.istore_n 3, 1, [])]
def kb_326_8 : List ab_Row := [(.iload_n 3, 1, []), (.sipush 150, 3, []), (.if_icmp .ge 61, 3, [73]), (.aload_n 1, 1, []), (.bipush 42, 2, []), (.invokevirtual 51, 3, [600, 327, 2, 0, 1261, 1262, 1263, 9]), (.ifCond .eq 9, 3, [30]), (.sipush 2002, 3, []), (.goto 19, 3, [46])]
def kb_326_30 : List ab_Row := [(.aload_n 1, 1, []), (.bipush 47, 2, []), (.invokevirtual 51, 3, [600, 327, 2, 0, 1261, 1262, 1263, 9]), (.ifCond .eq 9, 3, [45]), (.sipush 2003, 3, []), (.goto 4, 3, [46])]
def kb_326_45 : List ab_Row := [(.iconst (-1), 1, [])]
def kb_326_46 : List ab_Row := [(.istore 4, 2, []), (.iload 4, 2, []), (.iconst (-1), 1, []), (.if_icmp .ne 4, 3, [55]), (.return_, 1, [])]
def kb_326_55 : List ab_Row := [(.aload_n 0, 1, []), (.aload_n 1, 1, []), (.iload_n 2, 1, []), (.invokevirtual 59, 3, [600, 352, 3, 0, 1245, 1247, 22, 5]), (.aload_n 0, 1, []), (.iload 4, 2, []), (.invokevirtual 55, 3, [600, 328, 2, 0, 1253, 1255, 23, 5]), (.iinc 3 1, 3, []), (.goto (-62), 3, [8])]
def kb_326_73 : List ab_Row := [(.return_, 1, [])]
def kt_326 : List (Nat × List ab_Row) := [(0, kb_326_0), (8, kb_326_8), (30, kb_326_30), (45, kb_326_45), (46, kb_326_46), (55, kb_326_55), (73, kb_326_73)]
def km_326 : ab_Mi := ((⟨"SorryPurses$Law", "readProduct", "(LSorryPurses$Tape;I)V"⟩ : MethodName), prog_7_method_6_code, 5, (Option.none : Option FieldType), [], [])
-- 327: SorryPurses$Tape.takes (C)Z
def kb_327_0 : List ab_Row := [(.aload_n 0, 1, []), (.getfield 37, 3, [9, 5, 160]), (.ifCond .ne 11, 3, [15]), (.aload_n 0, 1, []), (.invokevirtual 44, 3, [600, 319, 1, 0, 1112, 1113, 1114, 9]), (.iload_n 1, 1, []), (.if_icmp .eq 5, 3, [17])]
def kb_327_15 : List ab_Row := [(.iconst 0, 1, []), (.ireturn, 1, [])]
def kb_327_17 : List ab_Row := [(.aload_n 0, 1, []), (.dup, 1, []), (.getfield 31, 3, [9, 3, 152]), (.iconst 1, 1, []), (.iadd, 1, []), (.putfield 31, 3, [9, 3, 152, 0]), (.iconst 1, 1, []), (.ireturn, 1, [])]
def kt_327 : List (Nat × List ab_Row) := [(0, kb_327_0), (15, kb_327_15), (17, kb_327_17)]
def km_327 : ab_Mi := ((⟨"SorryPurses$Tape", "takes", "(C)Z"⟩ : MethodName), prog_11_method_9_code, 2, (Option.some FieldType.boolean), [], [])
-- 328: SorryPurses$Law.emit (I)V
def kb_328_0 : List ab_Row := [(.aload_n 0, 1, []), (.getfield 27, 3, [5, 1, 233]), (.ifCond .lt 35, 3, [39]), (.aload_n 0, 1, []), (.getfield 27, 3, [5, 1, 233]), (.aload_n 0, 1, []), (.getfield 9, 3, [5, 0, 232]), (.arraylength, 1, []), (.if_icmp .ge 23, 3, [39]), (.aload_n 0, 1, []), (.getfield 9, 3, [5, 0, 232]), (.aload_n 0, 1, []), (.getfield 27, 3, [5, 1, 233]), (.iload_n 1, 1, []), (.iastore, 1, []), (.aload_n 0, 1, []), (.dup, 1, []), (.getfield 27, 3, [5, 1, 233]), (.iconst 1, 1, []), (.iadd, 1, []), (.putfield 27, 3, [5, 1, 233, 0])]
def kb_328_39 : List ab_Row := [(.return_, 1, [])]
def kt_328 : List (Nat × List ab_Row) := [(0, kb_328_0), (39, kb_328_39)]
def km_328 : ab_Mi := ((⟨"SorryPurses$Law", "emit", "(I)V"⟩ : MethodName), prog_7_method_8_code, 2, (Option.none : Option FieldType), [], [])
-- 329: SorryPursesModel.opens ()Z
def kb_329_0 : List ab_Row := [(.aload_n 0, 1, []), (.getfield 117, 3, [12, 5, 1837]), (.ifCond .ne 24, 3, [28]), (.aload_n 0, 1, []), (.getfield 170, 3, [12, 8, 1840]), (.bipush 6, 2, []), (.if_icmp .ne 15, 3, [28]), (.aload_n 0, 1, []), (.iconst 3, 1, []), (.aload_n 0, 1, []), (.getfield 110, 3, [12, 4, 1836]), (.invokevirtual 130, 3, [600, 120, 3, 0, 2020, 2022, 57, 12]), (.goto 20, 3, [45])]
def kb_329_28 : List ab_Row := [(.aload_n 0, 1, []), (.getfield 117, 3, [12, 5, 1837]), (.ifCond .ne 13, 3, [45]), (.aload_n 0, 1, []), (.dup, 1, []), (.getfield 170, 3, [12, 8, 1840]), (.iconst 1, 1, []), (.iadd, 1, []), (.putfield 170, 3, [12, 8, 1840, 0])]
def kb_329_45 : List ab_Row := [(.aload_n 0, 1, []), (.getfield 117, 3, [12, 5, 1837]), (.ifCond .ne 7, 3, [56]), (.iconst 1, 1, []), (.goto 4, 3, [57])]
def kb_329_56 : List ab_Row := [(.iconst 0, 1, [])]
def kb_329_57 : List ab_Row := [(.ireturn, 1, [])]
def kt_329 : List (Nat × List ab_Row) := [(0, kb_329_0), (28, kb_329_28), (45, kb_329_45), (56, kb_329_56), (57, kb_329_57)]
def km_329 : ab_Mi := ((⟨"SorryPursesModel", "opens", "()Z"⟩ : MethodName), prog_14_method_29_code, 1, (Option.some FieldType.boolean), [], [])
-- 330: SorryPursesModel.knownHere ()I
def kb_330_0 : List ab_Row := [(.aload_n 0, 1, []), (.bipush 19, 2, []), (.bipush 9, 2, []), (.bipush 26, 2, []), (.iconst 5, 1, []), (.iconst 0, 1, []), (.iconst 0, 1, []), (.iconst 0, 1, []), (.iconst 0, 1, []), (.invokevirtual 228, 3, [600, 353, 9, 0, 2076, 2078, 69, 12]), (.ifCond .eq 5, 3, [20]), (.iconst 0, 1, []), (.ireturn, 1, [])]
def kb_330_20 : List ab_Row := [(.aload_n 0, 1, []), (.iconst 1, 1, []), (.bipush 7, 2, []), (.iconst 5, 1, []), (.iconst 0, 1, []), (.iconst 0, 1, []), (.iconst 0, 1, []), (.iconst 0, 1, []), (.iconst 0, 1, []), (.invokevirtual 228, 3, [600, 353, 9, 0, 2076, 2078, 69, 12]), (.ifCond .eq 5, 3, [38]), (.iconst 1, 1, []), (.ireturn, 1, [])]
def kb_330_38 : List ab_Row := [(.aload_n 0, 1, []), (.bipush 20, 2, []), (.iconst 5, 1, []), (.bipush 13, 2, []), (.bipush 16, 2, []), (.iconst 5, 1, []), (.bipush 18, 2, []), (.iconst 0, 1, []), (.iconst 0, 1, []), (.invokevirtual 228, 3, [600, 353, 9, 0, 2076, 2078, 69, 12]), (.ifCond .eq 5, 3, [59]), (.iconst 2, 1, []), (.ireturn, 1, [])]
def kb_330_59 : List ab_Row := [(.aload_n 0, 1, []), (.bipush 8, 2, []), (.iconst 5, 1, []), (.iconst 1, 1, []), (.bipush 20, 2, []), (.iconst 0, 1, []), (.iconst 0, 1, []), (.iconst 0, 1, []), (.iconst 0, 1, []), (.invokevirtual 228, 3, [600, 353, 9, 0, 2076, 2078, 69, 12]), (.ifCond .eq 5, 3, [78]), (.iconst 3, 1, []), (.ireturn, 1, [])]
def kb_330_78 : List ab_Row := [(.aload_n 0, 1, []), (.bipush 16, 2, []), (.iconst 1, 1, []), (.bipush 19, 2, []), (.bipush 19, 2, []), (.iconst 5, 1, []), (.iconst 4, 1, []), (.iconst 0, 1, []), (.iconst 0, 1, []), (.invokevirtual 228, 3, [600, 353, 9, 0, 2076, 2078, 69, 12]), (.ifCond .eq 5, 3, [98]), (.iconst 4, 1, []), (.ireturn, 1, [])]
def kb_330_98 : List ab_Row := [(.aload_n 0, 1, []), (.bipush 20, 2, []), (.bipush 15, 2, []), (.bipush 12, 2, []), (.iconst 4, 1, []), (.iconst 0, 1, []), (.iconst 0, 1, []), (.iconst 0, 1, []), (.iconst 0, 1, []), (.invokevirtual 228, 3, [600, 353, 9, 0, 2076, 2078, 69, 12]), (.ifCond .eq 5, 3, [118]), (.iconst 5, 1, []), (.ireturn, 1, [])]
def kb_330_118 : List ab_Row := [(.aload_n 0, 1, []), (.iconst 4, 1, []), (.iconst 1, 1, []), (.bipush 25, 2, []), (.iconst 0, 1, []), (.iconst 0, 1, []), (.iconst 0, 1, []), (.iconst 0, 1, []), (.iconst 0, 1, []), (.invokevirtual 228, 3, [600, 353, 9, 0, 2076, 2078, 69, 12]), (.ifCond .eq 6, 3, [137]), (.bipush 6, 2, []), (.ireturn, 1, [])]
def kb_330_137 : List ab_Row := [(.aload_n 0, 1, []), (.bipush 8, 2, []), (.iconst 5, 1, []), (.bipush 12, 2, []), (.iconst 4, 1, []), (.iconst 0, 1, []), (.iconst 0, 1, []), (.iconst 0, 1, []), (.iconst 0, 1, []), (.invokevirtual 228, 3, [600, 353, 9, 0, 2076, 2078, 69, 12]), (.ifCond .eq 8, 3, [159]), (.bipush 7, 2, []), (.goto 4, 3, [160])]
def kb_330_159 : List ab_Row := [(.iconst (-1), 1, [])]
def kb_330_160 : List ab_Row := [(.ireturn, 1, [])]
def kt_330 : List (Nat × List ab_Row) := [(0, kb_330_0), (20, kb_330_20), (38, kb_330_38), (59, kb_330_59), (78, kb_330_78), (98, kb_330_98), (118, kb_330_118), (137, kb_330_137), (159, kb_330_159), (160, kb_330_160)]
def km_330 : ab_Mi := ((⟨"SorryPursesModel", "knownHere", "()I"⟩ : MethodName), prog_14_method_32_code, 1, (Option.some FieldType.int), [], [])
-- 331: SorryPurses$Deeds.keep (IIII)V
def kb_331_0 : List ab_Row := [(.aload_n 0, 1, []), (.getfield 31, 3, [2, 5, 377]), (.iconst 4, 1, []), (.imul, 1, []), (.istore 5, 2, []), (.iload 5, 2, []), (.ifCond .lt 64, 3, [74]), (.iload 5, 2, []), (.iconst 3, 1, []), (.iadd, 1, []), (.aload_n 0, 1, []), (.getfield 11, 3, [2, 4, 376]), (.arraylength, 1, []), (.if_icmp .ge 52, 3, [74]), (.aload_n 0, 1, []), (.getfield 11, 3, [2, 4, 376]), (.iload 5, 2, []), (.iload_n 1, 1, []), (.iastore, 1, []), (.aload_n 0, 1, []), (.getfield 11, 3, [2, 4, 376]), (.iload 5, 2, []), (.iconst 1, 1, []), (.iadd, 1, []), (.iload_n 2, 1, []), (.iastore, 1, []), (.aload_n 0, 1, []), (.getfield 11, 3, [2, 4, 376]), (.iload 5, 2, []), (.iconst 2, 1, []), (.iadd, 1, []), (.iload_n 3, 1, []), (.iastore, 1, []), (.aload_n 0, 1, []), (.getfield 11, 3, [2, 4, 376]), (.iload 5, 2, []), (.iconst 3, 1, []), (.iadd, 1, []), (.iload 4, 2, []), (.iastore, 1, []), (.aload_n 0, 1, []), (.dup, 1, []), (.getfield 31, 3, [2, 5, 377]), (.iconst 1, 1, []), (.iadd, 1, []), (.putfield 31, 3, [2, 5, 377, 0])]
def kb_331_74 : List ab_Row := [(.return_, 1, [])]
def kt_331 : List (Nat × List ab_Row) := [(0, kb_331_0), (74, kb_331_74)]
def km_331 : ab_Mi := ((⟨"SorryPurses$Deeds", "keep", "(IIII)V"⟩ : MethodName), prog_4_method_7_code, 6, (Option.none : Option FieldType), [], [])
-- 332: SorryPurses$Deeds.readNumber (LSorryPurses$Tape;)I
def kb_332_0 : List ab_Row := [(.aload_n 0, 1, []), (.iconst 0, 1, []), (.bipush 39, 2, []), (.invokevirtual 61, 3, [600, 323, 3, 0, 1290, 1175, 1176, 9]), (.ireturn, 1, [])]
def kt_332 : List (Nat × List ab_Row) := [(0, kb_332_0)]
def km_332 : ab_Mi := ((⟨"SorryPurses$Deeds", "readNumber", "(LSorryPurses$Tape;)I"⟩ : MethodName), prog_4_method_4_code, 1, (Option.some FieldType.int), [], [])
-- 333: SorryPurses$Deeds.readJoin (LSorryPurses$Tape;)V
def kb_333_0 : List ab_Row := [(.aload_n 1, 1, []), (.invokestatic 69, 3, [600, 332, 1, 1, 1295, 1296, 0, 0]), (.istore_n 2, 1, []), (.aload_n 0, 1, []), (.iconst 4, 1, []), (.iload_n 2, 1, []), (.aload_n 1, 1, []), (.iload_n 2, 1, []), (.iconst 0, 1, []), (.bipush 39, 2, []), (.invokevirtual 89, 3, [600, 350, 4, 0, 1302, 1187, 1188, 9]), (.iconst 0, 1, []), (.invokevirtual 65, 3, [600, 331, 5, 0, 1291, 1293, 25, 2]), (.return_, 1, [])]
def kt_333 : List (Nat × List ab_Row) := [(0, kb_333_0)]
def km_333 : ab_Mi := ((⟨"SorryPurses$Deeds", "readJoin", "(LSorryPurses$Tape;)V"⟩ : MethodName), prog_4_method_5_code, 3, (Option.none : Option FieldType), [], [])
-- 334: SorryPurses$Deeds.readPair (LSorryPurses$Tape;I)V
def kb_334_0 : List ab_Row := [(.aload_n 1, 1, []), (.iconst 0, 1, []), (.aload_n 0, 1, []), (.getfield 15, 3, [2, 0, 372]), (.getfield 73, 3, [10, 5, 192]), (.iconst 1, 1, []), (.isub, 1, []), (.invokevirtual 61, 3, [600, 323, 3, 0, 1290, 1175, 1176, 9]), (.istore_n 3, 1, []), (.aload_n 1, 1, []), (.iload_n 3, 1, []), (.iconst 0, 1, []), (.aload_n 0, 1, []), (.getfield 15, 3, [2, 0, 372]), (.getfield 73, 3, [10, 5, 192]), (.iconst 1, 1, []), (.isub, 1, []), (.invokevirtual 89, 3, [600, 350, 4, 0, 1302, 1187, 1188, 9]), (.istore 4, 2, []), (.aload_n 0, 1, []), (.iload_n 2, 1, []), (.iload_n 3, 1, []), (.iload 4, 2, []), (.aload_n 1, 1, []), (.iconst 1, 1, []), (.sipush 999, 3, []), (.invokevirtual 61, 3, [600, 323, 3, 0, 1290, 1175, 1176, 9]), (.invokevirtual 65, 3, [600, 331, 5, 0, 1291, 1293, 25, 2]), (.return_, 1, [])]
def kt_334 : List (Nat × List ab_Row) := [(0, kb_334_0)]
def km_334 : ab_Mi := ((⟨"SorryPurses$Deeds", "readPair", "(LSorryPurses$Tape;I)V"⟩ : MethodName), prog_4_method_6_code, 5, (Option.none : Option FieldType), [], [])
-- 335: SorryPurses$Ledger.give (II)Z
def kb_335_0 : List ab_Row := [(.aload_n 0, 1, []), (.iload_n 1, 1, []), (.invokevirtual 45, 3, [600, 263, 2, 0, 601, 585, 586, 6]), (.ifCond .eq 13, 3, [18]), (.aload_n 0, 1, []), (.iconst 1, 1, []), (.iload_n 1, 1, []), (.invokevirtual 37, 3, [600, 231, 3, 0, 588, 589, 590, 6]), (.iload_n 2, 1, []), (.if_icmp .ne 5, 3, [20])]
def kb_335_18 : List ab_Row := [(.iconst 0, 1, []), (.ireturn, 1, [])]
def kb_335_20 : List ab_Row := [(.aload_n 0, 1, []), (.iconst 1, 1, []), (.iload_n 1, 1, []), (.iload_n 2, 1, []), (.invokevirtual 41, 3, [600, 325, 4, 0, 1214, 1216, 19, 6]), (.aload_n 0, 1, []), (.iconst 4, 1, []), (.iload_n 1, 1, []), (.aload_n 0, 1, []), (.iconst 4, 1, []), (.iload_n 1, 1, []), (.invokevirtual 37, 3, [600, 231, 3, 0, 588, 589, 590, 6]), (.iconst 1, 1, []), (.iadd, 1, []), (.invokevirtual 41, 3, [600, 325, 4, 0, 1214, 1216, 19, 6]), (.aload_n 0, 1, []), (.iconst 0, 1, []), (.iload_n 1, 1, []), (.invokevirtual 37, 3, [600, 231, 3, 0, 588, 589, 590, 6]), (.iload_n 2, 1, []), (.if_icmp .ne 10, 3, [58]), (.aload_n 0, 1, []), (.iload_n 1, 1, []), (.iconst 3, 1, []), (.invokevirtual 49, 3, [600, 339, 3, 0, 1325, 1326, 1327, 6]), (.pop, 1, [])]
def kb_335_58 : List ab_Row := [(.iconst 1, 1, []), (.ireturn, 1, [])]
def kt_335 : List (Nat × List ab_Row) := [(0, kb_335_0), (18, kb_335_18), (20, kb_335_20), (58, kb_335_58)]
def km_335 : ab_Mi := ((⟨"SorryPurses$Ledger", "give", "(II)Z"⟩ : MethodName), prog_8_method_10_code, 3, (Option.some FieldType.boolean), [], [])
-- 336: SorryPurses$Ledger.split (II)Z
def kb_336_0 : List ab_Row := [(.aload_n 0, 1, []), (.iconst 2, 1, []), (.iload_n 1, 1, []), (.invokevirtual 37, 3, [600, 231, 3, 0, 588, 589, 590, 6]), (.istore_n 3, 1, []), (.aload_n 0, 1, []), (.iload_n 1, 1, []), (.invokevirtual 45, 3, [600, 263, 2, 0, 601, 585, 586, 6]), (.ifCond .eq 17, 3, [29]), (.iload_n 3, 1, []), (.iload_n 2, 1, []), (.if_icmp .le 12, 3, [29]), (.aload_n 0, 1, []), (.getfield 18, 3, [6, 2, 303]), (.bipush 40, 2, []), (.if_icmp .lt 5, 3, [31])]
def kb_336_29 : List ab_Row := [(.iconst 0, 1, []), (.ireturn, 1, [])]
def kb_336_31 : List ab_Row := [(.iconst 0, 1, []), (.istore 4, 2, [])]
def kb_336_34 : List ab_Row := [(.iload 4, 2, []), (.bipush 9, 2, []), (.if_icmp .ge 26, 3, [64]), (.aload_n 0, 1, []), (.iload 4, 2, []), (.aload_n 0, 1, []), (.getfield 18, 3, [6, 2, 303]), (.aload_n 0, 1, []), (.iload 4, 2, []), (.iload_n 1, 1, []), (.invokevirtual 37, 3, [600, 231, 3, 0, 588, 589, 590, 6]), (.invokevirtual 41, 3, [600, 325, 4, 0, 1214, 1216, 19, 6]), (.iinc 4 1, 3, []), (.goto (-27), 3, [34])]
def kb_336_64 : List ab_Row := [(.aload_n 0, 1, []), (.iconst 2, 1, []), (.iload_n 1, 1, []), (.iload_n 2, 1, []), (.invokevirtual 41, 3, [600, 325, 4, 0, 1214, 1216, 19, 6]), (.aload_n 0, 1, []), (.iconst 2, 1, []), (.aload_n 0, 1, []), (.getfield 18, 3, [6, 2, 303]), (.iload_n 3, 1, []), (.iload_n 2, 1, []), (.isub, 1, []), (.invokevirtual 41, 3, [600, 325, 4, 0, 1214, 1216, 19, 6]), (.aload_n 0, 1, []), (.dup, 1, []), (.getfield 18, 3, [6, 2, 303]), (.iconst 1, 1, []), (.iadd, 1, []), (.putfield 18, 3, [6, 2, 303, 0]), (.iconst 1, 1, []), (.ireturn, 1, [])]
def kt_336 : List (Nat × List ab_Row) := [(0, kb_336_0), (29, kb_336_29), (31, kb_336_31), (34, kb_336_34), (64, kb_336_64)]
def km_336 : ab_Mi := ((⟨"SorryPurses$Ledger", "split", "(II)Z"⟩ : MethodName), prog_8_method_11_code, 5, (Option.some FieldType.boolean), [], [])
-- 337: SorryPurses$Ledger.join (II)Z
def kb_337_0 : List ab_Row := [(.iload_n 1, 1, []), (.iload_n 2, 1, []), (.if_icmp .eq 19, 3, [21]), (.aload_n 0, 1, []), (.iload_n 1, 1, []), (.invokevirtual 45, 3, [600, 263, 2, 0, 601, 585, 586, 6]), (.ifCond .eq 11, 3, [21]), (.aload_n 0, 1, []), (.iload_n 2, 1, []), (.invokevirtual 45, 3, [600, 263, 2, 0, 601, 585, 586, 6]), (.ifCond .ne 5, 3, [23])]
def kb_337_21 : List ab_Row := [(.iconst 0, 1, []), (.ireturn, 1, [])]
def kb_337_23 : List ab_Row := [(.aload_n 0, 1, []), (.iconst 0, 1, []), (.iload_n 1, 1, []), (.invokevirtual 37, 3, [600, 231, 3, 0, 588, 589, 590, 6]), (.aload_n 0, 1, []), (.iconst 0, 1, []), (.iload_n 2, 1, []), (.invokevirtual 37, 3, [600, 231, 3, 0, 588, 589, 590, 6]), (.if_icmp .ne 39, 3, [74]), (.aload_n 0, 1, []), (.iconst 1, 1, []), (.iload_n 1, 1, []), (.invokevirtual 37, 3, [600, 231, 3, 0, 588, 589, 590, 6]), (.aload_n 0, 1, []), (.iconst 1, 1, []), (.iload_n 2, 1, []), (.invokevirtual 37, 3, [600, 231, 3, 0, 588, 589, 590, 6]), (.if_icmp .ne 24, 3, [74]), (.aload_n 0, 1, []), (.bipush 6, 2, []), (.iload_n 1, 1, []), (.invokevirtual 37, 3, [600, 231, 3, 0, 588, 589, 590, 6]), (.aload_n 0, 1, []), (.bipush 6, 2, []), (.iload_n 2, 1, []), (.invokevirtual 37, 3, [600, 231, 3, 0, 588, 589, 590, 6]), (.if_icmp .ne 7, 3, [74]), (.iconst 1, 1, []), (.goto 4, 3, [75])]
def kb_337_74 : List ab_Row := [(.iconst 0, 1, [])]
def kb_337_75 : List ab_Row := [(.istore_n 3, 1, []), (.aload_n 0, 1, []), (.iconst 2, 1, []), (.iload_n 1, 1, []), (.invokevirtual 37, 3, [600, 231, 3, 0, 588, 589, 590, 6]), (.aload_n 0, 1, []), (.iconst 2, 1, []), (.iload_n 2, 1, []), (.invokevirtual 37, 3, [600, 231, 3, 0, 588, 589, 590, 6]), (.iadd, 1, []), (.istore 4, 2, []), (.iload_n 3, 1, []), (.ifCond .eq 11, 3, [103]), (.iload 4, 2, []), (.sipush 9999, 3, []), (.if_icmp .le 5, 3, [105])]
def kb_337_103 : List ab_Row := [(.iconst 0, 1, []), (.ireturn, 1, [])]
def kb_337_105 : List ab_Row := [(.aload_n 0, 1, []), (.iconst 2, 1, []), (.iload_n 1, 1, []), (.iload 4, 2, []), (.invokevirtual 41, 3, [600, 325, 4, 0, 1214, 1216, 19, 6]), (.aload_n 0, 1, []), (.iload_n 2, 1, []), (.iconst 4, 1, []), (.invokevirtual 49, 3, [600, 339, 3, 0, 1325, 1326, 1327, 6]), (.pop, 1, []), (.iconst 1, 1, []), (.ireturn, 1, [])]
def kt_337 : List (Nat × List ab_Row) := [(0, kb_337_0), (21, kb_337_21), (23, kb_337_23), (74, kb_337_74), (75, kb_337_75), (103, kb_337_103), (105, kb_337_105)]
def km_337 : ab_Mi := ((⟨"SorryPurses$Ledger", "join", "(II)Z"⟩ : MethodName), prog_8_method_12_code, 5, (Option.some FieldType.boolean), [], [])
-- 338: SorryPurses$Ledger.tell (II)Z
def kb_338_0 : List ab_Row := [(.aload_n 0, 1, []), (.iload_n 1, 1, []), (.invokevirtual 45, 3, [600, 263, 2, 0, 601, 585, 586, 6]), (.ifCond .eq 17, 3, [22]), (.aload_n 0, 1, []), (.bipush 8, 2, []), (.iload_n 1, 1, []), (.invokevirtual 37, 3, [600, 231, 3, 0, 588, 589, 590, 6]), (.aload_n 0, 1, []), (.getfield 22, 3, [6, 3, 309]), (.if_icmp .ne 5, 3, [24])]
def kb_338_22 : List ab_Row := [(.iconst 0, 1, []), (.ireturn, 1, [])]
def kb_338_24 : List ab_Row := [(.aload_n 0, 1, []), (.iload_n 1, 1, []), (.iconst 1, 1, []), (.iload_n 2, 1, []), (.invokevirtual 53, 3, [600, 264, 4, 0, 1041, 1042, 1043, 6]), (.istore_n 3, 1, []), (.aload_n 0, 1, []), (.getfield 15, 3, [6, 1, 302]), (.iconst 1, 1, []), (.dup2, 1, []), (.iaload, 1, []), (.iload_n 3, 1, []), (.aload_n 0, 1, []), (.iconst 2, 1, []), (.iload_n 1, 1, []), (.invokevirtual 37, 3, [600, 231, 3, 0, 588, 589, 590, 6]), (.isub, 1, []), (.iadd, 1, []), (.iastore, 1, []), (.aload_n 0, 1, []), (.iconst 2, 1, []), (.iload_n 1, 1, []), (.iload_n 3, 1, []), (.invokevirtual 41, 3, [600, 325, 4, 0, 1214, 1216, 19, 6]), (.aload_n 0, 1, []), (.iconst 5, 1, []), (.iload_n 1, 1, []), (.aload_n 0, 1, []), (.iconst 5, 1, []), (.iload_n 1, 1, []), (.invokevirtual 37, 3, [600, 231, 3, 0, 588, 589, 590, 6]), (.iconst 1, 1, []), (.iadd, 1, []), (.invokevirtual 41, 3, [600, 325, 4, 0, 1214, 1216, 19, 6]), (.aload_n 0, 1, []), (.bipush 8, 2, []), (.iload_n 1, 1, []), (.aload_n 0, 1, []), (.getfield 22, 3, [6, 3, 309]), (.invokevirtual 41, 3, [600, 325, 4, 0, 1214, 1216, 19, 6]), (.iconst 1, 1, []), (.ireturn, 1, [])]
def kt_338 : List (Nat × List ab_Row) := [(0, kb_338_0), (22, kb_338_22), (24, kb_338_24)]
def km_338 : ab_Mi := ((⟨"SorryPurses$Ledger", "tell", "(II)Z"⟩ : MethodName), prog_8_method_13_code, 4, (Option.some FieldType.boolean), [], [])
-- 339: SorryPurses$Ledger.end (II)Z
def kb_339_0 : List ab_Row := [(.aload_n 0, 1, []), (.iload_n 1, 1, []), (.invokevirtual 45, 3, [600, 263, 2, 0, 601, 585, 586, 6]), (.ifCond .ne 5, 3, [10]), (.iconst 0, 1, []), (.ireturn, 1, [])]
def kb_339_10 : List ab_Row := [(.aload_n 0, 1, []), (.bipush 7, 2, []), (.iload_n 1, 1, []), (.iload_n 2, 1, []), (.invokevirtual 41, 3, [600, 325, 4, 0, 1214, 1216, 19, 6]), (.iload_n 2, 1, []), (.iconst 1, 1, []), (.if_icmp .lt 25, 3, [45]), (.iload_n 2, 1, []), (.iconst 3, 1, []), (.if_icmp .gt 20, 3, [45]), (.aload_n 0, 1, []), (.getfield 15, 3, [6, 1, 302]), (.iload_n 2, 1, []), (.iconst 1, 1, []), (.iadd, 1, []), (.dup2, 1, []), (.iaload, 1, []), (.aload_n 0, 1, []), (.iconst 2, 1, []), (.iload_n 1, 1, []), (.invokevirtual 37, 3, [600, 231, 3, 0, 588, 589, 590, 6]), (.iadd, 1, []), (.iastore, 1, [])]
def kb_339_45 : List ab_Row := [(.iconst 1, 1, []), (.ireturn, 1, [])]
def kt_339 : List (Nat × List ab_Row) := [(0, kb_339_0), (10, kb_339_10), (45, kb_339_45)]
def km_339 : ab_Mi := ((⟨"SorryPurses$Ledger", "end", "(II)Z"⟩ : MethodName), prog_8_method_9_code, 3, (Option.some FieldType.boolean), [], [])
-- 340: SorryPurses$Deeds.sayWrongly (II)Z
def kb_340_0 : List ab_Row := [(.aload_n 0, 1, []), (.getfield 19, 3, [2, 1, 373]), (.iconst 1, 1, []), (.iload_n 1, 1, []), (.invokevirtual 146, 3, [600, 231, 3, 0, 1347, 589, 590, 6]), (.istore_n 3, 1, []), (.aload_n 0, 1, []), (.getfield 19, 3, [2, 1, 373]), (.iload_n 1, 1, []), (.invokevirtual 149, 3, [600, 263, 2, 0, 1348, 585, 586, 6]), (.ifCond .eq 25, 3, [43]), (.aload_n 0, 1, []), (.getfield 19, 3, [2, 1, 373]), (.iconst 0, 1, []), (.iload_n 1, 1, []), (.invokevirtual 146, 3, [600, 231, 3, 0, 1347, 589, 590, 6]), (.iload_n 2, 1, []), (.if_icmp .eq 12, 3, [43]), (.iload_n 3, 1, []), (.iload_n 2, 1, []), (.if_icmp .eq 7, 3, [43]), (.iconst 1, 1, []), (.goto 4, 3, [44])]
def kb_340_43 : List ab_Row := [(.iconst 0, 1, [])]
def kb_340_44 : List ab_Row := [(.istore 4, 2, []), (.iload 4, 2, []), (.ifCond .eq 21, 3, [69]), (.aload_n 0, 1, []), (.getfield 19, 3, [2, 1, 373]), (.iload_n 2, 1, []), (.iload_n 3, 1, []), (.iconst 1, 1, []), (.iconst 1, 1, []), (.invokevirtual 105, 3, [600, 285, 5, 0, 1320, 1211, 1212, 6]), (.ifCond .eq 7, 3, [69]), (.iconst 1, 1, []), (.goto 4, 3, [70])]
def kb_340_69 : List ab_Row := [(.iconst 0, 1, [])]
def kb_340_70 : List ab_Row := [(.ireturn, 1, [])]
def kt_340 : List (Nat × List ab_Row) := [(0, kb_340_0), (43, kb_340_43), (44, kb_340_44), (69, kb_340_69), (70, kb_340_70)]
def km_340 : ab_Mi := ((⟨"SorryPurses$Deeds", "sayWrongly", "(II)Z"⟩ : MethodName), prog_4_method_10_code, 5, (Option.some FieldType.boolean), [], [])
-- 341: SorryPurses$Deeds.payWith (JI)Z
def kb_341_0 : List ab_Row := [(.iconst 0, 1, []), (.istore 4, 2, [])]
def kb_341_3 : List ab_Row := [(.iload 4, 2, []), (.bipush 40, 2, []), (.if_icmp .ge 31, 3, [38]), (.lload_n 1, 1, []), (.iload 4, 2, []), (.lushr, 1, []), (.lconst 1, 1, []), (.land, 1, []), (.lconst 0, 1, []), (.lcmp, 1, []), (.ifCond .eq 14, 3, [32]), (.aload_n 0, 1, []), (.getfield 19, 3, [2, 1, 373]), (.iload 4, 2, []), (.iload_n 3, 1, []), (.invokevirtual 108, 3, [600, 335, 3, 0, 1321, 1322, 1323, 6]), (.pop, 1, [])]
def kb_341_32 : List ab_Row := [(.iinc 4 1, 3, []), (.goto (-32), 3, [3])]
def kb_341_38 : List ab_Row := [(.lload_n 1, 1, []), (.lconst 0, 1, []), (.lcmp, 1, []), (.ifCond .eq 7, 3, [48]), (.iconst 1, 1, []), (.goto 4, 3, [49])]
def kb_341_48 : List ab_Row := [(.iconst 0, 1, [])]
def kb_341_49 : List ab_Row := [(.ireturn, 1, [])]
def kt_341 : List (Nat × List ab_Row) := [(0, kb_341_0), (3, kb_341_3), (32, kb_341_32), (38, kb_341_38), (48, kb_341_48), (49, kb_341_49)]
def km_341 : ab_Mi := ((⟨"SorryPurses$Deeds", "payWith", "(JI)Z"⟩ : MethodName), prog_4_method_11_code, 5, (Option.some FieldType.boolean), [], [])
-- 342: SorryPurses$Law.combine (III)I
def kb_342_0 : List ab_Row := [(.iload_n 0, 1, []), (.tableswitch 70 2000 2004 #[35, 39, 43, 47, 59], 35, [36, 40, 44, 48, 60, 71])]
def kb_342_36 : List ab_Row := [(.iload_n 1, 1, []), (.iload_n 2, 1, []), (.iadd, 1, []), (.ireturn, 1, [])]
def kb_342_40 : List ab_Row := [(.iload_n 1, 1, []), (.iload_n 2, 1, []), (.isub, 1, []), (.ireturn, 1, [])]
def kb_342_44 : List ab_Row := [(.iload_n 1, 1, []), (.iload_n 2, 1, []), (.imul, 1, []), (.ireturn, 1, [])]
def kb_342_48 : List ab_Row := [(.iload_n 2, 1, []), (.ifCond .ne 7, 3, [56]), (.iconst 0, 1, []), (.goto 6, 3, [59])]
def kb_342_56 : List ab_Row := [(.iload_n 1, 1, []), (.iload_n 2, 1, []), (.idiv, 1, [])]
def kb_342_59 : List ab_Row := [(.ireturn, 1, [])]
def kb_342_60 : List ab_Row := [(.iload_n 1, 1, []), (.iload_n 2, 1, []), (.if_icmp .gt 7, 3, [69]), (.iload_n 1, 1, []), (.goto 4, 3, [70])]
def kb_342_69 : List ab_Row := [(.iload_n 2, 1, [])]
def kb_342_70 : List ab_Row := [(.ireturn, 1, [])]
def kb_342_71 : List ab_Row := [(.iload_n 1, 1, []), (.iload_n 2, 1, []), (.if_icmp .lt 7, 3, [80]), (.iload_n 1, 1, []), (.goto 4, 3, [81])]
def kb_342_80 : List ab_Row := [(.iload_n 2, 1, [])]
def kb_342_81 : List ab_Row := [(.ireturn, 1, [])]
def kt_342 : List (Nat × List ab_Row) := [(0, kb_342_0), (36, kb_342_36), (40, kb_342_40), (44, kb_342_44), (48, kb_342_48), (56, kb_342_56), (59, kb_342_59), (60, kb_342_60), (69, kb_342_69), (70, kb_342_70), (71, kb_342_71), (80, kb_342_80), (81, kb_342_81)]
def km_342 : ab_Mi := ((⟨"SorryPurses$Law", "combine", "(III)I"⟩ : MethodName), prog_7_method_10_code, 3, (Option.some FieldType.int), [], [])
-- 343: java/util/Arrays.fill ([JJ)V
def kb_343_0 : List ab_Row := [(.iconst 0, 1, []), (.istore_n 3, 1, []), (.aload_n 0, 1, []), (.arraylength, 1, []), (.istore 4, 2, [])]
def kb_343_6 : List ab_Row := [(.iload_n 3, 1, []), (.iload 4, 2, []), (.if_icmp .ge 13, 3, [22]), (.aload_n 0, 1, []), (.iload_n 3, 1, []), (.lload_n 1, 1, []), (.lastore, 1, []), (.iinc 3 1, 3, []), (.goto (-13), 3, [6])]
def kb_343_22 : List ab_Row := [(.return_, 1, [])]
def kt_343 : List (Nat × List ab_Row) := [(0, kb_343_0), (6, kb_343_6), (22, kb_343_22)]
def km_343 : ab_Mi := ((⟨"java/util/Arrays", "fill", "([JJ)V"⟩ : MethodName), prog_36_method_101_code, 5, (Option.none : Option FieldType), [], [])
-- 344: SorryPurses$Purse.reachFurther (II)V
def kb_344_0 : List ab_Row := [(.iload_n 1, 1, []), (.bipush 6, 2, []), (.ishr, 1, []), (.istore_n 3, 1, []), (.iload_n 1, 1, []), (.bipush 63, 2, []), (.iand, 1, []), (.istore 4, 2, []), (.iload_n 2, 1, []), (.istore 5, 2, [])]
def kb_344_14 : List ab_Row := [(.iload 5, 2, []), (.iload_n 3, 1, []), (.if_icmp .lt 83, 3, [100]), (.iload 5, 2, []), (.aload_n 0, 1, []), (.getfield 11, 3, [8, 1, 356]), (.arraylength, 1, []), (.if_icmp .ge 73, 3, [100]), (.iload_n 3, 1, []), (.ifCond .lt 69, 3, [100]), (.iload 5, 2, []), (.iload_n 3, 1, []), (.isub, 1, []), (.istore 6, 2, []), (.aload_n 0, 1, []), (.getfield 11, 3, [8, 1, 356]), (.iload 6, 2, []), (.laload, 1, []), (.iload 4, 2, []), (.lshl, 1, []), (.lstore 7, 2, []), (.iload 4, 2, []), (.ifCond .le 28, 3, [82]), (.iload 6, 2, []), (.ifCond .le 23, 3, [82]), (.lload 7, 2, []), (.aload_n 0, 1, []), (.getfield 11, 3, [8, 1, 356]), (.iload 6, 2, []), (.iconst 1, 1, []), (.isub, 1, []), (.laload, 1, []), (.bipush 64, 2, []), (.iload 4, 2, []), (.isub, 1, []), (.lushr, 1, []), (.lor, 1, []), (.lstore 7, 2, [])]
def kb_344_82 : List ab_Row := [(.aload_n 0, 1, []), (.getfield 11, 3, [8, 1, 356]), (.iload 5, 2, []), (.dup2, 1, []), (.laload, 1, []), (.lload 7, 2, []), (.lor, 1, []), (.lastore, 1, []), (.iinc 5 (-1), 3, []), (.goto (-83), 3, [14])]
def kb_344_100 : List ab_Row := [(.return_, 1, [])]
def kt_344 : List (Nat × List ab_Row) := [(0, kb_344_0), (14, kb_344_14), (82, kb_344_82), (100, kb_344_100)]
def km_344 : ab_Mi := ((⟨"SorryPurses$Purse", "reachFurther", "(II)V"⟩ : MethodName), prog_10_method_5_code, 9, (Option.none : Option FieldType), [], [])
-- 345: SorryPurses$Book.take (II)V
def kb_345_0 : List ab_Row := [(.aload_n 0, 1, []), (.getfield 21, 3, [0, 4, 253]), (.iload_n 1, 1, []), (.iaload, 1, []), (.istore_n 3, 1, []), (.aload_n 0, 1, []), (.getfield 24, 3, [0, 5, 254]), (.iload_n 1, 1, []), (.iaload, 1, []), (.istore 4, 2, []), (.iload_n 3, 1, []), (.iconst 0, 1, []), (.bipush 7, 2, []), (.invokestatic 139, 3, [600, 240, 3, 3, 1634, 1502, 0, 0]), (.ifCond .eq 49, 3, [71]), (.iload 4, 2, []), (.iconst 0, 1, []), (.bipush 7, 2, []), (.invokestatic 139, 3, [600, 240, 3, 3, 1634, 1502, 0, 0]), (.ifCond .eq 38, 3, [71]), (.aload_n 0, 1, []), (.getfield 34, 3, [0, 9, 258]), (.iload_n 3, 1, []), (.dup2, 1, []), (.iaload, 1, []), (.iload_n 2, 1, []), (.aload_n 0, 1, []), (.getfield 27, 3, [0, 6, 255]), (.iload_n 1, 1, []), (.iaload, 1, []), (.imul, 1, []), (.iadd, 1, []), (.iastore, 1, []), (.aload_n 0, 1, []), (.getfield 34, 3, [0, 9, 258]), (.iload 4, 2, []), (.dup2, 1, []), (.iaload, 1, []), (.iload_n 2, 1, []), (.aload_n 0, 1, []), (.getfield 27, 3, [0, 6, 255]), (.iload_n 1, 1, []), (.iaload, 1, []), (.imul, 1, []), (.isub, 1, []), (.iastore, 1, [])]
def kb_345_71 : List ab_Row := [(.return_, 1, [])]
def kt_345 : List (Nat × List ab_Row) := [(0, kb_345_0), (71, kb_345_71)]
def km_345 : ab_Mi := ((⟨"SorryPurses$Book", "take", "(II)V"⟩ : MethodName), prog_2_method_12_code, 5, (Option.none : Option FieldType), [], [])
-- 346: SorryPurses$Ledger.greatest ()I
def kb_346_0 : List ab_Row := [(.iconst (-1), 1, []), (.istore_n 1, 1, []), (.iconst 0, 1, []), (.istore_n 2, 1, [])]
def kb_346_4 : List ab_Row := [(.iload_n 2, 1, []), (.aload_n 0, 1, []), (.getfield 18, 3, [6, 2, 303]), (.if_icmp .ge 39, 3, [48]), (.aload_n 0, 1, []), (.iload_n 2, 1, []), (.invokevirtual 45, 3, [600, 263, 2, 0, 601, 585, 586, 6]), (.ifCond .eq 25, 3, [42]), (.iload_n 1, 1, []), (.iconst (-1), 1, []), (.if_icmp .eq 18, 3, [40]), (.aload_n 0, 1, []), (.iconst 2, 1, []), (.iload_n 2, 1, []), (.invokevirtual 37, 3, [600, 231, 3, 0, 588, 589, 590, 6]), (.aload_n 0, 1, []), (.iconst 2, 1, []), (.iload_n 1, 1, []), (.invokevirtual 37, 3, [600, 231, 3, 0, 588, 589, 590, 6]), (.if_icmp .le 5, 3, [42])]
def kb_346_40 : List ab_Row := [(.iload_n 2, 1, []), (.istore_n 1, 1, [])]
def kb_346_42 : List ab_Row := [(.iinc 2 1, 3, []), (.goto (-41), 3, [4])]
def kb_346_48 : List ab_Row := [(.iload_n 1, 1, []), (.ireturn, 1, [])]
def kt_346 : List (Nat × List ab_Row) := [(0, kb_346_0), (4, kb_346_4), (40, kb_346_40), (42, kb_346_42), (48, kb_346_48)]
def km_346 : ab_Mi := ((⟨"SorryPurses$Ledger", "greatest", "()I"⟩ : MethodName), prog_8_method_25_code, 3, (Option.some FieldType.int), [], [])
-- 347: SorryPurses$Tape.byteAt (I)I
def kb_347_0 : List ab_Row := [(.iload_n 1, 1, []), (.ifCond .lt 25, 3, [26]), (.iload_n 1, 1, []), (.aload_n 0, 1, []), (.getfield 9, 3, [9, 0, 148]), (.arraylength, 1, []), (.if_icmp .ge 16, 3, [26]), (.aload_n 0, 1, []), (.getfield 9, 3, [9, 0, 148]), (.iload_n 1, 1, []), (.baload, 1, []), (.sipush 255, 3, []), (.iand, 1, []), (.goto 4, 3, [27])]
def kb_347_26 : List ab_Row := [(.iconst (-1), 1, [])]
def kb_347_27 : List ab_Row := [(.ireturn, 1, [])]
def kt_347 : List (Nat × List ab_Row) := [(0, kb_347_0), (26, kb_347_26), (27, kb_347_27)]
def km_347 : ab_Mi := ((⟨"SorryPurses$Tape", "byteAt", "(I)I"⟩ : MethodName), prog_11_method_16_code, 2, (Option.some FieldType.int), [], [])
-- 348: SorryPurses$Tape.isLetter (I)Z
def kb_348_0 : List ab_Row := [(.iload_n 0, 1, []), (.bipush 97, 2, []), (.if_icmp .lt 13, 3, [16]), (.iload_n 0, 1, []), (.bipush 122, 2, []), (.if_icmp .gt 7, 3, [16]), (.iconst 1, 1, []), (.goto 4, 3, [17])]
def kb_348_16 : List ab_Row := [(.iconst 0, 1, [])]
def kb_348_17 : List ab_Row := [(.ireturn, 1, [])]
def kt_348 : List (Nat × List ab_Row) := [(0, kb_348_0), (16, kb_348_16), (17, kb_348_17)]
def km_348 : ab_Mi := ((⟨"SorryPurses$Tape", "isLetter", "(I)Z"⟩ : MethodName), prog_11_method_15_code, 1, (Option.some FieldType.boolean), [], [])
-- 349: SorryPurses$Tape.find (Ljava/lang/String;I)I
def kb_349_0 : List ab_Row := [(.iconst 0, 1, []), (.istore_n 3, 1, []), (.aload_n 0, 1, []), (.getfield 34, 3, [9, 4, 157]), (.istore 4, 2, []), (.iconst 1, 1, []), (.istore 5, 2, []), (.iconst 0, 1, []), (.istore 6, 2, [])]
def kb_349_14 : List ab_Row := [(.iload 6, 2, []), (.aload_n 1, 1, []), (.invokevirtual 67, 3, [600, 354, 1, 0, 1136, 833, 834, 30]), (.if_icmp .gt 98, 3, [118]), (.iload 6, 2, []), (.aload_n 1, 1, []), (.invokevirtual 67, 3, [600, 354, 1, 0, 1136, 833, 834, 30]), (.if_icmp .ge 12, 3, [41]), (.aload_n 1, 1, []), (.iload 6, 2, []), (.invokevirtual 71, 3, [600, 355, 2, 0, 1137, 1138, 1139, 30]), (.goto 5, 3, [43])]
def kb_349_41 : List ab_Row := [(.bipush 32, 2, [])]
def kb_349_43 : List ab_Row := [(.istore 7, 2, []), (.iload 7, 2, []), (.bipush 32, 2, []), (.if_icmp .eq 38, 3, [87]), (.iload 5, 2, []), (.ifCond .eq 24, 3, [78]), (.iload 4, 2, []), (.iload_n 2, 1, []), (.if_icmp .ge 18, 3, [78]), (.aload_n 0, 1, []), (.iload 4, 2, []), (.invokevirtual 40, 3, [600, 347, 2, 0, 1116, 1118, 14, 9]), (.iload 7, 2, []), (.if_icmp .ne 7, 3, [78]), (.iconst 1, 1, []), (.goto 4, 3, [79])]
def kb_349_78 : List ab_Row := [(.iconst 0, 1, [])]
def kb_349_79 : List ab_Row := [(.istore 5, 2, []), (.iinc 4 1, 3, []), (.goto 28, 3, [112])]
def kb_349_87 : List ab_Row := [(.iload 5, 2, []), (.ifCond .eq 11, 3, [100]), (.iload 4, 2, []), (.iload_n 2, 1, []), (.if_icmp .ne 5, 3, [100]), (.iload_n 3, 1, []), (.ireturn, 1, [])]
def kb_349_100 : List ab_Row := [(.iinc 3 1, 3, []), (.aload_n 0, 1, []), (.getfield 34, 3, [9, 4, 157]), (.istore 4, 2, []), (.iconst 1, 1, []), (.istore 5, 2, [])]
def kb_349_112 : List ab_Row := [(.iinc 6 1, 3, []), (.goto (-101), 3, [14])]
def kb_349_118 : List ab_Row := [(.iconst (-1), 1, []), (.ireturn, 1, [])]
def kt_349 : List (Nat × List ab_Row) := [(0, kb_349_0), (14, kb_349_14), (41, kb_349_41), (43, kb_349_43), (78, kb_349_78), (79, kb_349_79), (87, kb_349_87), (100, kb_349_100), (112, kb_349_112), (118, kb_349_118)]
def km_349 : ab_Mi := ((⟨"SorryPurses$Tape", "find", "(Ljava/lang/String;I)I"⟩ : MethodName), prog_11_method_17_code, 8, (Option.some FieldType.int), [], [])
-- 350: SorryPurses$Tape.numberBut (III)I
def kb_350_0 : List ab_Row := [(.aload_n 0, 1, []), (.iload_n 2, 1, []), (.iload_n 3, 1, []), (.invokevirtual 64, 3, [600, 323, 3, 0, 1190, 1175, 1176, 9]), (.istore 4, 2, []), (.iload 4, 2, []), (.iload_n 1, 1, []), (.if_icmp .ne 12, 3, [23]), (.aload_n 0, 1, []), (.iconst 2, 1, []), (.aload_n 0, 1, []), (.getfield 34, 3, [9, 4, 157]), (.invokevirtual 48, 3, [600, 290, 3, 0, 1161, 1162, 1163, 9])]
def kb_350_23 : List ab_Row := [(.iload 4, 2, []), (.ireturn, 1, [])]
def kt_350 : List (Nat × List ab_Row) := [(0, kb_350_0), (23, kb_350_23)]
def km_350 : ab_Mi := ((⟨"SorryPurses$Tape", "numberBut", "(III)I"⟩ : MethodName), prog_11_method_13_code, 5, (Option.some FieldType.int), [], [])
-- 351: SorryPurses$Tape.isDigit (I)Z
def kb_351_0 : List ab_Row := [(.iload_n 0, 1, []), (.bipush 48, 2, []), (.if_icmp .lt 13, 3, [16]), (.iload_n 0, 1, []), (.bipush 57, 2, []), (.if_icmp .gt 7, 3, [16]), (.iconst 1, 1, []), (.goto 4, 3, [17])]
def kb_351_16 : List ab_Row := [(.iconst 0, 1, [])]
def kb_351_17 : List ab_Row := [(.ireturn, 1, [])]
def kt_351 : List (Nat × List ab_Row) := [(0, kb_351_0), (16, kb_351_16), (17, kb_351_17)]
def km_351 : ab_Mi := ((⟨"SorryPurses$Tape", "isDigit", "(I)Z"⟩ : MethodName), prog_11_method_14_code, 1, (Option.some FieldType.boolean), [], [])
-- 352: SorryPurses$Law.readUnit (LSorryPurses$Tape;I)V
def kb_352_0 : List ab_Row := [(.aload_n 1, 1, []), (.invokevirtual 62, 3, [600, 201, 1, 0, 1249, 1167, 1168, 9]), (.ifCond .eq 7, 3, [11]), (.iconst (-1), 1, []), (.goto 7, 3, [15])]
def kb_352_11 : List ab_Row := [(.aload_n 1, 1, []), (.invokevirtual 65, 3, [600, 319, 1, 0, 1250, 1113, 1114, 9])]
def kb_352_15 : List ab_Row := [(.istore_n 3, 1, []), (.iload_n 3, 1, []), (.invokestatic 69, 3, [600, 351, 1, 1, 1251, 1179, 0, 0]), (.ifCond .eq 16, 3, [36]), (.aload_n 0, 1, []), (.aload_n 1, 1, []), (.iconst 0, 1, []), (.sipush 999, 3, []), (.invokevirtual 73, 3, [600, 323, 3, 0, 1252, 1175, 1176, 9]), (.invokevirtual 55, 3, [600, 328, 2, 0, 1253, 1255, 23, 5]), (.return_, 1, [])]
def kb_352_36 : List ab_Row := [(.iload_n 3, 1, []), (.bipush 40, 2, []), (.if_icmp .ne 8, 3, [47]), (.bipush 10, 2, []), (.goto 9, 3, [53])]
def kb_352_47 : List ab_Row := [(.aload_n 1, 1, []), (.ldc 77, 2, [30, 1, 1]), (.invokevirtual 79, 3, [600, 320, 2, 0, 1258, 1126, 1127, 9])]
def kb_352_53 : List ab_Row := [(.istore 4, 2, []), (.iload 4, 2, []), (.bipush 8, 2, []), (.if_icmp .lt 31, 3, [90]), (.iload_n 2, 1, []), (.bipush 6, 2, []), (.if_icmp .lt 25, 3, [90]), (.aload_n 1, 1, []), (.iconst 3, 1, []), (.iload_n 3, 1, []), (.bipush 40, 2, []), (.if_icmp .ne 10, 3, [83]), (.aload_n 1, 1, []), (.getfield 41, 3, [9, 3, 153]), (.goto 7, 3, [87])]
def kb_352_83 : List ab_Row := [(.aload_n 1, 1, []), (.getfield 83, 3, [9, 4, 158])]
def kb_352_87 : List ab_Row := [(.invokevirtual 44, 3, [600, 290, 3, 0, 1259, 1162, 1163, 9])]
def kb_352_90 : List ab_Row := [(.aload_n 1, 1, []), (.invokevirtual 62, 3, [600, 201, 1, 0, 1249, 1167, 1168, 9]), (.ifCond .eq 4, 3, [98]), (.return_, 1, [])]
def kb_352_98 : List ab_Row := [(.iload 4, 2, []), (.bipush 8, 2, []), (.if_icmp .ge 16, 3, [118]), (.aload_n 0, 1, []), (.sipush 1000, 3, []), (.iload 4, 2, []), (.iadd, 1, []), (.invokevirtual 55, 3, [600, 328, 2, 0, 1253, 1255, 23, 5]), (.goto 87, 3, [202])]
def kb_352_118 : List ab_Row := [(.iload 4, 2, []), (.bipush 10, 2, []), (.if_icmp .ne 26, 3, [148]), (.aload_n 1, 1, []), (.bipush 40, 2, []), (.invokevirtual 86, 3, [600, 324, 2, 0, 1260, 1192, 1193, 9]), (.aload_n 0, 1, []), (.aload_n 1, 1, []), (.iload_n 2, 1, []), (.iconst 1, 1, []), (.iadd, 1, []), (.invokevirtual 31, 3, [600, 289, 3, 0, 1237, 1239, 20, 5]), (.aload_n 1, 1, []), (.bipush 41, 2, []), (.invokevirtual 86, 3, [600, 324, 2, 0, 1260, 1192, 1193, 9]), (.goto 57, 3, [202])]
def kb_352_148 : List ab_Row := [(.aload_n 1, 1, []), (.bipush 91, 2, []), (.invokevirtual 86, 3, [600, 324, 2, 0, 1260, 1192, 1193, 9]), (.aload_n 0, 1, []), (.aload_n 1, 1, []), (.iload_n 2, 1, []), (.iconst 1, 1, []), (.iadd, 1, []), (.invokevirtual 31, 3, [600, 289, 3, 0, 1237, 1239, 20, 5]), (.aload_n 1, 1, []), (.bipush 44, 2, []), (.invokevirtual 86, 3, [600, 324, 2, 0, 1260, 1192, 1193, 9]), (.aload_n 0, 1, []), (.aload_n 1, 1, []), (.iload_n 2, 1, []), (.iconst 1, 1, []), (.iadd, 1, []), (.invokevirtual 31, 3, [600, 289, 3, 0, 1237, 1239, 20, 5]), (.aload_n 1, 1, []), (.bipush 93, 2, []), (.invokevirtual 86, 3, [600, 324, 2, 0, 1260, 1192, 1193, 9]), (.aload_n 0, 1, []), (.iload 4, 2, []), (.bipush 8, 2, []), (.if_icmp .ne 9, 3, [196]), (.sipush 2004, 3, []), (.goto 6, 3, [199])]
def kb_352_196 : List ab_Row := [(.sipush 2005, 3, [])]
def kb_352_199 : List ab_Row := [(.invokevirtual 55, 3, [600, 328, 2, 0, 1253, 1255, 23, 5])]
def kb_352_202 : List ab_Row := [(.return_, 1, [])]
def kt_352 : List (Nat × List ab_Row) := [(0, kb_352_0), (11, kb_352_11), (15, kb_352_15), (36, kb_352_36), (47, kb_352_47), (53, kb_352_53), (83, kb_352_83), (87, kb_352_87), (90, kb_352_90), (98, kb_352_98), (118, kb_352_118), (148, kb_352_148), (196, kb_352_196), (199, kb_352_199), (202, kb_352_202)]
def km_352 : ab_Mi := ((⟨"SorryPurses$Law", "readUnit", "(LSorryPurses$Tape;I)V"⟩ : MethodName), prog_7_method_7_code, 5, (Option.none : Option FieldType), [], [])
-- 353: SorryPursesModel.takes (IIIIIIII)Z
def kb_353_0 : List ab_Row := [(.aload_n 0, 1, []), (.iload_n 1, 1, []), (.iload_n 2, 1, []), (.iload_n 3, 1, []), (.iload 4, 2, []), (.iload 5, 2, []), (.iload 6, 2, []), (.iload 7, 2, []), (.iload 8, 2, []), (.invokevirtual 160, 3, [600, 206, 9, 0, 2003, 2005, 55, 12]), (.istore 9, 2, []), (.iload 9, 2, []), (.ifCond .eq 7, 3, [28]), (.aload_n 0, 1, []), (.invokevirtual 164, 3, [600, 207, 1, 0, 2024, 2026, 58, 12])]
def kb_353_28 : List ab_Row := [(.iload 9, 2, []), (.ireturn, 1, [])]
def kt_353 : List (Nat × List ab_Row) := [(0, kb_353_0), (28, kb_353_28)]
def km_353 : ab_Mi := ((⟨"SorryPursesModel", "takes", "(IIIIIIII)Z"⟩ : MethodName), prog_14_method_20_code, 10, (Option.some FieldType.boolean), [], [])
-- 354: java/lang/String.length ()I
def kb_354_0 : List ab_Row := [(.aload_n 0, 1, []), (.getfield 9, 3, [30, 0, 977]), (.arraylength, 1, []), (.aload_n 0, 1, []), (.invokevirtual 335, 3, [600, 356, 1, 0, 836, 837, 838, 30]), (.ishr, 1, []), (.ireturn, 1, [])]
def kt_354 : List (Nat × List ab_Row) := [(0, kb_354_0)]
def km_354 : ab_Mi := ((⟨"java/lang/String", "length", "()I"⟩ : MethodName), prog_28_method_54_code, 1, (Option.some FieldType.int), [], [])
-- 355: java/lang/String.charAt (I)C
def kb_355_0 : List ab_Row := [(.aload_n 0, 1, []), (.invokevirtual 492, 3, [600, 357, 1, 0, 1141, 1142, 1143, 30]), (.ifCond .eq 12, 3, [16]), (.aload_n 0, 1, []), (.getfield 9, 3, [30, 0, 977]), (.iload_n 1, 1, []), (.invokestatic 495, 3, [600, 358, 2, 1, 1145, 1146, 0, 0]), (.ireturn, 1, [])]
def kb_355_16 : List ab_Row := [(.aload_n 0, 1, []), (.getfield 9, 3, [30, 0, 977]), (.iload_n 1, 1, [])]
def kt_355 : List (Nat × List ab_Row) := [(0, kb_355_0), (16, kb_355_16)]
def km_355 : ab_Mi := ((⟨"java/lang/String", "charAt", "(I)C"⟩ : MethodName), prog_28_method_56_code, 2, (Option.some FieldType.char), [], [])
-- 356: java/lang/String.coder ()B
def kb_356_0 : List ab_Row := [(.getstatic 38, 3, [0, 840]), (.ifCond .eq 10, 3, [13]), (.aload_n 0, 1, []), (.getfield 15, 3, [30, 1, 978]), (.goto 4, 3, [14])]
def kb_356_13 : List ab_Row := [(.iconst 1, 1, [])]
def kb_356_14 : List ab_Row := [(.ireturn, 1, [])]
def kt_356 : List (Nat × List ab_Row) := [(0, kb_356_0), (13, kb_356_13), (14, kb_356_14)]
def km_356 : ab_Mi := ((⟨"java/lang/String", "coder", "()B"⟩ : MethodName), prog_28_method_152_code, 1, (Option.some FieldType.byte), [], [])
-- 357: java/lang/String.isLatin1 ()Z
def kb_357_0 : List ab_Row := [(.getstatic 38, 3, [0, 840]), (.ifCond .eq 14, 3, [17]), (.aload_n 0, 1, []), (.getfield 15, 3, [30, 1, 978]), (.ifCond .ne 7, 3, [17]), (.iconst 1, 1, []), (.goto 4, 3, [18])]
def kb_357_17 : List ab_Row := [(.iconst 0, 1, [])]
def kb_357_18 : List ab_Row := [(.ireturn, 1, [])]
def kt_357 : List (Nat × List ab_Row) := [(0, kb_357_0), (17, kb_357_17), (18, kb_357_18)]
def km_357 : ab_Mi := ((⟨"java/lang/String", "isLatin1", "()Z"⟩ : MethodName), prog_28_method_154_code, 1, (Option.some FieldType.boolean), [], [])
-- 358: java/lang/StringLatin1.charAt ([BI)C
def kb_358_0 : List ab_Row := [(.iload_n 1, 1, []), (.aload_n 0, 1, []), (.arraylength, 1, []), (.invokestatic 9, 3, [720, 1148, 1149, 122, 1150]), (.aload_n 0, 1, []), (.iload_n 1, 1, []), (.baload, 1, []), (.sipush 255, 3, []), (.iand, 1, []), (.i2c, 1, []), (.ireturn, 1, [])]
def kt_358 : List (Nat × List ab_Row) := [(0, kb_358_0)]
def km_358 : ab_Mi := ((⟨"java/lang/StringLatin1", "charAt", "([BI)C"⟩ : MethodName), prog_30_method_2_code, 2, (Option.some FieldType.char), [], [])
def ab_fnd (t : List (Nat × List ab_Row)) (pc : Nat) : Option (List ab_Row) := match t with
  | [] => none
  | a :: r => if a.1 = pc then some a.2 else ab_fnd r pc
def kt_all : List (List (Nat × List ab_Row)) := [kt_0, kt_1, kt_2, kt_3, kt_4, kt_5, kt_6, kt_7, kt_8, kt_9, kt_10, kt_11, kt_12, kt_13, kt_14, kt_15, kt_16, kt_17, kt_18, kt_19, kt_20, kt_21, kt_22, kt_23, kt_24, kt_25, kt_26, kt_27, kt_28, kt_29, kt_30, kt_31, kt_32, kt_33, kt_34, kt_35, kt_36, kt_37, kt_38, kt_39, kt_40, kt_41, kt_42, kt_43, kt_44, kt_45, kt_46, kt_47, kt_48, kt_49, kt_50, kt_51, kt_52, kt_53, kt_54, kt_55, kt_56, kt_57, kt_58, kt_59, kt_60, kt_61, kt_62, kt_63, kt_64, kt_65, kt_66, kt_67, kt_68, kt_69, kt_70, kt_71, kt_72, kt_73, kt_74, kt_75, kt_76, kt_77, kt_78, kt_79, kt_80, kt_81, kt_82, kt_83, kt_84, kt_85, kt_86, kt_87, kt_88, kt_89, kt_90, kt_91, kt_92, kt_93, kt_94, kt_95, kt_96, kt_97, kt_98, kt_99, kt_100, kt_101, kt_102, kt_103, kt_104, kt_105, kt_106, kt_107, kt_108, kt_109, kt_110, kt_111, kt_112, kt_113, kt_114, kt_115, kt_116, kt_117, kt_118, kt_119, kt_120, kt_121, kt_122, kt_123, kt_124, kt_125, kt_126, kt_127, kt_128, kt_129, kt_130, kt_131, kt_132, kt_133, kt_134, kt_135, kt_136, kt_137, kt_138, kt_139, kt_140, kt_141, kt_142, kt_143, kt_144, kt_145, kt_146, kt_147, kt_148, kt_149, kt_150, kt_151, kt_152, kt_153, kt_154, kt_155, kt_156, kt_157, kt_158, kt_159, kt_160, kt_161, kt_162, kt_163, kt_164, kt_165, kt_166, kt_167, kt_168, kt_169, kt_170, kt_171, kt_172, kt_173, kt_174, kt_175, kt_176, kt_177, kt_178, kt_179, kt_180, kt_181, kt_182, kt_183, kt_184, kt_185, kt_186, kt_187, kt_188, kt_189, kt_190, kt_191, kt_192, kt_193, kt_194, kt_195, kt_196, kt_197, kt_198, kt_199, kt_200, kt_201, kt_202, kt_203, kt_204, kt_205, kt_206, kt_207, kt_208, kt_209, kt_210, kt_211, kt_212, kt_213, kt_214, kt_215, kt_216, kt_217, kt_218, kt_219, kt_220, kt_221, kt_222, kt_223, kt_224, kt_225, kt_226, kt_227, kt_228, kt_229, kt_230, kt_231, kt_232, kt_233, kt_234, kt_235, kt_236, kt_237, kt_238, kt_239, kt_240, kt_241, kt_242, kt_243, kt_244, kt_245, kt_246, kt_247, kt_248, kt_249, kt_250, kt_251, kt_252, kt_253, kt_254, kt_255, kt_256, kt_257, kt_258, kt_259, kt_260, kt_261, kt_262, kt_263, kt_264, kt_265, kt_266, kt_267, kt_268, kt_269, kt_270, kt_271, kt_272, kt_273, kt_274, kt_275, kt_276, kt_277, kt_278, kt_279, kt_280, kt_281, kt_282, kt_283, kt_284, kt_285, kt_286, kt_287, kt_288, kt_289, kt_290, kt_291, kt_292, kt_293, kt_294, kt_295, kt_296, kt_297, kt_298, kt_299, kt_300, kt_301, kt_302, kt_303, kt_304, kt_305, kt_306, kt_307, kt_308, kt_309, kt_310, kt_311, kt_312, kt_313, kt_314, kt_315, kt_316, kt_317, kt_318, kt_319, kt_320, kt_321, kt_322, kt_323, kt_324, kt_325, kt_326, kt_327, kt_328, kt_329, kt_330, kt_331, kt_332, kt_333, kt_334, kt_335, kt_336, kt_337, kt_338, kt_339, kt_340, kt_341, kt_342, kt_343, kt_344, kt_345, kt_346, kt_347, kt_348, kt_349, kt_350, kt_351, kt_352, kt_353, kt_354, kt_355, kt_356, kt_357, kt_358]
def km_all : List ab_Mi := [km_0, km_1, km_2, km_3, km_4, km_5, km_6, km_7, km_8, km_9, km_10, km_11, km_12, km_13, km_14, km_15, km_16, km_17, km_18, km_19, km_20, km_21, km_22, km_23, km_24, km_25, km_26, km_27, km_28, km_29, km_30, km_31, km_32, km_33, km_34, km_35, km_36, km_37, km_38, km_39, km_40, km_41, km_42, km_43, km_44, km_45, km_46, km_47, km_48, km_49, km_50, km_51, km_52, km_53, km_54, km_55, km_56, km_57, km_58, km_59, km_60, km_61, km_62, km_63, km_64, km_65, km_66, km_67, km_68, km_69, km_70, km_71, km_72, km_73, km_74, km_75, km_76, km_77, km_78, km_79, km_80, km_81, km_82, km_83, km_84, km_85, km_86, km_87, km_88, km_89, km_90, km_91, km_92, km_93, km_94, km_95, km_96, km_97, km_98, km_99, km_100, km_101, km_102, km_103, km_104, km_105, km_106, km_107, km_108, km_109, km_110, km_111, km_112, km_113, km_114, km_115, km_116, km_117, km_118, km_119, km_120, km_121, km_122, km_123, km_124, km_125, km_126, km_127, km_128, km_129, km_130, km_131, km_132, km_133, km_134, km_135, km_136, km_137, km_138, km_139, km_140, km_141, km_142, km_143, km_144, km_145, km_146, km_147, km_148, km_149, km_150, km_151, km_152, km_153, km_154, km_155, km_156, km_157, km_158, km_159, km_160, km_161, km_162, km_163, km_164, km_165, km_166, km_167, km_168, km_169, km_170, km_171, km_172, km_173, km_174, km_175, km_176, km_177, km_178, km_179, km_180, km_181, km_182, km_183, km_184, km_185, km_186, km_187, km_188, km_189, km_190, km_191, km_192, km_193, km_194, km_195, km_196, km_197, km_198, km_199, km_200, km_201, km_202, km_203, km_204, km_205, km_206, km_207, km_208, km_209, km_210, km_211, km_212, km_213, km_214, km_215, km_216, km_217, km_218, km_219, km_220, km_221, km_222, km_223, km_224, km_225, km_226, km_227, km_228, km_229, km_230, km_231, km_232, km_233, km_234, km_235, km_236, km_237, km_238, km_239, km_240, km_241, km_242, km_243, km_244, km_245, km_246, km_247, km_248, km_249, km_250, km_251, km_252, km_253, km_254, km_255, km_256, km_257, km_258, km_259, km_260, km_261, km_262, km_263, km_264, km_265, km_266, km_267, km_268, km_269, km_270, km_271, km_272, km_273, km_274, km_275, km_276, km_277, km_278, km_279, km_280, km_281, km_282, km_283, km_284, km_285, km_286, km_287, km_288, km_289, km_290, km_291, km_292, km_293, km_294, km_295, km_296, km_297, km_298, km_299, km_300, km_301, km_302, km_303, km_304, km_305, km_306, km_307, km_308, km_309, km_310, km_311, km_312, km_313, km_314, km_315, km_316, km_317, km_318, km_319, km_320, km_321, km_322, km_323, km_324, km_325, km_326, km_327, km_328, km_329, km_330, km_331, km_332, km_333, km_334, km_335, km_336, km_337, km_338, km_339, km_340, km_341, km_342, km_343, km_344, km_345, km_346, km_347, km_348, km_349, km_350, km_351, km_352, km_353, km_354, km_355, km_356, km_357, km_358]
def ab_pg : ab_PG := (fun i => km_all[i]?, fun i pc => (kt_all[i]?).bind (fun t => ab_fnd t pc))
