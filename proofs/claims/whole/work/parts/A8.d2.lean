/-! ===== the law's instructions ===== -/
theorem dL_law_1786 : decode mL_law.2.1 1786 = .ok (.aload_n 2, 1) := by decide +kernel
theorem dL_law_1793 : decode mL_law.2.1 1793 = .ok (.invokevirtual 252, 3) := by decide +kernel
theorem dL_law_1829 : decode mL_law.2.1 1829 = .ok (.aload_n 1, 1) := by decide +kernel
theorem dL_law_1842 : decode mL_law.2.1 1842 = .ok (.i2c, 1) := by decide +kernel
theorem dL_law_1843 : decode mL_law.2.1 1843 = .ok (.aload_n 3, 1) := by decide +kernel
theorem dL_law_1844 : decode mL_law.2.1 1844 = .ok (.invokestatic 253, 3) := by decide +kernel
theorem dL_law_1847 : decode mL_law.2.1 1847 = .ok (.istore 6, 2) := by decide +kernel
theorem dL_law_1849 : decode mL_law.2.1 1849 = .ok (.aload_n 2, 1) := by decide +kernel
theorem dL_law_1862 : decode mL_law.2.1 1862 = .ok (.i2c, 1) := by decide +kernel
theorem dL_law_1863 : decode mL_law.2.1 1863 = .ok (.invokevirtual 255, 3) := by decide +kernel
theorem dL_law_1899 : decode mL_law.2.1 1899 = .ok (.aload_n 1, 1) := by decide +kernel
theorem dL_law_1912 : decode mL_law.2.1 1912 = .ok (.i2c, 1) := by decide +kernel
theorem dL_law_1913 : decode mL_law.2.1 1913 = .ok (.aload_n 3, 1) := by decide +kernel
theorem dL_law_1914 : decode mL_law.2.1 1914 = .ok (.invokestatic 256, 3) := by decide +kernel
theorem dL_law_1917 : decode mL_law.2.1 1917 = .ok (.istore 6, 2) := by decide +kernel
theorem dL_law_1919 : decode mL_law.2.1 1919 = .ok (.aload_n 2, 1) := by decide +kernel
theorem dL_law_1932 : decode mL_law.2.1 1932 = .ok (.i2c, 1) := by decide +kernel
theorem dL_law_1933 : decode mL_law.2.1 1933 = .ok (.invokevirtual 258, 3) := by decide +kernel
theorem dL_law_1969 : decode mL_law.2.1 1969 = .ok (.aload_n 1, 1) := by decide +kernel
theorem dL_law_1982 : decode mL_law.2.1 1982 = .ok (.i2c, 1) := by decide +kernel
theorem dL_law_1989 : decode mL_law.2.1 1989 = .ok (.aload_n 3, 1) := by decide +kernel
theorem dL_law_1990 : decode mL_law.2.1 1990 = .ok (.invokestatic 259, 3) := by decide +kernel
theorem dL_law_1993 : decode mL_law.2.1 1993 = .ok (.istore 6, 2) := by decide +kernel
theorem dL_law_1995 : decode mL_law.2.1 1995 = .ok (.aload_n 2, 1) := by decide +kernel
theorem dL_law_2008 : decode mL_law.2.1 2008 = .ok (.i2c, 1) := by decide +kernel
theorem dL_law_2015 : decode mL_law.2.1 2015 = .ok (.invokevirtual 262, 3) := by decide +kernel
theorem dL_law_2051 : decode mL_law.2.1 2051 = .ok (.aload_n 1, 1) := by decide +kernel
theorem dL_law_2058 : decode mL_law.2.1 2058 = .ok (.aload_n 3, 1) := by decide +kernel
theorem dL_law_2059 : decode mL_law.2.1 2059 = .ok (.invokestatic 263, 3) := by decide +kernel
theorem dL_law_2062 : decode mL_law.2.1 2062 = .ok (.istore 6, 2) := by decide +kernel
theorem dL_law_2064 : decode mL_law.2.1 2064 = .ok (.aload_n 2, 1) := by decide +kernel
theorem dL_law_2071 : decode mL_law.2.1 2071 = .ok (.invokevirtual 265, 3) := by decide +kernel
theorem dL_law_2107 : decode mL_law.2.1 2107 = .ok (.aload_n 1, 1) := by decide +kernel
theorem dL_law_2114 : decode mL_law.2.1 2114 = .ok (.aload_n 3, 1) := by decide +kernel
theorem dL_law_2115 : decode mL_law.2.1 2115 = .ok (.invokestatic 266, 3) := by decide +kernel
theorem dL_law_2118 : decode mL_law.2.1 2118 = .ok (.istore 6, 2) := by decide +kernel
theorem dL_law_2120 : decode mL_law.2.1 2120 = .ok (.aload_n 2, 1) := by decide +kernel
theorem dL_law_2127 : decode mL_law.2.1 2127 = .ok (.invokevirtual 268, 3) := by decide +kernel
theorem dL_law_2163 : decode mL_law.2.1 2163 = .ok (.aload_n 1, 1) := by decide +kernel
theorem dL_law_2164 : decode mL_law.2.1 2164 = .ok (.invokevirtual 269, 3) := by decide +kernel
theorem dL_law_2167 : decode mL_law.2.1 2167 = .ok (.aload_n 2, 1) := by decide +kernel
theorem dL_law_2168 : decode mL_law.2.1 2168 = .ok (.invokevirtual 272, 3) := by decide +kernel
theorem dL_law_2171 : decode mL_law.2.1 2171 = .ok (.if_icmp .eq 804, 3) := by decide +kernel
theorem dL_law_2176 : decode mL_law.2.1 2176 = .ok (.aload_n 1, 1) := by decide +kernel
theorem dL_law_2177 : decode mL_law.2.1 2177 = .ok (.invokevirtual 273, 3) := by decide +kernel
theorem dL_law_2180 : decode mL_law.2.1 2180 = .ok (.aload_n 2, 1) := by decide +kernel
theorem dL_law_2181 : decode mL_law.2.1 2181 = .ok (.invokevirtual 276, 3) := by decide +kernel
theorem dL_law_2184 : decode mL_law.2.1 2184 = .ok (.if_icmp .eq 791, 3) := by decide +kernel
theorem dL_law_2189 : decode mL_law.2.1 2189 = .ok (.aload_n 1, 1) := by decide +kernel
theorem dL_law_2196 : decode mL_law.2.1 2196 = .ok (.aload_n 3, 1) := by decide +kernel
theorem dL_law_2197 : decode mL_law.2.1 2197 = .ok (.invokestatic 277, 3) := by decide +kernel
theorem dL_law_2200 : decode mL_law.2.1 2200 = .ok (.istore 6, 2) := by decide +kernel
theorem dL_law_2202 : decode mL_law.2.1 2202 = .ok (.aload_n 2, 1) := by decide +kernel
theorem dL_law_2209 : decode mL_law.2.1 2209 = .ok (.invokevirtual 279, 3) := by decide +kernel
theorem dL_law_2245 : decode mL_law.2.1 2245 = .ok (.aload_n 1, 1) := by decide +kernel
theorem dL_law_2252 : decode mL_law.2.1 2252 = .ok (.aload_n 3, 1) := by decide +kernel
theorem dL_law_2253 : decode mL_law.2.1 2253 = .ok (.invokestatic 280, 3) := by decide +kernel
theorem dL_law_2256 : decode mL_law.2.1 2256 = .ok (.istore 6, 2) := by decide +kernel
theorem dL_law_2258 : decode mL_law.2.1 2258 = .ok (.aload_n 2, 1) := by decide +kernel
theorem dL_law_2265 : decode mL_law.2.1 2265 = .ok (.invokevirtual 282, 3) := by decide +kernel
theorem dL_law_2301 : decode mL_law.2.1 2301 = .ok (.aload_n 1, 1) := by decide +kernel
theorem dL_law_2302 : decode mL_law.2.1 2302 = .ok (.invokevirtual 283, 3) := by decide +kernel
theorem dL_law_2305 : decode mL_law.2.1 2305 = .ok (.aload_n 2, 1) := by decide +kernel
theorem dL_law_2306 : decode mL_law.2.1 2306 = .ok (.invokevirtual 286, 3) := by decide +kernel
theorem dL_law_2309 : decode mL_law.2.1 2309 = .ok (.if_icmp .eq 666, 3) := by decide +kernel
theorem dL_law_2314 : decode mL_law.2.1 2314 = .ok (.aload_n 1, 1) := by decide +kernel
theorem dL_law_2321 : decode mL_law.2.1 2321 = .ok (.i2c, 1) := by decide +kernel
theorem dL_law_2322 : decode mL_law.2.1 2322 = .ok (.aload_n 3, 1) := by decide +kernel
theorem dL_law_2323 : decode mL_law.2.1 2323 = .ok (.invokestatic 287, 3) := by decide +kernel
theorem dL_law_2326 : decode mL_law.2.1 2326 = .ok (.istore 6, 2) := by decide +kernel
theorem dL_law_2328 : decode mL_law.2.1 2328 = .ok (.aload_n 2, 1) := by decide +kernel
theorem dL_law_2335 : decode mL_law.2.1 2335 = .ok (.i2c, 1) := by decide +kernel
theorem dL_law_2336 : decode mL_law.2.1 2336 = .ok (.invokevirtual 289, 3) := by decide +kernel
theorem dL_law_2372 : decode mL_law.2.1 2372 = .ok (.aload_n 1, 1) := by decide +kernel
theorem dL_law_2373 : decode mL_law.2.1 2373 = .ok (.aload 4, 2) := by decide +kernel
theorem dL_law_2375 : decode mL_law.2.1 2375 = .ok (.invokestatic 290, 3) := by decide +kernel
theorem dL_law_2378 : decode mL_law.2.1 2378 = .ok (.istore 6, 2) := by decide +kernel
theorem dL_law_2380 : decode mL_law.2.1 2380 = .ok (.aload_n 2, 1) := by decide +kernel
theorem dL_law_2381 : decode mL_law.2.1 2381 = .ok (.invokevirtual 293, 3) := by decide +kernel
theorem dL_law_2438 : decode mL_law.2.1 2438 = .ok (.aload_n 1, 1) := by decide +kernel
theorem dL_law_2439 : decode mL_law.2.1 2439 = .ok (.aload 4, 2) := by decide +kernel
theorem dL_law_2441 : decode mL_law.2.1 2441 = .ok (.invokestatic 294, 3) := by decide +kernel
theorem dL_law_2444 : decode mL_law.2.1 2444 = .ok (.istore 6, 2) := by decide +kernel
theorem dL_law_2446 : decode mL_law.2.1 2446 = .ok (.aload_n 2, 1) := by decide +kernel
theorem dL_law_2447 : decode mL_law.2.1 2447 = .ok (.invokevirtual 296, 3) := by decide +kernel
theorem dL_law_2503 : decode mL_law.2.1 2503 = .ok (.aload_n 1, 1) := by decide +kernel
theorem dL_law_2510 : decode mL_law.2.1 2510 = .ok (.aload_n 3, 1) := by decide +kernel
theorem dL_law_2511 : decode mL_law.2.1 2511 = .ok (.invokestatic 297, 3) := by decide +kernel
theorem dL_law_2514 : decode mL_law.2.1 2514 = .ok (.istore 6, 2) := by decide +kernel
theorem dL_law_2516 : decode mL_law.2.1 2516 = .ok (.aload_n 2, 1) := by decide +kernel
theorem dL_law_2523 : decode mL_law.2.1 2523 = .ok (.invokevirtual 299, 3) := by decide +kernel
theorem dL_law_2559 : decode mL_law.2.1 2559 = .ok (.aload_n 1, 1) := by decide +kernel
theorem dL_law_2566 : decode mL_law.2.1 2566 = .ok (.aload_n 3, 1) := by decide +kernel
theorem dL_law_2567 : decode mL_law.2.1 2567 = .ok (.invokestatic 300, 3) := by decide +kernel
theorem dL_law_2570 : decode mL_law.2.1 2570 = .ok (.istore 6, 2) := by decide +kernel
theorem dL_law_2572 : decode mL_law.2.1 2572 = .ok (.aload_n 2, 1) := by decide +kernel
theorem dL_law_2579 : decode mL_law.2.1 2579 = .ok (.invokevirtual 302, 3) := by decide +kernel
theorem dL_law_2615 : decode mL_law.2.1 2615 = .ok (.aload_n 1, 1) := by decide +kernel
theorem dL_law_2622 : decode mL_law.2.1 2622 = .ok (.aload_n 3, 1) := by decide +kernel
theorem dL_law_2623 : decode mL_law.2.1 2623 = .ok (.invokestatic 303, 3) := by decide +kernel
theorem dL_law_2626 : decode mL_law.2.1 2626 = .ok (.istore 6, 2) := by decide +kernel
theorem dL_law_2628 : decode mL_law.2.1 2628 = .ok (.aload_n 2, 1) := by decide +kernel
theorem dL_law_2635 : decode mL_law.2.1 2635 = .ok (.invokevirtual 305, 3) := by decide +kernel
theorem dL_law_2671 : decode mL_law.2.1 2671 = .ok (.aload_n 1, 1) := by decide +kernel
theorem dL_law_2672 : decode mL_law.2.1 2672 = .ok (.invokevirtual 306, 3) := by decide +kernel
theorem dL_law_2675 : decode mL_law.2.1 2675 = .ok (.aload_n 2, 1) := by decide +kernel
theorem dL_law_2676 : decode mL_law.2.1 2676 = .ok (.invokevirtual 310, 3) := by decide +kernel
theorem dL_law_2679 : decode mL_law.2.1 2679 = .ok (.if_icmp .eq 296, 3) := by decide +kernel
theorem dL_law_2684 : decode mL_law.2.1 2684 = .ok (.aload_n 1, 1) := by decide +kernel
theorem dL_law_2691 : decode mL_law.2.1 2691 = .ok (.i2c, 1) := by decide +kernel
theorem dL_law_2692 : decode mL_law.2.1 2692 = .ok (.aload_n 3, 1) := by decide +kernel
theorem dL_law_2693 : decode mL_law.2.1 2693 = .ok (.invokestatic 311, 3) := by decide +kernel
theorem dL_law_2696 : decode mL_law.2.1 2696 = .ok (.istore 6, 2) := by decide +kernel
theorem dL_law_2698 : decode mL_law.2.1 2698 = .ok (.aload_n 2, 1) := by decide +kernel
theorem dL_law_2705 : decode mL_law.2.1 2705 = .ok (.i2c, 1) := by decide +kernel
theorem dL_law_2706 : decode mL_law.2.1 2706 = .ok (.invokevirtual 313, 3) := by decide +kernel
theorem dL_law_2742 : decode mL_law.2.1 2742 = .ok (.aload_n 1, 1) := by decide +kernel
theorem dL_law_2743 : decode mL_law.2.1 2743 = .ok (.aload_n 3, 1) := by decide +kernel
theorem dL_law_2744 : decode mL_law.2.1 2744 = .ok (.invokestatic 314, 3) := by decide +kernel
theorem dL_law_2747 : decode mL_law.2.1 2747 = .ok (.istore 6, 2) := by decide +kernel
theorem dL_law_2749 : decode mL_law.2.1 2749 = .ok (.aload_n 2, 1) := by decide +kernel
theorem dL_law_2750 : decode mL_law.2.1 2750 = .ok (.invokevirtual 317, 3) := by decide +kernel
theorem dL_law_2786 : decode mL_law.2.1 2786 = .ok (.aload_n 1, 1) := by decide +kernel
theorem dL_law_2787 : decode mL_law.2.1 2787 = .ok (.aload_n 3, 1) := by decide +kernel
theorem dL_law_2788 : decode mL_law.2.1 2788 = .ok (.invokestatic 318, 3) := by decide +kernel
theorem dL_law_2791 : decode mL_law.2.1 2791 = .ok (.istore 6, 2) := by decide +kernel
theorem dL_law_2793 : decode mL_law.2.1 2793 = .ok (.aload_n 2, 1) := by decide +kernel
theorem dL_law_2794 : decode mL_law.2.1 2794 = .ok (.invokevirtual 320, 3) := by decide +kernel
theorem dL_law_2830 : decode mL_law.2.1 2830 = .ok (.aload_n 1, 1) := by decide +kernel
theorem dL_law_2831 : decode mL_law.2.1 2831 = .ok (.aload_n 3, 1) := by decide +kernel
theorem dL_law_2832 : decode mL_law.2.1 2832 = .ok (.invokestatic 321, 3) := by decide +kernel
theorem dL_law_2835 : decode mL_law.2.1 2835 = .ok (.istore 6, 2) := by decide +kernel
theorem dL_law_2837 : decode mL_law.2.1 2837 = .ok (.aload_n 2, 1) := by decide +kernel
theorem dL_law_2838 : decode mL_law.2.1 2838 = .ok (.invokevirtual 323, 3) := by decide +kernel
theorem dL_law_2874 : decode mL_law.2.1 2874 = .ok (.aload_n 1, 1) := by decide +kernel
theorem dL_law_2875 : decode mL_law.2.1 2875 = .ok (.aload_n 3, 1) := by decide +kernel
theorem dL_law_2876 : decode mL_law.2.1 2876 = .ok (.invokestatic 324, 3) := by decide +kernel
theorem dL_law_2879 : decode mL_law.2.1 2879 = .ok (.istore 6, 2) := by decide +kernel
theorem dL_law_2881 : decode mL_law.2.1 2881 = .ok (.aload_n 2, 1) := by decide +kernel
theorem dL_law_2882 : decode mL_law.2.1 2882 = .ok (.invokevirtual 326, 3) := by decide +kernel
theorem dL_law_2918 : decode mL_law.2.1 2918 = .ok (.aload_n 1, 1) := by decide +kernel
theorem dL_law_2919 : decode mL_law.2.1 2919 = .ok (.invokevirtual 327, 3) := by decide +kernel
theorem dL_law_2922 : decode mL_law.2.1 2922 = .ok (.aload_n 2, 1) := by decide +kernel
theorem dL_law_2923 : decode mL_law.2.1 2923 = .ok (.invokevirtual 330, 3) := by decide +kernel
theorem dL_law_2926 : decode mL_law.2.1 2926 = .ok (.if_icmp .eq 49, 3) := by decide +kernel
theorem dL_law_2931 : decode mL_law.2.1 2931 = .ok (.aload_n 1, 1) := by decide +kernel
theorem dL_law_2932 : decode mL_law.2.1 2932 = .ok (.aload_n 3, 1) := by decide +kernel
theorem dL_law_2933 : decode mL_law.2.1 2933 = .ok (.invokestatic 331, 3) := by decide +kernel
theorem dL_law_2936 : decode mL_law.2.1 2936 = .ok (.istore 6, 2) := by decide +kernel
theorem dL_law_2938 : decode mL_law.2.1 2938 = .ok (.aload_n 2, 1) := by decide +kernel
theorem dL_law_2939 : decode mL_law.2.1 2939 = .ok (.invokevirtual 333, 3) := by decide +kernel
theorem dL_law_28 : decode mL_law.2.1 28 = .ok (.iload 5, 2) := by decide +kernel
theorem dL_law_30 : decode mL_law.2.1 30 = .ok (.aload_n 0, 1) := by decide +kernel
theorem dL_law_31 : decode mL_law.2.1 31 = .ok (.arraylength, 1) := by decide +kernel
theorem dL_law_32 : decode mL_law.2.1 32 = .ok (.iconst 4, 1) := by decide +kernel
theorem dL_law_33 : decode mL_law.2.1 33 = .ok (.isub, 1) := by decide +kernel
theorem dL_law_34 : decode mL_law.2.1 34 = .ok (.if_icmp .gt 2947, 3) := by decide +kernel
theorem dL_law_37 : decode mL_law.2.1 37 = .ok (.aload_n 0, 1) := by decide +kernel
theorem dL_law_38 : decode mL_law.2.1 38 = .ok (.iload 5, 2) := by decide +kernel
theorem dL_law_40 : decode mL_law.2.1 40 = .ok (.iaload, 1) := by decide +kernel
