def k_L_law__2680 : List CI := (2680, .iconst 1, 1) :: (2681, .ireturn, 1) :: []
def k_L_law__2674 : List CI := (2674, .iinc 4 6, 3) :: (2677, .goto (-2654), 3) :: k_L_law__2680
def k_L_law__2649 : List CI := (2649, .aload_n 1, 1) :: (2650, .aload_n 0, 1) :: (2651, .iload 4, 2) :: (2653, .iconst 1, 1) :: (2654, .iadd, 1) :: (2655, .iaload, 1) :: (2656, .invokevirtual 273, 3) :: (2659, .aload_n 2, 1) :: (2660, .aload_n 0, 1) :: (2661, .iload 4, 2) :: (2663, .iconst 1, 1) :: (2664, .iadd, 1) :: (2665, .iaload, 1) :: (2666, .invokevirtual 276, 3) :: (2669, .if_icmp .eq 5, 3) :: (2672, .iconst 0, 1) :: (2673, .ireturn, 1) :: k_L_law__2674
def k_L_law__2624 : List CI := (2624, .aload_n 1, 1) :: (2625, .aload_n 0, 1) :: (2626, .iload 4, 2) :: (2628, .iconst 1, 1) :: (2629, .iadd, 1) :: (2630, .iaload, 1) :: (2631, .invokevirtual 269, 3) :: (2634, .aload_n 2, 1) :: (2635, .aload_n 0, 1) :: (2636, .iload 4, 2) :: (2638, .iconst 1, 1) :: (2639, .iadd, 1) :: (2640, .iaload, 1) :: (2641, .invokevirtual 272, 3) :: (2644, .if_icmp .eq 30, 3) :: (2647, .iconst 0, 1) :: (2648, .ireturn, 1) :: k_L_law__2649
def k_L_law__2611 : List CI := (2611, .aload_n 1, 1) :: (2612, .invokevirtual 265, 3) :: (2615, .aload_n 2, 1) :: (2616, .invokevirtual 268, 3) :: (2619, .if_icmp .eq 55, 3) :: (2622, .iconst 0, 1) :: (2623, .ireturn, 1) :: k_L_law__2624
def k_L_law__2598 : List CI := (2598, .aload_n 1, 1) :: (2599, .invokevirtual 261, 3) :: (2602, .aload_n 2, 1) :: (2603, .invokevirtual 264, 3) :: (2606, .if_icmp .eq 68, 3) :: (2609, .iconst 0, 1) :: (2610, .ireturn, 1) :: k_L_law__2611
def k_L_law__2595 : List CI := (2595, .goto 79, 3) :: k_L_law__2598
def k_L_law__2578 : List CI := (2578, .iload 5, 2) :: (2580, .ifCond .ne 15, 3) :: (2583, .aload_n 3, 1) :: (2584, .iconst 0, 1) :: (2585, .laload, 1) :: (2586, .iload 6, 2) :: (2588, .i2l, 1) :: (2589, .lcmp, 1) :: (2590, .ifCond .eq 5, 3) :: (2593, .iconst 0, 1) :: (2594, .ireturn, 1) :: k_L_law__2595
def k_L_law__2518 : List CI := (2518, .aload_n 1, 1) :: (2519, .aload_n 0, 1) :: (2520, .iload 4, 2) :: (2522, .iconst 1, 1) :: (2523, .iadd, 1) :: (2524, .iaload, 1) :: (2525, .aload_n 0, 1) :: (2526, .iload 4, 2) :: (2528, .iconst 2, 1) :: (2529, .iadd, 1) :: (2530, .iaload, 1) :: (2531, .aload_n 0, 1) :: (2532, .iload 4, 2) :: (2534, .iconst 3, 1) :: (2535, .iadd, 1) :: (2536, .iaload, 1) :: (2537, .aload_n 3, 1) :: (2538, .invokestatic 258, 3) :: (2541, .istore 5, 2) :: (2543, .aload_n 2, 1) :: (2544, .aload_n 0, 1) :: (2545, .iload 4, 2) :: (2547, .iconst 1, 1) :: (2548, .iadd, 1) :: (2549, .iaload, 1) :: (2550, .aload_n 0, 1) :: (2551, .iload 4, 2) :: (2553, .iconst 2, 1) :: (2554, .iadd, 1) :: (2555, .iaload, 1) :: (2556, .aload_n 0, 1) :: (2557, .iload 4, 2) :: (2559, .iconst 3, 1) :: (2560, .iadd, 1) :: (2561, .iaload, 1) :: (2562, .invokevirtual 260, 3) :: (2565, .istore 6, 2) :: (2567, .aload_n 2, 1) :: (2568, .invokevirtual 139, 3) :: (2571, .iload 5, 2) :: (2573, .if_icmp .eq 5, 3) :: (2576, .iconst 0, 1) :: (2577, .ireturn, 1) :: k_L_law__2578
def k_L_law__2515 : List CI := (2515, .goto 159, 3) :: k_L_law__2518
def k_L_law__2498 : List CI := (2498, .iload 5, 2) :: (2500, .ifCond .ne 15, 3) :: (2503, .aload_n 3, 1) :: (2504, .iconst 0, 1) :: (2505, .laload, 1) :: (2506, .iload 6, 2) :: (2508, .i2l, 1) :: (2509, .lcmp, 1) :: (2510, .ifCond .eq 5, 3) :: (2513, .iconst 0, 1) :: (2514, .ireturn, 1) :: k_L_law__2515
def k_L_law__2450 : List CI := (2450, .aload_n 1, 1) :: (2451, .aload_n 0, 1) :: (2452, .iload 4, 2) :: (2454, .iconst 1, 1) :: (2455, .iadd, 1) :: (2456, .iaload, 1) :: (2457, .aload_n 0, 1) :: (2458, .iload 4, 2) :: (2460, .iconst 2, 1) :: (2461, .iadd, 1) :: (2462, .iaload, 1) :: (2463, .aload_n 3, 1) :: (2464, .invokestatic 255, 3) :: (2467, .istore 5, 2) :: (2469, .aload_n 2, 1) :: (2470, .aload_n 0, 1) :: (2471, .iload 4, 2) :: (2473, .iconst 1, 1) :: (2474, .iadd, 1) :: (2475, .iaload, 1) :: (2476, .aload_n 0, 1) :: (2477, .iload 4, 2) :: (2479, .iconst 2, 1) :: (2480, .iadd, 1) :: (2481, .iaload, 1) :: (2482, .invokevirtual 257, 3) :: (2485, .istore 6, 2) :: (2487, .aload_n 2, 1) :: (2488, .invokevirtual 139, 3) :: (2491, .iload 5, 2) :: (2493, .if_icmp .eq 5, 3) :: (2496, .iconst 0, 1) :: (2497, .ireturn, 1) :: k_L_law__2498
def k_L_law__2447 : List CI := (2447, .goto 227, 3) :: k_L_law__2450
def k_L_law__2430 : List CI := (2430, .iload 5, 2) :: (2432, .ifCond .ne 15, 3) :: (2435, .aload_n 3, 1) :: (2436, .iconst 0, 1) :: (2437, .laload, 1) :: (2438, .iload 6, 2) :: (2440, .i2l, 1) :: (2441, .lcmp, 1) :: (2442, .ifCond .eq 5, 3) :: (2445, .iconst 0, 1) :: (2446, .ireturn, 1) :: k_L_law__2447
def k_L_law__2382 : List CI := (2382, .aload_n 1, 1) :: (2383, .aload_n 0, 1) :: (2384, .iload 4, 2) :: (2386, .iconst 1, 1) :: (2387, .iadd, 1) :: (2388, .iaload, 1) :: (2389, .aload_n 0, 1) :: (2390, .iload 4, 2) :: (2392, .iconst 2, 1) :: (2393, .iadd, 1) :: (2394, .iaload, 1) :: (2395, .aload_n 3, 1) :: (2396, .invokestatic 252, 3) :: (2399, .istore 5, 2) :: (2401, .aload_n 2, 1) :: (2402, .aload_n 0, 1) :: (2403, .iload 4, 2) :: (2405, .iconst 1, 1) :: (2406, .iadd, 1) :: (2407, .iaload, 1) :: (2408, .aload_n 0, 1) :: (2409, .iload 4, 2) :: (2411, .iconst 2, 1) :: (2412, .iadd, 1) :: (2413, .iaload, 1) :: (2414, .invokevirtual 254, 3) :: (2417, .istore 6, 2) :: (2419, .aload_n 2, 1) :: (2420, .invokevirtual 139, 3) :: (2423, .iload 5, 2) :: (2425, .if_icmp .eq 5, 3) :: (2428, .iconst 0, 1) :: (2429, .ireturn, 1) :: k_L_law__2430
def k_L_law__2379 : List CI := (2379, .goto 295, 3) :: k_L_law__2382
def k_L_law__2362 : List CI := (2362, .iload 5, 2) :: (2364, .ifCond .ne 15, 3) :: (2367, .aload_n 3, 1) :: (2368, .iconst 0, 1) :: (2369, .laload, 1) :: (2370, .iload 6, 2) :: (2372, .i2l, 1) :: (2373, .lcmp, 1) :: (2374, .ifCond .eq 5, 3) :: (2377, .iconst 0, 1) :: (2378, .ireturn, 1) :: k_L_law__2379
def k_L_law__2314 : List CI := (2314, .aload_n 1, 1) :: (2315, .aload_n 0, 1) :: (2316, .iload 4, 2) :: (2318, .iconst 1, 1) :: (2319, .iadd, 1) :: (2320, .iaload, 1) :: (2321, .aload_n 0, 1) :: (2322, .iload 4, 2) :: (2324, .iconst 2, 1) :: (2325, .iadd, 1) :: (2326, .iaload, 1) :: (2327, .aload_n 3, 1) :: (2328, .invokestatic 249, 3) :: (2331, .istore 5, 2) :: (2333, .aload_n 2, 1) :: (2334, .aload_n 0, 1) :: (2335, .iload 4, 2) :: (2337, .iconst 1, 1) :: (2338, .iadd, 1) :: (2339, .iaload, 1) :: (2340, .aload_n 0, 1) :: (2341, .iload 4, 2) :: (2343, .iconst 2, 1) :: (2344, .iadd, 1) :: (2345, .iaload, 1) :: (2346, .invokevirtual 251, 3) :: (2349, .istore 6, 2) :: (2351, .aload_n 2, 1) :: (2352, .invokevirtual 139, 3) :: (2355, .iload 5, 2) :: (2357, .if_icmp .eq 5, 3) :: (2360, .iconst 0, 1) :: (2361, .ireturn, 1) :: k_L_law__2362
def k_L_law__2301 : List CI := (2301, .aload_n 1, 1) :: (2302, .invokevirtual 245, 3) :: (2305, .aload_n 2, 1) :: (2306, .invokevirtual 248, 3) :: (2309, .if_icmp .eq 365, 3) :: (2312, .iconst 0, 1) :: (2313, .ireturn, 1) :: k_L_law__2314
def k_L_law__2298 : List CI := (2298, .goto 376, 3) :: k_L_law__2301
def k_L_law__2281 : List CI := (2281, .iload 5, 2) :: (2283, .ifCond .ne 15, 3) :: (2286, .aload_n 3, 1) :: (2287, .iconst 0, 1) :: (2288, .laload, 1) :: (2289, .iload 6, 2) :: (2291, .i2l, 1) :: (2292, .lcmp, 1) :: (2293, .ifCond .eq 5, 3) :: (2296, .iconst 0, 1) :: (2297, .ireturn, 1) :: k_L_law__2298
def k_L_law__2233 : List CI := (2233, .aload_n 1, 1) :: (2234, .aload_n 0, 1) :: (2235, .iload 4, 2) :: (2237, .iconst 1, 1) :: (2238, .iadd, 1) :: (2239, .iaload, 1) :: (2240, .aload_n 0, 1) :: (2241, .iload 4, 2) :: (2243, .iconst 2, 1) :: (2244, .iadd, 1) :: (2245, .iaload, 1) :: (2246, .aload_n 3, 1) :: (2247, .invokestatic 242, 3) :: (2250, .istore 5, 2) :: (2252, .aload_n 2, 1) :: (2253, .aload_n 0, 1) :: (2254, .iload 4, 2) :: (2256, .iconst 1, 1) :: (2257, .iadd, 1) :: (2258, .iaload, 1) :: (2259, .aload_n 0, 1) :: (2260, .iload 4, 2) :: (2262, .iconst 2, 1) :: (2263, .iadd, 1) :: (2264, .iaload, 1) :: (2265, .invokevirtual 244, 3) :: (2268, .istore 6, 2) :: (2270, .aload_n 2, 1) :: (2271, .invokevirtual 139, 3) :: (2274, .iload 5, 2) :: (2276, .if_icmp .eq 5, 3) :: (2279, .iconst 0, 1) :: (2280, .ireturn, 1) :: k_L_law__2281
def k_L_law__2230 : List CI := (2230, .goto 444, 3) :: k_L_law__2233
def k_L_law__2213 : List CI := (2213, .iload 5, 2) :: (2215, .ifCond .ne 15, 3) :: (2218, .aload_n 3, 1) :: (2219, .iconst 0, 1) :: (2220, .laload, 1) :: (2221, .iload 6, 2) :: (2223, .i2l, 1) :: (2224, .lcmp, 1) :: (2225, .ifCond .eq 5, 3) :: (2228, .iconst 0, 1) :: (2229, .ireturn, 1) :: k_L_law__2230
def k_L_law__2165 : List CI := (2165, .aload_n 1, 1) :: (2166, .aload_n 0, 1) :: (2167, .iload 4, 2) :: (2169, .iconst 1, 1) :: (2170, .iadd, 1) :: (2171, .iaload, 1) :: (2172, .aload_n 0, 1) :: (2173, .iload 4, 2) :: (2175, .iconst 2, 1) :: (2176, .iadd, 1) :: (2177, .iaload, 1) :: (2178, .aload_n 3, 1) :: (2179, .invokestatic 239, 3) :: (2182, .istore 5, 2) :: (2184, .aload_n 2, 1) :: (2185, .aload_n 0, 1) :: (2186, .iload 4, 2) :: (2188, .iconst 1, 1) :: (2189, .iadd, 1) :: (2190, .iaload, 1) :: (2191, .aload_n 0, 1) :: (2192, .iload 4, 2) :: (2194, .iconst 2, 1) :: (2195, .iadd, 1) :: (2196, .iaload, 1) :: (2197, .invokevirtual 241, 3) :: (2200, .istore 6, 2) :: (2202, .aload_n 2, 1) :: (2203, .invokevirtual 139, 3) :: (2206, .iload 5, 2) :: (2208, .if_icmp .eq 5, 3) :: (2211, .iconst 0, 1) :: (2212, .ireturn, 1) :: k_L_law__2213
def k_L_law__2162 : List CI := (2162, .goto 512, 3) :: k_L_law__2165
def k_L_law__2145 : List CI := (2145, .iload 5, 2) :: (2147, .ifCond .ne 15, 3) :: (2150, .aload_n 3, 1) :: (2151, .iconst 0, 1) :: (2152, .laload, 1) :: (2153, .iload 6, 2) :: (2155, .i2l, 1) :: (2156, .lcmp, 1) :: (2157, .ifCond .eq 5, 3) :: (2160, .iconst 0, 1) :: (2161, .ireturn, 1) :: k_L_law__2162
def k_L_law__2097 : List CI := (2097, .aload_n 1, 1) :: (2098, .aload_n 0, 1) :: (2099, .iload 4, 2) :: (2101, .iconst 1, 1) :: (2102, .iadd, 1) :: (2103, .iaload, 1) :: (2104, .aload_n 0, 1) :: (2105, .iload 4, 2) :: (2107, .iconst 2, 1) :: (2108, .iadd, 1) :: (2109, .iaload, 1) :: (2110, .aload_n 3, 1) :: (2111, .invokestatic 236, 3) :: (2114, .istore 5, 2) :: (2116, .aload_n 2, 1) :: (2117, .aload_n 0, 1) :: (2118, .iload 4, 2) :: (2120, .iconst 1, 1) :: (2121, .iadd, 1) :: (2122, .iaload, 1) :: (2123, .aload_n 0, 1) :: (2124, .iload 4, 2) :: (2126, .iconst 2, 1) :: (2127, .iadd, 1) :: (2128, .iaload, 1) :: (2129, .invokevirtual 238, 3) :: (2132, .istore 6, 2) :: (2134, .aload_n 2, 1) :: (2135, .invokevirtual 139, 3) :: (2138, .iload 5, 2) :: (2140, .if_icmp .eq 5, 3) :: (2143, .iconst 0, 1) :: (2144, .ireturn, 1) :: k_L_law__2145
def k_L_law__2094 : List CI := (2094, .goto 580, 3) :: k_L_law__2097
def k_L_law__2077 : List CI := (2077, .iload 5, 2) :: (2079, .ifCond .ne 15, 3) :: (2082, .aload_n 3, 1) :: (2083, .iconst 0, 1) :: (2084, .laload, 1) :: (2085, .iload 6, 2) :: (2087, .i2l, 1) :: (2088, .lcmp, 1) :: (2089, .ifCond .eq 5, 3) :: (2092, .iconst 0, 1) :: (2093, .ireturn, 1) :: k_L_law__2094
def k_L_law__2029 : List CI := (2029, .aload_n 1, 1) :: (2030, .aload_n 0, 1) :: (2031, .iload 4, 2) :: (2033, .iconst 1, 1) :: (2034, .iadd, 1) :: (2035, .iaload, 1) :: (2036, .aload_n 0, 1) :: (2037, .iload 4, 2) :: (2039, .iconst 2, 1) :: (2040, .iadd, 1) :: (2041, .iaload, 1) :: (2042, .aload_n 3, 1) :: (2043, .invokestatic 233, 3) :: (2046, .istore 5, 2) :: (2048, .aload_n 2, 1) :: (2049, .aload_n 0, 1) :: (2050, .iload 4, 2) :: (2052, .iconst 1, 1) :: (2053, .iadd, 1) :: (2054, .iaload, 1) :: (2055, .aload_n 0, 1) :: (2056, .iload 4, 2) :: (2058, .iconst 2, 1) :: (2059, .iadd, 1) :: (2060, .iaload, 1) :: (2061, .invokevirtual 235, 3) :: (2064, .istore 6, 2) :: (2066, .aload_n 2, 1) :: (2067, .invokevirtual 139, 3) :: (2070, .iload 5, 2) :: (2072, .if_icmp .eq 5, 3) :: (2075, .iconst 0, 1) :: (2076, .ireturn, 1) :: k_L_law__2077
def k_L_law__2026 : List CI := (2026, .goto 648, 3) :: k_L_law__2029
def k_L_law__2009 : List CI := (2009, .iload 5, 2) :: (2011, .ifCond .ne 15, 3) :: (2014, .aload_n 3, 1) :: (2015, .iconst 0, 1) :: (2016, .laload, 1) :: (2017, .iload 6, 2) :: (2019, .i2l, 1) :: (2020, .lcmp, 1) :: (2021, .ifCond .eq 5, 3) :: (2024, .iconst 0, 1) :: (2025, .ireturn, 1) :: k_L_law__2026
def k_L_law__1973 : List CI := (1973, .aload_n 1, 1) :: (1974, .aload_n 0, 1) :: (1975, .iload 4, 2) :: (1977, .iconst 1, 1) :: (1978, .iadd, 1) :: (1979, .iaload, 1) :: (1980, .aload_n 3, 1) :: (1981, .invokestatic 230, 3) :: (1984, .istore 5, 2) :: (1986, .aload_n 2, 1) :: (1987, .aload_n 0, 1) :: (1988, .iload 4, 2) :: (1990, .iconst 1, 1) :: (1991, .iadd, 1) :: (1992, .iaload, 1) :: (1993, .invokevirtual 232, 3) :: (1996, .istore 6, 2) :: (1998, .aload_n 2, 1) :: (1999, .invokevirtual 139, 3) :: (2002, .iload 5, 2) :: (2004, .if_icmp .eq 5, 3) :: (2007, .iconst 0, 1) :: (2008, .ireturn, 1) :: k_L_law__2009
def k_L_law__1960 : List CI := (1960, .aload_n 1, 1) :: (1961, .invokevirtual 226, 3) :: (1964, .aload_n 2, 1) :: (1965, .invokevirtual 229, 3) :: (1968, .if_icmp .eq 706, 3) :: (1971, .iconst 0, 1) :: (1972, .ireturn, 1) :: k_L_law__1973
def k_L_law__1957 : List CI := (1957, .goto 717, 3) :: k_L_law__1960
def k_L_law__1940 : List CI := (1940, .iload 5, 2) :: (1942, .ifCond .ne 15, 3) :: (1945, .aload_n 3, 1) :: (1946, .iconst 0, 1) :: (1947, .laload, 1) :: (1948, .iload 6, 2) :: (1950, .i2l, 1) :: (1951, .lcmp, 1) :: (1952, .ifCond .eq 5, 3) :: (1955, .iconst 0, 1) :: (1956, .ireturn, 1) :: k_L_law__1957
def k_L_law__1892 : List CI := (1892, .aload_n 1, 1) :: (1893, .aload_n 0, 1) :: (1894, .iload 4, 2) :: (1896, .iconst 1, 1) :: (1897, .iadd, 1) :: (1898, .iaload, 1) :: (1899, .aload_n 0, 1) :: (1900, .iload 4, 2) :: (1902, .iconst 2, 1) :: (1903, .iadd, 1) :: (1904, .iaload, 1) :: (1905, .aload_n 3, 1) :: (1906, .invokestatic 223, 3) :: (1909, .istore 5, 2) :: (1911, .aload_n 2, 1) :: (1912, .aload_n 0, 1) :: (1913, .iload 4, 2) :: (1915, .iconst 1, 1) :: (1916, .iadd, 1) :: (1917, .iaload, 1) :: (1918, .aload_n 0, 1) :: (1919, .iload 4, 2) :: (1921, .iconst 2, 1) :: (1922, .iadd, 1) :: (1923, .iaload, 1) :: (1924, .invokevirtual 225, 3) :: (1927, .istore 6, 2) :: (1929, .aload_n 2, 1) :: (1930, .invokevirtual 139, 3) :: (1933, .iload 5, 2) :: (1935, .if_icmp .eq 5, 3) :: (1938, .iconst 0, 1) :: (1939, .ireturn, 1) :: k_L_law__1940
def k_L_law__1889 : List CI := (1889, .goto 785, 3) :: k_L_law__1892
def k_L_law__1872 : List CI := (1872, .iload 5, 2) :: (1874, .ifCond .ne 15, 3) :: (1877, .aload_n 3, 1) :: (1878, .iconst 0, 1) :: (1879, .laload, 1) :: (1880, .iload 6, 2) :: (1882, .i2l, 1) :: (1883, .lcmp, 1) :: (1884, .ifCond .eq 5, 3) :: (1887, .iconst 0, 1) :: (1888, .ireturn, 1) :: k_L_law__1889
def k_L_law__1856 : List CI := (1856, .invokevirtual 222, 3) :: (1859, .istore 6, 2) :: (1861, .aload_n 2, 1) :: (1862, .invokevirtual 139, 3) :: (1865, .iload 5, 2) :: (1867, .if_icmp .eq 5, 3) :: (1870, .iconst 0, 1) :: (1871, .ireturn, 1) :: k_L_law__1872
def k_L_law__1855 : List CI := (1855, .iconst 0, 1) :: k_L_law__1856
def k_L_law__1817 : List CI := (1817, .aload_n 3, 1) :: (1818, .invokestatic 219, 3) :: (1821, .istore 5, 2) :: (1823, .aload_n 2, 1) :: (1824, .aload_n 0, 1) :: (1825, .iload 4, 2) :: (1827, .iconst 1, 1) :: (1828, .iadd, 1) :: (1829, .iaload, 1) :: (1830, .aload_n 0, 1) :: (1831, .iload 4, 2) :: (1833, .iconst 2, 1) :: (1834, .iadd, 1) :: (1835, .iaload, 1) :: (1836, .aload_n 0, 1) :: (1837, .iload 4, 2) :: (1839, .iconst 3, 1) :: (1840, .iadd, 1) :: (1841, .iaload, 1) :: (1842, .aload_n 0, 1) :: (1843, .iload 4, 2) :: (1845, .iconst 4, 1) :: (1846, .iadd, 1) :: (1847, .iaload, 1) :: (1848, .ifCond .eq 7, 3) :: (1851, .iconst 1, 1) :: (1852, .goto 4, 3) :: k_L_law__1855
def k_L_law__1816 : List CI := (1816, .iconst 0, 1) :: k_L_law__1817
def k_L_law__1784 : List CI := (1784, .aload_n 1, 1) :: (1785, .aload_n 0, 1) :: (1786, .iload 4, 2) :: (1788, .iconst 1, 1) :: (1789, .iadd, 1) :: (1790, .iaload, 1) :: (1791, .aload_n 0, 1) :: (1792, .iload 4, 2) :: (1794, .iconst 2, 1) :: (1795, .iadd, 1) :: (1796, .iaload, 1) :: (1797, .aload_n 0, 1) :: (1798, .iload 4, 2) :: (1800, .iconst 3, 1) :: (1801, .iadd, 1) :: (1802, .iaload, 1) :: (1803, .aload_n 0, 1) :: (1804, .iload 4, 2) :: (1806, .iconst 4, 1) :: (1807, .iadd, 1) :: (1808, .iaload, 1) :: (1809, .ifCond .eq 7, 3) :: (1812, .iconst 1, 1) :: (1813, .goto 4, 3) :: k_L_law__1816
def k_L_law__1781 : List CI := (1781, .goto 893, 3) :: k_L_law__1784
def k_L_law__1764 : List CI := (1764, .iload 5, 2) :: (1766, .ifCond .ne 15, 3) :: (1769, .aload_n 3, 1) :: (1770, .iconst 0, 1) :: (1771, .laload, 1) :: (1772, .iload 6, 2) :: (1774, .i2l, 1) :: (1775, .lcmp, 1) :: (1776, .ifCond .eq 5, 3) :: (1779, .iconst 0, 1) :: (1780, .ireturn, 1) :: k_L_law__1781
def k_L_law__1728 : List CI := (1728, .aload_n 1, 1) :: (1729, .aload_n 0, 1) :: (1730, .iload 4, 2) :: (1732, .iconst 1, 1) :: (1733, .iadd, 1) :: (1734, .iaload, 1) :: (1735, .aload_n 3, 1) :: (1736, .invokestatic 216, 3) :: (1739, .istore 5, 2) :: (1741, .aload_n 2, 1) :: (1742, .aload_n 0, 1) :: (1743, .iload 4, 2) :: (1745, .iconst 1, 1) :: (1746, .iadd, 1) :: (1747, .iaload, 1) :: (1748, .invokevirtual 218, 3) :: (1751, .istore 6, 2) :: (1753, .aload_n 2, 1) :: (1754, .invokevirtual 139, 3) :: (1757, .iload 5, 2) :: (1759, .if_icmp .eq 5, 3) :: (1762, .iconst 0, 1) :: (1763, .ireturn, 1) :: k_L_law__1764
def k_L_law__1725 : List CI := (1725, .goto 949, 3) :: k_L_law__1728
def k_L_law__1708 : List CI := (1708, .iload 5, 2) :: (1710, .ifCond .ne 15, 3) :: (1713, .aload_n 3, 1) :: (1714, .iconst 0, 1) :: (1715, .laload, 1) :: (1716, .iload 6, 2) :: (1718, .i2l, 1) :: (1719, .lcmp, 1) :: (1720, .ifCond .eq 5, 3) :: (1723, .iconst 0, 1) :: (1724, .ireturn, 1) :: k_L_law__1725
def k_L_law__1672 : List CI := (1672, .aload_n 1, 1) :: (1673, .aload_n 0, 1) :: (1674, .iload 4, 2) :: (1676, .iconst 1, 1) :: (1677, .iadd, 1) :: (1678, .iaload, 1) :: (1679, .aload_n 3, 1) :: (1680, .invokestatic 213, 3) :: (1683, .istore 5, 2) :: (1685, .aload_n 2, 1) :: (1686, .aload_n 0, 1) :: (1687, .iload 4, 2) :: (1689, .iconst 1, 1) :: (1690, .iadd, 1) :: (1691, .iaload, 1) :: (1692, .invokevirtual 215, 3) :: (1695, .istore 6, 2) :: (1697, .aload_n 2, 1) :: (1698, .invokevirtual 139, 3) :: (1701, .iload 5, 2) :: (1703, .if_icmp .eq 5, 3) :: (1706, .iconst 0, 1) :: (1707, .ireturn, 1) :: k_L_law__1708
def k_L_law__1669 : List CI := (1669, .goto 1005, 3) :: k_L_law__1672
def k_L_law__1652 : List CI := (1652, .iload 5, 2) :: (1654, .ifCond .ne 15, 3) :: (1657, .aload_n 3, 1) :: (1658, .iconst 0, 1) :: (1659, .laload, 1) :: (1660, .iload 6, 2) :: (1662, .i2l, 1) :: (1663, .lcmp, 1) :: (1664, .ifCond .eq 5, 3) :: (1667, .iconst 0, 1) :: (1668, .ireturn, 1) :: k_L_law__1669
def k_L_law__1636 : List CI := (1636, .invokevirtual 212, 3) :: (1639, .istore 6, 2) :: (1641, .aload_n 2, 1) :: (1642, .invokevirtual 139, 3) :: (1645, .iload 5, 2) :: (1647, .if_icmp .eq 5, 3) :: (1650, .iconst 0, 1) :: (1651, .ireturn, 1) :: k_L_law__1652
def k_L_law__1635 : List CI := (1635, .iconst 0, 1) :: k_L_law__1636
def k_L_law__1603 : List CI := (1603, .aload_n 3, 1) :: (1604, .invokestatic 209, 3) :: (1607, .istore 5, 2) :: (1609, .aload_n 2, 1) :: (1610, .aload_n 0, 1) :: (1611, .iload 4, 2) :: (1613, .iconst 1, 1) :: (1614, .iadd, 1) :: (1615, .iaload, 1) :: (1616, .aload_n 0, 1) :: (1617, .iload 4, 2) :: (1619, .iconst 2, 1) :: (1620, .iadd, 1) :: (1621, .iaload, 1) :: (1622, .aload_n 0, 1) :: (1623, .iload 4, 2) :: (1625, .iconst 3, 1) :: (1626, .iadd, 1) :: (1627, .iaload, 1) :: (1628, .ifCond .eq 7, 3) :: (1631, .iconst 1, 1) :: (1632, .goto 4, 3) :: k_L_law__1635
def k_L_law__1602 : List CI := (1602, .iconst 0, 1) :: k_L_law__1603
def k_L_law__1576 : List CI := (1576, .aload_n 1, 1) :: (1577, .aload_n 0, 1) :: (1578, .iload 4, 2) :: (1580, .iconst 1, 1) :: (1581, .iadd, 1) :: (1582, .iaload, 1) :: (1583, .aload_n 0, 1) :: (1584, .iload 4, 2) :: (1586, .iconst 2, 1) :: (1587, .iadd, 1) :: (1588, .iaload, 1) :: (1589, .aload_n 0, 1) :: (1590, .iload 4, 2) :: (1592, .iconst 3, 1) :: (1593, .iadd, 1) :: (1594, .iaload, 1) :: (1595, .ifCond .eq 7, 3) :: (1598, .iconst 1, 1) :: (1599, .goto 4, 3) :: k_L_law__1602
def k_L_law__1573 : List CI := (1573, .goto 1101, 3) :: k_L_law__1576
def k_L_law__1557 : List CI := (1557, .iload 5, 2) :: (1559, .ifCond .ne 14, 3) :: (1562, .aload_n 3, 1) :: (1563, .iconst 0, 1) :: (1564, .laload, 1) :: (1565, .lload 6, 2) :: (1567, .lcmp, 1) :: (1568, .ifCond .eq 5, 3) :: (1571, .iconst 0, 1) :: (1572, .ireturn, 1) :: k_L_law__1573
def k_L_law__1477 : List CI := (1477, .aload_n 1, 1) :: (1478, .aload_n 0, 1) :: (1479, .iload 4, 2) :: (1481, .iconst 1, 1) :: (1482, .iadd, 1) :: (1483, .iaload, 1) :: (1484, .i2l, 1) :: (1485, .bipush 32, 2) :: (1487, .lshl, 1) :: (1488, .aload_n 0, 1) :: (1489, .iload 4, 2) :: (1491, .iconst 2, 1) :: (1492, .iadd, 1) :: (1493, .iaload, 1) :: (1494, .i2l, 1) :: (1495, .ldc2_w 203, 3) :: (1498, .land, 1) :: (1499, .lor, 1) :: (1500, .aload_n 0, 1) :: (1501, .iload 4, 2) :: (1503, .iconst 3, 1) :: (1504, .iadd, 1) :: (1505, .iaload, 1) :: (1506, .aload_n 3, 1) :: (1507, .invokestatic 205, 3) :: (1510, .istore 5, 2) :: (1512, .aload_n 2, 1) :: (1513, .aload_n 0, 1) :: (1514, .iload 4, 2) :: (1516, .iconst 1, 1) :: (1517, .iadd, 1) :: (1518, .iaload, 1) :: (1519, .i2l, 1) :: (1520, .bipush 32, 2) :: (1522, .lshl, 1) :: (1523, .aload_n 0, 1) :: (1524, .iload 4, 2) :: (1526, .iconst 2, 1) :: (1527, .iadd, 1) :: (1528, .iaload, 1) :: (1529, .i2l, 1) :: (1530, .ldc2_w 203, 3) :: (1533, .land, 1) :: (1534, .lor, 1) :: (1535, .aload_n 0, 1) :: (1536, .iload 4, 2) :: (1538, .iconst 3, 1) :: (1539, .iadd, 1) :: (1540, .iaload, 1) :: (1541, .invokevirtual 208, 3) :: (1544, .lstore 6, 2) :: (1546, .aload_n 2, 1) :: (1547, .invokevirtual 139, 3) :: (1550, .iload 5, 2) :: (1552, .if_icmp .eq 5, 3) :: (1555, .iconst 0, 1) :: (1556, .ireturn, 1) :: k_L_law__1557
def k_L_law__1474 : List CI := (1474, .goto 1200, 3) :: k_L_law__1477
def k_L_law__1457 : List CI := (1457, .iload 5, 2) :: (1459, .ifCond .ne 15, 3) :: (1462, .aload_n 3, 1) :: (1463, .iconst 0, 1) :: (1464, .laload, 1) :: (1465, .iload 6, 2) :: (1467, .i2l, 1) :: (1468, .lcmp, 1) :: (1469, .ifCond .eq 5, 3) :: (1472, .iconst 0, 1) :: (1473, .ireturn, 1) :: k_L_law__1474
def k_L_law__1421 : List CI := (1421, .aload_n 1, 1) :: (1422, .aload_n 0, 1) :: (1423, .iload 4, 2) :: (1425, .iconst 1, 1) :: (1426, .iadd, 1) :: (1427, .iaload, 1) :: (1428, .aload_n 3, 1) :: (1429, .invokestatic 200, 3) :: (1432, .istore 5, 2) :: (1434, .aload_n 2, 1) :: (1435, .aload_n 0, 1) :: (1436, .iload 4, 2) :: (1438, .iconst 1, 1) :: (1439, .iadd, 1) :: (1440, .iaload, 1) :: (1441, .invokevirtual 202, 3) :: (1444, .istore 6, 2) :: (1446, .aload_n 2, 1) :: (1447, .invokevirtual 139, 3) :: (1450, .iload 5, 2) :: (1452, .if_icmp .eq 5, 3) :: (1455, .iconst 0, 1) :: (1456, .ireturn, 1) :: k_L_law__1457
def k_L_law__1418 : List CI := (1418, .goto 1256, 3) :: k_L_law__1421
def k_L_law__1401 : List CI := (1401, .iload 5, 2) :: (1403, .ifCond .ne 15, 3) :: (1406, .aload_n 3, 1) :: (1407, .iconst 0, 1) :: (1408, .laload, 1) :: (1409, .iload 6, 2) :: (1411, .i2l, 1) :: (1412, .lcmp, 1) :: (1413, .ifCond .eq 5, 3) :: (1416, .iconst 0, 1) :: (1417, .ireturn, 1) :: k_L_law__1418
def k_L_law__1341 : List CI := (1341, .aload_n 1, 1) :: (1342, .aload_n 0, 1) :: (1343, .iload 4, 2) :: (1345, .iconst 1, 1) :: (1346, .iadd, 1) :: (1347, .iaload, 1) :: (1348, .aload_n 0, 1) :: (1349, .iload 4, 2) :: (1351, .iconst 2, 1) :: (1352, .iadd, 1) :: (1353, .iaload, 1) :: (1354, .aload_n 0, 1) :: (1355, .iload 4, 2) :: (1357, .iconst 3, 1) :: (1358, .iadd, 1) :: (1359, .iaload, 1) :: (1360, .aload_n 3, 1) :: (1361, .invokestatic 197, 3) :: (1364, .istore 5, 2) :: (1366, .aload_n 2, 1) :: (1367, .aload_n 0, 1) :: (1368, .iload 4, 2) :: (1370, .iconst 1, 1) :: (1371, .iadd, 1) :: (1372, .iaload, 1) :: (1373, .aload_n 0, 1) :: (1374, .iload 4, 2) :: (1376, .iconst 2, 1) :: (1377, .iadd, 1) :: (1378, .iaload, 1) :: (1379, .aload_n 0, 1) :: (1380, .iload 4, 2) :: (1382, .iconst 3, 1) :: (1383, .iadd, 1) :: (1384, .iaload, 1) :: (1385, .invokevirtual 199, 3) :: (1388, .istore 6, 2) :: (1390, .aload_n 2, 1) :: (1391, .invokevirtual 139, 3) :: (1394, .iload 5, 2) :: (1396, .if_icmp .eq 5, 3) :: (1399, .iconst 0, 1) :: (1400, .ireturn, 1) :: k_L_law__1401
def k_L_law__1338 : List CI := (1338, .goto 1336, 3) :: k_L_law__1341
def k_L_law__1321 : List CI := (1321, .iload 5, 2) :: (1323, .ifCond .ne 15, 3) :: (1326, .aload_n 3, 1) :: (1327, .iconst 0, 1) :: (1328, .laload, 1) :: (1329, .iload 6, 2) :: (1331, .i2l, 1) :: (1332, .lcmp, 1) :: (1333, .ifCond .eq 5, 3) :: (1336, .iconst 0, 1) :: (1337, .ireturn, 1) :: k_L_law__1338
def k_L_law__1273 : List CI := (1273, .aload_n 1, 1) :: (1274, .aload_n 0, 1) :: (1275, .iload 4, 2) :: (1277, .iconst 1, 1) :: (1278, .iadd, 1) :: (1279, .iaload, 1) :: (1280, .aload_n 0, 1) :: (1281, .iload 4, 2) :: (1283, .iconst 2, 1) :: (1284, .iadd, 1) :: (1285, .iaload, 1) :: (1286, .aload_n 3, 1) :: (1287, .invokestatic 194, 3) :: (1290, .istore 5, 2) :: (1292, .aload_n 2, 1) :: (1293, .aload_n 0, 1) :: (1294, .iload 4, 2) :: (1296, .iconst 1, 1) :: (1297, .iadd, 1) :: (1298, .iaload, 1) :: (1299, .aload_n 0, 1) :: (1300, .iload 4, 2) :: (1302, .iconst 2, 1) :: (1303, .iadd, 1) :: (1304, .iaload, 1) :: (1305, .invokevirtual 196, 3) :: (1308, .istore 6, 2) :: (1310, .aload_n 2, 1) :: (1311, .invokevirtual 139, 3) :: (1314, .iload 5, 2) :: (1316, .if_icmp .eq 5, 3) :: (1319, .iconst 0, 1) :: (1320, .ireturn, 1) :: k_L_law__1321
def k_L_law__1270 : List CI := (1270, .goto 1404, 3) :: k_L_law__1273
def k_L_law__1253 : List CI := (1253, .iload 5, 2) :: (1255, .ifCond .ne 15, 3) :: (1258, .aload_n 3, 1) :: (1259, .iconst 0, 1) :: (1260, .laload, 1) :: (1261, .iload 6, 2) :: (1263, .i2l, 1) :: (1264, .lcmp, 1) :: (1265, .ifCond .eq 5, 3) :: (1268, .iconst 0, 1) :: (1269, .ireturn, 1) :: k_L_law__1270
def k_L_law__1217 : List CI := (1217, .aload_n 1, 1) :: (1218, .aload_n 0, 1) :: (1219, .iload 4, 2) :: (1221, .iconst 1, 1) :: (1222, .iadd, 1) :: (1223, .iaload, 1) :: (1224, .aload_n 3, 1) :: (1225, .invokestatic 191, 3) :: (1228, .istore 5, 2) :: (1230, .aload_n 2, 1) :: (1231, .aload_n 0, 1) :: (1232, .iload 4, 2) :: (1234, .iconst 1, 1) :: (1235, .iadd, 1) :: (1236, .iaload, 1) :: (1237, .invokevirtual 193, 3) :: (1240, .istore 6, 2) :: (1242, .aload_n 2, 1) :: (1243, .invokevirtual 139, 3) :: (1246, .iload 5, 2) :: (1248, .if_icmp .eq 5, 3) :: (1251, .iconst 0, 1) :: (1252, .ireturn, 1) :: k_L_law__1253
def k_L_law__1214 : List CI := (1214, .goto 1460, 3) :: k_L_law__1217
def k_L_law__1197 : List CI := (1197, .iload 5, 2) :: (1199, .ifCond .ne 15, 3) :: (1202, .aload_n 3, 1) :: (1203, .iconst 0, 1) :: (1204, .laload, 1) :: (1205, .iload 6, 2) :: (1207, .i2l, 1) :: (1208, .lcmp, 1) :: (1209, .ifCond .eq 5, 3) :: (1212, .iconst 0, 1) :: (1213, .ireturn, 1) :: k_L_law__1214
def k_L_law__1161 : List CI := (1161, .aload_n 1, 1) :: (1162, .aload_n 0, 1) :: (1163, .iload 4, 2) :: (1165, .iconst 1, 1) :: (1166, .iadd, 1) :: (1167, .iaload, 1) :: (1168, .aload_n 3, 1) :: (1169, .invokestatic 188, 3) :: (1172, .istore 5, 2) :: (1174, .aload_n 2, 1) :: (1175, .aload_n 0, 1) :: (1176, .iload 4, 2) :: (1178, .iconst 1, 1) :: (1179, .iadd, 1) :: (1180, .iaload, 1) :: (1181, .invokevirtual 190, 3) :: (1184, .istore 6, 2) :: (1186, .aload_n 2, 1) :: (1187, .invokevirtual 139, 3) :: (1190, .iload 5, 2) :: (1192, .if_icmp .eq 5, 3) :: (1195, .iconst 0, 1) :: (1196, .ireturn, 1) :: k_L_law__1197
def k_L_law__1158 : List CI := (1158, .goto 1516, 3) :: k_L_law__1161
def k_L_law__1141 : List CI := (1141, .iload 5, 2) :: (1143, .ifCond .ne 15, 3) :: (1146, .aload_n 3, 1) :: (1147, .iconst 0, 1) :: (1148, .laload, 1) :: (1149, .iload 6, 2) :: (1151, .i2l, 1) :: (1152, .lcmp, 1) :: (1153, .ifCond .eq 5, 3) :: (1156, .iconst 0, 1) :: (1157, .ireturn, 1) :: k_L_law__1158
def k_L_law__1105 : List CI := (1105, .aload_n 1, 1) :: (1106, .aload_n 0, 1) :: (1107, .iload 4, 2) :: (1109, .iconst 1, 1) :: (1110, .iadd, 1) :: (1111, .iaload, 1) :: (1112, .aload_n 3, 1) :: (1113, .invokestatic 185, 3) :: (1116, .istore 5, 2) :: (1118, .aload_n 2, 1) :: (1119, .aload_n 0, 1) :: (1120, .iload 4, 2) :: (1122, .iconst 1, 1) :: (1123, .iadd, 1) :: (1124, .iaload, 1) :: (1125, .invokevirtual 187, 3) :: (1128, .istore 6, 2) :: (1130, .aload_n 2, 1) :: (1131, .invokevirtual 139, 3) :: (1134, .iload 5, 2) :: (1136, .if_icmp .eq 5, 3) :: (1139, .iconst 0, 1) :: (1140, .ireturn, 1) :: k_L_law__1141
def k_L_law__1102 : List CI := (1102, .goto 1572, 3) :: k_L_law__1105
def k_L_law__1085 : List CI := (1085, .iload 5, 2) :: (1087, .ifCond .ne 15, 3) :: (1090, .aload_n 3, 1) :: (1091, .iconst 0, 1) :: (1092, .laload, 1) :: (1093, .iload 6, 2) :: (1095, .i2l, 1) :: (1096, .lcmp, 1) :: (1097, .ifCond .eq 5, 3) :: (1100, .iconst 0, 1) :: (1101, .ireturn, 1) :: k_L_law__1102
def k_L_law__1049 : List CI := (1049, .aload_n 1, 1) :: (1050, .aload_n 0, 1) :: (1051, .iload 4, 2) :: (1053, .iconst 1, 1) :: (1054, .iadd, 1) :: (1055, .iaload, 1) :: (1056, .aload_n 3, 1) :: (1057, .invokestatic 182, 3) :: (1060, .istore 5, 2) :: (1062, .aload_n 2, 1) :: (1063, .aload_n 0, 1) :: (1064, .iload 4, 2) :: (1066, .iconst 1, 1) :: (1067, .iadd, 1) :: (1068, .iaload, 1) :: (1069, .invokevirtual 184, 3) :: (1072, .istore 6, 2) :: (1074, .aload_n 2, 1) :: (1075, .invokevirtual 139, 3) :: (1078, .iload 5, 2) :: (1080, .if_icmp .eq 5, 3) :: (1083, .iconst 0, 1) :: (1084, .ireturn, 1) :: k_L_law__1085
def k_L_law__1046 : List CI := (1046, .goto 1628, 3) :: k_L_law__1049
def k_L_law__1029 : List CI := (1029, .iload 5, 2) :: (1031, .ifCond .ne 15, 3) :: (1034, .aload_n 3, 1) :: (1035, .iconst 0, 1) :: (1036, .laload, 1) :: (1037, .iload 6, 2) :: (1039, .i2l, 1) :: (1040, .lcmp, 1) :: (1041, .ifCond .eq 5, 3) :: (1044, .iconst 0, 1) :: (1045, .ireturn, 1) :: k_L_law__1046
def k_L_law__993 : List CI := (993, .aload_n 1, 1) :: (994, .aload_n 0, 1) :: (995, .iload 4, 2) :: (997, .iconst 1, 1) :: (998, .iadd, 1) :: (999, .iaload, 1) :: (1000, .aload_n 3, 1) :: (1001, .invokestatic 179, 3) :: (1004, .istore 5, 2) :: (1006, .aload_n 2, 1) :: (1007, .aload_n 0, 1) :: (1008, .iload 4, 2) :: (1010, .iconst 1, 1) :: (1011, .iadd, 1) :: (1012, .iaload, 1) :: (1013, .invokevirtual 181, 3) :: (1016, .istore 6, 2) :: (1018, .aload_n 2, 1) :: (1019, .invokevirtual 139, 3) :: (1022, .iload 5, 2) :: (1024, .if_icmp .eq 5, 3) :: (1027, .iconst 0, 1) :: (1028, .ireturn, 1) :: k_L_law__1029
def k_L_law__990 : List CI := (990, .goto 1684, 3) :: k_L_law__993
def k_L_law__984 : List CI := (984, .lcmp, 1) :: (985, .ifCond .eq 5, 3) :: (988, .iconst 0, 1) :: (989, .ireturn, 1) :: k_L_law__990
def k_L_law__983 : List CI := (983, .lconst 0, 1) :: k_L_law__984
def k_L_law__966 : List CI := (966, .iload 5, 2) :: (968, .ifCond .ne 22, 3) :: (971, .aload_n 3, 1) :: (972, .iconst 0, 1) :: (973, .laload, 1) :: (974, .iload 6, 2) :: (976, .ifCond .eq 7, 3) :: (979, .lconst 1, 1) :: (980, .goto 4, 3) :: k_L_law__983
def k_L_law__930 : List CI := (930, .aload_n 1, 1) :: (931, .aload_n 0, 1) :: (932, .iload 4, 2) :: (934, .iconst 1, 1) :: (935, .iadd, 1) :: (936, .iaload, 1) :: (937, .aload_n 3, 1) :: (938, .invokestatic 176, 3) :: (941, .istore 5, 2) :: (943, .aload_n 2, 1) :: (944, .aload_n 0, 1) :: (945, .iload 4, 2) :: (947, .iconst 1, 1) :: (948, .iadd, 1) :: (949, .iaload, 1) :: (950, .invokevirtual 178, 3) :: (953, .istore 6, 2) :: (955, .aload_n 2, 1) :: (956, .invokevirtual 139, 3) :: (959, .iload 5, 2) :: (961, .if_icmp .eq 5, 3) :: (964, .iconst 0, 1) :: (965, .ireturn, 1) :: k_L_law__966
def k_L_law__927 : List CI := (927, .goto 1747, 3) :: k_L_law__930
def k_L_law__910 : List CI := (910, .iload 5, 2) :: (912, .ifCond .ne 15, 3) :: (915, .aload_n 3, 1) :: (916, .iconst 0, 1) :: (917, .laload, 1) :: (918, .iload 6, 2) :: (920, .i2l, 1) :: (921, .lcmp, 1) :: (922, .ifCond .eq 5, 3) :: (925, .iconst 0, 1) :: (926, .ireturn, 1) :: k_L_law__927
def k_L_law__874 : List CI := (874, .aload_n 1, 1) :: (875, .aload_n 0, 1) :: (876, .iload 4, 2) :: (878, .iconst 1, 1) :: (879, .iadd, 1) :: (880, .iaload, 1) :: (881, .aload_n 3, 1) :: (882, .invokestatic 173, 3) :: (885, .istore 5, 2) :: (887, .aload_n 2, 1) :: (888, .aload_n 0, 1) :: (889, .iload 4, 2) :: (891, .iconst 1, 1) :: (892, .iadd, 1) :: (893, .iaload, 1) :: (894, .invokevirtual 175, 3) :: (897, .istore 6, 2) :: (899, .aload_n 2, 1) :: (900, .invokevirtual 139, 3) :: (903, .iload 5, 2) :: (905, .if_icmp .eq 5, 3) :: (908, .iconst 0, 1) :: (909, .ireturn, 1) :: k_L_law__910
def k_L_law__871 : List CI := (871, .goto 1803, 3) :: k_L_law__874
def k_L_law__854 : List CI := (854, .iload 5, 2) :: (856, .ifCond .ne 15, 3) :: (859, .aload_n 3, 1) :: (860, .iconst 0, 1) :: (861, .laload, 1) :: (862, .iload 6, 2) :: (864, .i2l, 1) :: (865, .lcmp, 1) :: (866, .ifCond .eq 5, 3) :: (869, .iconst 0, 1) :: (870, .ireturn, 1) :: k_L_law__871
def k_L_law__806 : List CI := (806, .aload_n 1, 1) :: (807, .aload_n 0, 1) :: (808, .iload 4, 2) :: (810, .iconst 1, 1) :: (811, .iadd, 1) :: (812, .iaload, 1) :: (813, .aload_n 0, 1) :: (814, .iload 4, 2) :: (816, .iconst 2, 1) :: (817, .iadd, 1) :: (818, .iaload, 1) :: (819, .aload_n 3, 1) :: (820, .invokestatic 170, 3) :: (823, .istore 5, 2) :: (825, .aload_n 2, 1) :: (826, .aload_n 0, 1) :: (827, .iload 4, 2) :: (829, .iconst 1, 1) :: (830, .iadd, 1) :: (831, .iaload, 1) :: (832, .aload_n 0, 1) :: (833, .iload 4, 2) :: (835, .iconst 2, 1) :: (836, .iadd, 1) :: (837, .iaload, 1) :: (838, .invokevirtual 172, 3) :: (841, .istore 6, 2) :: (843, .aload_n 2, 1) :: (844, .invokevirtual 139, 3) :: (847, .iload 5, 2) :: (849, .if_icmp .eq 5, 3) :: (852, .iconst 0, 1) :: (853, .ireturn, 1) :: k_L_law__854
def k_L_law__803 : List CI := (803, .goto 1871, 3) :: k_L_law__806
def k_L_law__786 : List CI := (786, .iload 5, 2) :: (788, .ifCond .ne 15, 3) :: (791, .aload_n 3, 1) :: (792, .iconst 0, 1) :: (793, .laload, 1) :: (794, .iload 6, 2) :: (796, .i2l, 1) :: (797, .lcmp, 1) :: (798, .ifCond .eq 5, 3) :: (801, .iconst 0, 1) :: (802, .ireturn, 1) :: k_L_law__803
def k_L_law__750 : List CI := (750, .aload_n 1, 1) :: (751, .aload_n 0, 1) :: (752, .iload 4, 2) :: (754, .iconst 1, 1) :: (755, .iadd, 1) :: (756, .iaload, 1) :: (757, .aload_n 3, 1) :: (758, .invokestatic 167, 3) :: (761, .istore 5, 2) :: (763, .aload_n 2, 1) :: (764, .aload_n 0, 1) :: (765, .iload 4, 2) :: (767, .iconst 1, 1) :: (768, .iadd, 1) :: (769, .iaload, 1) :: (770, .invokevirtual 169, 3) :: (773, .istore 6, 2) :: (775, .aload_n 2, 1) :: (776, .invokevirtual 139, 3) :: (779, .iload 5, 2) :: (781, .if_icmp .eq 5, 3) :: (784, .iconst 0, 1) :: (785, .ireturn, 1) :: k_L_law__786
def k_L_law__747 : List CI := (747, .goto 1927, 3) :: k_L_law__750
def k_L_law__730 : List CI := (730, .iload 5, 2) :: (732, .ifCond .ne 15, 3) :: (735, .aload_n 3, 1) :: (736, .iconst 0, 1) :: (737, .laload, 1) :: (738, .iload 6, 2) :: (740, .i2l, 1) :: (741, .lcmp, 1) :: (742, .ifCond .eq 5, 3) :: (745, .iconst 0, 1) :: (746, .ireturn, 1) :: k_L_law__747
def k_L_law__694 : List CI := (694, .aload_n 1, 1) :: (695, .aload_n 0, 1) :: (696, .iload 4, 2) :: (698, .iconst 1, 1) :: (699, .iadd, 1) :: (700, .iaload, 1) :: (701, .aload_n 3, 1) :: (702, .invokestatic 164, 3) :: (705, .istore 5, 2) :: (707, .aload_n 2, 1) :: (708, .aload_n 0, 1) :: (709, .iload 4, 2) :: (711, .iconst 1, 1) :: (712, .iadd, 1) :: (713, .iaload, 1) :: (714, .invokevirtual 166, 3) :: (717, .istore 6, 2) :: (719, .aload_n 2, 1) :: (720, .invokevirtual 139, 3) :: (723, .iload 5, 2) :: (725, .if_icmp .eq 5, 3) :: (728, .iconst 0, 1) :: (729, .ireturn, 1) :: k_L_law__730
def k_L_law__691 : List CI := (691, .goto 1983, 3) :: k_L_law__694
def k_L_law__674 : List CI := (674, .iload 5, 2) :: (676, .ifCond .ne 15, 3) :: (679, .aload_n 3, 1) :: (680, .iconst 0, 1) :: (681, .laload, 1) :: (682, .iload 6, 2) :: (684, .i2l, 1) :: (685, .lcmp, 1) :: (686, .ifCond .eq 5, 3) :: (689, .iconst 0, 1) :: (690, .ireturn, 1) :: k_L_law__691
def k_L_law__614 : List CI := (614, .aload_n 1, 1) :: (615, .aload_n 0, 1) :: (616, .iload 4, 2) :: (618, .iconst 1, 1) :: (619, .iadd, 1) :: (620, .iaload, 1) :: (621, .aload_n 0, 1) :: (622, .iload 4, 2) :: (624, .iconst 2, 1) :: (625, .iadd, 1) :: (626, .iaload, 1) :: (627, .aload_n 0, 1) :: (628, .iload 4, 2) :: (630, .iconst 3, 1) :: (631, .iadd, 1) :: (632, .iaload, 1) :: (633, .aload_n 3, 1) :: (634, .invokestatic 160, 3) :: (637, .istore 5, 2) :: (639, .aload_n 2, 1) :: (640, .aload_n 0, 1) :: (641, .iload 4, 2) :: (643, .iconst 1, 1) :: (644, .iadd, 1) :: (645, .iaload, 1) :: (646, .aload_n 0, 1) :: (647, .iload 4, 2) :: (649, .iconst 2, 1) :: (650, .iadd, 1) :: (651, .iaload, 1) :: (652, .aload_n 0, 1) :: (653, .iload 4, 2) :: (655, .iconst 3, 1) :: (656, .iadd, 1) :: (657, .iaload, 1) :: (658, .invokevirtual 163, 3) :: (661, .istore 6, 2) :: (663, .aload_n 2, 1) :: (664, .invokevirtual 139, 3) :: (667, .iload 5, 2) :: (669, .if_icmp .eq 5, 3) :: (672, .iconst 0, 1) :: (673, .ireturn, 1) :: k_L_law__674
def k_L_law__611 : List CI := (611, .goto 2063, 3) :: k_L_law__614
def k_L_law__594 : List CI := (594, .iload 5, 2) :: (596, .ifCond .ne 15, 3) :: (599, .aload_n 3, 1) :: (600, .iconst 0, 1) :: (601, .laload, 1) :: (602, .iload 6, 2) :: (604, .i2l, 1) :: (605, .lcmp, 1) :: (606, .ifCond .eq 5, 3) :: (609, .iconst 0, 1) :: (610, .ireturn, 1) :: k_L_law__611
def k_L_law__546 : List CI := (546, .aload_n 1, 1) :: (547, .aload_n 0, 1) :: (548, .iload 4, 2) :: (550, .iconst 1, 1) :: (551, .iadd, 1) :: (552, .iaload, 1) :: (553, .aload_n 0, 1) :: (554, .iload 4, 2) :: (556, .iconst 2, 1) :: (557, .iadd, 1) :: (558, .iaload, 1) :: (559, .aload_n 3, 1) :: (560, .invokestatic 157, 3) :: (563, .istore 5, 2) :: (565, .aload_n 2, 1) :: (566, .aload_n 0, 1) :: (567, .iload 4, 2) :: (569, .iconst 1, 1) :: (570, .iadd, 1) :: (571, .iaload, 1) :: (572, .aload_n 0, 1) :: (573, .iload 4, 2) :: (575, .iconst 2, 1) :: (576, .iadd, 1) :: (577, .iaload, 1) :: (578, .invokevirtual 159, 3) :: (581, .istore 6, 2) :: (583, .aload_n 2, 1) :: (584, .invokevirtual 139, 3) :: (587, .iload 5, 2) :: (589, .if_icmp .eq 5, 3) :: (592, .iconst 0, 1) :: (593, .ireturn, 1) :: k_L_law__594
def k_L_law__543 : List CI := (543, .goto 2131, 3) :: k_L_law__546
def k_L_law__526 : List CI := (526, .iload 5, 2) :: (528, .ifCond .ne 15, 3) :: (531, .aload_n 3, 1) :: (532, .iconst 0, 1) :: (533, .laload, 1) :: (534, .iload 6, 2) :: (536, .i2l, 1) :: (537, .lcmp, 1) :: (538, .ifCond .eq 5, 3) :: (541, .iconst 0, 1) :: (542, .ireturn, 1) :: k_L_law__543
def k_L_law__478 : List CI := (478, .aload_n 1, 1) :: (479, .aload_n 0, 1) :: (480, .iload 4, 2) :: (482, .iconst 1, 1) :: (483, .iadd, 1) :: (484, .iaload, 1) :: (485, .aload_n 0, 1) :: (486, .iload 4, 2) :: (488, .iconst 2, 1) :: (489, .iadd, 1) :: (490, .iaload, 1) :: (491, .aload_n 3, 1) :: (492, .invokestatic 153, 3) :: (495, .istore 5, 2) :: (497, .aload_n 2, 1) :: (498, .aload_n 0, 1) :: (499, .iload 4, 2) :: (501, .iconst 1, 1) :: (502, .iadd, 1) :: (503, .iaload, 1) :: (504, .aload_n 0, 1) :: (505, .iload 4, 2) :: (507, .iconst 2, 1) :: (508, .iadd, 1) :: (509, .iaload, 1) :: (510, .invokevirtual 156, 3) :: (513, .istore 6, 2) :: (515, .aload_n 2, 1) :: (516, .invokevirtual 139, 3) :: (519, .iload 5, 2) :: (521, .if_icmp .eq 5, 3) :: (524, .iconst 0, 1) :: (525, .ireturn, 1) :: k_L_law__526
def k_L_law__475 : List CI := (475, .goto 2199, 3) :: k_L_law__478
def k_L_law__458 : List CI := (458, .iload 5, 2) :: (460, .ifCond .ne 15, 3) :: (463, .aload_n 3, 1) :: (464, .iconst 0, 1) :: (465, .laload, 1) :: (466, .iload 6, 2) :: (468, .i2l, 1) :: (469, .lcmp, 1) :: (470, .ifCond .eq 5, 3) :: (473, .iconst 0, 1) :: (474, .ireturn, 1) :: k_L_law__475
def k_L_law__422 : List CI := (422, .aload_n 1, 1) :: (423, .aload_n 0, 1) :: (424, .iload 4, 2) :: (426, .iconst 1, 1) :: (427, .iadd, 1) :: (428, .iaload, 1) :: (429, .aload_n 3, 1) :: (430, .invokestatic 150, 3) :: (433, .istore 5, 2) :: (435, .aload_n 2, 1) :: (436, .aload_n 0, 1) :: (437, .iload 4, 2) :: (439, .iconst 1, 1) :: (440, .iadd, 1) :: (441, .iaload, 1) :: (442, .invokevirtual 152, 3) :: (445, .istore 6, 2) :: (447, .aload_n 2, 1) :: (448, .invokevirtual 139, 3) :: (451, .iload 5, 2) :: (453, .if_icmp .eq 5, 3) :: (456, .iconst 0, 1) :: (457, .ireturn, 1) :: k_L_law__458
def k_L_law__409 : List CI := (409, .aload_n 1, 1) :: (410, .invokevirtual 146, 3) :: (413, .aload_n 2, 1) :: (414, .invokevirtual 149, 3) :: (417, .if_icmp .eq 2257, 3) :: (420, .iconst 0, 1) :: (421, .ireturn, 1) :: k_L_law__422
def k_L_law__406 : List CI := (406, .goto 2268, 3) :: k_L_law__409
def k_L_law__389 : List CI := (389, .iload 5, 2) :: (391, .ifCond .ne 15, 3) :: (394, .aload_n 3, 1) :: (395, .iconst 0, 1) :: (396, .laload, 1) :: (397, .iload 6, 2) :: (399, .i2l, 1) :: (400, .lcmp, 1) :: (401, .ifCond .eq 5, 3) :: (404, .iconst 0, 1) :: (405, .ireturn, 1) :: k_L_law__406
def k_L_law__353 : List CI := (353, .aload_n 1, 1) :: (354, .aload_n 0, 1) :: (355, .iload 4, 2) :: (357, .iconst 1, 1) :: (358, .iadd, 1) :: (359, .iaload, 1) :: (360, .aload_n 3, 1) :: (361, .invokestatic 143, 3) :: (364, .istore 5, 2) :: (366, .aload_n 2, 1) :: (367, .aload_n 0, 1) :: (368, .iload 4, 2) :: (370, .iconst 1, 1) :: (371, .iadd, 1) :: (372, .iaload, 1) :: (373, .invokevirtual 145, 3) :: (376, .istore 6, 2) :: (378, .aload_n 2, 1) :: (379, .invokevirtual 139, 3) :: (382, .iload 5, 2) :: (384, .if_icmp .eq 5, 3) :: (387, .iconst 0, 1) :: (388, .ireturn, 1) :: k_L_law__389
def k_L_law__350 : List CI := (350, .goto 2324, 3) :: k_L_law__353
def k_L_law__333 : List CI := (333, .iload 5, 2) :: (335, .ifCond .ne 15, 3) :: (338, .aload_n 3, 1) :: (339, .iconst 0, 1) :: (340, .laload, 1) :: (341, .iload 6, 2) :: (343, .i2l, 1) :: (344, .lcmp, 1) :: (345, .ifCond .eq 5, 3) :: (348, .iconst 0, 1) :: (349, .ireturn, 1) :: k_L_law__350
def k_L_law__297 : List CI := (297, .aload_n 1, 1) :: (298, .aload_n 0, 1) :: (299, .iload 4, 2) :: (301, .iconst 1, 1) :: (302, .iadd, 1) :: (303, .iaload, 1) :: (304, .aload_n 3, 1) :: (305, .invokestatic 133, 3) :: (308, .istore 5, 2) :: (310, .aload_n 2, 1) :: (311, .aload_n 0, 1) :: (312, .iload 4, 2) :: (314, .iconst 1, 1) :: (315, .iadd, 1) :: (316, .iaload, 1) :: (317, .invokevirtual 138, 3) :: (320, .istore 6, 2) :: (322, .aload_n 2, 1) :: (323, .invokevirtual 139, 3) :: (326, .iload 5, 2) :: (328, .if_icmp .eq 5, 3) :: (331, .iconst 0, 1) :: (332, .ireturn, 1) :: k_L_law__333
def k_L_law__224 : List CI := (224, .aload_n 1, 1) :: (225, .aload_n 0, 1) :: (226, .iload 4, 2) :: (228, .iconst 1, 1) :: (229, .iadd, 1) :: (230, .iaload, 1) :: (231, .aload_n 0, 1) :: (232, .iload 4, 2) :: (234, .iconst 2, 1) :: (235, .iadd, 1) :: (236, .iaload, 1) :: (237, .aload_n 0, 1) :: (238, .iload 4, 2) :: (240, .iconst 3, 1) :: (241, .iadd, 1) :: (242, .iaload, 1) :: (243, .aload_n 0, 1) :: (244, .iload 4, 2) :: (246, .iconst 4, 1) :: (247, .iadd, 1) :: (248, .iaload, 1) :: (249, .aload_n 0, 1) :: (250, .iload 4, 2) :: (252, .iconst 5, 1) :: (253, .iadd, 1) :: (254, .iaload, 1) :: (255, .invokevirtual 128, 3) :: (258, .aload_n 2, 1) :: (259, .aload_n 0, 1) :: (260, .iload 4, 2) :: (262, .iconst 1, 1) :: (263, .iadd, 1) :: (264, .iaload, 1) :: (265, .aload_n 0, 1) :: (266, .iload 4, 2) :: (268, .iconst 2, 1) :: (269, .iadd, 1) :: (270, .iaload, 1) :: (271, .aload_n 0, 1) :: (272, .iload 4, 2) :: (274, .iconst 3, 1) :: (275, .iadd, 1) :: (276, .iaload, 1) :: (277, .aload_n 0, 1) :: (278, .iload 4, 2) :: (280, .iconst 4, 1) :: (281, .iadd, 1) :: (282, .iaload, 1) :: (283, .aload_n 0, 1) :: (284, .iload 4, 2) :: (286, .iconst 5, 1) :: (287, .iadd, 1) :: (288, .iaload, 1) :: (289, .invokevirtual 132, 3) :: (292, .if_icmp .eq 2382, 3) :: (295, .iconst 0, 1) :: (296, .ireturn, 1) :: k_L_law__297
def k_L_law__23 : List CI := (23, .iload 4, 2) :: (25, .aload_n 0, 1) :: (26, .arraylength, 1) :: (27, .bipush 6, 2) :: (29, .isub, 1) :: (30, .if_icmp .gt 2650, 3) :: (33, .aload_n 0, 1) :: (34, .iload 4, 2) :: (36, .iaload, 1) :: (37, .bipush 63, 2) :: (39, .iand, 1) :: (40, .tableswitch 2634 0 41 #[184, 257, 313, 369, 382, 438, 506, 574, 654, 710, 766, 834, 890, 953, 1009, 1065, 1121, 1177, 1233, 1301, 1381, 1437, 1536, 1632, 1688, 1744, 1852, 1920, 1933, 1989, 2057, 2125, 2193, 2261, 2274, 2342, 2410, 2478, 2558, 2571, 2584, 2609], 184) :: k_L_law__224
def k_L_law__20 : List CI := (20, .iconst 0, 1) :: (21, .istore 4, 2) :: k_L_law__23
def k_L_law__0 : List CI := (0, .new 8, 3) :: (3, .dup, 1) :: (4, .invokespecial 124, 3) :: (7, .astore_n 1, 1) :: (8, .new 125, 3) :: (11, .dup, 1) :: (12, .invokespecial 127, 3) :: (15, .astore_n 2, 1) :: (16, .iconst 1, 1) :: (17, .newarray .long, 2) :: (19, .astore_n 3, 1) :: k_L_law__20
def Y_L_law_ : MD := (yL_law_, cL_law_, 8, ret, k_L_law__0)
theorem COK.cons {b : ByteArray} {pc n : Nat} {i : Instr} {is : List CI} (h : decode b pc = .ok (i, n)) (hn : (is.isEmpty || hdpc is == pc + n) = true) (t : COK b is = true) : COK b ((pc, i, n) :: is) = true := by
  simp only [COK, Bool.and_eq_true]
  exact ⟨decide_eq_true h, hn, t⟩
theorem dl_2680 : decode cL_law_ 2680 = .ok (.iconst 1, 1) := by decide +kernel
theorem dl_2681 : decode cL_law_ 2681 = .ok (.ireturn, 1) := by decide +kernel
theorem cokl_2680 : COK cL_law_ k_L_law__2680 = true := COK.cons dl_2680 rfl (COK.cons dl_2681 rfl (rfl))
theorem dl_2674 : decode cL_law_ 2674 = .ok (.iinc 4 6, 3) := by decide +kernel
theorem dl_2677 : decode cL_law_ 2677 = .ok (.goto (-2654), 3) := by decide +kernel
theorem cokl_2674 : COK cL_law_ k_L_law__2674 = true := COK.cons dl_2674 rfl (COK.cons dl_2677 rfl (cokl_2680))
theorem dl_2649 : decode cL_law_ 2649 = .ok (.aload_n 1, 1) := by decide +kernel
theorem dl_2650 : decode cL_law_ 2650 = .ok (.aload_n 0, 1) := by decide +kernel
theorem dl_2651 : decode cL_law_ 2651 = .ok (.iload 4, 2) := by decide +kernel
theorem dl_2653 : decode cL_law_ 2653 = .ok (.iconst 1, 1) := by decide +kernel
theorem dl_2654 : decode cL_law_ 2654 = .ok (.iadd, 1) := by decide +kernel
theorem dl_2655 : decode cL_law_ 2655 = .ok (.iaload, 1) := by decide +kernel
theorem dl_2656 : decode cL_law_ 2656 = .ok (.invokevirtual 273, 3) := by decide +kernel
theorem dl_2659 : decode cL_law_ 2659 = .ok (.aload_n 2, 1) := by decide +kernel
theorem dl_2660 : decode cL_law_ 2660 = .ok (.aload_n 0, 1) := by decide +kernel
theorem dl_2661 : decode cL_law_ 2661 = .ok (.iload 4, 2) := by decide +kernel
theorem dl_2663 : decode cL_law_ 2663 = .ok (.iconst 1, 1) := by decide +kernel
theorem dl_2664 : decode cL_law_ 2664 = .ok (.iadd, 1) := by decide +kernel
theorem dl_2665 : decode cL_law_ 2665 = .ok (.iaload, 1) := by decide +kernel
theorem dl_2666 : decode cL_law_ 2666 = .ok (.invokevirtual 276, 3) := by decide +kernel
theorem dl_2669 : decode cL_law_ 2669 = .ok (.if_icmp .eq 5, 3) := by decide +kernel
theorem dl_2672 : decode cL_law_ 2672 = .ok (.iconst 0, 1) := by decide +kernel
theorem dl_2673 : decode cL_law_ 2673 = .ok (.ireturn, 1) := by decide +kernel
theorem cokl_2649 : COK cL_law_ k_L_law__2649 = true := COK.cons dl_2649 rfl (COK.cons dl_2650 rfl (COK.cons dl_2651 rfl (COK.cons dl_2653 rfl (COK.cons dl_2654 rfl (COK.cons dl_2655 rfl (COK.cons dl_2656 rfl (COK.cons dl_2659 rfl (COK.cons dl_2660 rfl (COK.cons dl_2661 rfl (COK.cons dl_2663 rfl (COK.cons dl_2664 rfl (COK.cons dl_2665 rfl (COK.cons dl_2666 rfl (COK.cons dl_2669 rfl (COK.cons dl_2672 rfl (COK.cons dl_2673 rfl (cokl_2674)))))))))))))))))
theorem dl_2624 : decode cL_law_ 2624 = .ok (.aload_n 1, 1) := by decide +kernel
theorem dl_2625 : decode cL_law_ 2625 = .ok (.aload_n 0, 1) := by decide +kernel
theorem dl_2626 : decode cL_law_ 2626 = .ok (.iload 4, 2) := by decide +kernel
theorem dl_2628 : decode cL_law_ 2628 = .ok (.iconst 1, 1) := by decide +kernel
theorem dl_2629 : decode cL_law_ 2629 = .ok (.iadd, 1) := by decide +kernel
theorem dl_2630 : decode cL_law_ 2630 = .ok (.iaload, 1) := by decide +kernel
theorem dl_2631 : decode cL_law_ 2631 = .ok (.invokevirtual 269, 3) := by decide +kernel
theorem dl_2634 : decode cL_law_ 2634 = .ok (.aload_n 2, 1) := by decide +kernel
theorem dl_2635 : decode cL_law_ 2635 = .ok (.aload_n 0, 1) := by decide +kernel
theorem dl_2636 : decode cL_law_ 2636 = .ok (.iload 4, 2) := by decide +kernel
theorem dl_2638 : decode cL_law_ 2638 = .ok (.iconst 1, 1) := by decide +kernel
theorem dl_2639 : decode cL_law_ 2639 = .ok (.iadd, 1) := by decide +kernel
theorem dl_2640 : decode cL_law_ 2640 = .ok (.iaload, 1) := by decide +kernel
theorem dl_2641 : decode cL_law_ 2641 = .ok (.invokevirtual 272, 3) := by decide +kernel
theorem dl_2644 : decode cL_law_ 2644 = .ok (.if_icmp .eq 30, 3) := by decide +kernel
theorem dl_2647 : decode cL_law_ 2647 = .ok (.iconst 0, 1) := by decide +kernel
theorem dl_2648 : decode cL_law_ 2648 = .ok (.ireturn, 1) := by decide +kernel
theorem cokl_2624 : COK cL_law_ k_L_law__2624 = true := COK.cons dl_2624 rfl (COK.cons dl_2625 rfl (COK.cons dl_2626 rfl (COK.cons dl_2628 rfl (COK.cons dl_2629 rfl (COK.cons dl_2630 rfl (COK.cons dl_2631 rfl (COK.cons dl_2634 rfl (COK.cons dl_2635 rfl (COK.cons dl_2636 rfl (COK.cons dl_2638 rfl (COK.cons dl_2639 rfl (COK.cons dl_2640 rfl (COK.cons dl_2641 rfl (COK.cons dl_2644 rfl (COK.cons dl_2647 rfl (COK.cons dl_2648 rfl (cokl_2649)))))))))))))))))
theorem dl_2611 : decode cL_law_ 2611 = .ok (.aload_n 1, 1) := by decide +kernel
theorem dl_2612 : decode cL_law_ 2612 = .ok (.invokevirtual 265, 3) := by decide +kernel
theorem dl_2615 : decode cL_law_ 2615 = .ok (.aload_n 2, 1) := by decide +kernel
theorem dl_2616 : decode cL_law_ 2616 = .ok (.invokevirtual 268, 3) := by decide +kernel
theorem dl_2619 : decode cL_law_ 2619 = .ok (.if_icmp .eq 55, 3) := by decide +kernel
theorem dl_2622 : decode cL_law_ 2622 = .ok (.iconst 0, 1) := by decide +kernel
theorem dl_2623 : decode cL_law_ 2623 = .ok (.ireturn, 1) := by decide +kernel
theorem cokl_2611 : COK cL_law_ k_L_law__2611 = true := COK.cons dl_2611 rfl (COK.cons dl_2612 rfl (COK.cons dl_2615 rfl (COK.cons dl_2616 rfl (COK.cons dl_2619 rfl (COK.cons dl_2622 rfl (COK.cons dl_2623 rfl (cokl_2624)))))))
theorem dl_2598 : decode cL_law_ 2598 = .ok (.aload_n 1, 1) := by decide +kernel
theorem dl_2599 : decode cL_law_ 2599 = .ok (.invokevirtual 261, 3) := by decide +kernel
theorem dl_2602 : decode cL_law_ 2602 = .ok (.aload_n 2, 1) := by decide +kernel
theorem dl_2603 : decode cL_law_ 2603 = .ok (.invokevirtual 264, 3) := by decide +kernel
theorem dl_2606 : decode cL_law_ 2606 = .ok (.if_icmp .eq 68, 3) := by decide +kernel
theorem dl_2609 : decode cL_law_ 2609 = .ok (.iconst 0, 1) := by decide +kernel
theorem dl_2610 : decode cL_law_ 2610 = .ok (.ireturn, 1) := by decide +kernel
theorem cokl_2598 : COK cL_law_ k_L_law__2598 = true := COK.cons dl_2598 rfl (COK.cons dl_2599 rfl (COK.cons dl_2602 rfl (COK.cons dl_2603 rfl (COK.cons dl_2606 rfl (COK.cons dl_2609 rfl (COK.cons dl_2610 rfl (cokl_2611)))))))
theorem dl_2595 : decode cL_law_ 2595 = .ok (.goto 79, 3) := by decide +kernel
theorem cokl_2595 : COK cL_law_ k_L_law__2595 = true := COK.cons dl_2595 rfl (cokl_2598)
theorem dl_2578 : decode cL_law_ 2578 = .ok (.iload 5, 2) := by decide +kernel
theorem dl_2580 : decode cL_law_ 2580 = .ok (.ifCond .ne 15, 3) := by decide +kernel
theorem dl_2583 : decode cL_law_ 2583 = .ok (.aload_n 3, 1) := by decide +kernel
theorem dl_2584 : decode cL_law_ 2584 = .ok (.iconst 0, 1) := by decide +kernel
theorem dl_2585 : decode cL_law_ 2585 = .ok (.laload, 1) := by decide +kernel
theorem dl_2586 : decode cL_law_ 2586 = .ok (.iload 6, 2) := by decide +kernel
theorem dl_2588 : decode cL_law_ 2588 = .ok (.i2l, 1) := by decide +kernel
theorem dl_2589 : decode cL_law_ 2589 = .ok (.lcmp, 1) := by decide +kernel
theorem dl_2590 : decode cL_law_ 2590 = .ok (.ifCond .eq 5, 3) := by decide +kernel
theorem dl_2593 : decode cL_law_ 2593 = .ok (.iconst 0, 1) := by decide +kernel
theorem dl_2594 : decode cL_law_ 2594 = .ok (.ireturn, 1) := by decide +kernel
theorem cokl_2578 : COK cL_law_ k_L_law__2578 = true := COK.cons dl_2578 rfl (COK.cons dl_2580 rfl (COK.cons dl_2583 rfl (COK.cons dl_2584 rfl (COK.cons dl_2585 rfl (COK.cons dl_2586 rfl (COK.cons dl_2588 rfl (COK.cons dl_2589 rfl (COK.cons dl_2590 rfl (COK.cons dl_2593 rfl (COK.cons dl_2594 rfl (cokl_2595)))))))))))
theorem dl_2518 : decode cL_law_ 2518 = .ok (.aload_n 1, 1) := by decide +kernel
theorem dl_2519 : decode cL_law_ 2519 = .ok (.aload_n 0, 1) := by decide +kernel
theorem dl_2520 : decode cL_law_ 2520 = .ok (.iload 4, 2) := by decide +kernel
theorem dl_2522 : decode cL_law_ 2522 = .ok (.iconst 1, 1) := by decide +kernel
theorem dl_2523 : decode cL_law_ 2523 = .ok (.iadd, 1) := by decide +kernel
theorem dl_2524 : decode cL_law_ 2524 = .ok (.iaload, 1) := by decide +kernel
theorem dl_2525 : decode cL_law_ 2525 = .ok (.aload_n 0, 1) := by decide +kernel
theorem dl_2526 : decode cL_law_ 2526 = .ok (.iload 4, 2) := by decide +kernel
theorem dl_2528 : decode cL_law_ 2528 = .ok (.iconst 2, 1) := by decide +kernel
theorem dl_2529 : decode cL_law_ 2529 = .ok (.iadd, 1) := by decide +kernel
theorem dl_2530 : decode cL_law_ 2530 = .ok (.iaload, 1) := by decide +kernel
theorem dl_2531 : decode cL_law_ 2531 = .ok (.aload_n 0, 1) := by decide +kernel
theorem dl_2532 : decode cL_law_ 2532 = .ok (.iload 4, 2) := by decide +kernel
theorem dl_2534 : decode cL_law_ 2534 = .ok (.iconst 3, 1) := by decide +kernel
theorem dl_2535 : decode cL_law_ 2535 = .ok (.iadd, 1) := by decide +kernel
theorem dl_2536 : decode cL_law_ 2536 = .ok (.iaload, 1) := by decide +kernel
theorem dl_2537 : decode cL_law_ 2537 = .ok (.aload_n 3, 1) := by decide +kernel
theorem dl_2538 : decode cL_law_ 2538 = .ok (.invokestatic 258, 3) := by decide +kernel
theorem dl_2541 : decode cL_law_ 2541 = .ok (.istore 5, 2) := by decide +kernel
theorem dl_2543 : decode cL_law_ 2543 = .ok (.aload_n 2, 1) := by decide +kernel
theorem dl_2544 : decode cL_law_ 2544 = .ok (.aload_n 0, 1) := by decide +kernel
theorem dl_2545 : decode cL_law_ 2545 = .ok (.iload 4, 2) := by decide +kernel
theorem dl_2547 : decode cL_law_ 2547 = .ok (.iconst 1, 1) := by decide +kernel
theorem dl_2548 : decode cL_law_ 2548 = .ok (.iadd, 1) := by decide +kernel
theorem dl_2549 : decode cL_law_ 2549 = .ok (.iaload, 1) := by decide +kernel
theorem dl_2550 : decode cL_law_ 2550 = .ok (.aload_n 0, 1) := by decide +kernel
theorem dl_2551 : decode cL_law_ 2551 = .ok (.iload 4, 2) := by decide +kernel
theorem dl_2553 : decode cL_law_ 2553 = .ok (.iconst 2, 1) := by decide +kernel
theorem dl_2554 : decode cL_law_ 2554 = .ok (.iadd, 1) := by decide +kernel
theorem dl_2555 : decode cL_law_ 2555 = .ok (.iaload, 1) := by decide +kernel
theorem dl_2556 : decode cL_law_ 2556 = .ok (.aload_n 0, 1) := by decide +kernel
theorem dl_2557 : decode cL_law_ 2557 = .ok (.iload 4, 2) := by decide +kernel
theorem dl_2559 : decode cL_law_ 2559 = .ok (.iconst 3, 1) := by decide +kernel
theorem dl_2560 : decode cL_law_ 2560 = .ok (.iadd, 1) := by decide +kernel
theorem dl_2561 : decode cL_law_ 2561 = .ok (.iaload, 1) := by decide +kernel
theorem dl_2562 : decode cL_law_ 2562 = .ok (.invokevirtual 260, 3) := by decide +kernel
theorem dl_2565 : decode cL_law_ 2565 = .ok (.istore 6, 2) := by decide +kernel
theorem dl_2567 : decode cL_law_ 2567 = .ok (.aload_n 2, 1) := by decide +kernel
theorem dl_2568 : decode cL_law_ 2568 = .ok (.invokevirtual 139, 3) := by decide +kernel
theorem dl_2571 : decode cL_law_ 2571 = .ok (.iload 5, 2) := by decide +kernel
theorem dl_2573 : decode cL_law_ 2573 = .ok (.if_icmp .eq 5, 3) := by decide +kernel
theorem dl_2576 : decode cL_law_ 2576 = .ok (.iconst 0, 1) := by decide +kernel
theorem dl_2577 : decode cL_law_ 2577 = .ok (.ireturn, 1) := by decide +kernel
theorem cokl_2518 : COK cL_law_ k_L_law__2518 = true := COK.cons dl_2518 rfl (COK.cons dl_2519 rfl (COK.cons dl_2520 rfl (COK.cons dl_2522 rfl (COK.cons dl_2523 rfl (COK.cons dl_2524 rfl (COK.cons dl_2525 rfl (COK.cons dl_2526 rfl (COK.cons dl_2528 rfl (COK.cons dl_2529 rfl (COK.cons dl_2530 rfl (COK.cons dl_2531 rfl (COK.cons dl_2532 rfl (COK.cons dl_2534 rfl (COK.cons dl_2535 rfl (COK.cons dl_2536 rfl (COK.cons dl_2537 rfl (COK.cons dl_2538 rfl (COK.cons dl_2541 rfl (COK.cons dl_2543 rfl (COK.cons dl_2544 rfl (COK.cons dl_2545 rfl (COK.cons dl_2547 rfl (COK.cons dl_2548 rfl (COK.cons dl_2549 rfl (COK.cons dl_2550 rfl (COK.cons dl_2551 rfl (COK.cons dl_2553 rfl (COK.cons dl_2554 rfl (COK.cons dl_2555 rfl (COK.cons dl_2556 rfl (COK.cons dl_2557 rfl (COK.cons dl_2559 rfl (COK.cons dl_2560 rfl (COK.cons dl_2561 rfl (COK.cons dl_2562 rfl (COK.cons dl_2565 rfl (COK.cons dl_2567 rfl (COK.cons dl_2568 rfl (COK.cons dl_2571 rfl (COK.cons dl_2573 rfl (COK.cons dl_2576 rfl (COK.cons dl_2577 rfl (cokl_2578)))))))))))))))))))))))))))))))))))))))))))
theorem dl_2515 : decode cL_law_ 2515 = .ok (.goto 159, 3) := by decide +kernel
theorem cokl_2515 : COK cL_law_ k_L_law__2515 = true := COK.cons dl_2515 rfl (cokl_2518)
theorem dl_2498 : decode cL_law_ 2498 = .ok (.iload 5, 2) := by decide +kernel
theorem dl_2500 : decode cL_law_ 2500 = .ok (.ifCond .ne 15, 3) := by decide +kernel
theorem dl_2503 : decode cL_law_ 2503 = .ok (.aload_n 3, 1) := by decide +kernel
theorem dl_2504 : decode cL_law_ 2504 = .ok (.iconst 0, 1) := by decide +kernel
theorem dl_2505 : decode cL_law_ 2505 = .ok (.laload, 1) := by decide +kernel
theorem dl_2506 : decode cL_law_ 2506 = .ok (.iload 6, 2) := by decide +kernel
theorem dl_2508 : decode cL_law_ 2508 = .ok (.i2l, 1) := by decide +kernel
theorem dl_2509 : decode cL_law_ 2509 = .ok (.lcmp, 1) := by decide +kernel
theorem dl_2510 : decode cL_law_ 2510 = .ok (.ifCond .eq 5, 3) := by decide +kernel
theorem dl_2513 : decode cL_law_ 2513 = .ok (.iconst 0, 1) := by decide +kernel
theorem dl_2514 : decode cL_law_ 2514 = .ok (.ireturn, 1) := by decide +kernel
theorem cokl_2498 : COK cL_law_ k_L_law__2498 = true := COK.cons dl_2498 rfl (COK.cons dl_2500 rfl (COK.cons dl_2503 rfl (COK.cons dl_2504 rfl (COK.cons dl_2505 rfl (COK.cons dl_2506 rfl (COK.cons dl_2508 rfl (COK.cons dl_2509 rfl (COK.cons dl_2510 rfl (COK.cons dl_2513 rfl (COK.cons dl_2514 rfl (cokl_2515)))))))))))
theorem dl_2450 : decode cL_law_ 2450 = .ok (.aload_n 1, 1) := by decide +kernel
theorem dl_2451 : decode cL_law_ 2451 = .ok (.aload_n 0, 1) := by decide +kernel
theorem dl_2452 : decode cL_law_ 2452 = .ok (.iload 4, 2) := by decide +kernel
theorem dl_2454 : decode cL_law_ 2454 = .ok (.iconst 1, 1) := by decide +kernel
theorem dl_2455 : decode cL_law_ 2455 = .ok (.iadd, 1) := by decide +kernel
theorem dl_2456 : decode cL_law_ 2456 = .ok (.iaload, 1) := by decide +kernel
theorem dl_2457 : decode cL_law_ 2457 = .ok (.aload_n 0, 1) := by decide +kernel
theorem dl_2458 : decode cL_law_ 2458 = .ok (.iload 4, 2) := by decide +kernel
theorem dl_2460 : decode cL_law_ 2460 = .ok (.iconst 2, 1) := by decide +kernel
theorem dl_2461 : decode cL_law_ 2461 = .ok (.iadd, 1) := by decide +kernel
theorem dl_2462 : decode cL_law_ 2462 = .ok (.iaload, 1) := by decide +kernel
theorem dl_2463 : decode cL_law_ 2463 = .ok (.aload_n 3, 1) := by decide +kernel
theorem dl_2464 : decode cL_law_ 2464 = .ok (.invokestatic 255, 3) := by decide +kernel
theorem dl_2467 : decode cL_law_ 2467 = .ok (.istore 5, 2) := by decide +kernel
theorem dl_2469 : decode cL_law_ 2469 = .ok (.aload_n 2, 1) := by decide +kernel
theorem dl_2470 : decode cL_law_ 2470 = .ok (.aload_n 0, 1) := by decide +kernel
theorem dl_2471 : decode cL_law_ 2471 = .ok (.iload 4, 2) := by decide +kernel
theorem dl_2473 : decode cL_law_ 2473 = .ok (.iconst 1, 1) := by decide +kernel
theorem dl_2474 : decode cL_law_ 2474 = .ok (.iadd, 1) := by decide +kernel
theorem dl_2475 : decode cL_law_ 2475 = .ok (.iaload, 1) := by decide +kernel
theorem dl_2476 : decode cL_law_ 2476 = .ok (.aload_n 0, 1) := by decide +kernel
theorem dl_2477 : decode cL_law_ 2477 = .ok (.iload 4, 2) := by decide +kernel
theorem dl_2479 : decode cL_law_ 2479 = .ok (.iconst 2, 1) := by decide +kernel
theorem dl_2480 : decode cL_law_ 2480 = .ok (.iadd, 1) := by decide +kernel
theorem dl_2481 : decode cL_law_ 2481 = .ok (.iaload, 1) := by decide +kernel
theorem dl_2482 : decode cL_law_ 2482 = .ok (.invokevirtual 257, 3) := by decide +kernel
theorem dl_2485 : decode cL_law_ 2485 = .ok (.istore 6, 2) := by decide +kernel
theorem dl_2487 : decode cL_law_ 2487 = .ok (.aload_n 2, 1) := by decide +kernel
theorem dl_2488 : decode cL_law_ 2488 = .ok (.invokevirtual 139, 3) := by decide +kernel
theorem dl_2491 : decode cL_law_ 2491 = .ok (.iload 5, 2) := by decide +kernel
theorem dl_2493 : decode cL_law_ 2493 = .ok (.if_icmp .eq 5, 3) := by decide +kernel
theorem dl_2496 : decode cL_law_ 2496 = .ok (.iconst 0, 1) := by decide +kernel
theorem dl_2497 : decode cL_law_ 2497 = .ok (.ireturn, 1) := by decide +kernel
theorem cokl_2450 : COK cL_law_ k_L_law__2450 = true := COK.cons dl_2450 rfl (COK.cons dl_2451 rfl (COK.cons dl_2452 rfl (COK.cons dl_2454 rfl (COK.cons dl_2455 rfl (COK.cons dl_2456 rfl (COK.cons dl_2457 rfl (COK.cons dl_2458 rfl (COK.cons dl_2460 rfl (COK.cons dl_2461 rfl (COK.cons dl_2462 rfl (COK.cons dl_2463 rfl (COK.cons dl_2464 rfl (COK.cons dl_2467 rfl (COK.cons dl_2469 rfl (COK.cons dl_2470 rfl (COK.cons dl_2471 rfl (COK.cons dl_2473 rfl (COK.cons dl_2474 rfl (COK.cons dl_2475 rfl (COK.cons dl_2476 rfl (COK.cons dl_2477 rfl (COK.cons dl_2479 rfl (COK.cons dl_2480 rfl (COK.cons dl_2481 rfl (COK.cons dl_2482 rfl (COK.cons dl_2485 rfl (COK.cons dl_2487 rfl (COK.cons dl_2488 rfl (COK.cons dl_2491 rfl (COK.cons dl_2493 rfl (COK.cons dl_2496 rfl (COK.cons dl_2497 rfl (cokl_2498)))))))))))))))))))))))))))))))))
theorem dl_2447 : decode cL_law_ 2447 = .ok (.goto 227, 3) := by decide +kernel
theorem cokl_2447 : COK cL_law_ k_L_law__2447 = true := COK.cons dl_2447 rfl (cokl_2450)
theorem dl_2430 : decode cL_law_ 2430 = .ok (.iload 5, 2) := by decide +kernel
theorem dl_2432 : decode cL_law_ 2432 = .ok (.ifCond .ne 15, 3) := by decide +kernel
theorem dl_2435 : decode cL_law_ 2435 = .ok (.aload_n 3, 1) := by decide +kernel
theorem dl_2436 : decode cL_law_ 2436 = .ok (.iconst 0, 1) := by decide +kernel
theorem dl_2437 : decode cL_law_ 2437 = .ok (.laload, 1) := by decide +kernel
theorem dl_2438 : decode cL_law_ 2438 = .ok (.iload 6, 2) := by decide +kernel
theorem dl_2440 : decode cL_law_ 2440 = .ok (.i2l, 1) := by decide +kernel
theorem dl_2441 : decode cL_law_ 2441 = .ok (.lcmp, 1) := by decide +kernel
theorem dl_2442 : decode cL_law_ 2442 = .ok (.ifCond .eq 5, 3) := by decide +kernel
theorem dl_2445 : decode cL_law_ 2445 = .ok (.iconst 0, 1) := by decide +kernel
theorem dl_2446 : decode cL_law_ 2446 = .ok (.ireturn, 1) := by decide +kernel
theorem cokl_2430 : COK cL_law_ k_L_law__2430 = true := COK.cons dl_2430 rfl (COK.cons dl_2432 rfl (COK.cons dl_2435 rfl (COK.cons dl_2436 rfl (COK.cons dl_2437 rfl (COK.cons dl_2438 rfl (COK.cons dl_2440 rfl (COK.cons dl_2441 rfl (COK.cons dl_2442 rfl (COK.cons dl_2445 rfl (COK.cons dl_2446 rfl (cokl_2447)))))))))))
theorem dl_2382 : decode cL_law_ 2382 = .ok (.aload_n 1, 1) := by decide +kernel
theorem dl_2383 : decode cL_law_ 2383 = .ok (.aload_n 0, 1) := by decide +kernel
theorem dl_2384 : decode cL_law_ 2384 = .ok (.iload 4, 2) := by decide +kernel
theorem dl_2386 : decode cL_law_ 2386 = .ok (.iconst 1, 1) := by decide +kernel
theorem dl_2387 : decode cL_law_ 2387 = .ok (.iadd, 1) := by decide +kernel
theorem dl_2388 : decode cL_law_ 2388 = .ok (.iaload, 1) := by decide +kernel
theorem dl_2389 : decode cL_law_ 2389 = .ok (.aload_n 0, 1) := by decide +kernel
theorem dl_2390 : decode cL_law_ 2390 = .ok (.iload 4, 2) := by decide +kernel
theorem dl_2392 : decode cL_law_ 2392 = .ok (.iconst 2, 1) := by decide +kernel
theorem dl_2393 : decode cL_law_ 2393 = .ok (.iadd, 1) := by decide +kernel
theorem dl_2394 : decode cL_law_ 2394 = .ok (.iaload, 1) := by decide +kernel
theorem dl_2395 : decode cL_law_ 2395 = .ok (.aload_n 3, 1) := by decide +kernel
theorem dl_2396 : decode cL_law_ 2396 = .ok (.invokestatic 252, 3) := by decide +kernel
theorem dl_2399 : decode cL_law_ 2399 = .ok (.istore 5, 2) := by decide +kernel
theorem dl_2401 : decode cL_law_ 2401 = .ok (.aload_n 2, 1) := by decide +kernel
theorem dl_2402 : decode cL_law_ 2402 = .ok (.aload_n 0, 1) := by decide +kernel
theorem dl_2403 : decode cL_law_ 2403 = .ok (.iload 4, 2) := by decide +kernel
theorem dl_2405 : decode cL_law_ 2405 = .ok (.iconst 1, 1) := by decide +kernel
theorem dl_2406 : decode cL_law_ 2406 = .ok (.iadd, 1) := by decide +kernel
theorem dl_2407 : decode cL_law_ 2407 = .ok (.iaload, 1) := by decide +kernel
theorem dl_2408 : decode cL_law_ 2408 = .ok (.aload_n 0, 1) := by decide +kernel
theorem dl_2409 : decode cL_law_ 2409 = .ok (.iload 4, 2) := by decide +kernel
theorem dl_2411 : decode cL_law_ 2411 = .ok (.iconst 2, 1) := by decide +kernel
theorem dl_2412 : decode cL_law_ 2412 = .ok (.iadd, 1) := by decide +kernel
theorem dl_2413 : decode cL_law_ 2413 = .ok (.iaload, 1) := by decide +kernel
theorem dl_2414 : decode cL_law_ 2414 = .ok (.invokevirtual 254, 3) := by decide +kernel
theorem dl_2417 : decode cL_law_ 2417 = .ok (.istore 6, 2) := by decide +kernel
theorem dl_2419 : decode cL_law_ 2419 = .ok (.aload_n 2, 1) := by decide +kernel
theorem dl_2420 : decode cL_law_ 2420 = .ok (.invokevirtual 139, 3) := by decide +kernel
theorem dl_2423 : decode cL_law_ 2423 = .ok (.iload 5, 2) := by decide +kernel
theorem dl_2425 : decode cL_law_ 2425 = .ok (.if_icmp .eq 5, 3) := by decide +kernel
theorem dl_2428 : decode cL_law_ 2428 = .ok (.iconst 0, 1) := by decide +kernel
theorem dl_2429 : decode cL_law_ 2429 = .ok (.ireturn, 1) := by decide +kernel
theorem cokl_2382 : COK cL_law_ k_L_law__2382 = true := COK.cons dl_2382 rfl (COK.cons dl_2383 rfl (COK.cons dl_2384 rfl (COK.cons dl_2386 rfl (COK.cons dl_2387 rfl (COK.cons dl_2388 rfl (COK.cons dl_2389 rfl (COK.cons dl_2390 rfl (COK.cons dl_2392 rfl (COK.cons dl_2393 rfl (COK.cons dl_2394 rfl (COK.cons dl_2395 rfl (COK.cons dl_2396 rfl (COK.cons dl_2399 rfl (COK.cons dl_2401 rfl (COK.cons dl_2402 rfl (COK.cons dl_2403 rfl (COK.cons dl_2405 rfl (COK.cons dl_2406 rfl (COK.cons dl_2407 rfl (COK.cons dl_2408 rfl (COK.cons dl_2409 rfl (COK.cons dl_2411 rfl (COK.cons dl_2412 rfl (COK.cons dl_2413 rfl (COK.cons dl_2414 rfl (COK.cons dl_2417 rfl (COK.cons dl_2419 rfl (COK.cons dl_2420 rfl (COK.cons dl_2423 rfl (COK.cons dl_2425 rfl (COK.cons dl_2428 rfl (COK.cons dl_2429 rfl (cokl_2430)))))))))))))))))))))))))))))))))
theorem dl_2379 : decode cL_law_ 2379 = .ok (.goto 295, 3) := by decide +kernel
theorem cokl_2379 : COK cL_law_ k_L_law__2379 = true := COK.cons dl_2379 rfl (cokl_2382)
theorem dl_2362 : decode cL_law_ 2362 = .ok (.iload 5, 2) := by decide +kernel
theorem dl_2364 : decode cL_law_ 2364 = .ok (.ifCond .ne 15, 3) := by decide +kernel
theorem dl_2367 : decode cL_law_ 2367 = .ok (.aload_n 3, 1) := by decide +kernel
theorem dl_2368 : decode cL_law_ 2368 = .ok (.iconst 0, 1) := by decide +kernel
theorem dl_2369 : decode cL_law_ 2369 = .ok (.laload, 1) := by decide +kernel
theorem dl_2370 : decode cL_law_ 2370 = .ok (.iload 6, 2) := by decide +kernel
theorem dl_2372 : decode cL_law_ 2372 = .ok (.i2l, 1) := by decide +kernel
theorem dl_2373 : decode cL_law_ 2373 = .ok (.lcmp, 1) := by decide +kernel
theorem dl_2374 : decode cL_law_ 2374 = .ok (.ifCond .eq 5, 3) := by decide +kernel
theorem dl_2377 : decode cL_law_ 2377 = .ok (.iconst 0, 1) := by decide +kernel
theorem dl_2378 : decode cL_law_ 2378 = .ok (.ireturn, 1) := by decide +kernel
theorem cokl_2362 : COK cL_law_ k_L_law__2362 = true := COK.cons dl_2362 rfl (COK.cons dl_2364 rfl (COK.cons dl_2367 rfl (COK.cons dl_2368 rfl (COK.cons dl_2369 rfl (COK.cons dl_2370 rfl (COK.cons dl_2372 rfl (COK.cons dl_2373 rfl (COK.cons dl_2374 rfl (COK.cons dl_2377 rfl (COK.cons dl_2378 rfl (cokl_2379)))))))))))
theorem dl_2314 : decode cL_law_ 2314 = .ok (.aload_n 1, 1) := by decide +kernel
theorem dl_2315 : decode cL_law_ 2315 = .ok (.aload_n 0, 1) := by decide +kernel
theorem dl_2316 : decode cL_law_ 2316 = .ok (.iload 4, 2) := by decide +kernel
theorem dl_2318 : decode cL_law_ 2318 = .ok (.iconst 1, 1) := by decide +kernel
theorem dl_2319 : decode cL_law_ 2319 = .ok (.iadd, 1) := by decide +kernel
theorem dl_2320 : decode cL_law_ 2320 = .ok (.iaload, 1) := by decide +kernel
theorem dl_2321 : decode cL_law_ 2321 = .ok (.aload_n 0, 1) := by decide +kernel
theorem dl_2322 : decode cL_law_ 2322 = .ok (.iload 4, 2) := by decide +kernel
theorem dl_2324 : decode cL_law_ 2324 = .ok (.iconst 2, 1) := by decide +kernel
theorem dl_2325 : decode cL_law_ 2325 = .ok (.iadd, 1) := by decide +kernel
theorem dl_2326 : decode cL_law_ 2326 = .ok (.iaload, 1) := by decide +kernel
theorem dl_2327 : decode cL_law_ 2327 = .ok (.aload_n 3, 1) := by decide +kernel
theorem dl_2328 : decode cL_law_ 2328 = .ok (.invokestatic 249, 3) := by decide +kernel
theorem dl_2331 : decode cL_law_ 2331 = .ok (.istore 5, 2) := by decide +kernel
theorem dl_2333 : decode cL_law_ 2333 = .ok (.aload_n 2, 1) := by decide +kernel
theorem dl_2334 : decode cL_law_ 2334 = .ok (.aload_n 0, 1) := by decide +kernel
theorem dl_2335 : decode cL_law_ 2335 = .ok (.iload 4, 2) := by decide +kernel
theorem dl_2337 : decode cL_law_ 2337 = .ok (.iconst 1, 1) := by decide +kernel
theorem dl_2338 : decode cL_law_ 2338 = .ok (.iadd, 1) := by decide +kernel
theorem dl_2339 : decode cL_law_ 2339 = .ok (.iaload, 1) := by decide +kernel
theorem dl_2340 : decode cL_law_ 2340 = .ok (.aload_n 0, 1) := by decide +kernel
theorem dl_2341 : decode cL_law_ 2341 = .ok (.iload 4, 2) := by decide +kernel
theorem dl_2343 : decode cL_law_ 2343 = .ok (.iconst 2, 1) := by decide +kernel
theorem dl_2344 : decode cL_law_ 2344 = .ok (.iadd, 1) := by decide +kernel
theorem dl_2345 : decode cL_law_ 2345 = .ok (.iaload, 1) := by decide +kernel
theorem dl_2346 : decode cL_law_ 2346 = .ok (.invokevirtual 251, 3) := by decide +kernel
theorem dl_2349 : decode cL_law_ 2349 = .ok (.istore 6, 2) := by decide +kernel
theorem dl_2351 : decode cL_law_ 2351 = .ok (.aload_n 2, 1) := by decide +kernel
theorem dl_2352 : decode cL_law_ 2352 = .ok (.invokevirtual 139, 3) := by decide +kernel
theorem dl_2355 : decode cL_law_ 2355 = .ok (.iload 5, 2) := by decide +kernel
theorem dl_2357 : decode cL_law_ 2357 = .ok (.if_icmp .eq 5, 3) := by decide +kernel
theorem dl_2360 : decode cL_law_ 2360 = .ok (.iconst 0, 1) := by decide +kernel
theorem dl_2361 : decode cL_law_ 2361 = .ok (.ireturn, 1) := by decide +kernel
theorem cokl_2314 : COK cL_law_ k_L_law__2314 = true := COK.cons dl_2314 rfl (COK.cons dl_2315 rfl (COK.cons dl_2316 rfl (COK.cons dl_2318 rfl (COK.cons dl_2319 rfl (COK.cons dl_2320 rfl (COK.cons dl_2321 rfl (COK.cons dl_2322 rfl (COK.cons dl_2324 rfl (COK.cons dl_2325 rfl (COK.cons dl_2326 rfl (COK.cons dl_2327 rfl (COK.cons dl_2328 rfl (COK.cons dl_2331 rfl (COK.cons dl_2333 rfl (COK.cons dl_2334 rfl (COK.cons dl_2335 rfl (COK.cons dl_2337 rfl (COK.cons dl_2338 rfl (COK.cons dl_2339 rfl (COK.cons dl_2340 rfl (COK.cons dl_2341 rfl (COK.cons dl_2343 rfl (COK.cons dl_2344 rfl (COK.cons dl_2345 rfl (COK.cons dl_2346 rfl (COK.cons dl_2349 rfl (COK.cons dl_2351 rfl (COK.cons dl_2352 rfl (COK.cons dl_2355 rfl (COK.cons dl_2357 rfl (COK.cons dl_2360 rfl (COK.cons dl_2361 rfl (cokl_2362)))))))))))))))))))))))))))))))))
theorem dl_2301 : decode cL_law_ 2301 = .ok (.aload_n 1, 1) := by decide +kernel
theorem dl_2302 : decode cL_law_ 2302 = .ok (.invokevirtual 245, 3) := by decide +kernel
theorem dl_2305 : decode cL_law_ 2305 = .ok (.aload_n 2, 1) := by decide +kernel
theorem dl_2306 : decode cL_law_ 2306 = .ok (.invokevirtual 248, 3) := by decide +kernel
theorem dl_2309 : decode cL_law_ 2309 = .ok (.if_icmp .eq 365, 3) := by decide +kernel
theorem dl_2312 : decode cL_law_ 2312 = .ok (.iconst 0, 1) := by decide +kernel
theorem dl_2313 : decode cL_law_ 2313 = .ok (.ireturn, 1) := by decide +kernel
theorem cokl_2301 : COK cL_law_ k_L_law__2301 = true := COK.cons dl_2301 rfl (COK.cons dl_2302 rfl (COK.cons dl_2305 rfl (COK.cons dl_2306 rfl (COK.cons dl_2309 rfl (COK.cons dl_2312 rfl (COK.cons dl_2313 rfl (cokl_2314)))))))
theorem dl_2298 : decode cL_law_ 2298 = .ok (.goto 376, 3) := by decide +kernel
theorem cokl_2298 : COK cL_law_ k_L_law__2298 = true := COK.cons dl_2298 rfl (cokl_2301)
theorem dl_2281 : decode cL_law_ 2281 = .ok (.iload 5, 2) := by decide +kernel
theorem dl_2283 : decode cL_law_ 2283 = .ok (.ifCond .ne 15, 3) := by decide +kernel
theorem dl_2286 : decode cL_law_ 2286 = .ok (.aload_n 3, 1) := by decide +kernel
theorem dl_2287 : decode cL_law_ 2287 = .ok (.iconst 0, 1) := by decide +kernel
theorem dl_2288 : decode cL_law_ 2288 = .ok (.laload, 1) := by decide +kernel
theorem dl_2289 : decode cL_law_ 2289 = .ok (.iload 6, 2) := by decide +kernel
theorem dl_2291 : decode cL_law_ 2291 = .ok (.i2l, 1) := by decide +kernel
theorem dl_2292 : decode cL_law_ 2292 = .ok (.lcmp, 1) := by decide +kernel
theorem dl_2293 : decode cL_law_ 2293 = .ok (.ifCond .eq 5, 3) := by decide +kernel
theorem dl_2296 : decode cL_law_ 2296 = .ok (.iconst 0, 1) := by decide +kernel
theorem dl_2297 : decode cL_law_ 2297 = .ok (.ireturn, 1) := by decide +kernel
theorem cokl_2281 : COK cL_law_ k_L_law__2281 = true := COK.cons dl_2281 rfl (COK.cons dl_2283 rfl (COK.cons dl_2286 rfl (COK.cons dl_2287 rfl (COK.cons dl_2288 rfl (COK.cons dl_2289 rfl (COK.cons dl_2291 rfl (COK.cons dl_2292 rfl (COK.cons dl_2293 rfl (COK.cons dl_2296 rfl (COK.cons dl_2297 rfl (cokl_2298)))))))))))
theorem dl_2233 : decode cL_law_ 2233 = .ok (.aload_n 1, 1) := by decide +kernel
theorem dl_2234 : decode cL_law_ 2234 = .ok (.aload_n 0, 1) := by decide +kernel
theorem dl_2235 : decode cL_law_ 2235 = .ok (.iload 4, 2) := by decide +kernel
theorem dl_2237 : decode cL_law_ 2237 = .ok (.iconst 1, 1) := by decide +kernel
theorem dl_2238 : decode cL_law_ 2238 = .ok (.iadd, 1) := by decide +kernel
theorem dl_2239 : decode cL_law_ 2239 = .ok (.iaload, 1) := by decide +kernel
theorem dl_2240 : decode cL_law_ 2240 = .ok (.aload_n 0, 1) := by decide +kernel
theorem dl_2241 : decode cL_law_ 2241 = .ok (.iload 4, 2) := by decide +kernel
theorem dl_2243 : decode cL_law_ 2243 = .ok (.iconst 2, 1) := by decide +kernel
theorem dl_2244 : decode cL_law_ 2244 = .ok (.iadd, 1) := by decide +kernel
theorem dl_2245 : decode cL_law_ 2245 = .ok (.iaload, 1) := by decide +kernel
theorem dl_2246 : decode cL_law_ 2246 = .ok (.aload_n 3, 1) := by decide +kernel
theorem dl_2247 : decode cL_law_ 2247 = .ok (.invokestatic 242, 3) := by decide +kernel
theorem dl_2250 : decode cL_law_ 2250 = .ok (.istore 5, 2) := by decide +kernel
theorem dl_2252 : decode cL_law_ 2252 = .ok (.aload_n 2, 1) := by decide +kernel
theorem dl_2253 : decode cL_law_ 2253 = .ok (.aload_n 0, 1) := by decide +kernel
theorem dl_2254 : decode cL_law_ 2254 = .ok (.iload 4, 2) := by decide +kernel
theorem dl_2256 : decode cL_law_ 2256 = .ok (.iconst 1, 1) := by decide +kernel
theorem dl_2257 : decode cL_law_ 2257 = .ok (.iadd, 1) := by decide +kernel
theorem dl_2258 : decode cL_law_ 2258 = .ok (.iaload, 1) := by decide +kernel
theorem dl_2259 : decode cL_law_ 2259 = .ok (.aload_n 0, 1) := by decide +kernel
theorem dl_2260 : decode cL_law_ 2260 = .ok (.iload 4, 2) := by decide +kernel
theorem dl_2262 : decode cL_law_ 2262 = .ok (.iconst 2, 1) := by decide +kernel
theorem dl_2263 : decode cL_law_ 2263 = .ok (.iadd, 1) := by decide +kernel
theorem dl_2264 : decode cL_law_ 2264 = .ok (.iaload, 1) := by decide +kernel
theorem dl_2265 : decode cL_law_ 2265 = .ok (.invokevirtual 244, 3) := by decide +kernel
theorem dl_2268 : decode cL_law_ 2268 = .ok (.istore 6, 2) := by decide +kernel
theorem dl_2270 : decode cL_law_ 2270 = .ok (.aload_n 2, 1) := by decide +kernel
theorem dl_2271 : decode cL_law_ 2271 = .ok (.invokevirtual 139, 3) := by decide +kernel
theorem dl_2274 : decode cL_law_ 2274 = .ok (.iload 5, 2) := by decide +kernel
theorem dl_2276 : decode cL_law_ 2276 = .ok (.if_icmp .eq 5, 3) := by decide +kernel
theorem dl_2279 : decode cL_law_ 2279 = .ok (.iconst 0, 1) := by decide +kernel
theorem dl_2280 : decode cL_law_ 2280 = .ok (.ireturn, 1) := by decide +kernel
theorem cokl_2233 : COK cL_law_ k_L_law__2233 = true := COK.cons dl_2233 rfl (COK.cons dl_2234 rfl (COK.cons dl_2235 rfl (COK.cons dl_2237 rfl (COK.cons dl_2238 rfl (COK.cons dl_2239 rfl (COK.cons dl_2240 rfl (COK.cons dl_2241 rfl (COK.cons dl_2243 rfl (COK.cons dl_2244 rfl (COK.cons dl_2245 rfl (COK.cons dl_2246 rfl (COK.cons dl_2247 rfl (COK.cons dl_2250 rfl (COK.cons dl_2252 rfl (COK.cons dl_2253 rfl (COK.cons dl_2254 rfl (COK.cons dl_2256 rfl (COK.cons dl_2257 rfl (COK.cons dl_2258 rfl (COK.cons dl_2259 rfl (COK.cons dl_2260 rfl (COK.cons dl_2262 rfl (COK.cons dl_2263 rfl (COK.cons dl_2264 rfl (COK.cons dl_2265 rfl (COK.cons dl_2268 rfl (COK.cons dl_2270 rfl (COK.cons dl_2271 rfl (COK.cons dl_2274 rfl (COK.cons dl_2276 rfl (COK.cons dl_2279 rfl (COK.cons dl_2280 rfl (cokl_2281)))))))))))))))))))))))))))))))))
theorem dl_2230 : decode cL_law_ 2230 = .ok (.goto 444, 3) := by decide +kernel
theorem cokl_2230 : COK cL_law_ k_L_law__2230 = true := COK.cons dl_2230 rfl (cokl_2233)
theorem dl_2213 : decode cL_law_ 2213 = .ok (.iload 5, 2) := by decide +kernel
theorem dl_2215 : decode cL_law_ 2215 = .ok (.ifCond .ne 15, 3) := by decide +kernel
theorem dl_2218 : decode cL_law_ 2218 = .ok (.aload_n 3, 1) := by decide +kernel
theorem dl_2219 : decode cL_law_ 2219 = .ok (.iconst 0, 1) := by decide +kernel
theorem dl_2220 : decode cL_law_ 2220 = .ok (.laload, 1) := by decide +kernel
theorem dl_2221 : decode cL_law_ 2221 = .ok (.iload 6, 2) := by decide +kernel
theorem dl_2223 : decode cL_law_ 2223 = .ok (.i2l, 1) := by decide +kernel
theorem dl_2224 : decode cL_law_ 2224 = .ok (.lcmp, 1) := by decide +kernel
theorem dl_2225 : decode cL_law_ 2225 = .ok (.ifCond .eq 5, 3) := by decide +kernel
theorem dl_2228 : decode cL_law_ 2228 = .ok (.iconst 0, 1) := by decide +kernel
theorem dl_2229 : decode cL_law_ 2229 = .ok (.ireturn, 1) := by decide +kernel
theorem cokl_2213 : COK cL_law_ k_L_law__2213 = true := COK.cons dl_2213 rfl (COK.cons dl_2215 rfl (COK.cons dl_2218 rfl (COK.cons dl_2219 rfl (COK.cons dl_2220 rfl (COK.cons dl_2221 rfl (COK.cons dl_2223 rfl (COK.cons dl_2224 rfl (COK.cons dl_2225 rfl (COK.cons dl_2228 rfl (COK.cons dl_2229 rfl (cokl_2230)))))))))))
theorem dl_2165 : decode cL_law_ 2165 = .ok (.aload_n 1, 1) := by decide +kernel
theorem dl_2166 : decode cL_law_ 2166 = .ok (.aload_n 0, 1) := by decide +kernel
theorem dl_2167 : decode cL_law_ 2167 = .ok (.iload 4, 2) := by decide +kernel
theorem dl_2169 : decode cL_law_ 2169 = .ok (.iconst 1, 1) := by decide +kernel
theorem dl_2170 : decode cL_law_ 2170 = .ok (.iadd, 1) := by decide +kernel
theorem dl_2171 : decode cL_law_ 2171 = .ok (.iaload, 1) := by decide +kernel
theorem dl_2172 : decode cL_law_ 2172 = .ok (.aload_n 0, 1) := by decide +kernel
theorem dl_2173 : decode cL_law_ 2173 = .ok (.iload 4, 2) := by decide +kernel
theorem dl_2175 : decode cL_law_ 2175 = .ok (.iconst 2, 1) := by decide +kernel
theorem dl_2176 : decode cL_law_ 2176 = .ok (.iadd, 1) := by decide +kernel
theorem dl_2177 : decode cL_law_ 2177 = .ok (.iaload, 1) := by decide +kernel
theorem dl_2178 : decode cL_law_ 2178 = .ok (.aload_n 3, 1) := by decide +kernel
theorem dl_2179 : decode cL_law_ 2179 = .ok (.invokestatic 239, 3) := by decide +kernel
theorem dl_2182 : decode cL_law_ 2182 = .ok (.istore 5, 2) := by decide +kernel
theorem dl_2184 : decode cL_law_ 2184 = .ok (.aload_n 2, 1) := by decide +kernel
theorem dl_2185 : decode cL_law_ 2185 = .ok (.aload_n 0, 1) := by decide +kernel
theorem dl_2186 : decode cL_law_ 2186 = .ok (.iload 4, 2) := by decide +kernel
theorem dl_2188 : decode cL_law_ 2188 = .ok (.iconst 1, 1) := by decide +kernel
theorem dl_2189 : decode cL_law_ 2189 = .ok (.iadd, 1) := by decide +kernel
theorem dl_2190 : decode cL_law_ 2190 = .ok (.iaload, 1) := by decide +kernel
theorem dl_2191 : decode cL_law_ 2191 = .ok (.aload_n 0, 1) := by decide +kernel
theorem dl_2192 : decode cL_law_ 2192 = .ok (.iload 4, 2) := by decide +kernel
theorem dl_2194 : decode cL_law_ 2194 = .ok (.iconst 2, 1) := by decide +kernel
theorem dl_2195 : decode cL_law_ 2195 = .ok (.iadd, 1) := by decide +kernel
theorem dl_2196 : decode cL_law_ 2196 = .ok (.iaload, 1) := by decide +kernel
theorem dl_2197 : decode cL_law_ 2197 = .ok (.invokevirtual 241, 3) := by decide +kernel
theorem dl_2200 : decode cL_law_ 2200 = .ok (.istore 6, 2) := by decide +kernel
theorem dl_2202 : decode cL_law_ 2202 = .ok (.aload_n 2, 1) := by decide +kernel
theorem dl_2203 : decode cL_law_ 2203 = .ok (.invokevirtual 139, 3) := by decide +kernel
theorem dl_2206 : decode cL_law_ 2206 = .ok (.iload 5, 2) := by decide +kernel
theorem dl_2208 : decode cL_law_ 2208 = .ok (.if_icmp .eq 5, 3) := by decide +kernel
theorem dl_2211 : decode cL_law_ 2211 = .ok (.iconst 0, 1) := by decide +kernel
theorem dl_2212 : decode cL_law_ 2212 = .ok (.ireturn, 1) := by decide +kernel
theorem cokl_2165 : COK cL_law_ k_L_law__2165 = true := COK.cons dl_2165 rfl (COK.cons dl_2166 rfl (COK.cons dl_2167 rfl (COK.cons dl_2169 rfl (COK.cons dl_2170 rfl (COK.cons dl_2171 rfl (COK.cons dl_2172 rfl (COK.cons dl_2173 rfl (COK.cons dl_2175 rfl (COK.cons dl_2176 rfl (COK.cons dl_2177 rfl (COK.cons dl_2178 rfl (COK.cons dl_2179 rfl (COK.cons dl_2182 rfl (COK.cons dl_2184 rfl (COK.cons dl_2185 rfl (COK.cons dl_2186 rfl (COK.cons dl_2188 rfl (COK.cons dl_2189 rfl (COK.cons dl_2190 rfl (COK.cons dl_2191 rfl (COK.cons dl_2192 rfl (COK.cons dl_2194 rfl (COK.cons dl_2195 rfl (COK.cons dl_2196 rfl (COK.cons dl_2197 rfl (COK.cons dl_2200 rfl (COK.cons dl_2202 rfl (COK.cons dl_2203 rfl (COK.cons dl_2206 rfl (COK.cons dl_2208 rfl (COK.cons dl_2211 rfl (COK.cons dl_2212 rfl (cokl_2213)))))))))))))))))))))))))))))))))
theorem dl_2162 : decode cL_law_ 2162 = .ok (.goto 512, 3) := by decide +kernel
theorem cokl_2162 : COK cL_law_ k_L_law__2162 = true := COK.cons dl_2162 rfl (cokl_2165)
theorem dl_2145 : decode cL_law_ 2145 = .ok (.iload 5, 2) := by decide +kernel
theorem dl_2147 : decode cL_law_ 2147 = .ok (.ifCond .ne 15, 3) := by decide +kernel
theorem dl_2150 : decode cL_law_ 2150 = .ok (.aload_n 3, 1) := by decide +kernel
theorem dl_2151 : decode cL_law_ 2151 = .ok (.iconst 0, 1) := by decide +kernel
theorem dl_2152 : decode cL_law_ 2152 = .ok (.laload, 1) := by decide +kernel
theorem dl_2153 : decode cL_law_ 2153 = .ok (.iload 6, 2) := by decide +kernel
theorem dl_2155 : decode cL_law_ 2155 = .ok (.i2l, 1) := by decide +kernel
theorem dl_2156 : decode cL_law_ 2156 = .ok (.lcmp, 1) := by decide +kernel
theorem dl_2157 : decode cL_law_ 2157 = .ok (.ifCond .eq 5, 3) := by decide +kernel
theorem dl_2160 : decode cL_law_ 2160 = .ok (.iconst 0, 1) := by decide +kernel
theorem dl_2161 : decode cL_law_ 2161 = .ok (.ireturn, 1) := by decide +kernel
theorem cokl_2145 : COK cL_law_ k_L_law__2145 = true := COK.cons dl_2145 rfl (COK.cons dl_2147 rfl (COK.cons dl_2150 rfl (COK.cons dl_2151 rfl (COK.cons dl_2152 rfl (COK.cons dl_2153 rfl (COK.cons dl_2155 rfl (COK.cons dl_2156 rfl (COK.cons dl_2157 rfl (COK.cons dl_2160 rfl (COK.cons dl_2161 rfl (cokl_2162)))))))))))
theorem dl_2097 : decode cL_law_ 2097 = .ok (.aload_n 1, 1) := by decide +kernel
theorem dl_2098 : decode cL_law_ 2098 = .ok (.aload_n 0, 1) := by decide +kernel
theorem dl_2099 : decode cL_law_ 2099 = .ok (.iload 4, 2) := by decide +kernel
theorem dl_2101 : decode cL_law_ 2101 = .ok (.iconst 1, 1) := by decide +kernel
theorem dl_2102 : decode cL_law_ 2102 = .ok (.iadd, 1) := by decide +kernel
theorem dl_2103 : decode cL_law_ 2103 = .ok (.iaload, 1) := by decide +kernel
theorem dl_2104 : decode cL_law_ 2104 = .ok (.aload_n 0, 1) := by decide +kernel
theorem dl_2105 : decode cL_law_ 2105 = .ok (.iload 4, 2) := by decide +kernel
theorem dl_2107 : decode cL_law_ 2107 = .ok (.iconst 2, 1) := by decide +kernel
theorem dl_2108 : decode cL_law_ 2108 = .ok (.iadd, 1) := by decide +kernel
theorem dl_2109 : decode cL_law_ 2109 = .ok (.iaload, 1) := by decide +kernel
theorem dl_2110 : decode cL_law_ 2110 = .ok (.aload_n 3, 1) := by decide +kernel
theorem dl_2111 : decode cL_law_ 2111 = .ok (.invokestatic 236, 3) := by decide +kernel
theorem dl_2114 : decode cL_law_ 2114 = .ok (.istore 5, 2) := by decide +kernel
theorem dl_2116 : decode cL_law_ 2116 = .ok (.aload_n 2, 1) := by decide +kernel
theorem dl_2117 : decode cL_law_ 2117 = .ok (.aload_n 0, 1) := by decide +kernel
theorem dl_2118 : decode cL_law_ 2118 = .ok (.iload 4, 2) := by decide +kernel
theorem dl_2120 : decode cL_law_ 2120 = .ok (.iconst 1, 1) := by decide +kernel
theorem dl_2121 : decode cL_law_ 2121 = .ok (.iadd, 1) := by decide +kernel
theorem dl_2122 : decode cL_law_ 2122 = .ok (.iaload, 1) := by decide +kernel
theorem dl_2123 : decode cL_law_ 2123 = .ok (.aload_n 0, 1) := by decide +kernel
theorem dl_2124 : decode cL_law_ 2124 = .ok (.iload 4, 2) := by decide +kernel
theorem dl_2126 : decode cL_law_ 2126 = .ok (.iconst 2, 1) := by decide +kernel
theorem dl_2127 : decode cL_law_ 2127 = .ok (.iadd, 1) := by decide +kernel
theorem dl_2128 : decode cL_law_ 2128 = .ok (.iaload, 1) := by decide +kernel
theorem dl_2129 : decode cL_law_ 2129 = .ok (.invokevirtual 238, 3) := by decide +kernel
theorem dl_2132 : decode cL_law_ 2132 = .ok (.istore 6, 2) := by decide +kernel
theorem dl_2134 : decode cL_law_ 2134 = .ok (.aload_n 2, 1) := by decide +kernel
theorem dl_2135 : decode cL_law_ 2135 = .ok (.invokevirtual 139, 3) := by decide +kernel
theorem dl_2138 : decode cL_law_ 2138 = .ok (.iload 5, 2) := by decide +kernel
theorem dl_2140 : decode cL_law_ 2140 = .ok (.if_icmp .eq 5, 3) := by decide +kernel
theorem dl_2143 : decode cL_law_ 2143 = .ok (.iconst 0, 1) := by decide +kernel
theorem dl_2144 : decode cL_law_ 2144 = .ok (.ireturn, 1) := by decide +kernel
theorem cokl_2097 : COK cL_law_ k_L_law__2097 = true := COK.cons dl_2097 rfl (COK.cons dl_2098 rfl (COK.cons dl_2099 rfl (COK.cons dl_2101 rfl (COK.cons dl_2102 rfl (COK.cons dl_2103 rfl (COK.cons dl_2104 rfl (COK.cons dl_2105 rfl (COK.cons dl_2107 rfl (COK.cons dl_2108 rfl (COK.cons dl_2109 rfl (COK.cons dl_2110 rfl (COK.cons dl_2111 rfl (COK.cons dl_2114 rfl (COK.cons dl_2116 rfl (COK.cons dl_2117 rfl (COK.cons dl_2118 rfl (COK.cons dl_2120 rfl (COK.cons dl_2121 rfl (COK.cons dl_2122 rfl (COK.cons dl_2123 rfl (COK.cons dl_2124 rfl (COK.cons dl_2126 rfl (COK.cons dl_2127 rfl (COK.cons dl_2128 rfl (COK.cons dl_2129 rfl (COK.cons dl_2132 rfl (COK.cons dl_2134 rfl (COK.cons dl_2135 rfl (COK.cons dl_2138 rfl (COK.cons dl_2140 rfl (COK.cons dl_2143 rfl (COK.cons dl_2144 rfl (cokl_2145)))))))))))))))))))))))))))))))))
theorem dl_2094 : decode cL_law_ 2094 = .ok (.goto 580, 3) := by decide +kernel
theorem cokl_2094 : COK cL_law_ k_L_law__2094 = true := COK.cons dl_2094 rfl (cokl_2097)
theorem dl_2077 : decode cL_law_ 2077 = .ok (.iload 5, 2) := by decide +kernel
theorem dl_2079 : decode cL_law_ 2079 = .ok (.ifCond .ne 15, 3) := by decide +kernel
theorem dl_2082 : decode cL_law_ 2082 = .ok (.aload_n 3, 1) := by decide +kernel
theorem dl_2083 : decode cL_law_ 2083 = .ok (.iconst 0, 1) := by decide +kernel
theorem dl_2084 : decode cL_law_ 2084 = .ok (.laload, 1) := by decide +kernel
theorem dl_2085 : decode cL_law_ 2085 = .ok (.iload 6, 2) := by decide +kernel
theorem dl_2087 : decode cL_law_ 2087 = .ok (.i2l, 1) := by decide +kernel
theorem dl_2088 : decode cL_law_ 2088 = .ok (.lcmp, 1) := by decide +kernel
theorem dl_2089 : decode cL_law_ 2089 = .ok (.ifCond .eq 5, 3) := by decide +kernel
theorem dl_2092 : decode cL_law_ 2092 = .ok (.iconst 0, 1) := by decide +kernel
theorem dl_2093 : decode cL_law_ 2093 = .ok (.ireturn, 1) := by decide +kernel
theorem cokl_2077 : COK cL_law_ k_L_law__2077 = true := COK.cons dl_2077 rfl (COK.cons dl_2079 rfl (COK.cons dl_2082 rfl (COK.cons dl_2083 rfl (COK.cons dl_2084 rfl (COK.cons dl_2085 rfl (COK.cons dl_2087 rfl (COK.cons dl_2088 rfl (COK.cons dl_2089 rfl (COK.cons dl_2092 rfl (COK.cons dl_2093 rfl (cokl_2094)))))))))))
theorem dl_2029 : decode cL_law_ 2029 = .ok (.aload_n 1, 1) := by decide +kernel
theorem dl_2030 : decode cL_law_ 2030 = .ok (.aload_n 0, 1) := by decide +kernel
theorem dl_2031 : decode cL_law_ 2031 = .ok (.iload 4, 2) := by decide +kernel
theorem dl_2033 : decode cL_law_ 2033 = .ok (.iconst 1, 1) := by decide +kernel
theorem dl_2034 : decode cL_law_ 2034 = .ok (.iadd, 1) := by decide +kernel
theorem dl_2035 : decode cL_law_ 2035 = .ok (.iaload, 1) := by decide +kernel
theorem dl_2036 : decode cL_law_ 2036 = .ok (.aload_n 0, 1) := by decide +kernel
theorem dl_2037 : decode cL_law_ 2037 = .ok (.iload 4, 2) := by decide +kernel
theorem dl_2039 : decode cL_law_ 2039 = .ok (.iconst 2, 1) := by decide +kernel
theorem dl_2040 : decode cL_law_ 2040 = .ok (.iadd, 1) := by decide +kernel
theorem dl_2041 : decode cL_law_ 2041 = .ok (.iaload, 1) := by decide +kernel
theorem dl_2042 : decode cL_law_ 2042 = .ok (.aload_n 3, 1) := by decide +kernel
theorem dl_2043 : decode cL_law_ 2043 = .ok (.invokestatic 233, 3) := by decide +kernel
theorem dl_2046 : decode cL_law_ 2046 = .ok (.istore 5, 2) := by decide +kernel
theorem dl_2048 : decode cL_law_ 2048 = .ok (.aload_n 2, 1) := by decide +kernel
theorem dl_2049 : decode cL_law_ 2049 = .ok (.aload_n 0, 1) := by decide +kernel
theorem dl_2050 : decode cL_law_ 2050 = .ok (.iload 4, 2) := by decide +kernel
theorem dl_2052 : decode cL_law_ 2052 = .ok (.iconst 1, 1) := by decide +kernel
theorem dl_2053 : decode cL_law_ 2053 = .ok (.iadd, 1) := by decide +kernel
theorem dl_2054 : decode cL_law_ 2054 = .ok (.iaload, 1) := by decide +kernel
theorem dl_2055 : decode cL_law_ 2055 = .ok (.aload_n 0, 1) := by decide +kernel
theorem dl_2056 : decode cL_law_ 2056 = .ok (.iload 4, 2) := by decide +kernel
theorem dl_2058 : decode cL_law_ 2058 = .ok (.iconst 2, 1) := by decide +kernel
theorem dl_2059 : decode cL_law_ 2059 = .ok (.iadd, 1) := by decide +kernel
theorem dl_2060 : decode cL_law_ 2060 = .ok (.iaload, 1) := by decide +kernel
theorem dl_2061 : decode cL_law_ 2061 = .ok (.invokevirtual 235, 3) := by decide +kernel
theorem dl_2064 : decode cL_law_ 2064 = .ok (.istore 6, 2) := by decide +kernel
theorem dl_2066 : decode cL_law_ 2066 = .ok (.aload_n 2, 1) := by decide +kernel
theorem dl_2067 : decode cL_law_ 2067 = .ok (.invokevirtual 139, 3) := by decide +kernel
theorem dl_2070 : decode cL_law_ 2070 = .ok (.iload 5, 2) := by decide +kernel
theorem dl_2072 : decode cL_law_ 2072 = .ok (.if_icmp .eq 5, 3) := by decide +kernel
theorem dl_2075 : decode cL_law_ 2075 = .ok (.iconst 0, 1) := by decide +kernel
theorem dl_2076 : decode cL_law_ 2076 = .ok (.ireturn, 1) := by decide +kernel
theorem cokl_2029 : COK cL_law_ k_L_law__2029 = true := COK.cons dl_2029 rfl (COK.cons dl_2030 rfl (COK.cons dl_2031 rfl (COK.cons dl_2033 rfl (COK.cons dl_2034 rfl (COK.cons dl_2035 rfl (COK.cons dl_2036 rfl (COK.cons dl_2037 rfl (COK.cons dl_2039 rfl (COK.cons dl_2040 rfl (COK.cons dl_2041 rfl (COK.cons dl_2042 rfl (COK.cons dl_2043 rfl (COK.cons dl_2046 rfl (COK.cons dl_2048 rfl (COK.cons dl_2049 rfl (COK.cons dl_2050 rfl (COK.cons dl_2052 rfl (COK.cons dl_2053 rfl (COK.cons dl_2054 rfl (COK.cons dl_2055 rfl (COK.cons dl_2056 rfl (COK.cons dl_2058 rfl (COK.cons dl_2059 rfl (COK.cons dl_2060 rfl (COK.cons dl_2061 rfl (COK.cons dl_2064 rfl (COK.cons dl_2066 rfl (COK.cons dl_2067 rfl (COK.cons dl_2070 rfl (COK.cons dl_2072 rfl (COK.cons dl_2075 rfl (COK.cons dl_2076 rfl (cokl_2077)))))))))))))))))))))))))))))))))
theorem dl_2026 : decode cL_law_ 2026 = .ok (.goto 648, 3) := by decide +kernel
theorem cokl_2026 : COK cL_law_ k_L_law__2026 = true := COK.cons dl_2026 rfl (cokl_2029)
theorem dl_2009 : decode cL_law_ 2009 = .ok (.iload 5, 2) := by decide +kernel
theorem dl_2011 : decode cL_law_ 2011 = .ok (.ifCond .ne 15, 3) := by decide +kernel
theorem dl_2014 : decode cL_law_ 2014 = .ok (.aload_n 3, 1) := by decide +kernel
theorem dl_2015 : decode cL_law_ 2015 = .ok (.iconst 0, 1) := by decide +kernel
theorem dl_2016 : decode cL_law_ 2016 = .ok (.laload, 1) := by decide +kernel
theorem dl_2017 : decode cL_law_ 2017 = .ok (.iload 6, 2) := by decide +kernel
theorem dl_2019 : decode cL_law_ 2019 = .ok (.i2l, 1) := by decide +kernel
theorem dl_2020 : decode cL_law_ 2020 = .ok (.lcmp, 1) := by decide +kernel
theorem dl_2021 : decode cL_law_ 2021 = .ok (.ifCond .eq 5, 3) := by decide +kernel
theorem dl_2024 : decode cL_law_ 2024 = .ok (.iconst 0, 1) := by decide +kernel
theorem dl_2025 : decode cL_law_ 2025 = .ok (.ireturn, 1) := by decide +kernel
theorem cokl_2009 : COK cL_law_ k_L_law__2009 = true := COK.cons dl_2009 rfl (COK.cons dl_2011 rfl (COK.cons dl_2014 rfl (COK.cons dl_2015 rfl (COK.cons dl_2016 rfl (COK.cons dl_2017 rfl (COK.cons dl_2019 rfl (COK.cons dl_2020 rfl (COK.cons dl_2021 rfl (COK.cons dl_2024 rfl (COK.cons dl_2025 rfl (cokl_2026)))))))))))
theorem dl_1973 : decode cL_law_ 1973 = .ok (.aload_n 1, 1) := by decide +kernel
theorem dl_1974 : decode cL_law_ 1974 = .ok (.aload_n 0, 1) := by decide +kernel
theorem dl_1975 : decode cL_law_ 1975 = .ok (.iload 4, 2) := by decide +kernel
theorem dl_1977 : decode cL_law_ 1977 = .ok (.iconst 1, 1) := by decide +kernel
theorem dl_1978 : decode cL_law_ 1978 = .ok (.iadd, 1) := by decide +kernel
theorem dl_1979 : decode cL_law_ 1979 = .ok (.iaload, 1) := by decide +kernel
theorem dl_1980 : decode cL_law_ 1980 = .ok (.aload_n 3, 1) := by decide +kernel
theorem dl_1981 : decode cL_law_ 1981 = .ok (.invokestatic 230, 3) := by decide +kernel
theorem dl_1984 : decode cL_law_ 1984 = .ok (.istore 5, 2) := by decide +kernel
theorem dl_1986 : decode cL_law_ 1986 = .ok (.aload_n 2, 1) := by decide +kernel
theorem dl_1987 : decode cL_law_ 1987 = .ok (.aload_n 0, 1) := by decide +kernel
theorem dl_1988 : decode cL_law_ 1988 = .ok (.iload 4, 2) := by decide +kernel
theorem dl_1990 : decode cL_law_ 1990 = .ok (.iconst 1, 1) := by decide +kernel
theorem dl_1991 : decode cL_law_ 1991 = .ok (.iadd, 1) := by decide +kernel
theorem dl_1992 : decode cL_law_ 1992 = .ok (.iaload, 1) := by decide +kernel
theorem dl_1993 : decode cL_law_ 1993 = .ok (.invokevirtual 232, 3) := by decide +kernel
theorem dl_1996 : decode cL_law_ 1996 = .ok (.istore 6, 2) := by decide +kernel
theorem dl_1998 : decode cL_law_ 1998 = .ok (.aload_n 2, 1) := by decide +kernel
theorem dl_1999 : decode cL_law_ 1999 = .ok (.invokevirtual 139, 3) := by decide +kernel
theorem dl_2002 : decode cL_law_ 2002 = .ok (.iload 5, 2) := by decide +kernel
theorem dl_2004 : decode cL_law_ 2004 = .ok (.if_icmp .eq 5, 3) := by decide +kernel
theorem dl_2007 : decode cL_law_ 2007 = .ok (.iconst 0, 1) := by decide +kernel
theorem dl_2008 : decode cL_law_ 2008 = .ok (.ireturn, 1) := by decide +kernel
theorem cokl_1973 : COK cL_law_ k_L_law__1973 = true := COK.cons dl_1973 rfl (COK.cons dl_1974 rfl (COK.cons dl_1975 rfl (COK.cons dl_1977 rfl (COK.cons dl_1978 rfl (COK.cons dl_1979 rfl (COK.cons dl_1980 rfl (COK.cons dl_1981 rfl (COK.cons dl_1984 rfl (COK.cons dl_1986 rfl (COK.cons dl_1987 rfl (COK.cons dl_1988 rfl (COK.cons dl_1990 rfl (COK.cons dl_1991 rfl (COK.cons dl_1992 rfl (COK.cons dl_1993 rfl (COK.cons dl_1996 rfl (COK.cons dl_1998 rfl (COK.cons dl_1999 rfl (COK.cons dl_2002 rfl (COK.cons dl_2004 rfl (COK.cons dl_2007 rfl (COK.cons dl_2008 rfl (cokl_2009)))))))))))))))))))))))
theorem dl_1960 : decode cL_law_ 1960 = .ok (.aload_n 1, 1) := by decide +kernel
theorem dl_1961 : decode cL_law_ 1961 = .ok (.invokevirtual 226, 3) := by decide +kernel
theorem dl_1964 : decode cL_law_ 1964 = .ok (.aload_n 2, 1) := by decide +kernel
theorem dl_1965 : decode cL_law_ 1965 = .ok (.invokevirtual 229, 3) := by decide +kernel
theorem dl_1968 : decode cL_law_ 1968 = .ok (.if_icmp .eq 706, 3) := by decide +kernel
theorem dl_1971 : decode cL_law_ 1971 = .ok (.iconst 0, 1) := by decide +kernel
theorem dl_1972 : decode cL_law_ 1972 = .ok (.ireturn, 1) := by decide +kernel
theorem cokl_1960 : COK cL_law_ k_L_law__1960 = true := COK.cons dl_1960 rfl (COK.cons dl_1961 rfl (COK.cons dl_1964 rfl (COK.cons dl_1965 rfl (COK.cons dl_1968 rfl (COK.cons dl_1971 rfl (COK.cons dl_1972 rfl (cokl_1973)))))))
theorem dl_1957 : decode cL_law_ 1957 = .ok (.goto 717, 3) := by decide +kernel
theorem cokl_1957 : COK cL_law_ k_L_law__1957 = true := COK.cons dl_1957 rfl (cokl_1960)
theorem dl_1940 : decode cL_law_ 1940 = .ok (.iload 5, 2) := by decide +kernel
theorem dl_1942 : decode cL_law_ 1942 = .ok (.ifCond .ne 15, 3) := by decide +kernel
theorem dl_1945 : decode cL_law_ 1945 = .ok (.aload_n 3, 1) := by decide +kernel
theorem dl_1946 : decode cL_law_ 1946 = .ok (.iconst 0, 1) := by decide +kernel
theorem dl_1947 : decode cL_law_ 1947 = .ok (.laload, 1) := by decide +kernel
theorem dl_1948 : decode cL_law_ 1948 = .ok (.iload 6, 2) := by decide +kernel
theorem dl_1950 : decode cL_law_ 1950 = .ok (.i2l, 1) := by decide +kernel
theorem dl_1951 : decode cL_law_ 1951 = .ok (.lcmp, 1) := by decide +kernel
theorem dl_1952 : decode cL_law_ 1952 = .ok (.ifCond .eq 5, 3) := by decide +kernel
theorem dl_1955 : decode cL_law_ 1955 = .ok (.iconst 0, 1) := by decide +kernel
theorem dl_1956 : decode cL_law_ 1956 = .ok (.ireturn, 1) := by decide +kernel
theorem cokl_1940 : COK cL_law_ k_L_law__1940 = true := COK.cons dl_1940 rfl (COK.cons dl_1942 rfl (COK.cons dl_1945 rfl (COK.cons dl_1946 rfl (COK.cons dl_1947 rfl (COK.cons dl_1948 rfl (COK.cons dl_1950 rfl (COK.cons dl_1951 rfl (COK.cons dl_1952 rfl (COK.cons dl_1955 rfl (COK.cons dl_1956 rfl (cokl_1957)))))))))))
theorem dl_1892 : decode cL_law_ 1892 = .ok (.aload_n 1, 1) := by decide +kernel
theorem dl_1893 : decode cL_law_ 1893 = .ok (.aload_n 0, 1) := by decide +kernel
theorem dl_1894 : decode cL_law_ 1894 = .ok (.iload 4, 2) := by decide +kernel
theorem dl_1896 : decode cL_law_ 1896 = .ok (.iconst 1, 1) := by decide +kernel
theorem dl_1897 : decode cL_law_ 1897 = .ok (.iadd, 1) := by decide +kernel
theorem dl_1898 : decode cL_law_ 1898 = .ok (.iaload, 1) := by decide +kernel
theorem dl_1899 : decode cL_law_ 1899 = .ok (.aload_n 0, 1) := by decide +kernel
theorem dl_1900 : decode cL_law_ 1900 = .ok (.iload 4, 2) := by decide +kernel
theorem dl_1902 : decode cL_law_ 1902 = .ok (.iconst 2, 1) := by decide +kernel
theorem dl_1903 : decode cL_law_ 1903 = .ok (.iadd, 1) := by decide +kernel
theorem dl_1904 : decode cL_law_ 1904 = .ok (.iaload, 1) := by decide +kernel
theorem dl_1905 : decode cL_law_ 1905 = .ok (.aload_n 3, 1) := by decide +kernel
theorem dl_1906 : decode cL_law_ 1906 = .ok (.invokestatic 223, 3) := by decide +kernel
theorem dl_1909 : decode cL_law_ 1909 = .ok (.istore 5, 2) := by decide +kernel
theorem dl_1911 : decode cL_law_ 1911 = .ok (.aload_n 2, 1) := by decide +kernel
theorem dl_1912 : decode cL_law_ 1912 = .ok (.aload_n 0, 1) := by decide +kernel
theorem dl_1913 : decode cL_law_ 1913 = .ok (.iload 4, 2) := by decide +kernel
theorem dl_1915 : decode cL_law_ 1915 = .ok (.iconst 1, 1) := by decide +kernel
theorem dl_1916 : decode cL_law_ 1916 = .ok (.iadd, 1) := by decide +kernel
theorem dl_1917 : decode cL_law_ 1917 = .ok (.iaload, 1) := by decide +kernel
theorem dl_1918 : decode cL_law_ 1918 = .ok (.aload_n 0, 1) := by decide +kernel
theorem dl_1919 : decode cL_law_ 1919 = .ok (.iload 4, 2) := by decide +kernel
theorem dl_1921 : decode cL_law_ 1921 = .ok (.iconst 2, 1) := by decide +kernel
theorem dl_1922 : decode cL_law_ 1922 = .ok (.iadd, 1) := by decide +kernel
theorem dl_1923 : decode cL_law_ 1923 = .ok (.iaload, 1) := by decide +kernel
theorem dl_1924 : decode cL_law_ 1924 = .ok (.invokevirtual 225, 3) := by decide +kernel
theorem dl_1927 : decode cL_law_ 1927 = .ok (.istore 6, 2) := by decide +kernel
theorem dl_1929 : decode cL_law_ 1929 = .ok (.aload_n 2, 1) := by decide +kernel
theorem dl_1930 : decode cL_law_ 1930 = .ok (.invokevirtual 139, 3) := by decide +kernel
theorem dl_1933 : decode cL_law_ 1933 = .ok (.iload 5, 2) := by decide +kernel
theorem dl_1935 : decode cL_law_ 1935 = .ok (.if_icmp .eq 5, 3) := by decide +kernel
theorem dl_1938 : decode cL_law_ 1938 = .ok (.iconst 0, 1) := by decide +kernel
theorem dl_1939 : decode cL_law_ 1939 = .ok (.ireturn, 1) := by decide +kernel
theorem cokl_1892 : COK cL_law_ k_L_law__1892 = true := COK.cons dl_1892 rfl (COK.cons dl_1893 rfl (COK.cons dl_1894 rfl (COK.cons dl_1896 rfl (COK.cons dl_1897 rfl (COK.cons dl_1898 rfl (COK.cons dl_1899 rfl (COK.cons dl_1900 rfl (COK.cons dl_1902 rfl (COK.cons dl_1903 rfl (COK.cons dl_1904 rfl (COK.cons dl_1905 rfl (COK.cons dl_1906 rfl (COK.cons dl_1909 rfl (COK.cons dl_1911 rfl (COK.cons dl_1912 rfl (COK.cons dl_1913 rfl (COK.cons dl_1915 rfl (COK.cons dl_1916 rfl (COK.cons dl_1917 rfl (COK.cons dl_1918 rfl (COK.cons dl_1919 rfl (COK.cons dl_1921 rfl (COK.cons dl_1922 rfl (COK.cons dl_1923 rfl (COK.cons dl_1924 rfl (COK.cons dl_1927 rfl (COK.cons dl_1929 rfl (COK.cons dl_1930 rfl (COK.cons dl_1933 rfl (COK.cons dl_1935 rfl (COK.cons dl_1938 rfl (COK.cons dl_1939 rfl (cokl_1940)))))))))))))))))))))))))))))))))
theorem dl_1889 : decode cL_law_ 1889 = .ok (.goto 785, 3) := by decide +kernel
theorem cokl_1889 : COK cL_law_ k_L_law__1889 = true := COK.cons dl_1889 rfl (cokl_1892)
theorem dl_1872 : decode cL_law_ 1872 = .ok (.iload 5, 2) := by decide +kernel
theorem dl_1874 : decode cL_law_ 1874 = .ok (.ifCond .ne 15, 3) := by decide +kernel
theorem dl_1877 : decode cL_law_ 1877 = .ok (.aload_n 3, 1) := by decide +kernel
theorem dl_1878 : decode cL_law_ 1878 = .ok (.iconst 0, 1) := by decide +kernel
theorem dl_1879 : decode cL_law_ 1879 = .ok (.laload, 1) := by decide +kernel
theorem dl_1880 : decode cL_law_ 1880 = .ok (.iload 6, 2) := by decide +kernel
theorem dl_1882 : decode cL_law_ 1882 = .ok (.i2l, 1) := by decide +kernel
theorem dl_1883 : decode cL_law_ 1883 = .ok (.lcmp, 1) := by decide +kernel
theorem dl_1884 : decode cL_law_ 1884 = .ok (.ifCond .eq 5, 3) := by decide +kernel
theorem dl_1887 : decode cL_law_ 1887 = .ok (.iconst 0, 1) := by decide +kernel
theorem dl_1888 : decode cL_law_ 1888 = .ok (.ireturn, 1) := by decide +kernel
theorem cokl_1872 : COK cL_law_ k_L_law__1872 = true := COK.cons dl_1872 rfl (COK.cons dl_1874 rfl (COK.cons dl_1877 rfl (COK.cons dl_1878 rfl (COK.cons dl_1879 rfl (COK.cons dl_1880 rfl (COK.cons dl_1882 rfl (COK.cons dl_1883 rfl (COK.cons dl_1884 rfl (COK.cons dl_1887 rfl (COK.cons dl_1888 rfl (cokl_1889)))))))))))
theorem dl_1856 : decode cL_law_ 1856 = .ok (.invokevirtual 222, 3) := by decide +kernel
theorem dl_1859 : decode cL_law_ 1859 = .ok (.istore 6, 2) := by decide +kernel
theorem dl_1861 : decode cL_law_ 1861 = .ok (.aload_n 2, 1) := by decide +kernel
theorem dl_1862 : decode cL_law_ 1862 = .ok (.invokevirtual 139, 3) := by decide +kernel
theorem dl_1865 : decode cL_law_ 1865 = .ok (.iload 5, 2) := by decide +kernel
theorem dl_1867 : decode cL_law_ 1867 = .ok (.if_icmp .eq 5, 3) := by decide +kernel
theorem dl_1870 : decode cL_law_ 1870 = .ok (.iconst 0, 1) := by decide +kernel
theorem dl_1871 : decode cL_law_ 1871 = .ok (.ireturn, 1) := by decide +kernel
theorem cokl_1856 : COK cL_law_ k_L_law__1856 = true := COK.cons dl_1856 rfl (COK.cons dl_1859 rfl (COK.cons dl_1861 rfl (COK.cons dl_1862 rfl (COK.cons dl_1865 rfl (COK.cons dl_1867 rfl (COK.cons dl_1870 rfl (COK.cons dl_1871 rfl (cokl_1872))))))))
theorem dl_1855 : decode cL_law_ 1855 = .ok (.iconst 0, 1) := by decide +kernel
theorem cokl_1855 : COK cL_law_ k_L_law__1855 = true := COK.cons dl_1855 rfl (cokl_1856)
theorem dl_1817 : decode cL_law_ 1817 = .ok (.aload_n 3, 1) := by decide +kernel
theorem dl_1818 : decode cL_law_ 1818 = .ok (.invokestatic 219, 3) := by decide +kernel
theorem dl_1821 : decode cL_law_ 1821 = .ok (.istore 5, 2) := by decide +kernel
theorem dl_1823 : decode cL_law_ 1823 = .ok (.aload_n 2, 1) := by decide +kernel
theorem dl_1824 : decode cL_law_ 1824 = .ok (.aload_n 0, 1) := by decide +kernel
theorem dl_1825 : decode cL_law_ 1825 = .ok (.iload 4, 2) := by decide +kernel
theorem dl_1827 : decode cL_law_ 1827 = .ok (.iconst 1, 1) := by decide +kernel
theorem dl_1828 : decode cL_law_ 1828 = .ok (.iadd, 1) := by decide +kernel
theorem dl_1829 : decode cL_law_ 1829 = .ok (.iaload, 1) := by decide +kernel
theorem dl_1830 : decode cL_law_ 1830 = .ok (.aload_n 0, 1) := by decide +kernel
theorem dl_1831 : decode cL_law_ 1831 = .ok (.iload 4, 2) := by decide +kernel
theorem dl_1833 : decode cL_law_ 1833 = .ok (.iconst 2, 1) := by decide +kernel
theorem dl_1834 : decode cL_law_ 1834 = .ok (.iadd, 1) := by decide +kernel
theorem dl_1835 : decode cL_law_ 1835 = .ok (.iaload, 1) := by decide +kernel
theorem dl_1836 : decode cL_law_ 1836 = .ok (.aload_n 0, 1) := by decide +kernel
theorem dl_1837 : decode cL_law_ 1837 = .ok (.iload 4, 2) := by decide +kernel
theorem dl_1839 : decode cL_law_ 1839 = .ok (.iconst 3, 1) := by decide +kernel
theorem dl_1840 : decode cL_law_ 1840 = .ok (.iadd, 1) := by decide +kernel
theorem dl_1841 : decode cL_law_ 1841 = .ok (.iaload, 1) := by decide +kernel
theorem dl_1842 : decode cL_law_ 1842 = .ok (.aload_n 0, 1) := by decide +kernel
theorem dl_1843 : decode cL_law_ 1843 = .ok (.iload 4, 2) := by decide +kernel
theorem dl_1845 : decode cL_law_ 1845 = .ok (.iconst 4, 1) := by decide +kernel
theorem dl_1846 : decode cL_law_ 1846 = .ok (.iadd, 1) := by decide +kernel
theorem dl_1847 : decode cL_law_ 1847 = .ok (.iaload, 1) := by decide +kernel
theorem dl_1848 : decode cL_law_ 1848 = .ok (.ifCond .eq 7, 3) := by decide +kernel
theorem dl_1851 : decode cL_law_ 1851 = .ok (.iconst 1, 1) := by decide +kernel
theorem dl_1852 : decode cL_law_ 1852 = .ok (.goto 4, 3) := by decide +kernel
theorem cokl_1817 : COK cL_law_ k_L_law__1817 = true := COK.cons dl_1817 rfl (COK.cons dl_1818 rfl (COK.cons dl_1821 rfl (COK.cons dl_1823 rfl (COK.cons dl_1824 rfl (COK.cons dl_1825 rfl (COK.cons dl_1827 rfl (COK.cons dl_1828 rfl (COK.cons dl_1829 rfl (COK.cons dl_1830 rfl (COK.cons dl_1831 rfl (COK.cons dl_1833 rfl (COK.cons dl_1834 rfl (COK.cons dl_1835 rfl (COK.cons dl_1836 rfl (COK.cons dl_1837 rfl (COK.cons dl_1839 rfl (COK.cons dl_1840 rfl (COK.cons dl_1841 rfl (COK.cons dl_1842 rfl (COK.cons dl_1843 rfl (COK.cons dl_1845 rfl (COK.cons dl_1846 rfl (COK.cons dl_1847 rfl (COK.cons dl_1848 rfl (COK.cons dl_1851 rfl (COK.cons dl_1852 rfl (cokl_1855)))))))))))))))))))))))))))
theorem dl_1816 : decode cL_law_ 1816 = .ok (.iconst 0, 1) := by decide +kernel
theorem cokl_1816 : COK cL_law_ k_L_law__1816 = true := COK.cons dl_1816 rfl (cokl_1817)
theorem dl_1784 : decode cL_law_ 1784 = .ok (.aload_n 1, 1) := by decide +kernel
theorem dl_1785 : decode cL_law_ 1785 = .ok (.aload_n 0, 1) := by decide +kernel
theorem dl_1786 : decode cL_law_ 1786 = .ok (.iload 4, 2) := by decide +kernel
theorem dl_1788 : decode cL_law_ 1788 = .ok (.iconst 1, 1) := by decide +kernel
theorem dl_1789 : decode cL_law_ 1789 = .ok (.iadd, 1) := by decide +kernel
theorem dl_1790 : decode cL_law_ 1790 = .ok (.iaload, 1) := by decide +kernel
theorem dl_1791 : decode cL_law_ 1791 = .ok (.aload_n 0, 1) := by decide +kernel
theorem dl_1792 : decode cL_law_ 1792 = .ok (.iload 4, 2) := by decide +kernel
theorem dl_1794 : decode cL_law_ 1794 = .ok (.iconst 2, 1) := by decide +kernel
theorem dl_1795 : decode cL_law_ 1795 = .ok (.iadd, 1) := by decide +kernel
theorem dl_1796 : decode cL_law_ 1796 = .ok (.iaload, 1) := by decide +kernel
theorem dl_1797 : decode cL_law_ 1797 = .ok (.aload_n 0, 1) := by decide +kernel
theorem dl_1798 : decode cL_law_ 1798 = .ok (.iload 4, 2) := by decide +kernel
theorem dl_1800 : decode cL_law_ 1800 = .ok (.iconst 3, 1) := by decide +kernel
theorem dl_1801 : decode cL_law_ 1801 = .ok (.iadd, 1) := by decide +kernel
theorem dl_1802 : decode cL_law_ 1802 = .ok (.iaload, 1) := by decide +kernel
theorem dl_1803 : decode cL_law_ 1803 = .ok (.aload_n 0, 1) := by decide +kernel
theorem dl_1804 : decode cL_law_ 1804 = .ok (.iload 4, 2) := by decide +kernel
theorem dl_1806 : decode cL_law_ 1806 = .ok (.iconst 4, 1) := by decide +kernel
theorem dl_1807 : decode cL_law_ 1807 = .ok (.iadd, 1) := by decide +kernel
theorem dl_1808 : decode cL_law_ 1808 = .ok (.iaload, 1) := by decide +kernel
theorem dl_1809 : decode cL_law_ 1809 = .ok (.ifCond .eq 7, 3) := by decide +kernel
theorem dl_1812 : decode cL_law_ 1812 = .ok (.iconst 1, 1) := by decide +kernel
theorem dl_1813 : decode cL_law_ 1813 = .ok (.goto 4, 3) := by decide +kernel
theorem cokl_1784 : COK cL_law_ k_L_law__1784 = true := COK.cons dl_1784 rfl (COK.cons dl_1785 rfl (COK.cons dl_1786 rfl (COK.cons dl_1788 rfl (COK.cons dl_1789 rfl (COK.cons dl_1790 rfl (COK.cons dl_1791 rfl (COK.cons dl_1792 rfl (COK.cons dl_1794 rfl (COK.cons dl_1795 rfl (COK.cons dl_1796 rfl (COK.cons dl_1797 rfl (COK.cons dl_1798 rfl (COK.cons dl_1800 rfl (COK.cons dl_1801 rfl (COK.cons dl_1802 rfl (COK.cons dl_1803 rfl (COK.cons dl_1804 rfl (COK.cons dl_1806 rfl (COK.cons dl_1807 rfl (COK.cons dl_1808 rfl (COK.cons dl_1809 rfl (COK.cons dl_1812 rfl (COK.cons dl_1813 rfl (cokl_1816))))))))))))))))))))))))
theorem dl_1781 : decode cL_law_ 1781 = .ok (.goto 893, 3) := by decide +kernel
theorem cokl_1781 : COK cL_law_ k_L_law__1781 = true := COK.cons dl_1781 rfl (cokl_1784)
theorem dl_1764 : decode cL_law_ 1764 = .ok (.iload 5, 2) := by decide +kernel
theorem dl_1766 : decode cL_law_ 1766 = .ok (.ifCond .ne 15, 3) := by decide +kernel
theorem dl_1769 : decode cL_law_ 1769 = .ok (.aload_n 3, 1) := by decide +kernel
theorem dl_1770 : decode cL_law_ 1770 = .ok (.iconst 0, 1) := by decide +kernel
theorem dl_1771 : decode cL_law_ 1771 = .ok (.laload, 1) := by decide +kernel
theorem dl_1772 : decode cL_law_ 1772 = .ok (.iload 6, 2) := by decide +kernel
theorem dl_1774 : decode cL_law_ 1774 = .ok (.i2l, 1) := by decide +kernel
theorem dl_1775 : decode cL_law_ 1775 = .ok (.lcmp, 1) := by decide +kernel
theorem dl_1776 : decode cL_law_ 1776 = .ok (.ifCond .eq 5, 3) := by decide +kernel
theorem dl_1779 : decode cL_law_ 1779 = .ok (.iconst 0, 1) := by decide +kernel
theorem dl_1780 : decode cL_law_ 1780 = .ok (.ireturn, 1) := by decide +kernel
theorem cokl_1764 : COK cL_law_ k_L_law__1764 = true := COK.cons dl_1764 rfl (COK.cons dl_1766 rfl (COK.cons dl_1769 rfl (COK.cons dl_1770 rfl (COK.cons dl_1771 rfl (COK.cons dl_1772 rfl (COK.cons dl_1774 rfl (COK.cons dl_1775 rfl (COK.cons dl_1776 rfl (COK.cons dl_1779 rfl (COK.cons dl_1780 rfl (cokl_1781)))))))))))
theorem dl_1728 : decode cL_law_ 1728 = .ok (.aload_n 1, 1) := by decide +kernel
theorem dl_1729 : decode cL_law_ 1729 = .ok (.aload_n 0, 1) := by decide +kernel
theorem dl_1730 : decode cL_law_ 1730 = .ok (.iload 4, 2) := by decide +kernel
theorem dl_1732 : decode cL_law_ 1732 = .ok (.iconst 1, 1) := by decide +kernel
theorem dl_1733 : decode cL_law_ 1733 = .ok (.iadd, 1) := by decide +kernel
theorem dl_1734 : decode cL_law_ 1734 = .ok (.iaload, 1) := by decide +kernel
theorem dl_1735 : decode cL_law_ 1735 = .ok (.aload_n 3, 1) := by decide +kernel
theorem dl_1736 : decode cL_law_ 1736 = .ok (.invokestatic 216, 3) := by decide +kernel
theorem dl_1739 : decode cL_law_ 1739 = .ok (.istore 5, 2) := by decide +kernel
theorem dl_1741 : decode cL_law_ 1741 = .ok (.aload_n 2, 1) := by decide +kernel
theorem dl_1742 : decode cL_law_ 1742 = .ok (.aload_n 0, 1) := by decide +kernel
theorem dl_1743 : decode cL_law_ 1743 = .ok (.iload 4, 2) := by decide +kernel
theorem dl_1745 : decode cL_law_ 1745 = .ok (.iconst 1, 1) := by decide +kernel
theorem dl_1746 : decode cL_law_ 1746 = .ok (.iadd, 1) := by decide +kernel
theorem dl_1747 : decode cL_law_ 1747 = .ok (.iaload, 1) := by decide +kernel
theorem dl_1748 : decode cL_law_ 1748 = .ok (.invokevirtual 218, 3) := by decide +kernel
theorem dl_1751 : decode cL_law_ 1751 = .ok (.istore 6, 2) := by decide +kernel
theorem dl_1753 : decode cL_law_ 1753 = .ok (.aload_n 2, 1) := by decide +kernel
theorem dl_1754 : decode cL_law_ 1754 = .ok (.invokevirtual 139, 3) := by decide +kernel
theorem dl_1757 : decode cL_law_ 1757 = .ok (.iload 5, 2) := by decide +kernel
theorem dl_1759 : decode cL_law_ 1759 = .ok (.if_icmp .eq 5, 3) := by decide +kernel
theorem dl_1762 : decode cL_law_ 1762 = .ok (.iconst 0, 1) := by decide +kernel
theorem dl_1763 : decode cL_law_ 1763 = .ok (.ireturn, 1) := by decide +kernel
theorem cokl_1728 : COK cL_law_ k_L_law__1728 = true := COK.cons dl_1728 rfl (COK.cons dl_1729 rfl (COK.cons dl_1730 rfl (COK.cons dl_1732 rfl (COK.cons dl_1733 rfl (COK.cons dl_1734 rfl (COK.cons dl_1735 rfl (COK.cons dl_1736 rfl (COK.cons dl_1739 rfl (COK.cons dl_1741 rfl (COK.cons dl_1742 rfl (COK.cons dl_1743 rfl (COK.cons dl_1745 rfl (COK.cons dl_1746 rfl (COK.cons dl_1747 rfl (COK.cons dl_1748 rfl (COK.cons dl_1751 rfl (COK.cons dl_1753 rfl (COK.cons dl_1754 rfl (COK.cons dl_1757 rfl (COK.cons dl_1759 rfl (COK.cons dl_1762 rfl (COK.cons dl_1763 rfl (cokl_1764)))))))))))))))))))))))
theorem dl_1725 : decode cL_law_ 1725 = .ok (.goto 949, 3) := by decide +kernel
theorem cokl_1725 : COK cL_law_ k_L_law__1725 = true := COK.cons dl_1725 rfl (cokl_1728)
theorem dl_1708 : decode cL_law_ 1708 = .ok (.iload 5, 2) := by decide +kernel
theorem dl_1710 : decode cL_law_ 1710 = .ok (.ifCond .ne 15, 3) := by decide +kernel
theorem dl_1713 : decode cL_law_ 1713 = .ok (.aload_n 3, 1) := by decide +kernel
theorem dl_1714 : decode cL_law_ 1714 = .ok (.iconst 0, 1) := by decide +kernel
theorem dl_1715 : decode cL_law_ 1715 = .ok (.laload, 1) := by decide +kernel
theorem dl_1716 : decode cL_law_ 1716 = .ok (.iload 6, 2) := by decide +kernel
theorem dl_1718 : decode cL_law_ 1718 = .ok (.i2l, 1) := by decide +kernel
theorem dl_1719 : decode cL_law_ 1719 = .ok (.lcmp, 1) := by decide +kernel
theorem dl_1720 : decode cL_law_ 1720 = .ok (.ifCond .eq 5, 3) := by decide +kernel
theorem dl_1723 : decode cL_law_ 1723 = .ok (.iconst 0, 1) := by decide +kernel
theorem dl_1724 : decode cL_law_ 1724 = .ok (.ireturn, 1) := by decide +kernel
theorem cokl_1708 : COK cL_law_ k_L_law__1708 = true := COK.cons dl_1708 rfl (COK.cons dl_1710 rfl (COK.cons dl_1713 rfl (COK.cons dl_1714 rfl (COK.cons dl_1715 rfl (COK.cons dl_1716 rfl (COK.cons dl_1718 rfl (COK.cons dl_1719 rfl (COK.cons dl_1720 rfl (COK.cons dl_1723 rfl (COK.cons dl_1724 rfl (cokl_1725)))))))))))
theorem dl_1672 : decode cL_law_ 1672 = .ok (.aload_n 1, 1) := by decide +kernel
theorem dl_1673 : decode cL_law_ 1673 = .ok (.aload_n 0, 1) := by decide +kernel
theorem dl_1674 : decode cL_law_ 1674 = .ok (.iload 4, 2) := by decide +kernel
theorem dl_1676 : decode cL_law_ 1676 = .ok (.iconst 1, 1) := by decide +kernel
theorem dl_1677 : decode cL_law_ 1677 = .ok (.iadd, 1) := by decide +kernel
theorem dl_1678 : decode cL_law_ 1678 = .ok (.iaload, 1) := by decide +kernel
theorem dl_1679 : decode cL_law_ 1679 = .ok (.aload_n 3, 1) := by decide +kernel
theorem dl_1680 : decode cL_law_ 1680 = .ok (.invokestatic 213, 3) := by decide +kernel
theorem dl_1683 : decode cL_law_ 1683 = .ok (.istore 5, 2) := by decide +kernel
theorem dl_1685 : decode cL_law_ 1685 = .ok (.aload_n 2, 1) := by decide +kernel
theorem dl_1686 : decode cL_law_ 1686 = .ok (.aload_n 0, 1) := by decide +kernel
theorem dl_1687 : decode cL_law_ 1687 = .ok (.iload 4, 2) := by decide +kernel
theorem dl_1689 : decode cL_law_ 1689 = .ok (.iconst 1, 1) := by decide +kernel
theorem dl_1690 : decode cL_law_ 1690 = .ok (.iadd, 1) := by decide +kernel
theorem dl_1691 : decode cL_law_ 1691 = .ok (.iaload, 1) := by decide +kernel
theorem dl_1692 : decode cL_law_ 1692 = .ok (.invokevirtual 215, 3) := by decide +kernel
theorem dl_1695 : decode cL_law_ 1695 = .ok (.istore 6, 2) := by decide +kernel
theorem dl_1697 : decode cL_law_ 1697 = .ok (.aload_n 2, 1) := by decide +kernel
theorem dl_1698 : decode cL_law_ 1698 = .ok (.invokevirtual 139, 3) := by decide +kernel
theorem dl_1701 : decode cL_law_ 1701 = .ok (.iload 5, 2) := by decide +kernel
theorem dl_1703 : decode cL_law_ 1703 = .ok (.if_icmp .eq 5, 3) := by decide +kernel
theorem dl_1706 : decode cL_law_ 1706 = .ok (.iconst 0, 1) := by decide +kernel
theorem dl_1707 : decode cL_law_ 1707 = .ok (.ireturn, 1) := by decide +kernel
theorem cokl_1672 : COK cL_law_ k_L_law__1672 = true := COK.cons dl_1672 rfl (COK.cons dl_1673 rfl (COK.cons dl_1674 rfl (COK.cons dl_1676 rfl (COK.cons dl_1677 rfl (COK.cons dl_1678 rfl (COK.cons dl_1679 rfl (COK.cons dl_1680 rfl (COK.cons dl_1683 rfl (COK.cons dl_1685 rfl (COK.cons dl_1686 rfl (COK.cons dl_1687 rfl (COK.cons dl_1689 rfl (COK.cons dl_1690 rfl (COK.cons dl_1691 rfl (COK.cons dl_1692 rfl (COK.cons dl_1695 rfl (COK.cons dl_1697 rfl (COK.cons dl_1698 rfl (COK.cons dl_1701 rfl (COK.cons dl_1703 rfl (COK.cons dl_1706 rfl (COK.cons dl_1707 rfl (cokl_1708)))))))))))))))))))))))
theorem dl_1669 : decode cL_law_ 1669 = .ok (.goto 1005, 3) := by decide +kernel
theorem cokl_1669 : COK cL_law_ k_L_law__1669 = true := COK.cons dl_1669 rfl (cokl_1672)
theorem dl_1652 : decode cL_law_ 1652 = .ok (.iload 5, 2) := by decide +kernel
theorem dl_1654 : decode cL_law_ 1654 = .ok (.ifCond .ne 15, 3) := by decide +kernel
theorem dl_1657 : decode cL_law_ 1657 = .ok (.aload_n 3, 1) := by decide +kernel
theorem dl_1658 : decode cL_law_ 1658 = .ok (.iconst 0, 1) := by decide +kernel
theorem dl_1659 : decode cL_law_ 1659 = .ok (.laload, 1) := by decide +kernel
theorem dl_1660 : decode cL_law_ 1660 = .ok (.iload 6, 2) := by decide +kernel
theorem dl_1662 : decode cL_law_ 1662 = .ok (.i2l, 1) := by decide +kernel
theorem dl_1663 : decode cL_law_ 1663 = .ok (.lcmp, 1) := by decide +kernel
theorem dl_1664 : decode cL_law_ 1664 = .ok (.ifCond .eq 5, 3) := by decide +kernel
theorem dl_1667 : decode cL_law_ 1667 = .ok (.iconst 0, 1) := by decide +kernel
theorem dl_1668 : decode cL_law_ 1668 = .ok (.ireturn, 1) := by decide +kernel
theorem cokl_1652 : COK cL_law_ k_L_law__1652 = true := COK.cons dl_1652 rfl (COK.cons dl_1654 rfl (COK.cons dl_1657 rfl (COK.cons dl_1658 rfl (COK.cons dl_1659 rfl (COK.cons dl_1660 rfl (COK.cons dl_1662 rfl (COK.cons dl_1663 rfl (COK.cons dl_1664 rfl (COK.cons dl_1667 rfl (COK.cons dl_1668 rfl (cokl_1669)))))))))))
theorem dl_1636 : decode cL_law_ 1636 = .ok (.invokevirtual 212, 3) := by decide +kernel
theorem dl_1639 : decode cL_law_ 1639 = .ok (.istore 6, 2) := by decide +kernel
theorem dl_1641 : decode cL_law_ 1641 = .ok (.aload_n 2, 1) := by decide +kernel
theorem dl_1642 : decode cL_law_ 1642 = .ok (.invokevirtual 139, 3) := by decide +kernel
theorem dl_1645 : decode cL_law_ 1645 = .ok (.iload 5, 2) := by decide +kernel
theorem dl_1647 : decode cL_law_ 1647 = .ok (.if_icmp .eq 5, 3) := by decide +kernel
theorem dl_1650 : decode cL_law_ 1650 = .ok (.iconst 0, 1) := by decide +kernel
theorem dl_1651 : decode cL_law_ 1651 = .ok (.ireturn, 1) := by decide +kernel
theorem cokl_1636 : COK cL_law_ k_L_law__1636 = true := COK.cons dl_1636 rfl (COK.cons dl_1639 rfl (COK.cons dl_1641 rfl (COK.cons dl_1642 rfl (COK.cons dl_1645 rfl (COK.cons dl_1647 rfl (COK.cons dl_1650 rfl (COK.cons dl_1651 rfl (cokl_1652))))))))
theorem dl_1635 : decode cL_law_ 1635 = .ok (.iconst 0, 1) := by decide +kernel
theorem cokl_1635 : COK cL_law_ k_L_law__1635 = true := COK.cons dl_1635 rfl (cokl_1636)
theorem dl_1603 : decode cL_law_ 1603 = .ok (.aload_n 3, 1) := by decide +kernel
theorem dl_1604 : decode cL_law_ 1604 = .ok (.invokestatic 209, 3) := by decide +kernel
theorem dl_1607 : decode cL_law_ 1607 = .ok (.istore 5, 2) := by decide +kernel
theorem dl_1609 : decode cL_law_ 1609 = .ok (.aload_n 2, 1) := by decide +kernel
theorem dl_1610 : decode cL_law_ 1610 = .ok (.aload_n 0, 1) := by decide +kernel
theorem dl_1611 : decode cL_law_ 1611 = .ok (.iload 4, 2) := by decide +kernel
theorem dl_1613 : decode cL_law_ 1613 = .ok (.iconst 1, 1) := by decide +kernel
theorem dl_1614 : decode cL_law_ 1614 = .ok (.iadd, 1) := by decide +kernel
theorem dl_1615 : decode cL_law_ 1615 = .ok (.iaload, 1) := by decide +kernel
theorem dl_1616 : decode cL_law_ 1616 = .ok (.aload_n 0, 1) := by decide +kernel
theorem dl_1617 : decode cL_law_ 1617 = .ok (.iload 4, 2) := by decide +kernel
theorem dl_1619 : decode cL_law_ 1619 = .ok (.iconst 2, 1) := by decide +kernel
theorem dl_1620 : decode cL_law_ 1620 = .ok (.iadd, 1) := by decide +kernel
theorem dl_1621 : decode cL_law_ 1621 = .ok (.iaload, 1) := by decide +kernel
theorem dl_1622 : decode cL_law_ 1622 = .ok (.aload_n 0, 1) := by decide +kernel
theorem dl_1623 : decode cL_law_ 1623 = .ok (.iload 4, 2) := by decide +kernel
theorem dl_1625 : decode cL_law_ 1625 = .ok (.iconst 3, 1) := by decide +kernel
theorem dl_1626 : decode cL_law_ 1626 = .ok (.iadd, 1) := by decide +kernel
theorem dl_1627 : decode cL_law_ 1627 = .ok (.iaload, 1) := by decide +kernel
theorem dl_1628 : decode cL_law_ 1628 = .ok (.ifCond .eq 7, 3) := by decide +kernel
theorem dl_1631 : decode cL_law_ 1631 = .ok (.iconst 1, 1) := by decide +kernel
theorem dl_1632 : decode cL_law_ 1632 = .ok (.goto 4, 3) := by decide +kernel
theorem cokl_1603 : COK cL_law_ k_L_law__1603 = true := COK.cons dl_1603 rfl (COK.cons dl_1604 rfl (COK.cons dl_1607 rfl (COK.cons dl_1609 rfl (COK.cons dl_1610 rfl (COK.cons dl_1611 rfl (COK.cons dl_1613 rfl (COK.cons dl_1614 rfl (COK.cons dl_1615 rfl (COK.cons dl_1616 rfl (COK.cons dl_1617 rfl (COK.cons dl_1619 rfl (COK.cons dl_1620 rfl (COK.cons dl_1621 rfl (COK.cons dl_1622 rfl (COK.cons dl_1623 rfl (COK.cons dl_1625 rfl (COK.cons dl_1626 rfl (COK.cons dl_1627 rfl (COK.cons dl_1628 rfl (COK.cons dl_1631 rfl (COK.cons dl_1632 rfl (cokl_1635))))))))))))))))))))))
theorem dl_1602 : decode cL_law_ 1602 = .ok (.iconst 0, 1) := by decide +kernel
theorem cokl_1602 : COK cL_law_ k_L_law__1602 = true := COK.cons dl_1602 rfl (cokl_1603)
theorem dl_1576 : decode cL_law_ 1576 = .ok (.aload_n 1, 1) := by decide +kernel
theorem dl_1577 : decode cL_law_ 1577 = .ok (.aload_n 0, 1) := by decide +kernel
theorem dl_1578 : decode cL_law_ 1578 = .ok (.iload 4, 2) := by decide +kernel
theorem dl_1580 : decode cL_law_ 1580 = .ok (.iconst 1, 1) := by decide +kernel
theorem dl_1581 : decode cL_law_ 1581 = .ok (.iadd, 1) := by decide +kernel
theorem dl_1582 : decode cL_law_ 1582 = .ok (.iaload, 1) := by decide +kernel
theorem dl_1583 : decode cL_law_ 1583 = .ok (.aload_n 0, 1) := by decide +kernel
theorem dl_1584 : decode cL_law_ 1584 = .ok (.iload 4, 2) := by decide +kernel
theorem dl_1586 : decode cL_law_ 1586 = .ok (.iconst 2, 1) := by decide +kernel
theorem dl_1587 : decode cL_law_ 1587 = .ok (.iadd, 1) := by decide +kernel
theorem dl_1588 : decode cL_law_ 1588 = .ok (.iaload, 1) := by decide +kernel
theorem dl_1589 : decode cL_law_ 1589 = .ok (.aload_n 0, 1) := by decide +kernel
theorem dl_1590 : decode cL_law_ 1590 = .ok (.iload 4, 2) := by decide +kernel
theorem dl_1592 : decode cL_law_ 1592 = .ok (.iconst 3, 1) := by decide +kernel
theorem dl_1593 : decode cL_law_ 1593 = .ok (.iadd, 1) := by decide +kernel
theorem dl_1594 : decode cL_law_ 1594 = .ok (.iaload, 1) := by decide +kernel
theorem dl_1595 : decode cL_law_ 1595 = .ok (.ifCond .eq 7, 3) := by decide +kernel
theorem dl_1598 : decode cL_law_ 1598 = .ok (.iconst 1, 1) := by decide +kernel
theorem dl_1599 : decode cL_law_ 1599 = .ok (.goto 4, 3) := by decide +kernel
theorem cokl_1576 : COK cL_law_ k_L_law__1576 = true := COK.cons dl_1576 rfl (COK.cons dl_1577 rfl (COK.cons dl_1578 rfl (COK.cons dl_1580 rfl (COK.cons dl_1581 rfl (COK.cons dl_1582 rfl (COK.cons dl_1583 rfl (COK.cons dl_1584 rfl (COK.cons dl_1586 rfl (COK.cons dl_1587 rfl (COK.cons dl_1588 rfl (COK.cons dl_1589 rfl (COK.cons dl_1590 rfl (COK.cons dl_1592 rfl (COK.cons dl_1593 rfl (COK.cons dl_1594 rfl (COK.cons dl_1595 rfl (COK.cons dl_1598 rfl (COK.cons dl_1599 rfl (cokl_1602)))))))))))))))))))
theorem dl_1573 : decode cL_law_ 1573 = .ok (.goto 1101, 3) := by decide +kernel
theorem cokl_1573 : COK cL_law_ k_L_law__1573 = true := COK.cons dl_1573 rfl (cokl_1576)
theorem dl_1557 : decode cL_law_ 1557 = .ok (.iload 5, 2) := by decide +kernel
theorem dl_1559 : decode cL_law_ 1559 = .ok (.ifCond .ne 14, 3) := by decide +kernel
theorem dl_1562 : decode cL_law_ 1562 = .ok (.aload_n 3, 1) := by decide +kernel
theorem dl_1563 : decode cL_law_ 1563 = .ok (.iconst 0, 1) := by decide +kernel
theorem dl_1564 : decode cL_law_ 1564 = .ok (.laload, 1) := by decide +kernel
theorem dl_1565 : decode cL_law_ 1565 = .ok (.lload 6, 2) := by decide +kernel
theorem dl_1567 : decode cL_law_ 1567 = .ok (.lcmp, 1) := by decide +kernel
theorem dl_1568 : decode cL_law_ 1568 = .ok (.ifCond .eq 5, 3) := by decide +kernel
theorem dl_1571 : decode cL_law_ 1571 = .ok (.iconst 0, 1) := by decide +kernel
theorem dl_1572 : decode cL_law_ 1572 = .ok (.ireturn, 1) := by decide +kernel
theorem cokl_1557 : COK cL_law_ k_L_law__1557 = true := COK.cons dl_1557 rfl (COK.cons dl_1559 rfl (COK.cons dl_1562 rfl (COK.cons dl_1563 rfl (COK.cons dl_1564 rfl (COK.cons dl_1565 rfl (COK.cons dl_1567 rfl (COK.cons dl_1568 rfl (COK.cons dl_1571 rfl (COK.cons dl_1572 rfl (cokl_1573))))))))))
theorem dl_1477 : decode cL_law_ 1477 = .ok (.aload_n 1, 1) := by decide +kernel
theorem dl_1478 : decode cL_law_ 1478 = .ok (.aload_n 0, 1) := by decide +kernel
theorem dl_1479 : decode cL_law_ 1479 = .ok (.iload 4, 2) := by decide +kernel
theorem dl_1481 : decode cL_law_ 1481 = .ok (.iconst 1, 1) := by decide +kernel
theorem dl_1482 : decode cL_law_ 1482 = .ok (.iadd, 1) := by decide +kernel
theorem dl_1483 : decode cL_law_ 1483 = .ok (.iaload, 1) := by decide +kernel
theorem dl_1484 : decode cL_law_ 1484 = .ok (.i2l, 1) := by decide +kernel
theorem dl_1485 : decode cL_law_ 1485 = .ok (.bipush 32, 2) := by decide +kernel
theorem dl_1487 : decode cL_law_ 1487 = .ok (.lshl, 1) := by decide +kernel
theorem dl_1488 : decode cL_law_ 1488 = .ok (.aload_n 0, 1) := by decide +kernel
theorem dl_1489 : decode cL_law_ 1489 = .ok (.iload 4, 2) := by decide +kernel
theorem dl_1491 : decode cL_law_ 1491 = .ok (.iconst 2, 1) := by decide +kernel
theorem dl_1492 : decode cL_law_ 1492 = .ok (.iadd, 1) := by decide +kernel
theorem dl_1493 : decode cL_law_ 1493 = .ok (.iaload, 1) := by decide +kernel
theorem dl_1494 : decode cL_law_ 1494 = .ok (.i2l, 1) := by decide +kernel
theorem dl_1495 : decode cL_law_ 1495 = .ok (.ldc2_w 203, 3) := by decide +kernel
theorem dl_1498 : decode cL_law_ 1498 = .ok (.land, 1) := by decide +kernel
theorem dl_1499 : decode cL_law_ 1499 = .ok (.lor, 1) := by decide +kernel
theorem dl_1500 : decode cL_law_ 1500 = .ok (.aload_n 0, 1) := by decide +kernel
theorem dl_1501 : decode cL_law_ 1501 = .ok (.iload 4, 2) := by decide +kernel
theorem dl_1503 : decode cL_law_ 1503 = .ok (.iconst 3, 1) := by decide +kernel
theorem dl_1504 : decode cL_law_ 1504 = .ok (.iadd, 1) := by decide +kernel
theorem dl_1505 : decode cL_law_ 1505 = .ok (.iaload, 1) := by decide +kernel
theorem dl_1506 : decode cL_law_ 1506 = .ok (.aload_n 3, 1) := by decide +kernel
theorem dl_1507 : decode cL_law_ 1507 = .ok (.invokestatic 205, 3) := by decide +kernel
theorem dl_1510 : decode cL_law_ 1510 = .ok (.istore 5, 2) := by decide +kernel
theorem dl_1512 : decode cL_law_ 1512 = .ok (.aload_n 2, 1) := by decide +kernel
theorem dl_1513 : decode cL_law_ 1513 = .ok (.aload_n 0, 1) := by decide +kernel
theorem dl_1514 : decode cL_law_ 1514 = .ok (.iload 4, 2) := by decide +kernel
theorem dl_1516 : decode cL_law_ 1516 = .ok (.iconst 1, 1) := by decide +kernel
theorem dl_1517 : decode cL_law_ 1517 = .ok (.iadd, 1) := by decide +kernel
theorem dl_1518 : decode cL_law_ 1518 = .ok (.iaload, 1) := by decide +kernel
theorem dl_1519 : decode cL_law_ 1519 = .ok (.i2l, 1) := by decide +kernel
theorem dl_1520 : decode cL_law_ 1520 = .ok (.bipush 32, 2) := by decide +kernel
theorem dl_1522 : decode cL_law_ 1522 = .ok (.lshl, 1) := by decide +kernel
theorem dl_1523 : decode cL_law_ 1523 = .ok (.aload_n 0, 1) := by decide +kernel
theorem dl_1524 : decode cL_law_ 1524 = .ok (.iload 4, 2) := by decide +kernel
theorem dl_1526 : decode cL_law_ 1526 = .ok (.iconst 2, 1) := by decide +kernel
theorem dl_1527 : decode cL_law_ 1527 = .ok (.iadd, 1) := by decide +kernel
theorem dl_1528 : decode cL_law_ 1528 = .ok (.iaload, 1) := by decide +kernel
theorem dl_1529 : decode cL_law_ 1529 = .ok (.i2l, 1) := by decide +kernel
theorem dl_1530 : decode cL_law_ 1530 = .ok (.ldc2_w 203, 3) := by decide +kernel
theorem dl_1533 : decode cL_law_ 1533 = .ok (.land, 1) := by decide +kernel
theorem dl_1534 : decode cL_law_ 1534 = .ok (.lor, 1) := by decide +kernel
theorem dl_1535 : decode cL_law_ 1535 = .ok (.aload_n 0, 1) := by decide +kernel
theorem dl_1536 : decode cL_law_ 1536 = .ok (.iload 4, 2) := by decide +kernel
theorem dl_1538 : decode cL_law_ 1538 = .ok (.iconst 3, 1) := by decide +kernel
theorem dl_1539 : decode cL_law_ 1539 = .ok (.iadd, 1) := by decide +kernel
theorem dl_1540 : decode cL_law_ 1540 = .ok (.iaload, 1) := by decide +kernel
theorem dl_1541 : decode cL_law_ 1541 = .ok (.invokevirtual 208, 3) := by decide +kernel
theorem dl_1544 : decode cL_law_ 1544 = .ok (.lstore 6, 2) := by decide +kernel
theorem dl_1546 : decode cL_law_ 1546 = .ok (.aload_n 2, 1) := by decide +kernel
theorem dl_1547 : decode cL_law_ 1547 = .ok (.invokevirtual 139, 3) := by decide +kernel
theorem dl_1550 : decode cL_law_ 1550 = .ok (.iload 5, 2) := by decide +kernel
theorem dl_1552 : decode cL_law_ 1552 = .ok (.if_icmp .eq 5, 3) := by decide +kernel
theorem dl_1555 : decode cL_law_ 1555 = .ok (.iconst 0, 1) := by decide +kernel
theorem dl_1556 : decode cL_law_ 1556 = .ok (.ireturn, 1) := by decide +kernel
theorem cokl_1477 : COK cL_law_ k_L_law__1477 = true := COK.cons dl_1477 rfl (COK.cons dl_1478 rfl (COK.cons dl_1479 rfl (COK.cons dl_1481 rfl (COK.cons dl_1482 rfl (COK.cons dl_1483 rfl (COK.cons dl_1484 rfl (COK.cons dl_1485 rfl (COK.cons dl_1487 rfl (COK.cons dl_1488 rfl (COK.cons dl_1489 rfl (COK.cons dl_1491 rfl (COK.cons dl_1492 rfl (COK.cons dl_1493 rfl (COK.cons dl_1494 rfl (COK.cons dl_1495 rfl (COK.cons dl_1498 rfl (COK.cons dl_1499 rfl (COK.cons dl_1500 rfl (COK.cons dl_1501 rfl (COK.cons dl_1503 rfl (COK.cons dl_1504 rfl (COK.cons dl_1505 rfl (COK.cons dl_1506 rfl (COK.cons dl_1507 rfl (COK.cons dl_1510 rfl (COK.cons dl_1512 rfl (COK.cons dl_1513 rfl (COK.cons dl_1514 rfl (COK.cons dl_1516 rfl (COK.cons dl_1517 rfl (COK.cons dl_1518 rfl (COK.cons dl_1519 rfl (COK.cons dl_1520 rfl (COK.cons dl_1522 rfl (COK.cons dl_1523 rfl (COK.cons dl_1524 rfl (COK.cons dl_1526 rfl (COK.cons dl_1527 rfl (COK.cons dl_1528 rfl (COK.cons dl_1529 rfl (COK.cons dl_1530 rfl (COK.cons dl_1533 rfl (COK.cons dl_1534 rfl (COK.cons dl_1535 rfl (COK.cons dl_1536 rfl (COK.cons dl_1538 rfl (COK.cons dl_1539 rfl (COK.cons dl_1540 rfl (COK.cons dl_1541 rfl (COK.cons dl_1544 rfl (COK.cons dl_1546 rfl (COK.cons dl_1547 rfl (COK.cons dl_1550 rfl (COK.cons dl_1552 rfl (COK.cons dl_1555 rfl (COK.cons dl_1556 rfl (cokl_1557)))))))))))))))))))))))))))))))))))))))))))))))))))))))))
theorem dl_1474 : decode cL_law_ 1474 = .ok (.goto 1200, 3) := by decide +kernel
theorem cokl_1474 : COK cL_law_ k_L_law__1474 = true := COK.cons dl_1474 rfl (cokl_1477)
theorem dl_1457 : decode cL_law_ 1457 = .ok (.iload 5, 2) := by decide +kernel
theorem dl_1459 : decode cL_law_ 1459 = .ok (.ifCond .ne 15, 3) := by decide +kernel
theorem dl_1462 : decode cL_law_ 1462 = .ok (.aload_n 3, 1) := by decide +kernel
theorem dl_1463 : decode cL_law_ 1463 = .ok (.iconst 0, 1) := by decide +kernel
theorem dl_1464 : decode cL_law_ 1464 = .ok (.laload, 1) := by decide +kernel
theorem dl_1465 : decode cL_law_ 1465 = .ok (.iload 6, 2) := by decide +kernel
theorem dl_1467 : decode cL_law_ 1467 = .ok (.i2l, 1) := by decide +kernel
theorem dl_1468 : decode cL_law_ 1468 = .ok (.lcmp, 1) := by decide +kernel
theorem dl_1469 : decode cL_law_ 1469 = .ok (.ifCond .eq 5, 3) := by decide +kernel
theorem dl_1472 : decode cL_law_ 1472 = .ok (.iconst 0, 1) := by decide +kernel
theorem dl_1473 : decode cL_law_ 1473 = .ok (.ireturn, 1) := by decide +kernel
theorem cokl_1457 : COK cL_law_ k_L_law__1457 = true := COK.cons dl_1457 rfl (COK.cons dl_1459 rfl (COK.cons dl_1462 rfl (COK.cons dl_1463 rfl (COK.cons dl_1464 rfl (COK.cons dl_1465 rfl (COK.cons dl_1467 rfl (COK.cons dl_1468 rfl (COK.cons dl_1469 rfl (COK.cons dl_1472 rfl (COK.cons dl_1473 rfl (cokl_1474)))))))))))
theorem dl_1421 : decode cL_law_ 1421 = .ok (.aload_n 1, 1) := by decide +kernel
theorem dl_1422 : decode cL_law_ 1422 = .ok (.aload_n 0, 1) := by decide +kernel
theorem dl_1423 : decode cL_law_ 1423 = .ok (.iload 4, 2) := by decide +kernel
theorem dl_1425 : decode cL_law_ 1425 = .ok (.iconst 1, 1) := by decide +kernel
theorem dl_1426 : decode cL_law_ 1426 = .ok (.iadd, 1) := by decide +kernel
theorem dl_1427 : decode cL_law_ 1427 = .ok (.iaload, 1) := by decide +kernel
theorem dl_1428 : decode cL_law_ 1428 = .ok (.aload_n 3, 1) := by decide +kernel
theorem dl_1429 : decode cL_law_ 1429 = .ok (.invokestatic 200, 3) := by decide +kernel
theorem dl_1432 : decode cL_law_ 1432 = .ok (.istore 5, 2) := by decide +kernel
theorem dl_1434 : decode cL_law_ 1434 = .ok (.aload_n 2, 1) := by decide +kernel
theorem dl_1435 : decode cL_law_ 1435 = .ok (.aload_n 0, 1) := by decide +kernel
theorem dl_1436 : decode cL_law_ 1436 = .ok (.iload 4, 2) := by decide +kernel
theorem dl_1438 : decode cL_law_ 1438 = .ok (.iconst 1, 1) := by decide +kernel
theorem dl_1439 : decode cL_law_ 1439 = .ok (.iadd, 1) := by decide +kernel
theorem dl_1440 : decode cL_law_ 1440 = .ok (.iaload, 1) := by decide +kernel
theorem dl_1441 : decode cL_law_ 1441 = .ok (.invokevirtual 202, 3) := by decide +kernel
theorem dl_1444 : decode cL_law_ 1444 = .ok (.istore 6, 2) := by decide +kernel
theorem dl_1446 : decode cL_law_ 1446 = .ok (.aload_n 2, 1) := by decide +kernel
theorem dl_1447 : decode cL_law_ 1447 = .ok (.invokevirtual 139, 3) := by decide +kernel
theorem dl_1450 : decode cL_law_ 1450 = .ok (.iload 5, 2) := by decide +kernel
theorem dl_1452 : decode cL_law_ 1452 = .ok (.if_icmp .eq 5, 3) := by decide +kernel
theorem dl_1455 : decode cL_law_ 1455 = .ok (.iconst 0, 1) := by decide +kernel
theorem dl_1456 : decode cL_law_ 1456 = .ok (.ireturn, 1) := by decide +kernel
theorem cokl_1421 : COK cL_law_ k_L_law__1421 = true := COK.cons dl_1421 rfl (COK.cons dl_1422 rfl (COK.cons dl_1423 rfl (COK.cons dl_1425 rfl (COK.cons dl_1426 rfl (COK.cons dl_1427 rfl (COK.cons dl_1428 rfl (COK.cons dl_1429 rfl (COK.cons dl_1432 rfl (COK.cons dl_1434 rfl (COK.cons dl_1435 rfl (COK.cons dl_1436 rfl (COK.cons dl_1438 rfl (COK.cons dl_1439 rfl (COK.cons dl_1440 rfl (COK.cons dl_1441 rfl (COK.cons dl_1444 rfl (COK.cons dl_1446 rfl (COK.cons dl_1447 rfl (COK.cons dl_1450 rfl (COK.cons dl_1452 rfl (COK.cons dl_1455 rfl (COK.cons dl_1456 rfl (cokl_1457)))))))))))))))))))))))
theorem dl_1418 : decode cL_law_ 1418 = .ok (.goto 1256, 3) := by decide +kernel
theorem cokl_1418 : COK cL_law_ k_L_law__1418 = true := COK.cons dl_1418 rfl (cokl_1421)
theorem dl_1401 : decode cL_law_ 1401 = .ok (.iload 5, 2) := by decide +kernel
theorem dl_1403 : decode cL_law_ 1403 = .ok (.ifCond .ne 15, 3) := by decide +kernel
theorem dl_1406 : decode cL_law_ 1406 = .ok (.aload_n 3, 1) := by decide +kernel
theorem dl_1407 : decode cL_law_ 1407 = .ok (.iconst 0, 1) := by decide +kernel
theorem dl_1408 : decode cL_law_ 1408 = .ok (.laload, 1) := by decide +kernel
theorem dl_1409 : decode cL_law_ 1409 = .ok (.iload 6, 2) := by decide +kernel
theorem dl_1411 : decode cL_law_ 1411 = .ok (.i2l, 1) := by decide +kernel
theorem dl_1412 : decode cL_law_ 1412 = .ok (.lcmp, 1) := by decide +kernel
theorem dl_1413 : decode cL_law_ 1413 = .ok (.ifCond .eq 5, 3) := by decide +kernel
theorem dl_1416 : decode cL_law_ 1416 = .ok (.iconst 0, 1) := by decide +kernel
theorem dl_1417 : decode cL_law_ 1417 = .ok (.ireturn, 1) := by decide +kernel
theorem cokl_1401 : COK cL_law_ k_L_law__1401 = true := COK.cons dl_1401 rfl (COK.cons dl_1403 rfl (COK.cons dl_1406 rfl (COK.cons dl_1407 rfl (COK.cons dl_1408 rfl (COK.cons dl_1409 rfl (COK.cons dl_1411 rfl (COK.cons dl_1412 rfl (COK.cons dl_1413 rfl (COK.cons dl_1416 rfl (COK.cons dl_1417 rfl (cokl_1418)))))))))))
theorem dl_1341 : decode cL_law_ 1341 = .ok (.aload_n 1, 1) := by decide +kernel
theorem dl_1342 : decode cL_law_ 1342 = .ok (.aload_n 0, 1) := by decide +kernel
theorem dl_1343 : decode cL_law_ 1343 = .ok (.iload 4, 2) := by decide +kernel
theorem dl_1345 : decode cL_law_ 1345 = .ok (.iconst 1, 1) := by decide +kernel
theorem dl_1346 : decode cL_law_ 1346 = .ok (.iadd, 1) := by decide +kernel
theorem dl_1347 : decode cL_law_ 1347 = .ok (.iaload, 1) := by decide +kernel
theorem dl_1348 : decode cL_law_ 1348 = .ok (.aload_n 0, 1) := by decide +kernel
theorem dl_1349 : decode cL_law_ 1349 = .ok (.iload 4, 2) := by decide +kernel
theorem dl_1351 : decode cL_law_ 1351 = .ok (.iconst 2, 1) := by decide +kernel
theorem dl_1352 : decode cL_law_ 1352 = .ok (.iadd, 1) := by decide +kernel
theorem dl_1353 : decode cL_law_ 1353 = .ok (.iaload, 1) := by decide +kernel
theorem dl_1354 : decode cL_law_ 1354 = .ok (.aload_n 0, 1) := by decide +kernel
theorem dl_1355 : decode cL_law_ 1355 = .ok (.iload 4, 2) := by decide +kernel
theorem dl_1357 : decode cL_law_ 1357 = .ok (.iconst 3, 1) := by decide +kernel
theorem dl_1358 : decode cL_law_ 1358 = .ok (.iadd, 1) := by decide +kernel
theorem dl_1359 : decode cL_law_ 1359 = .ok (.iaload, 1) := by decide +kernel
theorem dl_1360 : decode cL_law_ 1360 = .ok (.aload_n 3, 1) := by decide +kernel
theorem dl_1361 : decode cL_law_ 1361 = .ok (.invokestatic 197, 3) := by decide +kernel
theorem dl_1364 : decode cL_law_ 1364 = .ok (.istore 5, 2) := by decide +kernel
theorem dl_1366 : decode cL_law_ 1366 = .ok (.aload_n 2, 1) := by decide +kernel
theorem dl_1367 : decode cL_law_ 1367 = .ok (.aload_n 0, 1) := by decide +kernel
theorem dl_1368 : decode cL_law_ 1368 = .ok (.iload 4, 2) := by decide +kernel
theorem dl_1370 : decode cL_law_ 1370 = .ok (.iconst 1, 1) := by decide +kernel
theorem dl_1371 : decode cL_law_ 1371 = .ok (.iadd, 1) := by decide +kernel
theorem dl_1372 : decode cL_law_ 1372 = .ok (.iaload, 1) := by decide +kernel
theorem dl_1373 : decode cL_law_ 1373 = .ok (.aload_n 0, 1) := by decide +kernel
theorem dl_1374 : decode cL_law_ 1374 = .ok (.iload 4, 2) := by decide +kernel
theorem dl_1376 : decode cL_law_ 1376 = .ok (.iconst 2, 1) := by decide +kernel
theorem dl_1377 : decode cL_law_ 1377 = .ok (.iadd, 1) := by decide +kernel
theorem dl_1378 : decode cL_law_ 1378 = .ok (.iaload, 1) := by decide +kernel
theorem dl_1379 : decode cL_law_ 1379 = .ok (.aload_n 0, 1) := by decide +kernel
theorem dl_1380 : decode cL_law_ 1380 = .ok (.iload 4, 2) := by decide +kernel
theorem dl_1382 : decode cL_law_ 1382 = .ok (.iconst 3, 1) := by decide +kernel
theorem dl_1383 : decode cL_law_ 1383 = .ok (.iadd, 1) := by decide +kernel
theorem dl_1384 : decode cL_law_ 1384 = .ok (.iaload, 1) := by decide +kernel
theorem dl_1385 : decode cL_law_ 1385 = .ok (.invokevirtual 199, 3) := by decide +kernel
theorem dl_1388 : decode cL_law_ 1388 = .ok (.istore 6, 2) := by decide +kernel
theorem dl_1390 : decode cL_law_ 1390 = .ok (.aload_n 2, 1) := by decide +kernel
theorem dl_1391 : decode cL_law_ 1391 = .ok (.invokevirtual 139, 3) := by decide +kernel
theorem dl_1394 : decode cL_law_ 1394 = .ok (.iload 5, 2) := by decide +kernel
theorem dl_1396 : decode cL_law_ 1396 = .ok (.if_icmp .eq 5, 3) := by decide +kernel
theorem dl_1399 : decode cL_law_ 1399 = .ok (.iconst 0, 1) := by decide +kernel
theorem dl_1400 : decode cL_law_ 1400 = .ok (.ireturn, 1) := by decide +kernel
theorem cokl_1341 : COK cL_law_ k_L_law__1341 = true := COK.cons dl_1341 rfl (COK.cons dl_1342 rfl (COK.cons dl_1343 rfl (COK.cons dl_1345 rfl (COK.cons dl_1346 rfl (COK.cons dl_1347 rfl (COK.cons dl_1348 rfl (COK.cons dl_1349 rfl (COK.cons dl_1351 rfl (COK.cons dl_1352 rfl (COK.cons dl_1353 rfl (COK.cons dl_1354 rfl (COK.cons dl_1355 rfl (COK.cons dl_1357 rfl (COK.cons dl_1358 rfl (COK.cons dl_1359 rfl (COK.cons dl_1360 rfl (COK.cons dl_1361 rfl (COK.cons dl_1364 rfl (COK.cons dl_1366 rfl (COK.cons dl_1367 rfl (COK.cons dl_1368 rfl (COK.cons dl_1370 rfl (COK.cons dl_1371 rfl (COK.cons dl_1372 rfl (COK.cons dl_1373 rfl (COK.cons dl_1374 rfl (COK.cons dl_1376 rfl (COK.cons dl_1377 rfl (COK.cons dl_1378 rfl (COK.cons dl_1379 rfl (COK.cons dl_1380 rfl (COK.cons dl_1382 rfl (COK.cons dl_1383 rfl (COK.cons dl_1384 rfl (COK.cons dl_1385 rfl (COK.cons dl_1388 rfl (COK.cons dl_1390 rfl (COK.cons dl_1391 rfl (COK.cons dl_1394 rfl (COK.cons dl_1396 rfl (COK.cons dl_1399 rfl (COK.cons dl_1400 rfl (cokl_1401)))))))))))))))))))))))))))))))))))))))))))
theorem dl_1338 : decode cL_law_ 1338 = .ok (.goto 1336, 3) := by decide +kernel
theorem cokl_1338 : COK cL_law_ k_L_law__1338 = true := COK.cons dl_1338 rfl (cokl_1341)
theorem dl_1321 : decode cL_law_ 1321 = .ok (.iload 5, 2) := by decide +kernel
theorem dl_1323 : decode cL_law_ 1323 = .ok (.ifCond .ne 15, 3) := by decide +kernel
theorem dl_1326 : decode cL_law_ 1326 = .ok (.aload_n 3, 1) := by decide +kernel
theorem dl_1327 : decode cL_law_ 1327 = .ok (.iconst 0, 1) := by decide +kernel
theorem dl_1328 : decode cL_law_ 1328 = .ok (.laload, 1) := by decide +kernel
theorem dl_1329 : decode cL_law_ 1329 = .ok (.iload 6, 2) := by decide +kernel
theorem dl_1331 : decode cL_law_ 1331 = .ok (.i2l, 1) := by decide +kernel
theorem dl_1332 : decode cL_law_ 1332 = .ok (.lcmp, 1) := by decide +kernel
theorem dl_1333 : decode cL_law_ 1333 = .ok (.ifCond .eq 5, 3) := by decide +kernel
theorem dl_1336 : decode cL_law_ 1336 = .ok (.iconst 0, 1) := by decide +kernel
theorem dl_1337 : decode cL_law_ 1337 = .ok (.ireturn, 1) := by decide +kernel
theorem cokl_1321 : COK cL_law_ k_L_law__1321 = true := COK.cons dl_1321 rfl (COK.cons dl_1323 rfl (COK.cons dl_1326 rfl (COK.cons dl_1327 rfl (COK.cons dl_1328 rfl (COK.cons dl_1329 rfl (COK.cons dl_1331 rfl (COK.cons dl_1332 rfl (COK.cons dl_1333 rfl (COK.cons dl_1336 rfl (COK.cons dl_1337 rfl (cokl_1338)))))))))))
theorem dl_1273 : decode cL_law_ 1273 = .ok (.aload_n 1, 1) := by decide +kernel
theorem dl_1274 : decode cL_law_ 1274 = .ok (.aload_n 0, 1) := by decide +kernel
theorem dl_1275 : decode cL_law_ 1275 = .ok (.iload 4, 2) := by decide +kernel
theorem dl_1277 : decode cL_law_ 1277 = .ok (.iconst 1, 1) := by decide +kernel
theorem dl_1278 : decode cL_law_ 1278 = .ok (.iadd, 1) := by decide +kernel
theorem dl_1279 : decode cL_law_ 1279 = .ok (.iaload, 1) := by decide +kernel
theorem dl_1280 : decode cL_law_ 1280 = .ok (.aload_n 0, 1) := by decide +kernel
theorem dl_1281 : decode cL_law_ 1281 = .ok (.iload 4, 2) := by decide +kernel
theorem dl_1283 : decode cL_law_ 1283 = .ok (.iconst 2, 1) := by decide +kernel
theorem dl_1284 : decode cL_law_ 1284 = .ok (.iadd, 1) := by decide +kernel
theorem dl_1285 : decode cL_law_ 1285 = .ok (.iaload, 1) := by decide +kernel
theorem dl_1286 : decode cL_law_ 1286 = .ok (.aload_n 3, 1) := by decide +kernel
theorem dl_1287 : decode cL_law_ 1287 = .ok (.invokestatic 194, 3) := by decide +kernel
theorem dl_1290 : decode cL_law_ 1290 = .ok (.istore 5, 2) := by decide +kernel
theorem dl_1292 : decode cL_law_ 1292 = .ok (.aload_n 2, 1) := by decide +kernel
theorem dl_1293 : decode cL_law_ 1293 = .ok (.aload_n 0, 1) := by decide +kernel
theorem dl_1294 : decode cL_law_ 1294 = .ok (.iload 4, 2) := by decide +kernel
theorem dl_1296 : decode cL_law_ 1296 = .ok (.iconst 1, 1) := by decide +kernel
theorem dl_1297 : decode cL_law_ 1297 = .ok (.iadd, 1) := by decide +kernel
theorem dl_1298 : decode cL_law_ 1298 = .ok (.iaload, 1) := by decide +kernel
theorem dl_1299 : decode cL_law_ 1299 = .ok (.aload_n 0, 1) := by decide +kernel
theorem dl_1300 : decode cL_law_ 1300 = .ok (.iload 4, 2) := by decide +kernel
theorem dl_1302 : decode cL_law_ 1302 = .ok (.iconst 2, 1) := by decide +kernel
theorem dl_1303 : decode cL_law_ 1303 = .ok (.iadd, 1) := by decide +kernel
theorem dl_1304 : decode cL_law_ 1304 = .ok (.iaload, 1) := by decide +kernel
theorem dl_1305 : decode cL_law_ 1305 = .ok (.invokevirtual 196, 3) := by decide +kernel
theorem dl_1308 : decode cL_law_ 1308 = .ok (.istore 6, 2) := by decide +kernel
theorem dl_1310 : decode cL_law_ 1310 = .ok (.aload_n 2, 1) := by decide +kernel
theorem dl_1311 : decode cL_law_ 1311 = .ok (.invokevirtual 139, 3) := by decide +kernel
theorem dl_1314 : decode cL_law_ 1314 = .ok (.iload 5, 2) := by decide +kernel
theorem dl_1316 : decode cL_law_ 1316 = .ok (.if_icmp .eq 5, 3) := by decide +kernel
theorem dl_1319 : decode cL_law_ 1319 = .ok (.iconst 0, 1) := by decide +kernel
theorem dl_1320 : decode cL_law_ 1320 = .ok (.ireturn, 1) := by decide +kernel
theorem cokl_1273 : COK cL_law_ k_L_law__1273 = true := COK.cons dl_1273 rfl (COK.cons dl_1274 rfl (COK.cons dl_1275 rfl (COK.cons dl_1277 rfl (COK.cons dl_1278 rfl (COK.cons dl_1279 rfl (COK.cons dl_1280 rfl (COK.cons dl_1281 rfl (COK.cons dl_1283 rfl (COK.cons dl_1284 rfl (COK.cons dl_1285 rfl (COK.cons dl_1286 rfl (COK.cons dl_1287 rfl (COK.cons dl_1290 rfl (COK.cons dl_1292 rfl (COK.cons dl_1293 rfl (COK.cons dl_1294 rfl (COK.cons dl_1296 rfl (COK.cons dl_1297 rfl (COK.cons dl_1298 rfl (COK.cons dl_1299 rfl (COK.cons dl_1300 rfl (COK.cons dl_1302 rfl (COK.cons dl_1303 rfl (COK.cons dl_1304 rfl (COK.cons dl_1305 rfl (COK.cons dl_1308 rfl (COK.cons dl_1310 rfl (COK.cons dl_1311 rfl (COK.cons dl_1314 rfl (COK.cons dl_1316 rfl (COK.cons dl_1319 rfl (COK.cons dl_1320 rfl (cokl_1321)))))))))))))))))))))))))))))))))
theorem dl_1270 : decode cL_law_ 1270 = .ok (.goto 1404, 3) := by decide +kernel
theorem cokl_1270 : COK cL_law_ k_L_law__1270 = true := COK.cons dl_1270 rfl (cokl_1273)
theorem dl_1253 : decode cL_law_ 1253 = .ok (.iload 5, 2) := by decide +kernel
theorem dl_1255 : decode cL_law_ 1255 = .ok (.ifCond .ne 15, 3) := by decide +kernel
theorem dl_1258 : decode cL_law_ 1258 = .ok (.aload_n 3, 1) := by decide +kernel
theorem dl_1259 : decode cL_law_ 1259 = .ok (.iconst 0, 1) := by decide +kernel
theorem dl_1260 : decode cL_law_ 1260 = .ok (.laload, 1) := by decide +kernel
theorem dl_1261 : decode cL_law_ 1261 = .ok (.iload 6, 2) := by decide +kernel
theorem dl_1263 : decode cL_law_ 1263 = .ok (.i2l, 1) := by decide +kernel
theorem dl_1264 : decode cL_law_ 1264 = .ok (.lcmp, 1) := by decide +kernel
theorem dl_1265 : decode cL_law_ 1265 = .ok (.ifCond .eq 5, 3) := by decide +kernel
theorem dl_1268 : decode cL_law_ 1268 = .ok (.iconst 0, 1) := by decide +kernel
theorem dl_1269 : decode cL_law_ 1269 = .ok (.ireturn, 1) := by decide +kernel
theorem cokl_1253 : COK cL_law_ k_L_law__1253 = true := COK.cons dl_1253 rfl (COK.cons dl_1255 rfl (COK.cons dl_1258 rfl (COK.cons dl_1259 rfl (COK.cons dl_1260 rfl (COK.cons dl_1261 rfl (COK.cons dl_1263 rfl (COK.cons dl_1264 rfl (COK.cons dl_1265 rfl (COK.cons dl_1268 rfl (COK.cons dl_1269 rfl (cokl_1270)))))))))))
theorem dl_1217 : decode cL_law_ 1217 = .ok (.aload_n 1, 1) := by decide +kernel
theorem dl_1218 : decode cL_law_ 1218 = .ok (.aload_n 0, 1) := by decide +kernel
theorem dl_1219 : decode cL_law_ 1219 = .ok (.iload 4, 2) := by decide +kernel
theorem dl_1221 : decode cL_law_ 1221 = .ok (.iconst 1, 1) := by decide +kernel
theorem dl_1222 : decode cL_law_ 1222 = .ok (.iadd, 1) := by decide +kernel
theorem dl_1223 : decode cL_law_ 1223 = .ok (.iaload, 1) := by decide +kernel
theorem dl_1224 : decode cL_law_ 1224 = .ok (.aload_n 3, 1) := by decide +kernel
theorem dl_1225 : decode cL_law_ 1225 = .ok (.invokestatic 191, 3) := by decide +kernel
theorem dl_1228 : decode cL_law_ 1228 = .ok (.istore 5, 2) := by decide +kernel
theorem dl_1230 : decode cL_law_ 1230 = .ok (.aload_n 2, 1) := by decide +kernel
theorem dl_1231 : decode cL_law_ 1231 = .ok (.aload_n 0, 1) := by decide +kernel
theorem dl_1232 : decode cL_law_ 1232 = .ok (.iload 4, 2) := by decide +kernel
theorem dl_1234 : decode cL_law_ 1234 = .ok (.iconst 1, 1) := by decide +kernel
theorem dl_1235 : decode cL_law_ 1235 = .ok (.iadd, 1) := by decide +kernel
theorem dl_1236 : decode cL_law_ 1236 = .ok (.iaload, 1) := by decide +kernel
theorem dl_1237 : decode cL_law_ 1237 = .ok (.invokevirtual 193, 3) := by decide +kernel
theorem dl_1240 : decode cL_law_ 1240 = .ok (.istore 6, 2) := by decide +kernel
theorem dl_1242 : decode cL_law_ 1242 = .ok (.aload_n 2, 1) := by decide +kernel
theorem dl_1243 : decode cL_law_ 1243 = .ok (.invokevirtual 139, 3) := by decide +kernel
theorem dl_1246 : decode cL_law_ 1246 = .ok (.iload 5, 2) := by decide +kernel
theorem dl_1248 : decode cL_law_ 1248 = .ok (.if_icmp .eq 5, 3) := by decide +kernel
theorem dl_1251 : decode cL_law_ 1251 = .ok (.iconst 0, 1) := by decide +kernel
theorem dl_1252 : decode cL_law_ 1252 = .ok (.ireturn, 1) := by decide +kernel
theorem cokl_1217 : COK cL_law_ k_L_law__1217 = true := COK.cons dl_1217 rfl (COK.cons dl_1218 rfl (COK.cons dl_1219 rfl (COK.cons dl_1221 rfl (COK.cons dl_1222 rfl (COK.cons dl_1223 rfl (COK.cons dl_1224 rfl (COK.cons dl_1225 rfl (COK.cons dl_1228 rfl (COK.cons dl_1230 rfl (COK.cons dl_1231 rfl (COK.cons dl_1232 rfl (COK.cons dl_1234 rfl (COK.cons dl_1235 rfl (COK.cons dl_1236 rfl (COK.cons dl_1237 rfl (COK.cons dl_1240 rfl (COK.cons dl_1242 rfl (COK.cons dl_1243 rfl (COK.cons dl_1246 rfl (COK.cons dl_1248 rfl (COK.cons dl_1251 rfl (COK.cons dl_1252 rfl (cokl_1253)))))))))))))))))))))))
theorem dl_1214 : decode cL_law_ 1214 = .ok (.goto 1460, 3) := by decide +kernel
theorem cokl_1214 : COK cL_law_ k_L_law__1214 = true := COK.cons dl_1214 rfl (cokl_1217)
theorem dl_1197 : decode cL_law_ 1197 = .ok (.iload 5, 2) := by decide +kernel
theorem dl_1199 : decode cL_law_ 1199 = .ok (.ifCond .ne 15, 3) := by decide +kernel
theorem dl_1202 : decode cL_law_ 1202 = .ok (.aload_n 3, 1) := by decide +kernel
theorem dl_1203 : decode cL_law_ 1203 = .ok (.iconst 0, 1) := by decide +kernel
theorem dl_1204 : decode cL_law_ 1204 = .ok (.laload, 1) := by decide +kernel
theorem dl_1205 : decode cL_law_ 1205 = .ok (.iload 6, 2) := by decide +kernel
theorem dl_1207 : decode cL_law_ 1207 = .ok (.i2l, 1) := by decide +kernel
theorem dl_1208 : decode cL_law_ 1208 = .ok (.lcmp, 1) := by decide +kernel
theorem dl_1209 : decode cL_law_ 1209 = .ok (.ifCond .eq 5, 3) := by decide +kernel
theorem dl_1212 : decode cL_law_ 1212 = .ok (.iconst 0, 1) := by decide +kernel
theorem dl_1213 : decode cL_law_ 1213 = .ok (.ireturn, 1) := by decide +kernel
theorem cokl_1197 : COK cL_law_ k_L_law__1197 = true := COK.cons dl_1197 rfl (COK.cons dl_1199 rfl (COK.cons dl_1202 rfl (COK.cons dl_1203 rfl (COK.cons dl_1204 rfl (COK.cons dl_1205 rfl (COK.cons dl_1207 rfl (COK.cons dl_1208 rfl (COK.cons dl_1209 rfl (COK.cons dl_1212 rfl (COK.cons dl_1213 rfl (cokl_1214)))))))))))
theorem dl_1161 : decode cL_law_ 1161 = .ok (.aload_n 1, 1) := by decide +kernel
theorem dl_1162 : decode cL_law_ 1162 = .ok (.aload_n 0, 1) := by decide +kernel
theorem dl_1163 : decode cL_law_ 1163 = .ok (.iload 4, 2) := by decide +kernel
theorem dl_1165 : decode cL_law_ 1165 = .ok (.iconst 1, 1) := by decide +kernel
theorem dl_1166 : decode cL_law_ 1166 = .ok (.iadd, 1) := by decide +kernel
theorem dl_1167 : decode cL_law_ 1167 = .ok (.iaload, 1) := by decide +kernel
theorem dl_1168 : decode cL_law_ 1168 = .ok (.aload_n 3, 1) := by decide +kernel
theorem dl_1169 : decode cL_law_ 1169 = .ok (.invokestatic 188, 3) := by decide +kernel
theorem dl_1172 : decode cL_law_ 1172 = .ok (.istore 5, 2) := by decide +kernel
theorem dl_1174 : decode cL_law_ 1174 = .ok (.aload_n 2, 1) := by decide +kernel
theorem dl_1175 : decode cL_law_ 1175 = .ok (.aload_n 0, 1) := by decide +kernel
theorem dl_1176 : decode cL_law_ 1176 = .ok (.iload 4, 2) := by decide +kernel
theorem dl_1178 : decode cL_law_ 1178 = .ok (.iconst 1, 1) := by decide +kernel
theorem dl_1179 : decode cL_law_ 1179 = .ok (.iadd, 1) := by decide +kernel
theorem dl_1180 : decode cL_law_ 1180 = .ok (.iaload, 1) := by decide +kernel
theorem dl_1181 : decode cL_law_ 1181 = .ok (.invokevirtual 190, 3) := by decide +kernel
theorem dl_1184 : decode cL_law_ 1184 = .ok (.istore 6, 2) := by decide +kernel
theorem dl_1186 : decode cL_law_ 1186 = .ok (.aload_n 2, 1) := by decide +kernel
theorem dl_1187 : decode cL_law_ 1187 = .ok (.invokevirtual 139, 3) := by decide +kernel
theorem dl_1190 : decode cL_law_ 1190 = .ok (.iload 5, 2) := by decide +kernel
theorem dl_1192 : decode cL_law_ 1192 = .ok (.if_icmp .eq 5, 3) := by decide +kernel
theorem dl_1195 : decode cL_law_ 1195 = .ok (.iconst 0, 1) := by decide +kernel
theorem dl_1196 : decode cL_law_ 1196 = .ok (.ireturn, 1) := by decide +kernel
theorem cokl_1161 : COK cL_law_ k_L_law__1161 = true := COK.cons dl_1161 rfl (COK.cons dl_1162 rfl (COK.cons dl_1163 rfl (COK.cons dl_1165 rfl (COK.cons dl_1166 rfl (COK.cons dl_1167 rfl (COK.cons dl_1168 rfl (COK.cons dl_1169 rfl (COK.cons dl_1172 rfl (COK.cons dl_1174 rfl (COK.cons dl_1175 rfl (COK.cons dl_1176 rfl (COK.cons dl_1178 rfl (COK.cons dl_1179 rfl (COK.cons dl_1180 rfl (COK.cons dl_1181 rfl (COK.cons dl_1184 rfl (COK.cons dl_1186 rfl (COK.cons dl_1187 rfl (COK.cons dl_1190 rfl (COK.cons dl_1192 rfl (COK.cons dl_1195 rfl (COK.cons dl_1196 rfl (cokl_1197)))))))))))))))))))))))
theorem dl_1158 : decode cL_law_ 1158 = .ok (.goto 1516, 3) := by decide +kernel
theorem cokl_1158 : COK cL_law_ k_L_law__1158 = true := COK.cons dl_1158 rfl (cokl_1161)
theorem dl_1141 : decode cL_law_ 1141 = .ok (.iload 5, 2) := by decide +kernel
theorem dl_1143 : decode cL_law_ 1143 = .ok (.ifCond .ne 15, 3) := by decide +kernel
theorem dl_1146 : decode cL_law_ 1146 = .ok (.aload_n 3, 1) := by decide +kernel
theorem dl_1147 : decode cL_law_ 1147 = .ok (.iconst 0, 1) := by decide +kernel
theorem dl_1148 : decode cL_law_ 1148 = .ok (.laload, 1) := by decide +kernel
theorem dl_1149 : decode cL_law_ 1149 = .ok (.iload 6, 2) := by decide +kernel
theorem dl_1151 : decode cL_law_ 1151 = .ok (.i2l, 1) := by decide +kernel
theorem dl_1152 : decode cL_law_ 1152 = .ok (.lcmp, 1) := by decide +kernel
theorem dl_1153 : decode cL_law_ 1153 = .ok (.ifCond .eq 5, 3) := by decide +kernel
theorem dl_1156 : decode cL_law_ 1156 = .ok (.iconst 0, 1) := by decide +kernel
theorem dl_1157 : decode cL_law_ 1157 = .ok (.ireturn, 1) := by decide +kernel
theorem cokl_1141 : COK cL_law_ k_L_law__1141 = true := COK.cons dl_1141 rfl (COK.cons dl_1143 rfl (COK.cons dl_1146 rfl (COK.cons dl_1147 rfl (COK.cons dl_1148 rfl (COK.cons dl_1149 rfl (COK.cons dl_1151 rfl (COK.cons dl_1152 rfl (COK.cons dl_1153 rfl (COK.cons dl_1156 rfl (COK.cons dl_1157 rfl (cokl_1158)))))))))))
theorem dl_1105 : decode cL_law_ 1105 = .ok (.aload_n 1, 1) := by decide +kernel
theorem dl_1106 : decode cL_law_ 1106 = .ok (.aload_n 0, 1) := by decide +kernel
theorem dl_1107 : decode cL_law_ 1107 = .ok (.iload 4, 2) := by decide +kernel
theorem dl_1109 : decode cL_law_ 1109 = .ok (.iconst 1, 1) := by decide +kernel
theorem dl_1110 : decode cL_law_ 1110 = .ok (.iadd, 1) := by decide +kernel
theorem dl_1111 : decode cL_law_ 1111 = .ok (.iaload, 1) := by decide +kernel
theorem dl_1112 : decode cL_law_ 1112 = .ok (.aload_n 3, 1) := by decide +kernel
theorem dl_1113 : decode cL_law_ 1113 = .ok (.invokestatic 185, 3) := by decide +kernel
theorem dl_1116 : decode cL_law_ 1116 = .ok (.istore 5, 2) := by decide +kernel
theorem dl_1118 : decode cL_law_ 1118 = .ok (.aload_n 2, 1) := by decide +kernel
theorem dl_1119 : decode cL_law_ 1119 = .ok (.aload_n 0, 1) := by decide +kernel
theorem dl_1120 : decode cL_law_ 1120 = .ok (.iload 4, 2) := by decide +kernel
theorem dl_1122 : decode cL_law_ 1122 = .ok (.iconst 1, 1) := by decide +kernel
theorem dl_1123 : decode cL_law_ 1123 = .ok (.iadd, 1) := by decide +kernel
theorem dl_1124 : decode cL_law_ 1124 = .ok (.iaload, 1) := by decide +kernel
theorem dl_1125 : decode cL_law_ 1125 = .ok (.invokevirtual 187, 3) := by decide +kernel
theorem dl_1128 : decode cL_law_ 1128 = .ok (.istore 6, 2) := by decide +kernel
theorem dl_1130 : decode cL_law_ 1130 = .ok (.aload_n 2, 1) := by decide +kernel
theorem dl_1131 : decode cL_law_ 1131 = .ok (.invokevirtual 139, 3) := by decide +kernel
theorem dl_1134 : decode cL_law_ 1134 = .ok (.iload 5, 2) := by decide +kernel
theorem dl_1136 : decode cL_law_ 1136 = .ok (.if_icmp .eq 5, 3) := by decide +kernel
theorem dl_1139 : decode cL_law_ 1139 = .ok (.iconst 0, 1) := by decide +kernel
theorem dl_1140 : decode cL_law_ 1140 = .ok (.ireturn, 1) := by decide +kernel
theorem cokl_1105 : COK cL_law_ k_L_law__1105 = true := COK.cons dl_1105 rfl (COK.cons dl_1106 rfl (COK.cons dl_1107 rfl (COK.cons dl_1109 rfl (COK.cons dl_1110 rfl (COK.cons dl_1111 rfl (COK.cons dl_1112 rfl (COK.cons dl_1113 rfl (COK.cons dl_1116 rfl (COK.cons dl_1118 rfl (COK.cons dl_1119 rfl (COK.cons dl_1120 rfl (COK.cons dl_1122 rfl (COK.cons dl_1123 rfl (COK.cons dl_1124 rfl (COK.cons dl_1125 rfl (COK.cons dl_1128 rfl (COK.cons dl_1130 rfl (COK.cons dl_1131 rfl (COK.cons dl_1134 rfl (COK.cons dl_1136 rfl (COK.cons dl_1139 rfl (COK.cons dl_1140 rfl (cokl_1141)))))))))))))))))))))))
theorem dl_1102 : decode cL_law_ 1102 = .ok (.goto 1572, 3) := by decide +kernel
theorem cokl_1102 : COK cL_law_ k_L_law__1102 = true := COK.cons dl_1102 rfl (cokl_1105)
theorem dl_1085 : decode cL_law_ 1085 = .ok (.iload 5, 2) := by decide +kernel
theorem dl_1087 : decode cL_law_ 1087 = .ok (.ifCond .ne 15, 3) := by decide +kernel
theorem dl_1090 : decode cL_law_ 1090 = .ok (.aload_n 3, 1) := by decide +kernel
theorem dl_1091 : decode cL_law_ 1091 = .ok (.iconst 0, 1) := by decide +kernel
theorem dl_1092 : decode cL_law_ 1092 = .ok (.laload, 1) := by decide +kernel
theorem dl_1093 : decode cL_law_ 1093 = .ok (.iload 6, 2) := by decide +kernel
theorem dl_1095 : decode cL_law_ 1095 = .ok (.i2l, 1) := by decide +kernel
theorem dl_1096 : decode cL_law_ 1096 = .ok (.lcmp, 1) := by decide +kernel
theorem dl_1097 : decode cL_law_ 1097 = .ok (.ifCond .eq 5, 3) := by decide +kernel
theorem dl_1100 : decode cL_law_ 1100 = .ok (.iconst 0, 1) := by decide +kernel
theorem dl_1101 : decode cL_law_ 1101 = .ok (.ireturn, 1) := by decide +kernel
theorem cokl_1085 : COK cL_law_ k_L_law__1085 = true := COK.cons dl_1085 rfl (COK.cons dl_1087 rfl (COK.cons dl_1090 rfl (COK.cons dl_1091 rfl (COK.cons dl_1092 rfl (COK.cons dl_1093 rfl (COK.cons dl_1095 rfl (COK.cons dl_1096 rfl (COK.cons dl_1097 rfl (COK.cons dl_1100 rfl (COK.cons dl_1101 rfl (cokl_1102)))))))))))
theorem dl_1049 : decode cL_law_ 1049 = .ok (.aload_n 1, 1) := by decide +kernel
theorem dl_1050 : decode cL_law_ 1050 = .ok (.aload_n 0, 1) := by decide +kernel
theorem dl_1051 : decode cL_law_ 1051 = .ok (.iload 4, 2) := by decide +kernel
theorem dl_1053 : decode cL_law_ 1053 = .ok (.iconst 1, 1) := by decide +kernel
theorem dl_1054 : decode cL_law_ 1054 = .ok (.iadd, 1) := by decide +kernel
theorem dl_1055 : decode cL_law_ 1055 = .ok (.iaload, 1) := by decide +kernel
theorem dl_1056 : decode cL_law_ 1056 = .ok (.aload_n 3, 1) := by decide +kernel
theorem dl_1057 : decode cL_law_ 1057 = .ok (.invokestatic 182, 3) := by decide +kernel
theorem dl_1060 : decode cL_law_ 1060 = .ok (.istore 5, 2) := by decide +kernel
theorem dl_1062 : decode cL_law_ 1062 = .ok (.aload_n 2, 1) := by decide +kernel
theorem dl_1063 : decode cL_law_ 1063 = .ok (.aload_n 0, 1) := by decide +kernel
theorem dl_1064 : decode cL_law_ 1064 = .ok (.iload 4, 2) := by decide +kernel
theorem dl_1066 : decode cL_law_ 1066 = .ok (.iconst 1, 1) := by decide +kernel
theorem dl_1067 : decode cL_law_ 1067 = .ok (.iadd, 1) := by decide +kernel
theorem dl_1068 : decode cL_law_ 1068 = .ok (.iaload, 1) := by decide +kernel
theorem dl_1069 : decode cL_law_ 1069 = .ok (.invokevirtual 184, 3) := by decide +kernel
theorem dl_1072 : decode cL_law_ 1072 = .ok (.istore 6, 2) := by decide +kernel
theorem dl_1074 : decode cL_law_ 1074 = .ok (.aload_n 2, 1) := by decide +kernel
theorem dl_1075 : decode cL_law_ 1075 = .ok (.invokevirtual 139, 3) := by decide +kernel
theorem dl_1078 : decode cL_law_ 1078 = .ok (.iload 5, 2) := by decide +kernel
theorem dl_1080 : decode cL_law_ 1080 = .ok (.if_icmp .eq 5, 3) := by decide +kernel
theorem dl_1083 : decode cL_law_ 1083 = .ok (.iconst 0, 1) := by decide +kernel
theorem dl_1084 : decode cL_law_ 1084 = .ok (.ireturn, 1) := by decide +kernel
theorem cokl_1049 : COK cL_law_ k_L_law__1049 = true := COK.cons dl_1049 rfl (COK.cons dl_1050 rfl (COK.cons dl_1051 rfl (COK.cons dl_1053 rfl (COK.cons dl_1054 rfl (COK.cons dl_1055 rfl (COK.cons dl_1056 rfl (COK.cons dl_1057 rfl (COK.cons dl_1060 rfl (COK.cons dl_1062 rfl (COK.cons dl_1063 rfl (COK.cons dl_1064 rfl (COK.cons dl_1066 rfl (COK.cons dl_1067 rfl (COK.cons dl_1068 rfl (COK.cons dl_1069 rfl (COK.cons dl_1072 rfl (COK.cons dl_1074 rfl (COK.cons dl_1075 rfl (COK.cons dl_1078 rfl (COK.cons dl_1080 rfl (COK.cons dl_1083 rfl (COK.cons dl_1084 rfl (cokl_1085)))))))))))))))))))))))
theorem dl_1046 : decode cL_law_ 1046 = .ok (.goto 1628, 3) := by decide +kernel
theorem cokl_1046 : COK cL_law_ k_L_law__1046 = true := COK.cons dl_1046 rfl (cokl_1049)
theorem dl_1029 : decode cL_law_ 1029 = .ok (.iload 5, 2) := by decide +kernel
theorem dl_1031 : decode cL_law_ 1031 = .ok (.ifCond .ne 15, 3) := by decide +kernel
theorem dl_1034 : decode cL_law_ 1034 = .ok (.aload_n 3, 1) := by decide +kernel
theorem dl_1035 : decode cL_law_ 1035 = .ok (.iconst 0, 1) := by decide +kernel
theorem dl_1036 : decode cL_law_ 1036 = .ok (.laload, 1) := by decide +kernel
theorem dl_1037 : decode cL_law_ 1037 = .ok (.iload 6, 2) := by decide +kernel
theorem dl_1039 : decode cL_law_ 1039 = .ok (.i2l, 1) := by decide +kernel
theorem dl_1040 : decode cL_law_ 1040 = .ok (.lcmp, 1) := by decide +kernel
theorem dl_1041 : decode cL_law_ 1041 = .ok (.ifCond .eq 5, 3) := by decide +kernel
theorem dl_1044 : decode cL_law_ 1044 = .ok (.iconst 0, 1) := by decide +kernel
theorem dl_1045 : decode cL_law_ 1045 = .ok (.ireturn, 1) := by decide +kernel
theorem cokl_1029 : COK cL_law_ k_L_law__1029 = true := COK.cons dl_1029 rfl (COK.cons dl_1031 rfl (COK.cons dl_1034 rfl (COK.cons dl_1035 rfl (COK.cons dl_1036 rfl (COK.cons dl_1037 rfl (COK.cons dl_1039 rfl (COK.cons dl_1040 rfl (COK.cons dl_1041 rfl (COK.cons dl_1044 rfl (COK.cons dl_1045 rfl (cokl_1046)))))))))))
theorem dl_993 : decode cL_law_ 993 = .ok (.aload_n 1, 1) := by decide +kernel
theorem dl_994 : decode cL_law_ 994 = .ok (.aload_n 0, 1) := by decide +kernel
theorem dl_995 : decode cL_law_ 995 = .ok (.iload 4, 2) := by decide +kernel
theorem dl_997 : decode cL_law_ 997 = .ok (.iconst 1, 1) := by decide +kernel
theorem dl_998 : decode cL_law_ 998 = .ok (.iadd, 1) := by decide +kernel
theorem dl_999 : decode cL_law_ 999 = .ok (.iaload, 1) := by decide +kernel
theorem dl_1000 : decode cL_law_ 1000 = .ok (.aload_n 3, 1) := by decide +kernel
theorem dl_1001 : decode cL_law_ 1001 = .ok (.invokestatic 179, 3) := by decide +kernel
theorem dl_1004 : decode cL_law_ 1004 = .ok (.istore 5, 2) := by decide +kernel
theorem dl_1006 : decode cL_law_ 1006 = .ok (.aload_n 2, 1) := by decide +kernel
theorem dl_1007 : decode cL_law_ 1007 = .ok (.aload_n 0, 1) := by decide +kernel
theorem dl_1008 : decode cL_law_ 1008 = .ok (.iload 4, 2) := by decide +kernel
theorem dl_1010 : decode cL_law_ 1010 = .ok (.iconst 1, 1) := by decide +kernel
theorem dl_1011 : decode cL_law_ 1011 = .ok (.iadd, 1) := by decide +kernel
theorem dl_1012 : decode cL_law_ 1012 = .ok (.iaload, 1) := by decide +kernel
theorem dl_1013 : decode cL_law_ 1013 = .ok (.invokevirtual 181, 3) := by decide +kernel
theorem dl_1016 : decode cL_law_ 1016 = .ok (.istore 6, 2) := by decide +kernel
theorem dl_1018 : decode cL_law_ 1018 = .ok (.aload_n 2, 1) := by decide +kernel
theorem dl_1019 : decode cL_law_ 1019 = .ok (.invokevirtual 139, 3) := by decide +kernel
theorem dl_1022 : decode cL_law_ 1022 = .ok (.iload 5, 2) := by decide +kernel
theorem dl_1024 : decode cL_law_ 1024 = .ok (.if_icmp .eq 5, 3) := by decide +kernel
theorem dl_1027 : decode cL_law_ 1027 = .ok (.iconst 0, 1) := by decide +kernel
theorem dl_1028 : decode cL_law_ 1028 = .ok (.ireturn, 1) := by decide +kernel
theorem cokl_993 : COK cL_law_ k_L_law__993 = true := COK.cons dl_993 rfl (COK.cons dl_994 rfl (COK.cons dl_995 rfl (COK.cons dl_997 rfl (COK.cons dl_998 rfl (COK.cons dl_999 rfl (COK.cons dl_1000 rfl (COK.cons dl_1001 rfl (COK.cons dl_1004 rfl (COK.cons dl_1006 rfl (COK.cons dl_1007 rfl (COK.cons dl_1008 rfl (COK.cons dl_1010 rfl (COK.cons dl_1011 rfl (COK.cons dl_1012 rfl (COK.cons dl_1013 rfl (COK.cons dl_1016 rfl (COK.cons dl_1018 rfl (COK.cons dl_1019 rfl (COK.cons dl_1022 rfl (COK.cons dl_1024 rfl (COK.cons dl_1027 rfl (COK.cons dl_1028 rfl (cokl_1029)))))))))))))))))))))))
theorem dl_990 : decode cL_law_ 990 = .ok (.goto 1684, 3) := by decide +kernel
theorem cokl_990 : COK cL_law_ k_L_law__990 = true := COK.cons dl_990 rfl (cokl_993)
theorem dl_984 : decode cL_law_ 984 = .ok (.lcmp, 1) := by decide +kernel
theorem dl_985 : decode cL_law_ 985 = .ok (.ifCond .eq 5, 3) := by decide +kernel
theorem dl_988 : decode cL_law_ 988 = .ok (.iconst 0, 1) := by decide +kernel
theorem dl_989 : decode cL_law_ 989 = .ok (.ireturn, 1) := by decide +kernel
theorem cokl_984 : COK cL_law_ k_L_law__984 = true := COK.cons dl_984 rfl (COK.cons dl_985 rfl (COK.cons dl_988 rfl (COK.cons dl_989 rfl (cokl_990))))
theorem dl_983 : decode cL_law_ 983 = .ok (.lconst 0, 1) := by decide +kernel
theorem cokl_983 : COK cL_law_ k_L_law__983 = true := COK.cons dl_983 rfl (cokl_984)
theorem dl_966 : decode cL_law_ 966 = .ok (.iload 5, 2) := by decide +kernel
theorem dl_968 : decode cL_law_ 968 = .ok (.ifCond .ne 22, 3) := by decide +kernel
theorem dl_971 : decode cL_law_ 971 = .ok (.aload_n 3, 1) := by decide +kernel
theorem dl_972 : decode cL_law_ 972 = .ok (.iconst 0, 1) := by decide +kernel
theorem dl_973 : decode cL_law_ 973 = .ok (.laload, 1) := by decide +kernel
theorem dl_974 : decode cL_law_ 974 = .ok (.iload 6, 2) := by decide +kernel
theorem dl_976 : decode cL_law_ 976 = .ok (.ifCond .eq 7, 3) := by decide +kernel
theorem dl_979 : decode cL_law_ 979 = .ok (.lconst 1, 1) := by decide +kernel
theorem dl_980 : decode cL_law_ 980 = .ok (.goto 4, 3) := by decide +kernel
theorem cokl_966 : COK cL_law_ k_L_law__966 = true := COK.cons dl_966 rfl (COK.cons dl_968 rfl (COK.cons dl_971 rfl (COK.cons dl_972 rfl (COK.cons dl_973 rfl (COK.cons dl_974 rfl (COK.cons dl_976 rfl (COK.cons dl_979 rfl (COK.cons dl_980 rfl (cokl_983)))))))))
theorem dl_930 : decode cL_law_ 930 = .ok (.aload_n 1, 1) := by decide +kernel
theorem dl_931 : decode cL_law_ 931 = .ok (.aload_n 0, 1) := by decide +kernel
theorem dl_932 : decode cL_law_ 932 = .ok (.iload 4, 2) := by decide +kernel
theorem dl_934 : decode cL_law_ 934 = .ok (.iconst 1, 1) := by decide +kernel
theorem dl_935 : decode cL_law_ 935 = .ok (.iadd, 1) := by decide +kernel
theorem dl_936 : decode cL_law_ 936 = .ok (.iaload, 1) := by decide +kernel
theorem dl_937 : decode cL_law_ 937 = .ok (.aload_n 3, 1) := by decide +kernel
theorem dl_938 : decode cL_law_ 938 = .ok (.invokestatic 176, 3) := by decide +kernel
theorem dl_941 : decode cL_law_ 941 = .ok (.istore 5, 2) := by decide +kernel
theorem dl_943 : decode cL_law_ 943 = .ok (.aload_n 2, 1) := by decide +kernel
theorem dl_944 : decode cL_law_ 944 = .ok (.aload_n 0, 1) := by decide +kernel
theorem dl_945 : decode cL_law_ 945 = .ok (.iload 4, 2) := by decide +kernel
theorem dl_947 : decode cL_law_ 947 = .ok (.iconst 1, 1) := by decide +kernel
theorem dl_948 : decode cL_law_ 948 = .ok (.iadd, 1) := by decide +kernel
theorem dl_949 : decode cL_law_ 949 = .ok (.iaload, 1) := by decide +kernel
theorem dl_950 : decode cL_law_ 950 = .ok (.invokevirtual 178, 3) := by decide +kernel
theorem dl_953 : decode cL_law_ 953 = .ok (.istore 6, 2) := by decide +kernel
theorem dl_955 : decode cL_law_ 955 = .ok (.aload_n 2, 1) := by decide +kernel
theorem dl_956 : decode cL_law_ 956 = .ok (.invokevirtual 139, 3) := by decide +kernel
theorem dl_959 : decode cL_law_ 959 = .ok (.iload 5, 2) := by decide +kernel
theorem dl_961 : decode cL_law_ 961 = .ok (.if_icmp .eq 5, 3) := by decide +kernel
theorem dl_964 : decode cL_law_ 964 = .ok (.iconst 0, 1) := by decide +kernel
theorem dl_965 : decode cL_law_ 965 = .ok (.ireturn, 1) := by decide +kernel
theorem cokl_930 : COK cL_law_ k_L_law__930 = true := COK.cons dl_930 rfl (COK.cons dl_931 rfl (COK.cons dl_932 rfl (COK.cons dl_934 rfl (COK.cons dl_935 rfl (COK.cons dl_936 rfl (COK.cons dl_937 rfl (COK.cons dl_938 rfl (COK.cons dl_941 rfl (COK.cons dl_943 rfl (COK.cons dl_944 rfl (COK.cons dl_945 rfl (COK.cons dl_947 rfl (COK.cons dl_948 rfl (COK.cons dl_949 rfl (COK.cons dl_950 rfl (COK.cons dl_953 rfl (COK.cons dl_955 rfl (COK.cons dl_956 rfl (COK.cons dl_959 rfl (COK.cons dl_961 rfl (COK.cons dl_964 rfl (COK.cons dl_965 rfl (cokl_966)))))))))))))))))))))))
theorem dl_927 : decode cL_law_ 927 = .ok (.goto 1747, 3) := by decide +kernel
theorem cokl_927 : COK cL_law_ k_L_law__927 = true := COK.cons dl_927 rfl (cokl_930)
theorem dl_910 : decode cL_law_ 910 = .ok (.iload 5, 2) := by decide +kernel
theorem dl_912 : decode cL_law_ 912 = .ok (.ifCond .ne 15, 3) := by decide +kernel
theorem dl_915 : decode cL_law_ 915 = .ok (.aload_n 3, 1) := by decide +kernel
theorem dl_916 : decode cL_law_ 916 = .ok (.iconst 0, 1) := by decide +kernel
theorem dl_917 : decode cL_law_ 917 = .ok (.laload, 1) := by decide +kernel
theorem dl_918 : decode cL_law_ 918 = .ok (.iload 6, 2) := by decide +kernel
theorem dl_920 : decode cL_law_ 920 = .ok (.i2l, 1) := by decide +kernel
theorem dl_921 : decode cL_law_ 921 = .ok (.lcmp, 1) := by decide +kernel
theorem dl_922 : decode cL_law_ 922 = .ok (.ifCond .eq 5, 3) := by decide +kernel
theorem dl_925 : decode cL_law_ 925 = .ok (.iconst 0, 1) := by decide +kernel
theorem dl_926 : decode cL_law_ 926 = .ok (.ireturn, 1) := by decide +kernel
theorem cokl_910 : COK cL_law_ k_L_law__910 = true := COK.cons dl_910 rfl (COK.cons dl_912 rfl (COK.cons dl_915 rfl (COK.cons dl_916 rfl (COK.cons dl_917 rfl (COK.cons dl_918 rfl (COK.cons dl_920 rfl (COK.cons dl_921 rfl (COK.cons dl_922 rfl (COK.cons dl_925 rfl (COK.cons dl_926 rfl (cokl_927)))))))))))
theorem dl_874 : decode cL_law_ 874 = .ok (.aload_n 1, 1) := by decide +kernel
theorem dl_875 : decode cL_law_ 875 = .ok (.aload_n 0, 1) := by decide +kernel
theorem dl_876 : decode cL_law_ 876 = .ok (.iload 4, 2) := by decide +kernel
theorem dl_878 : decode cL_law_ 878 = .ok (.iconst 1, 1) := by decide +kernel
theorem dl_879 : decode cL_law_ 879 = .ok (.iadd, 1) := by decide +kernel
theorem dl_880 : decode cL_law_ 880 = .ok (.iaload, 1) := by decide +kernel
theorem dl_881 : decode cL_law_ 881 = .ok (.aload_n 3, 1) := by decide +kernel
theorem dl_882 : decode cL_law_ 882 = .ok (.invokestatic 173, 3) := by decide +kernel
theorem dl_885 : decode cL_law_ 885 = .ok (.istore 5, 2) := by decide +kernel
theorem dl_887 : decode cL_law_ 887 = .ok (.aload_n 2, 1) := by decide +kernel
theorem dl_888 : decode cL_law_ 888 = .ok (.aload_n 0, 1) := by decide +kernel
theorem dl_889 : decode cL_law_ 889 = .ok (.iload 4, 2) := by decide +kernel
theorem dl_891 : decode cL_law_ 891 = .ok (.iconst 1, 1) := by decide +kernel
theorem dl_892 : decode cL_law_ 892 = .ok (.iadd, 1) := by decide +kernel
theorem dl_893 : decode cL_law_ 893 = .ok (.iaload, 1) := by decide +kernel
theorem dl_894 : decode cL_law_ 894 = .ok (.invokevirtual 175, 3) := by decide +kernel
theorem dl_897 : decode cL_law_ 897 = .ok (.istore 6, 2) := by decide +kernel
theorem dl_899 : decode cL_law_ 899 = .ok (.aload_n 2, 1) := by decide +kernel
theorem dl_900 : decode cL_law_ 900 = .ok (.invokevirtual 139, 3) := by decide +kernel
theorem dl_903 : decode cL_law_ 903 = .ok (.iload 5, 2) := by decide +kernel
theorem dl_905 : decode cL_law_ 905 = .ok (.if_icmp .eq 5, 3) := by decide +kernel
theorem dl_908 : decode cL_law_ 908 = .ok (.iconst 0, 1) := by decide +kernel
theorem dl_909 : decode cL_law_ 909 = .ok (.ireturn, 1) := by decide +kernel
theorem cokl_874 : COK cL_law_ k_L_law__874 = true := COK.cons dl_874 rfl (COK.cons dl_875 rfl (COK.cons dl_876 rfl (COK.cons dl_878 rfl (COK.cons dl_879 rfl (COK.cons dl_880 rfl (COK.cons dl_881 rfl (COK.cons dl_882 rfl (COK.cons dl_885 rfl (COK.cons dl_887 rfl (COK.cons dl_888 rfl (COK.cons dl_889 rfl (COK.cons dl_891 rfl (COK.cons dl_892 rfl (COK.cons dl_893 rfl (COK.cons dl_894 rfl (COK.cons dl_897 rfl (COK.cons dl_899 rfl (COK.cons dl_900 rfl (COK.cons dl_903 rfl (COK.cons dl_905 rfl (COK.cons dl_908 rfl (COK.cons dl_909 rfl (cokl_910)))))))))))))))))))))))
theorem dl_871 : decode cL_law_ 871 = .ok (.goto 1803, 3) := by decide +kernel
theorem cokl_871 : COK cL_law_ k_L_law__871 = true := COK.cons dl_871 rfl (cokl_874)
theorem dl_854 : decode cL_law_ 854 = .ok (.iload 5, 2) := by decide +kernel
theorem dl_856 : decode cL_law_ 856 = .ok (.ifCond .ne 15, 3) := by decide +kernel
theorem dl_859 : decode cL_law_ 859 = .ok (.aload_n 3, 1) := by decide +kernel
theorem dl_860 : decode cL_law_ 860 = .ok (.iconst 0, 1) := by decide +kernel
theorem dl_861 : decode cL_law_ 861 = .ok (.laload, 1) := by decide +kernel
theorem dl_862 : decode cL_law_ 862 = .ok (.iload 6, 2) := by decide +kernel
theorem dl_864 : decode cL_law_ 864 = .ok (.i2l, 1) := by decide +kernel
theorem dl_865 : decode cL_law_ 865 = .ok (.lcmp, 1) := by decide +kernel
theorem dl_866 : decode cL_law_ 866 = .ok (.ifCond .eq 5, 3) := by decide +kernel
theorem dl_869 : decode cL_law_ 869 = .ok (.iconst 0, 1) := by decide +kernel
theorem dl_870 : decode cL_law_ 870 = .ok (.ireturn, 1) := by decide +kernel
theorem cokl_854 : COK cL_law_ k_L_law__854 = true := COK.cons dl_854 rfl (COK.cons dl_856 rfl (COK.cons dl_859 rfl (COK.cons dl_860 rfl (COK.cons dl_861 rfl (COK.cons dl_862 rfl (COK.cons dl_864 rfl (COK.cons dl_865 rfl (COK.cons dl_866 rfl (COK.cons dl_869 rfl (COK.cons dl_870 rfl (cokl_871)))))))))))
theorem dl_806 : decode cL_law_ 806 = .ok (.aload_n 1, 1) := by decide +kernel
theorem dl_807 : decode cL_law_ 807 = .ok (.aload_n 0, 1) := by decide +kernel
theorem dl_808 : decode cL_law_ 808 = .ok (.iload 4, 2) := by decide +kernel
theorem dl_810 : decode cL_law_ 810 = .ok (.iconst 1, 1) := by decide +kernel
theorem dl_811 : decode cL_law_ 811 = .ok (.iadd, 1) := by decide +kernel
theorem dl_812 : decode cL_law_ 812 = .ok (.iaload, 1) := by decide +kernel
theorem dl_813 : decode cL_law_ 813 = .ok (.aload_n 0, 1) := by decide +kernel
theorem dl_814 : decode cL_law_ 814 = .ok (.iload 4, 2) := by decide +kernel
theorem dl_816 : decode cL_law_ 816 = .ok (.iconst 2, 1) := by decide +kernel
theorem dl_817 : decode cL_law_ 817 = .ok (.iadd, 1) := by decide +kernel
theorem dl_818 : decode cL_law_ 818 = .ok (.iaload, 1) := by decide +kernel
theorem dl_819 : decode cL_law_ 819 = .ok (.aload_n 3, 1) := by decide +kernel
theorem dl_820 : decode cL_law_ 820 = .ok (.invokestatic 170, 3) := by decide +kernel
theorem dl_823 : decode cL_law_ 823 = .ok (.istore 5, 2) := by decide +kernel
theorem dl_825 : decode cL_law_ 825 = .ok (.aload_n 2, 1) := by decide +kernel
theorem dl_826 : decode cL_law_ 826 = .ok (.aload_n 0, 1) := by decide +kernel
theorem dl_827 : decode cL_law_ 827 = .ok (.iload 4, 2) := by decide +kernel
theorem dl_829 : decode cL_law_ 829 = .ok (.iconst 1, 1) := by decide +kernel
theorem dl_830 : decode cL_law_ 830 = .ok (.iadd, 1) := by decide +kernel
theorem dl_831 : decode cL_law_ 831 = .ok (.iaload, 1) := by decide +kernel
theorem dl_832 : decode cL_law_ 832 = .ok (.aload_n 0, 1) := by decide +kernel
theorem dl_833 : decode cL_law_ 833 = .ok (.iload 4, 2) := by decide +kernel
theorem dl_835 : decode cL_law_ 835 = .ok (.iconst 2, 1) := by decide +kernel
theorem dl_836 : decode cL_law_ 836 = .ok (.iadd, 1) := by decide +kernel
theorem dl_837 : decode cL_law_ 837 = .ok (.iaload, 1) := by decide +kernel
theorem dl_838 : decode cL_law_ 838 = .ok (.invokevirtual 172, 3) := by decide +kernel
theorem dl_841 : decode cL_law_ 841 = .ok (.istore 6, 2) := by decide +kernel
theorem dl_843 : decode cL_law_ 843 = .ok (.aload_n 2, 1) := by decide +kernel
theorem dl_844 : decode cL_law_ 844 = .ok (.invokevirtual 139, 3) := by decide +kernel
theorem dl_847 : decode cL_law_ 847 = .ok (.iload 5, 2) := by decide +kernel
theorem dl_849 : decode cL_law_ 849 = .ok (.if_icmp .eq 5, 3) := by decide +kernel
theorem dl_852 : decode cL_law_ 852 = .ok (.iconst 0, 1) := by decide +kernel
theorem dl_853 : decode cL_law_ 853 = .ok (.ireturn, 1) := by decide +kernel
theorem cokl_806 : COK cL_law_ k_L_law__806 = true := COK.cons dl_806 rfl (COK.cons dl_807 rfl (COK.cons dl_808 rfl (COK.cons dl_810 rfl (COK.cons dl_811 rfl (COK.cons dl_812 rfl (COK.cons dl_813 rfl (COK.cons dl_814 rfl (COK.cons dl_816 rfl (COK.cons dl_817 rfl (COK.cons dl_818 rfl (COK.cons dl_819 rfl (COK.cons dl_820 rfl (COK.cons dl_823 rfl (COK.cons dl_825 rfl (COK.cons dl_826 rfl (COK.cons dl_827 rfl (COK.cons dl_829 rfl (COK.cons dl_830 rfl (COK.cons dl_831 rfl (COK.cons dl_832 rfl (COK.cons dl_833 rfl (COK.cons dl_835 rfl (COK.cons dl_836 rfl (COK.cons dl_837 rfl (COK.cons dl_838 rfl (COK.cons dl_841 rfl (COK.cons dl_843 rfl (COK.cons dl_844 rfl (COK.cons dl_847 rfl (COK.cons dl_849 rfl (COK.cons dl_852 rfl (COK.cons dl_853 rfl (cokl_854)))))))))))))))))))))))))))))))))
theorem dl_803 : decode cL_law_ 803 = .ok (.goto 1871, 3) := by decide +kernel
theorem cokl_803 : COK cL_law_ k_L_law__803 = true := COK.cons dl_803 rfl (cokl_806)
theorem dl_786 : decode cL_law_ 786 = .ok (.iload 5, 2) := by decide +kernel
theorem dl_788 : decode cL_law_ 788 = .ok (.ifCond .ne 15, 3) := by decide +kernel
theorem dl_791 : decode cL_law_ 791 = .ok (.aload_n 3, 1) := by decide +kernel
theorem dl_792 : decode cL_law_ 792 = .ok (.iconst 0, 1) := by decide +kernel
theorem dl_793 : decode cL_law_ 793 = .ok (.laload, 1) := by decide +kernel
theorem dl_794 : decode cL_law_ 794 = .ok (.iload 6, 2) := by decide +kernel
theorem dl_796 : decode cL_law_ 796 = .ok (.i2l, 1) := by decide +kernel
theorem dl_797 : decode cL_law_ 797 = .ok (.lcmp, 1) := by decide +kernel
theorem dl_798 : decode cL_law_ 798 = .ok (.ifCond .eq 5, 3) := by decide +kernel
theorem dl_801 : decode cL_law_ 801 = .ok (.iconst 0, 1) := by decide +kernel
theorem dl_802 : decode cL_law_ 802 = .ok (.ireturn, 1) := by decide +kernel
theorem cokl_786 : COK cL_law_ k_L_law__786 = true := COK.cons dl_786 rfl (COK.cons dl_788 rfl (COK.cons dl_791 rfl (COK.cons dl_792 rfl (COK.cons dl_793 rfl (COK.cons dl_794 rfl (COK.cons dl_796 rfl (COK.cons dl_797 rfl (COK.cons dl_798 rfl (COK.cons dl_801 rfl (COK.cons dl_802 rfl (cokl_803)))))))))))
theorem dl_750 : decode cL_law_ 750 = .ok (.aload_n 1, 1) := by decide +kernel
theorem dl_751 : decode cL_law_ 751 = .ok (.aload_n 0, 1) := by decide +kernel
theorem dl_752 : decode cL_law_ 752 = .ok (.iload 4, 2) := by decide +kernel
theorem dl_754 : decode cL_law_ 754 = .ok (.iconst 1, 1) := by decide +kernel
theorem dl_755 : decode cL_law_ 755 = .ok (.iadd, 1) := by decide +kernel
theorem dl_756 : decode cL_law_ 756 = .ok (.iaload, 1) := by decide +kernel
theorem dl_757 : decode cL_law_ 757 = .ok (.aload_n 3, 1) := by decide +kernel
theorem dl_758 : decode cL_law_ 758 = .ok (.invokestatic 167, 3) := by decide +kernel
theorem dl_761 : decode cL_law_ 761 = .ok (.istore 5, 2) := by decide +kernel
theorem dl_763 : decode cL_law_ 763 = .ok (.aload_n 2, 1) := by decide +kernel
theorem dl_764 : decode cL_law_ 764 = .ok (.aload_n 0, 1) := by decide +kernel
theorem dl_765 : decode cL_law_ 765 = .ok (.iload 4, 2) := by decide +kernel
theorem dl_767 : decode cL_law_ 767 = .ok (.iconst 1, 1) := by decide +kernel
theorem dl_768 : decode cL_law_ 768 = .ok (.iadd, 1) := by decide +kernel
theorem dl_769 : decode cL_law_ 769 = .ok (.iaload, 1) := by decide +kernel
theorem dl_770 : decode cL_law_ 770 = .ok (.invokevirtual 169, 3) := by decide +kernel
theorem dl_773 : decode cL_law_ 773 = .ok (.istore 6, 2) := by decide +kernel
theorem dl_775 : decode cL_law_ 775 = .ok (.aload_n 2, 1) := by decide +kernel
theorem dl_776 : decode cL_law_ 776 = .ok (.invokevirtual 139, 3) := by decide +kernel
theorem dl_779 : decode cL_law_ 779 = .ok (.iload 5, 2) := by decide +kernel
theorem dl_781 : decode cL_law_ 781 = .ok (.if_icmp .eq 5, 3) := by decide +kernel
theorem dl_784 : decode cL_law_ 784 = .ok (.iconst 0, 1) := by decide +kernel
theorem dl_785 : decode cL_law_ 785 = .ok (.ireturn, 1) := by decide +kernel
theorem cokl_750 : COK cL_law_ k_L_law__750 = true := COK.cons dl_750 rfl (COK.cons dl_751 rfl (COK.cons dl_752 rfl (COK.cons dl_754 rfl (COK.cons dl_755 rfl (COK.cons dl_756 rfl (COK.cons dl_757 rfl (COK.cons dl_758 rfl (COK.cons dl_761 rfl (COK.cons dl_763 rfl (COK.cons dl_764 rfl (COK.cons dl_765 rfl (COK.cons dl_767 rfl (COK.cons dl_768 rfl (COK.cons dl_769 rfl (COK.cons dl_770 rfl (COK.cons dl_773 rfl (COK.cons dl_775 rfl (COK.cons dl_776 rfl (COK.cons dl_779 rfl (COK.cons dl_781 rfl (COK.cons dl_784 rfl (COK.cons dl_785 rfl (cokl_786)))))))))))))))))))))))
theorem dl_747 : decode cL_law_ 747 = .ok (.goto 1927, 3) := by decide +kernel
theorem cokl_747 : COK cL_law_ k_L_law__747 = true := COK.cons dl_747 rfl (cokl_750)
theorem dl_730 : decode cL_law_ 730 = .ok (.iload 5, 2) := by decide +kernel
theorem dl_732 : decode cL_law_ 732 = .ok (.ifCond .ne 15, 3) := by decide +kernel
theorem dl_735 : decode cL_law_ 735 = .ok (.aload_n 3, 1) := by decide +kernel
theorem dl_736 : decode cL_law_ 736 = .ok (.iconst 0, 1) := by decide +kernel
theorem dl_737 : decode cL_law_ 737 = .ok (.laload, 1) := by decide +kernel
theorem dl_738 : decode cL_law_ 738 = .ok (.iload 6, 2) := by decide +kernel
theorem dl_740 : decode cL_law_ 740 = .ok (.i2l, 1) := by decide +kernel
theorem dl_741 : decode cL_law_ 741 = .ok (.lcmp, 1) := by decide +kernel
theorem dl_742 : decode cL_law_ 742 = .ok (.ifCond .eq 5, 3) := by decide +kernel
theorem dl_745 : decode cL_law_ 745 = .ok (.iconst 0, 1) := by decide +kernel
theorem dl_746 : decode cL_law_ 746 = .ok (.ireturn, 1) := by decide +kernel
theorem cokl_730 : COK cL_law_ k_L_law__730 = true := COK.cons dl_730 rfl (COK.cons dl_732 rfl (COK.cons dl_735 rfl (COK.cons dl_736 rfl (COK.cons dl_737 rfl (COK.cons dl_738 rfl (COK.cons dl_740 rfl (COK.cons dl_741 rfl (COK.cons dl_742 rfl (COK.cons dl_745 rfl (COK.cons dl_746 rfl (cokl_747)))))))))))
theorem dl_694 : decode cL_law_ 694 = .ok (.aload_n 1, 1) := by decide +kernel
theorem dl_695 : decode cL_law_ 695 = .ok (.aload_n 0, 1) := by decide +kernel
theorem dl_696 : decode cL_law_ 696 = .ok (.iload 4, 2) := by decide +kernel
theorem dl_698 : decode cL_law_ 698 = .ok (.iconst 1, 1) := by decide +kernel
theorem dl_699 : decode cL_law_ 699 = .ok (.iadd, 1) := by decide +kernel
theorem dl_700 : decode cL_law_ 700 = .ok (.iaload, 1) := by decide +kernel
theorem dl_701 : decode cL_law_ 701 = .ok (.aload_n 3, 1) := by decide +kernel
theorem dl_702 : decode cL_law_ 702 = .ok (.invokestatic 164, 3) := by decide +kernel
theorem dl_705 : decode cL_law_ 705 = .ok (.istore 5, 2) := by decide +kernel
theorem dl_707 : decode cL_law_ 707 = .ok (.aload_n 2, 1) := by decide +kernel
theorem dl_708 : decode cL_law_ 708 = .ok (.aload_n 0, 1) := by decide +kernel
theorem dl_709 : decode cL_law_ 709 = .ok (.iload 4, 2) := by decide +kernel
theorem dl_711 : decode cL_law_ 711 = .ok (.iconst 1, 1) := by decide +kernel
theorem dl_712 : decode cL_law_ 712 = .ok (.iadd, 1) := by decide +kernel
theorem dl_713 : decode cL_law_ 713 = .ok (.iaload, 1) := by decide +kernel
theorem dl_714 : decode cL_law_ 714 = .ok (.invokevirtual 166, 3) := by decide +kernel
theorem dl_717 : decode cL_law_ 717 = .ok (.istore 6, 2) := by decide +kernel
theorem dl_719 : decode cL_law_ 719 = .ok (.aload_n 2, 1) := by decide +kernel
theorem dl_720 : decode cL_law_ 720 = .ok (.invokevirtual 139, 3) := by decide +kernel
theorem dl_723 : decode cL_law_ 723 = .ok (.iload 5, 2) := by decide +kernel
theorem dl_725 : decode cL_law_ 725 = .ok (.if_icmp .eq 5, 3) := by decide +kernel
theorem dl_728 : decode cL_law_ 728 = .ok (.iconst 0, 1) := by decide +kernel
theorem dl_729 : decode cL_law_ 729 = .ok (.ireturn, 1) := by decide +kernel
theorem cokl_694 : COK cL_law_ k_L_law__694 = true := COK.cons dl_694 rfl (COK.cons dl_695 rfl (COK.cons dl_696 rfl (COK.cons dl_698 rfl (COK.cons dl_699 rfl (COK.cons dl_700 rfl (COK.cons dl_701 rfl (COK.cons dl_702 rfl (COK.cons dl_705 rfl (COK.cons dl_707 rfl (COK.cons dl_708 rfl (COK.cons dl_709 rfl (COK.cons dl_711 rfl (COK.cons dl_712 rfl (COK.cons dl_713 rfl (COK.cons dl_714 rfl (COK.cons dl_717 rfl (COK.cons dl_719 rfl (COK.cons dl_720 rfl (COK.cons dl_723 rfl (COK.cons dl_725 rfl (COK.cons dl_728 rfl (COK.cons dl_729 rfl (cokl_730)))))))))))))))))))))))
theorem dl_691 : decode cL_law_ 691 = .ok (.goto 1983, 3) := by decide +kernel
theorem cokl_691 : COK cL_law_ k_L_law__691 = true := COK.cons dl_691 rfl (cokl_694)
theorem dl_674 : decode cL_law_ 674 = .ok (.iload 5, 2) := by decide +kernel
theorem dl_676 : decode cL_law_ 676 = .ok (.ifCond .ne 15, 3) := by decide +kernel
theorem dl_679 : decode cL_law_ 679 = .ok (.aload_n 3, 1) := by decide +kernel
theorem dl_680 : decode cL_law_ 680 = .ok (.iconst 0, 1) := by decide +kernel
theorem dl_681 : decode cL_law_ 681 = .ok (.laload, 1) := by decide +kernel
theorem dl_682 : decode cL_law_ 682 = .ok (.iload 6, 2) := by decide +kernel
theorem dl_684 : decode cL_law_ 684 = .ok (.i2l, 1) := by decide +kernel
theorem dl_685 : decode cL_law_ 685 = .ok (.lcmp, 1) := by decide +kernel
theorem dl_686 : decode cL_law_ 686 = .ok (.ifCond .eq 5, 3) := by decide +kernel
theorem dl_689 : decode cL_law_ 689 = .ok (.iconst 0, 1) := by decide +kernel
theorem dl_690 : decode cL_law_ 690 = .ok (.ireturn, 1) := by decide +kernel
theorem cokl_674 : COK cL_law_ k_L_law__674 = true := COK.cons dl_674 rfl (COK.cons dl_676 rfl (COK.cons dl_679 rfl (COK.cons dl_680 rfl (COK.cons dl_681 rfl (COK.cons dl_682 rfl (COK.cons dl_684 rfl (COK.cons dl_685 rfl (COK.cons dl_686 rfl (COK.cons dl_689 rfl (COK.cons dl_690 rfl (cokl_691)))))))))))
theorem dl_614 : decode cL_law_ 614 = .ok (.aload_n 1, 1) := by decide +kernel
theorem dl_615 : decode cL_law_ 615 = .ok (.aload_n 0, 1) := by decide +kernel
theorem dl_616 : decode cL_law_ 616 = .ok (.iload 4, 2) := by decide +kernel
theorem dl_618 : decode cL_law_ 618 = .ok (.iconst 1, 1) := by decide +kernel
theorem dl_619 : decode cL_law_ 619 = .ok (.iadd, 1) := by decide +kernel
theorem dl_620 : decode cL_law_ 620 = .ok (.iaload, 1) := by decide +kernel
theorem dl_621 : decode cL_law_ 621 = .ok (.aload_n 0, 1) := by decide +kernel
theorem dl_622 : decode cL_law_ 622 = .ok (.iload 4, 2) := by decide +kernel
theorem dl_624 : decode cL_law_ 624 = .ok (.iconst 2, 1) := by decide +kernel
theorem dl_625 : decode cL_law_ 625 = .ok (.iadd, 1) := by decide +kernel
theorem dl_626 : decode cL_law_ 626 = .ok (.iaload, 1) := by decide +kernel
theorem dl_627 : decode cL_law_ 627 = .ok (.aload_n 0, 1) := by decide +kernel
theorem dl_628 : decode cL_law_ 628 = .ok (.iload 4, 2) := by decide +kernel
theorem dl_630 : decode cL_law_ 630 = .ok (.iconst 3, 1) := by decide +kernel
theorem dl_631 : decode cL_law_ 631 = .ok (.iadd, 1) := by decide +kernel
theorem dl_632 : decode cL_law_ 632 = .ok (.iaload, 1) := by decide +kernel
theorem dl_633 : decode cL_law_ 633 = .ok (.aload_n 3, 1) := by decide +kernel
theorem dl_634 : decode cL_law_ 634 = .ok (.invokestatic 160, 3) := by decide +kernel
theorem dl_637 : decode cL_law_ 637 = .ok (.istore 5, 2) := by decide +kernel
theorem dl_639 : decode cL_law_ 639 = .ok (.aload_n 2, 1) := by decide +kernel
theorem dl_640 : decode cL_law_ 640 = .ok (.aload_n 0, 1) := by decide +kernel
theorem dl_641 : decode cL_law_ 641 = .ok (.iload 4, 2) := by decide +kernel
theorem dl_643 : decode cL_law_ 643 = .ok (.iconst 1, 1) := by decide +kernel
theorem dl_644 : decode cL_law_ 644 = .ok (.iadd, 1) := by decide +kernel
theorem dl_645 : decode cL_law_ 645 = .ok (.iaload, 1) := by decide +kernel
theorem dl_646 : decode cL_law_ 646 = .ok (.aload_n 0, 1) := by decide +kernel
theorem dl_647 : decode cL_law_ 647 = .ok (.iload 4, 2) := by decide +kernel
theorem dl_649 : decode cL_law_ 649 = .ok (.iconst 2, 1) := by decide +kernel
theorem dl_650 : decode cL_law_ 650 = .ok (.iadd, 1) := by decide +kernel
theorem dl_651 : decode cL_law_ 651 = .ok (.iaload, 1) := by decide +kernel
theorem dl_652 : decode cL_law_ 652 = .ok (.aload_n 0, 1) := by decide +kernel
theorem dl_653 : decode cL_law_ 653 = .ok (.iload 4, 2) := by decide +kernel
theorem dl_655 : decode cL_law_ 655 = .ok (.iconst 3, 1) := by decide +kernel
theorem dl_656 : decode cL_law_ 656 = .ok (.iadd, 1) := by decide +kernel
theorem dl_657 : decode cL_law_ 657 = .ok (.iaload, 1) := by decide +kernel
theorem dl_658 : decode cL_law_ 658 = .ok (.invokevirtual 163, 3) := by decide +kernel
theorem dl_661 : decode cL_law_ 661 = .ok (.istore 6, 2) := by decide +kernel
theorem dl_663 : decode cL_law_ 663 = .ok (.aload_n 2, 1) := by decide +kernel
theorem dl_664 : decode cL_law_ 664 = .ok (.invokevirtual 139, 3) := by decide +kernel
theorem dl_667 : decode cL_law_ 667 = .ok (.iload 5, 2) := by decide +kernel
theorem dl_669 : decode cL_law_ 669 = .ok (.if_icmp .eq 5, 3) := by decide +kernel
theorem dl_672 : decode cL_law_ 672 = .ok (.iconst 0, 1) := by decide +kernel
theorem dl_673 : decode cL_law_ 673 = .ok (.ireturn, 1) := by decide +kernel
theorem cokl_614 : COK cL_law_ k_L_law__614 = true := COK.cons dl_614 rfl (COK.cons dl_615 rfl (COK.cons dl_616 rfl (COK.cons dl_618 rfl (COK.cons dl_619 rfl (COK.cons dl_620 rfl (COK.cons dl_621 rfl (COK.cons dl_622 rfl (COK.cons dl_624 rfl (COK.cons dl_625 rfl (COK.cons dl_626 rfl (COK.cons dl_627 rfl (COK.cons dl_628 rfl (COK.cons dl_630 rfl (COK.cons dl_631 rfl (COK.cons dl_632 rfl (COK.cons dl_633 rfl (COK.cons dl_634 rfl (COK.cons dl_637 rfl (COK.cons dl_639 rfl (COK.cons dl_640 rfl (COK.cons dl_641 rfl (COK.cons dl_643 rfl (COK.cons dl_644 rfl (COK.cons dl_645 rfl (COK.cons dl_646 rfl (COK.cons dl_647 rfl (COK.cons dl_649 rfl (COK.cons dl_650 rfl (COK.cons dl_651 rfl (COK.cons dl_652 rfl (COK.cons dl_653 rfl (COK.cons dl_655 rfl (COK.cons dl_656 rfl (COK.cons dl_657 rfl (COK.cons dl_658 rfl (COK.cons dl_661 rfl (COK.cons dl_663 rfl (COK.cons dl_664 rfl (COK.cons dl_667 rfl (COK.cons dl_669 rfl (COK.cons dl_672 rfl (COK.cons dl_673 rfl (cokl_674)))))))))))))))))))))))))))))))))))))))))))
theorem dl_611 : decode cL_law_ 611 = .ok (.goto 2063, 3) := by decide +kernel
theorem cokl_611 : COK cL_law_ k_L_law__611 = true := COK.cons dl_611 rfl (cokl_614)
theorem dl_594 : decode cL_law_ 594 = .ok (.iload 5, 2) := by decide +kernel
theorem dl_596 : decode cL_law_ 596 = .ok (.ifCond .ne 15, 3) := by decide +kernel
theorem dl_599 : decode cL_law_ 599 = .ok (.aload_n 3, 1) := by decide +kernel
theorem dl_600 : decode cL_law_ 600 = .ok (.iconst 0, 1) := by decide +kernel
theorem dl_601 : decode cL_law_ 601 = .ok (.laload, 1) := by decide +kernel
theorem dl_602 : decode cL_law_ 602 = .ok (.iload 6, 2) := by decide +kernel
theorem dl_604 : decode cL_law_ 604 = .ok (.i2l, 1) := by decide +kernel
theorem dl_605 : decode cL_law_ 605 = .ok (.lcmp, 1) := by decide +kernel
theorem dl_606 : decode cL_law_ 606 = .ok (.ifCond .eq 5, 3) := by decide +kernel
theorem dl_609 : decode cL_law_ 609 = .ok (.iconst 0, 1) := by decide +kernel
theorem dl_610 : decode cL_law_ 610 = .ok (.ireturn, 1) := by decide +kernel
theorem cokl_594 : COK cL_law_ k_L_law__594 = true := COK.cons dl_594 rfl (COK.cons dl_596 rfl (COK.cons dl_599 rfl (COK.cons dl_600 rfl (COK.cons dl_601 rfl (COK.cons dl_602 rfl (COK.cons dl_604 rfl (COK.cons dl_605 rfl (COK.cons dl_606 rfl (COK.cons dl_609 rfl (COK.cons dl_610 rfl (cokl_611)))))))))))
theorem dl_546 : decode cL_law_ 546 = .ok (.aload_n 1, 1) := by decide +kernel
theorem dl_547 : decode cL_law_ 547 = .ok (.aload_n 0, 1) := by decide +kernel
theorem dl_548 : decode cL_law_ 548 = .ok (.iload 4, 2) := by decide +kernel
theorem dl_550 : decode cL_law_ 550 = .ok (.iconst 1, 1) := by decide +kernel
theorem dl_551 : decode cL_law_ 551 = .ok (.iadd, 1) := by decide +kernel
theorem dl_552 : decode cL_law_ 552 = .ok (.iaload, 1) := by decide +kernel
theorem dl_553 : decode cL_law_ 553 = .ok (.aload_n 0, 1) := by decide +kernel
theorem dl_554 : decode cL_law_ 554 = .ok (.iload 4, 2) := by decide +kernel
theorem dl_556 : decode cL_law_ 556 = .ok (.iconst 2, 1) := by decide +kernel
theorem dl_557 : decode cL_law_ 557 = .ok (.iadd, 1) := by decide +kernel
theorem dl_558 : decode cL_law_ 558 = .ok (.iaload, 1) := by decide +kernel
theorem dl_559 : decode cL_law_ 559 = .ok (.aload_n 3, 1) := by decide +kernel
theorem dl_560 : decode cL_law_ 560 = .ok (.invokestatic 157, 3) := by decide +kernel
theorem dl_563 : decode cL_law_ 563 = .ok (.istore 5, 2) := by decide +kernel
theorem dl_565 : decode cL_law_ 565 = .ok (.aload_n 2, 1) := by decide +kernel
theorem dl_566 : decode cL_law_ 566 = .ok (.aload_n 0, 1) := by decide +kernel
theorem dl_567 : decode cL_law_ 567 = .ok (.iload 4, 2) := by decide +kernel
theorem dl_569 : decode cL_law_ 569 = .ok (.iconst 1, 1) := by decide +kernel
theorem dl_570 : decode cL_law_ 570 = .ok (.iadd, 1) := by decide +kernel
theorem dl_571 : decode cL_law_ 571 = .ok (.iaload, 1) := by decide +kernel
theorem dl_572 : decode cL_law_ 572 = .ok (.aload_n 0, 1) := by decide +kernel
theorem dl_573 : decode cL_law_ 573 = .ok (.iload 4, 2) := by decide +kernel
theorem dl_575 : decode cL_law_ 575 = .ok (.iconst 2, 1) := by decide +kernel
theorem dl_576 : decode cL_law_ 576 = .ok (.iadd, 1) := by decide +kernel
theorem dl_577 : decode cL_law_ 577 = .ok (.iaload, 1) := by decide +kernel
theorem dl_578 : decode cL_law_ 578 = .ok (.invokevirtual 159, 3) := by decide +kernel
theorem dl_581 : decode cL_law_ 581 = .ok (.istore 6, 2) := by decide +kernel
theorem dl_583 : decode cL_law_ 583 = .ok (.aload_n 2, 1) := by decide +kernel
theorem dl_584 : decode cL_law_ 584 = .ok (.invokevirtual 139, 3) := by decide +kernel
theorem dl_587 : decode cL_law_ 587 = .ok (.iload 5, 2) := by decide +kernel
theorem dl_589 : decode cL_law_ 589 = .ok (.if_icmp .eq 5, 3) := by decide +kernel
theorem dl_592 : decode cL_law_ 592 = .ok (.iconst 0, 1) := by decide +kernel
theorem dl_593 : decode cL_law_ 593 = .ok (.ireturn, 1) := by decide +kernel
theorem cokl_546 : COK cL_law_ k_L_law__546 = true := COK.cons dl_546 rfl (COK.cons dl_547 rfl (COK.cons dl_548 rfl (COK.cons dl_550 rfl (COK.cons dl_551 rfl (COK.cons dl_552 rfl (COK.cons dl_553 rfl (COK.cons dl_554 rfl (COK.cons dl_556 rfl (COK.cons dl_557 rfl (COK.cons dl_558 rfl (COK.cons dl_559 rfl (COK.cons dl_560 rfl (COK.cons dl_563 rfl (COK.cons dl_565 rfl (COK.cons dl_566 rfl (COK.cons dl_567 rfl (COK.cons dl_569 rfl (COK.cons dl_570 rfl (COK.cons dl_571 rfl (COK.cons dl_572 rfl (COK.cons dl_573 rfl (COK.cons dl_575 rfl (COK.cons dl_576 rfl (COK.cons dl_577 rfl (COK.cons dl_578 rfl (COK.cons dl_581 rfl (COK.cons dl_583 rfl (COK.cons dl_584 rfl (COK.cons dl_587 rfl (COK.cons dl_589 rfl (COK.cons dl_592 rfl (COK.cons dl_593 rfl (cokl_594)))))))))))))))))))))))))))))))))
theorem dl_543 : decode cL_law_ 543 = .ok (.goto 2131, 3) := by decide +kernel
theorem cokl_543 : COK cL_law_ k_L_law__543 = true := COK.cons dl_543 rfl (cokl_546)
theorem dl_526 : decode cL_law_ 526 = .ok (.iload 5, 2) := by decide +kernel
theorem dl_528 : decode cL_law_ 528 = .ok (.ifCond .ne 15, 3) := by decide +kernel
theorem dl_531 : decode cL_law_ 531 = .ok (.aload_n 3, 1) := by decide +kernel
theorem dl_532 : decode cL_law_ 532 = .ok (.iconst 0, 1) := by decide +kernel
theorem dl_533 : decode cL_law_ 533 = .ok (.laload, 1) := by decide +kernel
theorem dl_534 : decode cL_law_ 534 = .ok (.iload 6, 2) := by decide +kernel
theorem dl_536 : decode cL_law_ 536 = .ok (.i2l, 1) := by decide +kernel
theorem dl_537 : decode cL_law_ 537 = .ok (.lcmp, 1) := by decide +kernel
theorem dl_538 : decode cL_law_ 538 = .ok (.ifCond .eq 5, 3) := by decide +kernel
theorem dl_541 : decode cL_law_ 541 = .ok (.iconst 0, 1) := by decide +kernel
theorem dl_542 : decode cL_law_ 542 = .ok (.ireturn, 1) := by decide +kernel
theorem cokl_526 : COK cL_law_ k_L_law__526 = true := COK.cons dl_526 rfl (COK.cons dl_528 rfl (COK.cons dl_531 rfl (COK.cons dl_532 rfl (COK.cons dl_533 rfl (COK.cons dl_534 rfl (COK.cons dl_536 rfl (COK.cons dl_537 rfl (COK.cons dl_538 rfl (COK.cons dl_541 rfl (COK.cons dl_542 rfl (cokl_543)))))))))))
theorem dl_478 : decode cL_law_ 478 = .ok (.aload_n 1, 1) := by decide +kernel
theorem dl_479 : decode cL_law_ 479 = .ok (.aload_n 0, 1) := by decide +kernel
theorem dl_480 : decode cL_law_ 480 = .ok (.iload 4, 2) := by decide +kernel
theorem dl_482 : decode cL_law_ 482 = .ok (.iconst 1, 1) := by decide +kernel
theorem dl_483 : decode cL_law_ 483 = .ok (.iadd, 1) := by decide +kernel
theorem dl_484 : decode cL_law_ 484 = .ok (.iaload, 1) := by decide +kernel
theorem dl_485 : decode cL_law_ 485 = .ok (.aload_n 0, 1) := by decide +kernel
theorem dl_486 : decode cL_law_ 486 = .ok (.iload 4, 2) := by decide +kernel
theorem dl_488 : decode cL_law_ 488 = .ok (.iconst 2, 1) := by decide +kernel
theorem dl_489 : decode cL_law_ 489 = .ok (.iadd, 1) := by decide +kernel
theorem dl_490 : decode cL_law_ 490 = .ok (.iaload, 1) := by decide +kernel
theorem dl_491 : decode cL_law_ 491 = .ok (.aload_n 3, 1) := by decide +kernel
theorem dl_492 : decode cL_law_ 492 = .ok (.invokestatic 153, 3) := by decide +kernel
theorem dl_495 : decode cL_law_ 495 = .ok (.istore 5, 2) := by decide +kernel
theorem dl_497 : decode cL_law_ 497 = .ok (.aload_n 2, 1) := by decide +kernel
theorem dl_498 : decode cL_law_ 498 = .ok (.aload_n 0, 1) := by decide +kernel
theorem dl_499 : decode cL_law_ 499 = .ok (.iload 4, 2) := by decide +kernel
theorem dl_501 : decode cL_law_ 501 = .ok (.iconst 1, 1) := by decide +kernel
theorem dl_502 : decode cL_law_ 502 = .ok (.iadd, 1) := by decide +kernel
theorem dl_503 : decode cL_law_ 503 = .ok (.iaload, 1) := by decide +kernel
theorem dl_504 : decode cL_law_ 504 = .ok (.aload_n 0, 1) := by decide +kernel
theorem dl_505 : decode cL_law_ 505 = .ok (.iload 4, 2) := by decide +kernel
theorem dl_507 : decode cL_law_ 507 = .ok (.iconst 2, 1) := by decide +kernel
theorem dl_508 : decode cL_law_ 508 = .ok (.iadd, 1) := by decide +kernel
theorem dl_509 : decode cL_law_ 509 = .ok (.iaload, 1) := by decide +kernel
theorem dl_510 : decode cL_law_ 510 = .ok (.invokevirtual 156, 3) := by decide +kernel
theorem dl_513 : decode cL_law_ 513 = .ok (.istore 6, 2) := by decide +kernel
theorem dl_515 : decode cL_law_ 515 = .ok (.aload_n 2, 1) := by decide +kernel
theorem dl_516 : decode cL_law_ 516 = .ok (.invokevirtual 139, 3) := by decide +kernel
theorem dl_519 : decode cL_law_ 519 = .ok (.iload 5, 2) := by decide +kernel
theorem dl_521 : decode cL_law_ 521 = .ok (.if_icmp .eq 5, 3) := by decide +kernel
theorem dl_524 : decode cL_law_ 524 = .ok (.iconst 0, 1) := by decide +kernel
theorem dl_525 : decode cL_law_ 525 = .ok (.ireturn, 1) := by decide +kernel
theorem cokl_478 : COK cL_law_ k_L_law__478 = true := COK.cons dl_478 rfl (COK.cons dl_479 rfl (COK.cons dl_480 rfl (COK.cons dl_482 rfl (COK.cons dl_483 rfl (COK.cons dl_484 rfl (COK.cons dl_485 rfl (COK.cons dl_486 rfl (COK.cons dl_488 rfl (COK.cons dl_489 rfl (COK.cons dl_490 rfl (COK.cons dl_491 rfl (COK.cons dl_492 rfl (COK.cons dl_495 rfl (COK.cons dl_497 rfl (COK.cons dl_498 rfl (COK.cons dl_499 rfl (COK.cons dl_501 rfl (COK.cons dl_502 rfl (COK.cons dl_503 rfl (COK.cons dl_504 rfl (COK.cons dl_505 rfl (COK.cons dl_507 rfl (COK.cons dl_508 rfl (COK.cons dl_509 rfl (COK.cons dl_510 rfl (COK.cons dl_513 rfl (COK.cons dl_515 rfl (COK.cons dl_516 rfl (COK.cons dl_519 rfl (COK.cons dl_521 rfl (COK.cons dl_524 rfl (COK.cons dl_525 rfl (cokl_526)))))))))))))))))))))))))))))))))
theorem dl_475 : decode cL_law_ 475 = .ok (.goto 2199, 3) := by decide +kernel
theorem cokl_475 : COK cL_law_ k_L_law__475 = true := COK.cons dl_475 rfl (cokl_478)
theorem dl_458 : decode cL_law_ 458 = .ok (.iload 5, 2) := by decide +kernel
theorem dl_460 : decode cL_law_ 460 = .ok (.ifCond .ne 15, 3) := by decide +kernel
theorem dl_463 : decode cL_law_ 463 = .ok (.aload_n 3, 1) := by decide +kernel
theorem dl_464 : decode cL_law_ 464 = .ok (.iconst 0, 1) := by decide +kernel
theorem dl_465 : decode cL_law_ 465 = .ok (.laload, 1) := by decide +kernel
theorem dl_466 : decode cL_law_ 466 = .ok (.iload 6, 2) := by decide +kernel
theorem dl_468 : decode cL_law_ 468 = .ok (.i2l, 1) := by decide +kernel
theorem dl_469 : decode cL_law_ 469 = .ok (.lcmp, 1) := by decide +kernel
theorem dl_470 : decode cL_law_ 470 = .ok (.ifCond .eq 5, 3) := by decide +kernel
theorem dl_473 : decode cL_law_ 473 = .ok (.iconst 0, 1) := by decide +kernel
theorem dl_474 : decode cL_law_ 474 = .ok (.ireturn, 1) := by decide +kernel
theorem cokl_458 : COK cL_law_ k_L_law__458 = true := COK.cons dl_458 rfl (COK.cons dl_460 rfl (COK.cons dl_463 rfl (COK.cons dl_464 rfl (COK.cons dl_465 rfl (COK.cons dl_466 rfl (COK.cons dl_468 rfl (COK.cons dl_469 rfl (COK.cons dl_470 rfl (COK.cons dl_473 rfl (COK.cons dl_474 rfl (cokl_475)))))))))))
theorem dl_422 : decode cL_law_ 422 = .ok (.aload_n 1, 1) := by decide +kernel
theorem dl_423 : decode cL_law_ 423 = .ok (.aload_n 0, 1) := by decide +kernel
theorem dl_424 : decode cL_law_ 424 = .ok (.iload 4, 2) := by decide +kernel
theorem dl_426 : decode cL_law_ 426 = .ok (.iconst 1, 1) := by decide +kernel
theorem dl_427 : decode cL_law_ 427 = .ok (.iadd, 1) := by decide +kernel
theorem dl_428 : decode cL_law_ 428 = .ok (.iaload, 1) := by decide +kernel
theorem dl_429 : decode cL_law_ 429 = .ok (.aload_n 3, 1) := by decide +kernel
theorem dl_430 : decode cL_law_ 430 = .ok (.invokestatic 150, 3) := by decide +kernel
theorem dl_433 : decode cL_law_ 433 = .ok (.istore 5, 2) := by decide +kernel
theorem dl_435 : decode cL_law_ 435 = .ok (.aload_n 2, 1) := by decide +kernel
theorem dl_436 : decode cL_law_ 436 = .ok (.aload_n 0, 1) := by decide +kernel
theorem dl_437 : decode cL_law_ 437 = .ok (.iload 4, 2) := by decide +kernel
theorem dl_439 : decode cL_law_ 439 = .ok (.iconst 1, 1) := by decide +kernel
theorem dl_440 : decode cL_law_ 440 = .ok (.iadd, 1) := by decide +kernel
theorem dl_441 : decode cL_law_ 441 = .ok (.iaload, 1) := by decide +kernel
theorem dl_442 : decode cL_law_ 442 = .ok (.invokevirtual 152, 3) := by decide +kernel
theorem dl_445 : decode cL_law_ 445 = .ok (.istore 6, 2) := by decide +kernel
theorem dl_447 : decode cL_law_ 447 = .ok (.aload_n 2, 1) := by decide +kernel
theorem dl_448 : decode cL_law_ 448 = .ok (.invokevirtual 139, 3) := by decide +kernel
theorem dl_451 : decode cL_law_ 451 = .ok (.iload 5, 2) := by decide +kernel
theorem dl_453 : decode cL_law_ 453 = .ok (.if_icmp .eq 5, 3) := by decide +kernel
theorem dl_456 : decode cL_law_ 456 = .ok (.iconst 0, 1) := by decide +kernel
theorem dl_457 : decode cL_law_ 457 = .ok (.ireturn, 1) := by decide +kernel
theorem cokl_422 : COK cL_law_ k_L_law__422 = true := COK.cons dl_422 rfl (COK.cons dl_423 rfl (COK.cons dl_424 rfl (COK.cons dl_426 rfl (COK.cons dl_427 rfl (COK.cons dl_428 rfl (COK.cons dl_429 rfl (COK.cons dl_430 rfl (COK.cons dl_433 rfl (COK.cons dl_435 rfl (COK.cons dl_436 rfl (COK.cons dl_437 rfl (COK.cons dl_439 rfl (COK.cons dl_440 rfl (COK.cons dl_441 rfl (COK.cons dl_442 rfl (COK.cons dl_445 rfl (COK.cons dl_447 rfl (COK.cons dl_448 rfl (COK.cons dl_451 rfl (COK.cons dl_453 rfl (COK.cons dl_456 rfl (COK.cons dl_457 rfl (cokl_458)))))))))))))))))))))))
theorem dl_409 : decode cL_law_ 409 = .ok (.aload_n 1, 1) := by decide +kernel
theorem dl_410 : decode cL_law_ 410 = .ok (.invokevirtual 146, 3) := by decide +kernel
theorem dl_413 : decode cL_law_ 413 = .ok (.aload_n 2, 1) := by decide +kernel
theorem dl_414 : decode cL_law_ 414 = .ok (.invokevirtual 149, 3) := by decide +kernel
theorem dl_417 : decode cL_law_ 417 = .ok (.if_icmp .eq 2257, 3) := by decide +kernel
theorem dl_420 : decode cL_law_ 420 = .ok (.iconst 0, 1) := by decide +kernel
theorem dl_421 : decode cL_law_ 421 = .ok (.ireturn, 1) := by decide +kernel
theorem cokl_409 : COK cL_law_ k_L_law__409 = true := COK.cons dl_409 rfl (COK.cons dl_410 rfl (COK.cons dl_413 rfl (COK.cons dl_414 rfl (COK.cons dl_417 rfl (COK.cons dl_420 rfl (COK.cons dl_421 rfl (cokl_422)))))))
theorem dl_406 : decode cL_law_ 406 = .ok (.goto 2268, 3) := by decide +kernel
theorem cokl_406 : COK cL_law_ k_L_law__406 = true := COK.cons dl_406 rfl (cokl_409)
theorem dl_389 : decode cL_law_ 389 = .ok (.iload 5, 2) := by decide +kernel
theorem dl_391 : decode cL_law_ 391 = .ok (.ifCond .ne 15, 3) := by decide +kernel
theorem dl_394 : decode cL_law_ 394 = .ok (.aload_n 3, 1) := by decide +kernel
theorem dl_395 : decode cL_law_ 395 = .ok (.iconst 0, 1) := by decide +kernel
theorem dl_396 : decode cL_law_ 396 = .ok (.laload, 1) := by decide +kernel
theorem dl_397 : decode cL_law_ 397 = .ok (.iload 6, 2) := by decide +kernel
theorem dl_399 : decode cL_law_ 399 = .ok (.i2l, 1) := by decide +kernel
theorem dl_400 : decode cL_law_ 400 = .ok (.lcmp, 1) := by decide +kernel
theorem dl_401 : decode cL_law_ 401 = .ok (.ifCond .eq 5, 3) := by decide +kernel
theorem dl_404 : decode cL_law_ 404 = .ok (.iconst 0, 1) := by decide +kernel
theorem dl_405 : decode cL_law_ 405 = .ok (.ireturn, 1) := by decide +kernel
theorem cokl_389 : COK cL_law_ k_L_law__389 = true := COK.cons dl_389 rfl (COK.cons dl_391 rfl (COK.cons dl_394 rfl (COK.cons dl_395 rfl (COK.cons dl_396 rfl (COK.cons dl_397 rfl (COK.cons dl_399 rfl (COK.cons dl_400 rfl (COK.cons dl_401 rfl (COK.cons dl_404 rfl (COK.cons dl_405 rfl (cokl_406)))))))))))
theorem dl_353 : decode cL_law_ 353 = .ok (.aload_n 1, 1) := by decide +kernel
theorem dl_354 : decode cL_law_ 354 = .ok (.aload_n 0, 1) := by decide +kernel
theorem dl_355 : decode cL_law_ 355 = .ok (.iload 4, 2) := by decide +kernel
theorem dl_357 : decode cL_law_ 357 = .ok (.iconst 1, 1) := by decide +kernel
theorem dl_358 : decode cL_law_ 358 = .ok (.iadd, 1) := by decide +kernel
theorem dl_359 : decode cL_law_ 359 = .ok (.iaload, 1) := by decide +kernel
theorem dl_360 : decode cL_law_ 360 = .ok (.aload_n 3, 1) := by decide +kernel
theorem dl_361 : decode cL_law_ 361 = .ok (.invokestatic 143, 3) := by decide +kernel
theorem dl_364 : decode cL_law_ 364 = .ok (.istore 5, 2) := by decide +kernel
theorem dl_366 : decode cL_law_ 366 = .ok (.aload_n 2, 1) := by decide +kernel
theorem dl_367 : decode cL_law_ 367 = .ok (.aload_n 0, 1) := by decide +kernel
theorem dl_368 : decode cL_law_ 368 = .ok (.iload 4, 2) := by decide +kernel
theorem dl_370 : decode cL_law_ 370 = .ok (.iconst 1, 1) := by decide +kernel
theorem dl_371 : decode cL_law_ 371 = .ok (.iadd, 1) := by decide +kernel
theorem dl_372 : decode cL_law_ 372 = .ok (.iaload, 1) := by decide +kernel
theorem dl_373 : decode cL_law_ 373 = .ok (.invokevirtual 145, 3) := by decide +kernel
theorem dl_376 : decode cL_law_ 376 = .ok (.istore 6, 2) := by decide +kernel
theorem dl_378 : decode cL_law_ 378 = .ok (.aload_n 2, 1) := by decide +kernel
theorem dl_379 : decode cL_law_ 379 = .ok (.invokevirtual 139, 3) := by decide +kernel
theorem dl_382 : decode cL_law_ 382 = .ok (.iload 5, 2) := by decide +kernel
theorem dl_384 : decode cL_law_ 384 = .ok (.if_icmp .eq 5, 3) := by decide +kernel
theorem dl_387 : decode cL_law_ 387 = .ok (.iconst 0, 1) := by decide +kernel
theorem dl_388 : decode cL_law_ 388 = .ok (.ireturn, 1) := by decide +kernel
theorem cokl_353 : COK cL_law_ k_L_law__353 = true := COK.cons dl_353 rfl (COK.cons dl_354 rfl (COK.cons dl_355 rfl (COK.cons dl_357 rfl (COK.cons dl_358 rfl (COK.cons dl_359 rfl (COK.cons dl_360 rfl (COK.cons dl_361 rfl (COK.cons dl_364 rfl (COK.cons dl_366 rfl (COK.cons dl_367 rfl (COK.cons dl_368 rfl (COK.cons dl_370 rfl (COK.cons dl_371 rfl (COK.cons dl_372 rfl (COK.cons dl_373 rfl (COK.cons dl_376 rfl (COK.cons dl_378 rfl (COK.cons dl_379 rfl (COK.cons dl_382 rfl (COK.cons dl_384 rfl (COK.cons dl_387 rfl (COK.cons dl_388 rfl (cokl_389)))))))))))))))))))))))
theorem dl_350 : decode cL_law_ 350 = .ok (.goto 2324, 3) := by decide +kernel
theorem cokl_350 : COK cL_law_ k_L_law__350 = true := COK.cons dl_350 rfl (cokl_353)
theorem dl_333 : decode cL_law_ 333 = .ok (.iload 5, 2) := by decide +kernel
theorem dl_335 : decode cL_law_ 335 = .ok (.ifCond .ne 15, 3) := by decide +kernel
theorem dl_338 : decode cL_law_ 338 = .ok (.aload_n 3, 1) := by decide +kernel
theorem dl_339 : decode cL_law_ 339 = .ok (.iconst 0, 1) := by decide +kernel
theorem dl_340 : decode cL_law_ 340 = .ok (.laload, 1) := by decide +kernel
theorem dl_341 : decode cL_law_ 341 = .ok (.iload 6, 2) := by decide +kernel
theorem dl_343 : decode cL_law_ 343 = .ok (.i2l, 1) := by decide +kernel
theorem dl_344 : decode cL_law_ 344 = .ok (.lcmp, 1) := by decide +kernel
theorem dl_345 : decode cL_law_ 345 = .ok (.ifCond .eq 5, 3) := by decide +kernel
theorem dl_348 : decode cL_law_ 348 = .ok (.iconst 0, 1) := by decide +kernel
theorem dl_349 : decode cL_law_ 349 = .ok (.ireturn, 1) := by decide +kernel
theorem cokl_333 : COK cL_law_ k_L_law__333 = true := COK.cons dl_333 rfl (COK.cons dl_335 rfl (COK.cons dl_338 rfl (COK.cons dl_339 rfl (COK.cons dl_340 rfl (COK.cons dl_341 rfl (COK.cons dl_343 rfl (COK.cons dl_344 rfl (COK.cons dl_345 rfl (COK.cons dl_348 rfl (COK.cons dl_349 rfl (cokl_350)))))))))))
theorem dl_297 : decode cL_law_ 297 = .ok (.aload_n 1, 1) := by decide +kernel
theorem dl_298 : decode cL_law_ 298 = .ok (.aload_n 0, 1) := by decide +kernel
theorem dl_299 : decode cL_law_ 299 = .ok (.iload 4, 2) := by decide +kernel
theorem dl_301 : decode cL_law_ 301 = .ok (.iconst 1, 1) := by decide +kernel
theorem dl_302 : decode cL_law_ 302 = .ok (.iadd, 1) := by decide +kernel
theorem dl_303 : decode cL_law_ 303 = .ok (.iaload, 1) := by decide +kernel
theorem dl_304 : decode cL_law_ 304 = .ok (.aload_n 3, 1) := by decide +kernel
theorem dl_305 : decode cL_law_ 305 = .ok (.invokestatic 133, 3) := by decide +kernel
theorem dl_308 : decode cL_law_ 308 = .ok (.istore 5, 2) := by decide +kernel
theorem dl_310 : decode cL_law_ 310 = .ok (.aload_n 2, 1) := by decide +kernel
theorem dl_311 : decode cL_law_ 311 = .ok (.aload_n 0, 1) := by decide +kernel
theorem dl_312 : decode cL_law_ 312 = .ok (.iload 4, 2) := by decide +kernel
theorem dl_314 : decode cL_law_ 314 = .ok (.iconst 1, 1) := by decide +kernel
theorem dl_315 : decode cL_law_ 315 = .ok (.iadd, 1) := by decide +kernel
theorem dl_316 : decode cL_law_ 316 = .ok (.iaload, 1) := by decide +kernel
theorem dl_317 : decode cL_law_ 317 = .ok (.invokevirtual 138, 3) := by decide +kernel
theorem dl_320 : decode cL_law_ 320 = .ok (.istore 6, 2) := by decide +kernel
theorem dl_322 : decode cL_law_ 322 = .ok (.aload_n 2, 1) := by decide +kernel
theorem dl_323 : decode cL_law_ 323 = .ok (.invokevirtual 139, 3) := by decide +kernel
theorem dl_326 : decode cL_law_ 326 = .ok (.iload 5, 2) := by decide +kernel
theorem dl_328 : decode cL_law_ 328 = .ok (.if_icmp .eq 5, 3) := by decide +kernel
theorem dl_331 : decode cL_law_ 331 = .ok (.iconst 0, 1) := by decide +kernel
theorem dl_332 : decode cL_law_ 332 = .ok (.ireturn, 1) := by decide +kernel
theorem cokl_297 : COK cL_law_ k_L_law__297 = true := COK.cons dl_297 rfl (COK.cons dl_298 rfl (COK.cons dl_299 rfl (COK.cons dl_301 rfl (COK.cons dl_302 rfl (COK.cons dl_303 rfl (COK.cons dl_304 rfl (COK.cons dl_305 rfl (COK.cons dl_308 rfl (COK.cons dl_310 rfl (COK.cons dl_311 rfl (COK.cons dl_312 rfl (COK.cons dl_314 rfl (COK.cons dl_315 rfl (COK.cons dl_316 rfl (COK.cons dl_317 rfl (COK.cons dl_320 rfl (COK.cons dl_322 rfl (COK.cons dl_323 rfl (COK.cons dl_326 rfl (COK.cons dl_328 rfl (COK.cons dl_331 rfl (COK.cons dl_332 rfl (cokl_333)))))))))))))))))))))))
theorem dl_224 : decode cL_law_ 224 = .ok (.aload_n 1, 1) := by decide +kernel
theorem dl_225 : decode cL_law_ 225 = .ok (.aload_n 0, 1) := by decide +kernel
theorem dl_226 : decode cL_law_ 226 = .ok (.iload 4, 2) := by decide +kernel
theorem dl_228 : decode cL_law_ 228 = .ok (.iconst 1, 1) := by decide +kernel
theorem dl_229 : decode cL_law_ 229 = .ok (.iadd, 1) := by decide +kernel
theorem dl_230 : decode cL_law_ 230 = .ok (.iaload, 1) := by decide +kernel
theorem dl_231 : decode cL_law_ 231 = .ok (.aload_n 0, 1) := by decide +kernel
theorem dl_232 : decode cL_law_ 232 = .ok (.iload 4, 2) := by decide +kernel
theorem dl_234 : decode cL_law_ 234 = .ok (.iconst 2, 1) := by decide +kernel
theorem dl_235 : decode cL_law_ 235 = .ok (.iadd, 1) := by decide +kernel
theorem dl_236 : decode cL_law_ 236 = .ok (.iaload, 1) := by decide +kernel
theorem dl_237 : decode cL_law_ 237 = .ok (.aload_n 0, 1) := by decide +kernel
theorem dl_238 : decode cL_law_ 238 = .ok (.iload 4, 2) := by decide +kernel
theorem dl_240 : decode cL_law_ 240 = .ok (.iconst 3, 1) := by decide +kernel
theorem dl_241 : decode cL_law_ 241 = .ok (.iadd, 1) := by decide +kernel
theorem dl_242 : decode cL_law_ 242 = .ok (.iaload, 1) := by decide +kernel
theorem dl_243 : decode cL_law_ 243 = .ok (.aload_n 0, 1) := by decide +kernel
theorem dl_244 : decode cL_law_ 244 = .ok (.iload 4, 2) := by decide +kernel
theorem dl_246 : decode cL_law_ 246 = .ok (.iconst 4, 1) := by decide +kernel
theorem dl_247 : decode cL_law_ 247 = .ok (.iadd, 1) := by decide +kernel
theorem dl_248 : decode cL_law_ 248 = .ok (.iaload, 1) := by decide +kernel
theorem dl_249 : decode cL_law_ 249 = .ok (.aload_n 0, 1) := by decide +kernel
theorem dl_250 : decode cL_law_ 250 = .ok (.iload 4, 2) := by decide +kernel
theorem dl_252 : decode cL_law_ 252 = .ok (.iconst 5, 1) := by decide +kernel
theorem dl_253 : decode cL_law_ 253 = .ok (.iadd, 1) := by decide +kernel
theorem dl_254 : decode cL_law_ 254 = .ok (.iaload, 1) := by decide +kernel
theorem dl_255 : decode cL_law_ 255 = .ok (.invokevirtual 128, 3) := by decide +kernel
theorem dl_258 : decode cL_law_ 258 = .ok (.aload_n 2, 1) := by decide +kernel
theorem dl_259 : decode cL_law_ 259 = .ok (.aload_n 0, 1) := by decide +kernel
theorem dl_260 : decode cL_law_ 260 = .ok (.iload 4, 2) := by decide +kernel
theorem dl_262 : decode cL_law_ 262 = .ok (.iconst 1, 1) := by decide +kernel
theorem dl_263 : decode cL_law_ 263 = .ok (.iadd, 1) := by decide +kernel
theorem dl_264 : decode cL_law_ 264 = .ok (.iaload, 1) := by decide +kernel
theorem dl_265 : decode cL_law_ 265 = .ok (.aload_n 0, 1) := by decide +kernel
theorem dl_266 : decode cL_law_ 266 = .ok (.iload 4, 2) := by decide +kernel
theorem dl_268 : decode cL_law_ 268 = .ok (.iconst 2, 1) := by decide +kernel
theorem dl_269 : decode cL_law_ 269 = .ok (.iadd, 1) := by decide +kernel
theorem dl_270 : decode cL_law_ 270 = .ok (.iaload, 1) := by decide +kernel
theorem dl_271 : decode cL_law_ 271 = .ok (.aload_n 0, 1) := by decide +kernel
theorem dl_272 : decode cL_law_ 272 = .ok (.iload 4, 2) := by decide +kernel
theorem dl_274 : decode cL_law_ 274 = .ok (.iconst 3, 1) := by decide +kernel
theorem dl_275 : decode cL_law_ 275 = .ok (.iadd, 1) := by decide +kernel
theorem dl_276 : decode cL_law_ 276 = .ok (.iaload, 1) := by decide +kernel
theorem dl_277 : decode cL_law_ 277 = .ok (.aload_n 0, 1) := by decide +kernel
theorem dl_278 : decode cL_law_ 278 = .ok (.iload 4, 2) := by decide +kernel
theorem dl_280 : decode cL_law_ 280 = .ok (.iconst 4, 1) := by decide +kernel
theorem dl_281 : decode cL_law_ 281 = .ok (.iadd, 1) := by decide +kernel
theorem dl_282 : decode cL_law_ 282 = .ok (.iaload, 1) := by decide +kernel
theorem dl_283 : decode cL_law_ 283 = .ok (.aload_n 0, 1) := by decide +kernel
theorem dl_284 : decode cL_law_ 284 = .ok (.iload 4, 2) := by decide +kernel
theorem dl_286 : decode cL_law_ 286 = .ok (.iconst 5, 1) := by decide +kernel
theorem dl_287 : decode cL_law_ 287 = .ok (.iadd, 1) := by decide +kernel
theorem dl_288 : decode cL_law_ 288 = .ok (.iaload, 1) := by decide +kernel
theorem dl_289 : decode cL_law_ 289 = .ok (.invokevirtual 132, 3) := by decide +kernel
theorem dl_292 : decode cL_law_ 292 = .ok (.if_icmp .eq 2382, 3) := by decide +kernel
theorem dl_295 : decode cL_law_ 295 = .ok (.iconst 0, 1) := by decide +kernel
theorem dl_296 : decode cL_law_ 296 = .ok (.ireturn, 1) := by decide +kernel
theorem cokl_224 : COK cL_law_ k_L_law__224 = true := COK.cons dl_224 rfl (COK.cons dl_225 rfl (COK.cons dl_226 rfl (COK.cons dl_228 rfl (COK.cons dl_229 rfl (COK.cons dl_230 rfl (COK.cons dl_231 rfl (COK.cons dl_232 rfl (COK.cons dl_234 rfl (COK.cons dl_235 rfl (COK.cons dl_236 rfl (COK.cons dl_237 rfl (COK.cons dl_238 rfl (COK.cons dl_240 rfl (COK.cons dl_241 rfl (COK.cons dl_242 rfl (COK.cons dl_243 rfl (COK.cons dl_244 rfl (COK.cons dl_246 rfl (COK.cons dl_247 rfl (COK.cons dl_248 rfl (COK.cons dl_249 rfl (COK.cons dl_250 rfl (COK.cons dl_252 rfl (COK.cons dl_253 rfl (COK.cons dl_254 rfl (COK.cons dl_255 rfl (COK.cons dl_258 rfl (COK.cons dl_259 rfl (COK.cons dl_260 rfl (COK.cons dl_262 rfl (COK.cons dl_263 rfl (COK.cons dl_264 rfl (COK.cons dl_265 rfl (COK.cons dl_266 rfl (COK.cons dl_268 rfl (COK.cons dl_269 rfl (COK.cons dl_270 rfl (COK.cons dl_271 rfl (COK.cons dl_272 rfl (COK.cons dl_274 rfl (COK.cons dl_275 rfl (COK.cons dl_276 rfl (COK.cons dl_277 rfl (COK.cons dl_278 rfl (COK.cons dl_280 rfl (COK.cons dl_281 rfl (COK.cons dl_282 rfl (COK.cons dl_283 rfl (COK.cons dl_284 rfl (COK.cons dl_286 rfl (COK.cons dl_287 rfl (COK.cons dl_288 rfl (COK.cons dl_289 rfl (COK.cons dl_292 rfl (COK.cons dl_295 rfl (COK.cons dl_296 rfl (cokl_297)))))))))))))))))))))))))))))))))))))))))))))))))))))))))
theorem dl_23 : decode cL_law_ 23 = .ok (.iload 4, 2) := by decide +kernel
theorem dl_25 : decode cL_law_ 25 = .ok (.aload_n 0, 1) := by decide +kernel
theorem dl_26 : decode cL_law_ 26 = .ok (.arraylength, 1) := by decide +kernel
theorem dl_27 : decode cL_law_ 27 = .ok (.bipush 6, 2) := by decide +kernel
theorem dl_29 : decode cL_law_ 29 = .ok (.isub, 1) := by decide +kernel
theorem dl_30 : decode cL_law_ 30 = .ok (.if_icmp .gt 2650, 3) := by decide +kernel
theorem dl_33 : decode cL_law_ 33 = .ok (.aload_n 0, 1) := by decide +kernel
theorem dl_34 : decode cL_law_ 34 = .ok (.iload 4, 2) := by decide +kernel
theorem dl_36 : decode cL_law_ 36 = .ok (.iaload, 1) := by decide +kernel
theorem dl_37 : decode cL_law_ 37 = .ok (.bipush 63, 2) := by decide +kernel
theorem dl_39 : decode cL_law_ 39 = .ok (.iand, 1) := by decide +kernel
theorem dl_40 : decode cL_law_ 40 = .ok (.tableswitch 2634 0 41 #[184, 257, 313, 369, 382, 438, 506, 574, 654, 710, 766, 834, 890, 953, 1009, 1065, 1121, 1177, 1233, 1301, 1381, 1437, 1536, 1632, 1688, 1744, 1852, 1920, 1933, 1989, 2057, 2125, 2193, 2261, 2274, 2342, 2410, 2478, 2558, 2571, 2584, 2609], 184) := by decide +kernel
theorem cokl_23 : COK cL_law_ k_L_law__23 = true := COK.cons dl_23 rfl (COK.cons dl_25 rfl (COK.cons dl_26 rfl (COK.cons dl_27 rfl (COK.cons dl_29 rfl (COK.cons dl_30 rfl (COK.cons dl_33 rfl (COK.cons dl_34 rfl (COK.cons dl_36 rfl (COK.cons dl_37 rfl (COK.cons dl_39 rfl (COK.cons dl_40 rfl (cokl_224))))))))))))
theorem dl_20 : decode cL_law_ 20 = .ok (.iconst 0, 1) := by decide +kernel
theorem dl_21 : decode cL_law_ 21 = .ok (.istore 4, 2) := by decide +kernel
theorem cokl_20 : COK cL_law_ k_L_law__20 = true := COK.cons dl_20 rfl (COK.cons dl_21 rfl (cokl_23))
theorem dl_0 : decode cL_law_ 0 = .ok (.new 8, 3) := by decide +kernel
theorem dl_3 : decode cL_law_ 3 = .ok (.dup, 1) := by decide +kernel
theorem dl_4 : decode cL_law_ 4 = .ok (.invokespecial 124, 3) := by decide +kernel
theorem dl_7 : decode cL_law_ 7 = .ok (.astore_n 1, 1) := by decide +kernel
theorem dl_8 : decode cL_law_ 8 = .ok (.new 125, 3) := by decide +kernel
theorem dl_11 : decode cL_law_ 11 = .ok (.dup, 1) := by decide +kernel
theorem dl_12 : decode cL_law_ 12 = .ok (.invokespecial 127, 3) := by decide +kernel
theorem dl_15 : decode cL_law_ 15 = .ok (.astore_n 2, 1) := by decide +kernel
theorem dl_16 : decode cL_law_ 16 = .ok (.iconst 1, 1) := by decide +kernel
theorem dl_17 : decode cL_law_ 17 = .ok (.newarray .long, 2) := by decide +kernel
theorem dl_19 : decode cL_law_ 19 = .ok (.astore_n 3, 1) := by decide +kernel
theorem cokl_0 : COK cL_law_ k_L_law__0 = true := COK.cons dl_0 rfl (COK.cons dl_3 rfl (COK.cons dl_4 rfl (COK.cons dl_7 rfl (COK.cons dl_8 rfl (COK.cons dl_11 rfl (COK.cons dl_12 rfl (COK.cons dl_15 rfl (COK.cons dl_16 rfl (COK.cons dl_17 rfl (COK.cons dl_19 rfl (cokl_20)))))))))))
theorem cok_L_law_ : COK Y_L_law_.2.1 Y_L_law_.code = true := cokl_0
