set_option maxRecDepth 100000 in
theorem gl_wsX00 : GoodIn lw_tbl wsX00 := (goodIn_r _ [512, 514, 516, 518, 520, 522, 524, 526, 528, 530, 532, 534, 536, 538, 540, 542, 544, 546, 548, 550, 552] (by decide +kernel) (by decide +kernel))
set_option maxRecDepth 100000 in
theorem gl_wsX10 : GoodIn lw_tbl wsX10 := (goodIn_r _ [854, 856, 858, 860] (by decide +kernel) (by decide +kernel))
set_option maxRecDepth 100000 in
theorem gl_wsX20 : GoodIn lw_tbl wsX20 := (goodIn_r _ [706, 708, 710, 712, 714, 716, 718, 720, 722, 724, 726, 728, 730, 732, 734] (by decide +kernel) (by decide +kernel))
set_option maxRecDepth 100000 in
theorem gl_wsX30 : GoodIn lw_tbl wsX30 := (goodIn_r _ [922, 924, 926, 928, 930, 932, 934, 936, 938, 940, 942] (by decide +kernel) (by decide +kernel))
set_option maxRecDepth 100000 in
theorem gl_wsX40 : GoodIn lw_tbl wsX40 := (goodIn_r _ [877, 879, 881, 883, 885, 887, 889, 891, 893, 895, 897] (by decide +kernel) (by decide +kernel))
set_option maxRecDepth 100000 in
theorem gl_wsX50 : GoodIn lw_tbl wsX50 := (goodIn_r _ [575, 577, 579, 581, 583, 585, 587, 589, 591, 593, 595] (by decide +kernel) (by decide +kernel))
set_option maxRecDepth 100000 in
theorem gl_wsX60 : GoodIn lw_tbl wsX60 := (goodIn_r _ [760, 762, 764, 766, 768, 770, 772, 774, 776, 778, 780, 782, 784, 786] (by decide +kernel) (by decide +kernel))
set_option maxRecDepth 100000 in
theorem gl_wsX70 : GoodIn lw_tbl wsX70 := (goodIn_r _ [423, 425, 427, 429, 431, 433, 435, 437, 439] (by decide +kernel) (by decide +kernel))
set_option maxRecDepth 100000 in
theorem gl_wsX80 : GoodIn lw_tbl wsX80 := (goodIn_r _ [806, 808, 810, 812, 814, 816, 818, 820, 822, 824, 826] (by decide +kernel) (by decide +kernel))
set_option maxRecDepth 100000 in
theorem gl_wsX90 : GoodIn lw_tbl wsX90 := (goodIn_r _ [613, 615, 617, 619] (by decide +kernel) (by decide +kernel))
set_option maxRecDepth 100000 in
theorem gl_wsX100 : GoodIn lw_tbl wsX100 := (goodIn_r _ [651, 653, 655, 657, 659, 661, 663, 665, 667, 669, 671, 673, 675, 677, 679, 681] (by decide +kernel) (by decide +kernel))
set_option maxRecDepth 100000 in
theorem gl_wsX110 : GoodIn lw_tbl wsX110 := (goodIn_r _ [966, 968, 970, 972, 974, 976, 978, 980, 982, 984, 986, 988, 990, 992, 994, 996, 998, 1000, 1002, 1004, 1006] (by decide +kernel) (by decide +kernel))
set_option maxRecDepth 100000 in
theorem gl_wsX120 : GoodIn lw_tbl wsX120 := (goodIn_r _ [2085, 2087, 2089, 2091, 2093, 2095, 2097, 2099, 2101, 2103, 2105, 2107, 2109, 2111, 2113, 2115, 2117, 2119, 2121, 2123, 2125, 2127, 2129, 2131, 2133, 2135, 2137, 2139, 2141, 2143, 2145, 2147, 2149, 2151, 2153, 2155, 2157, 2159, 2161, 2163, 2165, 2167, 2169, 2171, 2173, 2175, 2177, 2179, 2181, 2183, 2185, 2187, 2189, 2191, 2193, 2195, 2197, 2199, 2201, 2203, 2205, 2207, 2209, 2211, 2213, 2215, 2217, 2219, 2221, 2223, 2225, 2227, 2229, 2231, 2233, 2235, 2237, 2239, 2241, 2243, 2245, 2247, 2249, 2251, 2253, 2255, 2257, 2259, 2261, 2263, 2265, 2267, 2269, 2271, 2273, 2275, 2277, 2279, 2281, 2283, 2285, 2287, 2289, 2291, 2293, 2295, 2297, 2299, 2301, 2303, 2305, 2307, 2309, 2311, 2313, 2315, 2317, 2319, 2321, 2323, 2325, 2327, 2329, 2331, 2333, 2335, 2337, 2339, 2341, 2343, 2345, 2347, 2349, 2351, 2353, 2355, 2357, 2359, 2361, 2363, 2365, 2367, 2369, 2371, 2373, 2375, 2377, 2379, 2381] (by decide +kernel) (by decide +kernel))
