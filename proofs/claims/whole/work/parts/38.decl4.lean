/-! decode rows of the law -/
def dlb_1260 : List (Nat × Instr × Nat) := [(2069, .aload_n 0, 1), (2070, .iload 4, 2), (2072, .iconst 1, 1), (2073, .iadd, 1), (2074, .iaload, 1), (2075, .invokevirtual 229, 3), (2078, .istore 6, 2), (2080, .aload_n 2, 1), (2081, .invokevirtual 134, 3), (2084, .iload 5, 2), (2086, .if_icmp .eq 5, 3), (2089, .iconst 0, 1), (2090, .ireturn, 1), (2091, .iload 5, 2), (2093, .ifCond .ne 15, 3), (2096, .aload_n 3, 1), (2097, .iconst 0, 1), (2098, .laload, 1), (2099, .iload 6, 2), (2101, .i2l, 1), (2102, .lcmp, 1), (2103, .ifCond .eq 5, 3), (2106, .iconst 0, 1), (2107, .ireturn, 1), (2108, .goto 557, 3), (2111, .aload_n 1, 1), (2112, .aload_n 0, 1), (2113, .iload 4, 2), (2115, .iconst 1, 1), (2116, .iadd, 1), (2117, .iaload, 1), (2118, .aload_n 0, 1), (2119, .iload 4, 2), (2121, .iconst 2, 1), (2122, .iadd, 1), (2123, .iaload, 1), (2124, .aload_n 3, 1), (2125, .invokestatic 230, 3), (2128, .istore 5, 2), (2130, .aload_n 2, 1), (2131, .aload_n 0, 1), (2132, .iload 4, 2), (2134, .iconst 1, 1), (2135, .iadd, 1), (2136, .iaload, 1), (2137, .aload_n 0, 1), (2138, .iload 4, 2), (2140, .iconst 2, 1), (2141, .iadd, 1), (2142, .iaload, 1), (2143, .invokevirtual 232, 3), (2146, .istore 6, 2), (2148, .aload_n 2, 1), (2149, .invokevirtual 134, 3), (2152, .iload 5, 2), (2154, .if_icmp .eq 5, 3), (2157, .iconst 0, 1), (2158, .ireturn, 1), (2159, .iload 5, 2), (2161, .ifCond .ne 22, 3)]
theorem dlc_1260 : (dlb_1260.all fun q => decide (decode cL_law_ q.1 = .ok q.2)) = true := by decide +kernel
theorem dL_law__2069 : decode cL_law_ 2069 = .ok (.aload_n 0, 1) := dcr dlc_1260 0 rfl
theorem dL_law__2070 : decode cL_law_ 2070 = .ok (.iload 4, 2) := dcr dlc_1260 1 rfl
theorem dL_law__2072 : decode cL_law_ 2072 = .ok (.iconst 1, 1) := dcr dlc_1260 2 rfl
theorem dL_law__2073 : decode cL_law_ 2073 = .ok (.iadd, 1) := dcr dlc_1260 3 rfl
theorem dL_law__2074 : decode cL_law_ 2074 = .ok (.iaload, 1) := dcr dlc_1260 4 rfl
theorem dL_law__2075 : decode cL_law_ 2075 = .ok (.invokevirtual 229, 3) := dcr dlc_1260 5 rfl
theorem dL_law__2078 : decode cL_law_ 2078 = .ok (.istore 6, 2) := dcr dlc_1260 6 rfl
theorem dL_law__2080 : decode cL_law_ 2080 = .ok (.aload_n 2, 1) := dcr dlc_1260 7 rfl
theorem dL_law__2081 : decode cL_law_ 2081 = .ok (.invokevirtual 134, 3) := dcr dlc_1260 8 rfl
theorem dL_law__2084 : decode cL_law_ 2084 = .ok (.iload 5, 2) := dcr dlc_1260 9 rfl
theorem dL_law__2086 : decode cL_law_ 2086 = .ok (.if_icmp .eq 5, 3) := dcr dlc_1260 10 rfl
theorem dL_law__2089 : decode cL_law_ 2089 = .ok (.iconst 0, 1) := dcr dlc_1260 11 rfl
theorem dL_law__2090 : decode cL_law_ 2090 = .ok (.ireturn, 1) := dcr dlc_1260 12 rfl
theorem dL_law__2091 : decode cL_law_ 2091 = .ok (.iload 5, 2) := dcr dlc_1260 13 rfl
theorem dL_law__2093 : decode cL_law_ 2093 = .ok (.ifCond .ne 15, 3) := dcr dlc_1260 14 rfl
theorem dL_law__2096 : decode cL_law_ 2096 = .ok (.aload_n 3, 1) := dcr dlc_1260 15 rfl
theorem dL_law__2097 : decode cL_law_ 2097 = .ok (.iconst 0, 1) := dcr dlc_1260 16 rfl
theorem dL_law__2098 : decode cL_law_ 2098 = .ok (.laload, 1) := dcr dlc_1260 17 rfl
theorem dL_law__2099 : decode cL_law_ 2099 = .ok (.iload 6, 2) := dcr dlc_1260 18 rfl
theorem dL_law__2101 : decode cL_law_ 2101 = .ok (.i2l, 1) := dcr dlc_1260 19 rfl
theorem dL_law__2102 : decode cL_law_ 2102 = .ok (.lcmp, 1) := dcr dlc_1260 20 rfl
theorem dL_law__2103 : decode cL_law_ 2103 = .ok (.ifCond .eq 5, 3) := dcr dlc_1260 21 rfl
theorem dL_law__2106 : decode cL_law_ 2106 = .ok (.iconst 0, 1) := dcr dlc_1260 22 rfl
theorem dL_law__2107 : decode cL_law_ 2107 = .ok (.ireturn, 1) := dcr dlc_1260 23 rfl
theorem dL_law__2108 : decode cL_law_ 2108 = .ok (.goto 557, 3) := dcr dlc_1260 24 rfl
theorem dL_law__2111 : decode cL_law_ 2111 = .ok (.aload_n 1, 1) := dcr dlc_1260 25 rfl
theorem dL_law__2112 : decode cL_law_ 2112 = .ok (.aload_n 0, 1) := dcr dlc_1260 26 rfl
theorem dL_law__2113 : decode cL_law_ 2113 = .ok (.iload 4, 2) := dcr dlc_1260 27 rfl
theorem dL_law__2115 : decode cL_law_ 2115 = .ok (.iconst 1, 1) := dcr dlc_1260 28 rfl
theorem dL_law__2116 : decode cL_law_ 2116 = .ok (.iadd, 1) := dcr dlc_1260 29 rfl
theorem dL_law__2117 : decode cL_law_ 2117 = .ok (.iaload, 1) := dcr dlc_1260 30 rfl
theorem dL_law__2118 : decode cL_law_ 2118 = .ok (.aload_n 0, 1) := dcr dlc_1260 31 rfl
theorem dL_law__2119 : decode cL_law_ 2119 = .ok (.iload 4, 2) := dcr dlc_1260 32 rfl
theorem dL_law__2121 : decode cL_law_ 2121 = .ok (.iconst 2, 1) := dcr dlc_1260 33 rfl
theorem dL_law__2122 : decode cL_law_ 2122 = .ok (.iadd, 1) := dcr dlc_1260 34 rfl
theorem dL_law__2123 : decode cL_law_ 2123 = .ok (.iaload, 1) := dcr dlc_1260 35 rfl
theorem dL_law__2124 : decode cL_law_ 2124 = .ok (.aload_n 3, 1) := dcr dlc_1260 36 rfl
theorem dL_law__2125 : decode cL_law_ 2125 = .ok (.invokestatic 230, 3) := dcr dlc_1260 37 rfl
theorem dL_law__2128 : decode cL_law_ 2128 = .ok (.istore 5, 2) := dcr dlc_1260 38 rfl
theorem dL_law__2130 : decode cL_law_ 2130 = .ok (.aload_n 2, 1) := dcr dlc_1260 39 rfl
theorem dL_law__2131 : decode cL_law_ 2131 = .ok (.aload_n 0, 1) := dcr dlc_1260 40 rfl
theorem dL_law__2132 : decode cL_law_ 2132 = .ok (.iload 4, 2) := dcr dlc_1260 41 rfl
theorem dL_law__2134 : decode cL_law_ 2134 = .ok (.iconst 1, 1) := dcr dlc_1260 42 rfl
theorem dL_law__2135 : decode cL_law_ 2135 = .ok (.iadd, 1) := dcr dlc_1260 43 rfl
theorem dL_law__2136 : decode cL_law_ 2136 = .ok (.iaload, 1) := dcr dlc_1260 44 rfl
theorem dL_law__2137 : decode cL_law_ 2137 = .ok (.aload_n 0, 1) := dcr dlc_1260 45 rfl
theorem dL_law__2138 : decode cL_law_ 2138 = .ok (.iload 4, 2) := dcr dlc_1260 46 rfl
theorem dL_law__2140 : decode cL_law_ 2140 = .ok (.iconst 2, 1) := dcr dlc_1260 47 rfl
theorem dL_law__2141 : decode cL_law_ 2141 = .ok (.iadd, 1) := dcr dlc_1260 48 rfl
theorem dL_law__2142 : decode cL_law_ 2142 = .ok (.iaload, 1) := dcr dlc_1260 49 rfl
theorem dL_law__2143 : decode cL_law_ 2143 = .ok (.invokevirtual 232, 3) := dcr dlc_1260 50 rfl
theorem dL_law__2146 : decode cL_law_ 2146 = .ok (.istore 6, 2) := dcr dlc_1260 51 rfl
theorem dL_law__2148 : decode cL_law_ 2148 = .ok (.aload_n 2, 1) := dcr dlc_1260 52 rfl
theorem dL_law__2149 : decode cL_law_ 2149 = .ok (.invokevirtual 134, 3) := dcr dlc_1260 53 rfl
theorem dL_law__2152 : decode cL_law_ 2152 = .ok (.iload 5, 2) := dcr dlc_1260 54 rfl
theorem dL_law__2154 : decode cL_law_ 2154 = .ok (.if_icmp .eq 5, 3) := dcr dlc_1260 55 rfl
theorem dL_law__2157 : decode cL_law_ 2157 = .ok (.iconst 0, 1) := dcr dlc_1260 56 rfl
theorem dL_law__2158 : decode cL_law_ 2158 = .ok (.ireturn, 1) := dcr dlc_1260 57 rfl
theorem dL_law__2159 : decode cL_law_ 2159 = .ok (.iload 5, 2) := dcr dlc_1260 58 rfl
theorem dL_law__2161 : decode cL_law_ 2161 = .ok (.ifCond .ne 22, 3) := dcr dlc_1260 59 rfl
def dlb_1320 : List (Nat × Instr × Nat) := [(2164, .aload_n 3, 1), (2165, .iconst 0, 1), (2166, .laload, 1), (2167, .iload 6, 2), (2169, .ifCond .eq 7, 3), (2172, .lconst 1, 1), (2173, .goto 4, 3), (2176, .lconst 0, 1), (2177, .lcmp, 1), (2178, .ifCond .eq 5, 3), (2181, .iconst 0, 1), (2182, .ireturn, 1), (2183, .goto 482, 3), (2186, .aload_n 1, 1), (2187, .aload_n 0, 1), (2188, .iload 4, 2), (2190, .iconst 1, 1), (2191, .iadd, 1), (2192, .iaload, 1), (2193, .aload_n 3, 1), (2194, .invokestatic 233, 3), (2197, .istore 5, 2), (2199, .aload_n 2, 1), (2200, .aload_n 0, 1), (2201, .iload 4, 2), (2203, .iconst 1, 1), (2204, .iadd, 1), (2205, .iaload, 1), (2206, .invokevirtual 235, 3), (2209, .istore 6, 2), (2211, .aload_n 2, 1), (2212, .invokevirtual 134, 3), (2215, .iload 5, 2), (2217, .if_icmp .eq 5, 3), (2220, .iconst 0, 1), (2221, .ireturn, 1), (2222, .iload 5, 2), (2224, .ifCond .ne 15, 3), (2227, .aload_n 3, 1), (2228, .iconst 0, 1), (2229, .laload, 1), (2230, .iload 6, 2), (2232, .i2l, 1), (2233, .lcmp, 1), (2234, .ifCond .eq 5, 3), (2237, .iconst 0, 1), (2238, .ireturn, 1), (2239, .goto 426, 3), (2242, .aload_n 1, 1), (2243, .aload_n 0, 1), (2244, .iload 4, 2), (2246, .iconst 1, 1), (2247, .iadd, 1), (2248, .iaload, 1), (2249, .aload_n 0, 1), (2250, .iload 4, 2), (2252, .iconst 2, 1), (2253, .iadd, 1), (2254, .iaload, 1), (2255, .aload_n 3, 1)]
theorem dlc_1320 : (dlb_1320.all fun q => decide (decode cL_law_ q.1 = .ok q.2)) = true := by decide +kernel
theorem dL_law__2164 : decode cL_law_ 2164 = .ok (.aload_n 3, 1) := dcr dlc_1320 0 rfl
theorem dL_law__2165 : decode cL_law_ 2165 = .ok (.iconst 0, 1) := dcr dlc_1320 1 rfl
theorem dL_law__2166 : decode cL_law_ 2166 = .ok (.laload, 1) := dcr dlc_1320 2 rfl
theorem dL_law__2167 : decode cL_law_ 2167 = .ok (.iload 6, 2) := dcr dlc_1320 3 rfl
theorem dL_law__2169 : decode cL_law_ 2169 = .ok (.ifCond .eq 7, 3) := dcr dlc_1320 4 rfl
theorem dL_law__2172 : decode cL_law_ 2172 = .ok (.lconst 1, 1) := dcr dlc_1320 5 rfl
theorem dL_law__2173 : decode cL_law_ 2173 = .ok (.goto 4, 3) := dcr dlc_1320 6 rfl
theorem dL_law__2176 : decode cL_law_ 2176 = .ok (.lconst 0, 1) := dcr dlc_1320 7 rfl
theorem dL_law__2177 : decode cL_law_ 2177 = .ok (.lcmp, 1) := dcr dlc_1320 8 rfl
theorem dL_law__2178 : decode cL_law_ 2178 = .ok (.ifCond .eq 5, 3) := dcr dlc_1320 9 rfl
theorem dL_law__2181 : decode cL_law_ 2181 = .ok (.iconst 0, 1) := dcr dlc_1320 10 rfl
theorem dL_law__2182 : decode cL_law_ 2182 = .ok (.ireturn, 1) := dcr dlc_1320 11 rfl
theorem dL_law__2183 : decode cL_law_ 2183 = .ok (.goto 482, 3) := dcr dlc_1320 12 rfl
theorem dL_law__2186 : decode cL_law_ 2186 = .ok (.aload_n 1, 1) := dcr dlc_1320 13 rfl
theorem dL_law__2187 : decode cL_law_ 2187 = .ok (.aload_n 0, 1) := dcr dlc_1320 14 rfl
theorem dL_law__2188 : decode cL_law_ 2188 = .ok (.iload 4, 2) := dcr dlc_1320 15 rfl
theorem dL_law__2190 : decode cL_law_ 2190 = .ok (.iconst 1, 1) := dcr dlc_1320 16 rfl
theorem dL_law__2191 : decode cL_law_ 2191 = .ok (.iadd, 1) := dcr dlc_1320 17 rfl
theorem dL_law__2192 : decode cL_law_ 2192 = .ok (.iaload, 1) := dcr dlc_1320 18 rfl
theorem dL_law__2193 : decode cL_law_ 2193 = .ok (.aload_n 3, 1) := dcr dlc_1320 19 rfl
theorem dL_law__2194 : decode cL_law_ 2194 = .ok (.invokestatic 233, 3) := dcr dlc_1320 20 rfl
theorem dL_law__2197 : decode cL_law_ 2197 = .ok (.istore 5, 2) := dcr dlc_1320 21 rfl
theorem dL_law__2199 : decode cL_law_ 2199 = .ok (.aload_n 2, 1) := dcr dlc_1320 22 rfl
theorem dL_law__2200 : decode cL_law_ 2200 = .ok (.aload_n 0, 1) := dcr dlc_1320 23 rfl
theorem dL_law__2201 : decode cL_law_ 2201 = .ok (.iload 4, 2) := dcr dlc_1320 24 rfl
theorem dL_law__2203 : decode cL_law_ 2203 = .ok (.iconst 1, 1) := dcr dlc_1320 25 rfl
theorem dL_law__2204 : decode cL_law_ 2204 = .ok (.iadd, 1) := dcr dlc_1320 26 rfl
theorem dL_law__2205 : decode cL_law_ 2205 = .ok (.iaload, 1) := dcr dlc_1320 27 rfl
theorem dL_law__2206 : decode cL_law_ 2206 = .ok (.invokevirtual 235, 3) := dcr dlc_1320 28 rfl
theorem dL_law__2209 : decode cL_law_ 2209 = .ok (.istore 6, 2) := dcr dlc_1320 29 rfl
theorem dL_law__2211 : decode cL_law_ 2211 = .ok (.aload_n 2, 1) := dcr dlc_1320 30 rfl
theorem dL_law__2212 : decode cL_law_ 2212 = .ok (.invokevirtual 134, 3) := dcr dlc_1320 31 rfl
theorem dL_law__2215 : decode cL_law_ 2215 = .ok (.iload 5, 2) := dcr dlc_1320 32 rfl
theorem dL_law__2217 : decode cL_law_ 2217 = .ok (.if_icmp .eq 5, 3) := dcr dlc_1320 33 rfl
theorem dL_law__2220 : decode cL_law_ 2220 = .ok (.iconst 0, 1) := dcr dlc_1320 34 rfl
theorem dL_law__2221 : decode cL_law_ 2221 = .ok (.ireturn, 1) := dcr dlc_1320 35 rfl
theorem dL_law__2222 : decode cL_law_ 2222 = .ok (.iload 5, 2) := dcr dlc_1320 36 rfl
theorem dL_law__2224 : decode cL_law_ 2224 = .ok (.ifCond .ne 15, 3) := dcr dlc_1320 37 rfl
theorem dL_law__2227 : decode cL_law_ 2227 = .ok (.aload_n 3, 1) := dcr dlc_1320 38 rfl
theorem dL_law__2228 : decode cL_law_ 2228 = .ok (.iconst 0, 1) := dcr dlc_1320 39 rfl
theorem dL_law__2229 : decode cL_law_ 2229 = .ok (.laload, 1) := dcr dlc_1320 40 rfl
theorem dL_law__2230 : decode cL_law_ 2230 = .ok (.iload 6, 2) := dcr dlc_1320 41 rfl
theorem dL_law__2232 : decode cL_law_ 2232 = .ok (.i2l, 1) := dcr dlc_1320 42 rfl
theorem dL_law__2233 : decode cL_law_ 2233 = .ok (.lcmp, 1) := dcr dlc_1320 43 rfl
theorem dL_law__2234 : decode cL_law_ 2234 = .ok (.ifCond .eq 5, 3) := dcr dlc_1320 44 rfl
theorem dL_law__2237 : decode cL_law_ 2237 = .ok (.iconst 0, 1) := dcr dlc_1320 45 rfl
theorem dL_law__2238 : decode cL_law_ 2238 = .ok (.ireturn, 1) := dcr dlc_1320 46 rfl
theorem dL_law__2239 : decode cL_law_ 2239 = .ok (.goto 426, 3) := dcr dlc_1320 47 rfl
theorem dL_law__2242 : decode cL_law_ 2242 = .ok (.aload_n 1, 1) := dcr dlc_1320 48 rfl
theorem dL_law__2243 : decode cL_law_ 2243 = .ok (.aload_n 0, 1) := dcr dlc_1320 49 rfl
theorem dL_law__2244 : decode cL_law_ 2244 = .ok (.iload 4, 2) := dcr dlc_1320 50 rfl
theorem dL_law__2246 : decode cL_law_ 2246 = .ok (.iconst 1, 1) := dcr dlc_1320 51 rfl
theorem dL_law__2247 : decode cL_law_ 2247 = .ok (.iadd, 1) := dcr dlc_1320 52 rfl
theorem dL_law__2248 : decode cL_law_ 2248 = .ok (.iaload, 1) := dcr dlc_1320 53 rfl
theorem dL_law__2249 : decode cL_law_ 2249 = .ok (.aload_n 0, 1) := dcr dlc_1320 54 rfl
theorem dL_law__2250 : decode cL_law_ 2250 = .ok (.iload 4, 2) := dcr dlc_1320 55 rfl
theorem dL_law__2252 : decode cL_law_ 2252 = .ok (.iconst 2, 1) := dcr dlc_1320 56 rfl
theorem dL_law__2253 : decode cL_law_ 2253 = .ok (.iadd, 1) := dcr dlc_1320 57 rfl
theorem dL_law__2254 : decode cL_law_ 2254 = .ok (.iaload, 1) := dcr dlc_1320 58 rfl
theorem dL_law__2255 : decode cL_law_ 2255 = .ok (.aload_n 3, 1) := dcr dlc_1320 59 rfl
def dlb_1380 : List (Nat × Instr × Nat) := [(2256, .invokestatic 236, 3), (2259, .istore 5, 2), (2261, .aload_n 2, 1), (2262, .aload_n 0, 1), (2263, .iload 4, 2), (2265, .iconst 1, 1), (2266, .iadd, 1), (2267, .iaload, 1), (2268, .aload_n 0, 1), (2269, .iload 4, 2), (2271, .iconst 2, 1), (2272, .iadd, 1), (2273, .iaload, 1), (2274, .invokevirtual 238, 3), (2277, .istore 6, 2), (2279, .aload_n 2, 1), (2280, .invokevirtual 134, 3), (2283, .iload 5, 2), (2285, .if_icmp .eq 5, 3), (2288, .iconst 0, 1), (2289, .ireturn, 1), (2290, .iload 5, 2), (2292, .ifCond .ne 15, 3), (2295, .aload_n 3, 1), (2296, .iconst 0, 1), (2297, .laload, 1), (2298, .iload 6, 2), (2300, .i2l, 1), (2301, .lcmp, 1), (2302, .ifCond .eq 5, 3), (2305, .iconst 0, 1), (2306, .ireturn, 1), (2307, .goto 358, 3), (2310, .aload_n 1, 1), (2311, .aload_n 0, 1), (2312, .iload 4, 2), (2314, .iconst 1, 1), (2315, .iadd, 1), (2316, .iaload, 1), (2317, .aload_n 3, 1), (2318, .invokestatic 239, 3), (2321, .istore 5, 2), (2323, .aload_n 2, 1), (2324, .aload_n 0, 1), (2325, .iload 4, 2), (2327, .iconst 1, 1), (2328, .iadd, 1), (2329, .iaload, 1), (2330, .invokevirtual 241, 3), (2333, .istore 6, 2), (2335, .aload_n 2, 1), (2336, .invokevirtual 134, 3), (2339, .iload 5, 2), (2341, .if_icmp .eq 5, 3), (2344, .iconst 0, 1), (2345, .ireturn, 1), (2346, .iload 5, 2), (2348, .ifCond .ne 15, 3), (2351, .aload_n 3, 1), (2352, .iconst 0, 1)]
theorem dlc_1380 : (dlb_1380.all fun q => decide (decode cL_law_ q.1 = .ok q.2)) = true := by decide +kernel
theorem dL_law__2256 : decode cL_law_ 2256 = .ok (.invokestatic 236, 3) := dcr dlc_1380 0 rfl
theorem dL_law__2259 : decode cL_law_ 2259 = .ok (.istore 5, 2) := dcr dlc_1380 1 rfl
theorem dL_law__2261 : decode cL_law_ 2261 = .ok (.aload_n 2, 1) := dcr dlc_1380 2 rfl
theorem dL_law__2262 : decode cL_law_ 2262 = .ok (.aload_n 0, 1) := dcr dlc_1380 3 rfl
theorem dL_law__2263 : decode cL_law_ 2263 = .ok (.iload 4, 2) := dcr dlc_1380 4 rfl
theorem dL_law__2265 : decode cL_law_ 2265 = .ok (.iconst 1, 1) := dcr dlc_1380 5 rfl
theorem dL_law__2266 : decode cL_law_ 2266 = .ok (.iadd, 1) := dcr dlc_1380 6 rfl
theorem dL_law__2267 : decode cL_law_ 2267 = .ok (.iaload, 1) := dcr dlc_1380 7 rfl
theorem dL_law__2268 : decode cL_law_ 2268 = .ok (.aload_n 0, 1) := dcr dlc_1380 8 rfl
theorem dL_law__2269 : decode cL_law_ 2269 = .ok (.iload 4, 2) := dcr dlc_1380 9 rfl
theorem dL_law__2271 : decode cL_law_ 2271 = .ok (.iconst 2, 1) := dcr dlc_1380 10 rfl
theorem dL_law__2272 : decode cL_law_ 2272 = .ok (.iadd, 1) := dcr dlc_1380 11 rfl
theorem dL_law__2273 : decode cL_law_ 2273 = .ok (.iaload, 1) := dcr dlc_1380 12 rfl
theorem dL_law__2274 : decode cL_law_ 2274 = .ok (.invokevirtual 238, 3) := dcr dlc_1380 13 rfl
theorem dL_law__2277 : decode cL_law_ 2277 = .ok (.istore 6, 2) := dcr dlc_1380 14 rfl
theorem dL_law__2279 : decode cL_law_ 2279 = .ok (.aload_n 2, 1) := dcr dlc_1380 15 rfl
theorem dL_law__2280 : decode cL_law_ 2280 = .ok (.invokevirtual 134, 3) := dcr dlc_1380 16 rfl
theorem dL_law__2283 : decode cL_law_ 2283 = .ok (.iload 5, 2) := dcr dlc_1380 17 rfl
theorem dL_law__2285 : decode cL_law_ 2285 = .ok (.if_icmp .eq 5, 3) := dcr dlc_1380 18 rfl
theorem dL_law__2288 : decode cL_law_ 2288 = .ok (.iconst 0, 1) := dcr dlc_1380 19 rfl
theorem dL_law__2289 : decode cL_law_ 2289 = .ok (.ireturn, 1) := dcr dlc_1380 20 rfl
theorem dL_law__2290 : decode cL_law_ 2290 = .ok (.iload 5, 2) := dcr dlc_1380 21 rfl
theorem dL_law__2292 : decode cL_law_ 2292 = .ok (.ifCond .ne 15, 3) := dcr dlc_1380 22 rfl
theorem dL_law__2295 : decode cL_law_ 2295 = .ok (.aload_n 3, 1) := dcr dlc_1380 23 rfl
theorem dL_law__2296 : decode cL_law_ 2296 = .ok (.iconst 0, 1) := dcr dlc_1380 24 rfl
theorem dL_law__2297 : decode cL_law_ 2297 = .ok (.laload, 1) := dcr dlc_1380 25 rfl
theorem dL_law__2298 : decode cL_law_ 2298 = .ok (.iload 6, 2) := dcr dlc_1380 26 rfl
theorem dL_law__2300 : decode cL_law_ 2300 = .ok (.i2l, 1) := dcr dlc_1380 27 rfl
theorem dL_law__2301 : decode cL_law_ 2301 = .ok (.lcmp, 1) := dcr dlc_1380 28 rfl
theorem dL_law__2302 : decode cL_law_ 2302 = .ok (.ifCond .eq 5, 3) := dcr dlc_1380 29 rfl
theorem dL_law__2305 : decode cL_law_ 2305 = .ok (.iconst 0, 1) := dcr dlc_1380 30 rfl
theorem dL_law__2306 : decode cL_law_ 2306 = .ok (.ireturn, 1) := dcr dlc_1380 31 rfl
theorem dL_law__2307 : decode cL_law_ 2307 = .ok (.goto 358, 3) := dcr dlc_1380 32 rfl
theorem dL_law__2310 : decode cL_law_ 2310 = .ok (.aload_n 1, 1) := dcr dlc_1380 33 rfl
theorem dL_law__2311 : decode cL_law_ 2311 = .ok (.aload_n 0, 1) := dcr dlc_1380 34 rfl
theorem dL_law__2312 : decode cL_law_ 2312 = .ok (.iload 4, 2) := dcr dlc_1380 35 rfl
theorem dL_law__2314 : decode cL_law_ 2314 = .ok (.iconst 1, 1) := dcr dlc_1380 36 rfl
theorem dL_law__2315 : decode cL_law_ 2315 = .ok (.iadd, 1) := dcr dlc_1380 37 rfl
theorem dL_law__2316 : decode cL_law_ 2316 = .ok (.iaload, 1) := dcr dlc_1380 38 rfl
theorem dL_law__2317 : decode cL_law_ 2317 = .ok (.aload_n 3, 1) := dcr dlc_1380 39 rfl
theorem dL_law__2318 : decode cL_law_ 2318 = .ok (.invokestatic 239, 3) := dcr dlc_1380 40 rfl
theorem dL_law__2321 : decode cL_law_ 2321 = .ok (.istore 5, 2) := dcr dlc_1380 41 rfl
theorem dL_law__2323 : decode cL_law_ 2323 = .ok (.aload_n 2, 1) := dcr dlc_1380 42 rfl
theorem dL_law__2324 : decode cL_law_ 2324 = .ok (.aload_n 0, 1) := dcr dlc_1380 43 rfl
theorem dL_law__2325 : decode cL_law_ 2325 = .ok (.iload 4, 2) := dcr dlc_1380 44 rfl
theorem dL_law__2327 : decode cL_law_ 2327 = .ok (.iconst 1, 1) := dcr dlc_1380 45 rfl
theorem dL_law__2328 : decode cL_law_ 2328 = .ok (.iadd, 1) := dcr dlc_1380 46 rfl
theorem dL_law__2329 : decode cL_law_ 2329 = .ok (.iaload, 1) := dcr dlc_1380 47 rfl
theorem dL_law__2330 : decode cL_law_ 2330 = .ok (.invokevirtual 241, 3) := dcr dlc_1380 48 rfl
theorem dL_law__2333 : decode cL_law_ 2333 = .ok (.istore 6, 2) := dcr dlc_1380 49 rfl
theorem dL_law__2335 : decode cL_law_ 2335 = .ok (.aload_n 2, 1) := dcr dlc_1380 50 rfl
theorem dL_law__2336 : decode cL_law_ 2336 = .ok (.invokevirtual 134, 3) := dcr dlc_1380 51 rfl
theorem dL_law__2339 : decode cL_law_ 2339 = .ok (.iload 5, 2) := dcr dlc_1380 52 rfl
theorem dL_law__2341 : decode cL_law_ 2341 = .ok (.if_icmp .eq 5, 3) := dcr dlc_1380 53 rfl
theorem dL_law__2344 : decode cL_law_ 2344 = .ok (.iconst 0, 1) := dcr dlc_1380 54 rfl
theorem dL_law__2345 : decode cL_law_ 2345 = .ok (.ireturn, 1) := dcr dlc_1380 55 rfl
theorem dL_law__2346 : decode cL_law_ 2346 = .ok (.iload 5, 2) := dcr dlc_1380 56 rfl
theorem dL_law__2348 : decode cL_law_ 2348 = .ok (.ifCond .ne 15, 3) := dcr dlc_1380 57 rfl
theorem dL_law__2351 : decode cL_law_ 2351 = .ok (.aload_n 3, 1) := dcr dlc_1380 58 rfl
theorem dL_law__2352 : decode cL_law_ 2352 = .ok (.iconst 0, 1) := dcr dlc_1380 59 rfl
def dlb_1440 : List (Nat × Instr × Nat) := [(2353, .laload, 1), (2354, .iload 6, 2), (2356, .i2l, 1), (2357, .lcmp, 1), (2358, .ifCond .eq 5, 3), (2361, .iconst 0, 1), (2362, .ireturn, 1), (2363, .goto 302, 3), (2366, .aload_n 1, 1), (2367, .invokevirtual 242, 3), (2370, .aload_n 2, 1), (2371, .invokevirtual 245, 3), (2374, .if_icmp .eq 291, 3), (2377, .iconst 0, 1), (2378, .ireturn, 1), (2379, .aload_n 1, 1), (2380, .aload_n 0, 1), (2381, .iload 4, 2), (2383, .iconst 1, 1), (2384, .iadd, 1), (2385, .iaload, 1), (2386, .aload_n 0, 1), (2387, .iload 4, 2), (2389, .iconst 2, 1), (2390, .iadd, 1), (2391, .iaload, 1), (2392, .aload_n 0, 1), (2393, .iload 4, 2), (2395, .iconst 3, 1), (2396, .iadd, 1), (2397, .iaload, 1), (2398, .aload_n 0, 1), (2399, .iload 4, 2), (2401, .iconst 4, 1), (2402, .iadd, 1), (2403, .iaload, 1), (2404, .aload_n 3, 1), (2405, .invokestatic 246, 3), (2408, .istore 5, 2), (2410, .aload_n 2, 1), (2411, .aload_n 0, 1), (2412, .iload 4, 2), (2414, .iconst 1, 1), (2415, .iadd, 1), (2416, .iaload, 1), (2417, .aload_n 0, 1), (2418, .iload 4, 2), (2420, .iconst 2, 1), (2421, .iadd, 1), (2422, .iaload, 1), (2423, .aload_n 0, 1), (2424, .iload 4, 2), (2426, .iconst 3, 1), (2427, .iadd, 1), (2428, .iaload, 1), (2429, .aload_n 0, 1), (2430, .iload 4, 2), (2432, .iconst 4, 1), (2433, .iadd, 1), (2434, .iaload, 1)]
theorem dlc_1440 : (dlb_1440.all fun q => decide (decode cL_law_ q.1 = .ok q.2)) = true := by decide +kernel
theorem dL_law__2353 : decode cL_law_ 2353 = .ok (.laload, 1) := dcr dlc_1440 0 rfl
theorem dL_law__2354 : decode cL_law_ 2354 = .ok (.iload 6, 2) := dcr dlc_1440 1 rfl
theorem dL_law__2356 : decode cL_law_ 2356 = .ok (.i2l, 1) := dcr dlc_1440 2 rfl
theorem dL_law__2357 : decode cL_law_ 2357 = .ok (.lcmp, 1) := dcr dlc_1440 3 rfl
theorem dL_law__2358 : decode cL_law_ 2358 = .ok (.ifCond .eq 5, 3) := dcr dlc_1440 4 rfl
theorem dL_law__2361 : decode cL_law_ 2361 = .ok (.iconst 0, 1) := dcr dlc_1440 5 rfl
theorem dL_law__2362 : decode cL_law_ 2362 = .ok (.ireturn, 1) := dcr dlc_1440 6 rfl
theorem dL_law__2363 : decode cL_law_ 2363 = .ok (.goto 302, 3) := dcr dlc_1440 7 rfl
theorem dL_law__2366 : decode cL_law_ 2366 = .ok (.aload_n 1, 1) := dcr dlc_1440 8 rfl
theorem dL_law__2367 : decode cL_law_ 2367 = .ok (.invokevirtual 242, 3) := dcr dlc_1440 9 rfl
theorem dL_law__2370 : decode cL_law_ 2370 = .ok (.aload_n 2, 1) := dcr dlc_1440 10 rfl
theorem dL_law__2371 : decode cL_law_ 2371 = .ok (.invokevirtual 245, 3) := dcr dlc_1440 11 rfl
theorem dL_law__2374 : decode cL_law_ 2374 = .ok (.if_icmp .eq 291, 3) := dcr dlc_1440 12 rfl
theorem dL_law__2377 : decode cL_law_ 2377 = .ok (.iconst 0, 1) := dcr dlc_1440 13 rfl
theorem dL_law__2378 : decode cL_law_ 2378 = .ok (.ireturn, 1) := dcr dlc_1440 14 rfl
theorem dL_law__2379 : decode cL_law_ 2379 = .ok (.aload_n 1, 1) := dcr dlc_1440 15 rfl
theorem dL_law__2380 : decode cL_law_ 2380 = .ok (.aload_n 0, 1) := dcr dlc_1440 16 rfl
theorem dL_law__2381 : decode cL_law_ 2381 = .ok (.iload 4, 2) := dcr dlc_1440 17 rfl
theorem dL_law__2383 : decode cL_law_ 2383 = .ok (.iconst 1, 1) := dcr dlc_1440 18 rfl
theorem dL_law__2384 : decode cL_law_ 2384 = .ok (.iadd, 1) := dcr dlc_1440 19 rfl
theorem dL_law__2385 : decode cL_law_ 2385 = .ok (.iaload, 1) := dcr dlc_1440 20 rfl
theorem dL_law__2386 : decode cL_law_ 2386 = .ok (.aload_n 0, 1) := dcr dlc_1440 21 rfl
theorem dL_law__2387 : decode cL_law_ 2387 = .ok (.iload 4, 2) := dcr dlc_1440 22 rfl
theorem dL_law__2389 : decode cL_law_ 2389 = .ok (.iconst 2, 1) := dcr dlc_1440 23 rfl
theorem dL_law__2390 : decode cL_law_ 2390 = .ok (.iadd, 1) := dcr dlc_1440 24 rfl
theorem dL_law__2391 : decode cL_law_ 2391 = .ok (.iaload, 1) := dcr dlc_1440 25 rfl
theorem dL_law__2392 : decode cL_law_ 2392 = .ok (.aload_n 0, 1) := dcr dlc_1440 26 rfl
theorem dL_law__2393 : decode cL_law_ 2393 = .ok (.iload 4, 2) := dcr dlc_1440 27 rfl
theorem dL_law__2395 : decode cL_law_ 2395 = .ok (.iconst 3, 1) := dcr dlc_1440 28 rfl
theorem dL_law__2396 : decode cL_law_ 2396 = .ok (.iadd, 1) := dcr dlc_1440 29 rfl
theorem dL_law__2397 : decode cL_law_ 2397 = .ok (.iaload, 1) := dcr dlc_1440 30 rfl
theorem dL_law__2398 : decode cL_law_ 2398 = .ok (.aload_n 0, 1) := dcr dlc_1440 31 rfl
theorem dL_law__2399 : decode cL_law_ 2399 = .ok (.iload 4, 2) := dcr dlc_1440 32 rfl
theorem dL_law__2401 : decode cL_law_ 2401 = .ok (.iconst 4, 1) := dcr dlc_1440 33 rfl
theorem dL_law__2402 : decode cL_law_ 2402 = .ok (.iadd, 1) := dcr dlc_1440 34 rfl
theorem dL_law__2403 : decode cL_law_ 2403 = .ok (.iaload, 1) := dcr dlc_1440 35 rfl
theorem dL_law__2404 : decode cL_law_ 2404 = .ok (.aload_n 3, 1) := dcr dlc_1440 36 rfl
theorem dL_law__2405 : decode cL_law_ 2405 = .ok (.invokestatic 246, 3) := dcr dlc_1440 37 rfl
theorem dL_law__2408 : decode cL_law_ 2408 = .ok (.istore 5, 2) := dcr dlc_1440 38 rfl
theorem dL_law__2410 : decode cL_law_ 2410 = .ok (.aload_n 2, 1) := dcr dlc_1440 39 rfl
theorem dL_law__2411 : decode cL_law_ 2411 = .ok (.aload_n 0, 1) := dcr dlc_1440 40 rfl
theorem dL_law__2412 : decode cL_law_ 2412 = .ok (.iload 4, 2) := dcr dlc_1440 41 rfl
theorem dL_law__2414 : decode cL_law_ 2414 = .ok (.iconst 1, 1) := dcr dlc_1440 42 rfl
theorem dL_law__2415 : decode cL_law_ 2415 = .ok (.iadd, 1) := dcr dlc_1440 43 rfl
theorem dL_law__2416 : decode cL_law_ 2416 = .ok (.iaload, 1) := dcr dlc_1440 44 rfl
theorem dL_law__2417 : decode cL_law_ 2417 = .ok (.aload_n 0, 1) := dcr dlc_1440 45 rfl
theorem dL_law__2418 : decode cL_law_ 2418 = .ok (.iload 4, 2) := dcr dlc_1440 46 rfl
theorem dL_law__2420 : decode cL_law_ 2420 = .ok (.iconst 2, 1) := dcr dlc_1440 47 rfl
theorem dL_law__2421 : decode cL_law_ 2421 = .ok (.iadd, 1) := dcr dlc_1440 48 rfl
theorem dL_law__2422 : decode cL_law_ 2422 = .ok (.iaload, 1) := dcr dlc_1440 49 rfl
theorem dL_law__2423 : decode cL_law_ 2423 = .ok (.aload_n 0, 1) := dcr dlc_1440 50 rfl
theorem dL_law__2424 : decode cL_law_ 2424 = .ok (.iload 4, 2) := dcr dlc_1440 51 rfl
theorem dL_law__2426 : decode cL_law_ 2426 = .ok (.iconst 3, 1) := dcr dlc_1440 52 rfl
theorem dL_law__2427 : decode cL_law_ 2427 = .ok (.iadd, 1) := dcr dlc_1440 53 rfl
theorem dL_law__2428 : decode cL_law_ 2428 = .ok (.iaload, 1) := dcr dlc_1440 54 rfl
theorem dL_law__2429 : decode cL_law_ 2429 = .ok (.aload_n 0, 1) := dcr dlc_1440 55 rfl
theorem dL_law__2430 : decode cL_law_ 2430 = .ok (.iload 4, 2) := dcr dlc_1440 56 rfl
theorem dL_law__2432 : decode cL_law_ 2432 = .ok (.iconst 4, 1) := dcr dlc_1440 57 rfl
theorem dL_law__2433 : decode cL_law_ 2433 = .ok (.iadd, 1) := dcr dlc_1440 58 rfl
theorem dL_law__2434 : decode cL_law_ 2434 = .ok (.iaload, 1) := dcr dlc_1440 59 rfl
def dlb_1500 : List (Nat × Instr × Nat) := [(2435, .invokevirtual 248, 3), (2438, .istore 6, 2), (2440, .aload_n 2, 1), (2441, .invokevirtual 134, 3), (2444, .iload 5, 2), (2446, .if_icmp .eq 5, 3), (2449, .iconst 0, 1), (2450, .ireturn, 1), (2451, .iload 5, 2), (2453, .ifCond .ne 15, 3), (2456, .aload_n 3, 1), (2457, .iconst 0, 1), (2458, .laload, 1), (2459, .iload 6, 2), (2461, .i2l, 1), (2462, .lcmp, 1), (2463, .ifCond .eq 5, 3), (2466, .iconst 0, 1), (2467, .ireturn, 1), (2468, .goto 197, 3), (2471, .aload_n 1, 1), (2472, .aload_n 0, 1), (2473, .iload 4, 2), (2475, .iconst 1, 1), (2476, .iadd, 1), (2477, .iaload, 1), (2478, .aload_n 0, 1), (2479, .iload 4, 2), (2481, .iconst 2, 1), (2482, .iadd, 1), (2483, .iaload, 1), (2484, .aload_n 0, 1), (2485, .iload 4, 2), (2487, .iconst 3, 1), (2488, .iadd, 1), (2489, .iaload, 1), (2490, .aload_n 0, 1), (2491, .iload 4, 2), (2493, .iconst 4, 1), (2494, .iadd, 1), (2495, .iaload, 1), (2496, .aload_n 0, 1), (2497, .iload 4, 2), (2499, .iconst 5, 1), (2500, .iadd, 1), (2501, .iaload, 1), (2502, .aload_n 0, 1), (2503, .iload 4, 2), (2505, .bipush 6, 2), (2507, .iadd, 1), (2508, .iaload, 1), (2509, .aload_n 3, 1), (2510, .invokestatic 249, 3), (2513, .istore 5, 2), (2515, .aload_n 2, 1), (2516, .aload_n 0, 1), (2517, .iload 4, 2), (2519, .iconst 1, 1), (2520, .iadd, 1), (2521, .iaload, 1)]
theorem dlc_1500 : (dlb_1500.all fun q => decide (decode cL_law_ q.1 = .ok q.2)) = true := by decide +kernel
theorem dL_law__2435 : decode cL_law_ 2435 = .ok (.invokevirtual 248, 3) := dcr dlc_1500 0 rfl
theorem dL_law__2438 : decode cL_law_ 2438 = .ok (.istore 6, 2) := dcr dlc_1500 1 rfl
theorem dL_law__2440 : decode cL_law_ 2440 = .ok (.aload_n 2, 1) := dcr dlc_1500 2 rfl
theorem dL_law__2441 : decode cL_law_ 2441 = .ok (.invokevirtual 134, 3) := dcr dlc_1500 3 rfl
theorem dL_law__2444 : decode cL_law_ 2444 = .ok (.iload 5, 2) := dcr dlc_1500 4 rfl
theorem dL_law__2446 : decode cL_law_ 2446 = .ok (.if_icmp .eq 5, 3) := dcr dlc_1500 5 rfl
theorem dL_law__2449 : decode cL_law_ 2449 = .ok (.iconst 0, 1) := dcr dlc_1500 6 rfl
theorem dL_law__2450 : decode cL_law_ 2450 = .ok (.ireturn, 1) := dcr dlc_1500 7 rfl
theorem dL_law__2451 : decode cL_law_ 2451 = .ok (.iload 5, 2) := dcr dlc_1500 8 rfl
theorem dL_law__2453 : decode cL_law_ 2453 = .ok (.ifCond .ne 15, 3) := dcr dlc_1500 9 rfl
theorem dL_law__2456 : decode cL_law_ 2456 = .ok (.aload_n 3, 1) := dcr dlc_1500 10 rfl
theorem dL_law__2457 : decode cL_law_ 2457 = .ok (.iconst 0, 1) := dcr dlc_1500 11 rfl
theorem dL_law__2458 : decode cL_law_ 2458 = .ok (.laload, 1) := dcr dlc_1500 12 rfl
theorem dL_law__2459 : decode cL_law_ 2459 = .ok (.iload 6, 2) := dcr dlc_1500 13 rfl
theorem dL_law__2461 : decode cL_law_ 2461 = .ok (.i2l, 1) := dcr dlc_1500 14 rfl
theorem dL_law__2462 : decode cL_law_ 2462 = .ok (.lcmp, 1) := dcr dlc_1500 15 rfl
theorem dL_law__2463 : decode cL_law_ 2463 = .ok (.ifCond .eq 5, 3) := dcr dlc_1500 16 rfl
theorem dL_law__2466 : decode cL_law_ 2466 = .ok (.iconst 0, 1) := dcr dlc_1500 17 rfl
theorem dL_law__2467 : decode cL_law_ 2467 = .ok (.ireturn, 1) := dcr dlc_1500 18 rfl
theorem dL_law__2468 : decode cL_law_ 2468 = .ok (.goto 197, 3) := dcr dlc_1500 19 rfl
theorem dL_law__2471 : decode cL_law_ 2471 = .ok (.aload_n 1, 1) := dcr dlc_1500 20 rfl
theorem dL_law__2472 : decode cL_law_ 2472 = .ok (.aload_n 0, 1) := dcr dlc_1500 21 rfl
theorem dL_law__2473 : decode cL_law_ 2473 = .ok (.iload 4, 2) := dcr dlc_1500 22 rfl
theorem dL_law__2475 : decode cL_law_ 2475 = .ok (.iconst 1, 1) := dcr dlc_1500 23 rfl
theorem dL_law__2476 : decode cL_law_ 2476 = .ok (.iadd, 1) := dcr dlc_1500 24 rfl
theorem dL_law__2477 : decode cL_law_ 2477 = .ok (.iaload, 1) := dcr dlc_1500 25 rfl
theorem dL_law__2478 : decode cL_law_ 2478 = .ok (.aload_n 0, 1) := dcr dlc_1500 26 rfl
theorem dL_law__2479 : decode cL_law_ 2479 = .ok (.iload 4, 2) := dcr dlc_1500 27 rfl
theorem dL_law__2481 : decode cL_law_ 2481 = .ok (.iconst 2, 1) := dcr dlc_1500 28 rfl
theorem dL_law__2482 : decode cL_law_ 2482 = .ok (.iadd, 1) := dcr dlc_1500 29 rfl
theorem dL_law__2483 : decode cL_law_ 2483 = .ok (.iaload, 1) := dcr dlc_1500 30 rfl
theorem dL_law__2484 : decode cL_law_ 2484 = .ok (.aload_n 0, 1) := dcr dlc_1500 31 rfl
theorem dL_law__2485 : decode cL_law_ 2485 = .ok (.iload 4, 2) := dcr dlc_1500 32 rfl
theorem dL_law__2487 : decode cL_law_ 2487 = .ok (.iconst 3, 1) := dcr dlc_1500 33 rfl
theorem dL_law__2488 : decode cL_law_ 2488 = .ok (.iadd, 1) := dcr dlc_1500 34 rfl
theorem dL_law__2489 : decode cL_law_ 2489 = .ok (.iaload, 1) := dcr dlc_1500 35 rfl
theorem dL_law__2490 : decode cL_law_ 2490 = .ok (.aload_n 0, 1) := dcr dlc_1500 36 rfl
theorem dL_law__2491 : decode cL_law_ 2491 = .ok (.iload 4, 2) := dcr dlc_1500 37 rfl
theorem dL_law__2493 : decode cL_law_ 2493 = .ok (.iconst 4, 1) := dcr dlc_1500 38 rfl
theorem dL_law__2494 : decode cL_law_ 2494 = .ok (.iadd, 1) := dcr dlc_1500 39 rfl
theorem dL_law__2495 : decode cL_law_ 2495 = .ok (.iaload, 1) := dcr dlc_1500 40 rfl
theorem dL_law__2496 : decode cL_law_ 2496 = .ok (.aload_n 0, 1) := dcr dlc_1500 41 rfl
theorem dL_law__2497 : decode cL_law_ 2497 = .ok (.iload 4, 2) := dcr dlc_1500 42 rfl
theorem dL_law__2499 : decode cL_law_ 2499 = .ok (.iconst 5, 1) := dcr dlc_1500 43 rfl
theorem dL_law__2500 : decode cL_law_ 2500 = .ok (.iadd, 1) := dcr dlc_1500 44 rfl
theorem dL_law__2501 : decode cL_law_ 2501 = .ok (.iaload, 1) := dcr dlc_1500 45 rfl
theorem dL_law__2502 : decode cL_law_ 2502 = .ok (.aload_n 0, 1) := dcr dlc_1500 46 rfl
theorem dL_law__2503 : decode cL_law_ 2503 = .ok (.iload 4, 2) := dcr dlc_1500 47 rfl
theorem dL_law__2505 : decode cL_law_ 2505 = .ok (.bipush 6, 2) := dcr dlc_1500 48 rfl
theorem dL_law__2507 : decode cL_law_ 2507 = .ok (.iadd, 1) := dcr dlc_1500 49 rfl
theorem dL_law__2508 : decode cL_law_ 2508 = .ok (.iaload, 1) := dcr dlc_1500 50 rfl
theorem dL_law__2509 : decode cL_law_ 2509 = .ok (.aload_n 3, 1) := dcr dlc_1500 51 rfl
theorem dL_law__2510 : decode cL_law_ 2510 = .ok (.invokestatic 249, 3) := dcr dlc_1500 52 rfl
theorem dL_law__2513 : decode cL_law_ 2513 = .ok (.istore 5, 2) := dcr dlc_1500 53 rfl
theorem dL_law__2515 : decode cL_law_ 2515 = .ok (.aload_n 2, 1) := dcr dlc_1500 54 rfl
theorem dL_law__2516 : decode cL_law_ 2516 = .ok (.aload_n 0, 1) := dcr dlc_1500 55 rfl
theorem dL_law__2517 : decode cL_law_ 2517 = .ok (.iload 4, 2) := dcr dlc_1500 56 rfl
theorem dL_law__2519 : decode cL_law_ 2519 = .ok (.iconst 1, 1) := dcr dlc_1500 57 rfl
theorem dL_law__2520 : decode cL_law_ 2520 = .ok (.iadd, 1) := dcr dlc_1500 58 rfl
theorem dL_law__2521 : decode cL_law_ 2521 = .ok (.iaload, 1) := dcr dlc_1500 59 rfl
def dlb_1560 : List (Nat × Instr × Nat) := [(2522, .aload_n 0, 1), (2523, .iload 4, 2), (2525, .iconst 2, 1), (2526, .iadd, 1), (2527, .iaload, 1), (2528, .aload_n 0, 1), (2529, .iload 4, 2), (2531, .iconst 3, 1), (2532, .iadd, 1), (2533, .iaload, 1), (2534, .aload_n 0, 1), (2535, .iload 4, 2), (2537, .iconst 4, 1), (2538, .iadd, 1), (2539, .iaload, 1), (2540, .aload_n 0, 1), (2541, .iload 4, 2), (2543, .iconst 5, 1), (2544, .iadd, 1), (2545, .iaload, 1), (2546, .aload_n 0, 1), (2547, .iload 4, 2), (2549, .bipush 6, 2), (2551, .iadd, 1), (2552, .iaload, 1), (2553, .invokevirtual 252, 3), (2556, .istore 6, 2), (2558, .aload_n 2, 1), (2559, .invokevirtual 134, 3), (2562, .iload 5, 2), (2564, .if_icmp .eq 5, 3), (2567, .iconst 0, 1), (2568, .ireturn, 1), (2569, .iload 5, 2), (2571, .ifCond .ne 15, 3), (2574, .aload_n 3, 1), (2575, .iconst 0, 1), (2576, .laload, 1), (2577, .iload 6, 2), (2579, .i2l, 1), (2580, .lcmp, 1), (2581, .ifCond .eq 5, 3), (2584, .iconst 0, 1), (2585, .ireturn, 1), (2586, .goto 79, 3), (2589, .aload_n 1, 1), (2590, .invokevirtual 253, 3), (2593, .aload_n 2, 1), (2594, .invokevirtual 256, 3), (2597, .if_icmp .eq 68, 3), (2600, .iconst 0, 1), (2601, .ireturn, 1), (2602, .aload_n 1, 1), (2603, .invokevirtual 257, 3), (2606, .aload_n 2, 1), (2607, .invokevirtual 260, 3), (2610, .if_icmp .eq 55, 3), (2613, .iconst 0, 1), (2614, .ireturn, 1), (2615, .aload_n 1, 1)]
theorem dlc_1560 : (dlb_1560.all fun q => decide (decode cL_law_ q.1 = .ok q.2)) = true := by decide +kernel
theorem dL_law__2522 : decode cL_law_ 2522 = .ok (.aload_n 0, 1) := dcr dlc_1560 0 rfl
theorem dL_law__2523 : decode cL_law_ 2523 = .ok (.iload 4, 2) := dcr dlc_1560 1 rfl
theorem dL_law__2525 : decode cL_law_ 2525 = .ok (.iconst 2, 1) := dcr dlc_1560 2 rfl
theorem dL_law__2526 : decode cL_law_ 2526 = .ok (.iadd, 1) := dcr dlc_1560 3 rfl
theorem dL_law__2527 : decode cL_law_ 2527 = .ok (.iaload, 1) := dcr dlc_1560 4 rfl
theorem dL_law__2528 : decode cL_law_ 2528 = .ok (.aload_n 0, 1) := dcr dlc_1560 5 rfl
theorem dL_law__2529 : decode cL_law_ 2529 = .ok (.iload 4, 2) := dcr dlc_1560 6 rfl
theorem dL_law__2531 : decode cL_law_ 2531 = .ok (.iconst 3, 1) := dcr dlc_1560 7 rfl
theorem dL_law__2532 : decode cL_law_ 2532 = .ok (.iadd, 1) := dcr dlc_1560 8 rfl
theorem dL_law__2533 : decode cL_law_ 2533 = .ok (.iaload, 1) := dcr dlc_1560 9 rfl
theorem dL_law__2534 : decode cL_law_ 2534 = .ok (.aload_n 0, 1) := dcr dlc_1560 10 rfl
theorem dL_law__2535 : decode cL_law_ 2535 = .ok (.iload 4, 2) := dcr dlc_1560 11 rfl
theorem dL_law__2537 : decode cL_law_ 2537 = .ok (.iconst 4, 1) := dcr dlc_1560 12 rfl
theorem dL_law__2538 : decode cL_law_ 2538 = .ok (.iadd, 1) := dcr dlc_1560 13 rfl
theorem dL_law__2539 : decode cL_law_ 2539 = .ok (.iaload, 1) := dcr dlc_1560 14 rfl
theorem dL_law__2540 : decode cL_law_ 2540 = .ok (.aload_n 0, 1) := dcr dlc_1560 15 rfl
theorem dL_law__2541 : decode cL_law_ 2541 = .ok (.iload 4, 2) := dcr dlc_1560 16 rfl
theorem dL_law__2543 : decode cL_law_ 2543 = .ok (.iconst 5, 1) := dcr dlc_1560 17 rfl
theorem dL_law__2544 : decode cL_law_ 2544 = .ok (.iadd, 1) := dcr dlc_1560 18 rfl
theorem dL_law__2545 : decode cL_law_ 2545 = .ok (.iaload, 1) := dcr dlc_1560 19 rfl
theorem dL_law__2546 : decode cL_law_ 2546 = .ok (.aload_n 0, 1) := dcr dlc_1560 20 rfl
theorem dL_law__2547 : decode cL_law_ 2547 = .ok (.iload 4, 2) := dcr dlc_1560 21 rfl
theorem dL_law__2549 : decode cL_law_ 2549 = .ok (.bipush 6, 2) := dcr dlc_1560 22 rfl
theorem dL_law__2551 : decode cL_law_ 2551 = .ok (.iadd, 1) := dcr dlc_1560 23 rfl
theorem dL_law__2552 : decode cL_law_ 2552 = .ok (.iaload, 1) := dcr dlc_1560 24 rfl
theorem dL_law__2553 : decode cL_law_ 2553 = .ok (.invokevirtual 252, 3) := dcr dlc_1560 25 rfl
theorem dL_law__2556 : decode cL_law_ 2556 = .ok (.istore 6, 2) := dcr dlc_1560 26 rfl
theorem dL_law__2558 : decode cL_law_ 2558 = .ok (.aload_n 2, 1) := dcr dlc_1560 27 rfl
theorem dL_law__2559 : decode cL_law_ 2559 = .ok (.invokevirtual 134, 3) := dcr dlc_1560 28 rfl
theorem dL_law__2562 : decode cL_law_ 2562 = .ok (.iload 5, 2) := dcr dlc_1560 29 rfl
theorem dL_law__2564 : decode cL_law_ 2564 = .ok (.if_icmp .eq 5, 3) := dcr dlc_1560 30 rfl
theorem dL_law__2567 : decode cL_law_ 2567 = .ok (.iconst 0, 1) := dcr dlc_1560 31 rfl
theorem dL_law__2568 : decode cL_law_ 2568 = .ok (.ireturn, 1) := dcr dlc_1560 32 rfl
theorem dL_law__2569 : decode cL_law_ 2569 = .ok (.iload 5, 2) := dcr dlc_1560 33 rfl
theorem dL_law__2571 : decode cL_law_ 2571 = .ok (.ifCond .ne 15, 3) := dcr dlc_1560 34 rfl
theorem dL_law__2574 : decode cL_law_ 2574 = .ok (.aload_n 3, 1) := dcr dlc_1560 35 rfl
theorem dL_law__2575 : decode cL_law_ 2575 = .ok (.iconst 0, 1) := dcr dlc_1560 36 rfl
theorem dL_law__2576 : decode cL_law_ 2576 = .ok (.laload, 1) := dcr dlc_1560 37 rfl
theorem dL_law__2577 : decode cL_law_ 2577 = .ok (.iload 6, 2) := dcr dlc_1560 38 rfl
theorem dL_law__2579 : decode cL_law_ 2579 = .ok (.i2l, 1) := dcr dlc_1560 39 rfl
theorem dL_law__2580 : decode cL_law_ 2580 = .ok (.lcmp, 1) := dcr dlc_1560 40 rfl
theorem dL_law__2581 : decode cL_law_ 2581 = .ok (.ifCond .eq 5, 3) := dcr dlc_1560 41 rfl
theorem dL_law__2584 : decode cL_law_ 2584 = .ok (.iconst 0, 1) := dcr dlc_1560 42 rfl
theorem dL_law__2585 : decode cL_law_ 2585 = .ok (.ireturn, 1) := dcr dlc_1560 43 rfl
theorem dL_law__2586 : decode cL_law_ 2586 = .ok (.goto 79, 3) := dcr dlc_1560 44 rfl
theorem dL_law__2589 : decode cL_law_ 2589 = .ok (.aload_n 1, 1) := dcr dlc_1560 45 rfl
theorem dL_law__2590 : decode cL_law_ 2590 = .ok (.invokevirtual 253, 3) := dcr dlc_1560 46 rfl
theorem dL_law__2593 : decode cL_law_ 2593 = .ok (.aload_n 2, 1) := dcr dlc_1560 47 rfl
theorem dL_law__2594 : decode cL_law_ 2594 = .ok (.invokevirtual 256, 3) := dcr dlc_1560 48 rfl
theorem dL_law__2597 : decode cL_law_ 2597 = .ok (.if_icmp .eq 68, 3) := dcr dlc_1560 49 rfl
theorem dL_law__2600 : decode cL_law_ 2600 = .ok (.iconst 0, 1) := dcr dlc_1560 50 rfl
theorem dL_law__2601 : decode cL_law_ 2601 = .ok (.ireturn, 1) := dcr dlc_1560 51 rfl
theorem dL_law__2602 : decode cL_law_ 2602 = .ok (.aload_n 1, 1) := dcr dlc_1560 52 rfl
theorem dL_law__2603 : decode cL_law_ 2603 = .ok (.invokevirtual 257, 3) := dcr dlc_1560 53 rfl
theorem dL_law__2606 : decode cL_law_ 2606 = .ok (.aload_n 2, 1) := dcr dlc_1560 54 rfl
theorem dL_law__2607 : decode cL_law_ 2607 = .ok (.invokevirtual 260, 3) := dcr dlc_1560 55 rfl
theorem dL_law__2610 : decode cL_law_ 2610 = .ok (.if_icmp .eq 55, 3) := dcr dlc_1560 56 rfl
theorem dL_law__2613 : decode cL_law_ 2613 = .ok (.iconst 0, 1) := dcr dlc_1560 57 rfl
theorem dL_law__2614 : decode cL_law_ 2614 = .ok (.ireturn, 1) := dcr dlc_1560 58 rfl
theorem dL_law__2615 : decode cL_law_ 2615 = .ok (.aload_n 1, 1) := dcr dlc_1560 59 rfl
def dlb_1620 : List (Nat × Instr × Nat) := [(2616, .aload_n 0, 1), (2617, .iload 4, 2), (2619, .iconst 1, 1), (2620, .iadd, 1), (2621, .iaload, 1), (2622, .invokevirtual 261, 3), (2625, .aload_n 2, 1), (2626, .aload_n 0, 1), (2627, .iload 4, 2), (2629, .iconst 1, 1), (2630, .iadd, 1), (2631, .iaload, 1), (2632, .invokevirtual 264, 3), (2635, .if_icmp .eq 30, 3), (2638, .iconst 0, 1), (2639, .ireturn, 1), (2640, .aload_n 1, 1), (2641, .aload_n 0, 1), (2642, .iload 4, 2), (2644, .iconst 1, 1), (2645, .iadd, 1), (2646, .iaload, 1), (2647, .invokevirtual 265, 3), (2650, .aload_n 2, 1), (2651, .aload_n 0, 1), (2652, .iload 4, 2), (2654, .iconst 1, 1), (2655, .iadd, 1), (2656, .iaload, 1), (2657, .invokevirtual 268, 3), (2660, .if_icmp .eq 5, 3), (2663, .iconst 0, 1), (2664, .ireturn, 1), (2665, .iinc 4 9, 3), (2668, .goto (-2645), 3), (2671, .iconst 1, 1), (2672, .ireturn, 1)]
theorem dlc_1620 : (dlb_1620.all fun q => decide (decode cL_law_ q.1 = .ok q.2)) = true := by decide +kernel
theorem dL_law__2616 : decode cL_law_ 2616 = .ok (.aload_n 0, 1) := dcr dlc_1620 0 rfl
theorem dL_law__2617 : decode cL_law_ 2617 = .ok (.iload 4, 2) := dcr dlc_1620 1 rfl
theorem dL_law__2619 : decode cL_law_ 2619 = .ok (.iconst 1, 1) := dcr dlc_1620 2 rfl
theorem dL_law__2620 : decode cL_law_ 2620 = .ok (.iadd, 1) := dcr dlc_1620 3 rfl
theorem dL_law__2621 : decode cL_law_ 2621 = .ok (.iaload, 1) := dcr dlc_1620 4 rfl
theorem dL_law__2622 : decode cL_law_ 2622 = .ok (.invokevirtual 261, 3) := dcr dlc_1620 5 rfl
theorem dL_law__2625 : decode cL_law_ 2625 = .ok (.aload_n 2, 1) := dcr dlc_1620 6 rfl
theorem dL_law__2626 : decode cL_law_ 2626 = .ok (.aload_n 0, 1) := dcr dlc_1620 7 rfl
theorem dL_law__2627 : decode cL_law_ 2627 = .ok (.iload 4, 2) := dcr dlc_1620 8 rfl
theorem dL_law__2629 : decode cL_law_ 2629 = .ok (.iconst 1, 1) := dcr dlc_1620 9 rfl
theorem dL_law__2630 : decode cL_law_ 2630 = .ok (.iadd, 1) := dcr dlc_1620 10 rfl
theorem dL_law__2631 : decode cL_law_ 2631 = .ok (.iaload, 1) := dcr dlc_1620 11 rfl
theorem dL_law__2632 : decode cL_law_ 2632 = .ok (.invokevirtual 264, 3) := dcr dlc_1620 12 rfl
theorem dL_law__2635 : decode cL_law_ 2635 = .ok (.if_icmp .eq 30, 3) := dcr dlc_1620 13 rfl
theorem dL_law__2638 : decode cL_law_ 2638 = .ok (.iconst 0, 1) := dcr dlc_1620 14 rfl
theorem dL_law__2639 : decode cL_law_ 2639 = .ok (.ireturn, 1) := dcr dlc_1620 15 rfl
theorem dL_law__2640 : decode cL_law_ 2640 = .ok (.aload_n 1, 1) := dcr dlc_1620 16 rfl
theorem dL_law__2641 : decode cL_law_ 2641 = .ok (.aload_n 0, 1) := dcr dlc_1620 17 rfl
theorem dL_law__2642 : decode cL_law_ 2642 = .ok (.iload 4, 2) := dcr dlc_1620 18 rfl
theorem dL_law__2644 : decode cL_law_ 2644 = .ok (.iconst 1, 1) := dcr dlc_1620 19 rfl
theorem dL_law__2645 : decode cL_law_ 2645 = .ok (.iadd, 1) := dcr dlc_1620 20 rfl
theorem dL_law__2646 : decode cL_law_ 2646 = .ok (.iaload, 1) := dcr dlc_1620 21 rfl
theorem dL_law__2647 : decode cL_law_ 2647 = .ok (.invokevirtual 265, 3) := dcr dlc_1620 22 rfl
theorem dL_law__2650 : decode cL_law_ 2650 = .ok (.aload_n 2, 1) := dcr dlc_1620 23 rfl
theorem dL_law__2651 : decode cL_law_ 2651 = .ok (.aload_n 0, 1) := dcr dlc_1620 24 rfl
theorem dL_law__2652 : decode cL_law_ 2652 = .ok (.iload 4, 2) := dcr dlc_1620 25 rfl
theorem dL_law__2654 : decode cL_law_ 2654 = .ok (.iconst 1, 1) := dcr dlc_1620 26 rfl
theorem dL_law__2655 : decode cL_law_ 2655 = .ok (.iadd, 1) := dcr dlc_1620 27 rfl
theorem dL_law__2656 : decode cL_law_ 2656 = .ok (.iaload, 1) := dcr dlc_1620 28 rfl
theorem dL_law__2657 : decode cL_law_ 2657 = .ok (.invokevirtual 268, 3) := dcr dlc_1620 29 rfl
theorem dL_law__2660 : decode cL_law_ 2660 = .ok (.if_icmp .eq 5, 3) := dcr dlc_1620 30 rfl
theorem dL_law__2663 : decode cL_law_ 2663 = .ok (.iconst 0, 1) := dcr dlc_1620 31 rfl
theorem dL_law__2664 : decode cL_law_ 2664 = .ok (.ireturn, 1) := dcr dlc_1620 32 rfl
theorem dL_law__2665 : decode cL_law_ 2665 = .ok (.iinc 4 9, 3) := dcr dlc_1620 33 rfl
theorem dL_law__2668 : decode cL_law_ 2668 = .ok (.goto (-2645), 3) := dcr dlc_1620 34 rfl
theorem dL_law__2671 : decode cL_law_ 2671 = .ok (.iconst 1, 1) := dcr dlc_1620 35 rfl
theorem dL_law__2672 : decode cL_law_ 2672 = .ok (.ireturn, 1) := dcr dlc_1620 36 rfl
