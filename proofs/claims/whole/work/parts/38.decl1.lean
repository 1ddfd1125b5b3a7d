/-! decode rows of the law -/
theorem dcr {cc : ByteArray} {L : List (Nat × Instr × Nat)} (h : (L.all fun q => decide (decode cc q.1 = .ok q.2)) = true) (k : Nat) {pc : Nat} {r : Instr × Nat} (hk : L[k]? = some (pc, r)) : decode cc pc = .ok r := of_decide_eq_true (List.all_eq_true.mp h (pc, r) (List.mem_of_getElem? hk))
def dlb_0 : List (Nat × Instr × Nat) := [(0, .new 8, 3), (3, .dup, 1), (4, .invokespecial 119, 3), (7, .astore_n 1, 1), (8, .new 120, 3), (11, .dup, 1), (12, .invokespecial 122, 3), (15, .astore_n 2, 1), (16, .iconst 1, 1), (17, .newarray .long, 2), (19, .astore_n 3, 1), (20, .iconst 0, 1), (21, .istore 4, 2), (23, .iload 4, 2), (25, .aload_n 0, 1), (26, .arraylength, 1), (27, .bipush 9, 2), (29, .isub, 1), (30, .if_icmp .gt 2641, 3), (33, .aload_n 0, 1), (34, .iload 4, 2), (36, .iaload, 1), (37, .bipush 63, 2), (39, .iand, 1), (40, .tableswitch 2625 0 40 #[180, 253, 309, 365, 421, 477, 533, 546, 559, 615, 683, 751, 819, 887, 955, 1101, 1157, 1225, 1293, 1349, 1417, 1497, 1577, 1669, 1761, 1841, 1921, 1934, 1990, 2015, 2071, 2146, 2202, 2270, 2326, 2339, 2431, 2549, 2562, 2575, 2600], 180), (220, .aload_n 1, 1), (221, .aload_n 0, 1), (222, .iload 4, 2), (224, .iconst 1, 1), (225, .iadd, 1), (226, .iaload, 1), (227, .aload_n 0, 1), (228, .iload 4, 2), (230, .iconst 2, 1), (231, .iadd, 1), (232, .iaload, 1), (233, .aload_n 0, 1), (234, .iload 4, 2), (236, .iconst 3, 1), (237, .iadd, 1), (238, .iaload, 1), (239, .aload_n 0, 1), (240, .iload 4, 2), (242, .iconst 4, 1), (243, .iadd, 1), (244, .iaload, 1), (245, .aload_n 0, 1), (246, .iload 4, 2), (248, .iconst 5, 1), (249, .iadd, 1), (250, .iaload, 1), (251, .invokevirtual 123, 3), (254, .aload_n 2, 1), (255, .aload_n 0, 1), (256, .iload 4, 2), (258, .iconst 1, 1), (259, .iadd, 1), (260, .iaload, 1), (261, .aload_n 0, 1), (262, .iload 4, 2)]
theorem dlc_0 : (dlb_0.all fun q => decide (decode cL_law_ q.1 = .ok q.2)) = true := by decide +kernel
theorem dL_law__0 : decode cL_law_ 0 = .ok (.new 8, 3) := dcr dlc_0 0 rfl
theorem dL_law__3 : decode cL_law_ 3 = .ok (.dup, 1) := dcr dlc_0 1 rfl
theorem dL_law__4 : decode cL_law_ 4 = .ok (.invokespecial 119, 3) := dcr dlc_0 2 rfl
theorem dL_law__7 : decode cL_law_ 7 = .ok (.astore_n 1, 1) := dcr dlc_0 3 rfl
theorem dL_law__8 : decode cL_law_ 8 = .ok (.new 120, 3) := dcr dlc_0 4 rfl
theorem dL_law__11 : decode cL_law_ 11 = .ok (.dup, 1) := dcr dlc_0 5 rfl
theorem dL_law__12 : decode cL_law_ 12 = .ok (.invokespecial 122, 3) := dcr dlc_0 6 rfl
theorem dL_law__15 : decode cL_law_ 15 = .ok (.astore_n 2, 1) := dcr dlc_0 7 rfl
theorem dL_law__16 : decode cL_law_ 16 = .ok (.iconst 1, 1) := dcr dlc_0 8 rfl
theorem dL_law__17 : decode cL_law_ 17 = .ok (.newarray .long, 2) := dcr dlc_0 9 rfl
theorem dL_law__19 : decode cL_law_ 19 = .ok (.astore_n 3, 1) := dcr dlc_0 10 rfl
theorem dL_law__20 : decode cL_law_ 20 = .ok (.iconst 0, 1) := dcr dlc_0 11 rfl
theorem dL_law__21 : decode cL_law_ 21 = .ok (.istore 4, 2) := dcr dlc_0 12 rfl
theorem dL_law__23 : decode cL_law_ 23 = .ok (.iload 4, 2) := dcr dlc_0 13 rfl
theorem dL_law__25 : decode cL_law_ 25 = .ok (.aload_n 0, 1) := dcr dlc_0 14 rfl
theorem dL_law__26 : decode cL_law_ 26 = .ok (.arraylength, 1) := dcr dlc_0 15 rfl
theorem dL_law__27 : decode cL_law_ 27 = .ok (.bipush 9, 2) := dcr dlc_0 16 rfl
theorem dL_law__29 : decode cL_law_ 29 = .ok (.isub, 1) := dcr dlc_0 17 rfl
theorem dL_law__30 : decode cL_law_ 30 = .ok (.if_icmp .gt 2641, 3) := dcr dlc_0 18 rfl
theorem dL_law__33 : decode cL_law_ 33 = .ok (.aload_n 0, 1) := dcr dlc_0 19 rfl
theorem dL_law__34 : decode cL_law_ 34 = .ok (.iload 4, 2) := dcr dlc_0 20 rfl
theorem dL_law__36 : decode cL_law_ 36 = .ok (.iaload, 1) := dcr dlc_0 21 rfl
theorem dL_law__37 : decode cL_law_ 37 = .ok (.bipush 63, 2) := dcr dlc_0 22 rfl
theorem dL_law__39 : decode cL_law_ 39 = .ok (.iand, 1) := dcr dlc_0 23 rfl
theorem dL_law__40 : decode cL_law_ 40 = .ok (.tableswitch 2625 0 40 #[180, 253, 309, 365, 421, 477, 533, 546, 559, 615, 683, 751, 819, 887, 955, 1101, 1157, 1225, 1293, 1349, 1417, 1497, 1577, 1669, 1761, 1841, 1921, 1934, 1990, 2015, 2071, 2146, 2202, 2270, 2326, 2339, 2431, 2549, 2562, 2575, 2600], 180) := dcr dlc_0 24 rfl
theorem dL_law__220 : decode cL_law_ 220 = .ok (.aload_n 1, 1) := dcr dlc_0 25 rfl
theorem dL_law__221 : decode cL_law_ 221 = .ok (.aload_n 0, 1) := dcr dlc_0 26 rfl
theorem dL_law__222 : decode cL_law_ 222 = .ok (.iload 4, 2) := dcr dlc_0 27 rfl
theorem dL_law__224 : decode cL_law_ 224 = .ok (.iconst 1, 1) := dcr dlc_0 28 rfl
theorem dL_law__225 : decode cL_law_ 225 = .ok (.iadd, 1) := dcr dlc_0 29 rfl
theorem dL_law__226 : decode cL_law_ 226 = .ok (.iaload, 1) := dcr dlc_0 30 rfl
theorem dL_law__227 : decode cL_law_ 227 = .ok (.aload_n 0, 1) := dcr dlc_0 31 rfl
theorem dL_law__228 : decode cL_law_ 228 = .ok (.iload 4, 2) := dcr dlc_0 32 rfl
theorem dL_law__230 : decode cL_law_ 230 = .ok (.iconst 2, 1) := dcr dlc_0 33 rfl
theorem dL_law__231 : decode cL_law_ 231 = .ok (.iadd, 1) := dcr dlc_0 34 rfl
theorem dL_law__232 : decode cL_law_ 232 = .ok (.iaload, 1) := dcr dlc_0 35 rfl
theorem dL_law__233 : decode cL_law_ 233 = .ok (.aload_n 0, 1) := dcr dlc_0 36 rfl
theorem dL_law__234 : decode cL_law_ 234 = .ok (.iload 4, 2) := dcr dlc_0 37 rfl
theorem dL_law__236 : decode cL_law_ 236 = .ok (.iconst 3, 1) := dcr dlc_0 38 rfl
theorem dL_law__237 : decode cL_law_ 237 = .ok (.iadd, 1) := dcr dlc_0 39 rfl
theorem dL_law__238 : decode cL_law_ 238 = .ok (.iaload, 1) := dcr dlc_0 40 rfl
theorem dL_law__239 : decode cL_law_ 239 = .ok (.aload_n 0, 1) := dcr dlc_0 41 rfl
theorem dL_law__240 : decode cL_law_ 240 = .ok (.iload 4, 2) := dcr dlc_0 42 rfl
theorem dL_law__242 : decode cL_law_ 242 = .ok (.iconst 4, 1) := dcr dlc_0 43 rfl
theorem dL_law__243 : decode cL_law_ 243 = .ok (.iadd, 1) := dcr dlc_0 44 rfl
theorem dL_law__244 : decode cL_law_ 244 = .ok (.iaload, 1) := dcr dlc_0 45 rfl
theorem dL_law__245 : decode cL_law_ 245 = .ok (.aload_n 0, 1) := dcr dlc_0 46 rfl
theorem dL_law__246 : decode cL_law_ 246 = .ok (.iload 4, 2) := dcr dlc_0 47 rfl
theorem dL_law__248 : decode cL_law_ 248 = .ok (.iconst 5, 1) := dcr dlc_0 48 rfl
theorem dL_law__249 : decode cL_law_ 249 = .ok (.iadd, 1) := dcr dlc_0 49 rfl
theorem dL_law__250 : decode cL_law_ 250 = .ok (.iaload, 1) := dcr dlc_0 50 rfl
theorem dL_law__251 : decode cL_law_ 251 = .ok (.invokevirtual 123, 3) := dcr dlc_0 51 rfl
theorem dL_law__254 : decode cL_law_ 254 = .ok (.aload_n 2, 1) := dcr dlc_0 52 rfl
theorem dL_law__255 : decode cL_law_ 255 = .ok (.aload_n 0, 1) := dcr dlc_0 53 rfl
theorem dL_law__256 : decode cL_law_ 256 = .ok (.iload 4, 2) := dcr dlc_0 54 rfl
theorem dL_law__258 : decode cL_law_ 258 = .ok (.iconst 1, 1) := dcr dlc_0 55 rfl
theorem dL_law__259 : decode cL_law_ 259 = .ok (.iadd, 1) := dcr dlc_0 56 rfl
theorem dL_law__260 : decode cL_law_ 260 = .ok (.iaload, 1) := dcr dlc_0 57 rfl
theorem dL_law__261 : decode cL_law_ 261 = .ok (.aload_n 0, 1) := dcr dlc_0 58 rfl
theorem dL_law__262 : decode cL_law_ 262 = .ok (.iload 4, 2) := dcr dlc_0 59 rfl
def dlb_60 : List (Nat × Instr × Nat) := [(264, .iconst 2, 1), (265, .iadd, 1), (266, .iaload, 1), (267, .aload_n 0, 1), (268, .iload 4, 2), (270, .iconst 3, 1), (271, .iadd, 1), (272, .iaload, 1), (273, .aload_n 0, 1), (274, .iload 4, 2), (276, .iconst 4, 1), (277, .iadd, 1), (278, .iaload, 1), (279, .aload_n 0, 1), (280, .iload 4, 2), (282, .iconst 5, 1), (283, .iadd, 1), (284, .iaload, 1), (285, .invokevirtual 127, 3), (288, .if_icmp .eq 2377, 3), (291, .iconst 0, 1), (292, .ireturn, 1), (293, .aload_n 1, 1), (294, .aload_n 0, 1), (295, .iload 4, 2), (297, .iconst 1, 1), (298, .iadd, 1), (299, .iaload, 1), (300, .aload_n 3, 1), (301, .invokestatic 128, 3), (304, .istore 5, 2), (306, .aload_n 2, 1), (307, .aload_n 0, 1), (308, .iload 4, 2), (310, .iconst 1, 1), (311, .iadd, 1), (312, .iaload, 1), (313, .invokevirtual 133, 3), (316, .istore 6, 2), (318, .aload_n 2, 1), (319, .invokevirtual 134, 3), (322, .iload 5, 2), (324, .if_icmp .eq 5, 3), (327, .iconst 0, 1), (328, .ireturn, 1), (329, .iload 5, 2), (331, .ifCond .ne 15, 3), (334, .aload_n 3, 1), (335, .iconst 0, 1), (336, .laload, 1), (337, .iload 6, 2), (339, .i2l, 1), (340, .lcmp, 1), (341, .ifCond .eq 5, 3), (344, .iconst 0, 1), (345, .ireturn, 1), (346, .goto 2319, 3), (349, .aload_n 1, 1), (350, .aload_n 0, 1), (351, .iload 4, 2)]
theorem dlc_60 : (dlb_60.all fun q => decide (decode cL_law_ q.1 = .ok q.2)) = true := by decide +kernel
theorem dL_law__264 : decode cL_law_ 264 = .ok (.iconst 2, 1) := dcr dlc_60 0 rfl
theorem dL_law__265 : decode cL_law_ 265 = .ok (.iadd, 1) := dcr dlc_60 1 rfl
theorem dL_law__266 : decode cL_law_ 266 = .ok (.iaload, 1) := dcr dlc_60 2 rfl
theorem dL_law__267 : decode cL_law_ 267 = .ok (.aload_n 0, 1) := dcr dlc_60 3 rfl
theorem dL_law__268 : decode cL_law_ 268 = .ok (.iload 4, 2) := dcr dlc_60 4 rfl
theorem dL_law__270 : decode cL_law_ 270 = .ok (.iconst 3, 1) := dcr dlc_60 5 rfl
theorem dL_law__271 : decode cL_law_ 271 = .ok (.iadd, 1) := dcr dlc_60 6 rfl
theorem dL_law__272 : decode cL_law_ 272 = .ok (.iaload, 1) := dcr dlc_60 7 rfl
theorem dL_law__273 : decode cL_law_ 273 = .ok (.aload_n 0, 1) := dcr dlc_60 8 rfl
theorem dL_law__274 : decode cL_law_ 274 = .ok (.iload 4, 2) := dcr dlc_60 9 rfl
theorem dL_law__276 : decode cL_law_ 276 = .ok (.iconst 4, 1) := dcr dlc_60 10 rfl
theorem dL_law__277 : decode cL_law_ 277 = .ok (.iadd, 1) := dcr dlc_60 11 rfl
theorem dL_law__278 : decode cL_law_ 278 = .ok (.iaload, 1) := dcr dlc_60 12 rfl
theorem dL_law__279 : decode cL_law_ 279 = .ok (.aload_n 0, 1) := dcr dlc_60 13 rfl
theorem dL_law__280 : decode cL_law_ 280 = .ok (.iload 4, 2) := dcr dlc_60 14 rfl
theorem dL_law__282 : decode cL_law_ 282 = .ok (.iconst 5, 1) := dcr dlc_60 15 rfl
theorem dL_law__283 : decode cL_law_ 283 = .ok (.iadd, 1) := dcr dlc_60 16 rfl
theorem dL_law__284 : decode cL_law_ 284 = .ok (.iaload, 1) := dcr dlc_60 17 rfl
theorem dL_law__285 : decode cL_law_ 285 = .ok (.invokevirtual 127, 3) := dcr dlc_60 18 rfl
theorem dL_law__288 : decode cL_law_ 288 = .ok (.if_icmp .eq 2377, 3) := dcr dlc_60 19 rfl
theorem dL_law__291 : decode cL_law_ 291 = .ok (.iconst 0, 1) := dcr dlc_60 20 rfl
theorem dL_law__292 : decode cL_law_ 292 = .ok (.ireturn, 1) := dcr dlc_60 21 rfl
theorem dL_law__293 : decode cL_law_ 293 = .ok (.aload_n 1, 1) := dcr dlc_60 22 rfl
theorem dL_law__294 : decode cL_law_ 294 = .ok (.aload_n 0, 1) := dcr dlc_60 23 rfl
theorem dL_law__295 : decode cL_law_ 295 = .ok (.iload 4, 2) := dcr dlc_60 24 rfl
theorem dL_law__297 : decode cL_law_ 297 = .ok (.iconst 1, 1) := dcr dlc_60 25 rfl
theorem dL_law__298 : decode cL_law_ 298 = .ok (.iadd, 1) := dcr dlc_60 26 rfl
theorem dL_law__299 : decode cL_law_ 299 = .ok (.iaload, 1) := dcr dlc_60 27 rfl
theorem dL_law__300 : decode cL_law_ 300 = .ok (.aload_n 3, 1) := dcr dlc_60 28 rfl
theorem dL_law__301 : decode cL_law_ 301 = .ok (.invokestatic 128, 3) := dcr dlc_60 29 rfl
theorem dL_law__304 : decode cL_law_ 304 = .ok (.istore 5, 2) := dcr dlc_60 30 rfl
theorem dL_law__306 : decode cL_law_ 306 = .ok (.aload_n 2, 1) := dcr dlc_60 31 rfl
theorem dL_law__307 : decode cL_law_ 307 = .ok (.aload_n 0, 1) := dcr dlc_60 32 rfl
theorem dL_law__308 : decode cL_law_ 308 = .ok (.iload 4, 2) := dcr dlc_60 33 rfl
theorem dL_law__310 : decode cL_law_ 310 = .ok (.iconst 1, 1) := dcr dlc_60 34 rfl
theorem dL_law__311 : decode cL_law_ 311 = .ok (.iadd, 1) := dcr dlc_60 35 rfl
theorem dL_law__312 : decode cL_law_ 312 = .ok (.iaload, 1) := dcr dlc_60 36 rfl
theorem dL_law__313 : decode cL_law_ 313 = .ok (.invokevirtual 133, 3) := dcr dlc_60 37 rfl
theorem dL_law__316 : decode cL_law_ 316 = .ok (.istore 6, 2) := dcr dlc_60 38 rfl
theorem dL_law__318 : decode cL_law_ 318 = .ok (.aload_n 2, 1) := dcr dlc_60 39 rfl
theorem dL_law__319 : decode cL_law_ 319 = .ok (.invokevirtual 134, 3) := dcr dlc_60 40 rfl
theorem dL_law__322 : decode cL_law_ 322 = .ok (.iload 5, 2) := dcr dlc_60 41 rfl
theorem dL_law__324 : decode cL_law_ 324 = .ok (.if_icmp .eq 5, 3) := dcr dlc_60 42 rfl
theorem dL_law__327 : decode cL_law_ 327 = .ok (.iconst 0, 1) := dcr dlc_60 43 rfl
theorem dL_law__328 : decode cL_law_ 328 = .ok (.ireturn, 1) := dcr dlc_60 44 rfl
theorem dL_law__329 : decode cL_law_ 329 = .ok (.iload 5, 2) := dcr dlc_60 45 rfl
theorem dL_law__331 : decode cL_law_ 331 = .ok (.ifCond .ne 15, 3) := dcr dlc_60 46 rfl
theorem dL_law__334 : decode cL_law_ 334 = .ok (.aload_n 3, 1) := dcr dlc_60 47 rfl
theorem dL_law__335 : decode cL_law_ 335 = .ok (.iconst 0, 1) := dcr dlc_60 48 rfl
theorem dL_law__336 : decode cL_law_ 336 = .ok (.laload, 1) := dcr dlc_60 49 rfl
theorem dL_law__337 : decode cL_law_ 337 = .ok (.iload 6, 2) := dcr dlc_60 50 rfl
theorem dL_law__339 : decode cL_law_ 339 = .ok (.i2l, 1) := dcr dlc_60 51 rfl
theorem dL_law__340 : decode cL_law_ 340 = .ok (.lcmp, 1) := dcr dlc_60 52 rfl
theorem dL_law__341 : decode cL_law_ 341 = .ok (.ifCond .eq 5, 3) := dcr dlc_60 53 rfl
theorem dL_law__344 : decode cL_law_ 344 = .ok (.iconst 0, 1) := dcr dlc_60 54 rfl
theorem dL_law__345 : decode cL_law_ 345 = .ok (.ireturn, 1) := dcr dlc_60 55 rfl
theorem dL_law__346 : decode cL_law_ 346 = .ok (.goto 2319, 3) := dcr dlc_60 56 rfl
theorem dL_law__349 : decode cL_law_ 349 = .ok (.aload_n 1, 1) := dcr dlc_60 57 rfl
theorem dL_law__350 : decode cL_law_ 350 = .ok (.aload_n 0, 1) := dcr dlc_60 58 rfl
theorem dL_law__351 : decode cL_law_ 351 = .ok (.iload 4, 2) := dcr dlc_60 59 rfl
def dlb_120 : List (Nat × Instr × Nat) := [(353, .iconst 1, 1), (354, .iadd, 1), (355, .iaload, 1), (356, .aload_n 3, 1), (357, .invokestatic 138, 3), (360, .istore 5, 2), (362, .aload_n 2, 1), (363, .aload_n 0, 1), (364, .iload 4, 2), (366, .iconst 1, 1), (367, .iadd, 1), (368, .iaload, 1), (369, .invokevirtual 140, 3), (372, .istore 6, 2), (374, .aload_n 2, 1), (375, .invokevirtual 134, 3), (378, .iload 5, 2), (380, .if_icmp .eq 5, 3), (383, .iconst 0, 1), (384, .ireturn, 1), (385, .iload 5, 2), (387, .ifCond .ne 15, 3), (390, .aload_n 3, 1), (391, .iconst 0, 1), (392, .laload, 1), (393, .iload 6, 2), (395, .i2l, 1), (396, .lcmp, 1), (397, .ifCond .eq 5, 3), (400, .iconst 0, 1), (401, .ireturn, 1), (402, .goto 2263, 3), (405, .aload_n 1, 1), (406, .aload_n 0, 1), (407, .iload 4, 2), (409, .iconst 1, 1), (410, .iadd, 1), (411, .iaload, 1), (412, .aload_n 3, 1), (413, .invokestatic 141, 3), (416, .istore 5, 2), (418, .aload_n 2, 1), (419, .aload_n 0, 1), (420, .iload 4, 2), (422, .iconst 1, 1), (423, .iadd, 1), (424, .iaload, 1), (425, .invokevirtual 143, 3), (428, .istore 6, 2), (430, .aload_n 2, 1), (431, .invokevirtual 134, 3), (434, .iload 5, 2), (436, .if_icmp .eq 5, 3), (439, .iconst 0, 1), (440, .ireturn, 1), (441, .iload 5, 2), (443, .ifCond .ne 15, 3), (446, .aload_n 3, 1), (447, .iconst 0, 1), (448, .laload, 1)]
theorem dlc_120 : (dlb_120.all fun q => decide (decode cL_law_ q.1 = .ok q.2)) = true := by decide +kernel
theorem dL_law__353 : decode cL_law_ 353 = .ok (.iconst 1, 1) := dcr dlc_120 0 rfl
theorem dL_law__354 : decode cL_law_ 354 = .ok (.iadd, 1) := dcr dlc_120 1 rfl
theorem dL_law__355 : decode cL_law_ 355 = .ok (.iaload, 1) := dcr dlc_120 2 rfl
theorem dL_law__356 : decode cL_law_ 356 = .ok (.aload_n 3, 1) := dcr dlc_120 3 rfl
theorem dL_law__357 : decode cL_law_ 357 = .ok (.invokestatic 138, 3) := dcr dlc_120 4 rfl
theorem dL_law__360 : decode cL_law_ 360 = .ok (.istore 5, 2) := dcr dlc_120 5 rfl
theorem dL_law__362 : decode cL_law_ 362 = .ok (.aload_n 2, 1) := dcr dlc_120 6 rfl
theorem dL_law__363 : decode cL_law_ 363 = .ok (.aload_n 0, 1) := dcr dlc_120 7 rfl
theorem dL_law__364 : decode cL_law_ 364 = .ok (.iload 4, 2) := dcr dlc_120 8 rfl
theorem dL_law__366 : decode cL_law_ 366 = .ok (.iconst 1, 1) := dcr dlc_120 9 rfl
theorem dL_law__367 : decode cL_law_ 367 = .ok (.iadd, 1) := dcr dlc_120 10 rfl
theorem dL_law__368 : decode cL_law_ 368 = .ok (.iaload, 1) := dcr dlc_120 11 rfl
theorem dL_law__369 : decode cL_law_ 369 = .ok (.invokevirtual 140, 3) := dcr dlc_120 12 rfl
theorem dL_law__372 : decode cL_law_ 372 = .ok (.istore 6, 2) := dcr dlc_120 13 rfl
theorem dL_law__374 : decode cL_law_ 374 = .ok (.aload_n 2, 1) := dcr dlc_120 14 rfl
theorem dL_law__375 : decode cL_law_ 375 = .ok (.invokevirtual 134, 3) := dcr dlc_120 15 rfl
theorem dL_law__378 : decode cL_law_ 378 = .ok (.iload 5, 2) := dcr dlc_120 16 rfl
theorem dL_law__380 : decode cL_law_ 380 = .ok (.if_icmp .eq 5, 3) := dcr dlc_120 17 rfl
theorem dL_law__383 : decode cL_law_ 383 = .ok (.iconst 0, 1) := dcr dlc_120 18 rfl
theorem dL_law__384 : decode cL_law_ 384 = .ok (.ireturn, 1) := dcr dlc_120 19 rfl
theorem dL_law__385 : decode cL_law_ 385 = .ok (.iload 5, 2) := dcr dlc_120 20 rfl
theorem dL_law__387 : decode cL_law_ 387 = .ok (.ifCond .ne 15, 3) := dcr dlc_120 21 rfl
theorem dL_law__390 : decode cL_law_ 390 = .ok (.aload_n 3, 1) := dcr dlc_120 22 rfl
theorem dL_law__391 : decode cL_law_ 391 = .ok (.iconst 0, 1) := dcr dlc_120 23 rfl
theorem dL_law__392 : decode cL_law_ 392 = .ok (.laload, 1) := dcr dlc_120 24 rfl
theorem dL_law__393 : decode cL_law_ 393 = .ok (.iload 6, 2) := dcr dlc_120 25 rfl
theorem dL_law__395 : decode cL_law_ 395 = .ok (.i2l, 1) := dcr dlc_120 26 rfl
theorem dL_law__396 : decode cL_law_ 396 = .ok (.lcmp, 1) := dcr dlc_120 27 rfl
theorem dL_law__397 : decode cL_law_ 397 = .ok (.ifCond .eq 5, 3) := dcr dlc_120 28 rfl
theorem dL_law__400 : decode cL_law_ 400 = .ok (.iconst 0, 1) := dcr dlc_120 29 rfl
theorem dL_law__401 : decode cL_law_ 401 = .ok (.ireturn, 1) := dcr dlc_120 30 rfl
theorem dL_law__402 : decode cL_law_ 402 = .ok (.goto 2263, 3) := dcr dlc_120 31 rfl
theorem dL_law__405 : decode cL_law_ 405 = .ok (.aload_n 1, 1) := dcr dlc_120 32 rfl
theorem dL_law__406 : decode cL_law_ 406 = .ok (.aload_n 0, 1) := dcr dlc_120 33 rfl
theorem dL_law__407 : decode cL_law_ 407 = .ok (.iload 4, 2) := dcr dlc_120 34 rfl
theorem dL_law__409 : decode cL_law_ 409 = .ok (.iconst 1, 1) := dcr dlc_120 35 rfl
theorem dL_law__410 : decode cL_law_ 410 = .ok (.iadd, 1) := dcr dlc_120 36 rfl
theorem dL_law__411 : decode cL_law_ 411 = .ok (.iaload, 1) := dcr dlc_120 37 rfl
theorem dL_law__412 : decode cL_law_ 412 = .ok (.aload_n 3, 1) := dcr dlc_120 38 rfl
theorem dL_law__413 : decode cL_law_ 413 = .ok (.invokestatic 141, 3) := dcr dlc_120 39 rfl
theorem dL_law__416 : decode cL_law_ 416 = .ok (.istore 5, 2) := dcr dlc_120 40 rfl
theorem dL_law__418 : decode cL_law_ 418 = .ok (.aload_n 2, 1) := dcr dlc_120 41 rfl
theorem dL_law__419 : decode cL_law_ 419 = .ok (.aload_n 0, 1) := dcr dlc_120 42 rfl
theorem dL_law__420 : decode cL_law_ 420 = .ok (.iload 4, 2) := dcr dlc_120 43 rfl
theorem dL_law__422 : decode cL_law_ 422 = .ok (.iconst 1, 1) := dcr dlc_120 44 rfl
theorem dL_law__423 : decode cL_law_ 423 = .ok (.iadd, 1) := dcr dlc_120 45 rfl
theorem dL_law__424 : decode cL_law_ 424 = .ok (.iaload, 1) := dcr dlc_120 46 rfl
theorem dL_law__425 : decode cL_law_ 425 = .ok (.invokevirtual 143, 3) := dcr dlc_120 47 rfl
theorem dL_law__428 : decode cL_law_ 428 = .ok (.istore 6, 2) := dcr dlc_120 48 rfl
theorem dL_law__430 : decode cL_law_ 430 = .ok (.aload_n 2, 1) := dcr dlc_120 49 rfl
theorem dL_law__431 : decode cL_law_ 431 = .ok (.invokevirtual 134, 3) := dcr dlc_120 50 rfl
theorem dL_law__434 : decode cL_law_ 434 = .ok (.iload 5, 2) := dcr dlc_120 51 rfl
theorem dL_law__436 : decode cL_law_ 436 = .ok (.if_icmp .eq 5, 3) := dcr dlc_120 52 rfl
theorem dL_law__439 : decode cL_law_ 439 = .ok (.iconst 0, 1) := dcr dlc_120 53 rfl
theorem dL_law__440 : decode cL_law_ 440 = .ok (.ireturn, 1) := dcr dlc_120 54 rfl
theorem dL_law__441 : decode cL_law_ 441 = .ok (.iload 5, 2) := dcr dlc_120 55 rfl
theorem dL_law__443 : decode cL_law_ 443 = .ok (.ifCond .ne 15, 3) := dcr dlc_120 56 rfl
theorem dL_law__446 : decode cL_law_ 446 = .ok (.aload_n 3, 1) := dcr dlc_120 57 rfl
theorem dL_law__447 : decode cL_law_ 447 = .ok (.iconst 0, 1) := dcr dlc_120 58 rfl
theorem dL_law__448 : decode cL_law_ 448 = .ok (.laload, 1) := dcr dlc_120 59 rfl
def dlb_180 : List (Nat × Instr × Nat) := [(449, .iload 6, 2), (451, .i2l, 1), (452, .lcmp, 1), (453, .ifCond .eq 5, 3), (456, .iconst 0, 1), (457, .ireturn, 1), (458, .goto 2207, 3), (461, .aload_n 1, 1), (462, .aload_n 0, 1), (463, .iload 4, 2), (465, .iconst 1, 1), (466, .iadd, 1), (467, .iaload, 1), (468, .aload_n 3, 1), (469, .invokestatic 144, 3), (472, .istore 5, 2), (474, .aload_n 2, 1), (475, .aload_n 0, 1), (476, .iload 4, 2), (478, .iconst 1, 1), (479, .iadd, 1), (480, .iaload, 1), (481, .invokevirtual 146, 3), (484, .istore 6, 2), (486, .aload_n 2, 1), (487, .invokevirtual 134, 3), (490, .iload 5, 2), (492, .if_icmp .eq 5, 3), (495, .iconst 0, 1), (496, .ireturn, 1), (497, .iload 5, 2), (499, .ifCond .ne 15, 3), (502, .aload_n 3, 1), (503, .iconst 0, 1), (504, .laload, 1), (505, .iload 6, 2), (507, .i2l, 1), (508, .lcmp, 1), (509, .ifCond .eq 5, 3), (512, .iconst 0, 1), (513, .ireturn, 1), (514, .goto 2151, 3), (517, .aload_n 1, 1), (518, .aload_n 0, 1), (519, .iload 4, 2), (521, .iconst 1, 1), (522, .iadd, 1), (523, .iaload, 1), (524, .aload_n 3, 1), (525, .invokestatic 147, 3), (528, .istore 5, 2), (530, .aload_n 2, 1), (531, .aload_n 0, 1), (532, .iload 4, 2), (534, .iconst 1, 1), (535, .iadd, 1), (536, .iaload, 1), (537, .invokevirtual 149, 3), (540, .istore 6, 2), (542, .aload_n 2, 1)]
theorem dlc_180 : (dlb_180.all fun q => decide (decode cL_law_ q.1 = .ok q.2)) = true := by decide +kernel
theorem dL_law__449 : decode cL_law_ 449 = .ok (.iload 6, 2) := dcr dlc_180 0 rfl
theorem dL_law__451 : decode cL_law_ 451 = .ok (.i2l, 1) := dcr dlc_180 1 rfl
theorem dL_law__452 : decode cL_law_ 452 = .ok (.lcmp, 1) := dcr dlc_180 2 rfl
theorem dL_law__453 : decode cL_law_ 453 = .ok (.ifCond .eq 5, 3) := dcr dlc_180 3 rfl
theorem dL_law__456 : decode cL_law_ 456 = .ok (.iconst 0, 1) := dcr dlc_180 4 rfl
theorem dL_law__457 : decode cL_law_ 457 = .ok (.ireturn, 1) := dcr dlc_180 5 rfl
theorem dL_law__458 : decode cL_law_ 458 = .ok (.goto 2207, 3) := dcr dlc_180 6 rfl
theorem dL_law__461 : decode cL_law_ 461 = .ok (.aload_n 1, 1) := dcr dlc_180 7 rfl
theorem dL_law__462 : decode cL_law_ 462 = .ok (.aload_n 0, 1) := dcr dlc_180 8 rfl
theorem dL_law__463 : decode cL_law_ 463 = .ok (.iload 4, 2) := dcr dlc_180 9 rfl
theorem dL_law__465 : decode cL_law_ 465 = .ok (.iconst 1, 1) := dcr dlc_180 10 rfl
theorem dL_law__466 : decode cL_law_ 466 = .ok (.iadd, 1) := dcr dlc_180 11 rfl
theorem dL_law__467 : decode cL_law_ 467 = .ok (.iaload, 1) := dcr dlc_180 12 rfl
theorem dL_law__468 : decode cL_law_ 468 = .ok (.aload_n 3, 1) := dcr dlc_180 13 rfl
theorem dL_law__469 : decode cL_law_ 469 = .ok (.invokestatic 144, 3) := dcr dlc_180 14 rfl
theorem dL_law__472 : decode cL_law_ 472 = .ok (.istore 5, 2) := dcr dlc_180 15 rfl
theorem dL_law__474 : decode cL_law_ 474 = .ok (.aload_n 2, 1) := dcr dlc_180 16 rfl
theorem dL_law__475 : decode cL_law_ 475 = .ok (.aload_n 0, 1) := dcr dlc_180 17 rfl
theorem dL_law__476 : decode cL_law_ 476 = .ok (.iload 4, 2) := dcr dlc_180 18 rfl
theorem dL_law__478 : decode cL_law_ 478 = .ok (.iconst 1, 1) := dcr dlc_180 19 rfl
theorem dL_law__479 : decode cL_law_ 479 = .ok (.iadd, 1) := dcr dlc_180 20 rfl
theorem dL_law__480 : decode cL_law_ 480 = .ok (.iaload, 1) := dcr dlc_180 21 rfl
theorem dL_law__481 : decode cL_law_ 481 = .ok (.invokevirtual 146, 3) := dcr dlc_180 22 rfl
theorem dL_law__484 : decode cL_law_ 484 = .ok (.istore 6, 2) := dcr dlc_180 23 rfl
theorem dL_law__486 : decode cL_law_ 486 = .ok (.aload_n 2, 1) := dcr dlc_180 24 rfl
theorem dL_law__487 : decode cL_law_ 487 = .ok (.invokevirtual 134, 3) := dcr dlc_180 25 rfl
theorem dL_law__490 : decode cL_law_ 490 = .ok (.iload 5, 2) := dcr dlc_180 26 rfl
theorem dL_law__492 : decode cL_law_ 492 = .ok (.if_icmp .eq 5, 3) := dcr dlc_180 27 rfl
theorem dL_law__495 : decode cL_law_ 495 = .ok (.iconst 0, 1) := dcr dlc_180 28 rfl
theorem dL_law__496 : decode cL_law_ 496 = .ok (.ireturn, 1) := dcr dlc_180 29 rfl
theorem dL_law__497 : decode cL_law_ 497 = .ok (.iload 5, 2) := dcr dlc_180 30 rfl
theorem dL_law__499 : decode cL_law_ 499 = .ok (.ifCond .ne 15, 3) := dcr dlc_180 31 rfl
theorem dL_law__502 : decode cL_law_ 502 = .ok (.aload_n 3, 1) := dcr dlc_180 32 rfl
theorem dL_law__503 : decode cL_law_ 503 = .ok (.iconst 0, 1) := dcr dlc_180 33 rfl
theorem dL_law__504 : decode cL_law_ 504 = .ok (.laload, 1) := dcr dlc_180 34 rfl
theorem dL_law__505 : decode cL_law_ 505 = .ok (.iload 6, 2) := dcr dlc_180 35 rfl
theorem dL_law__507 : decode cL_law_ 507 = .ok (.i2l, 1) := dcr dlc_180 36 rfl
theorem dL_law__508 : decode cL_law_ 508 = .ok (.lcmp, 1) := dcr dlc_180 37 rfl
theorem dL_law__509 : decode cL_law_ 509 = .ok (.ifCond .eq 5, 3) := dcr dlc_180 38 rfl
theorem dL_law__512 : decode cL_law_ 512 = .ok (.iconst 0, 1) := dcr dlc_180 39 rfl
theorem dL_law__513 : decode cL_law_ 513 = .ok (.ireturn, 1) := dcr dlc_180 40 rfl
theorem dL_law__514 : decode cL_law_ 514 = .ok (.goto 2151, 3) := dcr dlc_180 41 rfl
theorem dL_law__517 : decode cL_law_ 517 = .ok (.aload_n 1, 1) := dcr dlc_180 42 rfl
theorem dL_law__518 : decode cL_law_ 518 = .ok (.aload_n 0, 1) := dcr dlc_180 43 rfl
theorem dL_law__519 : decode cL_law_ 519 = .ok (.iload 4, 2) := dcr dlc_180 44 rfl
theorem dL_law__521 : decode cL_law_ 521 = .ok (.iconst 1, 1) := dcr dlc_180 45 rfl
theorem dL_law__522 : decode cL_law_ 522 = .ok (.iadd, 1) := dcr dlc_180 46 rfl
theorem dL_law__523 : decode cL_law_ 523 = .ok (.iaload, 1) := dcr dlc_180 47 rfl
theorem dL_law__524 : decode cL_law_ 524 = .ok (.aload_n 3, 1) := dcr dlc_180 48 rfl
theorem dL_law__525 : decode cL_law_ 525 = .ok (.invokestatic 147, 3) := dcr dlc_180 49 rfl
theorem dL_law__528 : decode cL_law_ 528 = .ok (.istore 5, 2) := dcr dlc_180 50 rfl
theorem dL_law__530 : decode cL_law_ 530 = .ok (.aload_n 2, 1) := dcr dlc_180 51 rfl
theorem dL_law__531 : decode cL_law_ 531 = .ok (.aload_n 0, 1) := dcr dlc_180 52 rfl
theorem dL_law__532 : decode cL_law_ 532 = .ok (.iload 4, 2) := dcr dlc_180 53 rfl
theorem dL_law__534 : decode cL_law_ 534 = .ok (.iconst 1, 1) := dcr dlc_180 54 rfl
theorem dL_law__535 : decode cL_law_ 535 = .ok (.iadd, 1) := dcr dlc_180 55 rfl
theorem dL_law__536 : decode cL_law_ 536 = .ok (.iaload, 1) := dcr dlc_180 56 rfl
theorem dL_law__537 : decode cL_law_ 537 = .ok (.invokevirtual 149, 3) := dcr dlc_180 57 rfl
theorem dL_law__540 : decode cL_law_ 540 = .ok (.istore 6, 2) := dcr dlc_180 58 rfl
theorem dL_law__542 : decode cL_law_ 542 = .ok (.aload_n 2, 1) := dcr dlc_180 59 rfl
def dlb_240 : List (Nat × Instr × Nat) := [(543, .invokevirtual 134, 3), (546, .iload 5, 2), (548, .if_icmp .eq 5, 3), (551, .iconst 0, 1), (552, .ireturn, 1), (553, .iload 5, 2), (555, .ifCond .ne 15, 3), (558, .aload_n 3, 1), (559, .iconst 0, 1), (560, .laload, 1), (561, .iload 6, 2), (563, .i2l, 1), (564, .lcmp, 1), (565, .ifCond .eq 5, 3), (568, .iconst 0, 1), (569, .ireturn, 1), (570, .goto 2095, 3), (573, .aload_n 1, 1), (574, .invokevirtual 150, 3), (577, .aload_n 2, 1), (578, .invokevirtual 153, 3), (581, .if_icmp .eq 2084, 3), (584, .iconst 0, 1), (585, .ireturn, 1), (586, .aload_n 1, 1), (587, .invokevirtual 154, 3), (590, .aload_n 2, 1), (591, .invokevirtual 157, 3), (594, .if_icmp .eq 2071, 3), (597, .iconst 0, 1), (598, .ireturn, 1), (599, .aload_n 1, 1), (600, .aload_n 0, 1), (601, .iload 4, 2), (603, .iconst 1, 1), (604, .iadd, 1), (605, .iaload, 1), (606, .aload_n 3, 1), (607, .invokestatic 158, 3), (610, .istore 5, 2), (612, .aload_n 2, 1), (613, .aload_n 0, 1), (614, .iload 4, 2), (616, .iconst 1, 1), (617, .iadd, 1), (618, .iaload, 1), (619, .invokevirtual 160, 3), (622, .istore 6, 2), (624, .aload_n 2, 1), (625, .invokevirtual 134, 3), (628, .iload 5, 2), (630, .if_icmp .eq 5, 3), (633, .iconst 0, 1), (634, .ireturn, 1), (635, .iload 5, 2), (637, .ifCond .ne 15, 3), (640, .aload_n 3, 1), (641, .iconst 0, 1), (642, .laload, 1), (643, .iload 6, 2)]
theorem dlc_240 : (dlb_240.all fun q => decide (decode cL_law_ q.1 = .ok q.2)) = true := by decide +kernel
theorem dL_law__543 : decode cL_law_ 543 = .ok (.invokevirtual 134, 3) := dcr dlc_240 0 rfl
theorem dL_law__546 : decode cL_law_ 546 = .ok (.iload 5, 2) := dcr dlc_240 1 rfl
theorem dL_law__548 : decode cL_law_ 548 = .ok (.if_icmp .eq 5, 3) := dcr dlc_240 2 rfl
theorem dL_law__551 : decode cL_law_ 551 = .ok (.iconst 0, 1) := dcr dlc_240 3 rfl
theorem dL_law__552 : decode cL_law_ 552 = .ok (.ireturn, 1) := dcr dlc_240 4 rfl
theorem dL_law__553 : decode cL_law_ 553 = .ok (.iload 5, 2) := dcr dlc_240 5 rfl
theorem dL_law__555 : decode cL_law_ 555 = .ok (.ifCond .ne 15, 3) := dcr dlc_240 6 rfl
theorem dL_law__558 : decode cL_law_ 558 = .ok (.aload_n 3, 1) := dcr dlc_240 7 rfl
theorem dL_law__559 : decode cL_law_ 559 = .ok (.iconst 0, 1) := dcr dlc_240 8 rfl
theorem dL_law__560 : decode cL_law_ 560 = .ok (.laload, 1) := dcr dlc_240 9 rfl
theorem dL_law__561 : decode cL_law_ 561 = .ok (.iload 6, 2) := dcr dlc_240 10 rfl
theorem dL_law__563 : decode cL_law_ 563 = .ok (.i2l, 1) := dcr dlc_240 11 rfl
theorem dL_law__564 : decode cL_law_ 564 = .ok (.lcmp, 1) := dcr dlc_240 12 rfl
theorem dL_law__565 : decode cL_law_ 565 = .ok (.ifCond .eq 5, 3) := dcr dlc_240 13 rfl
theorem dL_law__568 : decode cL_law_ 568 = .ok (.iconst 0, 1) := dcr dlc_240 14 rfl
theorem dL_law__569 : decode cL_law_ 569 = .ok (.ireturn, 1) := dcr dlc_240 15 rfl
theorem dL_law__570 : decode cL_law_ 570 = .ok (.goto 2095, 3) := dcr dlc_240 16 rfl
theorem dL_law__573 : decode cL_law_ 573 = .ok (.aload_n 1, 1) := dcr dlc_240 17 rfl
theorem dL_law__574 : decode cL_law_ 574 = .ok (.invokevirtual 150, 3) := dcr dlc_240 18 rfl
theorem dL_law__577 : decode cL_law_ 577 = .ok (.aload_n 2, 1) := dcr dlc_240 19 rfl
theorem dL_law__578 : decode cL_law_ 578 = .ok (.invokevirtual 153, 3) := dcr dlc_240 20 rfl
theorem dL_law__581 : decode cL_law_ 581 = .ok (.if_icmp .eq 2084, 3) := dcr dlc_240 21 rfl
theorem dL_law__584 : decode cL_law_ 584 = .ok (.iconst 0, 1) := dcr dlc_240 22 rfl
theorem dL_law__585 : decode cL_law_ 585 = .ok (.ireturn, 1) := dcr dlc_240 23 rfl
theorem dL_law__586 : decode cL_law_ 586 = .ok (.aload_n 1, 1) := dcr dlc_240 24 rfl
theorem dL_law__587 : decode cL_law_ 587 = .ok (.invokevirtual 154, 3) := dcr dlc_240 25 rfl
theorem dL_law__590 : decode cL_law_ 590 = .ok (.aload_n 2, 1) := dcr dlc_240 26 rfl
theorem dL_law__591 : decode cL_law_ 591 = .ok (.invokevirtual 157, 3) := dcr dlc_240 27 rfl
theorem dL_law__594 : decode cL_law_ 594 = .ok (.if_icmp .eq 2071, 3) := dcr dlc_240 28 rfl
theorem dL_law__597 : decode cL_law_ 597 = .ok (.iconst 0, 1) := dcr dlc_240 29 rfl
theorem dL_law__598 : decode cL_law_ 598 = .ok (.ireturn, 1) := dcr dlc_240 30 rfl
theorem dL_law__599 : decode cL_law_ 599 = .ok (.aload_n 1, 1) := dcr dlc_240 31 rfl
theorem dL_law__600 : decode cL_law_ 600 = .ok (.aload_n 0, 1) := dcr dlc_240 32 rfl
theorem dL_law__601 : decode cL_law_ 601 = .ok (.iload 4, 2) := dcr dlc_240 33 rfl
theorem dL_law__603 : decode cL_law_ 603 = .ok (.iconst 1, 1) := dcr dlc_240 34 rfl
theorem dL_law__604 : decode cL_law_ 604 = .ok (.iadd, 1) := dcr dlc_240 35 rfl
theorem dL_law__605 : decode cL_law_ 605 = .ok (.iaload, 1) := dcr dlc_240 36 rfl
theorem dL_law__606 : decode cL_law_ 606 = .ok (.aload_n 3, 1) := dcr dlc_240 37 rfl
theorem dL_law__607 : decode cL_law_ 607 = .ok (.invokestatic 158, 3) := dcr dlc_240 38 rfl
theorem dL_law__610 : decode cL_law_ 610 = .ok (.istore 5, 2) := dcr dlc_240 39 rfl
theorem dL_law__612 : decode cL_law_ 612 = .ok (.aload_n 2, 1) := dcr dlc_240 40 rfl
theorem dL_law__613 : decode cL_law_ 613 = .ok (.aload_n 0, 1) := dcr dlc_240 41 rfl
theorem dL_law__614 : decode cL_law_ 614 = .ok (.iload 4, 2) := dcr dlc_240 42 rfl
theorem dL_law__616 : decode cL_law_ 616 = .ok (.iconst 1, 1) := dcr dlc_240 43 rfl
theorem dL_law__617 : decode cL_law_ 617 = .ok (.iadd, 1) := dcr dlc_240 44 rfl
theorem dL_law__618 : decode cL_law_ 618 = .ok (.iaload, 1) := dcr dlc_240 45 rfl
theorem dL_law__619 : decode cL_law_ 619 = .ok (.invokevirtual 160, 3) := dcr dlc_240 46 rfl
theorem dL_law__622 : decode cL_law_ 622 = .ok (.istore 6, 2) := dcr dlc_240 47 rfl
theorem dL_law__624 : decode cL_law_ 624 = .ok (.aload_n 2, 1) := dcr dlc_240 48 rfl
theorem dL_law__625 : decode cL_law_ 625 = .ok (.invokevirtual 134, 3) := dcr dlc_240 49 rfl
theorem dL_law__628 : decode cL_law_ 628 = .ok (.iload 5, 2) := dcr dlc_240 50 rfl
theorem dL_law__630 : decode cL_law_ 630 = .ok (.if_icmp .eq 5, 3) := dcr dlc_240 51 rfl
theorem dL_law__633 : decode cL_law_ 633 = .ok (.iconst 0, 1) := dcr dlc_240 52 rfl
theorem dL_law__634 : decode cL_law_ 634 = .ok (.ireturn, 1) := dcr dlc_240 53 rfl
theorem dL_law__635 : decode cL_law_ 635 = .ok (.iload 5, 2) := dcr dlc_240 54 rfl
theorem dL_law__637 : decode cL_law_ 637 = .ok (.ifCond .ne 15, 3) := dcr dlc_240 55 rfl
theorem dL_law__640 : decode cL_law_ 640 = .ok (.aload_n 3, 1) := dcr dlc_240 56 rfl
theorem dL_law__641 : decode cL_law_ 641 = .ok (.iconst 0, 1) := dcr dlc_240 57 rfl
theorem dL_law__642 : decode cL_law_ 642 = .ok (.laload, 1) := dcr dlc_240 58 rfl
theorem dL_law__643 : decode cL_law_ 643 = .ok (.iload 6, 2) := dcr dlc_240 59 rfl
def dlb_300 : List (Nat × Instr × Nat) := [(645, .i2l, 1), (646, .lcmp, 1), (647, .ifCond .eq 5, 3), (650, .iconst 0, 1), (651, .ireturn, 1), (652, .goto 2013, 3), (655, .aload_n 1, 1), (656, .aload_n 0, 1), (657, .iload 4, 2), (659, .iconst 1, 1), (660, .iadd, 1), (661, .iaload, 1), (662, .aload_n 0, 1), (663, .iload 4, 2), (665, .iconst 2, 1), (666, .iadd, 1), (667, .iaload, 1), (668, .aload_n 3, 1), (669, .invokestatic 161, 3), (672, .istore 5, 2), (674, .aload_n 2, 1), (675, .aload_n 0, 1), (676, .iload 4, 2), (678, .iconst 1, 1), (679, .iadd, 1), (680, .iaload, 1), (681, .aload_n 0, 1), (682, .iload 4, 2), (684, .iconst 2, 1), (685, .iadd, 1), (686, .iaload, 1), (687, .invokevirtual 164, 3), (690, .istore 6, 2), (692, .aload_n 2, 1), (693, .invokevirtual 134, 3), (696, .iload 5, 2), (698, .if_icmp .eq 5, 3), (701, .iconst 0, 1), (702, .ireturn, 1), (703, .iload 5, 2), (705, .ifCond .ne 15, 3), (708, .aload_n 3, 1), (709, .iconst 0, 1), (710, .laload, 1), (711, .iload 6, 2), (713, .i2l, 1), (714, .lcmp, 1), (715, .ifCond .eq 5, 3), (718, .iconst 0, 1), (719, .ireturn, 1), (720, .goto 1945, 3), (723, .aload_n 1, 1), (724, .aload_n 0, 1), (725, .iload 4, 2), (727, .iconst 1, 1), (728, .iadd, 1), (729, .iaload, 1), (730, .aload_n 0, 1), (731, .iload 4, 2), (733, .iconst 2, 1)]
theorem dlc_300 : (dlb_300.all fun q => decide (decode cL_law_ q.1 = .ok q.2)) = true := by decide +kernel
theorem dL_law__645 : decode cL_law_ 645 = .ok (.i2l, 1) := dcr dlc_300 0 rfl
theorem dL_law__646 : decode cL_law_ 646 = .ok (.lcmp, 1) := dcr dlc_300 1 rfl
theorem dL_law__647 : decode cL_law_ 647 = .ok (.ifCond .eq 5, 3) := dcr dlc_300 2 rfl
theorem dL_law__650 : decode cL_law_ 650 = .ok (.iconst 0, 1) := dcr dlc_300 3 rfl
theorem dL_law__651 : decode cL_law_ 651 = .ok (.ireturn, 1) := dcr dlc_300 4 rfl
theorem dL_law__652 : decode cL_law_ 652 = .ok (.goto 2013, 3) := dcr dlc_300 5 rfl
theorem dL_law__655 : decode cL_law_ 655 = .ok (.aload_n 1, 1) := dcr dlc_300 6 rfl
theorem dL_law__656 : decode cL_law_ 656 = .ok (.aload_n 0, 1) := dcr dlc_300 7 rfl
theorem dL_law__657 : decode cL_law_ 657 = .ok (.iload 4, 2) := dcr dlc_300 8 rfl
theorem dL_law__659 : decode cL_law_ 659 = .ok (.iconst 1, 1) := dcr dlc_300 9 rfl
theorem dL_law__660 : decode cL_law_ 660 = .ok (.iadd, 1) := dcr dlc_300 10 rfl
theorem dL_law__661 : decode cL_law_ 661 = .ok (.iaload, 1) := dcr dlc_300 11 rfl
theorem dL_law__662 : decode cL_law_ 662 = .ok (.aload_n 0, 1) := dcr dlc_300 12 rfl
theorem dL_law__663 : decode cL_law_ 663 = .ok (.iload 4, 2) := dcr dlc_300 13 rfl
theorem dL_law__665 : decode cL_law_ 665 = .ok (.iconst 2, 1) := dcr dlc_300 14 rfl
theorem dL_law__666 : decode cL_law_ 666 = .ok (.iadd, 1) := dcr dlc_300 15 rfl
theorem dL_law__667 : decode cL_law_ 667 = .ok (.iaload, 1) := dcr dlc_300 16 rfl
theorem dL_law__668 : decode cL_law_ 668 = .ok (.aload_n 3, 1) := dcr dlc_300 17 rfl
theorem dL_law__669 : decode cL_law_ 669 = .ok (.invokestatic 161, 3) := dcr dlc_300 18 rfl
theorem dL_law__672 : decode cL_law_ 672 = .ok (.istore 5, 2) := dcr dlc_300 19 rfl
theorem dL_law__674 : decode cL_law_ 674 = .ok (.aload_n 2, 1) := dcr dlc_300 20 rfl
theorem dL_law__675 : decode cL_law_ 675 = .ok (.aload_n 0, 1) := dcr dlc_300 21 rfl
theorem dL_law__676 : decode cL_law_ 676 = .ok (.iload 4, 2) := dcr dlc_300 22 rfl
theorem dL_law__678 : decode cL_law_ 678 = .ok (.iconst 1, 1) := dcr dlc_300 23 rfl
theorem dL_law__679 : decode cL_law_ 679 = .ok (.iadd, 1) := dcr dlc_300 24 rfl
theorem dL_law__680 : decode cL_law_ 680 = .ok (.iaload, 1) := dcr dlc_300 25 rfl
theorem dL_law__681 : decode cL_law_ 681 = .ok (.aload_n 0, 1) := dcr dlc_300 26 rfl
theorem dL_law__682 : decode cL_law_ 682 = .ok (.iload 4, 2) := dcr dlc_300 27 rfl
theorem dL_law__684 : decode cL_law_ 684 = .ok (.iconst 2, 1) := dcr dlc_300 28 rfl
theorem dL_law__685 : decode cL_law_ 685 = .ok (.iadd, 1) := dcr dlc_300 29 rfl
theorem dL_law__686 : decode cL_law_ 686 = .ok (.iaload, 1) := dcr dlc_300 30 rfl
theorem dL_law__687 : decode cL_law_ 687 = .ok (.invokevirtual 164, 3) := dcr dlc_300 31 rfl
theorem dL_law__690 : decode cL_law_ 690 = .ok (.istore 6, 2) := dcr dlc_300 32 rfl
theorem dL_law__692 : decode cL_law_ 692 = .ok (.aload_n 2, 1) := dcr dlc_300 33 rfl
theorem dL_law__693 : decode cL_law_ 693 = .ok (.invokevirtual 134, 3) := dcr dlc_300 34 rfl
theorem dL_law__696 : decode cL_law_ 696 = .ok (.iload 5, 2) := dcr dlc_300 35 rfl
theorem dL_law__698 : decode cL_law_ 698 = .ok (.if_icmp .eq 5, 3) := dcr dlc_300 36 rfl
theorem dL_law__701 : decode cL_law_ 701 = .ok (.iconst 0, 1) := dcr dlc_300 37 rfl
theorem dL_law__702 : decode cL_law_ 702 = .ok (.ireturn, 1) := dcr dlc_300 38 rfl
theorem dL_law__703 : decode cL_law_ 703 = .ok (.iload 5, 2) := dcr dlc_300 39 rfl
theorem dL_law__705 : decode cL_law_ 705 = .ok (.ifCond .ne 15, 3) := dcr dlc_300 40 rfl
theorem dL_law__708 : decode cL_law_ 708 = .ok (.aload_n 3, 1) := dcr dlc_300 41 rfl
theorem dL_law__709 : decode cL_law_ 709 = .ok (.iconst 0, 1) := dcr dlc_300 42 rfl
theorem dL_law__710 : decode cL_law_ 710 = .ok (.laload, 1) := dcr dlc_300 43 rfl
theorem dL_law__711 : decode cL_law_ 711 = .ok (.iload 6, 2) := dcr dlc_300 44 rfl
theorem dL_law__713 : decode cL_law_ 713 = .ok (.i2l, 1) := dcr dlc_300 45 rfl
theorem dL_law__714 : decode cL_law_ 714 = .ok (.lcmp, 1) := dcr dlc_300 46 rfl
theorem dL_law__715 : decode cL_law_ 715 = .ok (.ifCond .eq 5, 3) := dcr dlc_300 47 rfl
theorem dL_law__718 : decode cL_law_ 718 = .ok (.iconst 0, 1) := dcr dlc_300 48 rfl
theorem dL_law__719 : decode cL_law_ 719 = .ok (.ireturn, 1) := dcr dlc_300 49 rfl
theorem dL_law__720 : decode cL_law_ 720 = .ok (.goto 1945, 3) := dcr dlc_300 50 rfl
theorem dL_law__723 : decode cL_law_ 723 = .ok (.aload_n 1, 1) := dcr dlc_300 51 rfl
theorem dL_law__724 : decode cL_law_ 724 = .ok (.aload_n 0, 1) := dcr dlc_300 52 rfl
theorem dL_law__725 : decode cL_law_ 725 = .ok (.iload 4, 2) := dcr dlc_300 53 rfl
theorem dL_law__727 : decode cL_law_ 727 = .ok (.iconst 1, 1) := dcr dlc_300 54 rfl
theorem dL_law__728 : decode cL_law_ 728 = .ok (.iadd, 1) := dcr dlc_300 55 rfl
theorem dL_law__729 : decode cL_law_ 729 = .ok (.iaload, 1) := dcr dlc_300 56 rfl
theorem dL_law__730 : decode cL_law_ 730 = .ok (.aload_n 0, 1) := dcr dlc_300 57 rfl
theorem dL_law__731 : decode cL_law_ 731 = .ok (.iload 4, 2) := dcr dlc_300 58 rfl
theorem dL_law__733 : decode cL_law_ 733 = .ok (.iconst 2, 1) := dcr dlc_300 59 rfl
def dlb_360 : List (Nat × Instr × Nat) := [(734, .iadd, 1), (735, .iaload, 1), (736, .aload_n 3, 1), (737, .invokestatic 165, 3), (740, .istore 5, 2), (742, .aload_n 2, 1), (743, .aload_n 0, 1), (744, .iload 4, 2), (746, .iconst 1, 1), (747, .iadd, 1), (748, .iaload, 1), (749, .aload_n 0, 1), (750, .iload 4, 2), (752, .iconst 2, 1), (753, .iadd, 1), (754, .iaload, 1), (755, .invokevirtual 167, 3), (758, .istore 6, 2), (760, .aload_n 2, 1), (761, .invokevirtual 134, 3), (764, .iload 5, 2), (766, .if_icmp .eq 5, 3), (769, .iconst 0, 1), (770, .ireturn, 1), (771, .iload 5, 2), (773, .ifCond .ne 15, 3), (776, .aload_n 3, 1), (777, .iconst 0, 1), (778, .laload, 1), (779, .iload 6, 2), (781, .i2l, 1), (782, .lcmp, 1), (783, .ifCond .eq 5, 3), (786, .iconst 0, 1), (787, .ireturn, 1), (788, .goto 1877, 3), (791, .aload_n 1, 1), (792, .aload_n 0, 1), (793, .iload 4, 2), (795, .iconst 1, 1), (796, .iadd, 1), (797, .iaload, 1), (798, .aload_n 0, 1), (799, .iload 4, 2), (801, .iconst 2, 1), (802, .iadd, 1), (803, .iaload, 1), (804, .aload_n 3, 1), (805, .invokestatic 168, 3), (808, .istore 5, 2), (810, .aload_n 2, 1), (811, .aload_n 0, 1), (812, .iload 4, 2), (814, .iconst 1, 1), (815, .iadd, 1), (816, .iaload, 1), (817, .aload_n 0, 1), (818, .iload 4, 2), (820, .iconst 2, 1), (821, .iadd, 1)]
theorem dlc_360 : (dlb_360.all fun q => decide (decode cL_law_ q.1 = .ok q.2)) = true := by decide +kernel
theorem dL_law__734 : decode cL_law_ 734 = .ok (.iadd, 1) := dcr dlc_360 0 rfl
theorem dL_law__735 : decode cL_law_ 735 = .ok (.iaload, 1) := dcr dlc_360 1 rfl
theorem dL_law__736 : decode cL_law_ 736 = .ok (.aload_n 3, 1) := dcr dlc_360 2 rfl
theorem dL_law__737 : decode cL_law_ 737 = .ok (.invokestatic 165, 3) := dcr dlc_360 3 rfl
theorem dL_law__740 : decode cL_law_ 740 = .ok (.istore 5, 2) := dcr dlc_360 4 rfl
theorem dL_law__742 : decode cL_law_ 742 = .ok (.aload_n 2, 1) := dcr dlc_360 5 rfl
theorem dL_law__743 : decode cL_law_ 743 = .ok (.aload_n 0, 1) := dcr dlc_360 6 rfl
theorem dL_law__744 : decode cL_law_ 744 = .ok (.iload 4, 2) := dcr dlc_360 7 rfl
theorem dL_law__746 : decode cL_law_ 746 = .ok (.iconst 1, 1) := dcr dlc_360 8 rfl
theorem dL_law__747 : decode cL_law_ 747 = .ok (.iadd, 1) := dcr dlc_360 9 rfl
theorem dL_law__748 : decode cL_law_ 748 = .ok (.iaload, 1) := dcr dlc_360 10 rfl
theorem dL_law__749 : decode cL_law_ 749 = .ok (.aload_n 0, 1) := dcr dlc_360 11 rfl
theorem dL_law__750 : decode cL_law_ 750 = .ok (.iload 4, 2) := dcr dlc_360 12 rfl
theorem dL_law__752 : decode cL_law_ 752 = .ok (.iconst 2, 1) := dcr dlc_360 13 rfl
theorem dL_law__753 : decode cL_law_ 753 = .ok (.iadd, 1) := dcr dlc_360 14 rfl
theorem dL_law__754 : decode cL_law_ 754 = .ok (.iaload, 1) := dcr dlc_360 15 rfl
theorem dL_law__755 : decode cL_law_ 755 = .ok (.invokevirtual 167, 3) := dcr dlc_360 16 rfl
theorem dL_law__758 : decode cL_law_ 758 = .ok (.istore 6, 2) := dcr dlc_360 17 rfl
theorem dL_law__760 : decode cL_law_ 760 = .ok (.aload_n 2, 1) := dcr dlc_360 18 rfl
theorem dL_law__761 : decode cL_law_ 761 = .ok (.invokevirtual 134, 3) := dcr dlc_360 19 rfl
theorem dL_law__764 : decode cL_law_ 764 = .ok (.iload 5, 2) := dcr dlc_360 20 rfl
theorem dL_law__766 : decode cL_law_ 766 = .ok (.if_icmp .eq 5, 3) := dcr dlc_360 21 rfl
theorem dL_law__769 : decode cL_law_ 769 = .ok (.iconst 0, 1) := dcr dlc_360 22 rfl
theorem dL_law__770 : decode cL_law_ 770 = .ok (.ireturn, 1) := dcr dlc_360 23 rfl
theorem dL_law__771 : decode cL_law_ 771 = .ok (.iload 5, 2) := dcr dlc_360 24 rfl
theorem dL_law__773 : decode cL_law_ 773 = .ok (.ifCond .ne 15, 3) := dcr dlc_360 25 rfl
theorem dL_law__776 : decode cL_law_ 776 = .ok (.aload_n 3, 1) := dcr dlc_360 26 rfl
theorem dL_law__777 : decode cL_law_ 777 = .ok (.iconst 0, 1) := dcr dlc_360 27 rfl
theorem dL_law__778 : decode cL_law_ 778 = .ok (.laload, 1) := dcr dlc_360 28 rfl
theorem dL_law__779 : decode cL_law_ 779 = .ok (.iload 6, 2) := dcr dlc_360 29 rfl
theorem dL_law__781 : decode cL_law_ 781 = .ok (.i2l, 1) := dcr dlc_360 30 rfl
theorem dL_law__782 : decode cL_law_ 782 = .ok (.lcmp, 1) := dcr dlc_360 31 rfl
theorem dL_law__783 : decode cL_law_ 783 = .ok (.ifCond .eq 5, 3) := dcr dlc_360 32 rfl
theorem dL_law__786 : decode cL_law_ 786 = .ok (.iconst 0, 1) := dcr dlc_360 33 rfl
theorem dL_law__787 : decode cL_law_ 787 = .ok (.ireturn, 1) := dcr dlc_360 34 rfl
theorem dL_law__788 : decode cL_law_ 788 = .ok (.goto 1877, 3) := dcr dlc_360 35 rfl
theorem dL_law__791 : decode cL_law_ 791 = .ok (.aload_n 1, 1) := dcr dlc_360 36 rfl
theorem dL_law__792 : decode cL_law_ 792 = .ok (.aload_n 0, 1) := dcr dlc_360 37 rfl
theorem dL_law__793 : decode cL_law_ 793 = .ok (.iload 4, 2) := dcr dlc_360 38 rfl
theorem dL_law__795 : decode cL_law_ 795 = .ok (.iconst 1, 1) := dcr dlc_360 39 rfl
theorem dL_law__796 : decode cL_law_ 796 = .ok (.iadd, 1) := dcr dlc_360 40 rfl
theorem dL_law__797 : decode cL_law_ 797 = .ok (.iaload, 1) := dcr dlc_360 41 rfl
theorem dL_law__798 : decode cL_law_ 798 = .ok (.aload_n 0, 1) := dcr dlc_360 42 rfl
theorem dL_law__799 : decode cL_law_ 799 = .ok (.iload 4, 2) := dcr dlc_360 43 rfl
theorem dL_law__801 : decode cL_law_ 801 = .ok (.iconst 2, 1) := dcr dlc_360 44 rfl
theorem dL_law__802 : decode cL_law_ 802 = .ok (.iadd, 1) := dcr dlc_360 45 rfl
theorem dL_law__803 : decode cL_law_ 803 = .ok (.iaload, 1) := dcr dlc_360 46 rfl
theorem dL_law__804 : decode cL_law_ 804 = .ok (.aload_n 3, 1) := dcr dlc_360 47 rfl
theorem dL_law__805 : decode cL_law_ 805 = .ok (.invokestatic 168, 3) := dcr dlc_360 48 rfl
theorem dL_law__808 : decode cL_law_ 808 = .ok (.istore 5, 2) := dcr dlc_360 49 rfl
theorem dL_law__810 : decode cL_law_ 810 = .ok (.aload_n 2, 1) := dcr dlc_360 50 rfl
theorem dL_law__811 : decode cL_law_ 811 = .ok (.aload_n 0, 1) := dcr dlc_360 51 rfl
theorem dL_law__812 : decode cL_law_ 812 = .ok (.iload 4, 2) := dcr dlc_360 52 rfl
theorem dL_law__814 : decode cL_law_ 814 = .ok (.iconst 1, 1) := dcr dlc_360 53 rfl
theorem dL_law__815 : decode cL_law_ 815 = .ok (.iadd, 1) := dcr dlc_360 54 rfl
theorem dL_law__816 : decode cL_law_ 816 = .ok (.iaload, 1) := dcr dlc_360 55 rfl
theorem dL_law__817 : decode cL_law_ 817 = .ok (.aload_n 0, 1) := dcr dlc_360 56 rfl
theorem dL_law__818 : decode cL_law_ 818 = .ok (.iload 4, 2) := dcr dlc_360 57 rfl
theorem dL_law__820 : decode cL_law_ 820 = .ok (.iconst 2, 1) := dcr dlc_360 58 rfl
theorem dL_law__821 : decode cL_law_ 821 = .ok (.iadd, 1) := dcr dlc_360 59 rfl
