/-! ===== WORDS: constants, fields, call sites ===== -/
theorem wa_of {w : Cond} (i : Nat) (h : lw_tbl[i]? = some w) (g : goodWord w = true) : w ∈ WA := List.mem_filter.mpr ⟨List.mem_of_getElem? h, g⟩
theorem i32_ne {x k : Int32} {n : Int} (h : ¬ x = k) (hn : k.toInt = n) : x.toInt ≠ n := fun e => h (Int32.toInt_inj.mp (e.trans hn.symm))
theorem nar_z {x : Int32} (h : x = 0 ∨ x = 1) : narrow .boolean (.int x) = .int x := by rcases h with rfl | rfl <;> rfl
theorem wsin {C : String} {T : u_T} {N : Nat} (ps : List Nat) (h : (u_ws C T N).map some = ps.map (fun i => lw_tbl[i]?)) (g : (u_ws C T N).all goodWord = true) : ∀ w ∈ u_ws C T N, w ∈ WA := by
  intro w hw
  have h1 : some w ∈ (u_ws C T N).map some := List.mem_map.mpr ⟨w, hw, rfl⟩
  rw [h] at h1
  obtain ⟨i, -, hi⟩ := List.mem_map.mp h1
  exact wa_of i hi (List.all_eq_true.mp g w hw)
theorem wsinX0 : ∀ w ∈ u_ws RX0 TX0 3, w ∈ WA := wsin [467, 469, 471] (by decide +kernel) (by decide +kernel)
theorem plX0 : plainName RX0 = true := by decide +kernel
theorem wsinX1 : ∀ w ∈ u_ws RX1 TX1 2, w ∈ WA := wsin [450, 452] (by decide +kernel) (by decide +kernel)
theorem plX1 : plainName RX1 = true := by decide +kernel
theorem wsinX2 : ∀ w ∈ u_ws RX2 TX2 6, w ∈ WA := wsin [230, 232, 234, 236, 238, 240] (by decide +kernel) (by decide +kernel)
theorem plX2 : plainName RX2 = true := by decide +kernel
theorem wsinX3 : ∀ w ∈ u_ws RX3 TX3 8, w ∈ WA := wsin [400, 402, 404, 406, 408, 410, 412, 414] (by decide +kernel) (by decide +kernel)
theorem plX3 : plainName RX3 = true := by decide +kernel
theorem wsinX4 : ∀ w ∈ u_ws RX4 TX4 5, w ∈ WA := wsin [429, 431, 433, 435, 437] (by decide +kernel) (by decide +kernel)
theorem plX4 : plainName RX4 = true := by decide +kernel
theorem wsinX5 : ∀ w ∈ u_ws RX5 TX5 8, w ∈ WA := wsin [273, 275, 277, 279, 281, 283, 285, 287] (by decide +kernel) (by decide +kernel)
theorem plX5 : plainName RX5 = true := by decide +kernel
theorem wsinX6 : ∀ w ∈ u_ws RX6 TX6 7, w ∈ WA := wsin [351, 353, 355, 357, 359, 361, 363] (by decide +kernel) (by decide +kernel)
theorem plX6 : plainName RX6 = true := by decide +kernel
theorem wsinX7 : ∀ w ∈ u_ws RX7 TX7 2, w ∈ WA := wsin [330, 332] (by decide +kernel) (by decide +kernel)
theorem plX7 : plainName RX7 = true := by decide +kernel
theorem wsinX8 : ∀ w ∈ u_ws RX8 TX8 5, w ∈ WA := wsin [308, 310, 312, 314, 316] (by decide +kernel) (by decide +kernel)
theorem plX8 : plainName RX8 = true := by decide +kernel
theorem wsinX9 : ∀ w ∈ u_ws RX9 TX9 7, w ∈ WA := wsin [160, 162, 164, 166, 168, 170, 172] (by decide +kernel) (by decide +kernel)
theorem plX9 : plainName RX9 = true := by decide +kernel
theorem wsinX10 : ∀ w ∈ u_ws RX10 TX10 9, w ∈ WA := wsin [194, 196, 198, 200, 202, 204, 206, 208, 210] (by decide +kernel) (by decide +kernel)
theorem plX10 : plainName RX10 = true := by decide +kernel
theorem wsinX11 : ∀ w ∈ u_ws RX11 TX11 18, w ∈ WA := wsin [492, 494, 496, 498, 500, 502, 504, 506, 508, 510, 512, 514, 516, 518, 520, 522, 524, 526] (by decide +kernel) (by decide +kernel)
theorem plX11 : plainName RX11 = true := by decide +kernel
theorem wsinX12 : ∀ w ∈ u_ws RX12 TX12 47, w ∈ WA := wsin [1600, 1602, 1604, 1606, 1608, 1610, 1612, 1614, 1616, 1618, 1620, 1622, 1624, 1626, 1628, 1630, 1632, 1634, 1636, 1638, 1640, 1642, 1644, 1646, 1648, 1650, 1652, 1654, 1656, 1658, 1660, 1662, 1664, 1666, 1668, 1670, 1672, 1674, 1676, 1678, 1680, 1682, 1684, 1686, 1688, 1690, 1692] (by decide +kernel) (by decide +kernel)
theorem plX12 : plainName RX12 = true := by decide +kernel
theorem kB_m20 : (Int8.ofInt (-20)).toInt32 = (-20 : Int32) := by decide
theorem kB_6 : (Int8.ofInt (6)).toInt32 = (6 : Int32) := by decide
theorem kB_7 : (Int8.ofInt (7)).toInt32 = (7 : Int32) := by decide
theorem kB_8 : (Int8.ofInt (8)).toInt32 = (8 : Int32) := by decide
theorem kB_9 : (Int8.ofInt (9)).toInt32 = (9 : Int32) := by decide
theorem kB_10 : (Int8.ofInt (10)).toInt32 = (10 : Int32) := by decide
theorem kB_12 : (Int8.ofInt (12)).toInt32 = (12 : Int32) := by decide
theorem kB_13 : (Int8.ofInt (13)).toInt32 = (13 : Int32) := by decide
theorem kB_14 : (Int8.ofInt (14)).toInt32 = (14 : Int32) := by decide
theorem kB_15 : (Int8.ofInt (15)).toInt32 = (15 : Int32) := by decide
theorem kB_16 : (Int8.ofInt (16)).toInt32 = (16 : Int32) := by decide
theorem kB_18 : (Int8.ofInt (18)).toInt32 = (18 : Int32) := by decide
theorem kB_19 : (Int8.ofInt (19)).toInt32 = (19 : Int32) := by decide
theorem kB_20 : (Int8.ofInt (20)).toInt32 = (20 : Int32) := by decide
theorem kB_21 : (Int8.ofInt (21)).toInt32 = (21 : Int32) := by decide
theorem kB_22 : (Int8.ofInt (22)).toInt32 = (22 : Int32) := by decide
theorem kB_23 : (Int8.ofInt (23)).toInt32 = (23 : Int32) := by decide
theorem kB_24 : (Int8.ofInt (24)).toInt32 = (24 : Int32) := by decide
theorem kB_25 : (Int8.ofInt (25)).toInt32 = (25 : Int32) := by decide
theorem kB_27 : (Int8.ofInt (27)).toInt32 = (27 : Int32) := by decide
theorem kB_32 : (Int8.ofInt (32)).toInt32 = (32 : Int32) := by decide
theorem kB_33 : (Int8.ofInt (33)).toInt32 = (33 : Int32) := by decide
theorem kB_34 : (Int8.ofInt (34)).toInt32 = (34 : Int32) := by decide
theorem kB_35 : (Int8.ofInt (35)).toInt32 = (35 : Int32) := by decide
theorem kB_37 : (Int8.ofInt (37)).toInt32 = (37 : Int32) := by decide
theorem kB_40 : (Int8.ofInt (40)).toInt32 = (40 : Int32) := by decide
theorem kB_41 : (Int8.ofInt (41)).toInt32 = (41 : Int32) := by decide
theorem kB_42 : (Int8.ofInt (42)).toInt32 = (42 : Int32) := by decide
theorem kB_43 : (Int8.ofInt (43)).toInt32 = (43 : Int32) := by decide
theorem kB_44 : (Int8.ofInt (44)).toInt32 = (44 : Int32) := by decide
theorem kB_45 : (Int8.ofInt (45)).toInt32 = (45 : Int32) := by decide
theorem kB_47 : (Int8.ofInt (47)).toInt32 = (47 : Int32) := by decide
theorem kB_48 : (Int8.ofInt (48)).toInt32 = (48 : Int32) := by decide
theorem kB_50 : (Int8.ofInt (50)).toInt32 = (50 : Int32) := by decide
theorem kB_57 : (Int8.ofInt (57)).toInt32 = (57 : Int32) := by decide
theorem kB_59 : (Int8.ofInt (59)).toInt32 = (59 : Int32) := by decide
theorem kB_60 : (Int8.ofInt (60)).toInt32 = (60 : Int32) := by decide
theorem kB_91 : (Int8.ofInt (91)).toInt32 = (91 : Int32) := by decide
theorem kB_93 : (Int8.ofInt (93)).toInt32 = (93 : Int32) := by decide
theorem kB_96 : (Int8.ofInt (96)).toInt32 = (96 : Int32) := by decide
theorem kB_97 : (Int8.ofInt (97)).toInt32 = (97 : Int32) := by decide
theorem kB_99 : (Int8.ofInt (99)).toInt32 = (99 : Int32) := by decide
theorem kB_100 : (Int8.ofInt (100)).toInt32 = (100 : Int32) := by decide
theorem kB_122 : (Int8.ofInt (122)).toInt32 = (122 : Int32) := by decide
theorem kI_m1 : Int32.ofInt (-1) = (-1 : Int32) := by decide
theorem kI_0 : Int32.ofInt (0) = (0 : Int32) := by decide
theorem kI_1 : Int32.ofInt (1) = (1 : Int32) := by decide
theorem kI_2 : Int32.ofInt (2) = (2 : Int32) := by decide
theorem kI_3 : Int32.ofInt (3) = (3 : Int32) := by decide
theorem kI_4 : Int32.ofInt (4) = (4 : Int32) := by decide
theorem kI_5 : Int32.ofInt (5) = (5 : Int32) := by decide
theorem kL_0 : Int64.ofNat ((0 : Fin 2) : Nat) = (0 : Int64) := by decide
theorem kS_150 : (Int16.ofInt (150)).toInt32 = (150 : Int32) := by decide
theorem kS_198 : (Int16.ofInt (198)).toInt32 = (198 : Int32) := by decide
theorem kS_200 : (Int16.ofInt (200)).toInt32 = (200 : Int32) := by decide
theorem kS_227 : (Int16.ofInt (227)).toInt32 = (227 : Int32) := by decide
theorem kS_255 : (Int16.ofInt (255)).toInt32 = (255 : Int32) := by decide
theorem kS_419 : (Int16.ofInt (419)).toInt32 = (419 : Int32) := by decide
theorem kS_600 : (Int16.ofInt (600)).toInt32 = (600 : Int32) := by decide
theorem kS_900 : (Int16.ofInt (900)).toInt32 = (900 : Int32) := by decide
theorem kS_999 : (Int16.ofInt (999)).toInt32 = (999 : Int32) := by decide
theorem kS_1000 : (Int16.ofInt (1000)).toInt32 = (1000 : Int32) := by decide
theorem kS_9999 : (Int16.ofInt (9999)).toInt32 = (9999 : Int32) := by decide
theorem kS_10000 : (Int16.ofInt (10000)).toInt32 = (10000 : Int32) := by decide
theorem kS_12345 : (Int16.ofInt (12345)).toInt32 = (12345 : Int32) := by decide
theorem kS_32767 : (Int16.ofInt (32767)).toInt32 = (32767 : Int32) := by decide
theorem flX12_100 : FL RX12 100 12 2 false false := ⟨RX12, TX12, 47, tyX12, rfl, by decide, by decide, wsinX12, wa_of 1555 (by decide +kernel) rfl, rfl, tyX12_ok, nmX12, rfl, rfl, (fun _ => rfl), (fun h => nomatch h)⟩
theorem flX12_103 : FL RX12 103 12 4 false false := ⟨RX12, TX12, 47, tyX12, rfl, by decide, by decide, wsinX12, wa_of 1557 (by decide +kernel) rfl, rfl, tyX12_ok, nmX12, rfl, rfl, (fun _ => rfl), (fun h => nomatch h)⟩
theorem flX12_110 : FL RX12 110 12 5 false false := ⟨RX12, TX12, 47, tyX12, rfl, by decide, by decide, wsinX12, wa_of 1558 (by decide +kernel) rfl, rfl, tyX12_ok, nmX12, rfl, rfl, (fun _ => rfl), (fun h => nomatch h)⟩
theorem flX12_113 : FL RX12 113 12 6 false false := ⟨RX12, TX12, 47, tyX12, rfl, by decide, by decide, wsinX12, wa_of 1559 (by decide +kernel) rfl, rfl, tyX12_ok, nmX12, rfl, rfl, (fun _ => rfl), (fun h => nomatch h)⟩
theorem flX12_13 : FL RX12 13 12 9 true true := ⟨RX12, TX12, 47, tyX12, rfl, by decide, by decide, wsinX12, wa_of 1562 (by decide +kernel) rfl, rfl, tyX12_ok, nmX12, rfl, rfl, (fun h => nomatch h), (fun _ => Or.inr ⟨_, rfl⟩)⟩
theorem flX12_150 : FL RX12 150 12 7 false false := ⟨RX12, TX12, 47, tyX12, rfl, by decide, by decide, wsinX12, wa_of 1560 (by decide +kernel) rfl, rfl, tyX12_ok, nmX12, rfl, rfl, (fun _ => rfl), (fun h => nomatch h)⟩
theorem flX12_153 : FL RX12 153 12 8 false false := ⟨RX12, TX12, 47, tyX12, rfl, by decide, by decide, wsinX12, wa_of 1561 (by decide +kernel) rfl, rfl, tyX12_ok, nmX12, rfl, rfl, (fun _ => rfl), (fun h => nomatch h)⟩
theorem flX12_17 : FL RX12 17 12 10 true true := ⟨RX12, TX12, 47, tyX12, rfl, by decide, by decide, wsinX12, wa_of 1563 (by decide +kernel) rfl, rfl, tyX12_ok, nmX12, rfl, rfl, (fun h => nomatch h), (fun _ => Or.inr ⟨_, rfl⟩)⟩
theorem flX12_184 : FL RX12 184 12 17 false false := ⟨RX12, TX12, 47, tyX12, rfl, by decide, by decide, wsinX12, wa_of 1570 (by decide +kernel) rfl, rfl, tyX12_ok, nmX12, rfl, rfl, (fun _ => rfl), (fun h => nomatch h)⟩
theorem flX12_187 : FL RX12 187 12 33 false false := ⟨RX12, TX12, 47, tyX12, rfl, by decide, by decide, wsinX12, wa_of 1586 (by decide +kernel) rfl, rfl, tyX12_ok, nmX12, rfl, rfl, (fun _ => rfl), (fun h => nomatch h)⟩
theorem flX12_190 : FL RX12 190 12 34 false false := ⟨RX12, TX12, 47, tyX12, rfl, by decide, by decide, wsinX12, wa_of 1587 (by decide +kernel) rfl, rfl, tyX12_ok, nmX12, rfl, rfl, (fun _ => rfl), (fun h => nomatch h)⟩
theorem flX12_193 : FL RX12 193 12 35 false false := ⟨RX12, TX12, 47, tyX12, rfl, by decide, by decide, wsinX12, wa_of 1588 (by decide +kernel) rfl, rfl, tyX12_ok, nmX12, rfl, rfl, (fun _ => rfl), (fun h => nomatch h)⟩
theorem flX12_196 : FL RX12 196 12 36 false false := ⟨RX12, TX12, 47, tyX12, rfl, by decide, by decide, wsinX12, wa_of 1589 (by decide +kernel) rfl, rfl, tyX12_ok, nmX12, rfl, rfl, (fun _ => rfl), (fun h => nomatch h)⟩
theorem flX12_199 : FL RX12 199 12 37 false false := ⟨RX12, TX12, 47, tyX12, rfl, by decide, by decide, wsinX12, wa_of 1590 (by decide +kernel) rfl, rfl, tyX12_ok, nmX12, rfl, rfl, (fun _ => rfl), (fun h => nomatch h)⟩
theorem flX12_20 : FL RX12 20 12 11 true true := ⟨RX12, TX12, 47, tyX12, rfl, by decide, by decide, wsinX12, wa_of 1564 (by decide +kernel) rfl, rfl, tyX12_ok, nmX12, rfl, rfl, (fun h => nomatch h), (fun _ => Or.inr ⟨_, rfl⟩)⟩
theorem flX12_202 : FL RX12 202 12 18 false false := ⟨RX12, TX12, 47, tyX12, rfl, by decide, by decide, wsinX12, wa_of 1571 (by decide +kernel) rfl, rfl, tyX12_ok, nmX12, rfl, rfl, (fun _ => rfl), (fun h => nomatch h)⟩
theorem flX12_23 : FL RX12 23 12 12 true true := ⟨RX12, TX12, 47, tyX12, rfl, by decide, by decide, wsinX12, wa_of 1565 (by decide +kernel) rfl, rfl, tyX12_ok, nmX12, rfl, rfl, (fun h => nomatch h), (fun _ => Or.inr ⟨_, rfl⟩)⟩
theorem flX12_251 : FL RX12 251 12 28 false false := ⟨RX12, TX12, 47, tyX12, rfl, by decide, by decide, wsinX12, wa_of 1581 (by decide +kernel) rfl, rfl, tyX12_ok, nmX12, rfl, rfl, (fun _ => rfl), (fun h => nomatch h)⟩
theorem flX12_28 : FL RX12 28 12 13 true true := ⟨RX12, TX12, 47, tyX12, rfl, by decide, by decide, wsinX12, wa_of 1566 (by decide +kernel) rfl, rfl, tyX12_ok, nmX12, rfl, rfl, (fun h => nomatch h), (fun _ => Or.inr ⟨_, rfl⟩)⟩
theorem flX12_31 : FL RX12 31 12 14 true true := ⟨RX12, TX12, 47, tyX12, rfl, by decide, by decide, wsinX12, wa_of 1567 (by decide +kernel) rfl, rfl, tyX12_ok, nmX12, rfl, rfl, (fun h => nomatch h), (fun _ => Or.inr ⟨_, rfl⟩)⟩
theorem flX12_334 : FL RX12 334 12 39 false false := ⟨RX12, TX12, 47, tyX12, rfl, by decide, by decide, wsinX12, wa_of 1592 (by decide +kernel) rfl, rfl, tyX12_ok, nmX12, rfl, rfl, (fun _ => rfl), (fun h => nomatch h)⟩
theorem flX12_34 : FL RX12 34 12 15 true true := ⟨RX12, TX12, 47, tyX12, rfl, by decide, by decide, wsinX12, wa_of 1568 (by decide +kernel) rfl, rfl, tyX12_ok, nmX12, rfl, rfl, (fun h => nomatch h), (fun _ => Or.inr ⟨_, rfl⟩)⟩
theorem flX12_344 : FL RX12 344 12 40 false false := ⟨RX12, TX12, 47, tyX12, rfl, by decide, by decide, wsinX12, wa_of 1593 (by decide +kernel) rfl, rfl, tyX12_ok, nmX12, rfl, rfl, (fun _ => rfl), (fun h => nomatch h)⟩
theorem flX12_37 : FL RX12 37 12 16 true true := ⟨RX12, TX12, 47, tyX12, rfl, by decide, by decide, wsinX12, wa_of 1569 (by decide +kernel) rfl, rfl, tyX12_ok, nmX12, rfl, rfl, (fun h => nomatch h), (fun _ => Or.inr ⟨_, rfl⟩)⟩
theorem flX12_387 : FL RX12 387 12 43 false false := ⟨RX12, TX12, 47, tyX12, rfl, by decide, by decide, wsinX12, wa_of 1596 (by decide +kernel) rfl, rfl, tyX12_ok, nmX12, rfl, rfl, (fun _ => rfl), (fun h => nomatch h)⟩
theorem flX12_390 : FL RX12 390 12 44 false false := ⟨RX12, TX12, 47, tyX12, rfl, by decide, by decide, wsinX12, wa_of 1597 (by decide +kernel) rfl, rfl, tyX12_ok, nmX12, rfl, rfl, (fun _ => rfl), (fun h => nomatch h)⟩
theorem flX12_40 : FL RX12 40 12 19 true true := ⟨RX12, TX12, 47, tyX12, rfl, by decide, by decide, wsinX12, wa_of 1572 (by decide +kernel) rfl, rfl, tyX12_ok, nmX12, rfl, rfl, (fun h => nomatch h), (fun _ => Or.inr ⟨_, rfl⟩)⟩
theorem flX12_413 : FL RX12 413 12 46 false false := ⟨RX12, TX12, 47, tyX12, rfl, by decide, by decide, wsinX12, wa_of 1599 (by decide +kernel) rfl, rfl, tyX12_ok, nmX12, rfl, rfl, (fun _ => rfl), (fun h => nomatch h)⟩
theorem flX12_426 : FL RX12 426 12 38 false false := ⟨RX12, TX12, 47, tyX12, rfl, by decide, by decide, wsinX12, wa_of 1591 (by decide +kernel) rfl, rfl, tyX12_ok, nmX12, rfl, rfl, (fun _ => rfl), (fun h => nomatch h)⟩
theorem flX12_43 : FL RX12 43 12 20 true true := ⟨RX12, TX12, 47, tyX12, rfl, by decide, by decide, wsinX12, wa_of 1573 (by decide +kernel) rfl, rfl, tyX12_ok, nmX12, rfl, rfl, (fun h => nomatch h), (fun _ => Or.inr ⟨_, rfl⟩)⟩
theorem flX12_46 : FL RX12 46 12 21 true true := ⟨RX12, TX12, 47, tyX12, rfl, by decide, by decide, wsinX12, wa_of 1574 (by decide +kernel) rfl, rfl, tyX12_ok, nmX12, rfl, rfl, (fun h => nomatch h), (fun _ => Or.inr ⟨_, rfl⟩)⟩
theorem flX12_49 : FL RX12 49 12 22 true true := ⟨RX12, TX12, 47, tyX12, rfl, by decide, by decide, wsinX12, wa_of 1575 (by decide +kernel) rfl, rfl, tyX12_ok, nmX12, rfl, rfl, (fun h => nomatch h), (fun _ => Or.inr ⟨_, rfl⟩)⟩
theorem flX12_52 : FL RX12 52 12 23 true true := ⟨RX12, TX12, 47, tyX12, rfl, by decide, by decide, wsinX12, wa_of 1576 (by decide +kernel) rfl, rfl, tyX12_ok, nmX12, rfl, rfl, (fun h => nomatch h), (fun _ => Or.inr ⟨_, rfl⟩)⟩
theorem flX12_55 : FL RX12 55 12 24 true true := ⟨RX12, TX12, 47, tyX12, rfl, by decide, by decide, wsinX12, wa_of 1577 (by decide +kernel) rfl, rfl, tyX12_ok, nmX12, rfl, rfl, (fun h => nomatch h), (fun _ => Or.inr ⟨_, rfl⟩)⟩
theorem flX12_58 : FL RX12 58 12 25 true true := ⟨RX12, TX12, 47, tyX12, rfl, by decide, by decide, wsinX12, wa_of 1578 (by decide +kernel) rfl, rfl, tyX12_ok, nmX12, rfl, rfl, (fun h => nomatch h), (fun _ => Or.inr ⟨_, rfl⟩)⟩
theorem flX12_61 : FL RX12 61 12 26 true true := ⟨RX12, TX12, 47, tyX12, rfl, by decide, by decide, wsinX12, wa_of 1579 (by decide +kernel) rfl, rfl, tyX12_ok, nmX12, rfl, rfl, (fun h => nomatch h), (fun _ => Or.inr ⟨_, rfl⟩)⟩
theorem flX12_64 : FL RX12 64 12 27 true true := ⟨RX12, TX12, 47, tyX12, rfl, by decide, by decide, wsinX12, wa_of 1580 (by decide +kernel) rfl, rfl, tyX12_ok, nmX12, rfl, rfl, (fun h => nomatch h), (fun _ => Or.inr ⟨_, rfl⟩)⟩
theorem flX12_67 : FL RX12 67 12 29 true true := ⟨RX12, TX12, 47, tyX12, rfl, by decide, by decide, wsinX12, wa_of 1582 (by decide +kernel) rfl, rfl, tyX12_ok, nmX12, rfl, rfl, (fun h => nomatch h), (fun _ => Or.inr ⟨_, rfl⟩)⟩
theorem flX12_70 : FL RX12 70 12 30 true true := ⟨RX12, TX12, 47, tyX12, rfl, by decide, by decide, wsinX12, wa_of 1583 (by decide +kernel) rfl, rfl, tyX12_ok, nmX12, rfl, rfl, (fun h => nomatch h), (fun _ => Or.inr ⟨_, rfl⟩)⟩
theorem flX12_73 : FL RX12 73 12 31 true true := ⟨RX12, TX12, 47, tyX12, rfl, by decide, by decide, wsinX12, wa_of 1584 (by decide +kernel) rfl, rfl, tyX12_ok, nmX12, rfl, rfl, (fun h => nomatch h), (fun _ => Or.inr ⟨_, rfl⟩)⟩
theorem flX12_76 : FL RX12 76 12 32 true true := ⟨RX12, TX12, 47, tyX12, rfl, by decide, by decide, wsinX12, wa_of 1585 (by decide +kernel) rfl, rfl, tyX12_ok, nmX12, rfl, rfl, (fun h => nomatch h), (fun _ => Or.inr ⟨_, rfl⟩)⟩
theorem flX12_79 : FL RX12 79 12 41 true true := ⟨RX12, TX12, 47, tyX12, rfl, by decide, by decide, wsinX12, wa_of 1594 (by decide +kernel) rfl, rfl, tyX12_ok, nmX12, rfl, rfl, (fun h => nomatch h), (fun _ => Or.inr ⟨_, rfl⟩)⟩
theorem flX12_82 : FL RX12 82 12 42 true true := ⟨RX12, TX12, 47, tyX12, rfl, by decide, by decide, wsinX12, wa_of 1595 (by decide +kernel) rfl, rfl, tyX12_ok, nmX12, rfl, rfl, (fun h => nomatch h), (fun _ => Or.inr ⟨_, rfl⟩)⟩
theorem flX12_85 : FL RX12 85 12 45 true true := ⟨RX12, TX12, 47, tyX12, rfl, by decide, by decide, wsinX12, wa_of 1598 (by decide +kernel) rfl, rfl, tyX12_ok, nmX12, rfl, rfl, (fun h => nomatch h), (fun _ => Or.inr ⟨_, rfl⟩)⟩
theorem flX12_9 : FL RX12 9 12 3 false false := ⟨RX12, TX12, 47, tyX12, rfl, by decide, by decide, wsinX12, wa_of 1556 (by decide +kernel) rfl, rfl, tyX12_ok, nmX12, rfl, rfl, (fun _ => rfl), (fun h => nomatch h)⟩
theorem flX12_94 : FL RX12 94 12 0 false false := ⟨RX12, TX12, 47, tyX12, rfl, by decide, by decide, wsinX12, wa_of 1553 (by decide +kernel) rfl, rfl, tyX12_ok, nmX12, rfl, rfl, (fun _ => rfl), (fun h => nomatch h)⟩
theorem flX12_97 : FL RX12 97 12 1 false false := ⟨RX12, TX12, 47, tyX12, rfl, by decide, by decide, wsinX12, wa_of 1554 (by decide +kernel) rfl, rfl, tyX12_ok, nmX12, rfl, rfl, (fun _ => rfl), (fun h => nomatch h)⟩
theorem cwX12_127 : Cond.constant RX12 127 (100000000) ∈ WA := wa_of 1763 (by decide +kernel) rfl
theorem cwX12_247 : Cond.constant RX12 247 (99999999) ∈ WA := wa_of 1845 (by decide +kernel) rfl
theorem cwX12_261 : Cond.constant RX12 261 (9999999) ∈ WA := wa_of 1824 (by decide +kernel) rfl
theorem cwX12_280 : Cond.constantLong RX12 280 (2147483647) ∈ WA := wa_of 1895 (by decide +kernel) rfl
theorem cwX12_282 : Cond.constant RX12 282 (2147483647) ∈ WA := wa_of 1896 (by decide +kernel) rfl
theorem cwX12_361 : Cond.constantLong RX12 361 (-2147483648) ∈ WA := wa_of 1987 (by decide +kernel) rfl
theorem cwX12_416 : Cond.constant RX12 416 (1103515245) ∈ WA := wa_of 2128 (by decide +kernel) rfl
theorem wcX12_byteAt : Cond.code yX12_byteAt cX12_byteAt 2 (some .int) ∈ WA := wa_of 1725 (by decide +kernel) rfl
theorem wiX12_byteAt : Cond.instanceMethod yX12_byteAt ∈ WA := wa_of 1724 (by decide +kernel) rfl
theorem wsX12_byteAt : Cond.selects yX12_byteAt.cls yX12_byteAt yX12_byteAt ∈ WA := wa_of 49 (by decide +kernel) rfl
theorem wpX12_byteAt : yX12_byteAt.cls ≠ "java/lang/invoke/MethodHandle" ∧ yX12_byteAt.cls ≠ "java/lang/invoke/VarHandle" ∧ (parseMethodDescriptor yX12_byteAt.desc).map (fun d => d.parameters.length) = some 1 := by decide +kernel
theorem wnX12 : Cond.initialized RX12 ∈ WA := wa_of 115 (by decide +kernel) rfl
theorem cwX12_106 : CWV RX12 106 yX12_byteAt cX12_byteAt 2 (some .int) 1 := ⟨goodV (wa_of 1722 (by decide +kernel) rfl) wiX12_byteAt wsX12_byteAt wnX12 wcX12_byteAt, wpX12_byteAt⟩
theorem wcX12_blanks : Cond.code yX12_blanks cX12_blanks 1 none ∈ WA := wa_of 1721 (by decide +kernel) rfl
theorem wiX12_blanks : Cond.instanceMethod yX12_blanks ∈ WA := wa_of 1720 (by decide +kernel) rfl
theorem wsX12_blanks : Cond.selects yX12_blanks.cls yX12_blanks yX12_blanks ∈ WA := wa_of 48 (by decide +kernel) rfl
theorem wpX12_blanks : yX12_blanks.cls ≠ "java/lang/invoke/MethodHandle" ∧ yX12_blanks.cls ≠ "java/lang/invoke/VarHandle" ∧ (parseMethodDescriptor yX12_blanks.desc).map (fun d => d.parameters.length) = some 0 := by decide +kernel
theorem cwX12_116 : CWV RX12 116 yX12_blanks cX12_blanks 1 none 0 := ⟨goodV (wa_of 1718 (by decide +kernel) rfl) wiX12_blanks wsX12_blanks wnX12 wcX12_blanks, wpX12_blanks⟩
theorem wcX12_isDigit : Cond.code yX12_isDigit cX12_isDigit 1 (some .boolean) ∈ WA := wa_of 1762 (by decide +kernel) rfl
theorem wtX12_isDigit : Cond.static yX12_isDigit ∈ WA := wa_of 1761 (by decide +kernel) rfl
theorem wpX12_isDigit : yX12_isDigit.cls ≠ "java/lang/invoke/MethodHandle" ∧ yX12_isDigit.cls ≠ "java/lang/invoke/VarHandle" ∧ (parseMethodDescriptor yX12_isDigit.desc).map (fun d => d.parameters.length) = some 1 := by decide +kernel
theorem cwX12_119 : CWS RX12 119 yX12_isDigit cX12_isDigit 1 (some .boolean) 1 := ⟨goodS (wa_of 1760 (by decide +kernel) rfl) wtX12_isDigit wnX12 wcX12_isDigit, wpX12_isDigit⟩
theorem wcX12_wrong : Cond.code yX12_wrong cX12_wrong 3 none ∈ WA := wa_of 1751 (by decide +kernel) rfl
theorem wiX12_wrong : Cond.instanceMethod yX12_wrong ∈ WA := wa_of 1750 (by decide +kernel) rfl
theorem wsX12_wrong : Cond.selects yX12_wrong.cls yX12_wrong yX12_wrong ∈ WA := wa_of 54 (by decide +kernel) rfl
theorem wpX12_wrong : yX12_wrong.cls ≠ "java/lang/invoke/MethodHandle" ∧ yX12_wrong.cls ≠ "java/lang/invoke/VarHandle" ∧ (parseMethodDescriptor yX12_wrong.desc).map (fun d => d.parameters.length) = some 2 := by decide +kernel
theorem cwX12_123 : CWV RX12 123 yX12_wrong cX12_wrong 3 none 2 := ⟨goodV (wa_of 1748 (by decide +kernel) rfl) wiX12_wrong wsX12_wrong wnX12 wcX12_wrong, wpX12_wrong⟩
theorem wcX12_in : Cond.code yX12_in cX12_in 3 (some .boolean) ∈ WA := wa_of 1709 (by decide +kernel) rfl
theorem wtX12_in : Cond.static yX12_in ∈ WA := wa_of 1708 (by decide +kernel) rfl
theorem wpX12_in : yX12_in.cls ≠ "java/lang/invoke/MethodHandle" ∧ yX12_in.cls ≠ "java/lang/invoke/VarHandle" ∧ (parseMethodDescriptor yX12_in.desc).map (fun d => d.parameters.length) = some 3 := by decide +kernel
theorem cwX12_128 : CWS RX12 128 yX12_in cX12_in 3 (some .boolean) 3 := ⟨goodS (wa_of 1707 (by decide +kernel) rfl) wtX12_in wnX12 wcX12_in, wpX12_in⟩
theorem wcX12_isSmall : Cond.code yX12_isSmall cX12_isSmall 1 (some .boolean) ∈ WA := wa_of 1744 (by decide +kernel) rfl
theorem wtX12_isSmall : Cond.static yX12_isSmall ∈ WA := wa_of 1743 (by decide +kernel) rfl
theorem wpX12_isSmall : yX12_isSmall.cls ≠ "java/lang/invoke/MethodHandle" ∧ yX12_isSmall.cls ≠ "java/lang/invoke/VarHandle" ∧ (parseMethodDescriptor yX12_isSmall.desc).map (fun d => d.parameters.length) = some 1 := by decide +kernel
theorem cwX12_132 : CWS RX12 132 yX12_isSmall cX12_isSmall 1 (some .boolean) 1 := ⟨goodS (wa_of 1742 (by decide +kernel) rfl) wtX12_isSmall wnX12 wcX12_isSmall, wpX12_isSmall⟩
theorem wcX12_wordHere : Cond.code yX12_wordHere cX12_wordHere 3 (some .int) ∈ WA := wa_of 1741 (by decide +kernel) rfl
theorem wiX12_wordHere : Cond.instanceMethod yX12_wordHere ∈ WA := wa_of 1740 (by decide +kernel) rfl
theorem wsX12_wordHere : Cond.selects yX12_wordHere.cls yX12_wordHere yX12_wordHere ∈ WA := wa_of 53 (by decide +kernel) rfl
theorem wpX12_wordHere : yX12_wordHere.cls ≠ "java/lang/invoke/MethodHandle" ∧ yX12_wordHere.cls ≠ "java/lang/invoke/VarHandle" ∧ (parseMethodDescriptor yX12_wordHere.desc).map (fun d => d.parameters.length) = some 0 := by decide +kernel
theorem cwX12_135 : CWV RX12 135 yX12_wordHere cX12_wordHere 3 (some .int) 0 := ⟨goodV (wa_of 1738 (by decide +kernel) rfl) wiX12_wordHere wsX12_wordHere wnX12 wcX12_wordHere, wpX12_wordHere⟩
theorem wcX12_six : Cond.code yX12_six cX12_six 7 (some .int) ∈ WA := wa_of 1747 (by decide +kernel) rfl
theorem wtX12_six : Cond.static yX12_six ∈ WA := wa_of 1746 (by decide +kernel) rfl
theorem wpX12_six : yX12_six.cls ≠ "java/lang/invoke/MethodHandle" ∧ yX12_six.cls ≠ "java/lang/invoke/VarHandle" ∧ (parseMethodDescriptor yX12_six.desc).map (fun d => d.parameters.length) = some 6 := by decide +kernel
theorem cwX12_139 : CWS RX12 139 yX12_six cX12_six 7 (some .int) 6 := ⟨goodS (wa_of 1745 (by decide +kernel) rfl) wtX12_six wnX12 wcX12_six, wpX12_six⟩
theorem wcX12_isWord : Cond.code yX12_isWord cX12_isWord 7 (some .boolean) ∈ WA := wa_of 1737 (by decide +kernel) rfl
theorem wiX12_isWord : Cond.instanceMethod yX12_isWord ∈ WA := wa_of 1736 (by decide +kernel) rfl
theorem wsX12_isWord : Cond.selects yX12_isWord.cls yX12_isWord yX12_isWord ∈ WA := wa_of 52 (by decide +kernel) rfl
theorem wpX12_isWord : yX12_isWord.cls ≠ "java/lang/invoke/MethodHandle" ∧ yX12_isWord.cls ≠ "java/lang/invoke/VarHandle" ∧ (parseMethodDescriptor yX12_isWord.desc).map (fun d => d.parameters.length) = some 6 := by decide +kernel
theorem cwX12_143 : CWV RX12 143 yX12_isWord cX12_isWord 7 (some .boolean) 6 := ⟨goodV (wa_of 1734 (by decide +kernel) rfl) wiX12_isWord wsX12_isWord wnX12 wcX12_isWord, wpX12_isWord⟩
theorem wcX12_skipWord : Cond.code yX12_skipWord cX12_skipWord 1 none ∈ WA := wa_of 1755 (by decide +kernel) rfl
theorem wiX12_skipWord : Cond.instanceMethod yX12_skipWord ∈ WA := wa_of 1754 (by decide +kernel) rfl
theorem wsX12_skipWord : Cond.selects yX12_skipWord.cls yX12_skipWord yX12_skipWord ∈ WA := wa_of 55 (by decide +kernel) rfl
theorem wpX12_skipWord : yX12_skipWord.cls ≠ "java/lang/invoke/MethodHandle" ∧ yX12_skipWord.cls ≠ "java/lang/invoke/VarHandle" ∧ (parseMethodDescriptor yX12_skipWord.desc).map (fun d => d.parameters.length) = some 0 := by decide +kernel
theorem cwX12_147 : CWV RX12 147 yX12_skipWord cX12_skipWord 1 none 0 := ⟨goodV (wa_of 1752 (by decide +kernel) rfl) wiX12_skipWord wsX12_skipWord wnX12 wcX12_skipWord, wpX12_skipWord⟩
theorem wcX12_kindHere : Cond.code yX12_kindHere cX12_kindHere 1 (some .int) ∈ WA := wa_of 1733 (by decide +kernel) rfl
theorem wiX12_kindHere : Cond.instanceMethod yX12_kindHere ∈ WA := wa_of 1732 (by decide +kernel) rfl
theorem wsX12_kindHere : Cond.selects yX12_kindHere.cls yX12_kindHere yX12_kindHere ∈ WA := wa_of 51 (by decide +kernel) rfl
theorem wpX12_kindHere : yX12_kindHere.cls ≠ "java/lang/invoke/MethodHandle" ∧ yX12_kindHere.cls ≠ "java/lang/invoke/VarHandle" ∧ (parseMethodDescriptor yX12_kindHere.desc).map (fun d => d.parameters.length) = some 0 := by decide +kernel
theorem cwX12_156 : CWV RX12 156 yX12_kindHere cX12_kindHere 1 (some .int) 0 := ⟨goodV (wa_of 1730 (by decide +kernel) rfl) wiX12_kindHere wsX12_kindHere wnX12 wcX12_kindHere, wpX12_kindHere⟩
theorem wcX12_number : Cond.code yX12_number cX12_number 5 (some .int) ∈ WA := wa_of 1759 (by decide +kernel) rfl
theorem wiX12_number : Cond.instanceMethod yX12_number ∈ WA := wa_of 1758 (by decide +kernel) rfl
theorem wsX12_number : Cond.selects yX12_number.cls yX12_number yX12_number ∈ WA := wa_of 56 (by decide +kernel) rfl
theorem wpX12_number : yX12_number.cls ≠ "java/lang/invoke/MethodHandle" ∧ yX12_number.cls ≠ "java/lang/invoke/VarHandle" ∧ (parseMethodDescriptor yX12_number.desc).map (fun d => d.parameters.length) = some 2 := by decide +kernel
theorem cwX12_159 : CWV RX12 159 yX12_number cX12_number 5 (some .int) 2 := ⟨goodV (wa_of 1756 (by decide +kernel) rfl) wiX12_number wsX12_number wnX12 wcX12_number, wpX12_number⟩
theorem wcX12_sign : Cond.code yX12_sign cX12_sign 2 none ∈ WA := wa_of 1767 (by decide +kernel) rfl
theorem wiX12_sign : Cond.instanceMethod yX12_sign ∈ WA := wa_of 1766 (by decide +kernel) rfl
theorem wsX12_sign : Cond.selects yX12_sign.cls yX12_sign yX12_sign ∈ WA := wa_of 57 (by decide +kernel) rfl
theorem wpX12_sign : yX12_sign.cls ≠ "java/lang/invoke/MethodHandle" ∧ yX12_sign.cls ≠ "java/lang/invoke/VarHandle" ∧ (parseMethodDescriptor yX12_sign.desc).map (fun d => d.parameters.length) = some 1 := by decide +kernel
theorem cwX12_163 : CWV RX12 163 yX12_sign cX12_sign 2 none 1 := ⟨goodV (wa_of 1764 (by decide +kernel) rfl) wiX12_sign wsX12_sign wnX12 wcX12_sign, wpX12_sign⟩
theorem wcX12_bad : Cond.code yX12_bad cX12_bad 4 (some .boolean) ∈ WA := wa_of 1713 (by decide +kernel) rfl
theorem wiX12_bad : Cond.instanceMethod yX12_bad ∈ WA := wa_of 1712 (by decide +kernel) rfl
theorem wsX12_bad : Cond.selects yX12_bad.cls yX12_bad yX12_bad ∈ WA := wa_of 46 (by decide +kernel) rfl
theorem wpX12_bad : yX12_bad.cls ≠ "java/lang/invoke/MethodHandle" ∧ yX12_bad.cls ≠ "java/lang/invoke/VarHandle" ∧ (parseMethodDescriptor yX12_bad.desc).map (fun d => d.parameters.length) = some 3 := by decide +kernel
theorem cwX12_167 : CWV RX12 167 yX12_bad cX12_bad 4 (some .boolean) 3 := ⟨goodV (wa_of 1710 (by decide +kernel) rfl) wiX12_bad wsX12_bad wnX12 wcX12_bad, wpX12_bad⟩
theorem wcX12_starts : Cond.code yX12_starts cX12_starts 2 none ∈ WA := wa_of 1717 (by decide +kernel) rfl
theorem wiX12_starts : Cond.instanceMethod yX12_starts ∈ WA := wa_of 1716 (by decide +kernel) rfl
theorem wsX12_starts : Cond.selects yX12_starts.cls yX12_starts yX12_starts ∈ WA := wa_of 47 (by decide +kernel) rfl
theorem wpX12_starts : yX12_starts.cls ≠ "java/lang/invoke/MethodHandle" ∧ yX12_starts.cls ≠ "java/lang/invoke/VarHandle" ∧ (parseMethodDescriptor yX12_starts.desc).map (fun d => d.parameters.length) = some 1 := by decide +kernel
theorem cwX12_171 : CWV RX12 171 yX12_starts cX12_starts 2 none 1 := ⟨goodV (wa_of 1714 (by decide +kernel) rfl) wiX12_starts wsX12_starts wnX12 wcX12_starts, wpX12_starts⟩
theorem wcX12_clause : Cond.code yX12_clause cX12_clause 5 none ∈ WA := wa_of 1729 (by decide +kernel) rfl
theorem wiX12_clause : Cond.instanceMethod yX12_clause ∈ WA := wa_of 1728 (by decide +kernel) rfl
theorem wsX12_clause : Cond.selects yX12_clause.cls yX12_clause yX12_clause ∈ WA := wa_of 50 (by decide +kernel) rfl
theorem wpX12_clause : yX12_clause.cls ≠ "java/lang/invoke/MethodHandle" ∧ yX12_clause.cls ≠ "java/lang/invoke/VarHandle" ∧ (parseMethodDescriptor yX12_clause.desc).map (fun d => d.parameters.length) = some 0 := by decide +kernel
theorem cwX12_174 : CWV RX12 174 yX12_clause cX12_clause 5 none 0 := ⟨goodV (wa_of 1726 (by decide +kernel) rfl) wiX12_clause wsX12_clause wnX12 wcX12_clause, wpX12_clause⟩
theorem wcX12_ends : Cond.code yX12_ends cX12_ends 1 (some .int) ∈ WA := wa_of 1771 (by decide +kernel) rfl
theorem wiX12_ends : Cond.instanceMethod yX12_ends ∈ WA := wa_of 1770 (by decide +kernel) rfl
theorem wsX12_ends : Cond.selects yX12_ends.cls yX12_ends yX12_ends ∈ WA := wa_of 58 (by decide +kernel) rfl
theorem wpX12_ends : yX12_ends.cls ≠ "java/lang/invoke/MethodHandle" ∧ yX12_ends.cls ≠ "java/lang/invoke/VarHandle" ∧ (parseMethodDescriptor yX12_ends.desc).map (fun d => d.parameters.length) = some 0 := by decide +kernel
theorem cwX12_177 : CWV RX12 177 yX12_ends cX12_ends 1 (some .int) 0 := ⟨goodV (wa_of 1768 (by decide +kernel) rfl) wiX12_ends wsX12_ends wnX12 wcX12_ends, wpX12_ends⟩
theorem wcX12_lays : Cond.code yX12_lays cX12_lays 5 none ∈ WA := wa_of 1552 (by decide +kernel) rfl
theorem wtX12_lays : Cond.static yX12_lays ∈ WA := wa_of 1551 (by decide +kernel) rfl
theorem wpX12_lays : yX12_lays.cls ≠ "java/lang/invoke/MethodHandle" ∧ yX12_lays.cls ≠ "java/lang/invoke/VarHandle" ∧ (parseMethodDescriptor yX12_lays.desc).map (fun d => d.parameters.length) = some 3 := by decide +kernel
theorem cwX12_180 : CWS RX12 180 yX12_lays cX12_lays 5 none 3 := ⟨goodS (wa_of 1550 (by decide +kernel) rfl) wtX12_lays wnX12 wcX12_lays, wpX12_lays⟩
theorem wcX12_product : Cond.code yX12_product cX12_product 2 none ∈ WA := wa_of 1783 (by decide +kernel) rfl
theorem wiX12_product : Cond.instanceMethod yX12_product ∈ WA := wa_of 1782 (by decide +kernel) rfl
theorem wsX12_product : Cond.selects yX12_product.cls yX12_product yX12_product ∈ WA := wa_of 60 (by decide +kernel) rfl
theorem wpX12_product : yX12_product.cls ≠ "java/lang/invoke/MethodHandle" ∧ yX12_product.cls ≠ "java/lang/invoke/VarHandle" ∧ (parseMethodDescriptor yX12_product.desc).map (fun d => d.parameters.length) = some 0 := by decide +kernel
theorem cwX12_205 : CWV RX12 205 yX12_product cX12_product 2 none 0 := ⟨goodV (wa_of 1780 (by decide +kernel) rfl) wiX12_product wsX12_product wnX12 wcX12_product, wpX12_product⟩
theorem wcX12_takesSign : Cond.code yX12_takesSign cX12_takesSign 3 (some .boolean) ∈ WA := wa_of 1811 (by decide +kernel) rfl
theorem wiX12_takesSign : Cond.instanceMethod yX12_takesSign ∈ WA := wa_of 1810 (by decide +kernel) rfl
theorem wsX12_takesSign : Cond.selects yX12_takesSign.cls yX12_takesSign yX12_takesSign ∈ WA := wa_of 67 (by decide +kernel) rfl
theorem wpX12_takesSign : yX12_takesSign.cls ≠ "java/lang/invoke/MethodHandle" ∧ yX12_takesSign.cls ≠ "java/lang/invoke/VarHandle" ∧ (parseMethodDescriptor yX12_takesSign.desc).map (fun d => d.parameters.length) = some 1 := by decide +kernel
theorem cwX12_208 : CWV RX12 208 yX12_takesSign cX12_takesSign 3 (some .boolean) 1 := ⟨goodV (wa_of 1808 (by decide +kernel) rfl) wiX12_takesSign wsX12_takesSign wnX12 wcX12_takesSign, wpX12_takesSign⟩
theorem wcX12_notes : Cond.code yX12_notes cX12_notes 3 none ∈ WA := wa_of 1795 (by decide +kernel) rfl
theorem wiX12_notes : Cond.instanceMethod yX12_notes ∈ WA := wa_of 1794 (by decide +kernel) rfl
theorem wsX12_notes : Cond.selects yX12_notes.cls yX12_notes yX12_notes ∈ WA := wa_of 63 (by decide +kernel) rfl
theorem wpX12_notes : yX12_notes.cls ≠ "java/lang/invoke/MethodHandle" ∧ yX12_notes.cls ≠ "java/lang/invoke/VarHandle" ∧ (parseMethodDescriptor yX12_notes.desc).map (fun d => d.parameters.length) = some 2 := by decide +kernel
theorem cwX12_211 : CWV RX12 211 yX12_notes cX12_notes 3 none 2 := ⟨goodV (wa_of 1792 (by decide +kernel) rfl) wiX12_notes wsX12_notes wnX12 wcX12_notes, wpX12_notes⟩
theorem wcX12_one : Cond.code yX12_one cX12_one 3 none ∈ WA := wa_of 1787 (by decide +kernel) rfl
theorem wiX12_one : Cond.instanceMethod yX12_one ∈ WA := wa_of 1786 (by decide +kernel) rfl
theorem wsX12_one : Cond.selects yX12_one.cls yX12_one yX12_one ∈ WA := wa_of 61 (by decide +kernel) rfl
theorem wpX12_one : yX12_one.cls ≠ "java/lang/invoke/MethodHandle" ∧ yX12_one.cls ≠ "java/lang/invoke/VarHandle" ∧ (parseMethodDescriptor yX12_one.desc).map (fun d => d.parameters.length) = some 0 := by decide +kernel
theorem cwX12_214 : CWV RX12 214 yX12_one cX12_one 3 none 0 := ⟨goodV (wa_of 1784 (by decide +kernel) rfl) wiX12_one wsX12_one wnX12 wcX12_one, wpX12_one⟩
theorem wcX12_takesTwo : Cond.code yX12_takesTwo cX12_takesTwo 4 (some .boolean) ∈ WA := wa_of 1803 (by decide +kernel) rfl
theorem wiX12_takesTwo : Cond.instanceMethod yX12_takesTwo ∈ WA := wa_of 1802 (by decide +kernel) rfl
theorem wsX12_takesTwo : Cond.selects yX12_takesTwo.cls yX12_takesTwo yX12_takesTwo ∈ WA := wa_of 65 (by decide +kernel) rfl
theorem wpX12_takesTwo : yX12_takesTwo.cls ≠ "java/lang/invoke/MethodHandle" ∧ yX12_takesTwo.cls ≠ "java/lang/invoke/VarHandle" ∧ (parseMethodDescriptor yX12_takesTwo.desc).map (fun d => d.parameters.length) = some 2 := by decide +kernel
theorem cwX12_217 : CWV RX12 217 yX12_takesTwo cX12_takesTwo 4 (some .boolean) 2 := ⟨goodV (wa_of 1800 (by decide +kernel) rfl) wiX12_takesTwo wsX12_takesTwo wnX12 wcX12_takesTwo, wpX12_takesTwo⟩
theorem wcX12_takes : Cond.code yX12_takes cX12_takes 8 (some .boolean) ∈ WA := wa_of 1807 (by decide +kernel) rfl
theorem wiX12_takes : Cond.instanceMethod yX12_takes ∈ WA := wa_of 1806 (by decide +kernel) rfl
theorem wsX12_takes : Cond.selects yX12_takes.cls yX12_takes yX12_takes ∈ WA := wa_of 66 (by decide +kernel) rfl
theorem wpX12_takes : yX12_takes.cls ≠ "java/lang/invoke/MethodHandle" ∧ yX12_takes.cls ≠ "java/lang/invoke/VarHandle" ∧ (parseMethodDescriptor yX12_takes.desc).map (fun d => d.parameters.length) = some 6 := by decide +kernel
theorem cwX12_221 : CWV RX12 221 yX12_takes cX12_takes 8 (some .boolean) 6 := ⟨goodV (wa_of 1804 (by decide +kernel) rfl) wiX12_takes wsX12_takes wnX12 wcX12_takes, wpX12_takes⟩
theorem wcX12_opensOne : Cond.code yX12_opensOne cX12_opensOne 1 (some .boolean) ∈ WA := wa_of 1791 (by decide +kernel) rfl
theorem wiX12_opensOne : Cond.instanceMethod yX12_opensOne ∈ WA := wa_of 1790 (by decide +kernel) rfl
theorem wsX12_opensOne : Cond.selects yX12_opensOne.cls yX12_opensOne yX12_opensOne ∈ WA := wa_of 62 (by decide +kernel) rfl
theorem wpX12_opensOne : yX12_opensOne.cls ≠ "java/lang/invoke/MethodHandle" ∧ yX12_opensOne.cls ≠ "java/lang/invoke/VarHandle" ∧ (parseMethodDescriptor yX12_opensOne.desc).map (fun d => d.parameters.length) = some 0 := by decide +kernel
theorem cwX12_224 : CWV RX12 224 yX12_opensOne cX12_opensOne 1 (some .boolean) 0 := ⟨goodV (wa_of 1788 (by decide +kernel) rfl) wiX12_opensOne wsX12_opensOne wnX12 wcX12_opensOne, wpX12_opensOne⟩
theorem wcX12_sum : Cond.code yX12_sum cX12_sum 2 none ∈ WA := wa_of 1779 (by decide +kernel) rfl
theorem wiX12_sum : Cond.instanceMethod yX12_sum ∈ WA := wa_of 1778 (by decide +kernel) rfl
theorem wsX12_sum : Cond.selects yX12_sum.cls yX12_sum yX12_sum ∈ WA := wa_of 59 (by decide +kernel) rfl
theorem wpX12_sum : yX12_sum.cls ≠ "java/lang/invoke/MethodHandle" ∧ yX12_sum.cls ≠ "java/lang/invoke/VarHandle" ∧ (parseMethodDescriptor yX12_sum.desc).map (fun d => d.parameters.length) = some 0 := by decide +kernel
theorem cwX12_228 : CWV RX12 228 yX12_sum cX12_sum 2 none 0 := ⟨goodV (wa_of 1776 (by decide +kernel) rfl) wiX12_sum wsX12_sum wnX12 wcX12_sum, wpX12_sum⟩
theorem wcX12_knownHere : Cond.code yX12_knownHere cX12_knownHere 1 (some .int) ∈ WA := wa_of 1799 (by decide +kernel) rfl
theorem wiX12_knownHere : Cond.instanceMethod yX12_knownHere ∈ WA := wa_of 1798 (by decide +kernel) rfl
theorem wsX12_knownHere : Cond.selects yX12_knownHere.cls yX12_knownHere yX12_knownHere ∈ WA := wa_of 64 (by decide +kernel) rfl
theorem wpX12_knownHere : yX12_knownHere.cls ≠ "java/lang/invoke/MethodHandle" ∧ yX12_knownHere.cls ≠ "java/lang/invoke/VarHandle" ∧ (parseMethodDescriptor yX12_knownHere.desc).map (fun d => d.parameters.length) = some 0 := by decide +kernel
theorem cwX12_231 : CWV RX12 231 yX12_knownHere cX12_knownHere 1 (some .int) 0 := ⟨goodV (wa_of 1796 (by decide +kernel) rfl) wiX12_knownHere wsX12_knownHere wnX12 wcX12_knownHere, wpX12_knownHere⟩
theorem wcX12_less : Cond.code yX12_less cX12_less 2 (some .int) ∈ WA := wa_of 1910 (by decide +kernel) rfl
theorem wtX12_less : Cond.static yX12_less ∈ WA := wa_of 1909 (by decide +kernel) rfl
theorem wpX12_less : yX12_less.cls ≠ "java/lang/invoke/MethodHandle" ∧ yX12_less.cls ≠ "java/lang/invoke/VarHandle" ∧ (parseMethodDescriptor yX12_less.desc).map (fun d => d.parameters.length) = some 2 := by decide +kernel
theorem cwX12_234 : CWS RX12 234 yX12_less cX12_less 2 (some .int) 2 := ⟨goodS (wa_of 1908 (by decide +kernel) rfl) wtX12_less wnX12 wcX12_less, wpX12_less⟩
theorem wcX12_more : Cond.code yX12_more cX12_more 2 (some .int) ∈ WA := wa_of 1913 (by decide +kernel) rfl
theorem wtX12_more : Cond.static yX12_more ∈ WA := wa_of 1912 (by decide +kernel) rfl
theorem wpX12_more : yX12_more.cls ≠ "java/lang/invoke/MethodHandle" ∧ yX12_more.cls ≠ "java/lang/invoke/VarHandle" ∧ (parseMethodDescriptor yX12_more.desc).map (fun d => d.parameters.length) = some 2 := by decide +kernel
theorem cwX12_237 : CWS RX12 237 yX12_more cX12_more 2 (some .int) 2 := ⟨goodS (wa_of 1911 (by decide +kernel) rfl) wtX12_more wnX12 wcX12_more, wpX12_more⟩
theorem wcX12_by : Cond.code yX12_by cX12_by 3 (some .int) ∈ WA := wa_of 1907 (by decide +kernel) rfl
theorem wtX12_by : Cond.static yX12_by ∈ WA := wa_of 1906 (by decide +kernel) rfl
theorem wpX12_by : yX12_by.cls ≠ "java/lang/invoke/MethodHandle" ∧ yX12_by.cls ≠ "java/lang/invoke/VarHandle" ∧ (parseMethodDescriptor yX12_by.desc).map (fun d => d.parameters.length) = some 3 := by decide +kernel
theorem cwX12_240 : CWS RX12 240 yX12_by cX12_by 3 (some .int) 3 := ⟨goodS (wa_of 1905 (by decide +kernel) rfl) wtX12_by wnX12 wcX12_by, wpX12_by⟩
theorem wcX12_penHere : Cond.code yX12_penHere cX12_penHere 1 (some .int) ∈ WA := wa_of 1819 (by decide +kernel) rfl
theorem wiX12_penHere : Cond.instanceMethod yX12_penHere ∈ WA := wa_of 1818 (by decide +kernel) rfl
theorem wsX12_penHere : Cond.selects yX12_penHere.cls yX12_penHere yX12_penHere ∈ WA := wa_of 68 (by decide +kernel) rfl
theorem wpX12_penHere : yX12_penHere.cls ≠ "java/lang/invoke/MethodHandle" ∧ yX12_penHere.cls ≠ "java/lang/invoke/VarHandle" ∧ (parseMethodDescriptor yX12_penHere.desc).map (fun d => d.parameters.length) = some 0 := by decide +kernel
theorem cwX12_244 : CWV RX12 244 yX12_penHere cX12_penHere 1 (some .int) 0 := ⟨goodV (wa_of 1816 (by decide +kernel) rfl) wiX12_penHere wsX12_penHere wnX12 wcX12_penHere, wpX12_penHere⟩
theorem wcX12_stepHere : Cond.code yX12_stepHere cX12_stepHere 1 (some .int) ∈ WA := wa_of 1840 (by decide +kernel) rfl
theorem wiX12_stepHere : Cond.instanceMethod yX12_stepHere ∈ WA := wa_of 1839 (by decide +kernel) rfl
theorem wsX12_stepHere : Cond.selects yX12_stepHere.cls yX12_stepHere yX12_stepHere ∈ WA := wa_of 70 (by decide +kernel) rfl
theorem wpX12_stepHere : yX12_stepHere.cls ≠ "java/lang/invoke/MethodHandle" ∧ yX12_stepHere.cls ≠ "java/lang/invoke/VarHandle" ∧ (parseMethodDescriptor yX12_stepHere.desc).map (fun d => d.parameters.length) = some 0 := by decide +kernel
theorem cwX12_248 : CWV RX12 248 yX12_stepHere cX12_stepHere 1 (some .int) 0 := ⟨goodV (wa_of 1837 (by decide +kernel) rfl) wiX12_stepHere wsX12_stepHere wnX12 wcX12_stepHere, wpX12_stepHere⟩
theorem wcX12_numbers : Cond.code yX12_numbers cX12_numbers 3 none ∈ WA := wa_of 1844 (by decide +kernel) rfl
theorem wiX12_numbers : Cond.instanceMethod yX12_numbers ∈ WA := wa_of 1843 (by decide +kernel) rfl
theorem wsX12_numbers : Cond.selects yX12_numbers.cls yX12_numbers yX12_numbers ∈ WA := wa_of 71 (by decide +kernel) rfl
theorem wpX12_numbers : yX12_numbers.cls ≠ "java/lang/invoke/MethodHandle" ∧ yX12_numbers.cls ≠ "java/lang/invoke/VarHandle" ∧ (parseMethodDescriptor yX12_numbers.desc).map (fun d => d.parameters.length) = some 1 := by decide +kernel
theorem cwX12_254 : CWV RX12 254 yX12_numbers cX12_numbers 3 none 1 := ⟨goodV (wa_of 1841 (by decide +kernel) rfl) wiX12_numbers wsX12_numbers wnX12 wcX12_numbers, wpX12_numbers⟩
theorem wcX12_readsStep : Cond.code yX12_readsStep cX12_readsStep 3 none ∈ WA := wa_of 1836 (by decide +kernel) rfl
theorem wiX12_readsStep : Cond.instanceMethod yX12_readsStep ∈ WA := wa_of 1835 (by decide +kernel) rfl
theorem wsX12_readsStep : Cond.selects yX12_readsStep.cls yX12_readsStep yX12_readsStep ∈ WA := wa_of 69 (by decide +kernel) rfl
theorem wpX12_readsStep : yX12_readsStep.cls ≠ "java/lang/invoke/MethodHandle" ∧ yX12_readsStep.cls ≠ "java/lang/invoke/VarHandle" ∧ (parseMethodDescriptor yX12_readsStep.desc).map (fun d => d.parameters.length) = some 0 := by decide +kernel
theorem cwX12_258 : CWV RX12 258 yX12_readsStep cX12_readsStep 3 none 0 := ⟨goodV (wa_of 1833 (by decide +kernel) rfl) wiX12_readsStep wsX12_readsStep wnX12 wcX12_readsStep, wpX12_readsStep⟩
theorem wcX12_isReal : Cond.code yX12_isReal cX12_isReal 1 (some .boolean) ∈ WA := wa_of 1885 (by decide +kernel) rfl
theorem wtX12_isReal : Cond.static yX12_isReal ∈ WA := wa_of 1884 (by decide +kernel) rfl
theorem wpX12_isReal : yX12_isReal.cls ≠ "java/lang/invoke/MethodHandle" ∧ yX12_isReal.cls ≠ "java/lang/invoke/VarHandle" ∧ (parseMethodDescriptor yX12_isReal.desc).map (fun d => d.parameters.length) = some 1 := by decide +kernel
theorem cwX12_262 : CWS RX12 262 yX12_isReal cX12_isReal 1 (some .boolean) 1 := ⟨goodS (wa_of 1883 (by decide +kernel) rfl) wtX12_isReal wnX12 wcX12_isReal, wpX12_isReal⟩
theorem wcX12_real : Cond.code yX12_real cX12_real 5 (some .double) ∈ WA := wa_of 1888 (by decide +kernel) rfl
theorem wtX12_real : Cond.static yX12_real ∈ WA := wa_of 1887 (by decide +kernel) rfl
theorem wpX12_real : yX12_real.cls ≠ "java/lang/invoke/MethodHandle" ∧ yX12_real.cls ≠ "java/lang/invoke/VarHandle" ∧ (parseMethodDescriptor yX12_real.desc).map (fun d => d.parameters.length) = some 4 := by decide +kernel
theorem cwX12_265 : CWS RX12 265 yX12_real cX12_real 5 (some .double) 4 := ⟨goodS (wa_of 1886 (by decide +kernel) rfl) wtX12_real wnX12 wcX12_real, wpX12_real⟩
theorem wcX12_whole : Cond.code yX12_whole cX12_whole 4 (some .long) ∈ WA := wa_of 1891 (by decide +kernel) rfl
theorem wtX12_whole : Cond.static yX12_whole ∈ WA := wa_of 1890 (by decide +kernel) rfl
theorem wpX12_whole : yX12_whole.cls ≠ "java/lang/invoke/MethodHandle" ∧ yX12_whole.cls ≠ "java/lang/invoke/VarHandle" ∧ (parseMethodDescriptor yX12_whole.desc).map (fun d => d.parameters.length) = some 4 := by decide +kernel
theorem cwX12_269 : CWS RX12 269 yX12_whole cX12_whole 4 (some .long) 4 := ⟨goodS (wa_of 1889 (by decide +kernel) rfl) wtX12_whole wnX12 wcX12_whole, wpX12_whole⟩
theorem wcX12_jamsBy : Cond.code yX12_jamsBy cX12_jamsBy 2 (some .boolean) ∈ WA := wa_of 1871 (by decide +kernel) rfl
theorem wtX12_jamsBy : Cond.static yX12_jamsBy ∈ WA := wa_of 1870 (by decide +kernel) rfl
theorem wpX12_jamsBy : yX12_jamsBy.cls ≠ "java/lang/invoke/MethodHandle" ∧ yX12_jamsBy.cls ≠ "java/lang/invoke/VarHandle" ∧ (parseMethodDescriptor yX12_jamsBy.desc).map (fun d => d.parameters.length) = some 2 := by decide +kernel
theorem cwX12_273 : CWS RX12 273 yX12_jamsBy cX12_jamsBy 2 (some .boolean) 2 := ⟨goodS (wa_of 1869 (by decide +kernel) rfl) wtX12_jamsBy wnX12 wcX12_jamsBy, wpX12_jamsBy⟩
theorem wcX12_outBy : Cond.code yX12_outBy cX12_outBy 4 (some .int) ∈ WA := wa_of 1882 (by decide +kernel) rfl
theorem wtX12_outBy : Cond.static yX12_outBy ∈ WA := wa_of 1881 (by decide +kernel) rfl
theorem wpX12_outBy : yX12_outBy.cls ≠ "java/lang/invoke/MethodHandle" ∧ yX12_outBy.cls ≠ "java/lang/invoke/VarHandle" ∧ (parseMethodDescriptor yX12_outBy.desc).map (fun d => d.parameters.length) = some 4 := by decide +kernel
theorem cwX12_276 : CWS RX12 276 yX12_outBy cX12_outBy 4 (some .int) 4 := ⟨goodS (wa_of 1880 (by decide +kernel) rfl) wtX12_outBy wnX12 wcX12_outBy, wpX12_outBy⟩
theorem wcX12_byLaw : Cond.code yX12_byLaw cX12_byLaw 3 (some .int) ∈ WA := wa_of 1904 (by decide +kernel) rfl
theorem wiX12_byLaw : Cond.instanceMethod yX12_byLaw ∈ WA := wa_of 1903 (by decide +kernel) rfl
theorem wsX12_byLaw : Cond.selects yX12_byLaw.cls yX12_byLaw yX12_byLaw ∈ WA := wa_of 80 (by decide +kernel) rfl
theorem wpX12_byLaw : yX12_byLaw.cls ≠ "java/lang/invoke/MethodHandle" ∧ yX12_byLaw.cls ≠ "java/lang/invoke/VarHandle" ∧ (parseMethodDescriptor yX12_byLaw.desc).map (fun d => d.parameters.length) = some 0 := by decide +kernel
theorem cwX12_283 : CWV RX12 283 yX12_byLaw cX12_byLaw 3 (some .int) 0 := ⟨goodV (wa_of 1901 (by decide +kernel) rfl) wiX12_byLaw wsX12_byLaw wnX12 wcX12_byLaw, wpX12_byLaw⟩
theorem wcX12_jams : Cond.code yX12_jams cX12_jams 3 (some .boolean) ∈ WA := wa_of 1868 (by decide +kernel) rfl
theorem wiX12_jams : Cond.instanceMethod yX12_jams ∈ WA := wa_of 1867 (by decide +kernel) rfl
theorem wsX12_jams : Cond.selects yX12_jams.cls yX12_jams yX12_jams ∈ WA := wa_of 76 (by decide +kernel) rfl
theorem wpX12_jams : yX12_jams.cls ≠ "java/lang/invoke/MethodHandle" ∧ yX12_jams.cls ≠ "java/lang/invoke/VarHandle" ∧ (parseMethodDescriptor yX12_jams.desc).map (fun d => d.parameters.length) = some 2 := by decide +kernel
theorem cwX12_286 : CWV RX12 286 yX12_jams cX12_jams 3 (some .boolean) 2 := ⟨goodV (wa_of 1865 (by decide +kernel) rfl) wiX12_jams wsX12_jams wnX12 wcX12_jams, wpX12_jams⟩
theorem wcX12_outOf : Cond.code yX12_outOf cX12_outOf 4 (some .int) ∈ WA := wa_of 1879 (by decide +kernel) rfl
theorem wiX12_outOf : Cond.instanceMethod yX12_outOf ∈ WA := wa_of 1878 (by decide +kernel) rfl
theorem wsX12_outOf : Cond.selects yX12_outOf.cls yX12_outOf yX12_outOf ∈ WA := wa_of 78 (by decide +kernel) rfl
theorem wpX12_outOf : yX12_outOf.cls ≠ "java/lang/invoke/MethodHandle" ∧ yX12_outOf.cls ≠ "java/lang/invoke/VarHandle" ∧ (parseMethodDescriptor yX12_outOf.desc).map (fun d => d.parameters.length) = some 3 := by decide +kernel
theorem cwX12_290 : CWV RX12 290 yX12_outOf cX12_outOf 4 (some .int) 3 := ⟨goodV (wa_of 1876 (by decide +kernel) rfl) wiX12_outOf wsX12_outOf wnX12 wcX12_outOf, wpX12_outOf⟩
theorem wcX12_off : Cond.code yX12_off cX12_off 4 (some .int) ∈ WA := wa_of 1894 (by decide +kernel) rfl
theorem wtX12_off : Cond.static yX12_off ∈ WA := wa_of 1893 (by decide +kernel) rfl
theorem wpX12_off : yX12_off.cls ≠ "java/lang/invoke/MethodHandle" ∧ yX12_off.cls ≠ "java/lang/invoke/VarHandle" ∧ (parseMethodDescriptor yX12_off.desc).map (fun d => d.parameters.length) = some 2 := by decide +kernel
theorem cwX12_294 : CWS RX12 294 yX12_off cX12_off 4 (some .int) 2 := ⟨goodS (wa_of 1892 (by decide +kernel) rfl) wtX12_off wnX12 wcX12_off, wpX12_off⟩
theorem wcX12_levelBy : Cond.code yX12_levelBy cX12_levelBy 9 (some .int) ∈ WA := wa_of 1900 (by decide +kernel) rfl
theorem wiX12_levelBy : Cond.instanceMethod yX12_levelBy ∈ WA := wa_of 1899 (by decide +kernel) rfl
theorem wsX12_levelBy : Cond.selects yX12_levelBy.cls yX12_levelBy yX12_levelBy ∈ WA := wa_of 79 (by decide +kernel) rfl
theorem wpX12_levelBy : yX12_levelBy.cls ≠ "java/lang/invoke/MethodHandle" ∧ yX12_levelBy.cls ≠ "java/lang/invoke/VarHandle" ∧ (parseMethodDescriptor yX12_levelBy.desc).map (fun d => d.parameters.length) = some 8 := by decide +kernel
theorem cwX12_297 : CWV RX12 297 yX12_levelBy cX12_levelBy 9 (some .int) 8 := ⟨goodV (wa_of 1897 (by decide +kernel) rfl) wiX12_levelBy wsX12_levelBy wnX12 wcX12_levelBy, wpX12_levelBy⟩
theorem wcX12_placeOf : Cond.code yX12_placeOf cX12_placeOf 2 (some .int) ∈ WA := wa_of 1916 (by decide +kernel) rfl
theorem wtX12_placeOf : Cond.static yX12_placeOf ∈ WA := wa_of 1915 (by decide +kernel) rfl
theorem wpX12_placeOf : yX12_placeOf.cls ≠ "java/lang/invoke/MethodHandle" ∧ yX12_placeOf.cls ≠ "java/lang/invoke/VarHandle" ∧ (parseMethodDescriptor yX12_placeOf.desc).map (fun d => d.parameters.length) = some 2 := by decide +kernel
theorem cwX12_301 : CWS RX12 301 yX12_placeOf cX12_placeOf 2 (some .int) 2 := ⟨goodS (wa_of 1914 (by decide +kernel) rfl) wtX12_placeOf wnX12 wcX12_placeOf, wpX12_placeOf⟩
theorem wcX12_canRead : Cond.code yX12_canRead cX12_canRead 3 (some .boolean) ∈ WA := wa_of 1864 (by decide +kernel) rfl
theorem wiX12_canRead : Cond.instanceMethod yX12_canRead ∈ WA := wa_of 1863 (by decide +kernel) rfl
theorem wsX12_canRead : Cond.selects yX12_canRead.cls yX12_canRead yX12_canRead ∈ WA := wa_of 75 (by decide +kernel) rfl
theorem wpX12_canRead : yX12_canRead.cls ≠ "java/lang/invoke/MethodHandle" ∧ yX12_canRead.cls ≠ "java/lang/invoke/VarHandle" ∧ (parseMethodDescriptor yX12_canRead.desc).map (fun d => d.parameters.length) = some 2 := by decide +kernel
theorem cwX12_304 : CWV RX12 304 yX12_canRead cX12_canRead 3 (some .boolean) 2 := ⟨goodV (wa_of 1861 (by decide +kernel) rfl) wiX12_canRead wsX12_canRead wnX12 wcX12_canRead, wpX12_canRead⟩
theorem wcX12_levelOf : Cond.code yX12_levelOf cX12_levelOf 6 (some .int) ∈ WA := wa_of 1875 (by decide +kernel) rfl
theorem wiX12_levelOf : Cond.instanceMethod yX12_levelOf ∈ WA := wa_of 1874 (by decide +kernel) rfl
theorem wsX12_levelOf : Cond.selects yX12_levelOf.cls yX12_levelOf yX12_levelOf ∈ WA := wa_of 77 (by decide +kernel) rfl
theorem wpX12_levelOf : yX12_levelOf.cls ≠ "java/lang/invoke/MethodHandle" ∧ yX12_levelOf.cls ≠ "java/lang/invoke/VarHandle" ∧ (parseMethodDescriptor yX12_levelOf.desc).map (fun d => d.parameters.length) = some 3 := by decide +kernel
theorem cwX12_307 : CWV RX12 307 yX12_levelOf cX12_levelOf 6 (some .int) 3 := ⟨goodV (wa_of 1872 (by decide +kernel) rfl) wiX12_levelOf wsX12_levelOf wnX12 wcX12_levelOf, wpX12_levelOf⟩
theorem wcX12_readAt : Cond.code yX12_readAt cX12_readAt 5 (some .int) ∈ WA := wa_of 1924 (by decide +kernel) rfl
theorem wiX12_readAt : Cond.instanceMethod yX12_readAt ∈ WA := wa_of 1923 (by decide +kernel) rfl
theorem wsX12_readAt : Cond.selects yX12_readAt.cls yX12_readAt yX12_readAt ∈ WA := wa_of 82 (by decide +kernel) rfl
theorem wpX12_readAt : yX12_readAt.cls ≠ "java/lang/invoke/MethodHandle" ∧ yX12_readAt.cls ≠ "java/lang/invoke/VarHandle" ∧ (parseMethodDescriptor yX12_readAt.desc).map (fun d => d.parameters.length) = some 3 := by decide +kernel
theorem cwX12_310 : CWV RX12 310 yX12_readAt cX12_readAt 5 (some .int) 3 := ⟨goodV (wa_of 1921 (by decide +kernel) rfl) wiX12_readAt wsX12_readAt wnX12 wcX12_readAt, wpX12_readAt⟩
theorem wcX12_reads : Cond.code yX12_reads cX12_reads 5 (some .boolean) ∈ WA := wa_of 1860 (by decide +kernel) rfl
theorem wiX12_reads : Cond.instanceMethod yX12_reads ∈ WA := wa_of 1859 (by decide +kernel) rfl
theorem wsX12_reads : Cond.selects yX12_reads.cls yX12_reads yX12_reads ∈ WA := wa_of 74 (by decide +kernel) rfl
theorem wpX12_reads : yX12_reads.cls ≠ "java/lang/invoke/MethodHandle" ∧ yX12_reads.cls ≠ "java/lang/invoke/VarHandle" ∧ (parseMethodDescriptor yX12_reads.desc).map (fun d => d.parameters.length) = some 3 := by decide +kernel
theorem cwX12_313 : CWV RX12 313 yX12_reads cX12_reads 5 (some .boolean) 3 := ⟨goodV (wa_of 1857 (by decide +kernel) rfl) wiX12_reads wsX12_reads wnX12 wcX12_reads, wpX12_reads⟩
theorem wcX12_blanksFrom : Cond.code yX12_blanksFrom cX12_blanksFrom 4 none ∈ WA := wa_of 1930 (by decide +kernel) rfl
theorem wtX12_blanksFrom : Cond.static yX12_blanksFrom ∈ WA := wa_of 1929 (by decide +kernel) rfl
theorem wpX12_blanksFrom : yX12_blanksFrom.cls ≠ "java/lang/invoke/MethodHandle" ∧ yX12_blanksFrom.cls ≠ "java/lang/invoke/VarHandle" ∧ (parseMethodDescriptor yX12_blanksFrom.desc).map (fun d => d.parameters.length) = some 3 := by decide +kernel
theorem cwX12_317 : CWS RX12 317 yX12_blanksFrom cX12_blanksFrom 4 none 3 := ⟨goodS (wa_of 1928 (by decide +kernel) rfl) wtX12_blanksFrom wnX12 wcX12_blanksFrom, wpX12_blanksFrom⟩
theorem wcX12_hears : Cond.code yX12_hears cX12_hears 4 (some .boolean) ∈ WA := wa_of 1920 (by decide +kernel) rfl
theorem wiX12_hears : Cond.instanceMethod yX12_hears ∈ WA := wa_of 1919 (by decide +kernel) rfl
theorem wsX12_hears : Cond.selects yX12_hears.cls yX12_hears yX12_hears ∈ WA := wa_of 81 (by decide +kernel) rfl
theorem wpX12_hears : yX12_hears.cls ≠ "java/lang/invoke/MethodHandle" ∧ yX12_hears.cls ≠ "java/lang/invoke/VarHandle" ∧ (parseMethodDescriptor yX12_hears.desc).map (fun d => d.parameters.length) = some 2 := by decide +kernel
theorem cwX12_321 : CWV RX12 321 yX12_hears cX12_hears 4 (some .boolean) 2 := ⟨goodV (wa_of 1917 (by decide +kernel) rfl) wiX12_hears wsX12_hears wnX12 wcX12_hears, wpX12_hears⟩
theorem wcX12_laysSheet : Cond.code yX12_laysSheet cX12_laysSheet 3 (some .boolean) ∈ WA := wa_of 1927 (by decide +kernel) rfl
theorem wtX12_laysSheet : Cond.static yX12_laysSheet ∈ WA := wa_of 1926 (by decide +kernel) rfl
theorem wpX12_laysSheet : yX12_laysSheet.cls ≠ "java/lang/invoke/MethodHandle" ∧ yX12_laysSheet.cls ≠ "java/lang/invoke/VarHandle" ∧ (parseMethodDescriptor yX12_laysSheet.desc).map (fun d => d.parameters.length) = some 3 := by decide +kernel
theorem cwX12_324 : CWS RX12 324 yX12_laysSheet cX12_laysSheet 3 (some .boolean) 3 := ⟨goodS (wa_of 1925 (by decide +kernel) rfl) wtX12_laysSheet wnX12 wcX12_laysSheet, wpX12_laysSheet⟩
theorem wcX12_copiesSheet : Cond.code yX12_copiesSheet cX12_copiesSheet 6 (some .boolean) ∈ WA := wa_of 1934 (by decide +kernel) rfl
theorem wiX12_copiesSheet : Cond.instanceMethod yX12_copiesSheet ∈ WA := wa_of 1933 (by decide +kernel) rfl
theorem wsX12_copiesSheet : Cond.selects yX12_copiesSheet.cls yX12_copiesSheet yX12_copiesSheet ∈ WA := wa_of 83 (by decide +kernel) rfl
theorem wpX12_copiesSheet : yX12_copiesSheet.cls ≠ "java/lang/invoke/MethodHandle" ∧ yX12_copiesSheet.cls ≠ "java/lang/invoke/VarHandle" ∧ (parseMethodDescriptor yX12_copiesSheet.desc).map (fun d => d.parameters.length) = some 4 := by decide +kernel
theorem cwX12_327 : CWV RX12 327 yX12_copiesSheet cX12_copiesSheet 6 (some .boolean) 4 := ⟨goodV (wa_of 1931 (by decide +kernel) rfl) wiX12_copiesSheet wsX12_copiesSheet wnX12 wcX12_copiesSheet, wpX12_copiesSheet⟩
theorem wcX12_dayEnds : Cond.code yX12_dayEnds cX12_dayEnds 4 none ∈ WA := wa_of 1938 (by decide +kernel) rfl
theorem wiX12_dayEnds : Cond.instanceMethod yX12_dayEnds ∈ WA := wa_of 1937 (by decide +kernel) rfl
theorem wsX12_dayEnds : Cond.selects yX12_dayEnds.cls yX12_dayEnds yX12_dayEnds ∈ WA := wa_of 84 (by decide +kernel) rfl
theorem wpX12_dayEnds : yX12_dayEnds.cls ≠ "java/lang/invoke/MethodHandle" ∧ yX12_dayEnds.cls ≠ "java/lang/invoke/VarHandle" ∧ (parseMethodDescriptor yX12_dayEnds.desc).map (fun d => d.parameters.length) = some 1 := by decide +kernel
theorem cwX12_331 : CWV RX12 331 yX12_dayEnds cX12_dayEnds 4 none 1 := ⟨goodV (wa_of 1935 (by decide +kernel) rfl) wiX12_dayEnds wsX12_dayEnds wnX12 wcX12_dayEnds, wpX12_dayEnds⟩
theorem wcX12_goes : Cond.code yX12_goes cX12_goes 5 none ∈ WA := wa_of 1852 (by decide +kernel) rfl
theorem wiX12_goes : Cond.instanceMethod yX12_goes ∈ WA := wa_of 1851 (by decide +kernel) rfl
theorem wsX12_goes : Cond.selects yX12_goes.cls yX12_goes yX12_goes ∈ WA := wa_of 72 (by decide +kernel) rfl
theorem wpX12_goes : yX12_goes.cls ≠ "java/lang/invoke/MethodHandle" ∧ yX12_goes.cls ≠ "java/lang/invoke/VarHandle" ∧ (parseMethodDescriptor yX12_goes.desc).map (fun d => d.parameters.length) = some 2 := by decide +kernel
theorem cwX12_337 : CWV RX12 337 yX12_goes cX12_goes 5 none 2 := ⟨goodV (wa_of 1849 (by decide +kernel) rfl) wiX12_goes wsX12_goes wnX12 wcX12_goes, wpX12_goes⟩
theorem wcX12_does : Cond.code yX12_does cX12_does 4 (some .boolean) ∈ WA := wa_of 1856 (by decide +kernel) rfl
theorem wiX12_does : Cond.instanceMethod yX12_does ∈ WA := wa_of 1855 (by decide +kernel) rfl
theorem wsX12_does : Cond.selects yX12_does.cls yX12_does yX12_does ∈ WA := wa_of 73 (by decide +kernel) rfl
theorem wpX12_does : yX12_does.cls ≠ "java/lang/invoke/MethodHandle" ∧ yX12_does.cls ≠ "java/lang/invoke/VarHandle" ∧ (parseMethodDescriptor yX12_does.desc).map (fun d => d.parameters.length) = some 2 := by decide +kernel
theorem cwX12_340 : CWV RX12 340 yX12_does cX12_does 4 (some .boolean) 2 := ⟨goodV (wa_of 1853 (by decide +kernel) rfl) wiX12_does wsX12_does wnX12 wcX12_does, wpX12_does⟩
theorem wcX12_copies : Cond.code yX12_copies cX12_copies 3 none ∈ WA := wa_of 1848 (by decide +kernel) rfl
theorem wtX12_copies : Cond.static yX12_copies ∈ WA := wa_of 1847 (by decide +kernel) rfl
theorem wpX12_copies : yX12_copies.cls ≠ "java/lang/invoke/MethodHandle" ∧ yX12_copies.cls ≠ "java/lang/invoke/VarHandle" ∧ (parseMethodDescriptor yX12_copies.desc).map (fun d => d.parameters.length) = some 2 := by decide +kernel
theorem cwX12_347 : CWS RX12 347 yX12_copies cX12_copies 3 none 2 := ⟨goodS (wa_of 1846 (by decide +kernel) rfl) wtX12_copies wnX12 wcX12_copies, wpX12_copies⟩
theorem wcX12_records : Cond.code yX12_records cX12_records 4 (some .int) ∈ WA := wa_of 1950 (by decide +kernel) rfl
theorem wiX12_records : Cond.instanceMethod yX12_records ∈ WA := wa_of 1949 (by decide +kernel) rfl
theorem wsX12_records : Cond.selects yX12_records.cls yX12_records yX12_records ∈ WA := wa_of 85 (by decide +kernel) rfl
theorem wpX12_records : yX12_records.cls ≠ "java/lang/invoke/MethodHandle" ∧ yX12_records.cls ≠ "java/lang/invoke/VarHandle" ∧ (parseMethodDescriptor yX12_records.desc).map (fun d => d.parameters.length) = some 1 := by decide +kernel
theorem cwX12_351 : CWV RX12 351 yX12_records cX12_records 4 (some .int) 1 := ⟨goodV (wa_of 1947 (by decide +kernel) rfl) wiX12_records wsX12_records wnX12 wcX12_records, wpX12_records⟩
theorem wcX12_isPen : Cond.code yX12_isPen cX12_isPen 2 (some .boolean) ∈ WA := wa_of 1958 (by decide +kernel) rfl
theorem wiX12_isPen : Cond.instanceMethod yX12_isPen ∈ WA := wa_of 1957 (by decide +kernel) rfl
theorem wsX12_isPen : Cond.selects yX12_isPen.cls yX12_isPen yX12_isPen ∈ WA := wa_of 86 (by decide +kernel) rfl
theorem wpX12_isPen : yX12_isPen.cls ≠ "java/lang/invoke/MethodHandle" ∧ yX12_isPen.cls ≠ "java/lang/invoke/VarHandle" ∧ (parseMethodDescriptor yX12_isPen.desc).map (fun d => d.parameters.length) = some 1 := by decide +kernel
theorem cwX12_355 : CWV RX12 355 yX12_isPen cX12_isPen 2 (some .boolean) 1 := ⟨goodV (wa_of 1955 (by decide +kernel) rfl) wiX12_isPen wsX12_isPen wnX12 wcX12_isPen, wpX12_isPen⟩
theorem wcX12_wired : Cond.code yX12_wired cX12_wired 5 (some .int) ∈ WA := wa_of 1962 (by decide +kernel) rfl
theorem wiX12_wired : Cond.instanceMethod yX12_wired ∈ WA := wa_of 1961 (by decide +kernel) rfl
theorem wsX12_wired : Cond.selects yX12_wired.cls yX12_wired yX12_wired ∈ WA := wa_of 87 (by decide +kernel) rfl
theorem wpX12_wired : yX12_wired.cls ≠ "java/lang/invoke/MethodHandle" ∧ yX12_wired.cls ≠ "java/lang/invoke/VarHandle" ∧ (parseMethodDescriptor yX12_wired.desc).map (fun d => d.parameters.length) = some 2 := by decide +kernel
theorem cwX12_358 : CWV RX12 358 yX12_wired cX12_wired 5 (some .int) 2 := ⟨goodV (wa_of 1959 (by decide +kernel) rfl) wiX12_wired wsX12_wired wnX12 wcX12_wired, wpX12_wired⟩
theorem wcX12_isNumber : Cond.code yX12_isNumber cX12_isNumber 2 (some .boolean) ∈ WA := wa_of 1998 (by decide +kernel) rfl
theorem wtX12_isNumber : Cond.static yX12_isNumber ∈ WA := wa_of 1997 (by decide +kernel) rfl
theorem wpX12_isNumber : yX12_isNumber.cls ≠ "java/lang/invoke/MethodHandle" ∧ yX12_isNumber.cls ≠ "java/lang/invoke/VarHandle" ∧ (parseMethodDescriptor yX12_isNumber.desc).map (fun d => d.parameters.length) = some 1 := by decide +kernel
theorem cwX12_363 : CWS RX12 363 yX12_isNumber cX12_isNumber 2 (some .boolean) 1 := ⟨goodS (wa_of 1996 (by decide +kernel) rfl) wtX12_isNumber wnX12 wcX12_isNumber, wpX12_isNumber⟩
theorem wcX12_realAt : Cond.code yX12_realAt cX12_realAt 4 (some .double) ∈ WA := wa_of 1995 (by decide +kernel) rfl
theorem wiX12_realAt : Cond.instanceMethod yX12_realAt ∈ WA := wa_of 1994 (by decide +kernel) rfl
theorem wsX12_realAt : Cond.selects yX12_realAt.cls yX12_realAt yX12_realAt ∈ WA := wa_of 88 (by decide +kernel) rfl
theorem wpX12_realAt : yX12_realAt.cls ≠ "java/lang/invoke/MethodHandle" ∧ yX12_realAt.cls ≠ "java/lang/invoke/VarHandle" ∧ (parseMethodDescriptor yX12_realAt.desc).map (fun d => d.parameters.length) = some 2 := by decide +kernel
theorem cwX12_367 : CWV RX12 367 yX12_realAt cX12_realAt 4 (some .double) 2 := ⟨goodV (wa_of 1992 (by decide +kernel) rfl) wiX12_realAt wsX12_realAt wnX12 wcX12_realAt, wpX12_realAt⟩
theorem wcX12_isEndless : Cond.code yX12_isEndless cX12_isEndless 2 (some .boolean) ∈ WA := wa_of 2001 (by decide +kernel) rfl
theorem wtX12_isEndless : Cond.static yX12_isEndless ∈ WA := wa_of 2000 (by decide +kernel) rfl
theorem wpX12_isEndless : yX12_isEndless.cls ≠ "java/lang/invoke/MethodHandle" ∧ yX12_isEndless.cls ≠ "java/lang/invoke/VarHandle" ∧ (parseMethodDescriptor yX12_isEndless.desc).map (fun d => d.parameters.length) = some 1 := by decide +kernel
theorem cwX12_371 : CWS RX12 371 yX12_isEndless cX12_isEndless 2 (some .boolean) 1 := ⟨goodS (wa_of 1999 (by decide +kernel) rfl) wtX12_isEndless wnX12 wcX12_isEndless, wpX12_isEndless⟩
theorem wcX12_wholeAt : Cond.code yX12_wholeAt cX12_wholeAt 4 (some .long) ∈ WA := wa_of 2013 (by decide +kernel) rfl
theorem wiX12_wholeAt : Cond.instanceMethod yX12_wholeAt ∈ WA := wa_of 2012 (by decide +kernel) rfl
theorem wsX12_wholeAt : Cond.selects yX12_wholeAt.cls yX12_wholeAt yX12_wholeAt ∈ WA := wa_of 90 (by decide +kernel) rfl
theorem wpX12_wholeAt : yX12_wholeAt.cls ≠ "java/lang/invoke/MethodHandle" ∧ yX12_wholeAt.cls ≠ "java/lang/invoke/VarHandle" ∧ (parseMethodDescriptor yX12_wholeAt.desc).map (fun d => d.parameters.length) = some 2 := by decide +kernel
theorem cwX12_374 : CWV RX12 374 yX12_wholeAt cX12_wholeAt 4 (some .long) 2 := ⟨goodV (wa_of 2010 (by decide +kernel) rfl) wiX12_wholeAt wsX12_wholeAt wnX12 wcX12_wholeAt, wpX12_wholeAt⟩
theorem wcX12_isMore : Cond.code yX12_isMore cX12_isMore 4 (some .boolean) ∈ WA := wa_of 2009 (by decide +kernel) rfl
theorem wiX12_isMore : Cond.instanceMethod yX12_isMore ∈ WA := wa_of 2008 (by decide +kernel) rfl
theorem wsX12_isMore : Cond.selects yX12_isMore.cls yX12_isMore yX12_isMore ∈ WA := wa_of 89 (by decide +kernel) rfl
theorem wpX12_isMore : yX12_isMore.cls ≠ "java/lang/invoke/MethodHandle" ∧ yX12_isMore.cls ≠ "java/lang/invoke/VarHandle" ∧ (parseMethodDescriptor yX12_isMore.desc).map (fun d => d.parameters.length) = some 3 := by decide +kernel
theorem cwX12_378 : CWV RX12 378 yX12_isMore cX12_isMore 4 (some .boolean) 3 := ⟨goodV (wa_of 2006 (by decide +kernel) rfl) wiX12_isMore wsX12_isMore wnX12 wcX12_isMore, wpX12_isMore⟩
theorem wcX12_chainJams : Cond.code yX12_chainJams cX12_chainJams 2 (some .boolean) ∈ WA := wa_of 2021 (by decide +kernel) rfl
theorem wiX12_chainJams : Cond.instanceMethod yX12_chainJams ∈ WA := wa_of 2020 (by decide +kernel) rfl
theorem wsX12_chainJams : Cond.selects yX12_chainJams.cls yX12_chainJams yX12_chainJams ∈ WA := wa_of 91 (by decide +kernel) rfl
theorem wpX12_chainJams : yX12_chainJams.cls ≠ "java/lang/invoke/MethodHandle" ∧ yX12_chainJams.cls ≠ "java/lang/invoke/VarHandle" ∧ (parseMethodDescriptor yX12_chainJams.desc).map (fun d => d.parameters.length) = some 0 := by decide +kernel
theorem cwX12_381 : CWV RX12 381 yX12_chainJams cX12_chainJams 2 (some .boolean) 0 := ⟨goodV (wa_of 2018 (by decide +kernel) rfl) wiX12_chainJams wsX12_chainJams wnX12 wcX12_chainJams, wpX12_chainJams⟩
theorem wcX12_throughOf : Cond.code yX12_throughOf cX12_throughOf 4 (some .int) ∈ WA := wa_of 2025 (by decide +kernel) rfl
theorem wiX12_throughOf : Cond.instanceMethod yX12_throughOf ∈ WA := wa_of 2024 (by decide +kernel) rfl
theorem wsX12_throughOf : Cond.selects yX12_throughOf.cls yX12_throughOf yX12_throughOf ∈ WA := wa_of 92 (by decide +kernel) rfl
theorem wpX12_throughOf : yX12_throughOf.cls ≠ "java/lang/invoke/MethodHandle" ∧ yX12_throughOf.cls ≠ "java/lang/invoke/VarHandle" ∧ (parseMethodDescriptor yX12_throughOf.desc).map (fun d => d.parameters.length) = some 1 := by decide +kernel
theorem cwX12_384 : CWV RX12 384 yX12_throughOf cX12_throughOf 4 (some .int) 1 := ⟨goodV (wa_of 2022 (by decide +kernel) rfl) wiX12_throughOf wsX12_throughOf wnX12 wcX12_throughOf, wpX12_throughOf⟩
theorem wcX12_has : Cond.code yX12_has cX12_has 2 (some .boolean) ∈ WA := wa_of 2052 (by decide +kernel) rfl
theorem wtX12_has : Cond.static yX12_has ∈ WA := wa_of 2051 (by decide +kernel) rfl
theorem wpX12_has : yX12_has.cls ≠ "java/lang/invoke/MethodHandle" ∧ yX12_has.cls ≠ "java/lang/invoke/VarHandle" ∧ (parseMethodDescriptor yX12_has.desc).map (fun d => d.parameters.length) = some 2 := by decide +kernel
theorem cwX12_393 : CWS RX12 393 yX12_has cX12_has 2 (some .boolean) 2 := ⟨goodS (wa_of 2050 (by decide +kernel) rfl) wtX12_has wnX12 wcX12_has, wpX12_has⟩
theorem wcX12_tries : Cond.code yX12_tries cX12_tries 9 none ∈ WA := wa_of 2049 (by decide +kernel) rfl
theorem wiX12_tries : Cond.instanceMethod yX12_tries ∈ WA := wa_of 2048 (by decide +kernel) rfl
theorem wsX12_tries : Cond.selects yX12_tries.cls yX12_tries yX12_tries ∈ WA := wa_of 94 (by decide +kernel) rfl
theorem wpX12_tries : yX12_tries.cls ≠ "java/lang/invoke/MethodHandle" ∧ yX12_tries.cls ≠ "java/lang/invoke/VarHandle" ∧ (parseMethodDescriptor yX12_tries.desc).map (fun d => d.parameters.length) = some 5 := by decide +kernel
theorem cwX12_396 : CWV RX12 396 yX12_tries cX12_tries 9 none 5 := ⟨goodV (wa_of 2046 (by decide +kernel) rfl) wiX12_tries wsX12_tries wnX12 wcX12_tries, wpX12_tries⟩
theorem wcX12_laysBest : Cond.code yX12_laysBest cX12_laysBest 4 none ∈ WA := wa_of 2045 (by decide +kernel) rfl
theorem wiX12_laysBest : Cond.instanceMethod yX12_laysBest ∈ WA := wa_of 2044 (by decide +kernel) rfl
theorem wsX12_laysBest : Cond.selects yX12_laysBest.cls yX12_laysBest yX12_laysBest ∈ WA := wa_of 93 (by decide +kernel) rfl
theorem wpX12_laysBest : yX12_laysBest.cls ≠ "java/lang/invoke/MethodHandle" ∧ yX12_laysBest.cls ≠ "java/lang/invoke/VarHandle" ∧ (parseMethodDescriptor yX12_laysBest.desc).map (fun d => d.parameters.length) = some 3 := by decide +kernel
theorem cwX12_400 : CWV RX12 400 yX12_laysBest cX12_laysBest 4 none 3 := ⟨goodV (wa_of 2042 (by decide +kernel) rfl) wiX12_laysBest wsX12_laysBest wnX12 wcX12_laysBest, wpX12_laysBest⟩
theorem wcX12_fitsBy : Cond.code yX12_fitsBy cX12_fitsBy 4 (some .boolean) ∈ WA := wa_of 2072 (by decide +kernel) rfl
theorem wiX12_fitsBy : Cond.instanceMethod yX12_fitsBy ∈ WA := wa_of 2071 (by decide +kernel) rfl
theorem wsX12_fitsBy : Cond.selects yX12_fitsBy.cls yX12_fitsBy yX12_fitsBy ∈ WA := wa_of 95 (by decide +kernel) rfl
theorem wpX12_fitsBy : yX12_fitsBy.cls ≠ "java/lang/invoke/MethodHandle" ∧ yX12_fitsBy.cls ≠ "java/lang/invoke/VarHandle" ∧ (parseMethodDescriptor yX12_fitsBy.desc).map (fun d => d.parameters.length) = some 1 := by decide +kernel
theorem cwX12_404 : CWV RX12 404 yX12_fitsBy cX12_fitsBy 4 (some .boolean) 1 := ⟨goodV (wa_of 2069 (by decide +kernel) rfl) wiX12_fitsBy wsX12_fitsBy wnX12 wcX12_fitsBy, wpX12_fitsBy⟩
theorem wcX12_areAlikeAt : Cond.code yX12_areAlikeAt cX12_areAlikeAt 4 (some .boolean) ∈ WA := wa_of 2084 (by decide +kernel) rfl
theorem wiX12_areAlikeAt : Cond.instanceMethod yX12_areAlikeAt ∈ WA := wa_of 2083 (by decide +kernel) rfl
theorem wsX12_areAlikeAt : Cond.selects yX12_areAlikeAt.cls yX12_areAlikeAt yX12_areAlikeAt ∈ WA := wa_of 97 (by decide +kernel) rfl
theorem wpX12_areAlikeAt : yX12_areAlikeAt.cls ≠ "java/lang/invoke/MethodHandle" ∧ yX12_areAlikeAt.cls ≠ "java/lang/invoke/VarHandle" ∧ (parseMethodDescriptor yX12_areAlikeAt.desc).map (fun d => d.parameters.length) = some 3 := by decide +kernel
theorem cwX12_407 : CWV RX12 407 yX12_areAlikeAt cX12_areAlikeAt 4 (some .boolean) 3 := ⟨goodV (wa_of 2081 (by decide +kernel) rfl) wiX12_areAlikeAt wsX12_areAlikeAt wnX12 wcX12_areAlikeAt, wpX12_areAlikeAt⟩
theorem wcX12_worstAt : Cond.code yX12_worstAt cX12_worstAt 6 (some .int) ∈ WA := wa_of 2080 (by decide +kernel) rfl
theorem wiX12_worstAt : Cond.instanceMethod yX12_worstAt ∈ WA := wa_of 2079 (by decide +kernel) rfl
theorem wsX12_worstAt : Cond.selects yX12_worstAt.cls yX12_worstAt yX12_worstAt ∈ WA := wa_of 96 (by decide +kernel) rfl
theorem wpX12_worstAt : yX12_worstAt.cls ≠ "java/lang/invoke/MethodHandle" ∧ yX12_worstAt.cls ≠ "java/lang/invoke/VarHandle" ∧ (parseMethodDescriptor yX12_worstAt.desc).map (fun d => d.parameters.length) = some 1 := by decide +kernel
theorem cwX12_410 : CWV RX12 410 yX12_worstAt cX12_worstAt 6 (some .int) 1 := ⟨goodV (wa_of 2077 (by decide +kernel) rfl) wiX12_worstAt wsX12_worstAt wnX12 wcX12_worstAt, wpX12_worstAt⟩
theorem wcX12_draw : Cond.code yX12_draw cX12_draw 2 (some .int) ∈ WA := wa_of 2127 (by decide +kernel) rfl
theorem wiX12_draw : Cond.instanceMethod yX12_draw ∈ WA := wa_of 2126 (by decide +kernel) rfl
theorem wsX12_draw : Cond.selects yX12_draw.cls yX12_draw yX12_draw ∈ WA := wa_of 99 (by decide +kernel) rfl
theorem wpX12_draw : yX12_draw.cls ≠ "java/lang/invoke/MethodHandle" ∧ yX12_draw.cls ≠ "java/lang/invoke/VarHandle" ∧ (parseMethodDescriptor yX12_draw.desc).map (fun d => d.parameters.length) = some 1 := by decide +kernel
theorem cwX12_417 : CWV RX12 417 yX12_draw cX12_draw 2 (some .int) 1 := ⟨goodV (wa_of 2124 (by decide +kernel) rfl) wiX12_draw wsX12_draw wnX12 wcX12_draw, wpX12_draw⟩
theorem wcX12_isSeason : Cond.code yX12_isSeason cX12_isSeason 2 (some .boolean) ∈ WA := wa_of 2119 (by decide +kernel) rfl
theorem wtX12_isSeason : Cond.static yX12_isSeason ∈ WA := wa_of 2118 (by decide +kernel) rfl
theorem wpX12_isSeason : yX12_isSeason.cls ≠ "java/lang/invoke/MethodHandle" ∧ yX12_isSeason.cls ≠ "java/lang/invoke/VarHandle" ∧ (parseMethodDescriptor yX12_isSeason.desc).map (fun d => d.parameters.length) = some 2 := by decide +kernel
theorem cwX12_420 : CWS RX12 420 yX12_isSeason cX12_isSeason 2 (some .boolean) 2 := ⟨goodS (wa_of 2117 (by decide +kernel) rfl) wtX12_isSeason wnX12 wcX12_isSeason, wpX12_isSeason⟩
theorem wcX12_seasonBy : Cond.code yX12_seasonBy cX12_seasonBy 6 none ∈ WA := wa_of 2123 (by decide +kernel) rfl
theorem wiX12_seasonBy : Cond.instanceMethod yX12_seasonBy ∈ WA := wa_of 2122 (by decide +kernel) rfl
theorem wsX12_seasonBy : Cond.selects yX12_seasonBy.cls yX12_seasonBy yX12_seasonBy ∈ WA := wa_of 98 (by decide +kernel) rfl
theorem wpX12_seasonBy : yX12_seasonBy.cls ≠ "java/lang/invoke/MethodHandle" ∧ yX12_seasonBy.cls ≠ "java/lang/invoke/VarHandle" ∧ (parseMethodDescriptor yX12_seasonBy.desc).map (fun d => d.parameters.length) = some 3 := by decide +kernel
theorem cwX12_423 : CWV RX12 423 yX12_seasonBy cX12_seasonBy 6 none 3 := ⟨goodV (wa_of 2120 (by decide +kernel) rfl) wiX12_seasonBy wsX12_seasonBy wnX12 wcX12_seasonBy, wpX12_seasonBy⟩
theorem wcX12_puts : Cond.code yX12_puts cX12_puts 4 (some .int) ∈ WA := wa_of 2144 (by decide +kernel) rfl
theorem wiX12_puts : Cond.instanceMethod yX12_puts ∈ WA := wa_of 2143 (by decide +kernel) rfl
theorem wsX12_puts : Cond.selects yX12_puts.cls yX12_puts yX12_puts ∈ WA := wa_of 101 (by decide +kernel) rfl
theorem wpX12_puts : yX12_puts.cls ≠ "java/lang/invoke/MethodHandle" ∧ yX12_puts.cls ≠ "java/lang/invoke/VarHandle" ∧ (parseMethodDescriptor yX12_puts.desc).map (fun d => d.parameters.length) = some 3 := by decide +kernel
theorem cwX12_429 : CWV RX12 429 yX12_puts cX12_puts 4 (some .int) 3 := ⟨goodV (wa_of 2141 (by decide +kernel) rfl) wiX12_puts wsX12_puts wnX12 wcX12_puts, wpX12_puts⟩
theorem wcX12_putsAll : Cond.code yX12_putsAll cX12_putsAll 5 none ∈ WA := wa_of 2140 (by decide +kernel) rfl
theorem wiX12_putsAll : Cond.instanceMethod yX12_putsAll ∈ WA := wa_of 2139 (by decide +kernel) rfl
theorem wsX12_putsAll : Cond.selects yX12_putsAll.cls yX12_putsAll yX12_putsAll ∈ WA := wa_of 100 (by decide +kernel) rfl
theorem wpX12_putsAll : yX12_putsAll.cls ≠ "java/lang/invoke/MethodHandle" ∧ yX12_putsAll.cls ≠ "java/lang/invoke/VarHandle" ∧ (parseMethodDescriptor yX12_putsAll.desc).map (fun d => d.parameters.length) = some 2 := by decide +kernel
theorem cwX12_433 : CWV RX12 433 yX12_putsAll cX12_putsAll 5 none 2 := ⟨goodV (wa_of 2137 (by decide +kernel) rfl) wiX12_putsAll wsX12_putsAll wnX12 wcX12_putsAll, wpX12_putsAll⟩
theorem wcX12_tellsNothing : Cond.code yX12_tellsNothing cX12_tellsNothing 1 none ∈ WA := wa_of 1545 (by decide +kernel) rfl
theorem wiX12_tellsNothing : Cond.instanceMethod yX12_tellsNothing ∈ WA := wa_of 1544 (by decide +kernel) rfl
theorem wsX12_tellsNothing : Cond.selects yX12_tellsNothing.cls yX12_tellsNothing yX12_tellsNothing ∈ WA := wa_of 44 (by decide +kernel) rfl
theorem wpX12_tellsNothing : yX12_tellsNothing.cls ≠ "java/lang/invoke/MethodHandle" ∧ yX12_tellsNothing.cls ≠ "java/lang/invoke/VarHandle" ∧ (parseMethodDescriptor yX12_tellsNothing.desc).map (fun d => d.parameters.length) = some 0 := by decide +kernel
theorem cwX12_88 : CWV RX12 88 yX12_tellsNothing cX12_tellsNothing 1 none 0 := ⟨goodV (wa_of 1542 (by decide +kernel) rfl) wiX12_tellsNothing wsX12_tellsNothing wnX12 wcX12_tellsNothing, wpX12_tellsNothing⟩
theorem wcX12_beginsAnew : Cond.code yX12_beginsAnew cX12_beginsAnew 2 none ∈ WA := wa_of 1549 (by decide +kernel) rfl
theorem wiX12_beginsAnew : Cond.instanceMethod yX12_beginsAnew ∈ WA := wa_of 1548 (by decide +kernel) rfl
theorem wsX12_beginsAnew : Cond.selects yX12_beginsAnew.cls yX12_beginsAnew yX12_beginsAnew ∈ WA := wa_of 45 (by decide +kernel) rfl
theorem wpX12_beginsAnew : yX12_beginsAnew.cls ≠ "java/lang/invoke/MethodHandle" ∧ yX12_beginsAnew.cls ≠ "java/lang/invoke/VarHandle" ∧ (parseMethodDescriptor yX12_beginsAnew.desc).map (fun d => d.parameters.length) = some 0 := by decide +kernel
theorem cwX12_91 : CWV RX12 91 yX12_beginsAnew cX12_beginsAnew 2 none 0 := ⟨goodV (wa_of 1546 (by decide +kernel) rfl) wiX12_beginsAnew wsX12_beginsAnew wnX12 wcX12_beginsAnew, wpX12_beginsAnew⟩
