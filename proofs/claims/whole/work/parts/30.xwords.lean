/-! ===== WORDS of the class ===== -/
def nn32 (r : UInt32) : Bool := decide (r &&& 0x7fffffff ≤ 0x7f800000)
def nn64 (r : UInt64) : Bool := decide (r &&& 0x7fffffffffffffff ≤ 0x7ff0000000000000)
theorem nn32_ok {r : UInt32} (h : nn32 r = true) : vf_n32 r := by
  show r &&& 0x7fffffff ≤ 0x7f800000
  exact of_decide_eq_true h
theorem nn64_ok {r : UInt64} (h : nn64 r = true) : vf_n64 r := by
  show r &&& 0x7fffffffffffffff ≤ 0x7ff0000000000000
  exact of_decide_eq_true h
theorem wx_of {w : Cond} (i : Nat) (h : lw_tbl[i]? = some w) (g : NXw w = true) : w ∈ WX := List.mem_filter.mpr ⟨List.mem_of_getElem? h, g⟩
theorem wsa {L : List Cond} (h : (L.all fun w => lw_tbl.any fun u => decide (u = w)) = true) : ∀ w ∈ L.filter goodWord, w ∈ WA := by
  intro w hw
  obtain ⟨h1, h2⟩ := List.mem_filter.mp hw
  have := List.all_eq_true.mp h w h1
  obtain ⟨u, hu, e⟩ := List.any_eq_true.mp this
  have e := of_decide_eq_true e
  subst e
  exact List.mem_filter.mpr ⟨hu, h2⟩
theorem wsx {L : List Cond} (h : ((L.filter fun w => !goodWord w).all fun w => NXw w && lw_tbl.any fun u => decide (u = w)) = true) : ∀ w ∈ L.filter (fun w => !goodWord w), w ∈ WX := by
  intro w hw
  have := List.all_eq_true.mp h w hw
  simp only [Bool.and_eq_true] at this
  obtain ⟨u, hu, e⟩ := List.any_eq_true.mp this.2
  have e := of_decide_eq_true e
  subst e
  exact List.mem_filter.mpr ⟨hu, this.1⟩
theorem kB_m2 : (Int8.ofInt (-2)).toInt32 = (-2 : Int32) := by decide
theorem kB_80 : (Int8.ofInt (80)).toInt32 = (80 : Int32) := by decide
theorem kL_1 : Int64.ofNat ((1 : Fin 2) : Nat) = (1 : Int64) := by decide
theorem kS_160 : (Int16.ofInt (160)).toInt32 = (160 : Int32) := by decide
theorem kS_580 : (Int16.ofInt (580)).toInt32 = (580 : Int32) := by decide
theorem kS_1001 : (Int16.ofInt (1001)).toInt32 = (1001 : Int32) := by decide
theorem kS_7124 : (Int16.ofInt (7124)).toInt32 = (7124 : Int32) := by decide
theorem flX0_15 : FL RX0 15 0 1 true true := ⟨RX0, TX0, 3, tyX0, rfl, by decide, by decide, wsinX0, wa_of 463 (by decide +kernel) rfl, rfl, tyX0_ok, nmX0, rfl, rfl, (fun h => nomatch h), (fun _ => Or.inr ⟨_, rfl⟩)⟩
theorem flX0_18 : FL RX0 18 0 2 false false := ⟨RX0, TX0, 3, tyX0, rfl, by decide, by decide, wsinX0, wa_of 465 (by decide +kernel) rfl, rfl, tyX0_ok, nmX0, rfl, rfl, (fun _ => rfl), (fun h => nomatch h)⟩
theorem flX0_9 : FL RX0 9 0 0 true true := ⟨RX0, TX0, 3, tyX0, rfl, by decide, by decide, wsinX0, wa_of 461 (by decide +kernel) rfl, rfl, tyX0_ok, nmX0, rfl, rfl, (fun h => nomatch h), (fun _ => Or.inr ⟨_, rfl⟩)⟩
theorem flX10_101 : FL RX10 101 10 8 false false := ⟨RX10, TX10, 9, tyX10, rfl, by decide, by decide, wsinX10, wa_of 193 (by decide +kernel) rfl, rfl, tyX10_ok, nmX10, rfl, rfl, (fun _ => rfl), (fun h => nomatch h)⟩
theorem flX10_11 : FL RX10 11 10 0 true true := ⟨RX10, TX10, 9, tyX10, rfl, by decide, by decide, wsinX10, wa_of 182 (by decide +kernel) rfl, rfl, tyX10_ok, nmX10, rfl, rfl, (fun h => nomatch h), (fun _ => Or.inr ⟨_, rfl⟩)⟩
theorem flX10_15 : FL RX10 15 10 1 true true := ⟨RX10, TX10, 9, tyX10, rfl, by decide, by decide, wsinX10, wa_of 183 (by decide +kernel) rfl, rfl, tyX10_ok, nmX10, rfl, rfl, (fun h => nomatch h), (fun _ => Or.inr ⟨_, rfl⟩)⟩
theorem flX10_18 : FL RX10 18 10 2 true true := ⟨RX10, TX10, 9, tyX10, rfl, by decide, by decide, wsinX10, wa_of 184 (by decide +kernel) rfl, rfl, tyX10_ok, nmX10, rfl, rfl, (fun h => nomatch h), (fun _ => Or.inr ⟨_, rfl⟩)⟩
theorem flX10_21 : FL RX10 21 10 3 true true := ⟨RX10, TX10, 9, tyX10, rfl, by decide, by decide, wsinX10, wa_of 185 (by decide +kernel) rfl, rfl, tyX10_ok, nmX10, rfl, rfl, (fun h => nomatch h), (fun _ => Or.inr ⟨_, rfl⟩)⟩
theorem flX10_24 : FL RX10 24 10 4 true true := ⟨RX10, TX10, 9, tyX10, rfl, by decide, by decide, wsinX10, wa_of 186 (by decide +kernel) rfl, rfl, tyX10_ok, nmX10, rfl, rfl, (fun h => nomatch h), (fun _ => Or.inr ⟨_, rfl⟩)⟩
theorem flX10_27 : FL RX10 27 10 5 false false := ⟨RX10, TX10, 9, tyX10, rfl, by decide, by decide, wsinX10, wa_of 187 (by decide +kernel) rfl, rfl, tyX10_ok, nmX10, rfl, rfl, (fun _ => rfl), (fun h => nomatch h)⟩
theorem flX10_95 : FL RX10 95 10 6 false false := ⟨RX10, TX10, 9, tyX10, rfl, by decide, by decide, wsinX10, wa_of 189 (by decide +kernel) rfl, rfl, tyX10_ok, nmX10, rfl, rfl, (fun _ => rfl), (fun h => nomatch h)⟩
theorem flX10_98 : FL RX10 98 10 7 false false := ⟨RX10, TX10, 9, tyX10, rfl, by decide, by decide, wsinX10, wa_of 191 (by decide +kernel) rfl, rfl, tyX10_ok, nmX10, rfl, rfl, (fun _ => rfl), (fun h => nomatch h)⟩
theorem flX11_10 : FL RX11 10 11 0 true true := ⟨RX11, TX11, 18, tyX11, rfl, by decide, by decide, wsinX11, wa_of 474 (by decide +kernel) rfl, rfl, tyX11_ok, nmX11, rfl, rfl, (fun h => nomatch h), (fun _ => Or.inl ⟨_, rfl⟩)⟩
theorem flX11_102 : FL RX11 102 11 16 true false := ⟨RX11, TX11, 18, tyX11, rfl, by decide, by decide, wsinX11, wa_of 490 (by decide +kernel) rfl, rfl, tyX11_ok, nmX11, rfl, rfl, (fun h => nomatch h), (fun _ => Or.inl ⟨_, rfl⟩)⟩
theorem flX11_141 : FL RX11 141 11 17 false false := ⟨RX11, TX11, 18, tyX11, rfl, by decide, by decide, wsinX11, wa_of 491 (by decide +kernel) rfl, rfl, tyX11_ok, nmX11, rfl, rfl, (fun _ => rfl), (fun h => nomatch h)⟩
theorem flX11_19 : FL RX11 19 11 1 true true := ⟨RX11, TX11, 18, tyX11, rfl, by decide, by decide, wsinX11, wa_of 475 (by decide +kernel) rfl, rfl, tyX11_ok, nmX11, rfl, rfl, (fun h => nomatch h), (fun _ => Or.inl ⟨_, rfl⟩)⟩
theorem flX11_26 : FL RX11 26 11 2 true true := ⟨RX11, TX11, 18, tyX11, rfl, by decide, by decide, wsinX11, wa_of 476 (by decide +kernel) rfl, rfl, tyX11_ok, nmX11, rfl, rfl, (fun h => nomatch h), (fun _ => Or.inl ⟨_, rfl⟩)⟩
theorem flX11_33 : FL RX11 33 11 3 true true := ⟨RX11, TX11, 18, tyX11, rfl, by decide, by decide, wsinX11, wa_of 477 (by decide +kernel) rfl, rfl, tyX11_ok, nmX11, rfl, rfl, (fun h => nomatch h), (fun _ => Or.inl ⟨_, rfl⟩)⟩
theorem flX11_40 : FL RX11 40 11 4 true true := ⟨RX11, TX11, 18, tyX11, rfl, by decide, by decide, wsinX11, wa_of 478 (by decide +kernel) rfl, rfl, tyX11_ok, nmX11, rfl, rfl, (fun h => nomatch h), (fun _ => Or.inl ⟨_, rfl⟩)⟩
theorem flX11_47 : FL RX11 47 11 5 true true := ⟨RX11, TX11, 18, tyX11, rfl, by decide, by decide, wsinX11, wa_of 479 (by decide +kernel) rfl, rfl, tyX11_ok, nmX11, rfl, rfl, (fun h => nomatch h), (fun _ => Or.inl ⟨_, rfl⟩)⟩
theorem flX11_54 : FL RX11 54 11 6 true true := ⟨RX11, TX11, 18, tyX11, rfl, by decide, by decide, wsinX11, wa_of 480 (by decide +kernel) rfl, rfl, tyX11_ok, nmX11, rfl, rfl, (fun h => nomatch h), (fun _ => Or.inl ⟨_, rfl⟩)⟩
theorem flX11_58 : FL RX11 58 11 7 true true := ⟨RX11, TX11, 18, tyX11, rfl, by decide, by decide, wsinX11, wa_of 481 (by decide +kernel) rfl, rfl, tyX11_ok, nmX11, rfl, rfl, (fun h => nomatch h), (fun _ => Or.inr ⟨_, rfl⟩)⟩
theorem flX11_62 : FL RX11 62 11 8 true true := ⟨RX11, TX11, 18, tyX11, rfl, by decide, by decide, wsinX11, wa_of 482 (by decide +kernel) rfl, rfl, tyX11_ok, nmX11, rfl, rfl, (fun h => nomatch h), (fun _ => Or.inr ⟨_, rfl⟩)⟩
theorem flX11_68 : FL RX11 68 11 9 true false := ⟨RX11, TX11, 18, tyX11, rfl, by decide, by decide, wsinX11, wa_of 483 (by decide +kernel) rfl, rfl, tyX11_ok, nmX11, rfl, rfl, (fun h => nomatch h), (fun _ => Or.inl ⟨_, rfl⟩)⟩
theorem flX11_72 : FL RX11 72 11 10 true false := ⟨RX11, TX11, 18, tyX11, rfl, by decide, by decide, wsinX11, wa_of 484 (by decide +kernel) rfl, rfl, tyX11_ok, nmX11, rfl, rfl, (fun h => nomatch h), (fun _ => Or.inl ⟨_, rfl⟩)⟩
theorem flX11_78 : FL RX11 78 11 11 true false := ⟨RX11, TX11, 18, tyX11, rfl, by decide, by decide, wsinX11, wa_of 485 (by decide +kernel) rfl, rfl, tyX11_ok, nmX11, rfl, rfl, (fun h => nomatch h), (fun _ => Or.inl ⟨_, rfl⟩)⟩
theorem flX11_82 : FL RX11 82 11 12 true false := ⟨RX11, TX11, 18, tyX11, rfl, by decide, by decide, wsinX11, wa_of 486 (by decide +kernel) rfl, rfl, tyX11_ok, nmX11, rfl, rfl, (fun h => nomatch h), (fun _ => Or.inl ⟨_, rfl⟩)⟩
theorem flX11_88 : FL RX11 88 11 13 true false := ⟨RX11, TX11, 18, tyX11, rfl, by decide, by decide, wsinX11, wa_of 487 (by decide +kernel) rfl, rfl, tyX11_ok, nmX11, rfl, rfl, (fun h => nomatch h), (fun _ => Or.inl ⟨_, rfl⟩)⟩
theorem flX11_92 : FL RX11 92 11 14 true false := ⟨RX11, TX11, 18, tyX11, rfl, by decide, by decide, wsinX11, wa_of 488 (by decide +kernel) rfl, rfl, tyX11_ok, nmX11, rfl, rfl, (fun h => nomatch h), (fun _ => Or.inl ⟨_, rfl⟩)⟩
theorem flX11_98 : FL RX11 98 11 15 true false := ⟨RX11, TX11, 18, tyX11, rfl, by decide, by decide, wsinX11, wa_of 489 (by decide +kernel) rfl, rfl, tyX11_ok, nmX11, rfl, rfl, (fun h => nomatch h), (fun _ => Or.inl ⟨_, rfl⟩)⟩
theorem flX1_15 : FL RX1 15 1 1 false false := ⟨RX1, TX1, 2, tyX1, rfl, by decide, by decide, wsinX1, wa_of 448 (by decide +kernel) rfl, rfl, tyX1_ok, nmX1, rfl, rfl, (fun _ => rfl), (fun h => nomatch h)⟩
theorem flX1_9 : FL RX1 9 1 0 true true := ⟨RX1, TX1, 2, tyX1, rfl, by decide, by decide, wsinX1, wa_of 446 (by decide +kernel) rfl, rfl, tyX1_ok, nmX1, rfl, rfl, (fun h => nomatch h), (fun _ => Or.inr ⟨_, rfl⟩)⟩
theorem flX2_11 : FL RX2 11 2 0 true true := ⟨RX2, TX2, 6, tyX2, rfl, by decide, by decide, wsinX2, wa_of 222 (by decide +kernel) rfl, rfl, tyX2_ok, nmX2, rfl, rfl, (fun h => nomatch h), (fun _ => Or.inr ⟨_, rfl⟩)⟩
theorem flX2_17 : FL RX2 17 2 1 true true := ⟨RX2, TX2, 6, tyX2, rfl, by decide, by decide, wsinX2, wa_of 223 (by decide +kernel) rfl, rfl, tyX2_ok, nmX2, rfl, rfl, (fun h => nomatch h), (fun _ => Or.inr ⟨_, rfl⟩)⟩
theorem flX2_20 : FL RX2 20 2 2 true true := ⟨RX2, TX2, 6, tyX2, rfl, by decide, by decide, wsinX2, wa_of 224 (by decide +kernel) rfl, rfl, tyX2_ok, nmX2, rfl, rfl, (fun h => nomatch h), (fun _ => Or.inr ⟨_, rfl⟩)⟩
theorem flX2_23 : FL RX2 23 2 3 true true := ⟨RX2, TX2, 6, tyX2, rfl, by decide, by decide, wsinX2, wa_of 225 (by decide +kernel) rfl, rfl, tyX2_ok, nmX2, rfl, rfl, (fun h => nomatch h), (fun _ => Or.inr ⟨_, rfl⟩)⟩
theorem flX2_27 : FL RX2 27 2 4 false false := ⟨RX2, TX2, 6, tyX2, rfl, by decide, by decide, wsinX2, wa_of 226 (by decide +kernel) rfl, rfl, tyX2_ok, nmX2, rfl, rfl, (fun _ => rfl), (fun h => nomatch h)⟩
theorem flX2_31 : FL RX2 31 2 5 false false := ⟨RX2, TX2, 6, tyX2, rfl, by decide, by decide, wsinX2, wa_of 228 (by decide +kernel) rfl, rfl, tyX2_ok, nmX2, rfl, rfl, (fun _ => rfl), (fun h => nomatch h)⟩
theorem flX3_15 : FL RX3 15 3 2 true true := ⟨RX3, TX3, 8, tyX3, rfl, by decide, by decide, wsinX3, wa_of 382 (by decide +kernel) rfl, rfl, tyX3_ok, nmX3, rfl, rfl, (fun h => nomatch h), (fun _ => Or.inr ⟨_, rfl⟩)⟩
theorem flX3_18 : FL RX3 18 3 3 true true := ⟨RX3, TX3, 8, tyX3, rfl, by decide, by decide, wsinX3, wa_of 384 (by decide +kernel) rfl, rfl, tyX3_ok, nmX3, rfl, rfl, (fun h => nomatch h), (fun _ => Or.inr ⟨_, rfl⟩)⟩
theorem flX3_21 : FL RX3 21 3 5 true true := ⟨RX3, TX3, 8, tyX3, rfl, by decide, by decide, wsinX3, wa_of 390 (by decide +kernel) rfl, rfl, tyX3_ok, nmX3, rfl, rfl, (fun h => nomatch h), (fun _ => Or.inr ⟨_, rfl⟩)⟩
theorem flX3_24 : FL RX3 24 3 6 true true := ⟨RX3, TX3, 8, tyX3, rfl, by decide, by decide, wsinX3, wa_of 394 (by decide +kernel) rfl, rfl, tyX3_ok, nmX3, rfl, rfl, (fun h => nomatch h), (fun _ => Or.inr ⟨_, rfl⟩)⟩
theorem flX3_27 : FL RX3 27 3 0 false false := ⟨RX3, TX3, 8, tyX3, rfl, by decide, by decide, wsinX3, wa_of 374 (by decide +kernel) rfl, rfl, tyX3_ok, nmX3, rfl, rfl, (fun _ => rfl), (fun h => nomatch h)⟩
theorem flX3_31 : FL RX3 31 3 4 false false := ⟨RX3, TX3, 8, tyX3, rfl, by decide, by decide, wsinX3, wa_of 386 (by decide +kernel) rfl, rfl, tyX3_ok, nmX3, rfl, rfl, (fun _ => rfl), (fun h => nomatch h)⟩
theorem flX3_34 : FL RX3 34 3 7 false false := ⟨RX3, TX3, 8, tyX3, rfl, by decide, by decide, wsinX3, wa_of 398 (by decide +kernel) rfl, rfl, tyX3_ok, nmX3, rfl, rfl, (fun _ => rfl), (fun h => nomatch h)⟩
theorem flX3_9 : FL RX3 9 3 1 true true := ⟨RX3, TX3, 8, tyX3, rfl, by decide, by decide, wsinX3, wa_of 380 (by decide +kernel) rfl, rfl, tyX3_ok, nmX3, rfl, rfl, (fun h => nomatch h), (fun _ => Or.inr ⟨_, rfl⟩)⟩
theorem flX4_11 : FL RX4 11 4 0 true true := ⟨RX4, TX4, 5, tyX4, rfl, by decide, by decide, wsinX4, wa_of 423 (by decide +kernel) rfl, rfl, tyX4_ok, nmX4, rfl, rfl, (fun h => nomatch h), (fun _ => Or.inr ⟨_, rfl⟩)⟩
theorem flX4_15 : FL RX4 15 4 1 true true := ⟨RX4, TX4, 5, tyX4, rfl, by decide, by decide, wsinX4, wa_of 425 (by decide +kernel) rfl, rfl, tyX4_ok, nmX4, rfl, rfl, (fun h => nomatch h), (fun _ => Or.inr ⟨_, rfl⟩)⟩
theorem flX4_18 : FL RX4 18 4 2 true true := ⟨RX4, TX4, 5, tyX4, rfl, by decide, by decide, wsinX4, wa_of 426 (by decide +kernel) rfl, rfl, tyX4_ok, nmX4, rfl, rfl, (fun h => nomatch h), (fun _ => Or.inr ⟨_, rfl⟩)⟩
theorem flX4_21 : FL RX4 21 4 4 true true := ⟨RX4, TX4, 5, tyX4, rfl, by decide, by decide, wsinX4, wa_of 428 (by decide +kernel) rfl, rfl, tyX4_ok, nmX4, rfl, rfl, (fun h => nomatch h), (fun _ => Or.inr ⟨_, rfl⟩)⟩
theorem flX4_24 : FL RX4 24 4 3 false false := ⟨RX4, TX4, 5, tyX4, rfl, by decide, by decide, wsinX4, wa_of 427 (by decide +kernel) rfl, rfl, tyX4_ok, nmX4, rfl, rfl, (fun _ => rfl), (fun h => nomatch h)⟩
theorem flX5_15 : FL RX5 15 5 5 true true := ⟨RX5, TX5, 8, tyX5, rfl, by decide, by decide, wsinX5, wa_of 270 (by decide +kernel) rfl, rfl, tyX5_ok, nmX5, rfl, rfl, (fun h => nomatch h), (fun _ => Or.inr ⟨_, rfl⟩)⟩
theorem flX5_19 : FL RX5 19 5 6 true true := ⟨RX5, TX5, 8, tyX5, rfl, by decide, by decide, wsinX5, wa_of 271 (by decide +kernel) rfl, rfl, tyX5_ok, nmX5, rfl, rfl, (fun h => nomatch h), (fun _ => Or.inr ⟨_, rfl⟩)⟩
theorem flX5_23 : FL RX5 23 5 7 true true := ⟨RX5, TX5, 8, tyX5, rfl, by decide, by decide, wsinX5, wa_of 272 (by decide +kernel) rfl, rfl, tyX5_ok, nmX5, rfl, rfl, (fun h => nomatch h), (fun _ => Or.inr ⟨_, rfl⟩)⟩
theorem flX5_27 : FL RX5 27 5 0 false false := ⟨RX5, TX5, 8, tyX5, rfl, by decide, by decide, wsinX5, wa_of 256 (by decide +kernel) rfl, rfl, tyX5_ok, nmX5, rfl, rfl, (fun _ => rfl), (fun h => nomatch h)⟩
theorem flX5_30 : FL RX5 30 5 1 false false := ⟨RX5, TX5, 8, tyX5, rfl, by decide, by decide, wsinX5, wa_of 258 (by decide +kernel) rfl, rfl, tyX5_ok, nmX5, rfl, rfl, (fun _ => rfl), (fun h => nomatch h)⟩
theorem flX5_33 : FL RX5 33 5 2 false false := ⟨RX5, TX5, 8, tyX5, rfl, by decide, by decide, wsinX5, wa_of 261 (by decide +kernel) rfl, rfl, tyX5_ok, nmX5, rfl, rfl, (fun _ => rfl), (fun h => nomatch h)⟩
theorem flX5_40 : FL RX5 40 5 4 false false := ⟨RX5, TX5, 8, tyX5, rfl, by decide, by decide, wsinX5, wa_of 266 (by decide +kernel) rfl, rfl, tyX5_ok, nmX5, rfl, rfl, (fun _ => rfl), (fun h => nomatch h)⟩
theorem flX5_9 : FL RX5 9 5 3 false false := ⟨RX5, TX5, 8, tyX5, rfl, by decide, by decide, wsinX5, wa_of 264 (by decide +kernel) rfl, rfl, tyX5_ok, nmX5, rfl, rfl, (fun _ => rfl), (fun h => nomatch h)⟩
theorem flX6_15 : FL RX6 15 6 3 true true := ⟨RX6, TX6, 7, tyX6, rfl, by decide, by decide, wsinX6, wa_of 347 (by decide +kernel) rfl, rfl, tyX6_ok, nmX6, rfl, rfl, (fun h => nomatch h), (fun _ => Or.inr ⟨_, rfl⟩)⟩
theorem flX6_18 : FL RX6 18 6 4 true false := ⟨RX6, TX6, 7, tyX6, rfl, by decide, by decide, wsinX6, wa_of 348 (by decide +kernel) rfl, rfl, tyX6_ok, nmX6, rfl, rfl, (fun h => nomatch h), (fun _ => Or.inl ⟨_, rfl⟩)⟩
theorem flX6_22 : FL RX6 22 6 5 true false := ⟨RX6, TX6, 7, tyX6, rfl, by decide, by decide, wsinX6, wa_of 349 (by decide +kernel) rfl, rfl, tyX6_ok, nmX6, rfl, rfl, (fun h => nomatch h), (fun _ => Or.inl ⟨_, rfl⟩)⟩
theorem flX6_26 : FL RX6 26 6 6 false false := ⟨RX6, TX6, 7, tyX6, rfl, by decide, by decide, wsinX6, wa_of 350 (by decide +kernel) rfl, rfl, tyX6_ok, nmX6, rfl, rfl, (fun _ => rfl), (fun h => nomatch h)⟩
theorem flX6_30 : FL RX6 30 6 1 false false := ⟨RX6, TX6, 7, tyX6, rfl, by decide, by decide, wsinX6, wa_of 343 (by decide +kernel) rfl, rfl, tyX6_ok, nmX6, rfl, rfl, (fun _ => rfl), (fun h => nomatch h)⟩
theorem flX6_33 : FL RX6 33 6 2 false false := ⟨RX6, TX6, 7, tyX6, rfl, by decide, by decide, wsinX6, wa_of 345 (by decide +kernel) rfl, rfl, tyX6_ok, nmX6, rfl, rfl, (fun _ => rfl), (fun h => nomatch h)⟩
theorem flX6_9 : FL RX6 9 6 0 true true := ⟨RX6, TX6, 7, tyX6, rfl, by decide, by decide, wsinX6, wa_of 341 (by decide +kernel) rfl, rfl, tyX6_ok, nmX6, rfl, rfl, (fun h => nomatch h), (fun _ => Or.inr ⟨_, rfl⟩)⟩
theorem flX7_12 : FL RX7 12 7 0 true true := ⟨RX7, TX7, 2, tyX7, rfl, by decide, by decide, wsinX7, wa_of 327 (by decide +kernel) rfl, rfl, tyX7_ok, nmX7, rfl, rfl, (fun h => nomatch h), (fun _ => Or.inl ⟨_, rfl⟩)⟩
theorem flX7_29 : FL RX7 29 7 1 false false := ⟨RX7, TX7, 2, tyX7, rfl, by decide, by decide, wsinX7, wa_of 329 (by decide +kernel) rfl, rfl, tyX7_ok, nmX7, rfl, rfl, (fun _ => rfl), (fun h => nomatch h)⟩
theorem flX8_11 : FL RX8 11 8 0 true true := ⟨RX8, TX8, 5, tyX8, rfl, by decide, by decide, wsinX8, wa_of 292 (by decide +kernel) rfl, rfl, tyX8_ok, nmX8, rfl, rfl, (fun h => nomatch h), (fun _ => Or.inr ⟨_, rfl⟩)⟩
theorem flX8_23 : FL RX8 23 8 1 false false := ⟨RX8, TX8, 5, tyX8, rfl, by decide, by decide, wsinX8, wa_of 297 (by decide +kernel) rfl, rfl, tyX8_ok, nmX8, rfl, rfl, (fun _ => rfl), (fun h => nomatch h)⟩
theorem flX8_26 : FL RX8 26 8 2 false false := ⟨RX8, TX8, 5, tyX8, rfl, by decide, by decide, wsinX8, wa_of 298 (by decide +kernel) rfl, rfl, tyX8_ok, nmX8, rfl, rfl, (fun _ => rfl), (fun h => nomatch h)⟩
theorem flX8_29 : FL RX8 29 8 3 false false := ⟨RX8, TX8, 5, tyX8, rfl, by decide, by decide, wsinX8, wa_of 303 (by decide +kernel) rfl, rfl, tyX8_ok, nmX8, rfl, rfl, (fun _ => rfl), (fun h => nomatch h)⟩
theorem flX8_32 : FL RX8 32 8 4 false false := ⟨RX8, TX8, 5, tyX8, rfl, by decide, by decide, wsinX8, wa_of 305 (by decide +kernel) rfl, rfl, tyX8_ok, nmX8, rfl, rfl, (fun _ => rfl), (fun h => nomatch h)⟩
theorem flX9_15 : FL RX9 15 9 3 false false := ⟨RX9, TX9, 7, tyX9, rfl, by decide, by decide, wsinX9, wa_of 150 (by decide +kernel) rfl, rfl, tyX9_ok, nmX9, rfl, rfl, (fun _ => rfl), (fun h => nomatch h)⟩
theorem flX9_19 : FL RX9 19 9 1 false false := ⟨RX9, TX9, 7, tyX9, rfl, by decide, by decide, wsinX9, wa_of 147 (by decide +kernel) rfl, rfl, tyX9_ok, nmX9, rfl, rfl, (fun _ => rfl), (fun h => nomatch h)⟩
theorem flX9_22 : FL RX9 22 9 6 false false := ⟨RX9, TX9, 7, tyX9, rfl, by decide, by decide, wsinX9, wa_of 159 (by decide +kernel) rfl, rfl, tyX9_ok, nmX9, rfl, rfl, (fun _ => rfl), (fun h => nomatch h)⟩
theorem flX9_25 : FL RX9 25 9 5 false false := ⟨RX9, TX9, 7, tyX9, rfl, by decide, by decide, wsinX9, wa_of 158 (by decide +kernel) rfl, rfl, tyX9_ok, nmX9, rfl, rfl, (fun _ => rfl), (fun h => nomatch h)⟩
theorem flX9_28 : FL RX9 28 9 4 false false := ⟨RX9, TX9, 7, tyX9, rfl, by decide, by decide, wsinX9, wa_of 152 (by decide +kernel) rfl, rfl, tyX9_ok, nmX9, rfl, rfl, (fun _ => rfl), (fun h => nomatch h)⟩
theorem flX9_31 : FL RX9 31 9 2 false false := ⟨RX9, TX9, 7, tyX9, rfl, by decide, by decide, wsinX9, wa_of 148 (by decide +kernel) rfl, rfl, tyX9_ok, nmX9, rfl, rfl, (fun _ => rfl), (fun h => nomatch h)⟩
theorem flX9_9 : FL RX9 9 9 0 true true := ⟨RX9, TX9, 7, tyX9, rfl, by decide, by decide, wsinX9, wa_of 145 (by decide +kernel) rfl, rfl, tyX9_ok, nmX9, rfl, rfl, (fun h => nomatch h), (fun _ => Or.inr ⟨_, rfl⟩)⟩
theorem fqX0_32 : FLq RX0 32 9 4 false false := ⟨RX9, TX9, 7, tyX9, rfl, by decide, by decide, wsinX9, wa_of 153 (by decide +kernel) rfl, rfl, tyX9_ok, nmX9, rfl, trivial, (fun _ => rfl), (fun h => nomatch h)⟩
theorem fqX10_124 : FLq RX10 124 3 5 true true := ⟨RX3, TX3, 8, tyX3, rfl, by decide, by decide, wsinX3, wa_of 392 (by decide +kernel) rfl, rfl, tyX3_ok, nmX3, rfl, trivial, (fun h => nomatch h), (fun _ => Or.inr ⟨_, rfl⟩)⟩
theorem fqX10_127 : FLq RX10 127 3 6 true true := ⟨RX3, TX3, 8, tyX3, rfl, by decide, by decide, wsinX3, wa_of 396 (by decide +kernel) rfl, rfl, tyX3_ok, nmX3, rfl, trivial, (fun h => nomatch h), (fun _ => Or.inr ⟨_, rfl⟩)⟩
theorem fqX10_133 : FLq RX10 133 8 0 true true := ⟨RX8, TX8, 5, tyX8, rfl, by decide, by decide, wsinX8, wa_of 296 (by decide +kernel) rfl, rfl, tyX8_ok, nmX8, rfl, trivial, (fun h => nomatch h), (fun _ => Or.inr ⟨_, rfl⟩)⟩
theorem fqX10_160 : FLq RX10 160 8 2 false false := ⟨RX8, TX8, 5, tyX8, rfl, by decide, by decide, wsinX8, wa_of 301 (by decide +kernel) rfl, rfl, tyX8_ok, nmX8, rfl, trivial, (fun _ => rfl), (fun h => nomatch h)⟩
theorem fqX10_54 : FLq RX10 54 9 4 false false := ⟨RX9, TX9, 7, tyX9, rfl, by decide, by decide, wsinX9, wa_of 156 (by decide +kernel) rfl, rfl, tyX9_ok, nmX9, rfl, trivial, (fun _ => rfl), (fun h => nomatch h)⟩
theorem fqX10_86 : FLq RX10 86 3 4 false false := ⟨RX3, TX3, 8, tyX3, rfl, by decide, by decide, wsinX3, wa_of 388 (by decide +kernel) rfl, rfl, tyX3_ok, nmX3, rfl, trivial, (fun _ => rfl), (fun h => nomatch h)⟩
theorem fqX10_91 : FLq RX10 91 3 0 false false := ⟨RX3, TX3, 8, tyX3, rfl, by decide, by decide, wsinX3, wa_of 379 (by decide +kernel) rfl, rfl, tyX3_ok, nmX3, rfl, trivial, (fun _ => rfl), (fun h => nomatch h)⟩
theorem fqX11_105 : FLq RX11 105 9 1 false false := ⟨RX9, TX9, 7, tyX9, rfl, by decide, by decide, wsinX9, wa_of 146 (by decide +kernel) rfl, rfl, tyX9_ok, nmX9, rfl, trivial, (fun _ => rfl), (fun h => nomatch h)⟩
theorem fqX11_128 : FLq RX11 128 9 2 false false := ⟨RX9, TX9, 7, tyX9, rfl, by decide, by decide, wsinX9, wa_of 149 (by decide +kernel) rfl, rfl, tyX9_ok, nmX9, rfl, trivial, (fun _ => rfl), (fun h => nomatch h)⟩
theorem fqX11_144 : FLq RX11 144 3 0 false false := ⟨RX3, TX3, 8, tyX3, rfl, by decide, by decide, wsinX3, wa_of 378 (by decide +kernel) rfl, rfl, tyX3_ok, nmX3, rfl, trivial, (fun _ => rfl), (fun h => nomatch h)⟩
theorem fqX11_148 : FLq RX11 148 2 4 false false := ⟨RX2, TX2, 6, tyX2, rfl, by decide, by decide, wsinX2, wa_of 227 (by decide +kernel) rfl, rfl, tyX2_ok, nmX2, rfl, trivial, (fun _ => rfl), (fun h => nomatch h)⟩
theorem fqX11_160 : FLq RX11 160 10 5 false false := ⟨RX10, TX10, 9, tyX10, rfl, by decide, by decide, wsinX10, wa_of 188 (by decide +kernel) rfl, rfl, tyX10_ok, nmX10, rfl, trivial, (fun _ => rfl), (fun h => nomatch h)⟩
theorem fqX11_167 : FLq RX11 167 10 8 false false := ⟨RX10, TX10, 9, tyX10, rfl, by decide, by decide, wsinX10, wa_of 192 (by decide +kernel) rfl, rfl, tyX10_ok, nmX10, rfl, trivial, (fun _ => rfl), (fun h => nomatch h)⟩
theorem fqX11_170 : FLq RX11 170 10 7 false false := ⟨RX10, TX10, 9, tyX10, rfl, by decide, by decide, wsinX10, wa_of 190 (by decide +kernel) rfl, rfl, tyX10_ok, nmX10, rfl, trivial, (fun _ => rfl), (fun h => nomatch h)⟩
theorem fqX11_176 : FLq RX11 176 1 1 false false := ⟨RX1, TX1, 2, tyX1, rfl, by decide, by decide, wsinX1, wa_of 449 (by decide +kernel) rfl, rfl, tyX1_ok, nmX1, rfl, trivial, (fun _ => rfl), (fun h => nomatch h)⟩
theorem fqX11_180 : FLq RX11 180 0 2 false false := ⟨RX0, TX0, 3, tyX0, rfl, by decide, by decide, wsinX0, wa_of 466 (by decide +kernel) rfl, rfl, tyX0_ok, nmX0, rfl, trivial, (fun _ => rfl), (fun h => nomatch h)⟩
theorem fqX11_183 : FLq RX11 183 9 3 false false := ⟨RX9, TX9, 7, tyX9, rfl, by decide, by decide, wsinX9, wa_of 151 (by decide +kernel) rfl, rfl, tyX9_ok, nmX9, rfl, trivial, (fun _ => rfl), (fun h => nomatch h)⟩
theorem fqX11_193 : FLq RX11 193 3 4 false false := ⟨RX3, TX3, 8, tyX3, rfl, by decide, by decide, wsinX3, wa_of 389 (by decide +kernel) rfl, rfl, tyX3_ok, nmX3, rfl, trivial, (fun _ => rfl), (fun h => nomatch h)⟩
theorem fqX11_196 : FLq RX11 196 8 2 false false := ⟨RX8, TX8, 5, tyX8, rfl, by decide, by decide, wsinX8, wa_of 300 (by decide +kernel) rfl, rfl, tyX8_ok, nmX8, rfl, trivial, (fun _ => rfl), (fun h => nomatch h)⟩
theorem fqX11_206 : FLq RX11 206 8 3 false false := ⟨RX8, TX8, 5, tyX8, rfl, by decide, by decide, wsinX8, wa_of 304 (by decide +kernel) rfl, rfl, tyX8_ok, nmX8, rfl, trivial, (fun _ => rfl), (fun h => nomatch h)⟩
theorem fqX11_209 : FLq RX11 209 8 4 false false := ⟨RX8, TX8, 5, tyX8, rfl, by decide, by decide, wsinX8, wa_of 307 (by decide +kernel) rfl, rfl, tyX8_ok, nmX8, rfl, trivial, (fun _ => rfl), (fun h => nomatch h)⟩
theorem fqX11_218 : FLq RX11 218 8 0 true true := ⟨RX8, TX8, 5, tyX8, rfl, by decide, by decide, wsinX8, wa_of 295 (by decide +kernel) rfl, rfl, tyX8_ok, nmX8, rfl, trivial, (fun h => nomatch h), (fun _ => Or.inr ⟨_, rfl⟩)⟩
theorem fqX11_221 : FLq RX11 221 5 0 false false := ⟨RX5, TX5, 8, tyX5, rfl, by decide, by decide, wsinX5, wa_of 257 (by decide +kernel) rfl, rfl, tyX5_ok, nmX5, rfl, trivial, (fun _ => rfl), (fun h => nomatch h)⟩
theorem fqX11_224 : FLq RX11 224 5 1 false false := ⟨RX5, TX5, 8, tyX5, rfl, by decide, by decide, wsinX5, wa_of 260 (by decide +kernel) rfl, rfl, tyX5_ok, nmX5, rfl, trivial, (fun _ => rfl), (fun h => nomatch h)⟩
theorem fqX11_227 : FLq RX11 227 5 2 false false := ⟨RX5, TX5, 8, tyX5, rfl, by decide, by decide, wsinX5, wa_of 263 (by decide +kernel) rfl, rfl, tyX5_ok, nmX5, rfl, trivial, (fun _ => rfl), (fun h => nomatch h)⟩
theorem fqX11_230 : FLq RX11 230 5 3 false false := ⟨RX5, TX5, 8, tyX5, rfl, by decide, by decide, wsinX5, wa_of 265 (by decide +kernel) rfl, rfl, tyX5_ok, nmX5, rfl, trivial, (fun _ => rfl), (fun h => nomatch h)⟩
theorem fqX11_233 : FLq RX11 233 5 4 false false := ⟨RX5, TX5, 8, tyX5, rfl, by decide, by decide, wsinX5, wa_of 269 (by decide +kernel) rfl, rfl, tyX5_ok, nmX5, rfl, trivial, (fun _ => rfl), (fun h => nomatch h)⟩
theorem fqX11_244 : FLq RX11 244 3 5 true true := ⟨RX3, TX3, 8, tyX3, rfl, by decide, by decide, wsinX3, wa_of 393 (by decide +kernel) rfl, rfl, tyX3_ok, nmX3, rfl, trivial, (fun h => nomatch h), (fun _ => Or.inr ⟨_, rfl⟩)⟩
theorem fqX11_247 : FLq RX11 247 3 6 true true := ⟨RX3, TX3, 8, tyX3, rfl, by decide, by decide, wsinX3, wa_of 397 (by decide +kernel) rfl, rfl, tyX3_ok, nmX3, rfl, trivial, (fun h => nomatch h), (fun _ => Or.inr ⟨_, rfl⟩)⟩
theorem fqX11_270 : FLq RX11 270 4 0 true true := ⟨RX4, TX4, 5, tyX4, rfl, by decide, by decide, wsinX4, wa_of 424 (by decide +kernel) rfl, rfl, tyX4_ok, nmX4, rfl, trivial, (fun h => nomatch h), (fun _ => Or.inr ⟨_, rfl⟩)⟩
theorem fqX11_297 : FLq RX11 297 6 1 false false := ⟨RX6, TX6, 7, tyX6, rfl, by decide, by decide, wsinX6, wa_of 344 (by decide +kernel) rfl, rfl, tyX6_ok, nmX6, rfl, trivial, (fun _ => rfl), (fun h => nomatch h)⟩
theorem fqX11_298 : FLq RX11 298 6 2 false false := ⟨RX6, TX6, 7, tyX6, rfl, by decide, by decide, wsinX6, wa_of 346 (by decide +kernel) rfl, rfl, tyX6_ok, nmX6, rfl, trivial, (fun _ => rfl), (fun h => nomatch h)⟩
theorem fqX11_304 : FLq RX11 304 6 0 true true := ⟨RX6, TX6, 7, tyX6, rfl, by decide, by decide, wsinX6, wa_of 342 (by decide +kernel) rfl, rfl, tyX6_ok, nmX6, rfl, trivial, (fun h => nomatch h), (fun _ => Or.inr ⟨_, rfl⟩)⟩
theorem fqX11_348 : FLq RX11 348 1 0 true true := ⟨RX1, TX1, 2, tyX1, rfl, by decide, by decide, wsinX1, wa_of 447 (by decide +kernel) rfl, rfl, tyX1_ok, nmX1, rfl, trivial, (fun h => nomatch h), (fun _ => Or.inr ⟨_, rfl⟩)⟩
theorem fqX11_357 : FLq RX11 357 7 0 true true := ⟨RX7, TX7, 2, tyX7, rfl, by decide, by decide, wsinX7, wa_of 328 (by decide +kernel) rfl, rfl, tyX7_ok, nmX7, rfl, trivial, (fun h => nomatch h), (fun _ => Or.inl ⟨_, rfl⟩)⟩
theorem fqX11_360 : FLq RX11 360 2 5 false false := ⟨RX2, TX2, 6, tyX2, rfl, by decide, by decide, wsinX2, wa_of 229 (by decide +kernel) rfl, rfl, tyX2_ok, nmX2, rfl, trivial, (fun _ => rfl), (fun h => nomatch h)⟩
theorem fqX11_398 : FLq RX11 398 0 0 true true := ⟨RX0, TX0, 3, tyX0, rfl, by decide, by decide, wsinX0, wa_of 462 (by decide +kernel) rfl, rfl, tyX0_ok, nmX0, rfl, trivial, (fun h => nomatch h), (fun _ => Or.inr ⟨_, rfl⟩)⟩
theorem fqX11_400 : FLq RX11 400 0 1 true true := ⟨RX0, TX0, 3, tyX0, rfl, by decide, by decide, wsinX0, wa_of 464 (by decide +kernel) rfl, rfl, tyX0_ok, nmX0, rfl, trivial, (fun h => nomatch h), (fun _ => Or.inr ⟨_, rfl⟩)⟩
theorem fqX1_29 : FLq RX1 29 9 4 false false := ⟨RX9, TX9, 7, tyX9, rfl, by decide, by decide, wsinX9, wa_of 154 (by decide +kernel) rfl, rfl, tyX9_ok, nmX9, rfl, trivial, (fun _ => rfl), (fun h => nomatch h)⟩
theorem fqX3_53 : FLq RX3 53 9 4 false false := ⟨RX9, TX9, 7, tyX9, rfl, by decide, by decide, wsinX9, wa_of 155 (by decide +kernel) rfl, rfl, tyX9_ok, nmX9, rfl, trivial, (fun _ => rfl), (fun h => nomatch h)⟩
theorem fqX4_107 : FLq RX4 107 5 4 false false := ⟨RX5, TX5, 8, tyX5, rfl, by decide, by decide, wsinX5, wa_of 268 (by decide +kernel) rfl, rfl, tyX5_ok, nmX5, rfl, trivial, (fun _ => rfl), (fun h => nomatch h)⟩
theorem fqX4_110 : FLq RX4 110 8 2 false false := ⟨RX8, TX8, 5, tyX8, rfl, by decide, by decide, wsinX8, wa_of 299 (by decide +kernel) rfl, rfl, tyX8_ok, nmX8, rfl, trivial, (fun _ => rfl), (fun h => nomatch h)⟩
theorem fqX4_113 : FLq RX4 113 5 1 false false := ⟨RX5, TX5, 8, tyX5, rfl, by decide, by decide, wsinX5, wa_of 259 (by decide +kernel) rfl, rfl, tyX5_ok, nmX5, rfl, trivial, (fun _ => rfl), (fun h => nomatch h)⟩
theorem fqX4_116 : FLq RX4 116 5 2 false false := ⟨RX5, TX5, 8, tyX5, rfl, by decide, by decide, wsinX5, wa_of 262 (by decide +kernel) rfl, rfl, tyX5_ok, nmX5, rfl, trivial, (fun _ => rfl), (fun h => nomatch h)⟩
theorem fqX4_79 : FLq RX4 79 9 4 false false := ⟨RX9, TX9, 7, tyX9, rfl, by decide, by decide, wsinX9, wa_of 157 (by decide +kernel) rfl, rfl, tyX9_ok, nmX9, rfl, trivial, (fun _ => rfl), (fun h => nomatch h)⟩
theorem fqX4_89 : FLq RX4 89 8 0 true true := ⟨RX8, TX8, 5, tyX8, rfl, by decide, by decide, wsinX8, wa_of 294 (by decide +kernel) rfl, rfl, tyX8_ok, nmX8, rfl, trivial, (fun h => nomatch h), (fun _ => Or.inr ⟨_, rfl⟩)⟩
theorem fqX6_40 : FLq RX6 40 8 0 true true := ⟨RX8, TX8, 5, tyX8, rfl, by decide, by decide, wsinX8, wa_of 293 (by decide +kernel) rfl, rfl, tyX8_ok, nmX8, rfl, trivial, (fun h => nomatch h), (fun _ => Or.inr ⟨_, rfl⟩)⟩
theorem fqX6_64 : FLq RX6 64 3 0 false false := ⟨RX3, TX3, 8, tyX3, rfl, by decide, by decide, wsinX3, wa_of 377 (by decide +kernel) rfl, rfl, tyX3_ok, nmX3, rfl, trivial, (fun _ => rfl), (fun h => nomatch h)⟩
theorem fqX7_22 : FLq RX7 22 8 3 false false := ⟨RX8, TX8, 5, tyX8, rfl, by decide, by decide, wsinX8, wa_of 302 (by decide +kernel) rfl, rfl, tyX8_ok, nmX8, rfl, trivial, (fun _ => rfl), (fun h => nomatch h)⟩
theorem fqX7_26 : FLq RX7 26 8 4 false false := ⟨RX8, TX8, 5, tyX8, rfl, by decide, by decide, wsinX8, wa_of 306 (by decide +kernel) rfl, rfl, tyX8_ok, nmX8, rfl, trivial, (fun _ => rfl), (fun h => nomatch h)⟩
theorem fqX7_36 : FLq RX7 36 3 0 false false := ⟨RX3, TX3, 8, tyX3, rfl, by decide, by decide, wsinX3, wa_of 376 (by decide +kernel) rfl, rfl, tyX3_ok, nmX3, rfl, trivial, (fun _ => rfl), (fun h => nomatch h)⟩
theorem fqX7_49 : FLq RX7 49 3 4 false false := ⟨RX3, TX3, 8, tyX3, rfl, by decide, by decide, wsinX3, wa_of 387 (by decide +kernel) rfl, rfl, tyX3_ok, nmX3, rfl, trivial, (fun _ => rfl), (fun h => nomatch h)⟩
theorem fqX7_52 : FLq RX7 52 3 5 true true := ⟨RX3, TX3, 8, tyX3, rfl, by decide, by decide, wsinX3, wa_of 391 (by decide +kernel) rfl, rfl, tyX3_ok, nmX3, rfl, trivial, (fun h => nomatch h), (fun _ => Or.inr ⟨_, rfl⟩)⟩
theorem fqX7_56 : FLq RX7 56 3 6 true true := ⟨RX3, TX3, 8, tyX3, rfl, by decide, by decide, wsinX3, wa_of 395 (by decide +kernel) rfl, rfl, tyX3_ok, nmX3, rfl, trivial, (fun h => nomatch h), (fun _ => Or.inr ⟨_, rfl⟩)⟩
theorem fqX8_18 : FLq RX8 18 3 0 false false := ⟨RX3, TX3, 8, tyX3, rfl, by decide, by decide, wsinX3, wa_of 375 (by decide +kernel) rfl, rfl, tyX3_ok, nmX3, rfl, trivial, (fun _ => rfl), (fun h => nomatch h)⟩
theorem fqX8_35 : FLq RX8 35 3 1 true true := ⟨RX3, TX3, 8, tyX3, rfl, by decide, by decide, wsinX3, wa_of 381 (by decide +kernel) rfl, rfl, tyX3_ok, nmX3, rfl, trivial, (fun h => nomatch h), (fun _ => Or.inr ⟨_, rfl⟩)⟩
theorem fqX8_39 : FLq RX8 39 3 2 true true := ⟨RX3, TX3, 8, tyX3, rfl, by decide, by decide, wsinX3, wa_of 383 (by decide +kernel) rfl, rfl, tyX3_ok, nmX3, rfl, trivial, (fun h => nomatch h), (fun _ => Or.inr ⟨_, rfl⟩)⟩
theorem fqX8_42 : FLq RX8 42 3 3 true true := ⟨RX3, TX3, 8, tyX3, rfl, by decide, by decide, wsinX3, wa_of 385 (by decide +kernel) rfl, rfl, tyX3_ok, nmX3, rfl, trivial, (fun h => nomatch h), (fun _ => Or.inr ⟨_, rfl⟩)⟩
theorem fqX8_45 : FLq RX8 45 3 7 false false := ⟨RX3, TX3, 8, tyX3, rfl, by decide, by decide, wsinX3, wa_of 399 (by decide +kernel) rfl, rfl, tyX3_ok, nmX3, rfl, trivial, (fun _ => rfl), (fun h => nomatch h)⟩
theorem fqX8_56 : FLq RX8 56 5 4 false false := ⟨RX5, TX5, 8, tyX5, rfl, by decide, by decide, wsinX5, wa_of 267 (by decide +kernel) rfl, rfl, tyX5_ok, nmX5, rfl, trivial, (fun _ => rfl), (fun h => nomatch h)⟩
theorem cwX0_39 : Cond.constant RX0 39 (9999999) ∈ WA := wa_of 1124 (by decide +kernel) rfl
theorem cwX10_94 : Cond.constant RX10 94 (99999999) ∈ WA := wa_of 994 (by decide +kernel) rfl
theorem cwX11_269 : Cond.constant RX11 269 (2147483647) ∈ WA := wa_of 1284 (by decide +kernel) rfl
theorem cwX11_389 : Cond.constantLong RX11 389 (2147483647) ∈ WA := wa_of 1030 (by decide +kernel) rfl
theorem cwX5_100 : Cond.constant RX5 100 (-2147483648) ∈ WA := wa_of 600 (by decide +kernel) rfl
theorem cwX5_99 : Cond.constant RX5 99 (2147483647) ∈ WA := wa_of 599 (by decide +kernel) rfl
theorem cwX7_65 : Cond.constant RX7 65 (1103515245) ∈ WA := wa_of 1523 (by decide +kernel) rfl
theorem cwX9_69 : Cond.constant RX9 69 (100000000) ∈ WA := wa_of 858 (by decide +kernel) rfl
theorem wcX11_chained : Cond.code yX11_chained cX11_chained 4 (some .int) ∈ WA := wa_of 1488 (by decide +kernel) rfl
theorem wiX11_chained : Cond.instanceMethod yX11_chained ∈ WA := wa_of 1486 (by decide +kernel) rfl
theorem wsX11_chained : Cond.selects yX11_chained.cls yX11_chained yX11_chained ∈ WA := wa_of 1487 (by decide +kernel) rfl
theorem wpX11_chained : yX11_chained.cls ≠ "java/lang/invoke/MethodHandle" ∧ yX11_chained.cls ≠ "java/lang/invoke/VarHandle" ∧ (parseMethodDescriptor yX11_chained.desc).map (fun d => d.parameters.length) = some 1 := by decide +kernel
theorem wnX11 : Cond.initialized RX11 ∈ WA := wa_of 103 (by decide +kernel) rfl
theorem cwL_103 : CWV RL 103 yX11_chained cX11_chained 4 (some .int) 1 := ⟨goodV (wa_of 1485 (by decide +kernel) rfl) wiX11_chained wsX11_chained wnX11 wcX11_chained, wpX11_chained⟩
theorem wcX11_liar : Cond.code yX11_liar cX11_liar 8 (some .int) ∈ WA := wa_of 1495 (by decide +kernel) rfl
theorem wiX11_liar : Cond.instanceMethod yX11_liar ∈ WA := wa_of 1493 (by decide +kernel) rfl
theorem wsX11_liar : Cond.selects yX11_liar.cls yX11_liar yX11_liar ∈ WA := wa_of 1494 (by decide +kernel) rfl
theorem wpX11_liar : yX11_liar.cls ≠ "java/lang/invoke/MethodHandle" ∧ yX11_liar.cls ≠ "java/lang/invoke/VarHandle" ∧ (parseMethodDescriptor yX11_liar.desc).map (fun d => d.parameters.length) = some 2 := by decide +kernel
theorem cwL_106 : CWV RL 106 yX11_liar cX11_liar 8 (some .int) 2 := ⟨goodV (wa_of 1492 (by decide +kernel) rfl) wiX11_liar wsX11_liar wnX11 wcX11_liar, wpX11_liar⟩
theorem wcX11_reach : Cond.code yX11_reach cX11_reach 5 (some .int) ∈ WA := wa_of 1502 (by decide +kernel) rfl
theorem wiX11_reach : Cond.instanceMethod yX11_reach ∈ WA := wa_of 1500 (by decide +kernel) rfl
theorem wsX11_reach : Cond.selects yX11_reach.cls yX11_reach yX11_reach ∈ WA := wa_of 1501 (by decide +kernel) rfl
theorem wpX11_reach : yX11_reach.cls ≠ "java/lang/invoke/MethodHandle" ∧ yX11_reach.cls ≠ "java/lang/invoke/VarHandle" ∧ (parseMethodDescriptor yX11_reach.desc).map (fun d => d.parameters.length) = some 1 := by decide +kernel
theorem cwL_109 : CWV RL 109 yX11_reach cX11_reach 5 (some .int) 1 := ⟨goodV (wa_of 1499 (by decide +kernel) rfl) wiX11_reach wsX11_reach wnX11 wcX11_reach, wpX11_reach⟩
theorem wcX11_season : Cond.code yX11_season cX11_season 5 (some .int) ∈ WA := wa_of 1509 (by decide +kernel) rfl
theorem wiX11_season : Cond.instanceMethod yX11_season ∈ WA := wa_of 1507 (by decide +kernel) rfl
theorem wsX11_season : Cond.selects yX11_season.cls yX11_season yX11_season ∈ WA := wa_of 1508 (by decide +kernel) rfl
theorem wpX11_season : yX11_season.cls ≠ "java/lang/invoke/MethodHandle" ∧ yX11_season.cls ≠ "java/lang/invoke/VarHandle" ∧ (parseMethodDescriptor yX11_season.desc).map (fun d => d.parameters.length) = some 4 := by decide +kernel
theorem cwL_112 : CWV RL 112 yX11_season cX11_season 5 (some .int) 4 := ⟨goodV (wa_of 1506 (by decide +kernel) rfl) wiX11_season wsX11_season wnX11 wcX11_season, wpX11_season⟩
theorem wcX11_span : Cond.code yX11_span cX11_span 11 (some .int) ∈ WA := wa_of 1533 (by decide +kernel) rfl
theorem wiX11_span : Cond.instanceMethod yX11_span ∈ WA := wa_of 1531 (by decide +kernel) rfl
theorem wsX11_span : Cond.selects yX11_span.cls yX11_span yX11_span ∈ WA := wa_of 1532 (by decide +kernel) rfl
theorem wpX11_span : yX11_span.cls ≠ "java/lang/invoke/MethodHandle" ∧ yX11_span.cls ≠ "java/lang/invoke/VarHandle" ∧ (parseMethodDescriptor yX11_span.desc).map (fun d => d.parameters.length) = some 6 := by decide +kernel
theorem cwL_115 : CWV RL 115 yX11_span cX11_span 11 (some .int) 6 := ⟨goodV (wa_of 1530 (by decide +kernel) rfl) wiX11_span wsX11_span wnX11 wcX11_span, wpX11_span⟩
theorem wcX11_law : Cond.code yX11_law cX11_law 3 (some .int) ∈ WA := wa_of 914 (by decide +kernel) rfl
theorem wiX11_law : Cond.instanceMethod yX11_law ∈ WA := wa_of 912 (by decide +kernel) rfl
theorem wsX11_law : Cond.selects yX11_law.cls yX11_law yX11_law ∈ WA := wa_of 913 (by decide +kernel) rfl
theorem wpX11_law : yX11_law.cls ≠ "java/lang/invoke/MethodHandle" ∧ yX11_law.cls ≠ "java/lang/invoke/VarHandle" ∧ (parseMethodDescriptor yX11_law.desc).map (fun d => d.parameters.length) = some 1 := by decide +kernel
theorem cwL_15 : CWV RL 15 yX11_law cX11_law 3 (some .int) 1 := ⟨goodV (wa_of 911 (by decide +kernel) rfl) wiX11_law wsX11_law wnX11 wcX11_law, wpX11_law⟩
theorem wcX11_work : Cond.code yX11_work cX11_work 2 (some .int) ∈ WA := wa_of 966 (by decide +kernel) rfl
theorem wiX11_work : Cond.instanceMethod yX11_work ∈ WA := wa_of 964 (by decide +kernel) rfl
theorem wsX11_work : Cond.selects yX11_work.cls yX11_work yX11_work ∈ WA := wa_of 965 (by decide +kernel) rfl
theorem wpX11_work : yX11_work.cls ≠ "java/lang/invoke/MethodHandle" ∧ yX11_work.cls ≠ "java/lang/invoke/VarHandle" ∧ (parseMethodDescriptor yX11_work.desc).map (fun d => d.parameters.length) = some 1 := by decide +kernel
theorem cwL_18 : CWV RL 18 yX11_work cX11_work 2 (some .int) 1 := ⟨goodV (wa_of 963 (by decide +kernel) rfl) wiX11_work wsX11_work wnX11 wcX11_work, wpX11_work⟩
theorem wcX11_chain : Cond.code yX11_chain cX11_chain 3 (some .int) ∈ WA := wa_of 1101 (by decide +kernel) rfl
theorem wiX11_chain : Cond.instanceMethod yX11_chain ∈ WA := wa_of 1099 (by decide +kernel) rfl
theorem wsX11_chain : Cond.selects yX11_chain.cls yX11_chain yX11_chain ∈ WA := wa_of 1100 (by decide +kernel) rfl
theorem wpX11_chain : yX11_chain.cls ≠ "java/lang/invoke/MethodHandle" ∧ yX11_chain.cls ≠ "java/lang/invoke/VarHandle" ∧ (parseMethodDescriptor yX11_chain.desc).map (fun d => d.parameters.length) = some 1 := by decide +kernel
theorem cwL_21 : CWV RL 21 yX11_chain cX11_chain 3 (some .int) 1 := ⟨goodV (wa_of 1098 (by decide +kernel) rfl) wiX11_chain wsX11_chain wnX11 wcX11_chain, wpX11_chain⟩
theorem wcX11_book : Cond.code yX11_book cX11_book 3 (some .int) ∈ WA := wa_of 1116 (by decide +kernel) rfl
theorem wiX11_book : Cond.instanceMethod yX11_book ∈ WA := wa_of 1114 (by decide +kernel) rfl
theorem wsX11_book : Cond.selects yX11_book.cls yX11_book yX11_book ∈ WA := wa_of 1115 (by decide +kernel) rfl
theorem wpX11_book : yX11_book.cls ≠ "java/lang/invoke/MethodHandle" ∧ yX11_book.cls ≠ "java/lang/invoke/VarHandle" ∧ (parseMethodDescriptor yX11_book.desc).map (fun d => d.parameters.length) = some 1 := by decide +kernel
theorem cwL_24 : CWV RL 24 yX11_book cX11_book 3 (some .int) 1 := ⟨goodV (wa_of 1113 (by decide +kernel) rfl) wiX11_book wsX11_book wnX11 wcX11_book, wpX11_book⟩
theorem wcX11_told : Cond.code yX11_told cX11_told 2 (some .int) ∈ WA := wa_of 1132 (by decide +kernel) rfl
theorem wiX11_told : Cond.instanceMethod yX11_told ∈ WA := wa_of 1130 (by decide +kernel) rfl
theorem wsX11_told : Cond.selects yX11_told.cls yX11_told yX11_told ∈ WA := wa_of 1131 (by decide +kernel) rfl
theorem wpX11_told : yX11_told.cls ≠ "java/lang/invoke/MethodHandle" ∧ yX11_told.cls ≠ "java/lang/invoke/VarHandle" ∧ (parseMethodDescriptor yX11_told.desc).map (fun d => d.parameters.length) = some 1 := by decide +kernel
theorem cwL_27 : CWV RL 27 yX11_told cX11_told 2 (some .int) 1 := ⟨goodV (wa_of 1129 (by decide +kernel) rfl) wiX11_told wsX11_told wnX11 wcX11_told, wpX11_told⟩
theorem wcX11_pen : Cond.code yX11_pen cX11_pen 4 (some .int) ∈ WA := wa_of 1152 (by decide +kernel) rfl
theorem wiX11_pen : Cond.instanceMethod yX11_pen ∈ WA := wa_of 1150 (by decide +kernel) rfl
theorem wsX11_pen : Cond.selects yX11_pen.cls yX11_pen yX11_pen ∈ WA := wa_of 1151 (by decide +kernel) rfl
theorem wpX11_pen : yX11_pen.cls ≠ "java/lang/invoke/MethodHandle" ∧ yX11_pen.cls ≠ "java/lang/invoke/VarHandle" ∧ (parseMethodDescriptor yX11_pen.desc).map (fun d => d.parameters.length) = some 2 := by decide +kernel
theorem cwL_30 : CWV RL 30 yX11_pen cX11_pen 4 (some .int) 2 := ⟨goodV (wa_of 1149 (by decide +kernel) rfl) wiX11_pen wsX11_pen wnX11 wcX11_pen, wpX11_pen⟩
theorem wcX11_wire : Cond.code yX11_wire cX11_wire 3 (some .int) ∈ WA := wa_of 1191 (by decide +kernel) rfl
theorem wiX11_wire : Cond.instanceMethod yX11_wire ∈ WA := wa_of 1189 (by decide +kernel) rfl
theorem wsX11_wire : Cond.selects yX11_wire.cls yX11_wire yX11_wire ∈ WA := wa_of 1190 (by decide +kernel) rfl
theorem wpX11_wire : yX11_wire.cls ≠ "java/lang/invoke/MethodHandle" ∧ yX11_wire.cls ≠ "java/lang/invoke/VarHandle" ∧ (parseMethodDescriptor yX11_wire.desc).map (fun d => d.parameters.length) = some 2 := by decide +kernel
theorem cwL_36 : CWV RL 36 yX11_wire cX11_wire 3 (some .int) 2 := ⟨goodV (wa_of 1188 (by decide +kernel) rfl) wiX11_wire wsX11_wire wnX11 wcX11_wire, wpX11_wire⟩
theorem wcX11_record : Cond.code yX11_record cX11_record 3 (some .int) ∈ WA := wa_of 1222 (by decide +kernel) rfl
theorem wiX11_record : Cond.instanceMethod yX11_record ∈ WA := wa_of 1220 (by decide +kernel) rfl
theorem wsX11_record : Cond.selects yX11_record.cls yX11_record yX11_record ∈ WA := wa_of 1221 (by decide +kernel) rfl
theorem wpX11_record : yX11_record.cls ≠ "java/lang/invoke/MethodHandle" ∧ yX11_record.cls ≠ "java/lang/invoke/VarHandle" ∧ (parseMethodDescriptor yX11_record.desc).map (fun d => d.parameters.length) = some 2 := by decide +kernel
theorem cwL_39 : CWV RL 39 yX11_record cX11_record 3 (some .int) 2 := ⟨goodV (wa_of 1219 (by decide +kernel) rfl) wiX11_record wsX11_record wnX11 wcX11_record, wpX11_record⟩
theorem wcX11_out : Cond.code yX11_out cX11_out 3 (some .int) ∈ WA := wa_of 1261 (by decide +kernel) rfl
theorem wiX11_out : Cond.instanceMethod yX11_out ∈ WA := wa_of 1259 (by decide +kernel) rfl
theorem wsX11_out : Cond.selects yX11_out.cls yX11_out yX11_out ∈ WA := wa_of 1260 (by decide +kernel) rfl
theorem wpX11_out : yX11_out.cls ≠ "java/lang/invoke/MethodHandle" ∧ yX11_out.cls ≠ "java/lang/invoke/VarHandle" ∧ (parseMethodDescriptor yX11_out.desc).map (fun d => d.parameters.length) = some 2 := by decide +kernel
theorem cwL_44 : CWV RL 44 yX11_out cX11_out 3 (some .int) 2 := ⟨goodV (wa_of 1258 (by decide +kernel) rfl) wiX11_out wsX11_out wnX11 wcX11_out, wpX11_out⟩
theorem wcX11_level : Cond.code yX11_level cX11_level 3 (some .int) ∈ WA := wa_of 1275 (by decide +kernel) rfl
theorem wiX11_level : Cond.instanceMethod yX11_level ∈ WA := wa_of 1273 (by decide +kernel) rfl
theorem wsX11_level : Cond.selects yX11_level.cls yX11_level yX11_level ∈ WA := wa_of 1274 (by decide +kernel) rfl
theorem wpX11_level : yX11_level.cls ≠ "java/lang/invoke/MethodHandle" ∧ yX11_level.cls ≠ "java/lang/invoke/VarHandle" ∧ (parseMethodDescriptor yX11_level.desc).map (fun d => d.parameters.length) = some 2 := by decide +kernel
theorem cwL_49 : CWV RL 49 yX11_level cX11_level 3 (some .int) 2 := ⟨goodV (wa_of 1272 (by decide +kernel) rfl) wiX11_level wsX11_level wnX11 wcX11_level, wpX11_level⟩
theorem wcX11_would : Cond.code yX11_would cX11_would 9 (some .int) ∈ WA := wa_of 1283 (by decide +kernel) rfl
theorem wiX11_would : Cond.instanceMethod yX11_would ∈ WA := wa_of 1281 (by decide +kernel) rfl
theorem wsX11_would : Cond.selects yX11_would.cls yX11_would yX11_would ∈ WA := wa_of 1282 (by decide +kernel) rfl
theorem wpX11_would : yX11_would.cls ≠ "java/lang/invoke/MethodHandle" ∧ yX11_would.cls ≠ "java/lang/invoke/VarHandle" ∧ (parseMethodDescriptor yX11_would.desc).map (fun d => d.parameters.length) = some 8 := by decide +kernel
theorem cwL_52 : CWV RL 52 yX11_would cX11_would 9 (some .int) 8 := ⟨goodV (wa_of 1280 (by decide +kernel) rfl) wiX11_would wsX11_would wnX11 wcX11_would, wpX11_would⟩
theorem wcX11_total : Cond.code yX11_total cX11_total 6 (some .int) ∈ WA := wa_of 1292 (by decide +kernel) rfl
theorem wiX11_total : Cond.instanceMethod yX11_total ∈ WA := wa_of 1290 (by decide +kernel) rfl
theorem wsX11_total : Cond.selects yX11_total.cls yX11_total yX11_total ∈ WA := wa_of 1291 (by decide +kernel) rfl
theorem wpX11_total : yX11_total.cls ≠ "java/lang/invoke/MethodHandle" ∧ yX11_total.cls ≠ "java/lang/invoke/VarHandle" ∧ (parseMethodDescriptor yX11_total.desc).map (fun d => d.parameters.length) = some 1 := by decide +kernel
theorem cwL_56 : CWV RL 56 yX11_total cX11_total 6 (some .int) 1 := ⟨goodV (wa_of 1289 (by decide +kernel) rfl) wiX11_total wsX11_total wnX11 wcX11_total, wpX11_total⟩
theorem wcX11_strange : Cond.code yX11_strange cX11_strange 3 (some .int) ∈ WA := wa_of 1299 (by decide +kernel) rfl
theorem wiX11_strange : Cond.instanceMethod yX11_strange ∈ WA := wa_of 1297 (by decide +kernel) rfl
theorem wsX11_strange : Cond.selects yX11_strange.cls yX11_strange yX11_strange ∈ WA := wa_of 1298 (by decide +kernel) rfl
theorem wpX11_strange : yX11_strange.cls ≠ "java/lang/invoke/MethodHandle" ∧ yX11_strange.cls ≠ "java/lang/invoke/VarHandle" ∧ (parseMethodDescriptor yX11_strange.desc).map (fun d => d.parameters.length) = some 2 := by decide +kernel
theorem cwL_59 : CWV RL 59 yX11_strange cX11_strange 3 (some .int) 2 := ⟨goodV (wa_of 1296 (by decide +kernel) rfl) wiX11_strange wsX11_strange wnX11 wcX11_strange, wpX11_strange⟩
theorem wcX11_extreme : Cond.code yX11_extreme cX11_extreme 3 (some .int) ∈ WA := wa_of 1310 (by decide +kernel) rfl
theorem wiX11_extreme : Cond.instanceMethod yX11_extreme ∈ WA := wa_of 1308 (by decide +kernel) rfl
theorem wsX11_extreme : Cond.selects yX11_extreme.cls yX11_extreme yX11_extreme ∈ WA := wa_of 1309 (by decide +kernel) rfl
theorem wpX11_extreme : yX11_extreme.cls ≠ "java/lang/invoke/MethodHandle" ∧ yX11_extreme.cls ≠ "java/lang/invoke/VarHandle" ∧ (parseMethodDescriptor yX11_extreme.desc).map (fun d => d.parameters.length) = some 2 := by decide +kernel
theorem cwL_62 : CWV RL 62 yX11_extreme cX11_extreme 3 (some .int) 2 := ⟨goodV (wa_of 1307 (by decide +kernel) rfl) wiX11_extreme wsX11_extreme wnX11 wcX11_extreme, wpX11_extreme⟩
theorem wcX11_through : Cond.code yX11_through cX11_through 2 (some .int) ∈ WA := wa_of 1325 (by decide +kernel) rfl
theorem wiX11_through : Cond.instanceMethod yX11_through ∈ WA := wa_of 1323 (by decide +kernel) rfl
theorem wsX11_through : Cond.selects yX11_through.cls yX11_through yX11_through ∈ WA := wa_of 1324 (by decide +kernel) rfl
theorem wpX11_through : yX11_through.cls ≠ "java/lang/invoke/MethodHandle" ∧ yX11_through.cls ≠ "java/lang/invoke/VarHandle" ∧ (parseMethodDescriptor yX11_through.desc).map (fun d => d.parameters.length) = some 1 := by decide +kernel
theorem cwL_65 : CWV RL 65 yX11_through cX11_through 2 (some .int) 1 := ⟨goodV (wa_of 1322 (by decide +kernel) rfl) wiX11_through wsX11_through wnX11 wcX11_through, wpX11_through⟩
theorem wcX11_kept : Cond.code yX11_kept cX11_kept 5 (some .int) ∈ WA := wa_of 1340 (by decide +kernel) rfl
theorem wiX11_kept : Cond.instanceMethod yX11_kept ∈ WA := wa_of 1338 (by decide +kernel) rfl
theorem wsX11_kept : Cond.selects yX11_kept.cls yX11_kept yX11_kept ∈ WA := wa_of 1339 (by decide +kernel) rfl
theorem wpX11_kept : yX11_kept.cls ≠ "java/lang/invoke/MethodHandle" ∧ yX11_kept.cls ≠ "java/lang/invoke/VarHandle" ∧ (parseMethodDescriptor yX11_kept.desc).map (fun d => d.parameters.length) = some 2 := by decide +kernel
theorem cwL_68 : CWV RL 68 yX11_kept cX11_kept 5 (some .int) 2 := ⟨goodV (wa_of 1337 (by decide +kernel) rfl) wiX11_kept wsX11_kept wnX11 wcX11_kept, wpX11_kept⟩
theorem wcX11_hut : Cond.code yX11_hut cX11_hut 3 (some .int) ∈ WA := wa_of 654 (by decide +kernel) rfl
theorem wiX11_hut : Cond.instanceMethod yX11_hut ∈ WA := wa_of 652 (by decide +kernel) rfl
theorem wsX11_hut : Cond.selects yX11_hut.cls yX11_hut yX11_hut ∈ WA := wa_of 653 (by decide +kernel) rfl
theorem wpX11_hut : yX11_hut.cls ≠ "java/lang/invoke/MethodHandle" ∧ yX11_hut.cls ≠ "java/lang/invoke/VarHandle" ∧ (parseMethodDescriptor yX11_hut.desc).map (fun d => d.parameters.length) = some 1 := by decide +kernel
theorem cwL_7 : CWV RL 7 yX11_hut cX11_hut 3 (some .int) 1 := ⟨goodV (wa_of 651 (by decide +kernel) rfl) wiX11_hut wsX11_hut wnX11 wcX11_hut, wpX11_hut⟩
theorem wcX11_gives : Cond.code yX11_gives cX11_gives 5 (some .int) ∈ WA := wa_of 1347 (by decide +kernel) rfl
theorem wiX11_gives : Cond.instanceMethod yX11_gives ∈ WA := wa_of 1345 (by decide +kernel) rfl
theorem wsX11_gives : Cond.selects yX11_gives.cls yX11_gives yX11_gives ∈ WA := wa_of 1346 (by decide +kernel) rfl
theorem wpX11_gives : yX11_gives.cls ≠ "java/lang/invoke/MethodHandle" ∧ yX11_gives.cls ≠ "java/lang/invoke/VarHandle" ∧ (parseMethodDescriptor yX11_gives.desc).map (fun d => d.parameters.length) = some 3 := by decide +kernel
theorem cwL_71 : CWV RL 71 yX11_gives cX11_gives 5 (some .int) 3 := ⟨goodV (wa_of 1344 (by decide +kernel) rfl) wiX11_gives wsX11_gives wnX11 wcX11_gives, wpX11_gives⟩
theorem wcX11_worst : Cond.code yX11_worst cX11_worst 8 (some .int) ∈ WA := wa_of 1354 (by decide +kernel) rfl
theorem wiX11_worst : Cond.instanceMethod yX11_worst ∈ WA := wa_of 1352 (by decide +kernel) rfl
theorem wsX11_worst : Cond.selects yX11_worst.cls yX11_worst yX11_worst ∈ WA := wa_of 1353 (by decide +kernel) rfl
theorem wpX11_worst : yX11_worst.cls ≠ "java/lang/invoke/MethodHandle" ∧ yX11_worst.cls ≠ "java/lang/invoke/VarHandle" ∧ (parseMethodDescriptor yX11_worst.desc).map (fun d => d.parameters.length) = some 3 := by decide +kernel
theorem cwL_75 : CWV RL 75 yX11_worst cX11_worst 8 (some .int) 3 := ⟨goodV (wa_of 1351 (by decide +kernel) rfl) wiX11_worst wsX11_worst wnX11 wcX11_worst, wpX11_worst⟩
theorem wcX11_best : Cond.code yX11_best cX11_best 5 (some .int) ∈ WA := wa_of 1362 (by decide +kernel) rfl
theorem wiX11_best : Cond.instanceMethod yX11_best ∈ WA := wa_of 1360 (by decide +kernel) rfl
theorem wsX11_best : Cond.selects yX11_best.cls yX11_best yX11_best ∈ WA := wa_of 1361 (by decide +kernel) rfl
theorem wpX11_best : yX11_best.cls ≠ "java/lang/invoke/MethodHandle" ∧ yX11_best.cls ≠ "java/lang/invoke/VarHandle" ∧ (parseMethodDescriptor yX11_best.desc).map (fun d => d.parameters.length) = some 4 := by decide +kernel
theorem cwL_78 : CWV RL 78 yX11_best cX11_best 5 (some .int) 4 := ⟨goodV (wa_of 1359 (by decide +kernel) rfl) wiX11_best wsX11_best wnX11 wcX11_best, wpX11_best⟩
theorem wcX11_hop : Cond.code yX11_hop cX11_hop 5 (some .int) ∈ WA := wa_of 1389 (by decide +kernel) rfl
theorem wiX11_hop : Cond.instanceMethod yX11_hop ∈ WA := wa_of 1387 (by decide +kernel) rfl
theorem wsX11_hop : Cond.selects yX11_hop.cls yX11_hop yX11_hop ∈ WA := wa_of 1388 (by decide +kernel) rfl
theorem wpX11_hop : yX11_hop.cls ≠ "java/lang/invoke/MethodHandle" ∧ yX11_hop.cls ≠ "java/lang/invoke/VarHandle" ∧ (parseMethodDescriptor yX11_hop.desc).map (fun d => d.parameters.length) = some 4 := by decide +kernel
theorem cwL_82 : CWV RL 82 yX11_hop cX11_hop 5 (some .int) 4 := ⟨goodV (wa_of 1386 (by decide +kernel) rfl) wiX11_hop wsX11_hop wnX11 wcX11_hop, wpX11_hop⟩
theorem wcX11_tuning : Cond.code yX11_tuning cX11_tuning 7 (some .int) ∈ WA := wa_of 1396 (by decide +kernel) rfl
theorem wiX11_tuning : Cond.instanceMethod yX11_tuning ∈ WA := wa_of 1394 (by decide +kernel) rfl
theorem wsX11_tuning : Cond.selects yX11_tuning.cls yX11_tuning yX11_tuning ∈ WA := wa_of 1395 (by decide +kernel) rfl
theorem wpX11_tuning : yX11_tuning.cls ≠ "java/lang/invoke/MethodHandle" ∧ yX11_tuning.cls ≠ "java/lang/invoke/VarHandle" ∧ (parseMethodDescriptor yX11_tuning.desc).map (fun d => d.parameters.length) = some 3 := by decide +kernel
theorem cwL_85 : CWV RL 85 yX11_tuning cX11_tuning 7 (some .int) 3 := ⟨goodV (wa_of 1393 (by decide +kernel) rfl) wiX11_tuning wsX11_tuning wnX11 wcX11_tuning, wpX11_tuning⟩
theorem wcX11_ring : Cond.code yX11_ring cX11_ring 5 (some .int) ∈ WA := wa_of 1404 (by decide +kernel) rfl
theorem wiX11_ring : Cond.instanceMethod yX11_ring ∈ WA := wa_of 1402 (by decide +kernel) rfl
theorem wsX11_ring : Cond.selects yX11_ring.cls yX11_ring yX11_ring ∈ WA := wa_of 1403 (by decide +kernel) rfl
theorem wpX11_ring : yX11_ring.cls ≠ "java/lang/invoke/MethodHandle" ∧ yX11_ring.cls ≠ "java/lang/invoke/VarHandle" ∧ (parseMethodDescriptor yX11_ring.desc).map (fun d => d.parameters.length) = some 3 := by decide +kernel
theorem cwL_88 : CWV RL 88 yX11_ring cX11_ring 5 (some .int) 3 := ⟨goodV (wa_of 1401 (by decide +kernel) rfl) wiX11_ring wsX11_ring wnX11 wcX11_ring, wpX11_ring⟩
theorem wcX11_look : Cond.code yX11_look cX11_look 7 (some .int) ∈ WA := wa_of 1423 (by decide +kernel) rfl
theorem wiX11_look : Cond.instanceMethod yX11_look ∈ WA := wa_of 1421 (by decide +kernel) rfl
theorem wsX11_look : Cond.selects yX11_look.cls yX11_look yX11_look ∈ WA := wa_of 1422 (by decide +kernel) rfl
theorem wpX11_look : yX11_look.cls ≠ "java/lang/invoke/MethodHandle" ∧ yX11_look.cls ≠ "java/lang/invoke/VarHandle" ∧ (parseMethodDescriptor yX11_look.desc).map (fun d => d.parameters.length) = some 1 := by decide +kernel
theorem cwL_91 : CWV RL 91 yX11_look cX11_look 7 (some .int) 1 := ⟨goodV (wa_of 1420 (by decide +kernel) rfl) wiX11_look wsX11_look wnX11 wcX11_look, wpX11_look⟩
theorem wcX11_alike : Cond.code yX11_alike cX11_alike 3 (some .boolean) ∈ WA := wa_of 1476 (by decide +kernel) rfl
theorem wiX11_alike : Cond.instanceMethod yX11_alike ∈ WA := wa_of 1474 (by decide +kernel) rfl
theorem wsX11_alike : Cond.selects yX11_alike.cls yX11_alike yX11_alike ∈ WA := wa_of 1475 (by decide +kernel) rfl
theorem wpX11_alike : yX11_alike.cls ≠ "java/lang/invoke/MethodHandle" ∧ yX11_alike.cls ≠ "java/lang/invoke/VarHandle" ∧ (parseMethodDescriptor yX11_alike.desc).map (fun d => d.parameters.length) = some 2 := by decide +kernel
theorem cwL_99 : CWV RL 99 yX11_alike cX11_alike 3 (some .boolean) 2 := ⟨goodV (wa_of 1473 (by decide +kernel) rfl) wiX11_alike wsX11_alike wnX11 wcX11_alike, wpX11_alike⟩
theorem wcX9_more : Cond.code yX9_more cX9_more 1 (some .boolean) ∈ WA := wa_of 764 (by decide +kernel) rfl
theorem wiX9_more : Cond.instanceMethod yX9_more ∈ WA := wa_of 762 (by decide +kernel) rfl
theorem wsX9_more : Cond.selects yX9_more.cls yX9_more yX9_more ∈ WA := wa_of 763 (by decide +kernel) rfl
theorem wpX9_more : yX9_more.cls ≠ "java/lang/invoke/MethodHandle" ∧ yX9_more.cls ≠ "java/lang/invoke/VarHandle" ∧ (parseMethodDescriptor yX9_more.desc).map (fun d => d.parameters.length) = some 0 := by decide +kernel
theorem wnX9 : Cond.initialized RX9 ∈ WA := wa_of 104 (by decide +kernel) rfl
theorem cwX0_22 : CWV RX0 22 yX9_more cX9_more 1 (some .boolean) 0 := ⟨goodV (wa_of 1121 (by decide +kernel) rfl) wiX9_more wsX9_more wnX9 wcX9_more, wpX9_more⟩
theorem wcX9_number : Cond.code yX9_number cX9_number 3 (some .int) ∈ WA := wa_of 850 (by decide +kernel) rfl
theorem wiX9_number : Cond.instanceMethod yX9_number ∈ WA := wa_of 848 (by decide +kernel) rfl
theorem wsX9_number : Cond.selects yX9_number.cls yX9_number yX9_number ∈ WA := wa_of 849 (by decide +kernel) rfl
theorem wpX9_number : yX9_number.cls ≠ "java/lang/invoke/MethodHandle" ∧ yX9_number.cls ≠ "java/lang/invoke/VarHandle" ∧ (parseMethodDescriptor yX9_number.desc).map (fun d => d.parameters.length) = some 1 := by decide +kernel
theorem cwX0_28 : CWV RX0 28 yX9_number cX9_number 3 (some .int) 1 := ⟨goodV (wa_of 1122 (by decide +kernel) rfl) wiX9_number wsX9_number wnX9 wcX9_number, wpX9_number⟩
theorem wcX9_fail : Cond.code yX9_fail cX9_fail 3 none ∈ WA := wa_of 782 (by decide +kernel) rfl
theorem wiX9_fail : Cond.instanceMethod yX9_fail ∈ WA := wa_of 780 (by decide +kernel) rfl
theorem wsX9_fail : Cond.selects yX9_fail.cls yX9_fail yX9_fail ∈ WA := wa_of 781 (by decide +kernel) rfl
theorem wpX9_fail : yX9_fail.cls ≠ "java/lang/invoke/MethodHandle" ∧ yX9_fail.cls ≠ "java/lang/invoke/VarHandle" ∧ (parseMethodDescriptor yX9_fail.desc).map (fun d => d.parameters.length) = some 2 := by decide +kernel
theorem cwX0_35 : CWV RX0 35 yX9_fail cX9_fail 3 none 2 := ⟨goodV (wa_of 1123 (by decide +kernel) rfl) wiX9_fail wsX9_fail wnX9 wcX9_fail, wpX9_fail⟩
theorem wcX9_need : Cond.code yX9_need cX9_need 2 none ∈ WA := wa_of 867 (by decide +kernel) rfl
theorem wiX9_need : Cond.instanceMethod yX9_need ∈ WA := wa_of 865 (by decide +kernel) rfl
theorem wsX9_need : Cond.selects yX9_need.cls yX9_need yX9_need ∈ WA := wa_of 866 (by decide +kernel) rfl
theorem wpX9_need : yX9_need.cls ≠ "java/lang/invoke/MethodHandle" ∧ yX9_need.cls ≠ "java/lang/invoke/VarHandle" ∧ (parseMethodDescriptor yX9_need.desc).map (fun d => d.parameters.length) = some 1 := by decide +kernel
theorem cwX0_40 : CWV RX0 40 yX9_need cX9_need 2 none 1 := ⟨goodV (wa_of 1125 (by decide +kernel) rfl) wiX9_need wsX9_need wnX9 wcX9_need, wpX9_need⟩
theorem wcX10_run : Cond.code yX10_run cX10_run 9 none ∈ WA := wa_of 1010 (by decide +kernel) rfl
theorem wtX10_run : Cond.static yX10_run ∈ WA := wa_of 1009 (by decide +kernel) rfl
theorem wpX10_run : yX10_run.cls ≠ "java/lang/invoke/MethodHandle" ∧ yX10_run.cls ≠ "java/lang/invoke/VarHandle" ∧ (parseMethodDescriptor yX10_run.desc).map (fun d => d.parameters.length) = some 7 := by decide +kernel
theorem wnX10 : Cond.initialized RX10 ∈ WA := wa_of 105 (by decide +kernel) rfl
theorem cwX10_104 : CWS RX10 104 yX10_run cX10_run 9 none 7 := ⟨goodS (wa_of 1011 (by decide +kernel) rfl) wtX10_run wnX10 wcX10_run, wpX10_run⟩
theorem wcX10_isDone : Cond.code yX10_isDone cX10_isDone 6 (some .boolean) ∈ WA := wa_of 1015 (by decide +kernel) rfl
theorem wiX10_isDone : Cond.instanceMethod yX10_isDone ∈ WA := wa_of 1014 (by decide +kernel) rfl
theorem wsX10_isDone : Cond.selects yX10_isDone.cls yX10_isDone yX10_isDone ∈ WA := wa_of 27 (by decide +kernel) rfl
theorem wpX10_isDone : yX10_isDone.cls ≠ "java/lang/invoke/MethodHandle" ∧ yX10_isDone.cls ≠ "java/lang/invoke/VarHandle" ∧ (parseMethodDescriptor yX10_isDone.desc).map (fun d => d.parameters.length) = some 4 := by decide +kernel
theorem cwX10_108 : CWV RX10 108 yX10_isDone cX10_isDone 6 (some .boolean) 4 := ⟨goodV (wa_of 1012 (by decide +kernel) rfl) wiX10_isDone wsX10_isDone wnX10 wcX10_isDone, wpX10_isDone⟩
theorem wcX8_write : Cond.code yX8_write cX8_write 4 (some .boolean) ∈ WA := wa_of 1019 (by decide +kernel) rfl
theorem wiX8_write : Cond.instanceMethod yX8_write ∈ WA := wa_of 1017 (by decide +kernel) rfl
theorem wsX8_write : Cond.selects yX8_write.cls yX8_write yX8_write ∈ WA := wa_of 1018 (by decide +kernel) rfl
theorem wpX8_write : yX8_write.cls ≠ "java/lang/invoke/MethodHandle" ∧ yX8_write.cls ≠ "java/lang/invoke/VarHandle" ∧ (parseMethodDescriptor yX8_write.desc).map (fun d => d.parameters.length) = some 3 := by decide +kernel
theorem wnX8 : Cond.initialized RX8 ∈ WA := wa_of 107 (by decide +kernel) rfl
theorem cwX10_118 : CWV RX10 118 yX8_write cX8_write 4 (some .boolean) 3 := ⟨goodV (wa_of 1016 (by decide +kernel) rfl) wiX8_write wsX8_write wnX8 wcX8_write, wpX8_write⟩
theorem wcX8_hear : Cond.code yX8_hear cX8_hear 5 (some .boolean) ∈ WA := wa_of 1055 (by decide +kernel) rfl
theorem wiX8_hear : Cond.instanceMethod yX8_hear ∈ WA := wa_of 1053 (by decide +kernel) rfl
theorem wsX8_hear : Cond.selects yX8_hear.cls yX8_hear yX8_hear ∈ WA := wa_of 1054 (by decide +kernel) rfl
theorem wpX8_hear : yX8_hear.cls ≠ "java/lang/invoke/MethodHandle" ∧ yX8_hear.cls ≠ "java/lang/invoke/VarHandle" ∧ (parseMethodDescriptor yX8_hear.desc).map (fun d => d.parameters.length) = some 3 := by decide +kernel
theorem cwX10_130 : CWV RX10 130 yX8_hear cX8_hear 5 (some .boolean) 3 := ⟨goodV (wa_of 1052 (by decide +kernel) rfl) wiX8_hear wsX8_hear wnX8 wcX8_hear, wpX8_hear⟩
theorem wcX5_wipe : Cond.code yX5_wipe cX5_wipe 1 (some .boolean) ∈ WA := wa_of 1064 (by decide +kernel) rfl
theorem wiX5_wipe : Cond.instanceMethod yX5_wipe ∈ WA := wa_of 1062 (by decide +kernel) rfl
theorem wsX5_wipe : Cond.selects yX5_wipe.cls yX5_wipe yX5_wipe ∈ WA := wa_of 1063 (by decide +kernel) rfl
theorem wpX5_wipe : yX5_wipe.cls ≠ "java/lang/invoke/MethodHandle" ∧ yX5_wipe.cls ≠ "java/lang/invoke/VarHandle" ∧ (parseMethodDescriptor yX5_wipe.desc).map (fun d => d.parameters.length) = some 0 := by decide +kernel
theorem wnX5 : Cond.initialized RX5 ∈ WA := wa_of 108 (by decide +kernel) rfl
theorem cwX10_136 : CWV RX10 136 yX5_wipe cX5_wipe 1 (some .boolean) 0 := ⟨goodV (wa_of 1061 (by decide +kernel) rfl) wiX5_wipe wsX5_wipe wnX5 wcX5_wipe, wpX5_wipe⟩
theorem wcX5_tear : Cond.code yX5_tear cX5_tear 1 (some .boolean) ∈ WA := wa_of 1068 (by decide +kernel) rfl
theorem wiX5_tear : Cond.instanceMethod yX5_tear ∈ WA := wa_of 1066 (by decide +kernel) rfl
theorem wsX5_tear : Cond.selects yX5_tear.cls yX5_tear yX5_tear ∈ WA := wa_of 1067 (by decide +kernel) rfl
theorem wpX5_tear : yX5_tear.cls ≠ "java/lang/invoke/MethodHandle" ∧ yX5_tear.cls ≠ "java/lang/invoke/VarHandle" ∧ (parseMethodDescriptor yX5_tear.desc).map (fun d => d.parameters.length) = some 0 := by decide +kernel
theorem cwX10_141 : CWV RX10 141 yX5_tear cX5_tear 1 (some .boolean) 0 := ⟨goodV (wa_of 1065 (by decide +kernel) rfl) wiX5_tear wsX5_tear wnX5 wcX5_tear, wpX5_tear⟩
theorem wcX5_lay : Cond.code yX5_lay cX5_lay 2 (some .boolean) ∈ WA := wa_of 1072 (by decide +kernel) rfl
theorem wiX5_lay : Cond.instanceMethod yX5_lay ∈ WA := wa_of 1070 (by decide +kernel) rfl
theorem wsX5_lay : Cond.selects yX5_lay.cls yX5_lay yX5_lay ∈ WA := wa_of 1071 (by decide +kernel) rfl
theorem wpX5_lay : yX5_lay.cls ≠ "java/lang/invoke/MethodHandle" ∧ yX5_lay.cls ≠ "java/lang/invoke/VarHandle" ∧ (parseMethodDescriptor yX5_lay.desc).map (fun d => d.parameters.length) = some 1 := by decide +kernel
theorem cwX10_144 : CWV RX10 144 yX5_lay cX5_lay 2 (some .boolean) 1 := ⟨goodV (wa_of 1069 (by decide +kernel) rfl) wiX5_lay wsX5_lay wnX5 wcX5_lay, wpX5_lay⟩
theorem wcX5_takeCopy : Cond.code yX5_takeCopy cX5_takeCopy 3 (some .boolean) ∈ WA := wa_of 1076 (by decide +kernel) rfl
theorem wiX5_takeCopy : Cond.instanceMethod yX5_takeCopy ∈ WA := wa_of 1074 (by decide +kernel) rfl
theorem wsX5_takeCopy : Cond.selects yX5_takeCopy.cls yX5_takeCopy yX5_takeCopy ∈ WA := wa_of 1075 (by decide +kernel) rfl
theorem wpX5_takeCopy : yX5_takeCopy.cls ≠ "java/lang/invoke/MethodHandle" ∧ yX5_takeCopy.cls ≠ "java/lang/invoke/VarHandle" ∧ (parseMethodDescriptor yX5_takeCopy.desc).map (fun d => d.parameters.length) = some 2 := by decide +kernel
theorem cwX10_148 : CWV RX10 148 yX5_takeCopy cX5_takeCopy 3 (some .boolean) 2 := ⟨goodV (wa_of 1073 (by decide +kernel) rfl) wiX5_takeCopy wsX5_takeCopy wnX5 wcX5_takeCopy, wpX5_takeCopy⟩
theorem wcX5_tune : Cond.code yX5_tune cX5_tune 3 (some .boolean) ∈ WA := wa_of 1082 (by decide +kernel) rfl
theorem wiX5_tune : Cond.instanceMethod yX5_tune ∈ WA := wa_of 1080 (by decide +kernel) rfl
theorem wsX5_tune : Cond.selects yX5_tune.cls yX5_tune yX5_tune ∈ WA := wa_of 1081 (by decide +kernel) rfl
theorem wpX5_tune : yX5_tune.cls ≠ "java/lang/invoke/MethodHandle" ∧ yX5_tune.cls ≠ "java/lang/invoke/VarHandle" ∧ (parseMethodDescriptor yX5_tune.desc).map (fun d => d.parameters.length) = some 2 := by decide +kernel
theorem cwX10_152 : CWV RX10 152 yX5_tune cX5_tune 3 (some .boolean) 2 := ⟨goodV (wa_of 1079 (by decide +kernel) rfl) wiX5_tune wsX5_tune wnX5 wcX5_tune, wpX5_tune⟩
theorem wcX10_isDayDone : Cond.code yX10_isDayDone cX10_isDayDone 1 (some .boolean) ∈ WA := wa_of 1085 (by decide +kernel) rfl
theorem wtX10_isDayDone : Cond.static yX10_isDayDone ∈ WA := wa_of 1084 (by decide +kernel) rfl
theorem wpX10_isDayDone : yX10_isDayDone.cls ≠ "java/lang/invoke/MethodHandle" ∧ yX10_isDayDone.cls ≠ "java/lang/invoke/VarHandle" ∧ (parseMethodDescriptor yX10_isDayDone.desc).map (fun d => d.parameters.length) = some 1 := by decide +kernel
theorem cwX10_156 : CWS RX10 156 yX10_isDayDone cX10_isDayDone 1 (some .boolean) 1 := ⟨goodS (wa_of 1083 (by decide +kernel) rfl) wtX10_isDayDone wnX10 wcX10_isDayDone, wpX10_isDayDone⟩
theorem wcX8_endDay : Cond.code yX8_endDay cX8_endDay 2 none ∈ WA := wa_of 1089 (by decide +kernel) rfl
theorem wiX8_endDay : Cond.instanceMethod yX8_endDay ∈ WA := wa_of 1087 (by decide +kernel) rfl
theorem wsX8_endDay : Cond.selects yX8_endDay.cls yX8_endDay yX8_endDay ∈ WA := wa_of 1088 (by decide +kernel) rfl
theorem wpX8_endDay : yX8_endDay.cls ≠ "java/lang/invoke/MethodHandle" ∧ yX8_endDay.cls ≠ "java/lang/invoke/VarHandle" ∧ (parseMethodDescriptor yX8_endDay.desc).map (fun d => d.parameters.length) = some 0 := by decide +kernel
theorem cwX10_163 : CWV RX10 163 yX8_endDay cX8_endDay 2 none 0 := ⟨goodV (wa_of 1086 (by decide +kernel) rfl) wiX8_endDay wsX8_endDay wnX8 wcX8_endDay, wpX8_endDay⟩
theorem wcX10_parseSteps : Cond.code yX10_parseSteps cX10_parseSteps 5 none ∈ WA := wa_of 974 (by decide +kernel) rfl
theorem wiX10_parseSteps : Cond.instanceMethod yX10_parseSteps ∈ WA := wa_of 973 (by decide +kernel) rfl
theorem wsX10_parseSteps : Cond.selects yX10_parseSteps.cls yX10_parseSteps yX10_parseSteps ∈ WA := wa_of 25 (by decide +kernel) rfl
theorem wpX10_parseSteps : yX10_parseSteps.cls ≠ "java/lang/invoke/MethodHandle" ∧ yX10_parseSteps.cls ≠ "java/lang/invoke/VarHandle" ∧ (parseMethodDescriptor yX10_parseSteps.desc).map (fun d => d.parameters.length) = some 3 := by decide +kernel
theorem cwX10_31 : CWV RX10 31 yX10_parseSteps cX10_parseSteps 5 none 3 := ⟨goodV (wa_of 971 (by decide +kernel) rfl) wiX10_parseSteps wsX10_parseSteps wnX10 wcX10_parseSteps, wpX10_parseSteps⟩
theorem cwX10_35 : CWV RX10 35 yX9_more cX9_more 1 (some .boolean) 0 := ⟨goodV (wa_of 975 (by decide +kernel) rfl) wiX9_more wsX9_more wnX9 wcX9_more, wpX9_more⟩
theorem wcX9_comes : Cond.code yX9_comes cX9_comes 2 (some .boolean) ∈ WA := wa_of 936 (by decide +kernel) rfl
theorem wiX9_comes : Cond.instanceMethod yX9_comes ∈ WA := wa_of 934 (by decide +kernel) rfl
theorem wsX9_comes : Cond.selects yX9_comes.cls yX9_comes yX9_comes ∈ WA := wa_of 935 (by decide +kernel) rfl
theorem wpX9_comes : yX9_comes.cls ≠ "java/lang/invoke/MethodHandle" ∧ yX9_comes.cls ≠ "java/lang/invoke/VarHandle" ∧ (parseMethodDescriptor yX9_comes.desc).map (fun d => d.parameters.length) = some 1 := by decide +kernel
theorem cwX10_41 : CWV RX10 41 yX9_comes cX9_comes 2 (some .boolean) 1 := ⟨goodV (wa_of 976 (by decide +kernel) rfl) wiX9_comes wsX9_comes wnX9 wcX9_comes, wpX9_comes⟩
theorem wcX10_parseStep : Cond.code yX10_parseStep cX10_parseStep 9 none ∈ WA := wa_of 980 (by decide +kernel) rfl
theorem wiX10_parseStep : Cond.instanceMethod yX10_parseStep ∈ WA := wa_of 979 (by decide +kernel) rfl
theorem wsX10_parseStep : Cond.selects yX10_parseStep.cls yX10_parseStep yX10_parseStep ∈ WA := wa_of 26 (by decide +kernel) rfl
theorem wpX10_parseStep : yX10_parseStep.cls ≠ "java/lang/invoke/MethodHandle" ∧ yX10_parseStep.cls ≠ "java/lang/invoke/VarHandle" ∧ (parseMethodDescriptor yX10_parseStep.desc).map (fun d => d.parameters.length) = some 3 := by decide +kernel
theorem cwX10_45 : CWV RX10 45 yX10_parseStep cX10_parseStep 9 none 3 := ⟨goodV (wa_of 977 (by decide +kernel) rfl) wiX10_parseStep wsX10_parseStep wnX10 wcX10_parseStep, wpX10_parseStep⟩
theorem wcX9_word : Cond.code yX9_word cX9_word 5 (some .int) ∈ WA := wa_of 777 (by decide +kernel) rfl
theorem wiX9_word : Cond.instanceMethod yX9_word ∈ WA := wa_of 775 (by decide +kernel) rfl
theorem wsX9_word : Cond.selects yX9_word.cls yX9_word yX9_word ∈ WA := wa_of 776 (by decide +kernel) rfl
theorem wpX9_word : yX9_word.cls ≠ "java/lang/invoke/MethodHandle" ∧ yX9_word.cls ≠ "java/lang/invoke/VarHandle" ∧ (parseMethodDescriptor yX9_word.desc).map (fun d => d.parameters.length) = some 1 := by decide +kernel
theorem cwX10_50 : CWV RX10 50 yX9_word cX9_word 5 (some .int) 1 := ⟨goodV (wa_of 982 (by decide +kernel) rfl) wiX9_word wsX9_word wnX9 wcX9_word, wpX9_word⟩
theorem cwX10_57 : CWV RX10 57 yX9_fail cX9_fail 3 none 2 := ⟨goodV (wa_of 983 (by decide +kernel) rfl) wiX9_fail wsX9_fail wnX9 wcX9_fail, wpX9_fail⟩
theorem wcX10_firstMost : Cond.code yX10_firstMost cX10_firstMost 2 (some .int) ∈ WA := wa_of 986 (by decide +kernel) rfl
theorem wtX10_firstMost : Cond.static yX10_firstMost ∈ WA := wa_of 985 (by decide +kernel) rfl
theorem wpX10_firstMost : yX10_firstMost.cls ≠ "java/lang/invoke/MethodHandle" ∧ yX10_firstMost.cls ≠ "java/lang/invoke/VarHandle" ∧ (parseMethodDescriptor yX10_firstMost.desc).map (fun d => d.parameters.length) = some 2 := by decide +kernel
theorem cwX10_61 : CWS RX10 61 yX10_firstMost cX10_firstMost 2 (some .int) 2 := ⟨goodS (wa_of 984 (by decide +kernel) rfl) wtX10_firstMost wnX10 wcX10_firstMost, wpX10_firstMost⟩
theorem wcX10_operand : Cond.code yX10_operand cX10_operand 2 (some .int) ∈ WA := wa_of 989 (by decide +kernel) rfl
theorem wtX10_operand : Cond.static yX10_operand ∈ WA := wa_of 988 (by decide +kernel) rfl
theorem wpX10_operand : yX10_operand.cls ≠ "java/lang/invoke/MethodHandle" ∧ yX10_operand.cls ≠ "java/lang/invoke/VarHandle" ∧ (parseMethodDescriptor yX10_operand.desc).map (fun d => d.parameters.length) = some 2 := by decide +kernel
theorem cwX10_65 : CWS RX10 65 yX10_operand cX10_operand 2 (some .int) 2 := ⟨goodS (wa_of 987 (by decide +kernel) rfl) wtX10_operand wnX10 wcX10_operand, wpX10_operand⟩
theorem wcX10_secondMost : Cond.code yX10_secondMost cX10_secondMost 2 (some .int) ∈ WA := wa_of 993 (by decide +kernel) rfl
theorem wtX10_secondMost : Cond.static yX10_secondMost ∈ WA := wa_of 992 (by decide +kernel) rfl
theorem wpX10_secondMost : yX10_secondMost.cls ≠ "java/lang/invoke/MethodHandle" ∧ yX10_secondMost.cls ≠ "java/lang/invoke/VarHandle" ∧ (parseMethodDescriptor yX10_secondMost.desc).map (fun d => d.parameters.length) = some 2 := by decide +kernel
theorem cwX10_69 : CWS RX10 69 yX10_secondMost cX10_secondMost 2 (some .int) 2 := ⟨goodS (wa_of 991 (by decide +kernel) rfl) wtX10_secondMost wnX10 wcX10_secondMost, wpX10_secondMost⟩
theorem wcX10_thirdMost : Cond.code yX10_thirdMost cX10_thirdMost 1 (some .int) ∈ WA := wa_of 997 (by decide +kernel) rfl
theorem wtX10_thirdMost : Cond.static yX10_thirdMost ∈ WA := wa_of 996 (by decide +kernel) rfl
theorem wpX10_thirdMost : yX10_thirdMost.cls ≠ "java/lang/invoke/MethodHandle" ∧ yX10_thirdMost.cls ≠ "java/lang/invoke/VarHandle" ∧ (parseMethodDescriptor yX10_thirdMost.desc).map (fun d => d.parameters.length) = some 1 := by decide +kernel
theorem cwX10_72 : CWS RX10 72 yX10_thirdMost cX10_thirdMost 1 (some .int) 1 := ⟨goodS (wa_of 995 (by decide +kernel) rfl) wtX10_thirdMost wnX10 wcX10_thirdMost, wpX10_thirdMost⟩
theorem wcX9_failed : Cond.code yX9_failed cX9_failed 1 (some .boolean) ∈ WA := wa_of 871 (by decide +kernel) rfl
theorem wiX9_failed : Cond.instanceMethod yX9_failed ∈ WA := wa_of 869 (by decide +kernel) rfl
theorem wsX9_failed : Cond.selects yX9_failed.cls yX9_failed yX9_failed ∈ WA := wa_of 870 (by decide +kernel) rfl
theorem wpX9_failed : yX9_failed.cls ≠ "java/lang/invoke/MethodHandle" ∧ yX9_failed.cls ≠ "java/lang/invoke/VarHandle" ∧ (parseMethodDescriptor yX9_failed.desc).map (fun d => d.parameters.length) = some 0 := by decide +kernel
theorem cwX10_76 : CWV RX10 76 yX9_failed cX9_failed 1 (some .boolean) 0 := ⟨goodV (wa_of 998 (by decide +kernel) rfl) wiX9_failed wsX9_failed wnX9 wcX9_failed, wpX9_failed⟩
theorem cwX10_79 : CWV RX10 79 yX9_need cX9_need 2 none 1 := ⟨goodV (wa_of 999 (by decide +kernel) rfl) wiX9_need wsX9_need wnX9 wcX9_need, wpX9_need⟩
theorem cwX10_83 : CWV RX10 83 yX9_number cX9_number 3 (some .int) 1 := ⟨goodV (wa_of 990 (by decide +kernel) rfl) wiX9_number wsX9_number wnX9 wcX9_number, wpX9_number⟩
theorem wcX9_put : Cond.code yX9_put cX9_put 3 none ∈ WA := wa_of 536 (by decide +kernel) rfl
theorem wiX9_put : Cond.instanceMethod yX9_put ∈ WA := wa_of 534 (by decide +kernel) rfl
theorem wsX9_put : Cond.selects yX9_put.cls yX9_put yX9_put ∈ WA := wa_of 535 (by decide +kernel) rfl
theorem wpX9_put : yX9_put.cls ≠ "java/lang/invoke/MethodHandle" ∧ yX9_put.cls ≠ "java/lang/invoke/VarHandle" ∧ (parseMethodDescriptor yX9_put.desc).map (fun d => d.parameters.length) = some 1 := by decide +kernel
theorem cwX11_109 : CWV RX11 109 yX9_put cX9_put 3 none 1 := ⟨goodV (wa_of 533 (by decide +kernel) rfl) wiX9_put wsX9_put wnX9 wcX9_put, wpX9_put⟩
theorem wcX11_needText : Cond.code yX11_needText cX11_needText 3 none ∈ WA := wa_of 658 (by decide +kernel) rfl
theorem wiX11_needText : Cond.instanceMethod yX11_needText ∈ WA := wa_of 657 (by decide +kernel) rfl
theorem wsX11_needText : Cond.selects yX11_needText.cls yX11_needText yX11_needText ∈ WA := wa_of 6 (by decide +kernel) rfl
theorem wpX11_needText : yX11_needText.cls ≠ "java/lang/invoke/MethodHandle" ∧ yX11_needText.cls ≠ "java/lang/invoke/VarHandle" ∧ (parseMethodDescriptor yX11_needText.desc).map (fun d => d.parameters.length) = some 2 := by decide +kernel
theorem cwX11_113 : CWV RX11 113 yX11_needText cX11_needText 3 none 2 := ⟨goodV (wa_of 655 (by decide +kernel) rfl) wiX11_needText wsX11_needText wnX11 wcX11_needText, wpX11_needText⟩
theorem wcX9_open : Cond.code yX9_open cX9_open 2 none ∈ WA := wa_of 756 (by decide +kernel) rfl
theorem wiX9_open : Cond.instanceMethod yX9_open ∈ WA := wa_of 754 (by decide +kernel) rfl
theorem wsX9_open : Cond.selects yX9_open.cls yX9_open yX9_open ∈ WA := wa_of 755 (by decide +kernel) rfl
theorem wpX9_open : yX9_open.cls ≠ "java/lang/invoke/MethodHandle" ∧ yX9_open.cls ≠ "java/lang/invoke/VarHandle" ∧ (parseMethodDescriptor yX9_open.desc).map (fun d => d.parameters.length) = some 1 := by decide +kernel
theorem cwX11_117 : CWV RX11 117 yX9_open cX9_open 2 none 1 := ⟨goodV (wa_of 753 (by decide +kernel) rfl) wiX9_open wsX9_open wnX9 wcX9_open, wpX9_open⟩
theorem wcX3_parse : Cond.code yX3_parse cX3_parse 3 none ∈ WA := wa_of 760 (by decide +kernel) rfl
theorem wiX3_parse : Cond.instanceMethod yX3_parse ∈ WA := wa_of 758 (by decide +kernel) rfl
theorem wsX3_parse : Cond.selects yX3_parse.cls yX3_parse yX3_parse ∈ WA := wa_of 759 (by decide +kernel) rfl
theorem wpX3_parse : yX3_parse.cls ≠ "java/lang/invoke/MethodHandle" ∧ yX3_parse.cls ≠ "java/lang/invoke/VarHandle" ∧ (parseMethodDescriptor yX3_parse.desc).map (fun d => d.parameters.length) = some 1 := by decide +kernel
theorem wnX3 : Cond.initialized RX3 ∈ WA := wa_of 111 (by decide +kernel) rfl
theorem cwX11_120 : CWV RX11 120 yX3_parse cX3_parse 3 none 1 := ⟨goodV (wa_of 757 (by decide +kernel) rfl) wiX3_parse wsX3_parse wnX3 wcX3_parse, wpX3_parse⟩
theorem cwX11_124 : CWV RX11 124 yX9_failed cX9_failed 1 (some .boolean) 0 := ⟨goodV (wa_of 868 (by decide +kernel) rfl) wiX9_failed wsX9_failed wnX9 wcX9_failed, wpX9_failed⟩
theorem wcX8_begin : Cond.code yX8_begin cX8_begin 3 none ∈ WA := wa_of 875 (by decide +kernel) rfl
theorem wiX8_begin : Cond.instanceMethod yX8_begin ∈ WA := wa_of 873 (by decide +kernel) rfl
theorem wsX8_begin : Cond.selects yX8_begin.cls yX8_begin yX8_begin ∈ WA := wa_of 874 (by decide +kernel) rfl
theorem wpX8_begin : yX8_begin.cls ≠ "java/lang/invoke/MethodHandle" ∧ yX8_begin.cls ≠ "java/lang/invoke/VarHandle" ∧ (parseMethodDescriptor yX8_begin.desc).map (fun d => d.parameters.length) = some 1 := by decide +kernel
theorem cwX11_131 : CWV RX11 131 yX8_begin cX8_begin 3 none 1 := ⟨goodV (wa_of 872 (by decide +kernel) rfl) wiX8_begin wsX8_begin wnX8 wcX8_begin, wpX8_begin⟩
theorem wcX4_clear : Cond.code yX4_clear cX4_clear 1 none ∈ WA := wa_of 891 (by decide +kernel) rfl
theorem wiX4_clear : Cond.instanceMethod yX4_clear ∈ WA := wa_of 889 (by decide +kernel) rfl
theorem wsX4_clear : Cond.selects yX4_clear.cls yX4_clear yX4_clear ∈ WA := wa_of 890 (by decide +kernel) rfl
theorem wpX4_clear : yX4_clear.cls ≠ "java/lang/invoke/MethodHandle" ∧ yX4_clear.cls ≠ "java/lang/invoke/VarHandle" ∧ (parseMethodDescriptor yX4_clear.desc).map (fun d => d.parameters.length) = some 0 := by decide +kernel
theorem wnX4 : Cond.initialized RX4 ∈ WA := wa_of 112 (by decide +kernel) rfl
theorem cwX11_135 : CWV RX11 135 yX4_clear cX4_clear 1 none 0 := ⟨goodV (wa_of 888 (by decide +kernel) rfl) wiX4_clear wsX4_clear wnX4 wcX4_clear, wpX4_clear⟩
theorem wcX1_clear : Cond.code yX1_clear cX1_clear 1 none ∈ WA := wa_of 899 (by decide +kernel) rfl
theorem wiX1_clear : Cond.instanceMethod yX1_clear ∈ WA := wa_of 897 (by decide +kernel) rfl
theorem wsX1_clear : Cond.selects yX1_clear.cls yX1_clear yX1_clear ∈ WA := wa_of 898 (by decide +kernel) rfl
theorem wpX1_clear : yX1_clear.cls ≠ "java/lang/invoke/MethodHandle" ∧ yX1_clear.cls ≠ "java/lang/invoke/VarHandle" ∧ (parseMethodDescriptor yX1_clear.desc).map (fun d => d.parameters.length) = some 0 := by decide +kernel
theorem wnX1 : Cond.initialized RX1 ∈ WA := wa_of 113 (by decide +kernel) rfl
theorem cwX11_138 : CWV RX11 138 yX1_clear cX1_clear 1 none 0 := ⟨goodV (wa_of 896 (by decide +kernel) rfl) wiX1_clear wsX1_clear wnX1 wcX1_clear, wpX1_clear⟩
theorem wcX0_clear : Cond.code yX0_clear cX0_clear 1 none ∈ WA := wa_of 903 (by decide +kernel) rfl
theorem wiX0_clear : Cond.instanceMethod yX0_clear ∈ WA := wa_of 901 (by decide +kernel) rfl
theorem wsX0_clear : Cond.selects yX0_clear.cls yX0_clear yX0_clear ∈ WA := wa_of 902 (by decide +kernel) rfl
theorem wpX0_clear : yX0_clear.cls ≠ "java/lang/invoke/MethodHandle" ∧ yX0_clear.cls ≠ "java/lang/invoke/VarHandle" ∧ (parseMethodDescriptor yX0_clear.desc).map (fun d => d.parameters.length) = some 0 := by decide +kernel
theorem wnX0 : Cond.initialized RX0 ∈ WA := wa_of 114 (by decide +kernel) rfl
theorem cwX11_139 : CWV RX11 139 yX0_clear cX0_clear 1 none 0 := ⟨goodV (wa_of 900 (by decide +kernel) rfl) wiX0_clear wsX0_clear wnX0 wcX0_clear, wpX0_clear⟩
theorem wcX2_clear : Cond.code yX2_clear cX2_clear 1 none ∈ WA := wa_of 907 (by decide +kernel) rfl
theorem wiX2_clear : Cond.instanceMethod yX2_clear ∈ WA := wa_of 905 (by decide +kernel) rfl
theorem wsX2_clear : Cond.selects yX2_clear.cls yX2_clear yX2_clear ∈ WA := wa_of 906 (by decide +kernel) rfl
theorem wpX2_clear : yX2_clear.cls ≠ "java/lang/invoke/MethodHandle" ∧ yX2_clear.cls ≠ "java/lang/invoke/VarHandle" ∧ (parseMethodDescriptor yX2_clear.desc).map (fun d => d.parameters.length) = some 0 := by decide +kernel
theorem wnX2 : Cond.initialized RX2 ∈ WA := wa_of 106 (by decide +kernel) rfl
theorem cwX11_140 : CWV RX11 140 yX2_clear cX2_clear 1 none 0 := ⟨goodV (wa_of 904 (by decide +kernel) rfl) wiX2_clear wsX2_clear wnX2 wcX2_clear, wpX2_clear⟩
theorem wcX4_parse : Cond.code yX4_parse cX4_parse 2 none ∈ WA := wa_of 918 (by decide +kernel) rfl
theorem wiX4_parse : Cond.instanceMethod yX4_parse ∈ WA := wa_of 916 (by decide +kernel) rfl
theorem wsX4_parse : Cond.selects yX4_parse.cls yX4_parse yX4_parse ∈ WA := wa_of 917 (by decide +kernel) rfl
theorem wpX4_parse : yX4_parse.cls ≠ "java/lang/invoke/MethodHandle" ∧ yX4_parse.cls ≠ "java/lang/invoke/VarHandle" ∧ (parseMethodDescriptor yX4_parse.desc).map (fun d => d.parameters.length) = some 1 := by decide +kernel
theorem cwX11_147 : CWV RX11 147 yX4_parse cX4_parse 2 none 1 := ⟨goodV (wa_of 915 (by decide +kernel) rfl) wiX4_parse wsX4_parse wnX4 wcX4_parse, wpX4_parse⟩
theorem wcX10_parse : Cond.code yX10_parse cX10_parse 3 none ∈ WA := wa_of 970 (by decide +kernel) rfl
theorem wiX10_parse : Cond.instanceMethod yX10_parse ∈ WA := wa_of 968 (by decide +kernel) rfl
theorem wsX10_parse : Cond.selects yX10_parse.cls yX10_parse yX10_parse ∈ WA := wa_of 969 (by decide +kernel) rfl
theorem wpX10_parse : yX10_parse.cls ≠ "java/lang/invoke/MethodHandle" ∧ yX10_parse.cls ≠ "java/lang/invoke/VarHandle" ∧ (parseMethodDescriptor yX10_parse.desc).map (fun d => d.parameters.length) = some 2 := by decide +kernel
theorem cwX11_151 : CWV RX11 151 yX10_parse cX10_parse 3 none 2 := ⟨goodV (wa_of 967 (by decide +kernel) rfl) wiX10_parse wsX10_parse wnX10 wcX10_parse, wpX10_parse⟩
theorem wcX2_keep : Cond.code yX2_keep cX2_keep 2 none ∈ WA := wa_of 1003 (by decide +kernel) rfl
theorem wiX2_keep : Cond.instanceMethod yX2_keep ∈ WA := wa_of 1001 (by decide +kernel) rfl
theorem wsX2_keep : Cond.selects yX2_keep.cls yX2_keep yX2_keep ∈ WA := wa_of 1002 (by decide +kernel) rfl
theorem wpX2_keep : yX2_keep.cls ≠ "java/lang/invoke/MethodHandle" ∧ yX2_keep.cls ≠ "java/lang/invoke/VarHandle" ∧ (parseMethodDescriptor yX2_keep.desc).map (fun d => d.parameters.length) = some 1 := by decide +kernel
theorem cwX11_154 : CWV RX11 154 yX2_keep cX2_keep 2 none 1 := ⟨goodV (wa_of 1000 (by decide +kernel) rfl) wiX2_keep wsX2_keep wnX2 wcX2_keep, wpX2_keep⟩
theorem wcX10_begin : Cond.code yX10_begin cX10_begin 1 none ∈ WA := wa_of 1007 (by decide +kernel) rfl
theorem wiX10_begin : Cond.instanceMethod yX10_begin ∈ WA := wa_of 1005 (by decide +kernel) rfl
theorem wsX10_begin : Cond.selects yX10_begin.cls yX10_begin yX10_begin ∈ WA := wa_of 1006 (by decide +kernel) rfl
theorem wpX10_begin : yX10_begin.cls ≠ "java/lang/invoke/MethodHandle" ∧ yX10_begin.cls ≠ "java/lang/invoke/VarHandle" ∧ (parseMethodDescriptor yX10_begin.desc).map (fun d => d.parameters.length) = some 0 := by decide +kernel
theorem cwX11_158 : CWV RX11 158 yX10_begin cX10_begin 1 none 0 := ⟨goodV (wa_of 1004 (by decide +kernel) rfl) wiX10_begin wsX10_begin wnX10 wcX10_begin, wpX10_begin⟩
theorem cwX11_163 : CNS RX11 163 yX10_run cX10_run 9 none 7 := ⟨⟨"UnlikePens", wx_of 1008 (by decide +kernel) rfl⟩, wtX10_run, wnX10, wcX10_run, wpX10_run⟩
theorem wcX1_parse : Cond.code yX1_parse cX1_parse 5 none ∈ WA := wa_of 1105 (by decide +kernel) rfl
theorem wiX1_parse : Cond.instanceMethod yX1_parse ∈ WA := wa_of 1103 (by decide +kernel) rfl
theorem wsX1_parse : Cond.selects yX1_parse.cls yX1_parse yX1_parse ∈ WA := wa_of 1104 (by decide +kernel) rfl
theorem wpX1_parse : yX1_parse.cls ≠ "java/lang/invoke/MethodHandle" ∧ yX1_parse.cls ≠ "java/lang/invoke/VarHandle" ∧ (parseMethodDescriptor yX1_parse.desc).map (fun d => d.parameters.length) = some 2 := by decide +kernel
theorem cwX11_173 : CWV RX11 173 yX1_parse cX1_parse 5 none 2 := ⟨goodV (wa_of 1102 (by decide +kernel) rfl) wiX1_parse wsX1_parse wnX1 wcX1_parse, wpX1_parse⟩
theorem wcX0_parse : Cond.code yX0_parse cX0_parse 4 none ∈ WA := wa_of 1120 (by decide +kernel) rfl
theorem wiX0_parse : Cond.instanceMethod yX0_parse ∈ WA := wa_of 1118 (by decide +kernel) rfl
theorem wsX0_parse : Cond.selects yX0_parse.cls yX0_parse yX0_parse ∈ WA := wa_of 1119 (by decide +kernel) rfl
theorem wpX0_parse : yX0_parse.cls ≠ "java/lang/invoke/MethodHandle" ∧ yX0_parse.cls ≠ "java/lang/invoke/VarHandle" ∧ (parseMethodDescriptor yX0_parse.desc).map (fun d => d.parameters.length) = some 1 := by decide +kernel
theorem cwX11_179 : CWV RX11 179 yX0_parse cX0_parse 4 none 1 := ⟨goodV (wa_of 1117 (by decide +kernel) rfl) wiX0_parse wsX0_parse wnX0 wcX0_parse, wpX0_parse⟩
theorem wcX10_init : Cond.code yX10_init cX10_init 1 none ∈ WA := wa_of 180 (by decide +kernel) rfl
theorem wiX10_init : Cond.instanceMethod yX10_init ∈ WA := wa_of 179 (by decide +kernel) rfl
theorem wpX10_init : yX10_init.cls ≠ "java/lang/invoke/MethodHandle" ∧ yX10_init.cls ≠ "java/lang/invoke/VarHandle" ∧ (parseMethodDescriptor yX10_init.desc).map (fun d => d.parameters.length) = some 0 := by decide +kernel
theorem cwX11_18 : CNI RX11 18 yX10_init cX10_init 1 0 := ⟨⟨"UnlikePens", wx_of 178 (by decide +kernel) rfl⟩, wiX10_init, wnX10, wcX10_init, rfl, wpX10_init⟩
theorem wcX2_takeBack : Cond.code yX2_takeBack cX2_takeBack 2 none ∈ WA := wa_of 548 (by decide +kernel) rfl
theorem wiX2_takeBack : Cond.instanceMethod yX2_takeBack ∈ WA := wa_of 546 (by decide +kernel) rfl
theorem wsX2_takeBack : Cond.selects yX2_takeBack.cls yX2_takeBack yX2_takeBack ∈ WA := wa_of 547 (by decide +kernel) rfl
theorem wpX2_takeBack : yX2_takeBack.cls ≠ "java/lang/invoke/MethodHandle" ∧ yX2_takeBack.cls ≠ "java/lang/invoke/VarHandle" ∧ (parseMethodDescriptor yX2_takeBack.desc).map (fun d => d.parameters.length) = some 1 := by decide +kernel
theorem cwX11_186 : CWV RX11 186 yX2_takeBack cX2_takeBack 2 none 1 := ⟨goodV (wa_of 545 (by decide +kernel) rfl) wiX2_takeBack wsX2_takeBack wnX2 wcX2_takeBack, wpX2_takeBack⟩
theorem wcX11_needWithin : Cond.code yX11_needWithin cX11_needWithin 4 none ∈ WA := wa_of 665 (by decide +kernel) rfl
theorem wiX11_needWithin : Cond.instanceMethod yX11_needWithin ∈ WA := wa_of 664 (by decide +kernel) rfl
theorem wsX11_needWithin : Cond.selects yX11_needWithin.cls yX11_needWithin yX11_needWithin ∈ WA := wa_of 7 (by decide +kernel) rfl
theorem wpX11_needWithin : yX11_needWithin.cls ≠ "java/lang/invoke/MethodHandle" ∧ yX11_needWithin.cls ≠ "java/lang/invoke/VarHandle" ∧ (parseMethodDescriptor yX11_needWithin.desc).map (fun d => d.parameters.length) = some 3 := by decide +kernel
theorem cwX11_189 : CWV RX11 189 yX11_needWithin cX11_needWithin 4 none 3 := ⟨goodV (wa_of 662 (by decide +kernel) rfl) wiX11_needWithin wsX11_needWithin wnX11 wcX11_needWithin, wpX11_needWithin⟩
theorem wcX11_sheetBits : Cond.code yX11_sheetBits cX11_sheetBits 3 (some .int) ∈ WA := wa_of 1136 (by decide +kernel) rfl
theorem wiX11_sheetBits : Cond.instanceMethod yX11_sheetBits ∈ WA := wa_of 1135 (by decide +kernel) rfl
theorem wsX11_sheetBits : Cond.selects yX11_sheetBits.cls yX11_sheetBits yX11_sheetBits ∈ WA := wa_of 28 (by decide +kernel) rfl
theorem wpX11_sheetBits : yX11_sheetBits.cls ≠ "java/lang/invoke/MethodHandle" ∧ yX11_sheetBits.cls ≠ "java/lang/invoke/VarHandle" ∧ (parseMethodDescriptor yX11_sheetBits.desc).map (fun d => d.parameters.length) = some 0 := by decide +kernel
theorem cwX11_199 : CWV RX11 199 yX11_sheetBits cX11_sheetBits 3 (some .int) 0 := ⟨goodV (wa_of 1133 (by decide +kernel) rfl) wiX11_sheetBits wsX11_sheetBits wnX11 wcX11_sheetBits, wpX11_sheetBits⟩
theorem wcX8_records : Cond.code yX8_records cX8_records 3 (some .int) ∈ WA := wa_of 1140 (by decide +kernel) rfl
theorem wiX8_records : Cond.instanceMethod yX8_records ∈ WA := wa_of 1138 (by decide +kernel) rfl
theorem wsX8_records : Cond.selects yX8_records.cls yX8_records yX8_records ∈ WA := wa_of 1139 (by decide +kernel) rfl
theorem wpX8_records : yX8_records.cls ≠ "java/lang/invoke/MethodHandle" ∧ yX8_records.cls ≠ "java/lang/invoke/VarHandle" ∧ (parseMethodDescriptor yX8_records.desc).map (fun d => d.parameters.length) = some 0 := by decide +kernel
theorem cwX11_203 : CWV RX11 203 yX8_records cX8_records 3 (some .int) 0 := ⟨goodV (wa_of 1137 (by decide +kernel) rfl) wiX8_records wsX8_records wnX8 wcX8_records, wpX8_records⟩
theorem wcX11_jamBits : Cond.code yX11_jamBits cX11_jamBits 3 (some .int) ∈ WA := wa_of 1144 (by decide +kernel) rfl
theorem wiX11_jamBits : Cond.instanceMethod yX11_jamBits ∈ WA := wa_of 1143 (by decide +kernel) rfl
theorem wsX11_jamBits : Cond.selects yX11_jamBits.cls yX11_jamBits yX11_jamBits ∈ WA := wa_of 29 (by decide +kernel) rfl
theorem wpX11_jamBits : yX11_jamBits.cls ≠ "java/lang/invoke/MethodHandle" ∧ yX11_jamBits.cls ≠ "java/lang/invoke/VarHandle" ∧ (parseMethodDescriptor yX11_jamBits.desc).map (fun d => d.parameters.length) = some 0 := by decide +kernel
theorem cwX11_212 : CWV RX11 212 yX11_jamBits cX11_jamBits 3 (some .int) 0 := ⟨goodV (wa_of 1141 (by decide +kernel) rfl) wiX11_jamBits wsX11_jamBits wnX11 wcX11_jamBits, wpX11_jamBits⟩
theorem wcX11_needPen : Cond.code yX11_needPen cX11_needPen 2 none ∈ WA := wa_of 1156 (by decide +kernel) rfl
theorem wiX11_needPen : Cond.instanceMethod yX11_needPen ∈ WA := wa_of 1155 (by decide +kernel) rfl
theorem wsX11_needPen : Cond.selects yX11_needPen.cls yX11_needPen yX11_needPen ∈ WA := wa_of 30 (by decide +kernel) rfl
theorem wpX11_needPen : yX11_needPen.cls ≠ "java/lang/invoke/MethodHandle" ∧ yX11_needPen.cls ≠ "java/lang/invoke/VarHandle" ∧ (parseMethodDescriptor yX11_needPen.desc).map (fun d => d.parameters.length) = some 1 := by decide +kernel
theorem cwX11_215 : CWV RX11 215 yX11_needPen cX11_needPen 2 none 1 := ⟨goodV (wa_of 1153 (by decide +kernel) rfl) wiX11_needPen wsX11_needPen wnX11 wcX11_needPen, wpX11_needPen⟩
theorem wcX3_hearersOf : Cond.code yX3_hearersOf cX3_hearersOf 4 (some .int) ∈ WA := wa_of 1180 (by decide +kernel) rfl
theorem wiX3_hearersOf : Cond.instanceMethod yX3_hearersOf ∈ WA := wa_of 1178 (by decide +kernel) rfl
theorem wsX3_hearersOf : Cond.selects yX3_hearersOf.cls yX3_hearersOf yX3_hearersOf ∈ WA := wa_of 1179 (by decide +kernel) rfl
theorem wpX3_hearersOf : yX3_hearersOf.cls ≠ "java/lang/invoke/MethodHandle" ∧ yX3_hearersOf.cls ≠ "java/lang/invoke/VarHandle" ∧ (parseMethodDescriptor yX3_hearersOf.desc).map (fun d => d.parameters.length) = some 1 := by decide +kernel
theorem cwX11_234 : CWV RX11 234 yX3_hearersOf cX3_hearersOf 4 (some .int) 1 := ⟨goodV (wa_of 1177 (by decide +kernel) rfl) wiX3_hearersOf wsX3_hearersOf wnX3 wcX3_hearersOf, wpX3_hearersOf⟩
theorem wcX3_heardBy : Cond.code yX3_heardBy cX3_heardBy 4 (some .int) ∈ WA := wa_of 1184 (by decide +kernel) rfl
theorem wiX3_heardBy : Cond.instanceMethod yX3_heardBy ∈ WA := wa_of 1182 (by decide +kernel) rfl
theorem wsX3_heardBy : Cond.selects yX3_heardBy.cls yX3_heardBy yX3_heardBy ∈ WA := wa_of 1183 (by decide +kernel) rfl
theorem wpX3_heardBy : yX3_heardBy.cls ≠ "java/lang/invoke/MethodHandle" ∧ yX3_heardBy.cls ≠ "java/lang/invoke/VarHandle" ∧ (parseMethodDescriptor yX3_heardBy.desc).map (fun d => d.parameters.length) = some 1 := by decide +kernel
theorem cwX11_238 : CWV RX11 238 yX3_heardBy cX3_heardBy 4 (some .int) 1 := ⟨goodV (wa_of 1181 (by decide +kernel) rfl) wiX3_heardBy wsX3_heardBy wnX3 wcX3_heardBy, wpX3_heardBy⟩
theorem wcX11_refuseElement : Cond.code yX11_refuseElement cX11_refuseElement 1 none ∈ WA := wa_of 1160 (by decide +kernel) rfl
theorem wiX11_refuseElement : Cond.instanceMethod yX11_refuseElement ∈ WA := wa_of 1159 (by decide +kernel) rfl
theorem wsX11_refuseElement : Cond.selects yX11_refuseElement.cls yX11_refuseElement yX11_refuseElement ∈ WA := wa_of 31 (by decide +kernel) rfl
theorem wpX11_refuseElement : yX11_refuseElement.cls ≠ "java/lang/invoke/MethodHandle" ∧ yX11_refuseElement.cls ≠ "java/lang/invoke/VarHandle" ∧ (parseMethodDescriptor yX11_refuseElement.desc).map (fun d => d.parameters.length) = some 0 := by decide +kernel
theorem cwX11_241 : CWV RX11 241 yX11_refuseElement cX11_refuseElement 1 none 0 := ⟨goodV (wa_of 1157 (by decide +kernel) rfl) wiX11_refuseElement wsX11_refuseElement wnX11 wcX11_refuseElement, wpX11_refuseElement⟩
theorem wcX2_init : Cond.code yX2_init cX2_init 1 none ∈ WA := wa_of 218 (by decide +kernel) rfl
theorem wiX2_init : Cond.instanceMethod yX2_init ∈ WA := wa_of 217 (by decide +kernel) rfl
theorem wpX2_init : yX2_init.cls ≠ "java/lang/invoke/MethodHandle" ∧ yX2_init.cls ≠ "java/lang/invoke/VarHandle" ∧ (parseMethodDescriptor yX2_init.desc).map (fun d => d.parameters.length) = some 0 := by decide +kernel
theorem cwX11_25 : CNI RX11 25 yX2_init cX2_init 1 0 := ⟨⟨"UnlikePens", wx_of 216 (by decide +kernel) rfl⟩, wiX2_init, wnX2, wcX2_init, rfl, wpX2_init⟩
theorem wcX11_needRecord : Cond.code yX11_needRecord cX11_needRecord 3 none ∈ WA := wa_of 1226 (by decide +kernel) rfl
theorem wiX11_needRecord : Cond.instanceMethod yX11_needRecord ∈ WA := wa_of 1225 (by decide +kernel) rfl
theorem wsX11_needRecord : Cond.selects yX11_needRecord.cls yX11_needRecord yX11_needRecord ∈ WA := wa_of 32 (by decide +kernel) rfl
theorem wpX11_needRecord : yX11_needRecord.cls ≠ "java/lang/invoke/MethodHandle" ∧ yX11_needRecord.cls ≠ "java/lang/invoke/VarHandle" ∧ (parseMethodDescriptor yX11_needRecord.desc).map (fun d => d.parameters.length) = some 2 := by decide +kernel
theorem cwX11_250 : CWV RX11 250 yX11_needRecord cX11_needRecord 3 none 2 := ⟨goodV (wa_of 1223 (by decide +kernel) rfl) wiX11_needRecord wsX11_needRecord wnX11 wcX11_needRecord, wpX11_needRecord⟩
theorem wcX5_readAt : Cond.code yX5_readAt cX5_readAt 2 (some .int) ∈ WA := wa_of 1059 (by decide +kernel) rfl
theorem wiX5_readAt : Cond.instanceMethod yX5_readAt ∈ WA := wa_of 1057 (by decide +kernel) rfl
theorem wsX5_readAt : Cond.selects yX5_readAt.cls yX5_readAt yX5_readAt ∈ WA := wa_of 1058 (by decide +kernel) rfl
theorem wpX5_readAt : yX5_readAt.cls ≠ "java/lang/invoke/MethodHandle" ∧ yX5_readAt.cls ≠ "java/lang/invoke/VarHandle" ∧ (parseMethodDescriptor yX5_readAt.desc).map (fun d => d.parameters.length) = some 1 := by decide +kernel
theorem cwX11_253 : CWV RX11 253 yX5_readAt cX5_readAt 2 (some .int) 1 := ⟨goodV (wa_of 1240 (by decide +kernel) rfl) wiX5_readAt wsX5_readAt wnX5 wcX5_readAt, wpX5_readAt⟩
theorem wcX5_jams : Cond.code yX5_jams cX5_jams 1 (some .boolean) ∈ WA := wa_of 579 (by decide +kernel) rfl
theorem wiX5_jams : Cond.instanceMethod yX5_jams ∈ WA := wa_of 577 (by decide +kernel) rfl
theorem wsX5_jams : Cond.selects yX5_jams.cls yX5_jams yX5_jams ∈ WA := wa_of 578 (by decide +kernel) rfl
theorem wpX5_jams : yX5_jams.cls ≠ "java/lang/invoke/MethodHandle" ∧ yX5_jams.cls ≠ "java/lang/invoke/VarHandle" ∧ (parseMethodDescriptor yX5_jams.desc).map (fun d => d.parameters.length) = some 0 := by decide +kernel
theorem cwX11_256 : CWV RX11 256 yX5_jams cX5_jams 1 (some .boolean) 0 := ⟨goodV (wa_of 576 (by decide +kernel) rfl) wiX5_jams wsX5_jams wnX5 wcX5_jams, wpX5_jams⟩
theorem wcX11_refuseArithmetic : Cond.code yX11_refuseArithmetic cX11_refuseArithmetic 1 none ∈ WA := wa_of 1265 (by decide +kernel) rfl
theorem wiX11_refuseArithmetic : Cond.instanceMethod yX11_refuseArithmetic ∈ WA := wa_of 1264 (by decide +kernel) rfl
theorem wsX11_refuseArithmetic : Cond.selects yX11_refuseArithmetic.cls yX11_refuseArithmetic yX11_refuseArithmetic ∈ WA := wa_of 33 (by decide +kernel) rfl
theorem wpX11_refuseArithmetic : yX11_refuseArithmetic.cls ≠ "java/lang/invoke/MethodHandle" ∧ yX11_refuseArithmetic.cls ≠ "java/lang/invoke/VarHandle" ∧ (parseMethodDescriptor yX11_refuseArithmetic.desc).map (fun d => d.parameters.length) = some 0 := by decide +kernel
theorem cwX11_259 : CWV RX11 259 yX11_refuseArithmetic cX11_refuseArithmetic 1 none 0 := ⟨goodV (wa_of 1262 (by decide +kernel) rfl) wiX11_refuseArithmetic wsX11_refuseArithmetic wnX11 wcX11_refuseArithmetic, wpX11_refuseArithmetic⟩
theorem wcX5_outOf : Cond.code yX5_outOf cX5_outOf 2 (some .int) ∈ WA := wa_of 583 (by decide +kernel) rfl
theorem wiX5_outOf : Cond.instanceMethod yX5_outOf ∈ WA := wa_of 581 (by decide +kernel) rfl
theorem wsX5_outOf : Cond.selects yX5_outOf.cls yX5_outOf yX5_outOf ∈ WA := wa_of 582 (by decide +kernel) rfl
theorem wpX5_outOf : yX5_outOf.cls ≠ "java/lang/invoke/MethodHandle" ∧ yX5_outOf.cls ≠ "java/lang/invoke/VarHandle" ∧ (parseMethodDescriptor yX5_outOf.desc).map (fun d => d.parameters.length) = some 1 := by decide +kernel
theorem cwX11_262 : CWV RX11 262 yX5_outOf cX5_outOf 2 (some .int) 1 := ⟨goodV (wa_of 580 (by decide +kernel) rfl) wiX5_outOf wsX5_outOf wnX5 wcX5_outOf, wpX5_outOf⟩
theorem wcX4_levelBy : Cond.code yX4_levelBy cX4_levelBy 6 (some .int) ∈ WA := wa_of 1024 (by decide +kernel) rfl
theorem wiX4_levelBy : Cond.instanceMethod yX4_levelBy ∈ WA := wa_of 1022 (by decide +kernel) rfl
theorem wsX4_levelBy : Cond.selects yX4_levelBy.cls yX4_levelBy yX4_levelBy ∈ WA := wa_of 1023 (by decide +kernel) rfl
theorem wpX4_levelBy : yX4_levelBy.cls ≠ "java/lang/invoke/MethodHandle" ∧ yX4_levelBy.cls ≠ "java/lang/invoke/VarHandle" ∧ (parseMethodDescriptor yX4_levelBy.desc).map (fun d => d.parameters.length) = some 3 := by decide +kernel
theorem cwX11_265 : CWV RX11 265 yX4_levelBy cX4_levelBy 6 (some .int) 3 := ⟨goodV (wa_of 1276 (by decide +kernel) rfl) wiX4_levelBy wsX4_levelBy wnX4 wcX4_levelBy, wpX4_levelBy⟩
theorem wcX4_levelOfGiven : Cond.code yX4_levelOfGiven cX4_levelOfGiven 4 (some .int) ∈ WA := wa_of 1040 (by decide +kernel) rfl
theorem wiX4_levelOfGiven : Cond.instanceMethod yX4_levelOfGiven ∈ WA := wa_of 1038 (by decide +kernel) rfl
theorem wsX4_levelOfGiven : Cond.selects yX4_levelOfGiven.cls yX4_levelOfGiven yX4_levelOfGiven ∈ WA := wa_of 1039 (by decide +kernel) rfl
theorem wpX4_levelOfGiven : yX4_levelOfGiven.cls ≠ "java/lang/invoke/MethodHandle" ∧ yX4_levelOfGiven.cls ≠ "java/lang/invoke/VarHandle" ∧ (parseMethodDescriptor yX4_levelOfGiven.desc).map (fun d => d.parameters.length) = some 0 := by decide +kernel
theorem cwX11_273 : CWV RX11 273 yX4_levelOfGiven cX4_levelOfGiven 4 (some .int) 0 := ⟨goodV (wa_of 1285 (by decide +kernel) rfl) wiX4_levelOfGiven wsX4_levelOfGiven wnX4 wcX4_levelOfGiven, wpX4_levelOfGiven⟩
theorem wcX5_strangeRecords : Cond.code yX5_strangeRecords cX5_strangeRecords 5 (some .int) ∈ WA := wa_of 1303 (by decide +kernel) rfl
theorem wiX5_strangeRecords : Cond.instanceMethod yX5_strangeRecords ∈ WA := wa_of 1301 (by decide +kernel) rfl
theorem wsX5_strangeRecords : Cond.selects yX5_strangeRecords.cls yX5_strangeRecords yX5_strangeRecords ∈ WA := wa_of 1302 (by decide +kernel) rfl
theorem wpX5_strangeRecords : yX5_strangeRecords.cls ≠ "java/lang/invoke/MethodHandle" ∧ yX5_strangeRecords.cls ≠ "java/lang/invoke/VarHandle" ∧ (parseMethodDescriptor yX5_strangeRecords.desc).map (fun d => d.parameters.length) = some 1 := by decide +kernel
theorem cwX11_276 : CWV RX11 276 yX5_strangeRecords cX5_strangeRecords 5 (some .int) 1 := ⟨goodV (wa_of 1300 (by decide +kernel) rfl) wiX5_strangeRecords wsX5_strangeRecords wnX5 wcX5_strangeRecords, wpX5_strangeRecords⟩
theorem wcX5_extremePlace : Cond.code yX5_extremePlace cX5_extremePlace 4 (some .int) ∈ WA := wa_of 1314 (by decide +kernel) rfl
theorem wiX5_extremePlace : Cond.instanceMethod yX5_extremePlace ∈ WA := wa_of 1312 (by decide +kernel) rfl
theorem wsX5_extremePlace : Cond.selects yX5_extremePlace.cls yX5_extremePlace yX5_extremePlace ∈ WA := wa_of 1313 (by decide +kernel) rfl
theorem wpX5_extremePlace : yX5_extremePlace.cls ≠ "java/lang/invoke/MethodHandle" ∧ yX5_extremePlace.cls ≠ "java/lang/invoke/VarHandle" ∧ (parseMethodDescriptor yX5_extremePlace.desc).map (fun d => d.parameters.length) = some 1 := by decide +kernel
theorem cwX11_280 : CWV RX11 280 yX5_extremePlace cX5_extremePlace 4 (some .int) 1 := ⟨goodV (wa_of 1311 (by decide +kernel) rfl) wiX5_extremePlace wsX5_extremePlace wnX5 wcX5_extremePlace, wpX5_extremePlace⟩
theorem wcX11_chainJams : Cond.code yX11_chainJams cX11_chainJams 2 (some .boolean) ∈ WA := wa_of 1329 (by decide +kernel) rfl
theorem wiX11_chainJams : Cond.instanceMethod yX11_chainJams ∈ WA := wa_of 1328 (by decide +kernel) rfl
theorem wsX11_chainJams : Cond.selects yX11_chainJams.cls yX11_chainJams yX11_chainJams ∈ WA := wa_of 35 (by decide +kernel) rfl
theorem wpX11_chainJams : yX11_chainJams.cls ≠ "java/lang/invoke/MethodHandle" ∧ yX11_chainJams.cls ≠ "java/lang/invoke/VarHandle" ∧ (parseMethodDescriptor yX11_chainJams.desc).map (fun d => d.parameters.length) = some 0 := by decide +kernel
theorem cwX11_283 : CWV RX11 283 yX11_chainJams cX11_chainJams 2 (some .boolean) 0 := ⟨goodV (wa_of 1326 (by decide +kernel) rfl) wiX11_chainJams wsX11_chainJams wnX11 wcX11_chainJams, wpX11_chainJams⟩
theorem wcX11_chainOut : Cond.code yX11_chainOut cX11_chainOut 4 (some .int) ∈ WA := wa_of 1333 (by decide +kernel) rfl
theorem wiX11_chainOut : Cond.instanceMethod yX11_chainOut ∈ WA := wa_of 1332 (by decide +kernel) rfl
theorem wsX11_chainOut : Cond.selects yX11_chainOut.cls yX11_chainOut yX11_chainOut ∈ WA := wa_of 36 (by decide +kernel) rfl
theorem wpX11_chainOut : yX11_chainOut.cls ≠ "java/lang/invoke/MethodHandle" ∧ yX11_chainOut.cls ≠ "java/lang/invoke/VarHandle" ∧ (parseMethodDescriptor yX11_chainOut.desc).map (fun d => d.parameters.length) = some 1 := by decide +kernel
theorem cwX11_286 : CWV RX11 286 yX11_chainOut cX11_chainOut 4 (some .int) 1 := ⟨goodV (wa_of 1330 (by decide +kernel) rfl) wiX11_chainOut wsX11_chainOut wnX11 wcX11_chainOut, wpX11_chainOut⟩
theorem wcX11_distance : Cond.code yX11_distance cX11_distance 2 (some .int) ∈ WA := wa_of 1029 (by decide +kernel) rfl
theorem wtX11_distance : Cond.static yX11_distance ∈ WA := wa_of 1028 (by decide +kernel) rfl
theorem wpX11_distance : yX11_distance.cls ≠ "java/lang/invoke/MethodHandle" ∧ yX11_distance.cls ≠ "java/lang/invoke/VarHandle" ∧ (parseMethodDescriptor yX11_distance.desc).map (fun d => d.parameters.length) = some 2 := by decide +kernel
theorem cwX11_289 : CWS RX11 289 yX11_distance cX11_distance 2 (some .int) 2 := ⟨goodS (wa_of 1355 (by decide +kernel) rfl) wtX11_distance wnX11 wcX11_distance, wpX11_distance⟩
theorem wcX6_search : Cond.code yX6_search cX6_search 6 none ∈ WA := wa_of 1366 (by decide +kernel) rfl
theorem wiX6_search : Cond.instanceMethod yX6_search ∈ WA := wa_of 1364 (by decide +kernel) rfl
theorem wsX6_search : Cond.selects yX6_search.cls yX6_search yX6_search ∈ WA := wa_of 1365 (by decide +kernel) rfl
theorem wpX6_search : yX6_search.cls ≠ "java/lang/invoke/MethodHandle" ∧ yX6_search.cls ≠ "java/lang/invoke/VarHandle" ∧ (parseMethodDescriptor yX6_search.desc).map (fun d => d.parameters.length) = some 5 := by decide +kernel
theorem wnX6 : Cond.initialized RX6 ∈ WA := wa_of 110 (by decide +kernel) rfl
theorem cwX11_293 : CWV RX11 293 yX6_search cX6_search 6 none 5 := ⟨goodV (wa_of 1363 (by decide +kernel) rfl) wiX6_search wsX6_search wnX6 wcX6_search, wpX6_search⟩
theorem wcX11_refuseArgument : Cond.code yX11_refuseArgument cX11_refuseArgument 1 none ∈ WA := wa_of 669 (by decide +kernel) rfl
theorem wiX11_refuseArgument : Cond.instanceMethod yX11_refuseArgument ∈ WA := wa_of 668 (by decide +kernel) rfl
theorem wsX11_refuseArgument : Cond.selects yX11_refuseArgument.cls yX11_refuseArgument yX11_refuseArgument ∈ WA := wa_of 8 (by decide +kernel) rfl
theorem wpX11_refuseArgument : yX11_refuseArgument.cls ≠ "java/lang/invoke/MethodHandle" ∧ yX11_refuseArgument.cls ≠ "java/lang/invoke/VarHandle" ∧ (parseMethodDescriptor yX11_refuseArgument.desc).map (fun d => d.parameters.length) = some 0 := by decide +kernel
theorem cwX11_301 : CWV RX11 301 yX11_refuseArgument cX11_refuseArgument 1 none 0 := ⟨goodV (wa_of 666 (by decide +kernel) rfl) wiX11_refuseArgument wsX11_refuseArgument wnX11 wcX11_refuseArgument, wpX11_refuseArgument⟩
theorem wcX11_fillRing : Cond.code yX11_fillRing cX11_fillRing 4 none ∈ WA := wa_of 1408 (by decide +kernel) rfl
theorem wiX11_fillRing : Cond.instanceMethod yX11_fillRing ∈ WA := wa_of 1407 (by decide +kernel) rfl
theorem wsX11_fillRing : Cond.selects yX11_fillRing.cls yX11_fillRing yX11_fillRing ∈ WA := wa_of 38 (by decide +kernel) rfl
theorem wpX11_fillRing : yX11_fillRing.cls ≠ "java/lang/invoke/MethodHandle" ∧ yX11_fillRing.cls ≠ "java/lang/invoke/VarHandle" ∧ (parseMethodDescriptor yX11_fillRing.desc).map (fun d => d.parameters.length) = some 2 := by decide +kernel
theorem cwX11_315 : CWV RX11 315 yX11_fillRing cX11_fillRing 4 none 2 := ⟨goodV (wa_of 1405 (by decide +kernel) rfl) wiX11_fillRing wsX11_fillRing wnX11 wcX11_fillRing, wpX11_fillRing⟩
theorem wcX11_ringLength : Cond.code yX11_ringLength cX11_ringLength 2 (some .int) ∈ WA := wa_of 1412 (by decide +kernel) rfl
theorem wiX11_ringLength : Cond.instanceMethod yX11_ringLength ∈ WA := wa_of 1411 (by decide +kernel) rfl
theorem wsX11_ringLength : Cond.selects yX11_ringLength.cls yX11_ringLength yX11_ringLength ∈ WA := wa_of 39 (by decide +kernel) rfl
theorem wpX11_ringLength : yX11_ringLength.cls ≠ "java/lang/invoke/MethodHandle" ∧ yX11_ringLength.cls ≠ "java/lang/invoke/VarHandle" ∧ (parseMethodDescriptor yX11_ringLength.desc).map (fun d => d.parameters.length) = some 0 := by decide +kernel
theorem cwX11_319 : CWV RX11 319 yX11_ringLength cX11_ringLength 2 (some .int) 0 := ⟨goodV (wa_of 1409 (by decide +kernel) rfl) wiX11_ringLength wsX11_ringLength wnX11 wcX11_ringLength, wpX11_ringLength⟩
theorem wcX8_init : Cond.code yX8_init cX8_init 2 none ∈ WA := wa_of 247 (by decide +kernel) rfl
theorem wiX8_init : Cond.instanceMethod yX8_init ∈ WA := wa_of 246 (by decide +kernel) rfl
theorem wpX8_init : yX8_init.cls ≠ "java/lang/invoke/MethodHandle" ∧ yX8_init.cls ≠ "java/lang/invoke/VarHandle" ∧ (parseMethodDescriptor yX8_init.desc).map (fun d => d.parameters.length) = some 0 := by decide +kernel
theorem cwX11_32 : CWI RX11 32 yX8_init cX8_init 2 0 := ⟨wa_of 245 (by decide +kernel) rfl, wiX8_init, wnX8, wcX8_init, rfl, wpX8_init⟩
theorem wcX11_ringStart : Cond.code yX11_ringStart cX11_ringStart 3 (some .int) ∈ WA := wa_of 1416 (by decide +kernel) rfl
theorem wiX11_ringStart : Cond.instanceMethod yX11_ringStart ∈ WA := wa_of 1415 (by decide +kernel) rfl
theorem wsX11_ringStart : Cond.selects yX11_ringStart.cls yX11_ringStart yX11_ringStart ∈ WA := wa_of 40 (by decide +kernel) rfl
theorem wpX11_ringStart : yX11_ringStart.cls ≠ "java/lang/invoke/MethodHandle" ∧ yX11_ringStart.cls ≠ "java/lang/invoke/VarHandle" ∧ (parseMethodDescriptor yX11_ringStart.desc).map (fun d => d.parameters.length) = some 1 := by decide +kernel
theorem cwX11_322 : CWV RX11 322 yX11_ringStart cX11_ringStart 3 (some .int) 1 := ⟨goodV (wa_of 1413 (by decide +kernel) rfl) wiX11_ringStart wsX11_ringStart wnX11 wcX11_ringStart, wpX11_ringStart⟩
theorem wcX11_fitsBook : Cond.code yX11_fitsBook cX11_fitsBook 3 (some .boolean) ∈ WA := wa_of 575 (by decide +kernel) rfl
theorem wiX11_fitsBook : Cond.instanceMethod yX11_fitsBook ∈ WA := wa_of 574 (by decide +kernel) rfl
theorem wsX11_fitsBook : Cond.selects yX11_fitsBook.cls yX11_fitsBook yX11_fitsBook ∈ WA := wa_of 1 (by decide +kernel) rfl
theorem wpX11_fitsBook : yX11_fitsBook.cls ≠ "java/lang/invoke/MethodHandle" ∧ yX11_fitsBook.cls ≠ "java/lang/invoke/VarHandle" ∧ (parseMethodDescriptor yX11_fitsBook.desc).map (fun d => d.parameters.length) = some 1 := by decide +kernel
theorem cwX11_325 : CWV RX11 325 yX11_fitsBook cX11_fitsBook 3 (some .boolean) 1 := ⟨goodV (wa_of 572 (by decide +kernel) rfl) wiX11_fitsBook wsX11_fitsBook wnX11 wcX11_fitsBook, wpX11_fitsBook⟩
theorem wcX11_fits : Cond.code yX11_fits cX11_fits 3 (some .int) ∈ WA := wa_of 571 (by decide +kernel) rfl
theorem wiX11_fits : Cond.instanceMethod yX11_fits ∈ WA := wa_of 569 (by decide +kernel) rfl
theorem wsX11_fits : Cond.selects yX11_fits.cls yX11_fits yX11_fits ∈ WA := wa_of 570 (by decide +kernel) rfl
theorem wpX11_fits : yX11_fits.cls ≠ "java/lang/invoke/MethodHandle" ∧ yX11_fits.cls ≠ "java/lang/invoke/VarHandle" ∧ (parseMethodDescriptor yX11_fits.desc).map (fun d => d.parameters.length) = some 0 := by decide +kernel
theorem cwX11_329 : CWV RX11 329 yX11_fits cX11_fits 3 (some .int) 0 := ⟨goodV (wa_of 1424 (by decide +kernel) rfl) wiX11_fits wsX11_fits wnX11 wcX11_fits, wpX11_fits⟩
theorem wcX11_mostAlike : Cond.code yX11_mostAlike cX11_mostAlike 8 (some .int) ∈ WA := wa_of 1428 (by decide +kernel) rfl
theorem wiX11_mostAlike : Cond.instanceMethod yX11_mostAlike ∈ WA := wa_of 1427 (by decide +kernel) rfl
theorem wsX11_mostAlike : Cond.selects yX11_mostAlike.cls yX11_mostAlike yX11_mostAlike ∈ WA := wa_of 41 (by decide +kernel) rfl
theorem wpX11_mostAlike : yX11_mostAlike.cls ≠ "java/lang/invoke/MethodHandle" ∧ yX11_mostAlike.cls ≠ "java/lang/invoke/VarHandle" ∧ (parseMethodDescriptor yX11_mostAlike.desc).map (fun d => d.parameters.length) = some 2 := by decide +kernel
theorem cwX11_332 : CWV RX11 332 yX11_mostAlike cX11_mostAlike 8 (some .int) 2 := ⟨goodV (wa_of 1425 (by decide +kernel) rfl) wiX11_mostAlike wsX11_mostAlike wnX11 wcX11_mostAlike, wpX11_mostAlike⟩
theorem wcX5_canWrite : Cond.code yX5_canWrite cX5_canWrite 1 (some .boolean) ∈ WA := wa_of 612 (by decide +kernel) rfl
theorem wiX5_canWrite : Cond.instanceMethod yX5_canWrite ∈ WA := wa_of 610 (by decide +kernel) rfl
theorem wsX5_canWrite : Cond.selects yX5_canWrite.cls yX5_canWrite yX5_canWrite ∈ WA := wa_of 611 (by decide +kernel) rfl
theorem wpX5_canWrite : yX5_canWrite.cls ≠ "java/lang/invoke/MethodHandle" ∧ yX5_canWrite.cls ≠ "java/lang/invoke/VarHandle" ∧ (parseMethodDescriptor yX5_canWrite.desc).map (fun d => d.parameters.length) = some 0 := by decide +kernel
theorem cwX11_335 : CWV RX11 335 yX5_canWrite cX5_canWrite 1 (some .boolean) 0 := ⟨goodV (wa_of 609 (by decide +kernel) rfl) wiX5_canWrite wsX5_canWrite wnX5 wcX5_canWrite, wpX5_canWrite⟩
theorem wcX5_isLike : Cond.code yX5_isLike cX5_isLike 3 (some .boolean) ∈ WA := wa_of 1480 (by decide +kernel) rfl
theorem wiX5_isLike : Cond.instanceMethod yX5_isLike ∈ WA := wa_of 1478 (by decide +kernel) rfl
theorem wsX5_isLike : Cond.selects yX5_isLike.cls yX5_isLike yX5_isLike ∈ WA := wa_of 1479 (by decide +kernel) rfl
theorem wpX5_isLike : yX5_isLike.cls ≠ "java/lang/invoke/MethodHandle" ∧ yX5_isLike.cls ≠ "java/lang/invoke/VarHandle" ∧ (parseMethodDescriptor yX5_isLike.desc).map (fun d => d.parameters.length) = some 1 := by decide +kernel
theorem cwX11_345 : CWV RX11 345 yX5_isLike cX5_isLike 3 (some .boolean) 1 := ⟨goodV (wa_of 1477 (by decide +kernel) rfl) wiX5_isLike wsX5_isLike wnX5 wcX5_isLike, wpX5_isLike⟩
theorem wcX5_freePlaces : Cond.code yX5_freePlaces cX5_freePlaces 1 (some .int) ∈ WA := wa_of 617 (by decide +kernel) rfl
theorem wiX5_freePlaces : Cond.instanceMethod yX5_freePlaces ∈ WA := wa_of 615 (by decide +kernel) rfl
theorem wsX5_freePlaces : Cond.selects yX5_freePlaces.cls yX5_freePlaces yX5_freePlaces ∈ WA := wa_of 616 (by decide +kernel) rfl
theorem wpX5_freePlaces : yX5_freePlaces.cls ≠ "java/lang/invoke/MethodHandle" ∧ yX5_freePlaces.cls ≠ "java/lang/invoke/VarHandle" ∧ (parseMethodDescriptor yX5_freePlaces.desc).map (fun d => d.parameters.length) = some 0 := by decide +kernel
theorem cwX11_350 : CWV RX11 350 yX5_freePlaces cX5_freePlaces 1 (some .int) 0 := ⟨goodV (wa_of 622 (by decide +kernel) rfl) wiX5_freePlaces wsX5_freePlaces wnX5 wcX5_freePlaces, wpX5_freePlaces⟩
theorem wcX7_play : Cond.code yX7_play cX7_play 8 none ∈ WA := wa_of 1513 (by decide +kernel) rfl
theorem wiX7_play : Cond.instanceMethod yX7_play ∈ WA := wa_of 1511 (by decide +kernel) rfl
theorem wsX7_play : Cond.selects yX7_play.cls yX7_play yX7_play ∈ WA := wa_of 1512 (by decide +kernel) rfl
theorem wpX7_play : yX7_play.cls ≠ "java/lang/invoke/MethodHandle" ∧ yX7_play.cls ≠ "java/lang/invoke/VarHandle" ∧ (parseMethodDescriptor yX7_play.desc).map (fun d => d.parameters.length) = some 6 := by decide +kernel
theorem wnX7 : Cond.initialized RX7 ∈ WA := wa_of 109 (by decide +kernel) rfl
theorem cwX11_353 : CWV RX11 353 yX7_play cX7_play 8 none 6 := ⟨goodV (wa_of 1510 (by decide +kernel) rfl) wiX7_play wsX7_play wnX7 wcX7_play, wpX7_play⟩
theorem wcX2_takeImage : Cond.code yX2_takeImage cX2_takeImage 3 none ∈ WA := wa_of 630 (by decide +kernel) rfl
theorem wiX2_takeImage : Cond.instanceMethod yX2_takeImage ∈ WA := wa_of 628 (by decide +kernel) rfl
theorem wsX2_takeImage : Cond.selects yX2_takeImage.cls yX2_takeImage yX2_takeImage ∈ WA := wa_of 629 (by decide +kernel) rfl
theorem wpX2_takeImage : yX2_takeImage.cls ≠ "java/lang/invoke/MethodHandle" ∧ yX2_takeImage.cls ≠ "java/lang/invoke/VarHandle" ∧ (parseMethodDescriptor yX2_takeImage.desc).map (fun d => d.parameters.length) = some 1 := by decide +kernel
theorem cwX11_363 : CWV RX11 363 yX2_takeImage cX2_takeImage 3 none 1 := ⟨goodV (wa_of 627 (by decide +kernel) rfl) wiX2_takeImage wsX2_takeImage wnX2 wcX2_takeImage, wpX2_takeImage⟩
theorem wcX2_giveBack : Cond.code yX2_giveBack cX2_giveBack 3 none ∈ WA := wa_of 638 (by decide +kernel) rfl
theorem wiX2_giveBack : Cond.instanceMethod yX2_giveBack ∈ WA := wa_of 636 (by decide +kernel) rfl
theorem wsX2_giveBack : Cond.selects yX2_giveBack.cls yX2_giveBack yX2_giveBack ∈ WA := wa_of 637 (by decide +kernel) rfl
theorem wpX2_giveBack : yX2_giveBack.cls ≠ "java/lang/invoke/MethodHandle" ∧ yX2_giveBack.cls ≠ "java/lang/invoke/VarHandle" ∧ (parseMethodDescriptor yX2_giveBack.desc).map (fun d => d.parameters.length) = some 1 := by decide +kernel
theorem cwX11_366 : CWV RX11 366 yX2_giveBack cX2_giveBack 3 none 1 := ⟨goodV (wa_of 635 (by decide +kernel) rfl) wiX2_giveBack wsX2_giveBack wnX2 wcX2_giveBack, wpX2_giveBack⟩
theorem wcX7_init : Cond.code yX7_init cX7_init 1 none ∈ WA := wa_of 323 (by decide +kernel) rfl
theorem wiX7_init : Cond.instanceMethod yX7_init ∈ WA := wa_of 322 (by decide +kernel) rfl
theorem wpX7_init : yX7_init.cls ≠ "java/lang/invoke/MethodHandle" ∧ yX7_init.cls ≠ "java/lang/invoke/VarHandle" ∧ (parseMethodDescriptor yX7_init.desc).map (fun d => d.parameters.length) = some 0 := by decide +kernel
theorem cwX11_39 : CNI RX11 39 yX7_init cX7_init 1 0 := ⟨⟨"UnlikePens", wx_of 321 (by decide +kernel) rfl⟩, wiX7_init, wnX7, wcX7_init, rfl, wpX7_init⟩
theorem wcX11_comesOutAlike : Cond.code yX11_comesOutAlike cX11_comesOutAlike 3 (some .boolean) ∈ WA := wa_of 1431 (by decide +kernel) rfl
theorem wtX11_comesOutAlike : Cond.static yX11_comesOutAlike ∈ WA := wa_of 1430 (by decide +kernel) rfl
theorem wpX11_comesOutAlike : yX11_comesOutAlike.cls ≠ "java/lang/invoke/MethodHandle" ∧ yX11_comesOutAlike.cls ≠ "java/lang/invoke/VarHandle" ∧ (parseMethodDescriptor yX11_comesOutAlike.desc).map (fun d => d.parameters.length) = some 3 := by decide +kernel
theorem cwX11_403 : CWS RX11 403 yX11_comesOutAlike cX11_comesOutAlike 3 (some .boolean) 3 := ⟨goodS (wa_of 1429 (by decide +kernel) rfl) wtX11_comesOutAlike wnX11 wcX11_comesOutAlike, wpX11_comesOutAlike⟩
theorem wcX6_init : Cond.code yX6_init cX6_init 1 none ∈ WA := wa_of 339 (by decide +kernel) rfl
theorem wiX6_init : Cond.instanceMethod yX6_init ∈ WA := wa_of 338 (by decide +kernel) rfl
theorem wpX6_init : yX6_init.cls ≠ "java/lang/invoke/MethodHandle" ∧ yX6_init.cls ≠ "java/lang/invoke/VarHandle" ∧ (parseMethodDescriptor yX6_init.desc).map (fun d => d.parameters.length) = some 0 := by decide +kernel
theorem cwX11_46 : CNI RX11 46 yX6_init cX6_init 1 0 := ⟨⟨"UnlikePens", wx_of 337 (by decide +kernel) rfl⟩, wiX6_init, wnX6, wcX6_init, rfl, wpX6_init⟩
theorem wcX5_init : Cond.code yX5_init cX5_init 1 none ∈ WA := wa_of 254 (by decide +kernel) rfl
theorem wiX5_init : Cond.instanceMethod yX5_init ∈ WA := wa_of 253 (by decide +kernel) rfl
theorem wpX5_init : yX5_init.cls ≠ "java/lang/invoke/MethodHandle" ∧ yX5_init.cls ≠ "java/lang/invoke/VarHandle" ∧ (parseMethodDescriptor yX5_init.desc).map (fun d => d.parameters.length) = some 0 := by decide +kernel
theorem cwX11_53 : CNI RX11 53 yX5_init cX5_init 1 0 := ⟨⟨"UnlikePens", wx_of 367 (by decide +kernel) rfl⟩, wiX5_init, wnX5, wcX5_init, rfl, wpX5_init⟩
theorem wcX3_init : Cond.code yX3_init cX3_init 1 none ∈ WA := wa_of 372 (by decide +kernel) rfl
theorem wiX3_init : Cond.instanceMethod yX3_init ∈ WA := wa_of 371 (by decide +kernel) rfl
theorem wpX3_init : yX3_init.cls ≠ "java/lang/invoke/MethodHandle" ∧ yX3_init.cls ≠ "java/lang/invoke/VarHandle" ∧ (parseMethodDescriptor yX3_init.desc).map (fun d => d.parameters.length) = some 0 := by decide +kernel
theorem cwX11_67 : CNI RX11 67 yX3_init cX3_init 1 0 := ⟨⟨"UnlikePens", wx_of 370 (by decide +kernel) rfl⟩, wiX3_init, wnX3, wcX3_init, rfl, wpX3_init⟩
theorem wcX4_init : Cond.code yX4_init cX4_init 1 none ∈ WA := wa_of 421 (by decide +kernel) rfl
theorem wiX4_init : Cond.instanceMethod yX4_init ∈ WA := wa_of 420 (by decide +kernel) rfl
theorem wpX4_init : yX4_init.cls ≠ "java/lang/invoke/MethodHandle" ∧ yX4_init.cls ≠ "java/lang/invoke/VarHandle" ∧ (parseMethodDescriptor yX4_init.desc).map (fun d => d.parameters.length) = some 0 := by decide +kernel
theorem cwX11_77 : CWI RX11 77 yX4_init cX4_init 1 0 := ⟨wa_of 419 (by decide +kernel) rfl, wiX4_init, wnX4, wcX4_init, rfl, wpX4_init⟩
theorem wcX1_init : Cond.code yX1_init cX1_init 1 none ∈ WA := wa_of 444 (by decide +kernel) rfl
theorem wiX1_init : Cond.instanceMethod yX1_init ∈ WA := wa_of 443 (by decide +kernel) rfl
theorem wpX1_init : yX1_init.cls ≠ "java/lang/invoke/MethodHandle" ∧ yX1_init.cls ≠ "java/lang/invoke/VarHandle" ∧ (parseMethodDescriptor yX1_init.desc).map (fun d => d.parameters.length) = some 0 := by decide +kernel
theorem cwX11_87 : CNI RX11 87 yX1_init cX1_init 1 0 := ⟨⟨"UnlikePens", wx_of 442 (by decide +kernel) rfl⟩, wiX1_init, wnX1, wcX1_init, rfl, wpX1_init⟩
theorem wcX9_init : Cond.code yX9_init cX9_init 1 none ∈ WA := wa_of 143 (by decide +kernel) rfl
theorem wiX9_init : Cond.instanceMethod yX9_init ∈ WA := wa_of 142 (by decide +kernel) rfl
theorem wpX9_init : yX9_init.cls ≠ "java/lang/invoke/MethodHandle" ∧ yX9_init.cls ≠ "java/lang/invoke/VarHandle" ∧ (parseMethodDescriptor yX9_init.desc).map (fun d => d.parameters.length) = some 0 := by decide +kernel
theorem cwX11_9 : CNI RX11 9 yX9_init cX9_init 1 0 := ⟨⟨"UnlikePens", wx_of 141 (by decide +kernel) rfl⟩, wiX9_init, wnX9, wcX9_init, rfl, wpX9_init⟩
theorem wcX0_init : Cond.code yX0_init cX0_init 1 none ∈ WA := wa_of 459 (by decide +kernel) rfl
theorem wiX0_init : Cond.instanceMethod yX0_init ∈ WA := wa_of 458 (by decide +kernel) rfl
theorem wpX0_init : yX0_init.cls ≠ "java/lang/invoke/MethodHandle" ∧ yX0_init.cls ≠ "java/lang/invoke/VarHandle" ∧ (parseMethodDescriptor yX0_init.desc).map (fun d => d.parameters.length) = some 0 := by decide +kernel
theorem cwX11_97 : CNI RX11 97 yX0_init cX0_init 1 0 := ⟨⟨"UnlikePens", wx_of 457 (by decide +kernel) rfl⟩, wiX0_init, wnX0, wcX0_init, rfl, wpX0_init⟩
theorem cwX1_19 : CWV RX1 19 yX9_more cX9_more 1 (some .boolean) 0 := ⟨goodV (wa_of 1106 (by decide +kernel) rfl) wiX9_more wsX9_more wnX9 wcX9_more, wpX9_more⟩
theorem cwX1_25 : CWV RX1 25 yX9_number cX9_number 3 (some .int) 1 := ⟨goodV (wa_of 1107 (by decide +kernel) rfl) wiX9_number wsX9_number wnX9 wcX9_number, wpX9_number⟩
theorem cwX1_32 : CWV RX1 32 yX9_fail cX9_fail 3 none 2 := ⟨goodV (wa_of 1108 (by decide +kernel) rfl) wiX9_fail wsX9_fail wnX9 wcX9_fail, wpX9_fail⟩
theorem cwX1_36 : CWV RX1 36 yX9_need cX9_need 2 none 1 := ⟨goodV (wa_of 1109 (by decide +kernel) rfl) wiX9_need wsX9_need wnX9 wcX9_need, wpX9_need⟩
theorem cwX2_34 : CWI RX2 34 yX8_init cX8_init 2 0 := ⟨wa_of 552 (by decide +kernel) rfl, wiX8_init, wnX8, wcX8_init, rfl, wpX8_init⟩
theorem wcX2_slot : Cond.code yX2_slot cX2_slot 2 (some (.object "UnlikePens$State")) ∈ WA := wa_of 551 (by decide +kernel) rfl
theorem wtX2_slot : Cond.static yX2_slot ∈ WA := wa_of 550 (by decide +kernel) rfl
theorem wpX2_slot : yX2_slot.cls ≠ "java/lang/invoke/MethodHandle" ∧ yX2_slot.cls ≠ "java/lang/invoke/VarHandle" ∧ (parseMethodDescriptor yX2_slot.desc).map (fun d => d.parameters.length) = some 2 := by decide +kernel
theorem cwX2_35 : CWS RX2 35 yX2_slot cX2_slot 2 (some (.object "UnlikePens$State")) 2 := ⟨goodS (wa_of 549 (by decide +kernel) rfl) wtX2_slot wnX2 wcX2_slot, wpX2_slot⟩
theorem wcX8_copyFrom : Cond.code yX8_copyFrom cX8_copyFrom 3 none ∈ WA := wa_of 556 (by decide +kernel) rfl
theorem wiX8_copyFrom : Cond.instanceMethod yX8_copyFrom ∈ WA := wa_of 554 (by decide +kernel) rfl
theorem wsX8_copyFrom : Cond.selects yX8_copyFrom.cls yX8_copyFrom yX8_copyFrom ∈ WA := wa_of 555 (by decide +kernel) rfl
theorem wpX8_copyFrom : yX8_copyFrom.cls ≠ "java/lang/invoke/MethodHandle" ∧ yX8_copyFrom.cls ≠ "java/lang/invoke/VarHandle" ∧ (parseMethodDescriptor yX8_copyFrom.desc).map (fun d => d.parameters.length) = some 1 := by decide +kernel
theorem cwX2_39 : CWV RX2 39 yX8_copyFrom cX8_copyFrom 3 none 1 := ⟨goodV (wa_of 553 (by decide +kernel) rfl) wiX8_copyFrom wsX8_copyFrom wnX8 wcX8_copyFrom, wpX8_copyFrom⟩
theorem cwX3_37 : CWV RX3 37 yX9_more cX9_more 1 (some .boolean) 0 := ⟨goodV (wa_of 761 (by decide +kernel) rfl) wiX9_more wsX9_more wnX9 wcX9_more, wpX9_more⟩
theorem wcX3_parseClause : Cond.code yX3_parseClause cX3_parseClause 4 none ∈ WA := wa_of 772 (by decide +kernel) rfl
theorem wiX3_parseClause : Cond.instanceMethod yX3_parseClause ∈ WA := wa_of 771 (by decide +kernel) rfl
theorem wsX3_parseClause : Cond.selects yX3_parseClause.cls yX3_parseClause yX3_parseClause ∈ WA := wa_of 12 (by decide +kernel) rfl
theorem wpX3_parseClause : yX3_parseClause.cls ≠ "java/lang/invoke/MethodHandle" ∧ yX3_parseClause.cls ≠ "java/lang/invoke/VarHandle" ∧ (parseMethodDescriptor yX3_parseClause.desc).map (fun d => d.parameters.length) = some 2 := by decide +kernel
theorem cwX3_43 : CWV RX3 43 yX3_parseClause cX3_parseClause 4 none 2 := ⟨goodV (wa_of 769 (by decide +kernel) rfl) wiX3_parseClause wsX3_parseClause wnX3 wcX3_parseClause, wpX3_parseClause⟩
theorem cwX3_49 : CWV RX3 49 yX9_word cX9_word 5 (some .int) 1 := ⟨goodV (wa_of 774 (by decide +kernel) rfl) wiX9_word wsX9_word wnX9 wcX9_word, wpX9_word⟩
theorem cwX3_56 : CWV RX3 56 yX9_fail cX9_fail 3 none 2 := ⟨goodV (wa_of 842 (by decide +kernel) rfl) wiX9_fail wsX9_fail wnX9 wcX9_fail, wpX9_fail⟩
theorem wcX3_parsePen : Cond.code yX3_parsePen cX3_parsePen 2 none ∈ WA := wa_of 846 (by decide +kernel) rfl
theorem wiX3_parsePen : Cond.instanceMethod yX3_parsePen ∈ WA := wa_of 845 (by decide +kernel) rfl
theorem wsX3_parsePen : Cond.selects yX3_parsePen.cls yX3_parsePen yX3_parsePen ∈ WA := wa_of 15 (by decide +kernel) rfl
theorem wpX3_parsePen : yX3_parsePen.cls ≠ "java/lang/invoke/MethodHandle" ∧ yX3_parsePen.cls ≠ "java/lang/invoke/VarHandle" ∧ (parseMethodDescriptor yX3_parsePen.desc).map (fun d => d.parameters.length) = some 1 := by decide +kernel
theorem cwX3_60 : CWV RX3 60 yX3_parsePen cX3_parsePen 2 none 1 := ⟨goodV (wa_of 843 (by decide +kernel) rfl) wiX3_parsePen wsX3_parsePen wnX3 wcX3_parsePen, wpX3_parsePen⟩
theorem wcX3_parseWire : Cond.code yX3_parseWire cX3_parseWire 2 none ∈ WA := wa_of 863 (by decide +kernel) rfl
theorem wiX3_parseWire : Cond.instanceMethod yX3_parseWire ∈ WA := wa_of 862 (by decide +kernel) rfl
theorem wsX3_parseWire : Cond.selects yX3_parseWire.cls yX3_parseWire yX3_parseWire ∈ WA := wa_of 16 (by decide +kernel) rfl
theorem wpX3_parseWire : yX3_parseWire.cls ≠ "java/lang/invoke/MethodHandle" ∧ yX3_parseWire.cls ≠ "java/lang/invoke/VarHandle" ∧ (parseMethodDescriptor yX3_parseWire.desc).map (fun d => d.parameters.length) = some 1 := by decide +kernel
theorem cwX3_64 : CWV RX3 64 yX3_parseWire cX3_parseWire 2 none 1 := ⟨goodV (wa_of 860 (by decide +kernel) rfl) wiX3_parseWire wsX3_parseWire wnX3 wcX3_parseWire, wpX3_parseWire⟩
theorem cwX3_67 : CWV RX3 67 yX9_number cX9_number 3 (some .int) 1 := ⟨goodV (wa_of 847 (by decide +kernel) rfl) wiX9_number wsX9_number wnX9 wcX9_number, wpX9_number⟩
theorem cwX3_71 : CWV RX3 71 yX9_need cX9_need 2 none 1 := ⟨goodV (wa_of 864 (by decide +kernel) rfl) wiX9_need wsX9_need wnX9 wcX9_need, wpX9_need⟩
theorem cwX3_75 : CWV RX3 75 yX3_hearersOf cX3_hearersOf 4 (some .int) 1 := ⟨goodV (wa_of 1382 (by decide +kernel) rfl) wiX3_hearersOf wsX3_hearersOf wnX3 wcX3_hearersOf, wpX3_hearersOf⟩
theorem cwX4_100 : CWV RX4 100 yX5_outOf cX5_outOf 2 (some .int) 1 := ⟨goodV (wa_of 1026 (by decide +kernel) rfl) wiX5_outOf wsX5_outOf wnX5 wcX5_outOf, wpX5_outOf⟩
theorem cwX4_103 : CNS RX4 103 yX11_distance cX11_distance 2 (some .int) 2 := ⟨⟨"UnlikePens", wx_of 1027 (by decide +kernel) rfl⟩, wtX11_distance, wnX11, wcX11_distance, wpX11_distance⟩
theorem cwX4_119 : CWV RX4 119 yX4_levelOfGiven cX4_levelOfGiven 4 (some .int) 0 := ⟨goodV (wa_of 1037 (by decide +kernel) rfl) wiX4_levelOfGiven wsX4_levelOfGiven wnX4 wcX4_levelOfGiven, wpX4_levelOfGiven⟩
theorem wcX4_together : Cond.code yX4_together cX4_together 3 (some .int) ∈ WA := wa_of 1043 (by decide +kernel) rfl
theorem wtX4_together : Cond.static yX4_together ∈ WA := wa_of 1042 (by decide +kernel) rfl
theorem wpX4_together : yX4_together.cls ≠ "java/lang/invoke/MethodHandle" ∧ yX4_together.cls ≠ "java/lang/invoke/VarHandle" ∧ (parseMethodDescriptor yX4_together.desc).map (fun d => d.parameters.length) = some 3 := by decide +kernel
theorem cwX4_123 : CWS RX4 123 yX4_together cX4_together 3 (some .int) 3 := ⟨goodS (wa_of 1041 (by decide +kernel) rfl) wtX4_together wnX4 wcX4_together, wpX4_together⟩
theorem wcX4_put : Cond.code yX4_put cX4_put 3 none ∈ WA := wa_of 895 (by decide +kernel) rfl
theorem wiX4_put : Cond.instanceMethod yX4_put ∈ WA := wa_of 894 (by decide +kernel) rfl
theorem wsX4_put : Cond.selects yX4_put.cls yX4_put yX4_put ∈ WA := wa_of 19 (by decide +kernel) rfl
theorem wpX4_put : yX4_put.cls ≠ "java/lang/invoke/MethodHandle" ∧ yX4_put.cls ≠ "java/lang/invoke/VarHandle" ∧ (parseMethodDescriptor yX4_put.desc).map (fun d => d.parameters.length) = some 2 := by decide +kernel
theorem cwX4_28 : CWV RX4 28 yX4_put cX4_put 3 none 2 := ⟨goodV (wa_of 892 (by decide +kernel) rfl) wiX4_put wsX4_put wnX4 wcX4_put, wpX4_put⟩
theorem wcX4_parseSum : Cond.code yX4_parseSum cX4_parseSum 5 none ∈ WA := wa_of 922 (by decide +kernel) rfl
theorem wiX4_parseSum : Cond.instanceMethod yX4_parseSum ∈ WA := wa_of 921 (by decide +kernel) rfl
theorem wsX4_parseSum : Cond.selects yX4_parseSum.cls yX4_parseSum yX4_parseSum ∈ WA := wa_of 20 (by decide +kernel) rfl
theorem wpX4_parseSum : yX4_parseSum.cls ≠ "java/lang/invoke/MethodHandle" ∧ yX4_parseSum.cls ≠ "java/lang/invoke/VarHandle" ∧ (parseMethodDescriptor yX4_parseSum.desc).map (fun d => d.parameters.length) = some 2 := by decide +kernel
theorem cwX4_32 : CWV RX4 32 yX4_parseSum cX4_parseSum 5 none 2 := ⟨goodV (wa_of 919 (by decide +kernel) rfl) wiX4_parseSum wsX4_parseSum wnX4 wcX4_parseSum, wpX4_parseSum⟩
theorem wcX9_needEnd : Cond.code yX9_needEnd cX9_needEnd 1 none ∈ WA := wa_of 959 (by decide +kernel) rfl
theorem wiX9_needEnd : Cond.instanceMethod yX9_needEnd ∈ WA := wa_of 957 (by decide +kernel) rfl
theorem wsX9_needEnd : Cond.selects yX9_needEnd.cls yX9_needEnd yX9_needEnd ∈ WA := wa_of 958 (by decide +kernel) rfl
theorem wpX9_needEnd : yX9_needEnd.cls ≠ "java/lang/invoke/MethodHandle" ∧ yX9_needEnd.cls ≠ "java/lang/invoke/VarHandle" ∧ (parseMethodDescriptor yX9_needEnd.desc).map (fun d => d.parameters.length) = some 0 := by decide +kernel
theorem cwX4_36 : CWV RX4 36 yX9_needEnd cX9_needEnd 1 none 0 := ⟨goodV (wa_of 956 (by decide +kernel) rfl) wiX9_needEnd wsX9_needEnd wnX9 wcX9_needEnd, wpX9_needEnd⟩
theorem wcX4_parseProduct : Cond.code yX4_parseProduct cX4_parseProduct 5 none ∈ WA := wa_of 926 (by decide +kernel) rfl
theorem wiX4_parseProduct : Cond.instanceMethod yX4_parseProduct ∈ WA := wa_of 925 (by decide +kernel) rfl
theorem wsX4_parseProduct : Cond.selects yX4_parseProduct.cls yX4_parseProduct yX4_parseProduct ∈ WA := wa_of 21 (by decide +kernel) rfl
theorem wpX4_parseProduct : yX4_parseProduct.cls ≠ "java/lang/invoke/MethodHandle" ∧ yX4_parseProduct.cls ≠ "java/lang/invoke/VarHandle" ∧ (parseMethodDescriptor yX4_parseProduct.desc).map (fun d => d.parameters.length) = some 2 := by decide +kernel
theorem cwX4_41 : CWV RX4 41 yX4_parseProduct cX4_parseProduct 5 none 2 := ⟨goodV (wa_of 923 (by decide +kernel) rfl) wiX4_parseProduct wsX4_parseProduct wnX4 wcX4_parseProduct, wpX4_parseProduct⟩
theorem wcX9_oneOf : Cond.code yX9_oneOf cX9_oneOf 3 (some .int) ∈ WA := wa_of 953 (by decide +kernel) rfl
theorem wiX9_oneOf : Cond.instanceMethod yX9_oneOf ∈ WA := wa_of 951 (by decide +kernel) rfl
theorem wsX9_oneOf : Cond.selects yX9_oneOf.cls yX9_oneOf yX9_oneOf ∈ WA := wa_of 952 (by decide +kernel) rfl
theorem wpX9_oneOf : yX9_oneOf.cls ≠ "java/lang/invoke/MethodHandle" ∧ yX9_oneOf.cls ≠ "java/lang/invoke/VarHandle" ∧ (parseMethodDescriptor yX9_oneOf.desc).map (fun d => d.parameters.length) = some 1 := by decide +kernel
theorem cwX4_46 : CWV RX4 46 yX9_oneOf cX9_oneOf 3 (some .int) 1 := ⟨goodV (wa_of 950 (by decide +kernel) rfl) wiX9_oneOf wsX9_oneOf wnX9 wcX9_oneOf, wpX9_oneOf⟩
theorem wcX4_parseUnit : Cond.code yX4_parseUnit cX4_parseUnit 4 none ∈ WA := wa_of 930 (by decide +kernel) rfl
theorem wiX4_parseUnit : Cond.instanceMethod yX4_parseUnit ∈ WA := wa_of 929 (by decide +kernel) rfl
theorem wsX4_parseUnit : Cond.selects yX4_parseUnit.cls yX4_parseUnit yX4_parseUnit ∈ WA := wa_of 22 (by decide +kernel) rfl
theorem wpX4_parseUnit : yX4_parseUnit.cls ≠ "java/lang/invoke/MethodHandle" ∧ yX4_parseUnit.cls ≠ "java/lang/invoke/VarHandle" ∧ (parseMethodDescriptor yX4_parseUnit.desc).map (fun d => d.parameters.length) = some 2 := by decide +kernel
theorem cwX4_50 : CWV RX4 50 yX4_parseUnit cX4_parseUnit 4 none 2 := ⟨goodV (wa_of 927 (by decide +kernel) rfl) wiX4_parseUnit wsX4_parseUnit wnX4 wcX4_parseUnit, wpX4_parseUnit⟩
theorem wcX9_digitComes : Cond.code yX9_digitComes cX9_digitComes 1 (some .boolean) ∈ WA := wa_of 854 (by decide +kernel) rfl
theorem wiX9_digitComes : Cond.instanceMethod yX9_digitComes ∈ WA := wa_of 852 (by decide +kernel) rfl
theorem wsX9_digitComes : Cond.selects yX9_digitComes.cls yX9_digitComes yX9_digitComes ∈ WA := wa_of 853 (by decide +kernel) rfl
theorem wpX9_digitComes : yX9_digitComes.cls ≠ "java/lang/invoke/MethodHandle" ∧ yX9_digitComes.cls ≠ "java/lang/invoke/VarHandle" ∧ (parseMethodDescriptor yX9_digitComes.desc).map (fun d => d.parameters.length) = some 0 := by decide +kernel
theorem cwX4_55 : CWV RX4 55 yX9_digitComes cX9_digitComes 1 (some .boolean) 0 := ⟨goodV (wa_of 931 (by decide +kernel) rfl) wiX9_digitComes wsX9_digitComes wnX9 wcX9_digitComes, wpX9_digitComes⟩
theorem cwX4_59 : CWV RX4 59 yX9_number cX9_number 3 (some .int) 1 := ⟨goodV (wa_of 932 (by decide +kernel) rfl) wiX9_number wsX9_number wnX9 wcX9_number, wpX9_number⟩
theorem cwX4_63 : CWV RX4 63 yX9_comes cX9_comes 2 (some .boolean) 1 := ⟨goodV (wa_of 933 (by decide +kernel) rfl) wiX9_comes wsX9_comes wnX9 wcX9_comes, wpX9_comes⟩
theorem wcX4_parseBracket : Cond.code yX4_parseBracket cX4_parseBracket 3 none ∈ WA := wa_of 940 (by decide +kernel) rfl
theorem wiX4_parseBracket : Cond.instanceMethod yX4_parseBracket ∈ WA := wa_of 939 (by decide +kernel) rfl
theorem wsX4_parseBracket : Cond.selects yX4_parseBracket.cls yX4_parseBracket yX4_parseBracket ∈ WA := wa_of 23 (by decide +kernel) rfl
theorem wpX4_parseBracket : yX4_parseBracket.cls ≠ "java/lang/invoke/MethodHandle" ∧ yX4_parseBracket.cls ≠ "java/lang/invoke/VarHandle" ∧ (parseMethodDescriptor yX4_parseBracket.desc).map (fun d => d.parameters.length) = some 2 := by decide +kernel
theorem cwX4_67 : CWV RX4 67 yX4_parseBracket cX4_parseBracket 3 none 2 := ⟨goodV (wa_of 937 (by decide +kernel) rfl) wiX4_parseBracket wsX4_parseBracket wnX4 wcX4_parseBracket, wpX4_parseBracket⟩
theorem cwX4_72 : CWV RX4 72 yX9_word cX9_word 5 (some .int) 1 := ⟨goodV (wa_of 944 (by decide +kernel) rfl) wiX9_word wsX9_word wnX9 wcX9_word, wpX9_word⟩
theorem wcX4_parsePair : Cond.code yX4_parsePair cX4_parsePair 4 none ∈ WA := wa_of 948 (by decide +kernel) rfl
theorem wiX4_parsePair : Cond.instanceMethod yX4_parsePair ∈ WA := wa_of 947 (by decide +kernel) rfl
theorem wsX4_parsePair : Cond.selects yX4_parsePair.cls yX4_parsePair yX4_parsePair ∈ WA := wa_of 24 (by decide +kernel) rfl
theorem wpX4_parsePair : yX4_parsePair.cls ≠ "java/lang/invoke/MethodHandle" ∧ yX4_parsePair.cls ≠ "java/lang/invoke/VarHandle" ∧ (parseMethodDescriptor yX4_parsePair.desc).map (fun d => d.parameters.length) = some 3 := by decide +kernel
theorem cwX4_75 : CWV RX4 75 yX4_parsePair cX4_parsePair 4 none 3 := ⟨goodV (wa_of 945 (by decide +kernel) rfl) wiX4_parsePair wsX4_parsePair wnX4 wcX4_parsePair, wpX4_parsePair⟩
theorem cwX4_82 : CWV RX4 82 yX9_fail cX9_fail 3 none 2 := ⟨goodV (wa_of 941 (by decide +kernel) rfl) wiX9_fail wsX9_fail wnX9 wcX9_fail, wpX9_fail⟩
theorem cwX4_85 : CWV RX4 85 yX9_need cX9_need 2 none 1 := ⟨goodV (wa_of 942 (by decide +kernel) rfl) wiX9_need wsX9_need wnX9 wcX9_need, wpX9_need⟩
theorem cwX4_95 : CWV RX4 95 yX5_jams cX5_jams 1 (some .boolean) 0 := ⟨goodV (wa_of 1025 (by decide +kernel) rfl) wiX5_jams wsX5_jams wnX5 wcX5_jams, wpX5_jams⟩
theorem wcX5_newSheet : Cond.code yX5_newSheet cX5_newSheet 3 none ∈ WA := wa_of 883 (by decide +kernel) rfl
theorem wiX5_newSheet : Cond.instanceMethod yX5_newSheet ∈ WA := wa_of 882 (by decide +kernel) rfl
theorem wsX5_newSheet : Cond.selects yX5_newSheet.cls yX5_newSheet yX5_newSheet ∈ WA := wa_of 17 (by decide +kernel) rfl
theorem wpX5_newSheet : yX5_newSheet.cls ≠ "java/lang/invoke/MethodHandle" ∧ yX5_newSheet.cls ≠ "java/lang/invoke/VarHandle" ∧ (parseMethodDescriptor yX5_newSheet.desc).map (fun d => d.parameters.length) = some 1 := by decide +kernel
theorem cwX5_36 : CWV RX5 36 yX5_newSheet cX5_newSheet 3 none 1 := ⟨goodV (wa_of 880 (by decide +kernel) rfl) wiX5_newSheet wsX5_newSheet wnX5 wcX5_newSheet, wpX5_newSheet⟩
theorem wcX5_copyPlaces : Cond.code yX5_copyPlaces cX5_copyPlaces 3 none ∈ WA := wa_of 564 (by decide +kernel) rfl
theorem wiX5_copyPlaces : Cond.instanceMethod yX5_copyPlaces ∈ WA := wa_of 563 (by decide +kernel) rfl
theorem wsX5_copyPlaces : Cond.selects yX5_copyPlaces.cls yX5_copyPlaces yX5_copyPlaces ∈ WA := wa_of 0 (by decide +kernel) rfl
theorem wpX5_copyPlaces : yX5_copyPlaces.cls ≠ "java/lang/invoke/MethodHandle" ∧ yX5_copyPlaces.cls ≠ "java/lang/invoke/VarHandle" ∧ (parseMethodDescriptor yX5_copyPlaces.desc).map (fun d => d.parameters.length) = some 2 := by decide +kernel
theorem cwX5_43 : CWV RX5 43 yX5_copyPlaces cX5_copyPlaces 3 none 2 := ⟨goodV (wa_of 561 (by decide +kernel) rfl) wiX5_copyPlaces wsX5_copyPlaces wnX5 wcX5_copyPlaces, wpX5_copyPlaces⟩
theorem wcX5_clearPlace : Cond.code yX5_clearPlace cX5_clearPlace 2 none ∈ WA := wa_of 887 (by decide +kernel) rfl
theorem wiX5_clearPlace : Cond.instanceMethod yX5_clearPlace ∈ WA := wa_of 886 (by decide +kernel) rfl
theorem wsX5_clearPlace : Cond.selects yX5_clearPlace.cls yX5_clearPlace yX5_clearPlace ∈ WA := wa_of 18 (by decide +kernel) rfl
theorem wpX5_clearPlace : yX5_clearPlace.cls ≠ "java/lang/invoke/MethodHandle" ∧ yX5_clearPlace.cls ≠ "java/lang/invoke/VarHandle" ∧ (parseMethodDescriptor yX5_clearPlace.desc).map (fun d => d.parameters.length) = some 1 := by decide +kernel
theorem cwX5_53 : CWV RX5 53 yX5_clearPlace cX5_clearPlace 2 none 1 := ⟨goodV (wa_of 884 (by decide +kernel) rfl) wiX5_clearPlace wsX5_clearPlace wnX5 wcX5_clearPlace, wpX5_clearPlace⟩
theorem cwX5_56 : CWV RX5 56 yX5_jams cX5_jams 1 (some .boolean) 0 := ⟨goodV (wa_of 613 (by decide +kernel) rfl) wiX5_jams wsX5_jams wnX5 wcX5_jams, wpX5_jams⟩
theorem cwX5_60 : CWV RX5 60 yX5_freePlaces cX5_freePlaces 1 (some .int) 0 := ⟨goodV (wa_of 614 (by decide +kernel) rfl) wiX5_freePlaces wsX5_freePlaces wnX5 wcX5_freePlaces, wpX5_freePlaces⟩
theorem wcX5_isReal : Cond.code yX5_isReal cX5_isReal 1 (some .boolean) ∈ WA := wa_of 587 (by decide +kernel) rfl
theorem wiX5_isReal : Cond.instanceMethod yX5_isReal ∈ WA := wa_of 586 (by decide +kernel) rfl
theorem wsX5_isReal : Cond.selects yX5_isReal.cls yX5_isReal yX5_isReal ∈ WA := wa_of 2 (by decide +kernel) rfl
theorem wpX5_isReal : yX5_isReal.cls ≠ "java/lang/invoke/MethodHandle" ∧ yX5_isReal.cls ≠ "java/lang/invoke/VarHandle" ∧ (parseMethodDescriptor yX5_isReal.desc).map (fun d => d.parameters.length) = some 0 := by decide +kernel
theorem cwX5_64 : CWV RX5 64 yX5_isReal cX5_isReal 1 (some .boolean) 0 := ⟨goodV (wa_of 584 (by decide +kernel) rfl) wiX5_isReal wsX5_isReal wnX5 wcX5_isReal, wpX5_isReal⟩
theorem wcX5_realTaken : Cond.code yX5_realTaken cX5_realTaken 2 (some .double) ∈ WA := wa_of 595 (by decide +kernel) rfl
theorem wiX5_realTaken : Cond.instanceMethod yX5_realTaken ∈ WA := wa_of 594 (by decide +kernel) rfl
theorem wsX5_realTaken : Cond.selects yX5_realTaken.cls yX5_realTaken yX5_realTaken ∈ WA := wa_of 4 (by decide +kernel) rfl
theorem wpX5_realTaken : yX5_realTaken.cls ≠ "java/lang/invoke/MethodHandle" ∧ yX5_realTaken.cls ≠ "java/lang/invoke/VarHandle" ∧ (parseMethodDescriptor yX5_realTaken.desc).map (fun d => d.parameters.length) = some 1 := by decide +kernel
theorem cwX5_67 : CWV RX5 67 yX5_realTaken cX5_realTaken 2 (some .double) 1 := ⟨goodV (wa_of 592 (by decide +kernel) rfl) wiX5_realTaken wsX5_realTaken wnX5 wcX5_realTaken, wpX5_realTaken⟩
theorem wcX5_markTaken : Cond.code yX5_markTaken cX5_markTaken 2 (some .int) ∈ WA := wa_of 591 (by decide +kernel) rfl
theorem wiX5_markTaken : Cond.instanceMethod yX5_markTaken ∈ WA := wa_of 590 (by decide +kernel) rfl
theorem wsX5_markTaken : Cond.selects yX5_markTaken.cls yX5_markTaken yX5_markTaken ∈ WA := wa_of 3 (by decide +kernel) rfl
theorem wpX5_markTaken : yX5_markTaken.cls ≠ "java/lang/invoke/MethodHandle" ∧ yX5_markTaken.cls ≠ "java/lang/invoke/VarHandle" ∧ (parseMethodDescriptor yX5_markTaken.desc).map (fun d => d.parameters.length) = some 1 := by decide +kernel
theorem cwX5_71 : CWV RX5 71 yX5_markTaken cX5_markTaken 2 (some .int) 1 := ⟨goodV (wa_of 588 (by decide +kernel) rfl) wiX5_markTaken wsX5_markTaken wnX5 wcX5_markTaken, wpX5_markTaken⟩
theorem wcX5_wholeTaken : Cond.code yX5_wholeTaken cX5_wholeTaken 2 (some .long) ∈ WA := wa_of 604 (by decide +kernel) rfl
theorem wiX5_wholeTaken : Cond.instanceMethod yX5_wholeTaken ∈ WA := wa_of 603 (by decide +kernel) rfl
theorem wsX5_wholeTaken : Cond.selects yX5_wholeTaken.cls yX5_wholeTaken yX5_wholeTaken ∈ WA := wa_of 5 (by decide +kernel) rfl
theorem wpX5_wholeTaken : yX5_wholeTaken.cls ≠ "java/lang/invoke/MethodHandle" ∧ yX5_wholeTaken.cls ≠ "java/lang/invoke/VarHandle" ∧ (parseMethodDescriptor yX5_wholeTaken.desc).map (fun d => d.parameters.length) = some 1 := by decide +kernel
theorem cwX5_75 : CWV RX5 75 yX5_wholeTaken cX5_wholeTaken 2 (some .long) 1 := ⟨goodV (wa_of 601 (by decide +kernel) rfl) wiX5_wholeTaken wsX5_wholeTaken wnX5 wcX5_wholeTaken, wpX5_wholeTaken⟩
theorem wcX5_readOf : Cond.code yX5_readOf cX5_readOf 3 (some .int) ∈ WA := wa_of 598 (by decide +kernel) rfl
theorem wtX5_readOf : Cond.static yX5_readOf ∈ WA := wa_of 597 (by decide +kernel) rfl
theorem wpX5_readOf : yX5_readOf.cls ≠ "java/lang/invoke/MethodHandle" ∧ yX5_readOf.cls ≠ "java/lang/invoke/VarHandle" ∧ (parseMethodDescriptor yX5_readOf.desc).map (fun d => d.parameters.length) = some 2 := by decide +kernel
theorem cwX5_88 : CWS RX5 88 yX5_readOf cX5_readOf 3 (some .int) 2 := ⟨goodS (wa_of 596 (by decide +kernel) rfl) wtX5_readOf wnX5 wcX5_readOf, wpX5_readOf⟩
theorem wcX5_isLess : Cond.code yX5_isLess cX5_isLess 3 (some .boolean) ∈ WA := wa_of 1318 (by decide +kernel) rfl
theorem wiX5_isLess : Cond.instanceMethod yX5_isLess ∈ WA := wa_of 1317 (by decide +kernel) rfl
theorem wsX5_isLess : Cond.selects yX5_isLess.cls yX5_isLess yX5_isLess ∈ WA := wa_of 34 (by decide +kernel) rfl
theorem wpX5_isLess : yX5_isLess.cls ≠ "java/lang/invoke/MethodHandle" ∧ yX5_isLess.cls ≠ "java/lang/invoke/VarHandle" ∧ (parseMethodDescriptor yX5_isLess.desc).map (fun d => d.parameters.length) = some 2 := by decide +kernel
theorem cwX5_92 : CWV RX5 92 yX5_isLess cX5_isLess 3 (some .boolean) 2 := ⟨goodV (wa_of 1315 (by decide +kernel) rfl) wiX5_isLess wsX5_isLess wnX5 wcX5_isLess, wpX5_isLess⟩
theorem cwX5_96 : CWV RX5 96 yX5_readAt cX5_readAt 2 (some .int) 1 := ⟨goodV (wa_of 1481 (by decide +kernel) rfl) wiX5_readAt wsX5_readAt wnX5 wcX5_readAt, wpX5_readAt⟩
theorem wcX6_goOn : Cond.code yX6_goOn cX6_goOn 9 none ∈ WA := wa_of 1369 (by decide +kernel) rfl
theorem wtX6_goOn : Cond.static yX6_goOn ∈ WA := wa_of 1368 (by decide +kernel) rfl
theorem wpX6_goOn : yX6_goOn.cls ≠ "java/lang/invoke/MethodHandle" ∧ yX6_goOn.cls ≠ "java/lang/invoke/VarHandle" ∧ (parseMethodDescriptor yX6_goOn.desc).map (fun d => d.parameters.length) = some 6 := by decide +kernel
theorem cwX6_36 : CWS RX6 36 yX6_goOn cX6_goOn 9 none 6 := ⟨goodS (wa_of 1367 (by decide +kernel) rfl) wtX6_goOn wnX6 wcX6_goOn, wpX6_goOn⟩
theorem cwX6_46 : CWV RX6 46 yX5_jams cX5_jams 1 (some .boolean) 0 := ⟨goodV (wa_of 1370 (by decide +kernel) rfl) wiX5_jams wsX5_jams wnX5 wcX5_jams, wpX5_jams⟩
theorem cwX6_52 : CWV RX6 52 yX5_outOf cX5_outOf 2 (some .int) 1 := ⟨goodV (wa_of 1371 (by decide +kernel) rfl) wiX5_outOf wsX5_outOf wnX5 wcX5_outOf, wpX5_outOf⟩
theorem cwX6_56 : CNS RX6 56 yX11_distance cX11_distance 2 (some .int) 2 := ⟨⟨"UnlikePens", wx_of 1372 (by decide +kernel) rfl⟩, wtX11_distance, wnX11, wcX11_distance, wpX11_distance⟩
theorem wcX6_weigh : Cond.code yX6_weigh cX6_weigh 4 none ∈ WA := wa_of 1376 (by decide +kernel) rfl
theorem wiX6_weigh : Cond.instanceMethod yX6_weigh ∈ WA := wa_of 1375 (by decide +kernel) rfl
theorem wsX6_weigh : Cond.selects yX6_weigh.cls yX6_weigh yX6_weigh ∈ WA := wa_of 37 (by decide +kernel) rfl
theorem wpX6_weigh : yX6_weigh.cls ≠ "java/lang/invoke/MethodHandle" ∧ yX6_weigh.cls ≠ "java/lang/invoke/VarHandle" ∧ (parseMethodDescriptor yX6_weigh.desc).map (fun d => d.parameters.length) = some 2 := by decide +kernel
theorem cwX6_60 : CWV RX6 60 yX6_weigh cX6_weigh 4 none 2 := ⟨goodV (wa_of 1373 (by decide +kernel) rfl) wiX6_weigh wsX6_weigh wnX6 wcX6_weigh, wpX6_weigh⟩
theorem wcX3_isHeardBy : Cond.code yX3_isHeardBy cX3_isHeardBy 3 (some .boolean) ∈ WA := wa_of 1381 (by decide +kernel) rfl
theorem wiX3_isHeardBy : Cond.instanceMethod yX3_isHeardBy ∈ WA := wa_of 1379 (by decide +kernel) rfl
theorem wsX3_isHeardBy : Cond.selects yX3_isHeardBy.cls yX3_isHeardBy yX3_isHeardBy ∈ WA := wa_of 1380 (by decide +kernel) rfl
theorem wpX3_isHeardBy : yX3_isHeardBy.cls ≠ "java/lang/invoke/MethodHandle" ∧ yX3_isHeardBy.cls ≠ "java/lang/invoke/VarHandle" ∧ (parseMethodDescriptor yX3_isHeardBy.desc).map (fun d => d.parameters.length) = some 2 := by decide +kernel
theorem cwX6_68 : CWV RX6 68 yX3_isHeardBy cX3_isHeardBy 3 (some .boolean) 2 := ⟨goodV (wa_of 1378 (by decide +kernel) rfl) wiX3_isHeardBy wsX3_isHeardBy wnX3 wcX3_isHeardBy, wpX3_isHeardBy⟩
theorem cwX7_11 : CWI RX7 11 yX8_init cX8_init 2 0 := ⟨wa_of 326 (by decide +kernel) rfl, wiX8_init, wnX8, wcX8_init, rfl, wpX8_init⟩
theorem cwX7_18 : CWV RX7 18 yX8_copyFrom cX8_copyFrom 3 none 1 := ⟨goodV (wa_of 1514 (by decide +kernel) rfl) wiX8_copyFrom wsX8_copyFrom wnX8 wcX8_copyFrom, wpX8_copyFrom⟩
theorem wcX7_playDay : Cond.code yX7_playDay cX7_playDay 5 none ∈ WA := wa_of 1518 (by decide +kernel) rfl
theorem wiX7_playDay : Cond.instanceMethod yX7_playDay ∈ WA := wa_of 1517 (by decide +kernel) rfl
theorem wsX7_playDay : Cond.selects yX7_playDay.cls yX7_playDay yX7_playDay ∈ WA := wa_of 42 (by decide +kernel) rfl
theorem wpX7_playDay : yX7_playDay.cls ≠ "java/lang/invoke/MethodHandle" ∧ yX7_playDay.cls ≠ "java/lang/invoke/VarHandle" ∧ (parseMethodDescriptor yX7_playDay.desc).map (fun d => d.parameters.length) = some 3 := by decide +kernel
theorem cwX7_32 : CWV RX7 32 yX7_playDay cX7_playDay 5 none 3 := ⟨goodV (wa_of 1515 (by decide +kernel) rfl) wiX7_playDay wsX7_playDay wnX7 wcX7_playDay, wpX7_playDay⟩
theorem wcX7_drawnBy : Cond.code yX7_drawnBy cX7_drawnBy 2 (some .int) ∈ WA := wa_of 1522 (by decide +kernel) rfl
theorem wiX7_drawnBy : Cond.instanceMethod yX7_drawnBy ∈ WA := wa_of 1521 (by decide +kernel) rfl
theorem wsX7_drawnBy : Cond.selects yX7_drawnBy.cls yX7_drawnBy yX7_drawnBy ∈ WA := wa_of 43 (by decide +kernel) rfl
theorem wpX7_drawnBy : yX7_drawnBy.cls ≠ "java/lang/invoke/MethodHandle" ∧ yX7_drawnBy.cls ≠ "java/lang/invoke/VarHandle" ∧ (parseMethodDescriptor yX7_drawnBy.desc).map (fun d => d.parameters.length) = some 1 := by decide +kernel
theorem cwX7_41 : CWV RX7 41 yX7_drawnBy cX7_drawnBy 2 (some .int) 1 := ⟨goodV (wa_of 1519 (by decide +kernel) rfl) wiX7_drawnBy wsX7_drawnBy wnX7 wcX7_drawnBy, wpX7_drawnBy⟩
theorem cwX7_45 : CWV RX7 45 yX8_write cX8_write 4 (some .boolean) 3 := ⟨goodV (wa_of 1524 (by decide +kernel) rfl) wiX8_write wsX8_write wnX8 wcX8_write, wpX8_write⟩
theorem cwX7_59 : CWV RX7 59 yX8_hear cX8_hear 5 (some .boolean) 3 := ⟨goodV (wa_of 1525 (by decide +kernel) rfl) wiX8_hear wsX8_hear wnX8 wcX8_hear, wpX8_hear⟩
theorem cwX7_62 : CWV RX7 62 yX8_endDay cX8_endDay 2 none 0 := ⟨goodV (wa_of 1526 (by decide +kernel) rfl) wiX8_endDay wsX8_endDay wnX8 wcX8_endDay, wpX8_endDay⟩
theorem cwX8_17 : CNI RX8 17 yX5_init cX5_init 1 0 := ⟨⟨"UnlikePens", wx_of 252 (by decide +kernel) rfl⟩, wiX5_init, wnX5, wcX5_init, rfl, wpX5_init⟩
theorem wcX5_begin : Cond.code yX5_begin cX5_begin 5 none ∈ WA := wa_of 879 (by decide +kernel) rfl
theorem wiX5_begin : Cond.instanceMethod yX5_begin ∈ WA := wa_of 877 (by decide +kernel) rfl
theorem wsX5_begin : Cond.selects yX5_begin.cls yX5_begin yX5_begin ∈ WA := wa_of 878 (by decide +kernel) rfl
theorem wpX5_begin : yX5_begin.cls ≠ "java/lang/invoke/MethodHandle" ∧ yX5_begin.cls ≠ "java/lang/invoke/VarHandle" ∧ (parseMethodDescriptor yX5_begin.desc).map (fun d => d.parameters.length) = some 4 := by decide +kernel
theorem cwX8_48 : CWV RX8 48 yX5_begin cX5_begin 5 none 4 := ⟨goodV (wa_of 876 (by decide +kernel) rfl) wiX5_begin wsX5_begin wnX5 wcX5_begin, wpX5_begin⟩
theorem wcX5_copyFrom : Cond.code yX5_copyFrom cX5_copyFrom 2 none ∈ WA := wa_of 560 (by decide +kernel) rfl
theorem wiX5_copyFrom : Cond.instanceMethod yX5_copyFrom ∈ WA := wa_of 558 (by decide +kernel) rfl
theorem wsX5_copyFrom : Cond.selects yX5_copyFrom.cls yX5_copyFrom yX5_copyFrom ∈ WA := wa_of 559 (by decide +kernel) rfl
theorem wpX5_copyFrom : yX5_copyFrom.cls ≠ "java/lang/invoke/MethodHandle" ∧ yX5_copyFrom.cls ≠ "java/lang/invoke/VarHandle" ∧ (parseMethodDescriptor yX5_copyFrom.desc).map (fun d => d.parameters.length) = some 1 := by decide +kernel
theorem cwX8_52 : CWV RX8 52 yX5_copyFrom cX5_copyFrom 2 none 1 := ⟨goodV (wa_of 557 (by decide +kernel) rfl) wiX5_copyFrom wsX5_copyFrom wnX5 wcX5_copyFrom, wpX5_copyFrom⟩
theorem cwX8_59 : CWV RX8 59 yX5_canWrite cX5_canWrite 1 (some .boolean) 0 := ⟨goodV (wa_of 1020 (by decide +kernel) rfl) wiX5_canWrite wsX5_canWrite wnX5 wcX5_canWrite, wpX5_canWrite⟩
theorem cwX8_63 : CWV RX8 63 yX4_levelBy cX4_levelBy 6 (some .int) 3 := ⟨goodV (wa_of 1021 (by decide +kernel) rfl) wiX4_levelBy wsX4_levelBy wnX4 wcX4_levelBy, wpX4_levelBy⟩
theorem wcX5_write : Cond.code yX5_write cX5_write 2 none ∈ WA := wa_of 1051 (by decide +kernel) rfl
theorem wiX5_write : Cond.instanceMethod yX5_write ∈ WA := wa_of 1049 (by decide +kernel) rfl
theorem wsX5_write : Cond.selects yX5_write.cls yX5_write yX5_write ∈ WA := wa_of 1050 (by decide +kernel) rfl
theorem wpX5_write : yX5_write.cls ≠ "java/lang/invoke/MethodHandle" ∧ yX5_write.cls ≠ "java/lang/invoke/VarHandle" ∧ (parseMethodDescriptor yX5_write.desc).map (fun d => d.parameters.length) = some 1 := by decide +kernel
theorem cwX8_69 : CWV RX8 69 yX5_write cX5_write 2 none 1 := ⟨goodV (wa_of 1048 (by decide +kernel) rfl) wiX5_write wsX5_write wnX5 wcX5_write, wpX5_write⟩
theorem cwX8_73 : CWV RX8 73 yX5_readAt cX5_readAt 2 (some .int) 1 := ⟨goodV (wa_of 1056 (by decide +kernel) rfl) wiX5_readAt wsX5_readAt wnX5 wcX5_readAt, wpX5_readAt⟩
theorem cwX8_77 : CWV RX8 77 yX8_write cX8_write 4 (some .boolean) 3 := ⟨goodV (wa_of 1060 (by decide +kernel) rfl) wiX8_write wsX8_write wnX8 wcX8_write, wpX8_write⟩
theorem wcX5_moveUp : Cond.code yX5_moveUp cX5_moveUp 1 none ∈ WA := wa_of 1093 (by decide +kernel) rfl
theorem wiX5_moveUp : Cond.instanceMethod yX5_moveUp ∈ WA := wa_of 1091 (by decide +kernel) rfl
theorem wsX5_moveUp : Cond.selects yX5_moveUp.cls yX5_moveUp yX5_moveUp ∈ WA := wa_of 1092 (by decide +kernel) rfl
theorem wpX5_moveUp : yX5_moveUp.cls ≠ "java/lang/invoke/MethodHandle" ∧ yX5_moveUp.cls ≠ "java/lang/invoke/VarHandle" ∧ (parseMethodDescriptor yX5_moveUp.desc).map (fun d => d.parameters.length) = some 0 := by decide +kernel
theorem cwX8_80 : CWV RX8 80 yX5_moveUp cX5_moveUp 1 none 0 := ⟨goodV (wa_of 1090 (by decide +kernel) rfl) wiX5_moveUp wsX5_moveUp wnX5 wcX5_moveUp, wpX5_moveUp⟩
theorem wcX9_next : Cond.code yX9_next cX9_next 1 (some .int) ∈ WA := wa_of 768 (by decide +kernel) rfl
theorem wiX9_next : Cond.instanceMethod yX9_next ∈ WA := wa_of 767 (by decide +kernel) rfl
theorem wsX9_next : Cond.selects yX9_next.cls yX9_next yX9_next ∈ WA := wa_of 11 (by decide +kernel) rfl
theorem wpX9_next : yX9_next.cls ≠ "java/lang/invoke/MethodHandle" ∧ yX9_next.cls ≠ "java/lang/invoke/VarHandle" ∧ (parseMethodDescriptor yX9_next.desc).map (fun d => d.parameters.length) = some 0 := by decide +kernel
theorem cwX9_34 : CWV RX9 34 yX9_next cX9_next 1 (some .int) 0 := ⟨goodV (wa_of 765 (by decide +kernel) rfl) wiX9_next wsX9_next wnX9 wcX9_next, wpX9_next⟩
theorem wcX9_isDigit : Cond.code yX9_isDigit cX9_isDigit 1 (some .boolean) ∈ WA := wa_of 857 (by decide +kernel) rfl
theorem wtX9_isDigit : Cond.static yX9_isDigit ∈ WA := wa_of 856 (by decide +kernel) rfl
theorem wpX9_isDigit : yX9_isDigit.cls ≠ "java/lang/invoke/MethodHandle" ∧ yX9_isDigit.cls ≠ "java/lang/invoke/VarHandle" ∧ (parseMethodDescriptor yX9_isDigit.desc).map (fun d => d.parameters.length) = some 1 := by decide +kernel
theorem cwX9_38 : CWS RX9 38 yX9_isDigit cX9_isDigit 1 (some .boolean) 1 := ⟨goodS (wa_of 855 (by decide +kernel) rfl) wtX9_isDigit wnX9 wcX9_isDigit, wpX9_isDigit⟩
theorem cwX9_42 : CWV RX9 42 yX9_fail cX9_fail 3 none 2 := ⟨goodV (wa_of 779 (by decide +kernel) rfl) wiX9_fail wsX9_fail wnX9 wcX9_fail, wpX9_fail⟩
theorem cwX9_55 : CWV RX9 55 yX9_comes cX9_comes 2 (some .boolean) 1 := ⟨goodV (wa_of 954 (by decide +kernel) rfl) wiX9_comes wsX9_comes wnX9 wcX9_comes, wpX9_comes⟩
theorem cwX9_59 : CWV RX9 59 yX9_more cX9_more 1 (some .boolean) 0 := ⟨goodV (wa_of 778 (by decide +kernel) rfl) wiX9_more wsX9_more wnX9 wcX9_more, wpX9_more⟩
theorem cwX9_63 : CWV RX9 63 yX9_digitComes cX9_digitComes 1 (some .boolean) 0 := ⟨goodV (wa_of 851 (by decide +kernel) rfl) wiX9_digitComes wsX9_digitComes wnX9 wcX9_digitComes, wpX9_digitComes⟩
theorem wcX9_byteHere : Cond.code yX9_byteHere cX9_byteHere 1 (some .int) ∈ WA := wa_of 786 (by decide +kernel) rfl
theorem wiX9_byteHere : Cond.instanceMethod yX9_byteHere ∈ WA := wa_of 785 (by decide +kernel) rfl
theorem wsX9_byteHere : Cond.selects yX9_byteHere.cls yX9_byteHere yX9_byteHere ∈ WA := wa_of 13 (by decide +kernel) rfl
theorem wpX9_byteHere : yX9_byteHere.cls ≠ "java/lang/invoke/MethodHandle" ∧ yX9_byteHere.cls ≠ "java/lang/invoke/VarHandle" ∧ (parseMethodDescriptor yX9_byteHere.desc).map (fun d => d.parameters.length) = some 0 := by decide +kernel
theorem cwX9_66 : CWV RX9 66 yX9_byteHere cX9_byteHere 1 (some .int) 0 := ⟨goodV (wa_of 783 (by decide +kernel) rfl) wiX9_byteHere wsX9_byteHere wnX9 wcX9_byteHere, wpX9_byteHere⟩
theorem wcX9_isLetter : Cond.code yX9_isLetter cX9_isLetter 1 (some .boolean) ∈ WA := wa_of 789 (by decide +kernel) rfl
theorem wtX9_isLetter : Cond.static yX9_isLetter ∈ WA := wa_of 788 (by decide +kernel) rfl
theorem wpX9_isLetter : yX9_isLetter.cls ≠ "java/lang/invoke/MethodHandle" ∧ yX9_isLetter.cls ≠ "java/lang/invoke/VarHandle" ∧ (parseMethodDescriptor yX9_isLetter.desc).map (fun d => d.parameters.length) = some 1 := by decide +kernel
theorem cwX9_76 : CWS RX9 76 yX9_isLetter cX9_isLetter 1 (some .boolean) 1 := ⟨goodS (wa_of 787 (by decide +kernel) rfl) wtX9_isLetter wnX9 wcX9_isLetter, wpX9_isLetter⟩
theorem wcX9_isRead : Cond.code yX9_isRead cX9_isRead 5 (some .boolean) ∈ WA := wa_of 841 (by decide +kernel) rfl
theorem wiX9_isRead : Cond.instanceMethod yX9_isRead ∈ WA := wa_of 840 (by decide +kernel) rfl
theorem wsX9_isRead : Cond.selects yX9_isRead.cls yX9_isRead yX9_isRead ∈ WA := wa_of 14 (by decide +kernel) rfl
theorem wpX9_isRead : yX9_isRead.cls ≠ "java/lang/invoke/MethodHandle" ∧ yX9_isRead.cls ≠ "java/lang/invoke/VarHandle" ∧ (parseMethodDescriptor yX9_isRead.desc).map (fun d => d.parameters.length) = some 3 := by decide +kernel
theorem cwX9_79 : CWV RX9 79 yX9_isRead cX9_isRead 5 (some .boolean) 3 := ⟨goodV (wa_of 838 (by decide +kernel) rfl) wiX9_isRead wsX9_isRead wnX9 wcX9_isRead, wpX9_isRead⟩
theorem ac_byte : Cond.arrayClass .byte ∈ WA := wa_of 175 (by decide +kernel) rfl
theorem ac_double : Cond.arrayClass .double ∈ WA := wa_of 291 (by decide +kernel) rfl
theorem ac_int : Cond.arrayClass .int ∈ WA := wa_of 213 (by decide +kernel) rfl
theorem ac_long : Cond.arrayClass .long ∈ WA := wa_of 290 (by decide +kernel) rfl
theorem cas_0 : Cond.castable (exN 0) (exN 0) ∈ WX := wx_of 1163 (by decide +kernel) rfl
theorem cas_1 : Cond.castable (exN 1) (exN 1) ∈ WX := wx_of 672 (by decide +kernel) rfl
theorem cas_3 : Cond.castable (exN 3) (exN 3) ∈ WX := wx_of 1229 (by decide +kernel) rfl
theorem cas_4 : Cond.castable (exN 4) (exN 4) ∈ WX := wx_of 1256 (by decide +kernel) rfl
theorem ckX0 : CK 0 RX0 3 := ⟨TX0, tyX0, rfl, by decide, wsinX0, tyX0_ok, by decide, by decide⟩
theorem ckX1 : CK 1 RX1 2 := ⟨TX1, tyX1, rfl, by decide, wsinX1, tyX1_ok, by decide, by decide⟩
theorem ckX10 : CK 10 RX10 9 := ⟨TX10, tyX10, rfl, by decide, wsinX10, tyX10_ok, by decide, by decide⟩
theorem ckX2 : CK 2 RX2 6 := ⟨TX2, tyX2, rfl, by decide, wsinX2, tyX2_ok, by decide, by decide⟩
theorem ckX3 : CK 3 RX3 8 := ⟨TX3, tyX3, rfl, by decide, wsinX3, tyX3_ok, by decide, by decide⟩
theorem ckX4 : CK 4 RX4 5 := ⟨TX4, tyX4, rfl, by decide, wsinX4, tyX4_ok, by decide, by decide⟩
theorem ckX5 : CK 5 RX5 8 := ⟨TX5, tyX5, rfl, by decide, wsinX5, tyX5_ok, by decide, by decide⟩
theorem ckX6 : CK 6 RX6 7 := ⟨TX6, tyX6, rfl, by decide, wsinX6, tyX6_ok, by decide, by decide⟩
theorem ckX7 : CK 7 RX7 2 := ⟨TX7, tyX7, rfl, by decide, wsinX7, tyX7_ok, by decide, by decide⟩
theorem ckX8 : CK 8 RX8 5 := ⟨TX8, tyX8, rfl, by decide, wsinX8, tyX8_ok, by decide, by decide⟩
theorem ckX9 : CK 9 RX9 7 := ⟨TX9, tyX9, rfl, by decide, wsinX9, tyX9_ok, by decide, by decide⟩
theorem clL_13 : Cond.classLink RL 13 "java/lang/IllegalArgumentException" ∈ WA := wa_of 650 (by decide +kernel) rfl
theorem clL_34 : Cond.classLink RL 34 "java/util/NoSuchElementException" ∈ WA := wa_of 1148 (by decide +kernel) rfl
theorem clL_42 : Cond.classLink RL 42 "java/lang/IndexOutOfBoundsException" ∈ WA := wa_of 1195 (by decide +kernel) rfl
theorem clL_47 : Cond.classLink RL 47 "java/lang/ArithmeticException" ∈ WA := wa_of 1244 (by decide +kernel) rfl
theorem clX11_16 : Cond.classLink RX11 16 "UnlikePens$Work" ∈ WA := wa_of 176 (by decide +kernel) rfl
theorem clX11_23 : Cond.classLink RX11 23 "UnlikePens$History" ∈ WA := wa_of 214 (by decide +kernel) rfl
theorem clX11_30 : Cond.classLink RX11 30 "UnlikePens$State" ∈ WA := wa_of 243 (by decide +kernel) rfl
theorem clX11_37 : Cond.classLink RX11 37 "UnlikePens$Season" ∈ WA := wa_of 319 (by decide +kernel) rfl
theorem clX11_44 : Cond.classLink RX11 44 "UnlikePens$Rows" ∈ WA := wa_of 335 (by decide +kernel) rfl
theorem clX11_51 : Cond.classLink RX11 51 "UnlikePens$Pen" ∈ WA := wa_of 366 (by decide +kernel) rfl
theorem clX11_65 : Cond.classLink RX11 65 "UnlikePens$Hut" ∈ WA := wa_of 368 (by decide +kernel) rfl
theorem clX11_7 : Cond.classLink RX11 7 "UnlikePens$Tape" ∈ WA := wa_of 139 (by decide +kernel) rfl
theorem clX11_75 : Cond.classLink RX11 75 "UnlikePens$Law" ∈ WA := wa_of 417 (by decide +kernel) rfl
theorem clX11_85 : Cond.classLink RX11 85 "UnlikePens$Chain" ∈ WA := wa_of 440 (by decide +kernel) rfl
theorem clX11_95 : Cond.classLink RX11 95 "UnlikePens$Book" ∈ WA := wa_of 455 (by decide +kernel) rfl
theorem clX12_26 : Cond.classLink RX12 26 "[[I" ∈ WA := wa_of 1540 (by decide +kernel) rfl
theorem clX2_9 : Cond.classLink RX2 9 "UnlikePens$State" ∈ WA := wa_of 220 (by decide +kernel) rfl
theorem clX7_9 : Cond.classLink RX7 9 "UnlikePens$State" ∈ WA := wa_of 325 (by decide +kernel) rfl
theorem clX8_9 : Cond.classLink RX8 9 "UnlikePens$Pen" ∈ WA := wa_of 249 (by decide +kernel) rfl
theorem cp_i : Cond.initialized "java/lang/System" ∈ WA := wa_of 125 (by decide +kernel) rfl
theorem cp_n : Cond.native arraycopyName ∈ WA := wa_of 567 (by decide +kernel) rfl
theorem cp_s : Cond.static arraycopyName ∈ WA := wa_of 566 (by decide +kernel) rfl
theorem cwX9_46 : CWV RX9 46 yJ0_length_8abf5 cJ0_length_8abf5 1 (some .int) 0 := ⟨goodV (wa_of 790 (by decide +kernel) rfl) wiJ0_length_8abf5 wsJ0_length_8abf5 wnJ0 wcJ0_length_8abf5, wpJ0_length_8abf5⟩
theorem cwX9_51 : CWV RX9 51 yJ0_charAt_5068e cJ0_charAt_5068e 2 (some .char) 1 := ⟨goodV (wa_of 800 (by decide +kernel) rfl) wiJ0_charAt_5068e wsJ0_charAt_5068e wnJ0 wcJ0_charAt_5068e, wpJ0_charAt_5068e⟩
theorem insX0 : Cond.instantiable RX0 3 ∈ WA := wa_of 456 (by decide +kernel) rfl
theorem insX1 : Cond.instantiable RX1 2 ∈ WA := wa_of 441 (by decide +kernel) rfl
theorem insX10 : Cond.instantiable RX10 9 ∈ WA := wa_of 177 (by decide +kernel) rfl
theorem insX2 : Cond.instantiable RX2 6 ∈ WA := wa_of 215 (by decide +kernel) rfl
theorem insX3 : Cond.instantiable RX3 8 ∈ WA := wa_of 369 (by decide +kernel) rfl
theorem insX4 : Cond.instantiable RX4 5 ∈ WA := wa_of 418 (by decide +kernel) rfl
theorem insX5 : Cond.instantiable RX5 8 ∈ WA := wa_of 251 (by decide +kernel) rfl
theorem insX6 : Cond.instantiable RX6 7 ∈ WA := wa_of 336 (by decide +kernel) rfl
theorem insX7 : Cond.instantiable RX7 2 ∈ WA := wa_of 320 (by decide +kernel) rfl
theorem insX8 : Cond.instantiable RX8 5 ∈ WA := wa_of 244 (by decide +kernel) rfl
theorem insX9 : Cond.instantiable RX9 7 ∈ WA := wa_of 140 (by decide +kernel) rfl
theorem mlX0_3 : Cond.methodLink RX0 3 objectInit ∈ WA := wa_of 460 (by decide +kernel) rfl
theorem mlX10_112 : Cond.methodLink RX10 112 Lib.Math.max.name ∈ WA := wa_of 1094 (by decide +kernel) rfl
theorem mlX10_3 : Cond.methodLink RX10 3 objectInit ∈ WA := wa_of 181 (by decide +kernel) rfl
theorem mlX11_1 : Cond.methodLink RX11 1 objectInit ∈ WA := wa_of 136 (by decide +kernel) rfl
theorem mlX11_307 : Cond.methodLink RX11 307 Lib.Math.min.name ∈ WA := wa_of 659 (by decide +kernel) rfl
theorem mlX11_312 : Cond.methodLink RX11 312 Lib.Math.max.name ∈ WA := wa_of 1397 (by decide +kernel) rfl
theorem mlX11_391 : Cond.methodLink RX11 391 Lib.MathLoose.abs_long.x ∈ WA := wa_of 1031 (by decide +kernel) rfl
theorem mlX11_395 : Cond.methodLink RX11 395 Lib.MathLoose.min_long.x ∈ WA := wa_of 1034 (by decide +kernel) rfl
theorem mlX12_1 : Cond.methodLink RX12 1 objectInit ∈ WA := wa_of 1539 (by decide +kernel) rfl
theorem mlX1_3 : Cond.methodLink RX1 3 objectInit ∈ WA := wa_of 445 (by decide +kernel) rfl
theorem mlX2_3 : Cond.methodLink RX2 3 objectInit ∈ WA := wa_of 219 (by decide +kernel) rfl
theorem mlX3_3 : Cond.methodLink RX3 3 objectInit ∈ WA := wa_of 373 (by decide +kernel) rfl
theorem mlX4_127 : Cond.methodLink RX4 127 Lib.Math.min.name ∈ WA := wa_of 1044 (by decide +kernel) rfl
theorem mlX4_132 : Cond.methodLink RX4 132 Lib.Math.max.name ∈ WA := wa_of 1045 (by decide +kernel) rfl
theorem mlX4_3 : Cond.methodLink RX4 3 objectInit ∈ WA := wa_of 422 (by decide +kernel) rfl
theorem mlX5_3 : Cond.methodLink RX5 3 objectInit ∈ WA := wa_of 255 (by decide +kernel) rfl
theorem mlX5_47 : Cond.methodLink RX5 47 arraycopyName ∈ WA := wa_of 565 (by decide +kernel) rfl
theorem mlX5_79 : Cond.methodLink RX5 79 Lib.Math.min.name ∈ WA := wa_of 1077 (by decide +kernel) rfl
theorem mlX5_85 : Cond.methodLink RX5 85 Lib.Math.max.name ∈ WA := wa_of 1078 (by decide +kernel) rfl
theorem mlX6_3 : Cond.methodLink RX6 3 objectInit ∈ WA := wa_of 340 (by decide +kernel) rfl
theorem mlX6_72 : Cond.methodLink RX6 72 arraycopyName ∈ WA := wa_of 1377 (by decide +kernel) rfl
theorem mlX7_3 : Cond.methodLink RX7 3 objectInit ∈ WA := wa_of 324 (by decide +kernel) rfl
theorem mlX8_3 : Cond.methodLink RX8 3 objectInit ∈ WA := wa_of 248 (by decide +kernel) rfl
theorem mlX9_3 : Cond.methodLink RX9 3 objectInit ∈ WA := wa_of 144 (by decide +kernel) rfl
theorem mlX9_70 : Cond.methodLink RX9 70 Lib.Math.min.name ∈ WA := wa_of 859 (by decide +kernel) rfl
theorem mt_cabsL : Cond.code Lib.MathLoose.abs_long.x Lib.MathLoose.abs_long.code 2 (some .long) ∈ WA := wa_of 1033 (by decide +kernel) rfl
theorem mt_cmax : Cond.code Lib.Math.max.name Lib.Math.max.code 2 (some .int) ∈ WA := wa_of 1047 (by decide +kernel) rfl
theorem mt_cmin : Cond.code Lib.Math.min.name Lib.Math.min.code 2 (some .int) ∈ WA := wa_of 661 (by decide +kernel) rfl
theorem mt_cminL : Cond.code Lib.MathLoose.min_long.x Lib.MathLoose.min_long.code 4 (some .long) ∈ WA := wa_of 1036 (by decide +kernel) rfl
theorem mt_i : Cond.initialized "java/lang/Math" ∈ WA := wa_of 116 (by decide +kernel) rfl
theorem mt_sabsL : Cond.static Lib.MathLoose.abs_long.x ∈ WA := wa_of 1032 (by decide +kernel) rfl
theorem mt_smax : Cond.static Lib.Math.max.name ∈ WA := wa_of 1046 (by decide +kernel) rfl
theorem mt_smin : Cond.static Lib.Math.min.name ∈ WA := wa_of 660 (by decide +kernel) rfl
theorem mt_sminL : Cond.static Lib.MathLoose.min_long.x ∈ WA := wa_of 1035 (by decide +kernel) rfl
theorem obc : Cond.code objectInit ⟨#[0xb1]⟩ 1 none ∈ WA := wa_of 138 (by decide +kernel) rfl
theorem obi : Cond.instanceMethod objectInit ∈ WA := wa_of 137 (by decide +kernel) rfl
theorem ov_I : Cond.arrayOver (.array .int) ∈ WX := wx_of 1541 (by decide +kernel) rfl
theorem ov_X5 : Cond.arrayOver (.object "UnlikePens$Pen") ∈ WX := wx_of 250 (by decide +kernel) rfl
theorem ov_X8 : Cond.arrayOver (.object "UnlikePens$State") ∈ WX := wx_of 221 (by decide +kernel) rfl
theorem xi_0 : Cond.initialized (exN 0) ∈ WA := wa_of 126 (by decide +kernel) rfl
theorem thX11_369 {α : Type} {F : Option Fx} {enc : α → Outc} {cc : ByteArray} {nL v pc : Nat} {pls : List (Nat × Value)} {st : List Value} {μ : Mem} {ret : Option FieldType} {r : α} (hF : FxO F RX11 cc nL v) (hD : FxXO F ret) (hv : 8 ≤ v) (he : enc r = .inr 0) (d0 : decode cc pc = .ok (.new 369, 3)) (d3 : decode cc (pc + 3) = .ok (.dup, 1)) (d4 : decode cc (pc + 4) = .ok (.ldc_w 371, 3)) (d7 : decode cc (pc + 7) = .ok (.invokespecial 373, 3)) (d10 : decode cc (pc + 10) = .ok (.athrow, 1)) (hcat : (st.map fun v => v.category).sum ≤ 8) : Sim F enc pc pls st μ (some (r, p_lost μ 1 6)) :=
  s_throwNS (names := ["java/lang/Exception"]) (Y1 := "java/lang/RuntimeException") (i0 := 13) (b0 := prog_33_method_4_code) hF hD (Nat.le_trans (by decide) hv) he d0 d3 d4 d7 d10 (by decide +kernel) (by decide +kernel) (by decide +kernel) (by decide +kernel) (wa_of 1161 (by decide +kernel) rfl) xi_0 (by decide +kernel) (by decide +kernel) (by decide +kernel) ⟨5, rfl⟩ (wsa (by decide +kernel)) (wsx (by decide +kernel)) (by decide +kernel) hcat
theorem xi_1 : Cond.initialized (exN 1) ∈ WA := wa_of 120 (by decide +kernel) rfl
theorem thX11_374 {α : Type} {F : Option Fx} {enc : α → Outc} {cc : ByteArray} {nL v pc : Nat} {pls : List (Nat × Value)} {st : List Value} {μ : Mem} {ret : Option FieldType} {r : α} (hF : FxO F RX11 cc nL v) (hD : FxXO F ret) (hv : 8 ≤ v) (he : enc r = .inr 1) (d0 : decode cc pc = .ok (.new 374, 3)) (d3 : decode cc (pc + 3) = .ok (.dup, 1)) (d4 : decode cc (pc + 4) = .ok (.ldc_w 376, 3)) (d7 : decode cc (pc + 7) = .ok (.invokespecial 378, 3)) (d10 : decode cc (pc + 10) = .ok (.athrow, 1)) (hcat : (st.map fun v => v.category).sum ≤ 8) : Sim F enc pc pls st μ (some (r, p_lost μ 1 6)) :=
  s_throwW (names := ["java/lang/RuntimeException", "java/lang/Exception"]) hF hD (Nat.le_trans (by decide) hv) he d0 d3 d4 d7 d10 (wa_of 670 (by decide +kernel) rfl) xi_1 (by decide +kernel) (by decide +kernel) ⟨6, rfl⟩ (wsa (by decide +kernel)) (wsx (by decide +kernel)) (by decide +kernel) hcat
theorem xi_4 : Cond.initialized (exN 4) ∈ WA := wa_of 129 (by decide +kernel) rfl
theorem thX11_379 {α : Type} {F : Option Fx} {enc : α → Outc} {cc : ByteArray} {nL v pc : Nat} {pls : List (Nat × Value)} {st : List Value} {μ : Mem} {ret : Option FieldType} {r : α} (hF : FxO F RX11 cc nL v) (hD : FxXO F ret) (hv : 8 ≤ v) (he : enc r = .inr 4) (d0 : decode cc pc = .ok (.new 379, 3)) (d3 : decode cc (pc + 3) = .ok (.dup, 1)) (d4 : decode cc (pc + 4) = .ok (.ldc_w 381, 3)) (d7 : decode cc (pc + 7) = .ok (.invokespecial 383, 3)) (d10 : decode cc (pc + 10) = .ok (.athrow, 1)) (hcat : (st.map fun v => v.category).sum ≤ 8) : Sim F enc pc pls st μ (some (r, p_lost μ 1 6)) :=
  s_throwW (names := ["java/lang/RuntimeException", "java/lang/Exception"]) hF hD (Nat.le_trans (by decide) hv) he d0 d3 d4 d7 d10 (wa_of 1266 (by decide +kernel) rfl) xi_4 (by decide +kernel) (by decide +kernel) ⟨7, rfl⟩ (wsa (by decide +kernel)) (wsx (by decide +kernel)) (by decide +kernel) hcat
theorem xi_3 : Cond.initialized (exN 3) ∈ WA := wa_of 127 (by decide +kernel) rfl
theorem thX11_384 {α : Type} {F : Option Fx} {enc : α → Outc} {cc : ByteArray} {nL v pc : Nat} {pls : List (Nat × Value)} {st : List Value} {μ : Mem} {ret : Option FieldType} {r : α} (hF : FxO F RX11 cc nL v) (hD : FxXO F ret) (hv : 8 ≤ v) (he : enc r = .inr 3) (d0 : decode cc pc = .ok (.new 384, 3)) (d3 : decode cc (pc + 3) = .ok (.dup, 1)) (d4 : decode cc (pc + 4) = .ok (.ldc_w 386, 3)) (d7 : decode cc (pc + 7) = .ok (.invokespecial 388, 3)) (d10 : decode cc (pc + 10) = .ok (.athrow, 1)) (hcat : (st.map fun v => v.category).sum ≤ 8) : Sim F enc pc pls st μ (some (r, p_lost μ 1 6)) :=
  s_throwW (names := ["java/lang/RuntimeException", "java/lang/Exception"]) hF hD (Nat.le_trans (by decide) hv) he d0 d3 d4 d7 d10 (wa_of 1227 (by decide +kernel) rfl) xi_3 (by decide +kernel) (by decide +kernel) ⟨8, rfl⟩ (wsa (by decide +kernel)) (wsx (by decide +kernel)) (by decide +kernel) hcat
