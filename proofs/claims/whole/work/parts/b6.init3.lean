theorem wA_1 : TpS wA 2 ∧ WorkS wA 4 := by
  unfold TpS WorkS
  decide +kernel
theorem wA_p15 : ∀ p, p < 8 → g_R wA (15 + 1) p = 15 + 2 + 4 * p ∧ PenS wA (15 + 2 + 4 * p) := by
  unfold PenS
  decide +kernel
theorem wA_2 : StS wA 15 := ⟨by decide +kernel, by decide +kernel, by decide +kernel, by decide +kernel, wA_p15⟩
theorem wA_p50 : ∀ p, p < 8 → g_R wA (50 + 1) p = 50 + 2 + 4 * p ∧ PenS wA (50 + 2 + 4 * p) := by
  unfold PenS
  decide +kernel
theorem wA_3 : SeaS wA 49 := ⟨by decide +kernel, by decide +kernel, ⟨by decide +kernel, by decide +kernel, by decide +kernel, by decide +kernel, wA_p50⟩⟩
theorem wA_4 : RowsS wA 84 ∧ PenS wA 87 := by
  unfold RowsS PenS
  decide +kernel
theorem wA_5 : (isK wA 91 15 = true ∧ g_N wA 91 = 1001) ∧ (isK wA 92 15 = true ∧ g_N wA 92 = 5) := by decide +kernel
theorem wA_6 : HutS wA 93 ∧ HutS wA 99 := by
  unfold HutS
  decide +kernel
theorem wA_7 : LawS wA 105 ∧ LawS wA 110 := by
  unfold LawS
  decide +kernel
theorem wA_8 : (ChS wA 115 ∧ ChS wA 117) ∧ (BkS wA 119 ∧ BkS wA 122) := by
  unfold ChS BkS
  decide +kernel
theorem wA_S : ClS wA := ⟨wA_1.1, wA_1.2, wA_2, wA_3, wA_4.1, wA_4.2, wA_5.1, wA_5.2, wA_6, wA_7, wA_8.1, wA_8.2⟩
theorem wA_H : HisS wA 10 := by
  unfold HisS
  decide +kernel
theorem wA_sl : (∀ i, i < 16 → g_R wA 11 i = 0) ∧ (∀ i, i < 3 → g_R wA 12 i = 0) ∧ ∀ i, i < 48 → g_R wA 13 i = 0 := by decide +kernel
theorem wA_i : (g_I wA 2 1 = 0 ∧ g_I wA 2 3 = -1 ∧ g_I wA 93 0 = 0 ∧ g_I wA 93 4 = 0 ∧ g_I wA 93 7 = 0 ∧ g_I wA 105 3 = 1 ∧ g_I wA 107 0 = 2) ∧ (g_I wA 115 1 = 0 ∧ g_I wA 119 2 = 0 ∧ g_I wA 10 4 = 0 ∧ g_I wA 10 5 = 0) ∧ (g_I wA 15 1 = 0 ∧ g_I wA 15 2 = 0 ∧ g_I wA 15 3 = 0 ∧ g_I wA 15 4 = 0 ∧ g_I wA 1 17 = 0) ∧ g_n wA = 629 := by decide +kernel
theorem wA_92 : (∀ k, k < 5 → g_I wA 92 k = 0) ∧ ∀ k, k < 5 → g_I wA 127 k = 0 := by decide +kernel
theorem wA_f : (g_I wA 125 1 = 0 ∧ g_I wA 125 3 = -1 ∧ g_I wA 125 17 = 0 ∧ g_I wA 125 33 = 0 ∧ g_I wA 125 34 = 0) ∧ (g_I wA 125 35 = 0 ∧ g_I wA 125 36 = 0 ∧ g_I wA 125 37 = 0) ∧ g_I wA 129 0 = 0 ∧ g_I wA 129 1 = 0 := by decide +kernel
