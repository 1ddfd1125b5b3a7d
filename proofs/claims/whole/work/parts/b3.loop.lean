/-! ===== the law's loop ===== -/
theorem at_i {n i Ls : Nat} (h : n + i < Ls) (hL : Ls ≤ 4608) : 0 ≤ (nI n + nI i : Int32).toInt ∧ (nI n + nI i : Int32).toInt < (Ls : Int) := by
  rw [nI_add, nI_toInt (by omega)]
  omega
theorem Wst.up {c0 w0 : Nat} {μ : Mem} {f : Fl} {a : ClT} {n : Nat} (w : Wst c0 w0 μ f a n) : Wst c0 w0 μ f a (n + 1) := by
  obtain ⟨w1, w2, w3, w4, w5, w6⟩ := w
  exact ⟨w1, w2, addC (Nat.le_add_right _ _) w3, addC (Nat.le_add_right _ _) w4, w5, w6⟩
theorem law_go {c0 w0 Ls : Nat} {xs : Nat → Int32} (hL : Ls ≤ 4608) (hc : c0 + 600 * 512 ≤ 603072) (hw : w0 + 11120 * 512 ≤ 7215210) : ∀ (m n fu : Nat) (μ : Mem) (f : Fl) (a : ClT), m + n = 513 → m < fu → 9 * n ≤ Ls + 8 → n ≤ 512 → Wst c0 w0 μ f a n → ∃ μ' : Mem, mL_law__23 Ls xs fu 1 125 629 (nI (9 * n)) μ = some ((), μ') ∧ QEnd μ' := by
  intro m
  induction m with
  | zero => intro n fu μ f a hm hf h9 hn w; omega
  | succ m ih =>
    intro n fu μ f a hm hf h9 hn w
    obtain ⟨fu, rfl⟩ : ∃ q, fu = q + 1 := ⟨fu - 1, by omega⟩
    have hend : QEnd μ := by
      obtain ⟨w1, w2, w3, w4, w5, w6⟩ := w
      have h6 : 600 * n ≤ 600 * 512 := Nat.mul_le_mul_left _ hn
      have h7 : 11120 * n ≤ 11120 * 512 := Nat.mul_le_mul_left _ hn
      exact ⟨Nat.le_trans w3 (Nat.le_trans (Nat.add_le_add_left h6 _) hc), Nat.le_trans w4 (Nat.le_trans (Nat.add_le_add_left h7 _) hw)⟩
    have e9 : (Int32.ofNat Ls - 9 : Int32).toInt = (Ls : Int) - 9 := by
      rw [Int32.toInt_sub, show (Int32.ofNat Ls).toInt = (Ls : Int) from nI_toInt (by omega), show (9 : Int32).toInt = 9 from rfl, Int.bmod_def]
      split <;> omega
    rw [mL_law__23]
    by_cases hstop : (Int32.ofNat Ls - 9 : Int32) < nI (9 * n)
    · rw [if_pos hstop, if_pos (show g_c μ ≤ 603072 ∧ g_w μ ≤ 7215210 from hend)]
      exact ⟨μ, rfl, hend⟩
    rw [if_neg hstop]
    have hlt : 9 * n + 9 ≤ Ls := by
      have := Int32.le_iff_toInt_le.mp (Int32.not_lt.mp hstop)
      rw [e9, nI_toInt (by omega)] at this
      omega
    have g0 : 0 ≤ (nI (9 * n)).toInt ∧ (nI (9 * n)).toInt < (Ls : Int) := by
      rw [nI_toInt (by omega)]
      omega
    have g1 : 0 ≤ (nI (9 * n) + (1 : Int32)).toInt ∧ (nI (9 * n) + (1 : Int32)).toInt < (Ls : Int) := at_i (i := 1) (by omega) hL
    have g2 : 0 ≤ (nI (9 * n) + (2 : Int32)).toInt ∧ (nI (9 * n) + (2 : Int32)).toInt < (Ls : Int) := at_i (i := 2) (by omega) hL
    have g3 : 0 ≤ (nI (9 * n) + (3 : Int32)).toInt ∧ (nI (9 * n) + (3 : Int32)).toInt < (Ls : Int) := at_i (i := 3) (by omega) hL
    have g4 : 0 ≤ (nI (9 * n) + (4 : Int32)).toInt ∧ (nI (9 * n) + (4 : Int32)).toInt < (Ls : Int) := at_i (i := 4) (by omega) hL
    have g5 : 0 ≤ (nI (9 * n) + (5 : Int32)).toInt ∧ (nI (9 * n) + (5 : Int32)).toInt < (Ls : Int) := at_i (i := 5) (by omega) hL
    have g6 : 0 ≤ (nI (9 * n) + (6 : Int32)).toInt ∧ (nI (9 * n) + (6 : Int32)).toInt < (Ls : Int) := at_i (i := 6) (by omega) hL
    have g7 : 0 ≤ (nI (9 * n) + (7 : Int32)).toInt ∧ (nI (9 * n) + (7 : Int32)).toInt < (Ls : Int) := at_i (i := 7) (by omega) hL
    have g8 : 0 ≤ (nI (9 * n) + (8 : Int32)).toInt ∧ (nI (9 * n) + (8 : Int32)).toInt < (Ls : Int) := at_i (i := 8) (by omega) hL
    have e99 : nI (9 * n) + (9 : Int32) = nI (9 * (n + 1)) := by
      rw [show (9 : Int32) = nI 9 from rfl, nI_add]
      rfl
    have nx : ∀ ν f' b, Wst c0 w0 ν f' b (n + 1) → ∃ μ' : Mem, mL_law__23 Ls xs fu 1 125 629 (nI (9 * n) + (9 : Int32)) ν = some ((), μ') ∧ QEnd μ' := fun ν f' b wν => by
      rw [e99]
      exact ih (n + 1) fu ν f' b (by omega) (by omega) (by omega) (by omega) wν
    rw [if_pos g0]
    by_cases h0 : (xs (nI (9 * n)).toNatClampNeg &&& (63 : Int32)) = (0 : Int32)
    · rw [if_pos h0]
      exact case_feed w g1 g2 g3 g4 g5 nx
    rw [if_neg h0]
    by_cases h1 : (xs (nI (9 * n)).toNatClampNeg &&& (63 : Int32)) = (1 : Int32)
    · rw [if_pos h1]
      exact case_hut w g1 nx
    rw [if_neg h1]
    by_cases h2 : (xs (nI (9 * n)).toNatClampNeg &&& (63 : Int32)) = (2 : Int32)
    · rw [if_pos h2]
      exact case_law w g1 nx
    rw [if_neg h2]
    by_cases h3 : (xs (nI (9 * n)).toNatClampNeg &&& (63 : Int32)) = (3 : Int32)
    · rw [if_pos h3]
      exact case_work w g1 nx
    rw [if_neg h3]
    by_cases h4 : (xs (nI (9 * n)).toNatClampNeg &&& (63 : Int32)) = (4 : Int32)
    · rw [if_pos h4]
      exact case_chain w g1 nx
    rw [if_neg h4]
    by_cases h5 : (xs (nI (9 * n)).toNatClampNeg &&& (63 : Int32)) = (5 : Int32)
    · rw [if_pos h5]
      exact case_book w g1 nx
    rw [if_neg h5]
    by_cases h6 : (xs (nI (9 * n)).toNatClampNeg &&& (63 : Int32)) = (6 : Int32)
    · rw [if_pos h6]
      exact case_fault w  nx
    rw [if_neg h6]
    by_cases h7 : (xs (nI (9 * n)).toNatClampNeg &&& (63 : Int32)) = (7 : Int32)
    · rw [if_pos h7]
      exact case_undo w  nx
    rw [if_neg h7]
    by_cases h8 : (xs (nI (9 * n)).toNatClampNeg &&& (63 : Int32)) = (8 : Int32)
    · rw [if_pos h8]
      exact case_told w g1 nx
    rw [if_neg h8]
    by_cases h9 : (xs (nI (9 * n)).toNatClampNeg &&& (63 : Int32)) = (9 : Int32)
    · rw [if_pos h9]
      exact case_pen w g1 g2 nx
    rw [if_neg h9]
    by_cases h10 : (xs (nI (9 * n)).toNatClampNeg &&& (63 : Int32)) = (10 : Int32)
    · rw [if_pos h10]
      exact case_wire w g1 g2 nx
    rw [if_neg h10]
    by_cases h11 : (xs (nI (9 * n)).toNatClampNeg &&& (63 : Int32)) = (11 : Int32)
    · rw [if_pos h11]
      exact case_record w g1 g2 nx
    rw [if_neg h11]
    by_cases h12 : (xs (nI (9 * n)).toNatClampNeg &&& (63 : Int32)) = (12 : Int32)
    · rw [if_pos h12]
      exact case_out w g1 g2 nx
    rw [if_neg h12]
    by_cases h13 : (xs (nI (9 * n)).toNatClampNeg &&& (63 : Int32)) = (13 : Int32)
    · rw [if_pos h13]
      exact case_level w g1 g2 nx
    rw [if_neg h13]
    by_cases h14 : (xs (nI (9 * n)).toNatClampNeg &&& (63 : Int32)) = (14 : Int32)
    · rw [if_pos h14]
      exact case_would w g1 g2 g3 g4 g5 g6 g7 g8 nx
    rw [if_neg h14]
    by_cases h15 : (xs (nI (9 * n)).toNatClampNeg &&& (63 : Int32)) = (15 : Int32)
    · rw [if_pos h15]
      exact case_total w g1 nx
    rw [if_neg h15]
    by_cases h16 : (xs (nI (9 * n)).toNatClampNeg &&& (63 : Int32)) = (16 : Int32)
    · rw [if_pos h16]
      exact case_strange w g1 g2 nx
    rw [if_neg h16]
    by_cases h17 : (xs (nI (9 * n)).toNatClampNeg &&& (63 : Int32)) = (17 : Int32)
    · rw [if_pos h17]
      exact case_extreme w g1 g2 nx
    rw [if_neg h17]
    by_cases h18 : (xs (nI (9 * n)).toNatClampNeg &&& (63 : Int32)) = (18 : Int32)
    · rw [if_pos h18]
      exact case_through w g1 nx
    rw [if_neg h18]
    by_cases h19 : (xs (nI (9 * n)).toNatClampNeg &&& (63 : Int32)) = (19 : Int32)
    · rw [if_pos h19]
      exact case_kept w g1 g2 nx
    rw [if_neg h19]
    by_cases h20 : (xs (nI (9 * n)).toNatClampNeg &&& (63 : Int32)) = (20 : Int32)
    · rw [if_pos h20]
      exact case_gives w g1 g2 g3 nx
    rw [if_neg h20]
    by_cases h21 : (xs (nI (9 * n)).toNatClampNeg &&& (63 : Int32)) = (21 : Int32)
    · rw [if_pos h21]
      exact case_worst w g1 g2 g3 nx
    rw [if_neg h21]
    by_cases h22 : (xs (nI (9 * n)).toNatClampNeg &&& (63 : Int32)) = (22 : Int32)
    · rw [if_pos h22]
      exact case_best w g1 g2 g3 g4 nx
    rw [if_neg h22]
    by_cases h23 : (xs (nI (9 * n)).toNatClampNeg &&& (63 : Int32)) = (23 : Int32)
    · rw [if_pos h23]
      exact case_hop w g1 g2 g3 g4 nx
    rw [if_neg h23]
    by_cases h24 : (xs (nI (9 * n)).toNatClampNeg &&& (63 : Int32)) = (24 : Int32)
    · rw [if_pos h24]
      exact case_tuning w g1 g2 g3 nx
    rw [if_neg h24]
    by_cases h25 : (xs (nI (9 * n)).toNatClampNeg &&& (63 : Int32)) = (25 : Int32)
    · rw [if_pos h25]
      exact case_ring w g1 g2 g3 nx
    rw [if_neg h25]
    by_cases h26 : (xs (nI (9 * n)).toNatClampNeg &&& (63 : Int32)) = (26 : Int32)
    · rw [if_pos h26]
      exact case_fits w  nx
    rw [if_neg h26]
    by_cases h27 : (xs (nI (9 * n)).toNatClampNeg &&& (63 : Int32)) = (27 : Int32)
    · rw [if_pos h27]
      exact case_look w g1 nx
    rw [if_neg h27]
    by_cases h28 : (xs (nI (9 * n)).toNatClampNeg &&& (63 : Int32)) = (28 : Int32)
    · rw [if_pos h28]
      exact case_ready w g1 nx
    rw [if_neg h28]
    by_cases h29 : (xs (nI (9 * n)).toNatClampNeg &&& (63 : Int32)) = (29 : Int32)
    · rw [if_pos h29]
      exact case_latest w g1 nx
    rw [if_neg h29]
    by_cases h30 : (xs (nI (9 * n)).toNatClampNeg &&& (63 : Int32)) = (30 : Int32)
    · rw [if_pos h30]
      exact case_alike w g1 g2 nx
    rw [if_neg h30]
    by_cases h31 : (xs (nI (9 * n)).toNatClampNeg &&& (63 : Int32)) = (31 : Int32)
    · rw [if_pos h31]
      exact case_chained w g1 nx
    rw [if_neg h31]
    by_cases h32 : (xs (nI (9 * n)).toNatClampNeg &&& (63 : Int32)) = (32 : Int32)
    · rw [if_pos h32]
      exact case_liar w g1 g2 nx
    rw [if_neg h32]
    by_cases h33 : (xs (nI (9 * n)).toNatClampNeg &&& (63 : Int32)) = (33 : Int32)
    · rw [if_pos h33]
      exact case_reach w g1 nx
    rw [if_neg h33]
    by_cases h34 : (xs (nI (9 * n)).toNatClampNeg &&& (63 : Int32)) = (34 : Int32)
    · rw [if_pos h34]
      exact case_room w  nx
    rw [if_neg h34]
    by_cases h35 : (xs (nI (9 * n)).toNatClampNeg &&& (63 : Int32)) = (35 : Int32)
    · rw [if_pos h35]
      exact case_season w g1 g2 g3 g4 nx
    rw [if_neg h35]
    by_cases h36 : (xs (nI (9 * n)).toNatClampNeg &&& (63 : Int32)) = (36 : Int32)
    · rw [if_pos h36]
      exact case_span w g1 g2 g3 g4 g5 g6 nx
    rw [if_neg h36]
    by_cases h37 : (xs (nI (9 * n)).toNatClampNeg &&& (63 : Int32)) = (37 : Int32)
    · rw [if_pos h37]
      exact case_image w  nx
    rw [if_neg h37]
    by_cases h38 : (xs (nI (9 * n)).toNatClampNeg &&& (63 : Int32)) = (38 : Int32)
    · rw [if_pos h38]
      exact case_restore w  nx
    rw [if_neg h38]
    by_cases h39 : (xs (nI (9 * n)).toNatClampNeg &&& (63 : Int32)) = (39 : Int32)
    · rw [if_pos h39]
      exact case_status w g1 nx
    rw [if_neg h39]
    by_cases h40 : (xs (nI (9 * n)).toNatClampNeg &&& (63 : Int32)) = (40 : Int32)
    · rw [if_pos h40]
      exact case_count w g1 nx
    rw [if_neg h40]
    exact nx μ f a w.up
