/-! ===== bits of a whole number ===== -/
theorem sh31 : ∀ k, k < 32 → (nI k &&& 31 : Int32) = nI k ∧ ((nI k).toBitVec.smod 32).toNat = k := by decide +kernel
theorem and1 (x : BitVec 32) : x &&& 1#32 = if x.getLsbD 0 then 1#32 else 0#32 := by
  apply BitVec.eq_of_getLsbD_eq
  intro i hi
  rw [BitVec.getLsbD_and]
  by_cases h0 : i = 0
  · subst h0
    cases x.getLsbD 0 <;> rfl
  · have h1 : (1#32 : BitVec 32).getLsbD i = false := by
      rw [BitVec.getLsbD_one]
      simp [h0]
    rw [h1, Bool.and_false]
    split
    · rw [h1]
    · simp
theorem shr_bit {b : Int32} {k : Nat} (hk : k < 32) : (b >>> (nI k &&& 31)).toBitVec.getLsbD 0 = b.toBitVec.getLsbD k := by
  rw [(sh31 k hk).1, Int32.toBitVec_shiftRight, BitVec.sshiftRight', (sh31 k hk).2, BitVec.getLsbD_sshiftRight]
  simp
  omega
theorem hasI_iff {b : Int32} {k : Nat} (hk : k < 32) : hasI b k ↔ b.toBitVec.getLsbD k = true := by
  unfold hasI
  rw [← Int32.toBitVec_inj, Int32.toBitVec_and, show (1 : Int32).toBitVec = 1#32 from rfl, show (0 : Int32).toBitVec = 0#32 from rfl, and1, shr_bit hk]
  cases b.toBitVec.getLsbD k <;> simp
theorem has_1 {b : Int32} {k : Nat} (hk : k < 32) : ((b >>> (nI k &&& 31)) &&& 1 : Int32) = 1 ↔ hasI b k := by
  unfold hasI
  have h := and1 (b >>> (nI k &&& 31)).toBitVec
  constructor
  · intro z
    rw [z]; decide
  · intro z
    rw [← Int32.toBitVec_inj, Int32.toBitVec_and, show (1 : Int32).toBitVec = 1#32 from rfl, h]
    by_cases e : (b >>> (nI k &&& 31)).toBitVec.getLsbD 0
    · rw [if_pos e]
    · refine absurd ?_ z
      rw [← Int32.toBitVec_inj, Int32.toBitVec_and, show (1 : Int32).toBitVec = 1#32 from rfl, h, if_neg e]
      rfl
theorem R_has {b : Int32} {k : Nat} {μ : Mem} (hk : k < 32) : LX12_has b (nI k) μ = some (if hasI b k then 1 else 0, μ) := by
  unfold LX12_has
  by_cases h : hasI b k
  · rw [if_pos ((has_1 hk).mpr h), if_pos h]
  · rw [if_neg (fun z => h ((has_1 hk).mp z)), if_neg h]
theorem has_or {x y : Int32} {k : Nat} (hk : k < 32) : hasI (x ||| y) k ↔ hasI x k ∨ hasI y k := by
  rw [hasI_iff hk, hasI_iff hk, hasI_iff hk, Int32.toBitVec_or, BitVec.getLsbD_or, Bool.or_eq_true]
theorem has_bit : ∀ j, j < 32 → ∀ k, k < 32 → (hasI (bitI j) k ↔ k = j) := by decide +kernel
theorem has_0 : ∀ k, k < 32 → ¬ hasI 0 k := by decide +kernel
theorem has_ext {x y : Int32} (h : ∀ k, k < 32 → (hasI x k ↔ hasI y k)) : x = y := by
  rw [← Int32.toBitVec_inj]
  apply BitVec.eq_of_getLsbD_eq
  intro i hi
  have := h i hi
  rw [hasI_iff hi, hasI_iff hi] at this
  cases e1 : x.toBitVec.getLsbD i <;> cases e2 : y.toBitVec.getLsbD i <;> simp_all
/-- how many of the eight are not in -/
def out1 (b : Int32) (k : Nat) : Nat := if hasI b k then 0 else 1
def outN (b : Int32) : Nat := out1 b 0 + out1 b 1 + out1 b 2 + out1 b 3 + out1 b 4 + out1 b 5 + out1 b 6 + out1 b 7
theorem out1_o {b : Int32} {q k : Nat} (hq : q < 8) (hk : k < 8) (h : k ≠ q) : out1 (b ||| bitI q) k = out1 b k := by
  unfold out1
  have e : hasI (b ||| bitI q) k ↔ hasI b k := by
    rw [has_or (by omega), has_bit q (by omega) k (by omega)]
    exact ⟨fun z => z.elim id fun y => absurd y h, Or.inl⟩
  by_cases g : hasI b k
  · rw [if_pos g, if_pos (e.mpr g)]
  · rw [if_neg g, if_neg (fun z => g (e.mp z))]
theorem out1_s {b : Int32} {q : Nat} (hq : q < 8) : out1 (b ||| bitI q) q = 0 := if_pos ((has_or (by omega)).mpr (Or.inr ((has_bit q (by omega) q (by omega)).mpr rfl)))
theorem outN_in {b : Int32} {q : Nat} (hq : q < 8) (h : ¬ hasI b q) : outN (b ||| bitI q) + 1 = outN b := by
  have h1 : out1 b q = 1 := if_neg h
  have hs := out1_s (b := b) hq
  have ho := fun k hk hkq => out1_o (b := b) (q := q) (k := k) hq hk hkq
  unfold outN
  have hq' : q = 0 ∨ q = 1 ∨ q = 2 ∨ q = 3 ∨ q = 4 ∨ q = 5 ∨ q = 6 ∨ q = 7 := by omega
  rcases hq' with rfl | rfl | rfl | rfl | rfl | rfl | rfl | rfl
  · rw [hs, ho 1 (by decide) (by decide), ho 2 (by decide) (by decide), ho 3 (by decide) (by decide), ho 4 (by decide) (by decide), ho 5 (by decide) (by decide), ho 6 (by decide) (by decide), ho 7 (by decide) (by decide)]; omega
  · rw [hs, ho 0 (by decide) (by decide), ho 2 (by decide) (by decide), ho 3 (by decide) (by decide), ho 4 (by decide) (by decide), ho 5 (by decide) (by decide), ho 6 (by decide) (by decide), ho 7 (by decide) (by decide)]; omega
  · rw [hs, ho 0 (by decide) (by decide), ho 1 (by decide) (by decide), ho 3 (by decide) (by decide), ho 4 (by decide) (by decide), ho 5 (by decide) (by decide), ho 6 (by decide) (by decide), ho 7 (by decide) (by decide)]; omega
  · rw [hs, ho 0 (by decide) (by decide), ho 1 (by decide) (by decide), ho 2 (by decide) (by decide), ho 4 (by decide) (by decide), ho 5 (by decide) (by decide), ho 6 (by decide) (by decide), ho 7 (by decide) (by decide)]; omega
  · rw [hs, ho 0 (by decide) (by decide), ho 1 (by decide) (by decide), ho 2 (by decide) (by decide), ho 3 (by decide) (by decide), ho 5 (by decide) (by decide), ho 6 (by decide) (by decide), ho 7 (by decide) (by decide)]; omega
  · rw [hs, ho 0 (by decide) (by decide), ho 1 (by decide) (by decide), ho 2 (by decide) (by decide), ho 3 (by decide) (by decide), ho 4 (by decide) (by decide), ho 6 (by decide) (by decide), ho 7 (by decide) (by decide)]; omega
  · rw [hs, ho 0 (by decide) (by decide), ho 1 (by decide) (by decide), ho 2 (by decide) (by decide), ho 3 (by decide) (by decide), ho 4 (by decide) (by decide), ho 5 (by decide) (by decide), ho 7 (by decide) (by decide)]; omega
  · rw [hs, ho 0 (by decide) (by decide), ho 1 (by decide) (by decide), ho 2 (by decide) (by decide), ho 3 (by decide) (by decide), ho 4 (by decide) (by decide), ho 5 (by decide) (by decide), ho 6 (by decide) (by decide)]; omega
theorem outN_0 : outN 0 = 8 := by decide
