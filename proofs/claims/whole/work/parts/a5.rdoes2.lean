/-! ===== the reference: sheets copied, days that end, STEPS done ===== -/
def cpP (ρ : Nat → Int32) (a b i : Nat) : Nat → Int32 := fun j => if 35 + 24 * b ≤ j ∧ j < 35 + (24 * b + i) then ρ (j - 24 * b + 24 * a) else if 227 + 24 * b ≤ j ∧ j < 227 + (24 * b + i) then ρ (j - 24 * b + 24 * a) else ρ j
theorem cpP_r {ρ : Nat → Int32} {a b i : Nat} (ha : a < 8) (hb : b < 8) (hi : i < 24) : cpP ρ a b i (35 + (24 * a + i)) = ρ (35 + (24 * a + i)) ∧ cpP ρ a b i (227 + (24 * a + i)) = ρ (227 + (24 * a + i)) := by
  unfold cpP
  refine ⟨?_, ?_⟩
  · rw [if_neg (by omega), if_neg (by omega)]
  · rw [if_neg (by omega), if_neg (by omega)]
theorem cpP_s {ρ : Nat → Int32} {a b i : Nat} (hb : b < 8) (hi : i < 24) : ru (ru (cpP ρ a b i) (35 + (24 * b + i)) (ρ (35 + (24 * a + i)))) (227 + (24 * b + i)) (ρ (227 + (24 * a + i))) = cpP ρ a b (i + 1) := by
  funext j
  by_cases e1 : j = 227 + (24 * b + i)
  · rw [e1, ru_s]
    unfold cpP
    rw [if_neg (by omega), if_pos (by omega)]
    congr 1
    omega
  rw [ru_o e1]
  by_cases e2 : j = 35 + (24 * b + i)
  · rw [e2, ru_s]
    unfold cpP
    rw [if_pos (by omega)]
    congr 1
    omega
  rw [ru_o e2]
  unfold cpP
  by_cases g1 : 35 + 24 * b ≤ j ∧ j < 35 + (24 * b + i)
  · rw [if_pos g1, if_pos (show 35 + 24 * b ≤ j ∧ j < 35 + (24 * b + (i + 1)) by omega)]
  · rw [if_neg g1, if_neg (show ¬ (35 + 24 * b ≤ j ∧ j < 35 + (24 * b + (i + 1))) by omega)]
    by_cases g2 : 227 + 24 * b ≤ j ∧ j < 227 + (24 * b + i)
    · rw [if_pos g2, if_pos (show 227 + 24 * b ≤ j ∧ j < 227 + (24 * b + (i + 1)) by omega)]
    · rw [if_neg g2, if_neg (show ¬ (227 + 24 * b ≤ j ∧ j < 227 + (24 * b + (i + 1))) by omega)]
theorem cpP_n {ρ : Nat → Int32} {a b n : Nat} {v : Int32} (hb : b < 8) : ru (cpP ρ a b n) (24 + b) v = sCp ρ a b n v := by
  funext j
  unfold sCp
  by_cases e : j = 24 + b
  · rw [e, ru_s, if_neg (by omega), if_neg (by omega), if_pos rfl]
  · rw [ru_o e]
    unfold cpP
    rw [if_neg (show ¬ j = 24 + b from e)]
theorem mn_less {n x : Int32} : (if x < n then x else n) = mnI n x := by
  unfold mnI
  by_cases h : x < n
  · rw [if_pos h, if_neg (Int32.not_lt.mpr (Int32.le_of_lt h))]
  · rw [if_neg h]
    by_cases h2 : n < x
    · rw [if_pos h2]
    · rw [if_neg h2]
      exact Int32.le_antisymm (Int32.not_lt.mp h) (Int32.not_lt.mp h2)
theorem R_copyL {h a b n : Nat} {ρ : Nat → Int32} (ha : a < 8) (hb : b < 8) (hn : n ≤ 24) (h125 : h ≠ 125) : ∀ (f i fu : Nat) (μ : Mem), ArS μ h 419 → RoR μ h (cpP ρ a b i) → f + i = n → f < fu → ∃ μ' : Mem, mX12_copiesSheet_66 fu h (nI a) (nI b) (nI n) (nI i) μ = some (1, μ') ∧ OF nS (fun x => x = h) μ μ' ∧ RoR μ' h (sCp ρ a b n (mxI (mnI (nI n) (ρ (24 + a))) (ρ (24 + b)))) := by
  intro f
  induction f with
  | zero =>
    intro i fu μ ar r hi hf
    obtain ⟨fu, rfl⟩ : ∃ q, fu = q + 1 := ⟨fu - 1, by omega⟩
    have hi : i = n := by omega
    subst hi
    have va : g_I μ h (24 + a) = ρ (24 + a) := by
      rw [r (24 + a) (by omega)]
      unfold cpP
      rw [if_neg (by omega), if_neg (by omega)]
    have vb : g_I μ h (24 + b) = ρ (24 + b) := by
      rw [r (24 + b) (by omega)]
      unfold cpP
      rw [if_neg (by omega), if_neg (by omega)]
    rw [mX12_copiesSheet_66, if_pos (nI_le (Nat.le_refl _) (by omega)), n24p, if_pos (ar.ix (show 24 + b < 419 by omega) (by decide)), n24p, if_pos (ar.ix (show 24 + a < 419 by omega) (by decide)), nI_clamp (show 24 + a < 2147483648 by omega), nI_clamp (show 24 + b < 2147483648 by omega), va, vb, R_less, ob, R_more, ob, if_pos (ar.ix (show 24 + b < 419 by omega) (by decide))]
    refine ⟨_, rfl, OF.rf.pS rfl h125, ?_⟩
    rw [← cpP_n hb, mn_less]
    exact r.p
  | succ f ih =>
    intro i fu μ ar r hi hf
    obtain ⟨fu, rfl⟩ : ∃ q, fu = q + 1 := ⟨fu - 1, by omega⟩
    obtain ⟨z1, z2⟩ := cpP_r (ρ := ρ) (a := a) (b := b) (i := i) ha hb (by omega)
    have ix : ∀ j, j < 419 → inA μ h 15 (nI j) = true := fun j hj => ar.ix hj (by decide)
    have cl : ∀ j, j < 419 → (nI j).toNatClampNeg = j := fun j hj => nI_clamp (by omega)
    have r1 : g_I μ h (35 + (24 * a + i)) = ρ (35 + (24 * a + i)) := by rw [r _ (by omega)]; exact z1
    obtain ⟨ν, hν⟩ : ∃ ν, ν = p_I μ h (35 + (24 * b + i)) (ρ (35 + (24 * a + i))) := ⟨_, rfl⟩
    have rν : RoR ν h (ru (cpP ρ a b i) (35 + (24 * b + i)) (ρ (35 + (24 * a + i)))) := by rw [hν]; exact r.p
    have ix' : ∀ j, j < 419 → inA ν h 15 (nI j) = true := fun j hj => by rw [hν]; exact ix j hj
    have r2 : g_I ν h (227 + (24 * a + i)) = ρ (227 + (24 * a + i)) := by rw [rν _ (by omega), ru_o (by omega)]; exact z2
    rw [mX12_copiesSheet_66, if_neg (nI_ge (by omega) (by omega))]
    unfold LX12_placeOf
    rw [ob, ob, n24m, n24m, n35p, n35p, if_pos (ix _ (by omega)), if_pos (ix _ (by omega)), cl (35 + (24 * b + i)) (by omega), cl (35 + (24 * a + i)) (by omega), r1, ← hν, ob, ob, n227p, n227p, if_pos (ix' _ (by omega)), if_pos (ix' _ (by omega)), cl (227 + (24 * b + i)) (by omega), cl (227 + (24 * a + i)) (by omega), r2, ← nI_succ]
    have o1 : OF nS (fun x => x = h) μ (p_I ν h (227 + (24 * b + i)) (ρ (227 + (24 * a + i)))) := by
      rw [hν]
      exact ((OF.rf (F := nS) (S := fun x => x = h)).pS rfl h125).pS rfl h125
    obtain ⟨μ', e1, o2, r3⟩ := ih (i + 1) fu (p_I ν h (227 + (24 * b + i)) (ρ (227 + (24 * a + i)))) (by rw [hν]; exact ar) (by rw [← cpP_s hb (by omega)]; exact rν.p) (by omega) (by omega)
    exact ⟨μ', e1, o1.tr o2, r3⟩
theorem R_copies {μ : Mem} {h a b n : Nat} {t : HutT} {ops : OpsT} {ρ : Nat → Int32} (c : RwC μ h t ops ρ) (ha : a < t.1) (hb : b < t.1) (hn : n ≤ 24) : ∃ μ' : Mem, LX12_copiesSheet 125 h (nI a) (nI b) (nI n) μ = some (if cpRef (t.2.1 b) (t.2.1 a) ρ a b (nI n) then 0 else 1, μ') ∧ OF nS (fun x => x = h) μ μ' ∧ RoR μ' h (if cpRef (t.2.1 b) (t.2.1 a) ρ a b (nI n) then ρ else sCp ρ a b n (mxI (mnI (nI n) (ρ (24 + a))) (ρ (24 + b)))) := by
  obtain ⟨p1, p2, p3, p4, p5, p6, p7⟩ := penM c.1 c.2.1 c.2.2.1 ha
  obtain ⟨k1, k2, k3, k4, k5, k6, k7⟩ := penM c.1 c.2.1 c.2.2.1 hb
  obtain ⟨a1, a2, a3⟩ := c.at (j := 16 + a) (by omega)
  obtain ⟨b1, b2, b3⟩ := c.at (j := 16 + b) (by omega)
  unfold LX12_copiesSheet
  rw [if_pos c.1.1, if_pos c.ar.1, n16p, if_pos a1, a2, a3, n16p, if_pos b1, b2, b3, c.1.h14, if_pos q139, if_pos p1, p2, p3, if_pos p4, if_pos p5, if_pos k1, k2, k3, if_pos k4, if_pos k5, c0n, p6, k6]
  have no : cpRef (t.2.1 b) (t.2.1 a) ρ a b (nI n) → ∃ μ' : Mem, some ((0 : Int32), μ) = some (if cpRef (t.2.1 b) (t.2.1 a) ρ a b (nI n) then 0 else 1, μ') ∧ OF nS (fun x => x = h) μ μ' ∧ RoR μ' h (if cpRef (t.2.1 b) (t.2.1 a) ρ a b (nI n) then ρ else sCp ρ a b n (mxI (mnI (nI n) (ρ (24 + a))) (ρ (24 + b)))) := fun z => by
    rw [if_pos z, if_pos z]
    exact ⟨μ, rfl, OF.rf, c.r⟩
  by_cases c1 : ρ (16 + a) = -1
  · rw [if_pos c1]; exact no (Or.inr (Or.inr (Or.inl c1)))
  rw [if_neg c1]
  by_cases c2 : ρ (16 + b) = -1
  · rw [if_pos c2]; exact no (Or.inr (Or.inl c2))
  rw [if_neg c2]
  by_cases c3 : t.2.1 a = t.2.1 b
  · rw [if_pos c3]
    by_cases c4 : ρ (16 + a) < nI n
    · rw [if_pos c4]; exact no (Or.inr (Or.inr (Or.inr (Or.inr (Int32.not_le.mpr c4)))))
    rw [if_neg c4]
    by_cases c5 : nI n ≤ ρ (16 + b)
    · rw [if_pos c5]
      have nc : ¬ cpRef (t.2.1 b) (t.2.1 a) ρ a b (nI n) := by
        rintro (z | z | z | z | z)
        · exact z c3.symm
        · exact c2 z
        · exact c1 z
        · exact Int32.not_lt.mpr c5 z
        · exact z (Int32.not_lt.mp c4)
      rw [if_neg nc, if_neg nc]
      obtain ⟨μ', e1, o1, r1⟩ := R_copyL (ρ := ρ) p7 k7 hn c.ne.1 n 0 100000 μ c.ar (by
        intro k hk
        rw [c.r k hk]
        unfold cpP
        rw [if_neg (by omega), if_neg (by omega)]) rfl (by omega)
      exact ⟨μ', e1, o1, r1⟩
    · rw [if_neg c5]; exact no (Or.inr (Or.inr (Or.inr (Or.inl (Int32.not_le.mp c5)))))
  · rw [if_neg c3]; exact no (Or.inl fun z => c3 z.symm)
/-- a sheet whose first i places have moved up -/
def shF (ρ : Nat → Int32) (p n i : Nat) : Nat → Int32 := fun a => if (35 + 24 * p ≤ a ∧ a < 35 + (24 * p + i)) ∨ (227 + 24 * p ≤ a ∧ a < 227 + (24 * p + i)) then ρ (a + 1) else if a = 24 + p then nI n else ρ a
theorem shF_0 {ρ : Nat → Int32} {p n : Nat} : ru ρ (24 + p) (nI n) = shF ρ p n 0 := by
  funext a
  unfold shF
  rw [if_neg (by omega)]
  rfl
theorem shF_r {ρ : Nat → Int32} {p n i : Nat} (hp : p < 8) (hi : i < 23) : shF ρ p n i (35 + (24 * p + (i + 1))) = ρ (35 + (24 * p + i) + 1) ∧ shF ρ p n i (227 + (24 * p + (i + 1))) = ρ (227 + (24 * p + i) + 1) := by
  unfold shF
  refine ⟨?_, ?_⟩
  · rw [if_neg (by omega), if_neg (by omega)]
    congr 1
  · rw [if_neg (by omega), if_neg (by omega)]
    congr 1
theorem shF_s {ρ : Nat → Int32} {p n i : Nat} (hp : p < 8) (hi : i < 24) : ru (ru (shF ρ p n i) (35 + (24 * p + i)) (ρ (35 + (24 * p + i) + 1))) (227 + (24 * p + i)) (ρ (227 + (24 * p + i) + 1)) = shF ρ p n (i + 1) := by
  funext j
  by_cases e1 : j = 227 + (24 * p + i)
  · rw [e1, ru_s]
    unfold shF
    rw [if_pos (by omega)]
  rw [ru_o e1]
  by_cases e2 : j = 35 + (24 * p + i)
  · rw [e2, ru_s]
    unfold shF
    rw [if_pos (by omega)]
  rw [ru_o e2]
  unfold shF
  by_cases g1 : (35 + 24 * p ≤ j ∧ j < 35 + (24 * p + i)) ∨ (227 + 24 * p ≤ j ∧ j < 227 + (24 * p + i))
  · rw [if_pos g1, if_pos (show (35 + 24 * p ≤ j ∧ j < 35 + (24 * p + (i + 1))) ∨ (227 + 24 * p ≤ j ∧ j < 227 + (24 * p + (i + 1))) by omega)]
  · rw [if_neg g1, if_neg (show ¬ ((35 + 24 * p ≤ j ∧ j < 35 + (24 * p + (i + 1))) ∨ (227 + 24 * p ≤ j ∧ j < 227 + (24 * p + (i + 1)))) by omega)]
theorem sUp_at {f : Nat → Int32} {p n a : Nat} : sUp f p n a = if (35 + (24 * p + n) ≤ a ∧ a < 35 + (24 * p + 24)) ∨ (227 + (24 * p + n) ≤ a ∧ a < 227 + (24 * p + 24)) then -1 else if (35 + 24 * p ≤ a ∧ a < 35 + (24 * p + n)) ∨ (227 + 24 * p ≤ a ∧ a < 227 + (24 * p + n)) then f (a + 1) else if a = 24 + p then nI n else f a := rfl
theorem R_shiftL {h p n : Nat} {ρ : Nat → Int32} {q : Nat → Nat → Int32 → Mem → Option (Unit × Mem)} (hp : p < 8) (hn : n < 24) (h125 : h ≠ 125) : ∀ (f i fu : Nat) (μ : Mem), ArS μ h 419 → RoR μ h (shF ρ p n i) → f + i = n → f < fu → ∃ μ' : Mem, mX12_dayEnds_44 q fu 125 h (nI p) (nI i) μ = q 125 h (nI (p + 1)) μ' ∧ OF nS (fun x => x = h) μ μ' ∧ RoR μ' h (sUp ρ p n) := by
  intro f
  induction f with
  | zero =>
    intro i fu μ ar r hi hf
    obtain ⟨fu, rfl⟩ : ∃ q, fu = q + 1 := ⟨fu - 1, by omega⟩
    have hi : i = n := by omega
    subst hi
    have va : g_I μ h (24 + p) = nI i := by
      rw [r (24 + p) (by omega)]
      unfold shF
      rw [if_neg (by omega), if_pos rfl]
    obtain ⟨μ', e1, o1, r1⟩ := R_blanksFrom (i := i) hp h125 ar r (by omega)
    rw [mX12_dayEnds_44, n24p, if_pos (ar.ix (show 24 + p < 419 by omega) (by decide)), nI_clamp (show 24 + p < 2147483648 by omega), va, if_pos (nI_le (Nat.le_refl _) (by omega)), e1, ob, ← nI_succ]
    exact ⟨μ', rfl, o1, r1⟩
  | succ f ih =>
    intro i fu μ ar r hi hf
    obtain ⟨fu, rfl⟩ : ∃ q, fu = q + 1 := ⟨fu - 1, by omega⟩
    have va : g_I μ h (24 + p) = nI n := by
      rw [r (24 + p) (by omega)]
      unfold shF
      rw [if_neg (by omega), if_pos rfl]
    obtain ⟨z1, z2⟩ := shF_r (ρ := ρ) (p := p) (n := n) (i := i) hp (by omega)
    have ix : ∀ j, j < 419 → inA μ h 15 (nI j) = true := fun j hj => ar.ix hj (by decide)
    have cl : ∀ j, j < 419 → (nI j).toNatClampNeg = j := fun j hj => nI_clamp (by omega)
    have r1 : g_I μ h (35 + (24 * p + (i + 1))) = ρ (35 + (24 * p + i) + 1) := by rw [r _ (by omega)]; exact z1
    obtain ⟨ν, hν⟩ : ∃ ν, ν = p_I μ h (35 + (24 * p + i)) (ρ (35 + (24 * p + i) + 1)) := ⟨_, rfl⟩
    have rν : RoR ν h (ru (shF ρ p n i) (35 + (24 * p + i)) (ρ (35 + (24 * p + i) + 1))) := by rw [hν]; exact r.p
    have ix' : ∀ j, j < 419 → inA ν h 15 (nI j) = true := fun j hj => by rw [hν]; exact ix j hj
    have r2 : g_I ν h (227 + (24 * p + (i + 1))) = ρ (227 + (24 * p + i) + 1) := by rw [rν _ (by omega), ru_o (by omega)]; exact z2
    rw [mX12_dayEnds_44, n24p, if_pos (ix _ (by omega)), cl (24 + p) (by omega), va, if_neg (nI_ge (by omega) (by omega))]
    unfold LX12_placeOf
    rw [ob, ob, ← nI_succ, n24m, n24m, n35p, n35p, if_pos (ix _ (by omega)), if_pos (ix _ (by omega)), cl (35 + (24 * p + (i + 1))) (by omega), cl (35 + (24 * p + i)) (by omega), r1, ← hν, ob, ob, n227p, n227p, if_pos (ix' _ (by omega)), if_pos (ix' _ (by omega)), cl (227 + (24 * p + (i + 1))) (by omega), cl (227 + (24 * p + i)) (by omega), r2]
    have o1 : OF nS (fun x => x = h) μ (p_I ν h (227 + (24 * p + i)) (ρ (227 + (24 * p + i) + 1))) := by
      rw [hν]
      exact ((OF.rf (F := nS) (S := fun x => x = h)).pS rfl h125).pS rfl h125
    obtain ⟨μ', e1, o2, r3⟩ := ih (i + 1) fu (p_I ν h (227 + (24 * p + i)) (ρ (227 + (24 * p + i) + 1))) (by rw [hν]; exact ar) (by rw [← shF_s hp (by omega)]; exact rν.p) (by omega) (by omega)
    exact ⟨μ', e1, o1.tr o2, r3⟩
theorem sUp32 {f : Nat → Int32} {x : Int32} {p n : Nat} (hp : p < 8) (hn : n < 24) : sUp (ru f 32 x) p n = ru (sUp f p n) 32 x := by
  funext a
  by_cases e : a = 32
  · rw [e, ru_s, sUp_at, if_neg (by omega), if_neg (by omega), if_neg (by omega), ru_s]
  · rw [ru_o e, sUp_at, sUp_at]
    by_cases g1 : (35 + (24 * p + n) ≤ a ∧ a < 35 + (24 * p + 24)) ∨ (227 + (24 * p + n) ≤ a ∧ a < 227 + (24 * p + 24))
    · rw [if_pos g1, if_pos g1]
    · rw [if_neg g1, if_neg g1]
      by_cases g2 : (35 + 24 * p ≤ a ∧ a < 35 + (24 * p + n)) ∨ (227 + 24 * p ≤ a ∧ a < 227 + (24 * p + n))
      · rw [if_pos g2, if_pos g2, ru_o (by omega)]
      · rw [if_neg g2, if_neg g2, ru_o e]
theorem sEnd32 {ρ : Nat → Int32} {x : Int32} (h24 : ∀ p, p < 8 → nOf ρ p ≤ 24) : ∀ j, j ≤ 8 → sEnd (ru ρ 32 x) j = ru (sEnd ρ j) 32 x := by
  intro j
  induction j with
  | zero => intro _; rfl
  | succ j ih =>
    intro hj
    have en : nOf (ru ρ 32 x) j = nOf ρ j := by unfold nOf; rw [ru_o (by omega)]
    show (if nOf (ru ρ 32 x) j = 0 then sEnd (ru ρ 32 x) j else sUp (sEnd (ru ρ 32 x) j) j (nOf (ru ρ 32 x) j - 1)) = ru (if nOf ρ j = 0 then sEnd ρ j else sUp (sEnd ρ j) j (nOf ρ j - 1)) 32 x
    rw [en, ih (by omega)]
    by_cases h0 : nOf ρ j = 0
    · rw [if_pos h0, if_pos h0]
    · rw [if_neg h0, if_neg h0, sUp32 (by omega) (by have := h24 j (by omega); omega)]
theorem R_dayL {h : Nat} {t : HutT} {σ : Nat → Int32} (ho : HutOk t) (h125 : h ≠ 125) (hh : 343 ≤ h) (rk : RowK t.1 t.2.1 σ) : ∀ (f j fu : Nat) (μ : Mem), RfS μ → g_I μ 129 0 = nI t.1 → ArS μ h 419 → RoR μ h (sEnd σ j) → f + j = t.1 → f < fu → ∃ μ' : Mem, mX12_dayEnds_10 fu 125 h (nI j) μ = some ((), μ') ∧ OF nS (fun x => x = h) μ μ' ∧ RoR μ' h (sEnd σ t.1) := by
  have h8 := ho.1
  intro f
  induction f with
  | zero =>
    intro j fu μ s g0 ar r hj hf
    obtain ⟨fu, rfl⟩ : ∃ q, fu = q + 1 := ⟨fu - 1, by omega⟩
    have hj : j = t.1 := by omega
    rw [mX12_dayEnds_10, s.h12, if_pos q129, if_pos (show inA μ 129 15 (0 : Int32) = true from s.a129.ix (i := 0) (by decide) (by decide)), c0n, g0, if_pos (nI_le (by omega) (by omega))]
    rw [hj] at r
    exact ⟨μ, rfl, OF.rf, r⟩
  | succ f ih =>
    intro j fu μ s g0 ar r hj hf
    obtain ⟨fu, rfl⟩ : ∃ q, fu = q + 1 := ⟨fu - 1, by omega⟩
    obtain ⟨⟨-, -, -, sm, -⟩, -⟩ := sEnd_same rk.h24 j j (by omega) (Nat.le_refl _) (by omega)
    obtain ⟨n1, n2, -⟩ := (rk.2.1 j (by omega)).1.n
    have va : g_I μ h (24 + j) = nI (nOf σ j) := by rw [r (24 + j) (by omega), sm, n1]
    have ei : sEnd σ (j + 1) = if nOf σ j = 0 then sEnd σ j else sUp (sEnd σ j) j (nOf σ j - 1) := rfl
    rw [mX12_dayEnds_10, s.h12, if_pos q129, if_pos (show inA μ 129 15 (0 : Int32) = true from s.a129.ix (i := 0) (by decide) (by decide)), c0n, g0, if_neg (nI_ge (by omega) (by omega)), n24p, if_pos (ar.ix (show 24 + j < 419 by omega) (by decide)), nI_clamp (show 24 + j < 2147483648 by omega), va]
    by_cases h0 : nOf σ j = 0
    · rw [if_pos (by rw [h0]; rfl), ← nI_succ]
      exact ih (j + 1) fu μ s g0 ar (by rw [ei, if_pos h0]; exact r) (by omega) (by omega)
    · have e1 : nI (nOf σ j) - 1 = nI (nOf σ j - 1) := by rw [show (1 : Int32) = nI 1 from rfl, nI_sub (by omega)]
      rw [if_neg (nI_ne0 (by omega) (by omega)), e1]
      obtain ⟨ν, e2, o2, r2⟩ := R_shiftL (ρ := sEnd σ j) (p := j) (n := nOf σ j - 1) (q := fun l0 l1 l2 μ => mX12_dayEnds_10 fu l0 l1 l2 μ) (by omega) (by omega) h125 (nOf σ j - 1) 0 100000 (p_I μ h (24 + j) (nI (nOf σ j - 1))) ar (by rw [← shF_0]; exact r.p) rfl (by omega)
      have e2 : mX12_dayEnds_44 (fun l0 l1 l2 μ => mX12_dayEnds_10 fu l0 l1 l2 μ) 100000 125 h (nI j) (0 : Int32) (p_I μ h (24 + j) (nI (nOf σ j - 1))) = mX12_dayEnds_10 fu 125 h (nI (j + 1)) ν := e2
      have o1 : OF nS (fun x => x = h) μ ν := ((OF.rf (F := nS) (S := fun x => x = h)).pS rfl h125).tr o2
      obtain ⟨μ', e3, o3, r3⟩ := ih (j + 1) fu ν (o1.s s) (by rw [o1.r (by decide) (by omega)]; exact g0) (by unfold ArS; rw [sh_isK o1.1.1, sh_gN o1.1.1]; exact ar) (by rw [ei, if_neg h0]; exact r2) (by omega) (by omega)
      rw [e2]
      exact ⟨μ', e3, o1.tr o3, r3⟩
theorem R_dayEnds {μ : Mem} {h : Nat} {t : HutT} {ops : OpsT} {ρ : Nat → Int32} (c : RwC μ h t ops ρ) : ∃ μ' : Mem, LX12_dayEnds 125 h μ = some ((), μ') ∧ OF nS (fun x => x = h) μ μ' ∧ RoR μ' h (sDay t.1 ρ) := by
  obtain ⟨x1, x2, x3⟩ := c.at (j := 32) (by decide)
  have h8 := c.2.2.1.1
  unfold LX12_dayEnds
  rw [if_pos c.1.1, if_pos c.ar.1, if_pos (show inA μ h 15 (32 : Int32) = true from x1), show (32 : Int32).toNatClampNeg = 32 from rfl, x3]
  have o1 : OF nS (fun x => x = h) μ (p_I μ h 32 (ρ 32 + 1)) := OF.rf.pS rfl c.ne.1
  have rk : RowK t.1 t.2.1 (ru ρ 32 (ρ 32 + 1)) := c.k.same fun q hq => ru_same hq (by omega)
  obtain ⟨μ', e1, o2, r2⟩ := R_dayL (σ := ru ρ 32 (ρ 32 + 1)) c.2.2.1 c.ne.1 c.ne.2.2.2 rk t.1 0 100000 (p_I μ h 32 (ρ 32 + 1)) (o1.s c.1) (by rw [gI_h (show (129 : Nat) ≠ h by have := c.ne; omega)]; exact c.2.1.1.1) c.ar c.r.p rfl (by omega)
  refine ⟨μ', e1, o1.tr o2, ?_⟩
  rw [sEnd32 c.k.h24 t.1 h8] at r2
  exact r2
/-- a STEP as the reference keeps it -/
def StpM (μ : Mem) (hs : Nat) (q : StepT) : Prop := g_I μ hs 0 = nI q.1 ∧ (q.1 ≠ 8 → g_I μ hs 1 = nI q.2.1) ∧ ((q.1 ≤ 1 ∨ (5 ≤ q.1 ∧ q.1 ≤ 7)) → g_I μ hs 2 = nI q.2.2.1) ∧ ((5 ≤ q.1 ∧ q.1 ≤ 7) → g_I μ hs 3 = nI q.2.2.2.1) ∧ g_I μ hs 4 = nI q.2.2.2.2
theorem b01' {x : Int32} (h : x = 0 ∨ x = 1) {α : Type} {A B : α} : (if x = 0 ∨ x = 1 then A else B) = A := if_pos h
theorem R_does {μ : Mem} {h hs : Nat} {t : HutT} {ops : OpsT} {ρ : Nat → Int32} {q : StepT} (c : RwC μ h t ops ρ) (as : ArS μ hs 5) (st : StpM μ hs q) (ok : StepOk t q) (h9 : q.1 ≠ 9) : ∃ μ' : Mem, LX12_does 125 h hs μ = some ((doF t ops q ρ).1, μ') ∧ OF nS (dS h) μ μ' ∧ RwC μ' h t ops (doF t ops q ρ).2 := by
  have rk' : RowK t.1 t.2.1 (doF t ops q ρ).2 := rk_do c.k c.2.2.1 ok
  obtain ⟨s0, s1, s2, s3, s4⟩ := st
  obtain ⟨o1, o2, o3, o4, o5, o6, o7, -⟩ := ok
  have h8 := c.2.2.1.1
  have i0 : inA μ hs 15 (0 : Int32) = true := as.ix (i := 0) (by decide) (by decide)
  have i1 : inA μ hs 15 (1 : Int32) = true := as.ix (i := 1) (by decide) (by decide)
  have i2 : inA μ hs 15 (2 : Int32) = true := as.ix (i := 2) (by decide) (by decide)
  have i3 : inA μ hs 15 (3 : Int32) = true := as.ix (i := 3) (by decide) (by decide)
  have ix : ∀ j, j < 419 → inA μ h 15 (nI j) = true := fun j hj => c.ar.ix hj (by decide)
  have cl : ∀ j, j < 419 → (nI j).toNatClampNeg = j := fun j hj => nI_clamp (by omega)
  unfold LX12_does
  rw [if_pos c.1.1, if_pos c.ar.1, if_pos as.1, if_pos i1, if_pos i0, c0n, c1n, c2n, c3n, s0]
  unfold doF at rk' ⊢
  have hk : q.1 = 0 ∨ q.1 = 1 ∨ q.1 = 2 ∨ q.1 = 3 ∨ q.1 = 4 ∨ q.1 = 5 ∨ q.1 = 6 ∨ q.1 = 7 ∨ q.1 = 8 := by omega
  rcases hk with e | e | e | e | e | e | e | e | e
  · rw [e] at s1 s2 ⊢
    rw [s1 (by decide), s2 (by decide), if_pos (show nI 0 = (0 : Int32) from rfl), if_pos i2, if_pos rfl]
    obtain ⟨μ', e1, p1, c1⟩ := R_reads (v := nI q.2.2.1) c (o2 (by omega))
    rw [e1, ob]
    unfold tryRead at c1
    by_cases hc : canP (t.2.1 q.2.1) ρ q.2.1 = 0
    · rw [if_pos hc] at c1 ⊢
      rw [if_pos hc, if_pos (Or.inl rfl)]
      exact ⟨μ', rfl, p1, c1⟩
    · rw [if_neg hc] at c1 ⊢
      rw [if_neg hc, if_pos (Or.inr rfl)]
      exact ⟨μ', rfl, p1, c1⟩
  · rw [e] at s1 s2 ⊢
    rw [s1 (by decide), s2 (by decide), if_neg (show ¬ nI 1 = (0 : Int32) by decide), if_pos (show nI 1 = (1 : Int32) from rfl), if_pos i2, if_neg (show ¬ (1 : Nat) = 0 by decide), if_pos rfl]
    obtain ⟨μ', e1, p1, c1⟩ := R_reads (v := -(nI q.2.2.1)) c (o2 (by omega))
    rw [e1, ob]
    unfold tryRead at c1
    by_cases hc : canP (t.2.1 q.2.1) ρ q.2.1 = 0
    · rw [if_pos hc] at c1 ⊢
      rw [if_pos hc, if_pos (Or.inl rfl)]
      exact ⟨μ', rfl, p1, c1⟩
    · rw [if_neg hc] at c1 ⊢
      rw [if_neg hc, if_pos (Or.inr rfl)]
      exact ⟨μ', rfl, p1, c1⟩
  · rw [e] at s1 ⊢
    rw [s1 (by decide), if_neg (show ¬ nI 2 = (0 : Int32) by decide), if_neg (show ¬ nI 2 = (1 : Int32) by decide), if_pos (show nI 2 = (2 : Int32) from rfl), if_neg (show ¬ (2 : Nat) = 0 by decide), if_neg (show ¬ (2 : Nat) = 1 by decide), if_pos rfl]
    obtain ⟨μ', e1, p1, c1⟩ := R_hears c (o3 e)
    rw [e1, ob]
    unfold tryHear tryRead at c1
    by_cases h0 : nOf ρ (t.2.2.2.2.2.1 q.2.1) = 0
    · rw [if_pos h0] at c1 ⊢
      rw [if_pos h0, if_pos (Or.inl rfl)]
      exact ⟨μ', rfl, p1, c1⟩
    rw [if_neg h0] at c1 ⊢
    rw [if_neg h0]
    by_cases hc : canP (t.2.1 (t.2.2.2.2.2.2.1 q.2.1)) ρ (t.2.2.2.2.2.2.1 q.2.1) = 0
    · rw [if_pos hc] at c1 ⊢
      rw [if_pos hc, if_pos (Or.inl rfl)]
      exact ⟨μ', rfl, p1, c1⟩
    · rw [if_neg hc] at c1 ⊢
      rw [if_neg hc, if_pos (Or.inr rfl)]
      exact ⟨μ', rfl, p1, c1⟩
  · have hp := o2 (by omega)
    obtain ⟨n1, n2, -⟩ := (c.k.2.1 _ hp).1.n
    rw [e] at s1 rk' ⊢
    rw [s1 (by decide), if_neg (show ¬ nI 3 = (0 : Int32) by decide), if_neg (show ¬ nI 3 = (1 : Int32) by decide), if_neg (show ¬ nI 3 = (2 : Int32) by decide), if_pos (show nI 3 = (3 : Int32) from rfl), if_neg (show ¬ (3 : Nat) = 0 by decide), if_neg (show ¬ (3 : Nat) = 1 by decide), if_neg (show ¬ (3 : Nat) = 2 by decide), if_pos rfl, n24p, if_pos (ix _ (by omega)), cl _ (by omega), c.r _ (by omega)]
    rw [if_neg (show ¬ (3 : Nat) = 0 by decide), if_neg (show ¬ (3 : Nat) = 1 by decide), if_neg (show ¬ (3 : Nat) = 2 by decide), if_pos rfl] at rk'
    by_cases h0 : ρ (24 + q.2.1) = 0
    · rw [if_pos (by rw [h0]; decide), if_pos h0]
      exact ⟨μ, rfl, OF.rf, c⟩
    · have hn0 : nOf ρ q.2.1 ≠ 0 := fun z => h0 (by rw [n1, z]; rfl)
      have hnle : ¬ ρ (24 + q.2.1) ≤ 0 := by rw [n1]; exact nI_nle (by omega) (by omega)
      have hpl : ¬ ρ (16 + q.2.1) < 0 := by
        rcases pl_c (c.k.2.1 _ hp).1 with ⟨-, z⟩ | ⟨cc, z, h24, -⟩
        · exact absurd z hn0
        · rw [z]; exact nI_pos (by omega)
      rw [if_neg h0] at rk' ⊢
      rw [if_neg hnle, n16p, if_pos (ix _ (by omega)), cl _ (by omega), c.r _ (by omega)]
      obtain ⟨μ', e1, p1, r1⟩ := R_laysSheet (n := ρ (16 + q.2.1)) (show q.2.1 < 8 by omega) c.ne.1 c.ar c.r
      rw [if_neg hpl] at r1
      rw [e1, if_neg hpl, ob, if_neg (by decide)]
      have p1' := p1.mo (fun _ z => z) hS_d
      exact ⟨μ', rfl, p1', c.d p1' r1 rk'⟩
  · have hp := o2 (by omega)
    rw [e] at s1 rk' ⊢
    rw [s1 (by decide), if_neg (show ¬ nI 4 = (0 : Int32) by decide), if_neg (show ¬ nI 4 = (1 : Int32) by decide), if_neg (show ¬ nI 4 = (2 : Int32) by decide), if_neg (show ¬ nI 4 = (3 : Int32) by decide), if_pos (show nI 4 = (4 : Int32) from rfl), if_neg (show ¬ (4 : Nat) = 0 by decide), if_neg (show ¬ (4 : Nat) = 1 by decide), if_neg (show ¬ (4 : Nat) = 2 by decide), if_neg (show ¬ (4 : Nat) = 3 by decide), if_pos rfl, n16p, if_pos (ix _ (by omega)), cl _ (by omega), c.r _ (by omega)]
    rw [if_neg (show ¬ (4 : Nat) = 0 by decide), if_neg (show ¬ (4 : Nat) = 1 by decide), if_neg (show ¬ (4 : Nat) = 2 by decide), if_neg (show ¬ (4 : Nat) = 3 by decide), if_pos rfl] at rk'
    by_cases h0 : ρ (16 + q.2.1) = -1
    · rw [if_pos h0, if_pos h0]
      exact ⟨μ, rfl, OF.rf, c⟩
    · rw [if_neg h0] at rk' ⊢
      rw [if_neg h0]
      obtain ⟨μ', e1, p1, r1⟩ := R_laysSheet (n := 0) (show q.2.1 < 8 by omega) c.ne.1 c.ar c.r
      rw [if_neg (show ¬ (0 : Int32) < 0 by decide)] at r1
      have ix' : inA μ' h 15 (nI (16 + q.2.1)) = true := by rw [sh_inA p1.1.1]; exact ix _ (by omega)
      rw [e1, ob, if_pos ix']
      have p1' : OF nS (dS h) μ (p_I μ' h (16 + q.2.1) (-1)) := (p1.mo (fun _ z => z) hS_d).pS (Or.inr (Or.inr rfl)) c.ne.1
      refine ⟨_, rfl, p1', c.d p1' ?_ rk'⟩
      have er : ru (sLay ρ q.2.1 0) (16 + q.2.1) (-1) = sLay ρ q.2.1 (-1) := by
        funext a
        unfold sLay
        by_cases ea : a = 16 + q.2.1
        · rw [ea, ru_s, rbl_o (by omega), ru_o (by omega), ru_s]
        · rw [ru_o ea]
          unfold rbl
          split
          · rfl
          · by_cases eb : a = 24 + q.2.1
            · rw [eb, ru_s, ru_s]
            · rw [ru_o eb, ru_o eb, ru_o ea, ru_o ea]
      rw [← er]
      exact r1.p
  · have hp := o2 (by omega)
    rw [e] at s1 s2 s3 rk' ⊢
    rw [s1 (by decide), s2 (by decide), s3 (by decide), if_neg (show ¬ nI 5 = (0 : Int32) by decide), if_neg (show ¬ nI 5 = (1 : Int32) by decide), if_neg (show ¬ nI 5 = (2 : Int32) by decide), if_neg (show ¬ nI 5 = (3 : Int32) by decide), if_neg (show ¬ nI 5 = (4 : Int32) by decide), if_pos (show nI 5 = (5 : Int32) from rfl), if_neg (show ¬ (5 : Nat) = 0 by decide), if_neg (show ¬ (5 : Nat) = 1 by decide), if_neg (show ¬ (5 : Nat) = 2 by decide), if_neg (show ¬ (5 : Nat) = 3 by decide), if_neg (show ¬ (5 : Nat) = 4 by decide), if_pos rfl, if_pos i2, if_pos i3]
    rw [if_neg (show ¬ (5 : Nat) = 0 by decide), if_neg (show ¬ (5 : Nat) = 1 by decide), if_neg (show ¬ (5 : Nat) = 2 by decide), if_neg (show ¬ (5 : Nat) = 3 by decide), if_neg (show ¬ (5 : Nat) = 4 by decide), if_pos rfl] at rk'
    obtain ⟨μ', e1, p1, r1⟩ := R_laysSheet (n := nI q.2.2.1 - nI q.2.2.2.1) (show q.2.1 < 8 by omega) c.ne.1 c.ar c.r
    rw [e1, ob]
    have p1' := p1.mo (fun _ z => z) hS_d
    by_cases h0 : nI q.2.2.1 - nI q.2.2.2.1 < 0
    · rw [if_pos h0] at r1 rk' ⊢
      rw [if_pos h0, if_pos (Or.inl rfl)]
      exact ⟨μ', rfl, p1', c.d p1' r1 rk'⟩
    · rw [if_neg h0] at r1 rk' ⊢
      rw [if_neg h0, if_pos (Or.inr rfl)]
      exact ⟨μ', rfl, p1', c.d p1' r1 rk'⟩
  · have hp := o2 (by omega)
    have hb := o4 e
    rw [e] at s1 s2 s3 rk' ⊢
    rw [s1 (by decide), s2 (by decide), s3 (by decide), if_neg (show ¬ nI 6 = (0 : Int32) by decide), if_neg (show ¬ nI 6 = (1 : Int32) by decide), if_neg (show ¬ nI 6 = (2 : Int32) by decide), if_neg (show ¬ nI 6 = (3 : Int32) by decide), if_neg (show ¬ nI 6 = (4 : Int32) by decide), if_neg (show ¬ nI 6 = (5 : Int32) by decide), if_pos (show nI 6 = (6 : Int32) from rfl), if_neg (show ¬ (6 : Nat) = 0 by decide), if_neg (show ¬ (6 : Nat) = 1 by decide), if_neg (show ¬ (6 : Nat) = 2 by decide), if_neg (show ¬ (6 : Nat) = 3 by decide), if_neg (show ¬ (6 : Nat) = 4 by decide), if_neg (show ¬ (6 : Nat) = 5 by decide), if_pos rfl, if_pos i2, if_pos i3]
    rw [if_neg (show ¬ (6 : Nat) = 0 by decide), if_neg (show ¬ (6 : Nat) = 1 by decide), if_neg (show ¬ (6 : Nat) = 2 by decide), if_neg (show ¬ (6 : Nat) = 3 by decide), if_neg (show ¬ (6 : Nat) = 4 by decide), if_neg (show ¬ (6 : Nat) = 5 by decide), if_pos rfl] at rk'
    obtain ⟨μ', e1, p1, r1⟩ := R_copies c hp hb (o6 (Or.inr e))
    rw [e1, ob]
    have p1' := p1.mo (fun _ z => z) hS_d
    by_cases h0 : cpRef (t.2.1 q.2.2.1) (t.2.1 q.2.1) ρ q.2.1 q.2.2.1 (nI q.2.2.2.1)
    · rw [if_pos h0] at r1 rk' ⊢
      rw [if_pos h0, if_pos (Or.inl rfl)]
      exact ⟨μ', rfl, p1', c.d p1' r1 rk'⟩
    · rw [if_neg h0] at r1 rk' ⊢
      rw [if_neg h0, if_pos (Or.inr rfl)]
      exact ⟨μ', rfl, p1', c.d p1' r1 rk'⟩
  · have hp := o2 (by omega)
    rw [e] at s1 s2 s3 rk' ⊢
    rw [s1 (by decide), s2 (by decide), s3 (by decide), if_neg (show ¬ nI 7 = (0 : Int32) by decide), if_neg (show ¬ nI 7 = (1 : Int32) by decide), if_neg (show ¬ nI 7 = (2 : Int32) by decide), if_neg (show ¬ nI 7 = (3 : Int32) by decide), if_neg (show ¬ nI 7 = (4 : Int32) by decide), if_neg (show ¬ nI 7 = (5 : Int32) by decide), if_neg (show ¬ nI 7 = (6 : Int32) by decide), if_pos (show nI 7 = (7 : Int32) from rfl), if_neg (show ¬ (7 : Nat) = 0 by decide), if_neg (show ¬ (7 : Nat) = 1 by decide), if_neg (show ¬ (7 : Nat) = 2 by decide), if_neg (show ¬ (7 : Nat) = 3 by decide), if_neg (show ¬ (7 : Nat) = 4 by decide), if_neg (show ¬ (7 : Nat) = 5 by decide), if_neg (show ¬ (7 : Nat) = 6 by decide), if_pos rfl, n0p, if_pos (ix _ (by omega)), if_pos i2, cl q.2.1 (by omega), c.r _ (by omega), n8p, if_pos (ix _ (by omega)), if_pos i3, cl (8 + q.2.1) (by omega), c.r (8 + q.2.1) (by omega)]
    rw [if_neg (show ¬ (7 : Nat) = 0 by decide), if_neg (show ¬ (7 : Nat) = 1 by decide), if_neg (show ¬ (7 : Nat) = 2 by decide), if_neg (show ¬ (7 : Nat) = 3 by decide), if_neg (show ¬ (7 : Nat) = 4 by decide), if_neg (show ¬ (7 : Nat) = 5 by decide), if_neg (show ¬ (7 : Nat) = 6 by decide), if_pos rfl] at rk'
    have hne : hs ≠ h := fun z => by
      have a1 := as.2
      have a2 := c.ar.2
      rw [z] at a1
      omega
    have go : ¬ (ρ q.2.1 = nI q.2.2.1 ∧ ρ (8 + q.2.1) = nI q.2.2.2.1) → ∃ μ' : Mem, mX12_does_188 h hs (nI q.2.1) μ = some (1, μ') ∧ OF nS (dS h) μ μ' ∧ RwC μ' h t ops (sTune ρ q.2.1 (nI q.2.2.1) (nI q.2.2.2.1)) := by
      intro z
      rw [if_neg z] at rk'
      unfold mX12_does_188
      rw [if_pos i2, n0p, if_pos (ix _ (by omega)), if_pos i3, n8p, if_pos (ix _ (by omega)), c2n, c3n, gI_h hne, s2 (by decide), s3 (by decide), cl q.2.1 (by omega), cl (8 + q.2.1) (by omega)]
      have p1 : OF nS (dS h) μ (p_I (p_I μ h q.2.1 (nI q.2.2.1)) h (8 + q.2.1) (nI q.2.2.2.1)) := ((OF.rf (F := nS) (S := dS h)).pS (Or.inr (Or.inr rfl)) c.ne.1).pS (Or.inr (Or.inr rfl)) c.ne.1
      exact ⟨_, rfl, p1, c.d p1 c.r.p.p rk'⟩
    by_cases h1 : ρ q.2.1 = nI q.2.2.1
    · rw [if_pos h1]
      by_cases h2 : ρ (8 + q.2.1) = nI q.2.2.2.1
      · rw [if_pos h2, if_pos ⟨h1, h2⟩]
        exact ⟨μ, rfl, OF.rf, c⟩
      · rw [if_neg h2, if_neg (fun z => h2 z.2)]
        exact go fun z => h2 z.2
    · rw [if_neg h1, if_neg (fun z => h1 z.1)]
      exact go fun z => h1 z.1
  · rw [e] at rk' ⊢
    rw [if_neg (show ¬ nI 8 = (0 : Int32) by decide), if_neg (show ¬ nI 8 = (1 : Int32) by decide), if_neg (show ¬ nI 8 = (2 : Int32) by decide), if_neg (show ¬ nI 8 = (3 : Int32) by decide), if_neg (show ¬ nI 8 = (4 : Int32) by decide), if_neg (show ¬ nI 8 = (5 : Int32) by decide), if_neg (show ¬ nI 8 = (6 : Int32) by decide), if_neg (show ¬ nI 8 = (7 : Int32) by decide), if_neg (show ¬ (8 : Nat) = 0 by decide), if_neg (show ¬ (8 : Nat) = 1 by decide), if_neg (show ¬ (8 : Nat) = 2 by decide), if_neg (show ¬ (8 : Nat) = 3 by decide), if_neg (show ¬ (8 : Nat) = 4 by decide), if_neg (show ¬ (8 : Nat) = 5 by decide), if_neg (show ¬ (8 : Nat) = 6 by decide), if_neg (show ¬ (8 : Nat) = 7 by decide), if_pos (show inA μ h 15 (32 : Int32) = true from ix 32 (by decide)), show (32 : Int32).toNatClampNeg = 32 from rfl, c.r 32 (by decide)]
    rw [if_neg (show ¬ (8 : Nat) = 0 by decide), if_neg (show ¬ (8 : Nat) = 1 by decide), if_neg (show ¬ (8 : Nat) = 2 by decide), if_neg (show ¬ (8 : Nat) = 3 by decide), if_neg (show ¬ (8 : Nat) = 4 by decide), if_neg (show ¬ (8 : Nat) = 5 by decide), if_neg (show ¬ (8 : Nat) = 6 by decide), if_neg (show ¬ (8 : Nat) = 7 by decide)] at rk'
    by_cases h0 : (900 : Int32) ≤ ρ 32
    · rw [if_neg (Int32.not_lt.mpr h0), if_pos h0]
      exact ⟨μ, rfl, OF.rf, c⟩
    · rw [if_neg h0] at rk' ⊢
      rw [if_pos (Int32.not_le.mp h0)]
      obtain ⟨μ', e1, p1, r1⟩ := R_dayEnds c
      rw [e1, ob]
      have p1' := p1.mo (fun _ z => z) hS_d
      exact ⟨μ', rfl, p1', c.d p1' r1 rk'⟩
