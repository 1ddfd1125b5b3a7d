/-! ===== PENS of the class: what changes them ===== -/
def sTune (ρ : Nat → Int32) (p : Nat) (m d : Int32) : Nat → Int32 := ru (ru ρ p m) (8 + p) d
theorem X5_tune {μ : Mem} {h p : Nat} {k m d : Int32} {ρ : Nat → Int32} (s : PenS μ h) (r : PenR μ h k ρ p) (hp : p < 8) : ∃ μ' : Mem, LX5_tune h m d μ = some (if ρ p = m ∧ ρ (8 + p) = d then 0 else 1, μ') ∧ Out (fun a => h ≤ a ∧ a < h + 4) μ μ' ∧ PenR μ' h k (if ρ p = m ∧ ρ (8 + p) = d then ρ else sTune ρ p m d) p := by
  obtain ⟨r0, r1, r2, r3, r4, r5⟩ := id r
  unfold LX5_tune
  rw [if_pos s.1, r1, r2]
  have key : ¬ (ρ p = m ∧ ρ (8 + p) = d) → ∃ μ' : Mem, mX5_tune_18 h m d μ = some (if ρ p = m ∧ ρ (8 + p) = d then 0 else 1, μ') ∧ Out (fun a => h ≤ a ∧ a < h + 4) μ μ' ∧ PenR μ' h k (if ρ p = m ∧ ρ (8 + p) = d then ρ else sTune ρ p m d) p := by
    intro hn
    rw [if_neg hn, if_neg hn]
    refine ⟨_, rfl, (Out.rf.pI (by omega)).pI (by omega), ?_, ?_, ?_, ?_, ?_, fun i hi => ?_⟩
    · rw [gI_k (by decide), gI_k (by decide), r0]
    · rw [gI_k (by decide), gI_s, sTune, ru_o (by omega), ru_s]
    · rw [gI_s, sTune, ru_s]
    · rw [gI_k (by decide), gI_k (by decide), r3, sTune, ru_o (by omega), ru_o (by omega)]
    · rw [gI_k (by decide), gI_k (by decide), r4, sTune, ru_o (by omega), ru_o (by omega)]
    · rw [sTune, ru_o (by omega), ru_o (by omega), ru_o (by omega), ru_o (by omega), gI_h (by omega), gI_h (by omega)]
      exact r5 i hi
  by_cases h1 : ρ p = m
  · rw [if_pos h1]
    by_cases h2 : ρ (8 + p) = d
    · rw [if_pos h2, if_pos ⟨h1, h2⟩, if_pos ⟨h1, h2⟩]
      exact ⟨μ, rfl, Out.rf, r⟩
    · rw [if_neg h2]
      exact key fun z => h2 z.2
  · rw [if_neg h1]
    exact key fun z => h1 z.1
theorem X5_wipe {μ : Mem} {h p : Nat} {k : Int32} {ρ : Nat → Int32} (s : PenS μ h) (r : PenR μ h k ρ p) (hp : p < 8) : ∃ μ' : Mem, LX5_wipe h μ = some (if ρ (24 + p) = 0 then 0 else 1, μ') ∧ Out (fun a => h ≤ a ∧ a < h + 4) μ μ' ∧ PenR μ' h k (if ρ (24 + p) = 0 then ρ else sLay ρ p (ρ (16 + p))) p := by
  obtain ⟨r0, r1, r2, r3, r4, r5⟩ := id r
  unfold LX5_wipe
  rw [if_pos s.1, r4, r3]
  by_cases h1 : ρ (24 + p) = 0
  · rw [if_pos h1, if_pos h1, if_pos h1]
    exact ⟨μ, rfl, Out.rf, r⟩
  · rw [if_neg h1, if_neg h1, if_neg h1]
    obtain ⟨μ', e1, e2, e3⟩ := X5_newSheet (n := ρ (16 + p)) s hp r0 r1 r2
    rw [e1, ob]
    exact ⟨μ', rfl, e2, e3⟩
theorem X5_tear {μ : Mem} {h p : Nat} {k : Int32} {ρ : Nat → Int32} (s : PenS μ h) (r : PenR μ h k ρ p) (hp : p < 8) : ∃ μ' : Mem, LX5_tear h μ = some (if ρ (16 + p) = -1 then 0 else 1, μ') ∧ Out (fun a => h ≤ a ∧ a < h + 4) μ μ' ∧ PenR μ' h k (if ρ (16 + p) = -1 then ρ else sLay ρ p (-1)) p := by
  obtain ⟨r0, r1, r2, r3, r4, r5⟩ := id r
  unfold LX5_tear
  rw [if_pos s.1, r3]
  by_cases h1 : ρ (16 + p) = -1
  · rw [if_pos h1, if_pos h1, if_pos h1]
    exact ⟨μ, rfl, Out.rf, r⟩
  · rw [if_neg h1, if_neg h1, if_neg h1]
    obtain ⟨μ', e1, e2, e3⟩ := X5_newSheet (n := -1) s hp r0 r1 r2
    rw [e1, ob]
    exact ⟨μ', rfl, e2, e3⟩
theorem X5_lay {μ : Mem} {h p : Nat} {k n : Int32} {ρ : Nat → Int32} (s : PenS μ h) (r : PenR μ h k ρ p) (hp : p < 8) (hn : n ≤ 24) : ∃ μ' : Mem, LX5_lay h n μ = some (if n < 0 then 0 else 1, μ') ∧ Out (fun a => h ≤ a ∧ a < h + 4) μ μ' ∧ PenR μ' h k (if n < 0 then ρ else sLay ρ p n) p := by
  obtain ⟨r0, r1, r2, r3, r4, r5⟩ := id r
  unfold LX5_lay
  rw [if_pos s.1]
  by_cases h1 : n < 0
  · rw [if_pos h1, if_pos h1, if_pos h1]
    exact ⟨μ, rfl, Out.rf, r⟩
  · rw [if_neg h1, if_neg h1, if_neg h1, if_pos hn]
    obtain ⟨μ', e1, e2, e3⟩ := X5_newSheet (n := n) s hp r0 r1 r2
    rw [e1, ob]
    exact ⟨μ', rfl, e2, e3⟩
/-- the places moved up by one, the count n then -/
def sUp (ρ : Nat → Int32) (p n : Nat) : Nat → Int32 := rbl (fun a => if (35 + 24 * p ≤ a ∧ a < 35 + (24 * p + n)) ∨ (227 + 24 * p ≤ a ∧ a < 227 + (24 * p + n)) then ρ (a + 1) else if a = 24 + p then nI n else ρ a) p n
theorem inC_n {μ : Mem} {h0 h1 c sp dp n N : Nat} (k0 : isK μ h0 c = true) (k1 : isK μ h1 c = true) (n0 : g_N μ h0 = N) (n1 : g_N μ h1 = N) (hs : sp + n ≤ N) (hd : dp + n ≤ N) (hN : N < 2147483648) : inC μ h0 h1 c (nI sp) (nI dp) (nI n) = true := by
  refine inC_iff.mpr ⟨k0, k1, nI_pos (by omega), nI_pos (by omega), nI_pos (by omega), ?_, ?_⟩
  · rw [nI_clamp (by omega), nI_clamp (by omega), n0]; exact hs
  · rw [nI_clamp (by omega), nI_clamp (by omega), n1]; exact hd
theorem X5_moveUp {μ : Mem} {h p n : Nat} {k : Int32} {ρ : Nat → Int32} (s : PenS μ h) (r : PenR μ h k ρ p) (hp : p < 8) (hn : ρ (24 + p) = nI n) (hn24 : n ≤ 24) (hb : ∀ i, n ≤ i → i < 24 → ρ (227 + (24 * p + i)) = -1) : ∃ μ' : Mem, LX5_moveUp h μ = some ((), μ') ∧ Out (fun a => h ≤ a ∧ a < h + 4) μ μ' ∧ PenR μ' h k (if n = 0 then ρ else sUp ρ p (n - 1)) p := by
  have s' := s
  obtain ⟨s0, s1, s2, s3, s4, s5, s6, n1, n2, n3⟩ := s
  obtain ⟨r0, r1, r2, r3, r4, r5⟩ := id r
  unfold LX5_moveUp
  rw [if_pos s0, s1, s2, s3, r4, hn]
  by_cases h0 : n = 0
  · subst h0
    rw [if_pos (by rfl), if_pos rfl]
    exact ⟨μ, rfl, Out.rf, r⟩
  · obtain ⟨q, rfl⟩ : ∃ q, n = q + 1 := ⟨n - 1, by omega⟩
    rw [if_neg (nI_ne0 (by omega) (by omega)), if_neg h0, nI_pred]
    have g1 : g_I (p_I μ h 4 (nI q)) h 4 = nI q := gI_s
    have g3 : ∀ a b c : Nat, g_I (p_cpI (p_I μ h 4 (nI q)) (h + 3) (h + 3) a b c) h 4 = nI q := fun a b c => by
      show cp2 _ _ _ _ _ _ h 4 = _
      rw [cp2_o (by omega)]
      exact gI_s
    rw [g1, g3, show (1 : Int32) = nI 1 from rfl, show (0 : Int32) = nI 0 from rfl, nI_clamp (n := 1) (by decide), nI_clamp (n := 0) (by decide), nI_clamp (n := q) (by omega), Nat.add_sub_cancel]
    rw [if_pos (isK_p s4), if_pos (inC_n (N := 24) (μ := p_I μ h 4 (nI q)) s4 s4 n1 n1 (by omega) (by omega) (by decide)), if_pos (isK_p s5), if_pos (inC_n (N := 24) (μ := p_cpL (p_I μ h 4 (nI q)) (h + 1) (h + 1) 1 0 q) s5 s5 n2 n2 (by omega) (by omega) (by decide)), if_pos (isK_p s6), if_pos (inC_n (N := 24) (μ := p_cpD (p_cpL (p_I μ h 4 (nI q)) (h + 1) (h + 1) 1 0 q) (h + 2) (h + 2) 1 0 q) s6 s6 n3 n3 (by omega) (by omega) (by decide))]
    rw [X5_clearPlace (μ := p_cpI (p_cpD (p_cpL (p_I μ h 4 (nI q)) (h + 1) (h + 1) 1 0 q) (h + 2) (h + 2) 1 0 q) (h + 3) (h + 3) 1 0 q) (s'.sh rfl) (by omega), ob]
    have eh : ∀ b, g_I (p_I (p_D (p_L (p_cpI (p_cpD (p_cpL (p_I μ h 4 (nI q)) (h + 1) (h + 1) 1 0 q) (h + 2) (h + 2) 1 0 q) (h + 3) (h + 3) 1 0 q) (h + 1) q 0) (h + 2) q FP.dconst0) (h + 3) q 0) h b = if b = 4 then nI q else g_I μ h b := fun b => by
      rw [gI_h (by omega), gI_pD, gI_pL]
      show cp2 _ _ _ _ _ _ h b = _
      rw [cp2_o (by omega)]
      show up2 _ _ _ _ h b = _
      unfold up2
      rw [if_pos rfl]
      rfl
    refine ⟨_, rfl, ⟨rfl, fun a ha => ?_⟩, ?_, ?_, ?_, ?_, ?_, fun i hi => ?_⟩
    · refine ⟨?_, ?_, ?_⟩
      · rw [gI_rowo (by omega), gI_pD, gI_pL]
        show cp2 _ _ _ _ _ _ a = _
        rw [cp2_o (by omega)]
        exact gI_rowo (by omega)
      · show up2 _ _ _ _ a = _
        rw [up2_o (by omega)]
        show cp2 _ _ _ _ _ _ a = _
        rw [cp2_o (by omega)]
        rfl
      · show up2 _ _ _ _ a = _
        rw [up2_o (by omega)]
        show cp2 _ _ _ _ _ _ a = _
        rw [cp2_o (by omega)]
        rfl
    · rw [eh, if_neg (by decide), r0]
    · rw [eh, if_neg (by decide), r1, sUp, rbl_o (by omega), if_neg (by omega), if_neg (by omega)]
    · rw [eh, if_neg (by decide), r2, sUp, rbl_o (by omega), if_neg (by omega), if_neg (by omega)]
    · rw [eh, if_neg (by decide), r3, sUp, rbl_o (by omega), if_neg (by omega), if_neg (by omega)]
    · rw [eh, if_pos rfl, sUp, rbl_o (by omega), if_neg (by omega), if_pos rfl]
    · have cL : g_L (p_I (p_D (p_L (p_cpI (p_cpD (p_cpL (p_I μ h 4 (nI q)) (h + 1) (h + 1) 1 0 q) (h + 2) (h + 2) 1 0 q) (h + 3) (h + 3) 1 0 q) (h + 1) q 0) (h + 2) q FP.dconst0) (h + 3) q 0) (h + 1) i = if i = q then 0 else if i < q then g_L μ (h + 1) (i + 1) else g_L μ (h + 1) i := by
        show up2 _ _ _ _ (h + 1) i = _
        unfold up2
        rw [if_pos rfl]
        by_cases e : i = q
        · rw [if_pos e, if_pos e]
        · rw [if_neg e, if_neg e]
          show cp2 _ _ _ _ _ _ (h + 1) i = _
          rw [cp2_s]
          unfold va_cpy
          by_cases e2 : i < q
          · rw [if_pos (by omega), if_pos e2]
            show g_L μ (h + 1) _ = _
            congr 1
            omega
          · rw [if_neg (by omega), if_neg e2]
            rfl
      have cD : g_D (p_I (p_D (p_L (p_cpI (p_cpD (p_cpL (p_I μ h 4 (nI q)) (h + 1) (h + 1) 1 0 q) (h + 2) (h + 2) 1 0 q) (h + 3) (h + 3) 1 0 q) (h + 1) q 0) (h + 2) q FP.dconst0) (h + 3) q 0) (h + 2) i = if i = q then FP.dconst0 else if i < q then g_D μ (h + 2) (i + 1) else g_D μ (h + 2) i := by
        show up2 _ _ _ _ (h + 2) i = _
        unfold up2
        rw [if_pos rfl]
        by_cases e : i = q
        · rw [if_pos e, if_pos e]
        · rw [if_neg e, if_neg e]
          show cp2 _ _ _ _ _ _ (h + 2) i = _
          rw [cp2_s]
          unfold va_cpy
          by_cases e2 : i < q
          · rw [if_pos (by omega), if_pos e2]
            show g_D μ (h + 2) _ = _
            congr 1
            omega
          · rw [if_neg (by omega), if_neg e2]
            rfl
      have cM : g_I (p_I (p_D (p_L (p_cpI (p_cpD (p_cpL (p_I μ h 4 (nI q)) (h + 1) (h + 1) 1 0 q) (h + 2) (h + 2) 1 0 q) (h + 3) (h + 3) 1 0 q) (h + 1) q 0) (h + 2) q FP.dconst0) (h + 3) q 0) (h + 3) i = if i = q then 0 else if i < q then g_I μ (h + 3) (i + 1) else g_I μ (h + 3) i := by
        show up2 _ _ _ _ (h + 3) i = _
        unfold up2
        rw [if_pos rfl]
        by_cases e : i = q
        · rw [if_pos e, if_pos e]
        · rw [if_neg e, if_neg e]
          show cp2 _ _ _ _ _ _ (h + 3) i = _
          rw [cp2_s]
          unfold va_cpy
          by_cases e2 : i < q
          · rw [if_pos (by omega), if_pos e2]
            show g_I (p_I μ h 4 (nI q)) (h + 3) _ = _
            rw [gI_h (by omega)]
            congr 1
            omega
          · rw [if_neg (by omega), if_neg e2]
            exact gI_h (by omega)
      rw [cL, cD, cM]
      by_cases e : i < q
      · have e35 : sUp ρ p q (35 + (24 * p + i)) = ρ (35 + (24 * p + (i + 1))) := by
          rw [sUp, rbl_o (by omega), if_pos (by omega)]
          congr 1
        have e227 : sUp ρ p q (227 + (24 * p + i)) = ρ (227 + (24 * p + (i + 1))) := by
          rw [sUp]
          refine (if_neg (by omega)).trans ((if_pos (by omega)).trans ?_)
          congr 1
        have nq : ¬ i = q := by omega
        rw [e35, e227, if_neg nq, if_neg nq, if_neg nq, if_pos e, if_pos e, if_pos e]
        exact r5 (i + 1) (by omega)
      · have e227 : sUp ρ p q (227 + (24 * p + i)) = -1 := if_pos (by omega)
        rw [e227, tk_n.1, tk_n.2.1, tk_n.2.2]
        by_cases e2 : i = q
        · rw [if_pos e2, if_pos e2, if_pos e2]
          exact ⟨rfl, rfl, rfl⟩
        · rw [if_neg e2, if_neg e2, if_neg e2, if_neg e, if_neg e, if_neg e]
          obtain ⟨w1, w2, w3⟩ := r5 i hi
          rw [hb i (by omega) hi] at w1 w2 w3
          exact ⟨w1.trans tk_n.1, w2.trans tk_n.2.1, w3.trans tk_n.2.2⟩
theorem X5_copyPlaces {μ : Mem} {h g n : Nat} (s : PenS μ h) (t : PenS μ g) (hn : n ≤ 24) : LX5_copyPlaces h g (nI n) μ = some ((), p_cpI (p_cpD (p_cpL μ (g + 1) (h + 1) 0 0 n) (g + 2) (h + 2) 0 0 n) (g + 3) (h + 3) 0 0 n) := by
  obtain ⟨s0, s1, s2, s3, s4, s5, s6, n1, n2, n3⟩ := s
  obtain ⟨t0, t1, t2, t3, t4, t5, t6, m1, m2, m3⟩ := t
  unfold LX5_copyPlaces
  rw [if_pos s0, if_pos t0, s1, s2, s3, t1, t2, t3, show (0 : Int32) = nI 0 from rfl, nI_clamp (n := 0) (by decide), nI_clamp (n := n) (by omega)]
  rw [if_pos (isK_p t4), if_pos (isK_p s4), if_pos (inC_n (N := 24) t4 s4 m1 n1 (by omega) (by omega) (by decide)), if_pos (isK_p t5), if_pos (isK_p s5), if_pos (inC_n (N := 24) (μ := p_cpL μ (g + 1) (h + 1) 0 0 n) t5 s5 m2 n2 (by omega) (by omega) (by decide)), if_pos (isK_p t6), if_pos (isK_p s6), if_pos (inC_n (N := 24) (μ := p_cpD (p_cpL μ (g + 1) (h + 1) 0 0 n) (g + 2) (h + 2) 0 0 n) t6 s6 m3 n3 (by omega) (by omega) (by decide))]
/-- the first n places of another row's PEN, or of another PEN -/
theorem cpl_at {μ : Mem} {h g n : Nat} (hg : h = g ∨ h + 4 ≤ g ∨ g + 4 ≤ h) (ν : Mem) (e : ν = p_cpI (p_cpD (p_cpL μ (g + 1) (h + 1) 0 0 n) (g + 2) (h + 2) 0 0 n) (g + 3) (h + 3) 0 0 n) :
    Out (fun a => h < a ∧ a < h + 4) μ ν ∧ ∀ i, (g_L ν (h + 1) i = if i < n then g_L μ (g + 1) i else g_L μ (h + 1) i) ∧ (g_D ν (h + 2) i = if i < n then g_D μ (g + 2) i else g_D μ (h + 2) i) ∧ (g_I ν (h + 3) i = if i < n then g_I μ (g + 3) i else g_I μ (h + 3) i) := by
  subst e
  refine ⟨⟨rfl, fun a ha => ⟨?_, ?_, ?_⟩⟩, fun i => ⟨?_, ?_, ?_⟩⟩
  · show cp2 _ _ _ _ _ _ a = _
    rw [cp2_o (by omega)]
    rfl
  · show cp2 _ _ _ _ _ _ a = _
    rw [cp2_o (by omega)]
    rfl
  · show cp2 _ _ _ _ _ _ a = _
    rw [cp2_o (by omega)]
    rfl
  · show cp2 _ _ _ _ _ _ (h + 1) i = _
    rw [cp2_s]
    unfold va_cpy
    by_cases e : i < n
    · rw [if_pos (by omega), if_pos e]
      show g_L μ (g + 1) _ = _
      congr 1
      omega
    · rw [if_neg (by omega), if_neg e]
      rfl
  · show cp2 _ _ _ _ _ _ (h + 2) i = _
    rw [cp2_s]
    unfold va_cpy
    by_cases e : i < n
    · rw [if_pos (by omega), if_pos e]
      show g_D μ (g + 2) _ = _
      congr 1
      omega
    · rw [if_neg (by omega), if_neg e]
      rfl
  · show cp2 _ _ _ _ _ _ (h + 3) i = _
    rw [cp2_s]
    unfold va_cpy
    by_cases e : i < n
    · rw [if_pos (by omega), if_pos e]
      show g_I μ (g + 3) _ = _
      congr 1
      omega
    · rw [if_neg (by omega), if_neg e]
      rfl
/-- all of a PEN from another one -/
theorem X5_copyFrom {μ : Mem} {h g p : Nat} {k : Int32} {ρ : Nat → Int32} (s : PenS μ h) (t : PenS μ g) (r : PenR μ g k ρ p) (hg : h + 4 ≤ g ∨ g + 4 ≤ h) : ∃ μ' : Mem, LX5_copyFrom h g μ = some ((), μ') ∧ Out (fun a => h ≤ a ∧ a < h + 4) μ μ' ∧ PenR μ' h k ρ p := by
  obtain ⟨r0, r1, r2, r3, r4, r5⟩ := id r
  unfold LX5_copyFrom
  rw [if_pos s.1, if_pos t.1]
  have e1 : ∀ b, g_I (p_I μ h 0 (g_I μ g 0)) g b = g_I μ g b := fun b => gI_h (by omega)
  have e2 : ∀ b, g_I (p_I (p_I μ h 0 (g_I μ g 0)) h 1 (g_I μ g 1)) g b = g_I μ g b := fun b => by rw [gI_h (by omega), e1]
  have e3 : ∀ b, g_I (p_I (p_I (p_I μ h 0 (g_I μ g 0)) h 1 (g_I μ g 1)) h 2 (g_I μ g 2)) g b = g_I μ g b := fun b => by rw [gI_h (by omega), e2]
  have e4 : ∀ b, g_I (p_I (p_I (p_I (p_I μ h 0 (g_I μ g 0)) h 1 (g_I μ g 1)) h 2 (g_I μ g 2)) h 3 (g_I μ g 3)) g b = g_I μ g b := fun b => by rw [gI_h (by omega), e3]
  rw [e1, e2, e3, e4, r0, r1, r2, r3, r4]
  obtain ⟨ν, hν⟩ : ∃ ν, ν = p_I (p_I (p_I (p_I (p_I μ h 0 k) h 1 (ρ p)) h 2 (ρ (8 + p))) h 3 (ρ (16 + p))) h 4 (ρ (24 + p)) := ⟨_, rfl⟩
  rw [← hν]
  have o1 : Out (fun a => h ≤ a ∧ a < h + 4) μ ν := by
    rw [hν]
    exact ((((Out.rf.pI (by omega)).pI (by omega)).pI (by omega)).pI (by omega)).pI (by omega)
  rw [show (24 : Int32) = nI 24 from rfl, X5_copyPlaces (s.sh o1.1) (t.sh o1.1) (Nat.le_refl _), ob]
  obtain ⟨o2, q⟩ := cpl_at (μ := ν) (n := 24) (h := h) (g := g) (Or.inr hg) _ rfl
  have eh := (o2.2 h (by omega)).1
  have eg1 := (o1.2 (g + 1) (by omega)).2.1
  have eg2 := (o1.2 (g + 2) (by omega)).2.2
  have eg3 := (o1.2 (g + 3) (by omega)).1
  refine ⟨_, rfl, o1.tr (o2.mo fun a ha => by omega), ?_, ?_, ?_, ?_, ?_, fun i hi => ?_⟩
  · rw [eh, hν, gI_k (by decide), gI_k (by decide), gI_k (by decide), gI_k (by decide), gI_s]
  · rw [eh, hν, gI_k (by decide), gI_k (by decide), gI_k (by decide), gI_s]
  · rw [eh, hν, gI_k (by decide), gI_k (by decide), gI_s]
  · rw [eh, hν, gI_k (by decide), gI_s]
  · rw [eh, hν, gI_s]
  · obtain ⟨q1, q2, q3⟩ := q i
    rw [q1, q2, q3, if_pos hi, if_pos hi, if_pos hi, eg1, eg2, eg3]
    exact r5 i hi
/-- the first n places of A are B's -/
def sCp (ρ : Nat → Int32) (a b n : Nat) (v : Int32) : Nat → Int32 := fun j => if 35 + 24 * b ≤ j ∧ j < 35 + (24 * b + n) then ρ (j - 24 * b + 24 * a) else if 227 + 24 * b ≤ j ∧ j < 227 + (24 * b + n) then ρ (j - 24 * b + 24 * a) else if j = 24 + b then v else ρ j
def mxI (a b : Int32) : Int32 := if b < a then a else b
def mnI (a b : Int32) : Int32 := if a < b then a else b
abbrev cpRef (k ka : Int32) (ρ : Nat → Int32) (a b : Nat) (n : Int32) : Prop := ¬ k = ka ∨ ρ (16 + b) = -1 ∨ ρ (16 + a) = -1 ∨ ρ (16 + b) < n ∨ ¬ n ≤ ρ (16 + a)
theorem X5_takeCopy {μ : Mem} {h g a b n : Nat} {k ka : Int32} {ρ : Nat → Int32} (s : PenS μ h) (t : PenS μ g) (r : PenR μ h k ρ b) (rg : PenR μ g ka ρ a) (ha : a < 8) (hb : b < 8) (hn : n ≤ 24) (hg : (h = g ∧ a = b) ∨ h + 4 ≤ g ∨ g + 4 ≤ h) [Decidable (cpRef k ka ρ a b (nI n))] :
    ∃ μ' : Mem, LX5_takeCopy h g (nI n) μ = some (if cpRef k ka ρ a b (nI n) then 0 else 1, μ') ∧ Out (fun x => h ≤ x ∧ x < h + 4) μ μ' ∧ PenR μ' h k (if cpRef k ka ρ a b (nI n) then ρ else sCp ρ a b n (mxI (mnI (nI n) (ρ (24 + a))) (ρ (24 + b)))) b := by
  obtain ⟨r0, r1, r2, r3, r4, r5⟩ := id r
  obtain ⟨z0, z1, z2, z3, z4, z5⟩ := id rg
  unfold LX5_takeCopy
  rw [if_pos s.1, if_pos t.1, r0, z0, r3, z3]
  by_cases hc : cpRef k ka ρ a b (nI n)
  · rw [if_pos hc, if_pos hc]
    have key : ∀ {o : Option (Int32 × Mem)}, o = some (0, μ) → ∃ μ' : Mem, o = some (0, μ') ∧ Out (fun x => h ≤ x ∧ x < h + 4) μ μ' ∧ PenR μ' h k ρ b := fun e => ⟨μ, e, Out.rf, r⟩
    apply key
    unfold cpRef at hc
    by_cases c1 : k = ka
    · rw [if_pos c1]
      by_cases c2 : ρ (16 + b) = -1
      · rw [if_pos c2]
      · rw [if_neg c2]
        by_cases c3 : ρ (16 + a) = -1
        · rw [if_pos c3]
        · rw [if_neg c3]
          by_cases c4 : ρ (16 + b) < nI n
          · rw [if_pos c4]
          · rw [if_neg c4]
            by_cases c5 : nI n ≤ ρ (16 + a)
            · rcases hc with hc | hc | hc | hc | hc
              · exact absurd c1 hc
              · exact absurd hc c2
              · exact absurd hc c3
              · exact absurd hc c4
              · exact absurd c5 hc
            · rw [if_neg c5]
    · rw [if_neg c1]
  · rw [if_neg hc, if_neg hc]
    unfold cpRef at hc
    have c1 : k = ka := Classical.byContradiction fun z => hc (Or.inl z)
    have c2 : ¬ ρ (16 + b) = -1 := fun z => hc (Or.inr (Or.inl z))
    have c3 : ¬ ρ (16 + a) = -1 := fun z => hc (Or.inr (Or.inr (Or.inl z)))
    have c4 : ¬ ρ (16 + b) < nI n := fun z => hc (Or.inr (Or.inr (Or.inr (Or.inl z))))
    have c5 : nI n ≤ ρ (16 + a) := Classical.byContradiction fun z => hc (Or.inr (Or.inr (Or.inr (Or.inr z))))
    rw [if_pos c1, if_neg c2, if_neg c3, if_neg c4, if_pos c5, X5_copyPlaces s t hn, ob]
    obtain ⟨ν, hν⟩ : ∃ ν, ν = p_cpI (p_cpD (p_cpL μ (g + 1) (h + 1) 0 0 n) (g + 2) (h + 2) 0 0 n) (g + 3) (h + 3) 0 0 n := ⟨_, rfl⟩
    obtain ⟨o2, q⟩ := cpl_at (μ := μ) (n := n) (h := h) (g := g) (by omega) ν hν
    rw [← hν]
    have eh := (o2.2 h (by omega)).1
    have eg := (o2.2 g (by omega)).1
    rw [eh, eg, r4, z4]
    refine ⟨_, rfl, (o2.mo fun x hx => by omega).pI (by omega), ?_, ?_, ?_, ?_, ?_, fun i hi => ?_⟩
    · rw [gI_k (by decide), eh, r0]
    · rw [gI_k (by decide), eh, r1, sCp, if_neg (by omega), if_neg (by omega), if_neg (by omega)]
    · rw [gI_k (by decide), eh, r2, sCp, if_neg (by omega), if_neg (by omega), if_neg (by omega)]
    · rw [gI_k (by decide), eh, r3, sCp, if_neg (by omega), if_neg (by omega), if_neg (by omega)]
    · have e9 : ∀ V : Int32, sCp ρ a b n V (24 + b) = V := fun V => (if_neg (show ¬ (35 + 24 * b ≤ 24 + b ∧ 24 + b < 35 + (24 * b + n)) by omega)).trans ((if_neg (show ¬ (227 + 24 * b ≤ 24 + b ∧ 24 + b < 227 + (24 * b + n)) by omega)).trans (if_pos rfl))
      rw [gI_s, e9]
      rfl
    · obtain ⟨q1, q2, q3⟩ := q i
      rw [gL_pI, gD_pI, gI_h (by omega), q1, q2, q3]
      by_cases e : i < n
      · have e1 : sCp ρ a b n (mxI (mnI (nI n) (ρ (24 + a))) (ρ (24 + b))) (35 + (24 * b + i)) = ρ (35 + (24 * a + i)) := by
          rw [sCp, if_pos (by omega)]
          congr 1
          omega
        have e2 : sCp ρ a b n (mxI (mnI (nI n) (ρ (24 + a))) (ρ (24 + b))) (227 + (24 * b + i)) = ρ (227 + (24 * a + i)) := by
          rw [sCp, if_neg (by omega), if_pos (by omega)]
          congr 1
          omega
        rw [if_pos e, if_pos e, if_pos e, e1, e2, c1]
        exact z5 i hi
      · have e1 : sCp ρ a b n (mxI (mnI (nI n) (ρ (24 + a))) (ρ (24 + b))) (35 + (24 * b + i)) = ρ (35 + (24 * b + i)) := by
          rw [sCp, if_neg (by omega), if_neg (by omega), if_neg (by omega)]
        have e2 : sCp ρ a b n (mxI (mnI (nI n) (ρ (24 + a))) (ρ (24 + b))) (227 + (24 * b + i)) = ρ (227 + (24 * b + i)) := by
          rw [sCp, if_neg (by omega), if_neg (by omega), if_neg (by omega)]
        rw [if_neg e, if_neg e, if_neg e, e1, e2]
        exact r5 i hi
