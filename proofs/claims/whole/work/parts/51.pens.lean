/-! ===== PENS of the class ===== -/
def realB (k : Int32) : Int32 := if k = 5 then 1 else if k = 6 then 1 else 0
def jamI (k d : Int32) : Int32 := if d = 0 then (if 4 < k then 0 else 1) else 0
def markF (v m d : Int32) : Int32 := if d = 0 then (if v = 0 then 2 else if m = 0 then 2 else if v ≤ 0 then -1 else 1) else 0
def readF (k : Int32) (r : UInt64) : Int32 := if k = -1 then -2147483648 else if k = 0 then FP.d2i r else if k = 1 then 2147483647 else 0
def realF (k v m d : Int32) : UInt64 := if d = 0 then FP.dconst0 else if k = 5 then FP.f2d (FP.fdiv (FP.fmul (FP.i2f v) (FP.i2f m)) (FP.i2f d)) else FP.ddiv (FP.dmul (FP.i2d v) (FP.i2d m)) (FP.i2d d)
def wholeF (k v m d : Int32) : Int64 := if k = 7 then (((v * m) + d) &&& 1).toInt64 else if d = 0 then 0 else if k = 0 then (((v * m) / d).toInt8.toInt32).toInt64 else if k = 1 then (((v * m) / d).toInt16.toInt32).toInt64 else if k = 2 then ((((v * m) / d).toUInt32 % 65536).toInt32).toInt64 else if k = 3 then ((v * m) / d).toInt64 else (v.toInt64 * m.toInt64) / d.toInt64
def outF (k v m d : Int32) : Int32 := if realB k = 0 then (wholeF k v m d).toInt32 else readF (markF v m d) (realF k v m d)
/-- no NaN on the way, of a PEN that has a D -/
def NnOk (k v m d : Int32) : Prop := d = 0 ∨ if k = 5 then (nn32 (FP.fmul (FP.i2f v) (FP.i2f m)) = true ∧ nn32 (FP.fdiv (FP.fmul (FP.i2f v) (FP.i2f m)) (FP.i2f d)) = true ∧ nn64 (FP.f2d (FP.fdiv (FP.fmul (FP.i2f v) (FP.i2f m)) (FP.i2f d))) = true) else (nn64 (FP.dmul (FP.i2d v) (FP.i2d m)) = true ∧ nn64 (FP.ddiv (FP.dmul (FP.i2d v) (FP.i2d m)) (FP.i2d d)) = true)
theorem nn0 : nn64 FP.dconst0 = true := by decide +kernel
theorem realF_nn {k v m d : Int32} (h : NnOk k v m d) : nn64 (realF k v m d) = true := by
  unfold realF
  unfold NnOk at h
  by_cases hd : d = 0
  · rw [if_pos hd]; exact nn0
  · rw [if_neg hd]
    have h := h.resolve_left hd
    by_cases hk : k = 5
    · rw [if_pos hk] at h ⊢; exact h.2.2
    · rw [if_neg hk] at h ⊢; exact h.2
theorem X5_jams {μ : Mem} {h : Nat} (s : isK μ h 5 = true) : LX5_jams h μ = some (jamI (g_I μ h 0) (g_I μ h 2), μ) := by
  unfold LX5_jams jamI
  rw [if_pos s]
  repeat' split
  all_goals rfl
theorem X5_isReal {μ : Mem} {h : Nat} (s : isK μ h 5 = true) : LX5_isReal h μ = some (realB (g_I μ h 0), μ) := by
  unfold LX5_isReal realB
  rw [if_pos s]
  repeat' split
  all_goals rfl
theorem X5_markTaken {μ : Mem} {h : Nat} {v : Int32} (s : isK μ h 5 = true) : LX5_markTaken h v μ = some (markF v (g_I μ h 1) (g_I μ h 2), μ) := by
  unfold LX5_markTaken markF
  rw [if_pos s]
  repeat' split
  all_goals rfl
theorem X5_readOf {μ : Mem} {k : Int32} {r : UInt64} : LX5_readOf k r μ = some (readF k r, μ) := by
  unfold LX5_readOf readF
  repeat' split
  all_goals rfl
theorem X5_realTaken {μ : Mem} {h : Nat} {v : Int32} (s : isK μ h 5 = true) (hn : NnOk (g_I μ h 0) v (g_I μ h 1) (g_I μ h 2)) : LX5_realTaken h v μ = some (realF (g_I μ h 0) v (g_I μ h 1) (g_I μ h 2), μ) := by
  unfold LX5_realTaken realF
  rw [if_pos s]
  unfold NnOk at hn
  by_cases hd : g_I μ h 2 = 0
  · rw [if_pos hd, if_pos hd]
  · rw [if_neg hd, if_neg hd]
    have hn := hn.resolve_left hd
    by_cases hk : g_I μ h 0 = 5
    · rw [if_pos hk] at hn
      rw [if_pos hk, if_pos hk, if_pos hn.1, if_pos hn.2.1, if_pos hn.2.2]
    · rw [if_neg hk] at hn
      rw [if_neg hk, if_neg hk, if_pos hn.1, if_pos hn.2]
theorem i64_ne0 {d : Int32} (h : ¬ d = 0) : ¬ d.toInt64 = 0 := by
  intro e
  apply h
  have := congrArg Int64.toInt e
  rw [Int32.toInt_toInt64] at this
  exact Int32.toInt_inj.mp this
theorem X5_wholeTaken {μ : Mem} {h : Nat} {v : Int32} (s : isK μ h 5 = true) : LX5_wholeTaken h v μ = some (wholeF (g_I μ h 0) v (g_I μ h 1) (g_I μ h 2), μ) := by
  unfold LX5_wholeTaken wholeF
  rw [if_pos s]
  by_cases h7 : g_I μ h 0 = 7
  · rw [if_pos h7, if_pos h7]
  rw [if_neg h7, if_neg h7]
  by_cases hd : g_I μ h 2 = 0
  · rw [if_pos hd, if_pos hd]
  rw [if_neg hd, if_neg hd]
  simp only [if_pos (show ¬ g_I μ h 2 = 0 from hd), if_pos (i64_ne0 hd)]
  repeat' split
  all_goals rfl
theorem X5_outOf {μ : Mem} {h : Nat} {v : Int32} (s : isK μ h 5 = true) (hn : NnOk (g_I μ h 0) v (g_I μ h 1) (g_I μ h 2)) : LX5_outOf h v μ = some (outF (g_I μ h 0) v (g_I μ h 1) (g_I μ h 2), μ) := by
  unfold LX5_outOf outF
  rw [if_pos s, X5_isReal s, ob]
  by_cases hr : realB (g_I μ h 0) = 0
  · rw [if_pos hr, if_pos hr, X5_wholeTaken s, ob]
  · rw [if_neg hr, if_neg hr, X5_markTaken s, ob, X5_realTaken s hn, ob, if_pos (realF_nn hn), X5_readOf, ob]
/-- the things of a PEN lie behind it -/
def PenS (μ : Mem) (h : Nat) : Prop := isK μ h 5 = true ∧ g_R μ h 5 = h + 1 ∧ g_R μ h 6 = h + 2 ∧ g_R μ h 7 = h + 3 ∧ isK μ (h + 1) 16 = true ∧ isK μ (h + 2) 14 = true ∧ isK μ (h + 3) 13 = true ∧ g_N μ (h + 1) = 24 ∧ g_N μ (h + 2) = 24 ∧ g_N μ (h + 3) = 24
theorem PenS.sh {μ μ' : Mem} {h : Nat} (s : PenS μ h) (e : Sh μ μ') : PenS μ' h := by
  unfold PenS
  rw [sh_isK e, sh_gR e, sh_gN e]
  exact s
/-- what is kept of a record: as a whole number, as a real one, its mark -/
def tkL (k v t : Int32) : Int64 := if t = -1 then 0 else if realB k = 0 then wholeF k v (t / 100) (t - t / 100 * 100) else 0
def tkD (k v t : Int32) : UInt64 := if t = -1 then FP.dconst0 else if realB k = 0 then FP.dconst0 else realF k v (t / 100) (t - t / 100 * 100)
def tkM (k v t : Int32) : Int32 := if t = -1 then 0 else if realB k = 0 then 0 else markF v (t / 100) (t - t / 100 * 100)
/-- what is read of a place -/
def rdF (k v t : Int32) : Int32 := if t = -1 then 0 else outF k v (t / 100) (t - t / 100 * 100)
theorem rdF_eq {k v t : Int32} : rdF k v t = if realB k = 0 then (tkL k v t).toInt32 else readF (tkM k v t) (tkD k v t) := by
  unfold rdF tkL tkD tkM outF
  by_cases ht : t = -1
  · rw [if_pos ht, if_pos ht, if_pos ht, if_pos ht]
    split
    · rfl
    · decide +kernel
  · rw [if_neg ht, if_neg ht, if_neg ht, if_neg ht]
    by_cases hr : realB k = 0
    · rw [if_pos hr, if_pos hr, if_pos hr]
    · rw [if_neg hr, if_neg hr, if_neg hr, if_neg hr]
/-- a PEN of the class is what a row of the reference says of the PEN p -/
def PenR (μ : Mem) (h : Nat) (k : Int32) (ρ : Nat → Int32) (p : Nat) : Prop :=
  g_I μ h 0 = k ∧ g_I μ h 1 = ρ p ∧ g_I μ h 2 = ρ (8 + p) ∧ g_I μ h 3 = ρ (16 + p) ∧ g_I μ h 4 = ρ (24 + p) ∧ ∀ i, i < 24 → g_L μ (h + 1) i = tkL k (ρ (35 + (24 * p + i))) (ρ (227 + (24 * p + i))) ∧ g_D μ (h + 2) i = tkD k (ρ (35 + (24 * p + i))) (ρ (227 + (24 * p + i))) ∧ g_I μ (h + 3) i = tkM k (ρ (35 + (24 * p + i))) (ρ (227 + (24 * p + i)))
theorem PenR.fr {μ μ' : Mem} {h : Nat} {k : Int32} {ρ ρ' : Nat → Int32} {p : Nat} (r : PenR μ h k ρ p) (e : ∀ a, h ≤ a → a < h + 4 → g_I μ' a = g_I μ a ∧ g_L μ' a = g_L μ a ∧ g_D μ' a = g_D μ a) (hρ : ρ' p = ρ p ∧ ρ' (8 + p) = ρ (8 + p) ∧ ρ' (16 + p) = ρ (16 + p) ∧ ρ' (24 + p) = ρ (24 + p) ∧ ∀ i, i < 24 → ρ' (35 + (24 * p + i)) = ρ (35 + (24 * p + i)) ∧ ρ' (227 + (24 * p + i)) = ρ (227 + (24 * p + i))) : PenR μ' h k ρ' p := by
  obtain ⟨r0, r1, r2, r3, r4, r5⟩ := r
  obtain ⟨q1, q2, q3, q4, q5⟩ := hρ
  have e0 := (e h (Nat.le_refl _) (by omega)).1
  have e1 := (e (h + 1) (by omega) (by omega)).2.1
  have e2 := (e (h + 2) (by omega) (by omega)).2.2
  have e3 := (e (h + 3) (by omega) (by omega)).1
  refine ⟨by rw [e0, r0], by rw [e0, r1, q1], by rw [e0, r2, q2], by rw [e0, r3, q3], by rw [e0, r4, q4], fun i hi => ?_⟩
  obtain ⟨w1, w2, w3⟩ := r5 i hi
  rw [e1, e2, e3, (q5 i hi).1, (q5 i hi).2]
  exact ⟨w1, w2, w3⟩
theorem realB_r {k : Int32} : ¬ realB k = 0 ↔ k = 5 ∨ k = 6 := by
  unfold realB
  split
  · simp [*]
  · split <;> simp [*]
theorem X5_readAt {μ : Mem} {h i p : Nat} {k : Int32} {ρ : Nat → Int32} (s : PenS μ h) (r : PenR μ h k ρ p) (hi : i < 24) : LX5_readAt h (nI i) μ = some (rdF k (ρ (35 + (24 * p + i))) (ρ (227 + (24 * p + i))), μ) := by
  obtain ⟨s0, s1, s2, s3, s4, s5, s6, n1, n2, n3⟩ := s
  obtain ⟨r0, r1, r2, r3, r4, r5⟩ := r
  obtain ⟨w1, w2, w3⟩ := r5 i hi
  unfold LX5_readAt
  rw [if_pos s0, X5_isReal s0, ob, r0, rdF_eq, s1, s2, s3]
  have c1 : (nI i).toNatClampNeg = i := nI_clamp (by omega)
  by_cases hr : realB k = 0
  · rw [if_pos hr, if_pos hr, if_pos (isK_p s4), if_pos (inA_n s4 n1 hi (by decide)), c1, w1]
  · rw [if_neg hr, if_neg hr, if_pos (isK_p s6), if_pos (inA_n s6 n3 hi (by decide)), if_pos (isK_p s5), if_pos (inA_n s5 n2 hi (by decide)), X5_readOf, ob, c1, w2, w3]
theorem nar0 : vp_nar .byte (0 : Int32) = 0 := by decide +kernel
theorem X5_clearPlace {μ : Mem} {h i : Nat} (s : PenS μ h) (hi : i < 24) : LX5_clearPlace h (nI i) μ = some ((), p_I (p_D (p_L μ (h + 1) i 0) (h + 2) i FP.dconst0) (h + 3) i 0) := by
  obtain ⟨s0, s1, s2, s3, s4, s5, s6, n1, n2, n3⟩ := s
  unfold LX5_clearPlace
  rw [s1, s2, s3, if_pos s0, if_pos (isK_p s4), if_pos (inA_n s4 n1 hi (by decide)), if_pos (isK_p s5), if_pos (inA_n s5 n2 hi (by decide)), if_pos (isK_p s6), if_pos (inA_n s6 n3 hi (by decide)), nI_clamp (by omega), nar0]
theorem X5_newSheetL {h : Nat} : ∀ (n fu j : Nat) (μ : Mem), PenS μ h → n + j = 24 → n < fu → ∃ μ' : Mem, mX5_newSheet_12 fu h (nI j) μ = some ((), μ') ∧ Out (fun a => h < a ∧ a < h + 4) μ μ' ∧
    ∀ i, g_L μ' (h + 1) i = (if j ≤ i ∧ i < 24 then 0 else g_L μ (h + 1) i) ∧ g_D μ' (h + 2) i = (if j ≤ i ∧ i < 24 then FP.dconst0 else g_D μ (h + 2) i) ∧ g_I μ' (h + 3) i = (if j ≤ i ∧ i < 24 then 0 else g_I μ (h + 3) i) := by
  intro n
  induction n with
  | zero =>
    intro fu j μ s hj hf
    obtain ⟨fu, rfl⟩ : ∃ q, fu = q + 1 := ⟨fu - 1, by omega⟩
    rw [mX5_newSheet_12, if_pos (show (24 : Int32) ≤ nI j from nI_le (a := 24) (b := j) (by omega) (by omega))]
    refine ⟨μ, rfl, Out.rf, fun i => ?_⟩
    have : ¬ (j ≤ i ∧ i < 24) := by omega
    rw [if_neg this, if_neg this, if_neg this]
    exact ⟨rfl, rfl, rfl⟩
  | succ n ih =>
    intro fu j μ s hj hf
    obtain ⟨fu, rfl⟩ : ∃ q, fu = q + 1 := ⟨fu - 1, by omega⟩
    rw [mX5_newSheet_12, if_neg (show ¬ (24 : Int32) ≤ nI j from nI_ge (a := j) (b := 24) (by omega) (by omega)), X5_clearPlace s (by omega), ob, ← nI_succ]
    obtain ⟨μ', e1, e2, e3⟩ := ih fu (j + 1) (p_I (p_D (p_L μ (h + 1) j 0) (h + 2) j FP.dconst0) (h + 3) j 0) (s.sh rfl) (by omega) (by omega)
    refine ⟨μ', e1, ((Out.rf.pL (by omega)).pD (by omega)).pI (by omega) |>.tr e2, fun i => ?_⟩
    obtain ⟨a1, a2, a3⟩ := e3 i
    rw [a1, a2, a3]
    simp only [gL_pI, gL_pD, gL_pL, gD_pI, gD_pD, gI_pI, gI_pD, gI_pL, gD_pL, if_pos]
    have q : (j ≤ i ∧ i < 24) ↔ (j + 1 ≤ i ∧ i < 24) ∨ i = j := by omega
    by_cases h1 : j + 1 ≤ i ∧ i < 24
    · rw [if_pos h1, if_pos h1, if_pos h1, if_pos (q.mpr (Or.inl h1)), if_pos (q.mpr (Or.inl h1)), if_pos (q.mpr (Or.inl h1))]
      exact ⟨rfl, rfl, rfl⟩
    · rw [if_neg h1, if_neg h1, if_neg h1]
      by_cases h2 : i = j
      · subst h2
        simp [show i < 24 by omega]
      · have h3 : ¬ (j ≤ i ∧ i < 24) := fun z => (q.mp z).elim h1 h2
        rw [if_neg h3, if_neg h3, if_neg h3, if_neg h2, if_neg h2, if_neg h2]
        exact ⟨rfl, rfl, rfl⟩
/-- places from i on are blank -/
def rbl (ρ : Nat → Int32) (p i : Nat) : Nat → Int32 := fun a => if (35 + (24 * p + i) ≤ a ∧ a < 35 + (24 * p + 24)) ∨ (227 + (24 * p + i) ≤ a ∧ a < 227 + (24 * p + 24)) then -1 else ρ a
def sLay (ρ : Nat → Int32) (p : Nat) (n : Int32) : Nat → Int32 := rbl (ru (ru ρ (16 + p) n) (24 + p) 0) p 0
theorem tk_n {k v : Int32} : tkL k v (-1) = 0 ∧ tkD k v (-1) = FP.dconst0 ∧ tkM k v (-1) = 0 := ⟨if_pos rfl, if_pos rfl, if_pos rfl⟩
theorem rbl_o {ρ : Nat → Int32} {p i a : Nat} (h : a < 35 + (24 * p + i)) : rbl ρ p i a = ρ a := if_neg (by omega)
theorem X5_newSheet {μ : Mem} {h p : Nat} {k n : Int32} {ρ : Nat → Int32} (s : PenS μ h) (hp : p < 8) (r0 : g_I μ h 0 = k) (r1 : g_I μ h 1 = ρ p) (r2 : g_I μ h 2 = ρ (8 + p)) : ∃ μ' : Mem, LX5_newSheet h n μ = some ((), μ') ∧ Out (fun a => h ≤ a ∧ a < h + 4) μ μ' ∧ PenR μ' h k (sLay ρ p n) p := by
  unfold LX5_newSheet
  rw [if_pos s.1]
  obtain ⟨μ', e1, e2, e3⟩ := X5_newSheetL (h := h) 24 100000 0 (p_I (p_I μ h 3 n) h 4 0) (s.sh rfl) rfl (by decide)
  refine ⟨μ', e1, ((Out.rf.pI (by omega)).pI (by omega)).tr (e2.mo fun a ha => by omega), ?_⟩
  have q := (e2.2 h (by omega)).1
  refine ⟨?_, ?_, ?_, ?_, ?_, fun i hi => ?_⟩
  · rw [q, gI_k (by decide), gI_k (by decide), r0]
  · rw [q, gI_k (by decide), gI_k (by decide), r1, sLay, rbl_o (by omega), ru_o (by omega), ru_o (by omega)]
  · rw [q, gI_k (by decide), gI_k (by decide), r2, sLay, rbl_o (by omega), ru_o (by omega), ru_o (by omega)]
  · rw [q, gI_k (by decide), gI_s, sLay, rbl_o (by omega), ru_o (by omega), ru_s]
  · rw [q, gI_s, sLay, rbl_o (by omega), ru_s]
  · obtain ⟨a1, a2, a3⟩ := e3 i
    rw [a1, a2, a3, if_pos ⟨Nat.zero_le _, hi⟩, if_pos ⟨Nat.zero_le _, hi⟩, if_pos ⟨Nat.zero_le _, hi⟩]
    have e9 : sLay ρ p n (227 + (24 * p + i)) = -1 := if_pos (by omega)
    rw [e9]
    exact ⟨tk_n.1.symm, tk_n.2.1.symm, tk_n.2.2.symm⟩
theorem X5_begin {μ : Mem} {h p : Nat} {k m d n : Int32} {ρ : Nat → Int32} (s : PenS μ h) (hp : p < 8) (r1 : ρ p = m) (r2 : ρ (8 + p) = d) : ∃ μ' : Mem, LX5_begin h k m d n μ = some ((), μ') ∧ Out (fun a => h ≤ a ∧ a < h + 4) μ μ' ∧ PenR μ' h k (sLay ρ p n) p := by
  unfold LX5_begin
  rw [if_pos s.1]
  obtain ⟨μ', e1, e2, e3⟩ := X5_newSheet (n := n) (ρ := ρ) (k := k) (μ := p_I (p_I (p_I μ h 0 k) h 1 m) h 2 d) (s.sh rfl) hp (by rw [gI_k (by decide), gI_k (by decide), gI_s]) (by rw [gI_k (by decide), gI_s, r1]) (by rw [gI_s, r2])
  rw [e1, ob]
  exact ⟨μ', rfl, (((Out.rf.pI (by omega)).pI (by omega)).pI (by omega)).tr e2, e3⟩
def freeF (places many : Int32) : Int32 := if places = -1 then 0 else places - many
theorem X5_freePlaces {μ : Mem} {h : Nat} (s : isK μ h 5 = true) : LX5_freePlaces h μ = some (freeF (g_I μ h 3) (g_I μ h 4), μ) := by
  unfold LX5_freePlaces freeF
  rw [if_pos s]
  repeat' split
  all_goals rfl
def canF (k d places many : Int32) : Int32 := if jamI k d = 0 then (if freeF places many ≤ 0 then 0 else 1) else 0
theorem X5_canWrite {μ : Mem} {h : Nat} (s : isK μ h 5 = true) : LX5_canWrite h μ = some (canF (g_I μ h 0) (g_I μ h 2) (g_I μ h 3) (g_I μ h 4), μ) := by
  unfold LX5_canWrite canF
  rw [if_pos s, X5_jams s, ob]
  by_cases hj : jamI (g_I μ h 0) (g_I μ h 2) = 0
  · rw [if_pos hj, if_pos hj, X5_freePlaces s, ob]
    split <;> rfl
  · rw [if_neg hj, if_neg hj]
theorem nI_mul (a b : Nat) : nI a * nI b = nI (a * b) := (Int32.ofNat_mul a b).symm
theorem nI_div {a b : Nat} (ha : a < 2147483648) (hb : b < 2147483648) : nI a / nI b = nI (a / b) := by
  apply Int32.toInt_inj.mp
  have h1 : a / b < 2147483648 := Nat.lt_of_le_of_lt (Nat.div_le_self a b) ha
  rw [Int32.toInt_div, nI_toInt ha, nI_toInt hb, nI_toInt h1, Int.tdiv_eq_ediv_of_nonneg (Int.natCast_nonneg a)]
  have h2 : ((a : Int) / (b : Int)) = ((a / b : Nat) : Int) := (Int.natCast_ediv a b).symm
  rw [h2]
  generalize a / b = q at h1 ⊢
  rw [Int.bmod_eq_of_le] <;> omega
theorem nI_sub {a b : Nat} (h : b ≤ a) : nI a - nI b = nI (a - b) := by
  have e : nI a = nI (a - b) + nI b := by rw [nI_add]; congr 1; omega
  rw [e]
  exact Int32.add_sub_cancel _ _
/-- how a record was tuned -/
theorem tun_m {m d : Nat} (hm : m ≤ 99) (hd : d ≤ 99) : nI (100 * m + d) / 100 = nI m := by
  rw [show (100 : Int32) = nI 100 from rfl, nI_div (by omega) (by decide)]
  congr 1
  omega
theorem tun_d {m d : Nat} (hm : m ≤ 99) (hd : d ≤ 99) : nI (100 * m + d) - nI (100 * m + d) / 100 * 100 = nI d := by
  rw [tun_m hm hd, show (100 : Int32) = nI 100 from rfl, nI_mul, nI_sub (by omega)]
  congr 1
  omega
theorem nI_nm1 {n : Nat} (h : n < 2147483648) : ¬ nI n = -1 := by
  intro e
  have := congrArg Int32.toInt e
  rw [nI_toInt h] at this
  have e2 : (-1 : Int32).toInt = -1 := by decide
  omega
theorem mkb {v m d : Int32} : vp_nar .byte (markF v m d).toInt8.toInt32 = markF v m d := by
  unfold markF
  repeat' split
  all_goals decide +kernel
/-- what a row says of a PEN keeps the document's bounds -/
def PenOk (k : Int32) (ρ : Nat → Int32) (p : Nat) : Prop := ∃ kk m d n : Nat, k = nI kk ∧ kk < 8 ∧ ρ p = nI m ∧ m ≤ 99 ∧ ρ (8 + p) = nI d ∧ d ≤ 99 ∧ ρ (24 + p) = nI n ∧ ((ρ (16 + p) = -1 ∧ n = 0) ∨ ∃ c : Nat, ρ (16 + p) = nI c ∧ c ≤ 24 ∧ n ≤ c) ∧
  ∀ i, i < 24 → ρ (227 + (24 * p + i)) = -1 ∨ ∃ m' d' : Nat, ρ (227 + (24 * p + i)) = nI (100 * m' + d') ∧ m' ≤ 99 ∧ d' ≤ 99 ∧ (kk ≤ 4 → d' ≠ 0)
/-- a reading written into a row, at the place n -/
def sWr (ρ : Nat → Int32) (p n : Nat) (v : Int32) : Nat → Int32 := ru (ru (ru ρ (35 + (24 * p + n)) v) (227 + (24 * p + n)) (100 * ρ p + ρ (8 + p))) (24 + p) (ρ (24 + p) + 1)
theorem X5_write {μ : Mem} {h p n : Nat} {k v : Int32} {ρ : Nat → Int32} (s : PenS μ h) (r : PenR μ h k ρ p) (hp : p < 8) (hn : ρ (24 + p) = nI n) (hn24 : n < 24) {m d : Nat} (hm : ρ p = nI m) (hm9 : m ≤ 99) (hd : ρ (8 + p) = nI d) (hd9 : d ≤ 99) (hnn : NnOk k v (nI m) (nI d)) :
    ∃ μ' : Mem, LX5_write h v μ = some ((), μ') ∧ Out (fun a => h ≤ a ∧ a < h + 4) μ μ' ∧ PenR μ' h k (sWr ρ p n v) p := by
  have s' := s
  obtain ⟨s0, s1, s2, s3, s4, s5, s6, n1, n2, n3⟩ := s
  obtain ⟨r0, r1, r2, r3, r4, r5⟩ := id r
  have c1 : (nI n).toNatClampNeg = n := nI_clamp (by omega)
  have et : (100 : Int32) * ρ p + ρ (8 + p) = nI (100 * m + d) := by rw [hm, hd, show (100 : Int32) = nI 100 from rfl, nI_mul, nI_add]
  have q0 : sWr ρ p n v p = ρ p := by unfold sWr; rw [ru_o (by omega), ru_o (by omega), ru_o (by omega)]
  have q1 : sWr ρ p n v (8 + p) = ρ (8 + p) := by unfold sWr; rw [ru_o (by omega), ru_o (by omega), ru_o (by omega)]
  have q2 : sWr ρ p n v (16 + p) = ρ (16 + p) := by unfold sWr; rw [ru_o (by omega), ru_o (by omega), ru_o (by omega)]
  have q3 : sWr ρ p n v (24 + p) = ρ (24 + p) + 1 := ru_s
  have q4 : ∀ i, i < 24 → sWr ρ p n v (35 + (24 * p + i)) = if i = n then v else ρ (35 + (24 * p + i)) := fun i hi => by
    unfold sWr
    rw [ru_o (by omega), ru_o (by omega)]
    by_cases e : i = n
    · subst e; rw [ru_s, if_pos rfl]
    · rw [ru_o (by omega), if_neg e]
  have q5 : ∀ i, i < 24 → sWr ρ p n v (227 + (24 * p + i)) = if i = n then nI (100 * m + d) else ρ (227 + (24 * p + i)) := fun i hi => by
    unfold sWr
    rw [ru_o (by omega), et]
    by_cases e : i = n
    · subst e; rw [ru_s, if_pos rfl]
    · rw [ru_o (by omega), ru_o (by omega), if_neg e]
  have tn : ¬ nI (100 * m + d) = -1 := nI_nm1 (by omega)
  have kL : tkL k v (nI (100 * m + d)) = if realB k = 0 then wholeF k v (nI m) (nI d) else 0 := by unfold tkL; rw [if_neg tn, tun_m hm9 hd9, show nI (100 * m + d) - nI m * 100 = nI d by rw [← tun_m hm9 hd9]; exact tun_d hm9 hd9]
  have kD : tkD k v (nI (100 * m + d)) = if realB k = 0 then FP.dconst0 else realF k v (nI m) (nI d) := by unfold tkD; rw [if_neg tn, tun_m hm9 hd9, show nI (100 * m + d) - nI m * 100 = nI d by rw [← tun_m hm9 hd9]; exact tun_d hm9 hd9]
  have kM : tkM k v (nI (100 * m + d)) = if realB k = 0 then 0 else markF v (nI m) (nI d) := by unfold tkM; rw [if_neg tn, tun_m hm9 hd9, show nI (100 * m + d) - nI m * 100 = nI d by rw [← tun_m hm9 hd9]; exact tun_d hm9 hd9]
  unfold LX5_write
  rw [if_pos s0, X5_isReal s0, ob, r0, s1, s2, r4, hn]
  have nn : NnOk (g_I μ h 0) v (g_I μ h 1) (g_I μ h 2) := by rw [r0, r1, r2, hm, hd]; exact hnn
  by_cases hr : realB k = 0
  · rw [if_pos hr, if_pos (isK_p s4), X5_wholeTaken s0, ob, if_pos (inA_n s4 n1 hn24 (by decide)), c1, r0, r1, r2, hm, hd]
    refine ⟨_, rfl, (Out.rf.pL (by omega)).pI (by omega), ?_, ?_, ?_, ?_, ?_, fun i hi => ?_⟩
    · rw [gI_k (by decide), gI_pL, r0]
    · rw [gI_k (by decide), gI_pL, r1, q0]
    · rw [gI_k (by decide), gI_pL, r2, q1]
    · rw [gI_k (by decide), gI_pL, r3, q2]
    · rw [gI_s, gI_pL, r4, q3]
    · obtain ⟨w1, w2, w3⟩ := r5 i hi
      rw [q4 i hi, q5 i hi, gI_h (by omega), gL_pI, gD_pI, gL_pL, gD_pL, gI_pL, if_pos rfl]
      by_cases e : i = n
      · subst e
        rw [if_pos rfl, if_pos rfl, if_pos rfl, kL, kD, kM, if_pos hr, if_pos hr, if_pos hr, w2, w3]
        refine ⟨rfl, ?_, ?_⟩
        · unfold tkD; rw [if_pos hr]; split <;> rfl
        · unfold tkM; rw [if_pos hr]; split <;> rfl
      · rw [if_neg e, if_neg e, if_neg e]
        exact ⟨w1, w2, w3⟩
  · rw [if_neg hr, if_pos (isK_p s5), X5_realTaken s0 nn, ob, if_pos (realF_nn nn), if_pos (inA_n s5 n2 hn24 (by decide)), s3, if_pos (isK_p s6), r4, hn, X5_markTaken (μ := p_D μ (h + 2) (nI n).toNatClampNeg _) s0, ob, c1]
    have hin : inA (p_D μ (h + 2) n (realF (g_I μ h 0) v (g_I μ h 1) (g_I μ h 2))) (h + 3) 13 (nI n) = true := inA_n s6 n3 hn24 (by decide)
    rw [if_pos hin, mkb, gI_pD, r0, r1, r2, hm, hd]
    refine ⟨_, rfl, ((Out.rf.pD (by omega)).pI (by omega)).pI (by omega), ?_, ?_, ?_, ?_, ?_, fun i hi => ?_⟩
    · rw [gI_k (by decide), gI_h (by omega), gI_pD, r0]
    · rw [gI_k (by decide), gI_h (by omega), gI_pD, r1, q0]
    · rw [gI_k (by decide), gI_h (by omega), gI_pD, r2, q1]
    · rw [gI_k (by decide), gI_h (by omega), gI_pD, r3, q2]
    · rw [gI_s, gI_h (by omega), gI_pD, r4, q3]
    · obtain ⟨w1, w2, w3⟩ := r5 i hi
      have x1 : ∀ (R : UInt64) (M V : Int32), g_I (p_I (p_I (p_D μ (h + 2) n R) (h + 3) n M) h 4 V) (h + 3) i = if i = n then M else g_I μ (h + 3) i := fun R M V => by rw [gI_h (show h + 3 ≠ h by omega), gI_pI, if_pos rfl, gI_pD]
      have x2 : ∀ (R : UInt64) (M V : Int32), g_D (p_I (p_I (p_D μ (h + 2) n R) (h + 3) n M) h 4 V) (h + 2) i = if i = n then R else g_D μ (h + 2) i := fun R M V => by rw [gD_pI, gD_pI, gD_pD, if_pos rfl]
      have x3 : ∀ (R : UInt64) (M V : Int32), g_L (p_I (p_I (p_D μ (h + 2) n R) (h + 3) n M) h 4 V) (h + 1) i = g_L μ (h + 1) i := fun R M V => rfl
      rw [q4 i hi, q5 i hi, x1, x2, x3]
      by_cases e : i = n
      · subst e
        rw [if_pos rfl, if_pos rfl, if_pos rfl, if_pos rfl, kL, kD, kM, if_neg hr, if_neg hr, if_neg hr, w1]
        refine ⟨?_, rfl, rfl⟩
        unfold tkL; rw [if_neg hr]; split <;> rfl
      · rw [if_neg e, if_neg e, if_neg e, if_neg e]
        exact ⟨w1, w2, w3⟩
