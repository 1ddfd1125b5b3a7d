/-! ===== the reference is asked: the CHAIN ===== -/
theorem in_ofN {v : Int32} {n : Nat} (h : ¬ offB v 0 (nI n)) (hn : n < 2147483647) : ∃ j : Nat, j ≤ n ∧ v = nI j := by
  obtain ⟨j, hj, e⟩ := nI_lt_of (v := v) (n := n + 1) (fun z => h (z.imp id fun z2 z3 => z2 (by
    have := Int32.le_iff_toInt_le.mp z3
    rw [nI_toInt (by omega)] at this
    refine Int32.lt_iff_toInt_lt.mpr ?_
    rw [nI_toInt (by omega)]
    omega))) (by omega)
  exact ⟨j, by omega, e⟩
/-- the PENS of the CHAIN are PENS of the HUT -/
def ChnK (a : ClT) : Prop := ∀ j, j < (chaL a).length → (chaL a).getD j 0 < penN a
theorem RqR.lk {μ : Mem} {a : ClT} (q : RqR μ a) : g_I μ 125 34 = nI (chaL a).length ∧ (chaL a).length ≤ 12 := ⟨q.1.2.2.2.2.2.2.1.1, q.1.2.2.2.2.2.2.1.2.1⟩
theorem RqR.link {μ : Mem} {a : ClT} (q : RqR μ a) {j : Nat} (hj : j < (chaL a).length) : inA μ 520 15 (nI j) = true ∧ (nI j).toNatClampNeg = j ∧ g_I μ 520 j = nI ((chaL a).getD j 0) := by
  have h12 := q.lk.2
  exact ⟨q.s.a520.ix (by omega) (by decide), nI_clamp (by omega), q.1.2.2.2.2.2.2.1.2.2 j hj⟩
theorem R_chainJamsL {μ : Mem} {a : ClT} (q : RqR μ a) (hc : ChnK a) : ∀ (n j fu : Nat), n + j = (chaL a).length → n < fu → mX12_chainJams_2 fu 125 (nI j) μ = some (chJF a n j, μ) := by
  obtain ⟨l1, l2⟩ := q.lk
  intro n
  induction n with
  | zero =>
    intro j fu hj hf
    obtain ⟨fu, rfl⟩ : ∃ q, fu = q + 1 := ⟨fu - 1, by omega⟩
    rw [mX12_chainJams_2, l1, if_pos (nI_le (by omega) (by omega))]
    rfl
  | succ n ih =>
    intro j fu hj hf
    obtain ⟨fu, rfl⟩ : ∃ q, fu = q + 1 := ⟨fu - 1, by omega⟩
    obtain ⟨k1, k2, k3⟩ := q.link (show j < (chaL a).length by omega)
    rw [mX12_chainJams_2, l1, if_neg (nI_ge (by omega) (by omega)), q.s.h29, if_pos q603, q.s.h25, if_pos q520, if_pos k1, k2, k3, R_jamA q (hc j (by omega)), ob, ← nI_succ]
    show (if jamA a ((chaL a).getD j 0) = 0 then _ else _) = some (if jamA a ((chaL a).getD j 0) = 0 then chJF a n (j + 1) else 1, μ)
    by_cases e : jamA a ((chaL a).getD j 0) = 0
    · rw [if_pos e, if_pos e]; exact ih (j + 1) fu (by omega) (by omega)
    · rw [if_neg e, if_neg e]
theorem R_chainJams {μ : Mem} {a : ClT} (q : RqR μ a) (hc : ChnK a) : LX12_chainJams 125 μ = some (chJ a, μ) := by
  unfold LX12_chainJams
  rw [if_pos q.s.1]
  exact R_chainJamsL q hc (chaL a).length 0 100000 rfl (by have := q.lk.2; omega)
theorem chJF_0 {a : ClT} : ∀ (n j : Nat), chJF a n j = 0 → ∀ i, j ≤ i → i < j + n → jamA a ((chaL a).getD i 0) = 0 := by
  intro n
  induction n with
  | zero => intro j _ i h1 h2; omega
  | succ n ih =>
    intro j h i h1 h2
    have e : chJF a (n + 1) j = if jamA a ((chaL a).getD j 0) = 0 then chJF a n (j + 1) else 1 := rfl
    rw [e] at h
    by_cases hj : jamA a ((chaL a).getD j 0) = 0
    · rw [if_pos hj] at h
      by_cases hi : i = j
      · rw [hi]; exact hj
      · exact ih (j + 1) h i (by omega) (by omega)
    · rw [if_neg hj] at h
      exact absurd h (by decide)
theorem chJF_01 {a : ClT} : ∀ (n j : Nat), chJF a n j = 0 ∨ chJF a n j = 1 := by
  intro n
  induction n with
  | zero => intro j; exact Or.inl rfl
  | succ n ih =>
    intro j
    have e : chJF a (n + 1) j = if jamA a ((chaL a).getD j 0) = 0 then chJF a n (j + 1) else 1 := rfl
    rw [e]
    by_cases hj : jamA a ((chaL a).getD j 0) = 0
    · rw [if_pos hj]; exact ih _
    · rw [if_neg hj]; exact Or.inr rfl
theorem R_throughL {μ : Mem} {a : ClT} (q : RqR μ a) (hc : ChnK a) (hJ : chJ a = 0) : ∀ (n j fu : Nat) (x : Int32), n + j = (chaL a).length → n < fu → mX12_throughOf_4 fu 125 x (nI j) μ = some (chOF a n j x, μ) := by
  obtain ⟨l1, l2⟩ := q.lk
  intro n
  induction n with
  | zero =>
    intro j fu x hj hf
    obtain ⟨fu, rfl⟩ : ∃ q, fu = q + 1 := ⟨fu - 1, by omega⟩
    rw [mX12_throughOf_4, l1, if_pos (nI_le (by omega) (by omega))]
    rfl
  | succ n ih =>
    intro j fu x hj hf
    obtain ⟨fu, rfl⟩ : ∃ q, fu = q + 1 := ⟨fu - 1, by omega⟩
    obtain ⟨k1, k2, k3⟩ := q.link (show j < (chaL a).length by omega)
    rw [mX12_throughOf_4, l1, if_neg (nI_ge (by omega) (by omega)), q.s.h29, if_pos q603, q.s.h25, if_pos q520, if_pos k1, k2, k3, R_outOf q.w (hc j (by omega)) (chJF_0 _ _ hJ j (Nat.zero_le _) (by omega)), ob, ← nI_succ]
    exact ih (j + 1) fu _ (by omega) (by omega)
theorem R_throughOf {μ : Mem} {a : ClT} {v : Int32} (q : RqR μ a) (hc : ChnK a) (hJ : chJ a = 0) : LX12_throughOf 125 v μ = some (chO a v, μ) := by
  unfold LX12_throughOf
  rw [if_pos q.s.1]
  exact R_throughL q hc hJ (chaL a).length 0 100000 v rfl (by have := q.lk.2; omega)
theorem M_through {μ : Mem} {a : ClT} {v : Int32} (r : RfR μ a) (k : ClK a) (hc : ChnK a) : AskM (fun _ => 1) μ (LX12_through 125 v μ) (if chJ a = 0 then (.inr (chO a v), a) else (.inl 4, rfA a 4)) := by
  obtain ⟨q, m0⟩ := r.q k
  unfold LX12_through
  rw [if_pos r.1.1]
  refine AskM.tr m0 ?_
  generalize p_I μ 125 0 0 = μ0 at q
  rw [R_chainJams q hc, ob]
  by_cases h : chJ a = 0
  · rw [if_pos h, h, (show LX12_bad 125 0 1 4 μ0 = some (0, μ0) from (R_bad (w := 1) (k := 4) q.s (by decide) q.2.2 (by decide)).1), ob, if_pos rfl, R_throughOf q hc h, ob]
    exact q.same
  · rw [if_neg h, (chJF_01 (a := a) (chaL a).length 0).resolve_left h |> (fun z => show chJ a = 1 from z), (show LX12_bad 125 1 1 4 μ0 = some (1, p_I (p_I μ0 125 0 1) 127 4 (g_I μ0 127 4 + 1)) from (R_bad (w := 1) (k := 4) q.s (by decide) q.2.2 (by decide)).2), ob, if_neg (by decide)]
    exact AskM.no (k := 4) q.1 q.ho (by decide)
theorem R_keptL {μ : Mem} {a : ClT} {from_ : Int32} {m : Nat} (q : RqR μ a) (hc : ChnK a) (hJ : chJ a = 0) (hm : m ≤ 1000) : ∀ (n j fu : Nat) (acc : Int32), n + j = m → n < fu → mX12_kept_37 fu 125 from_ (nI m) acc (nI j) μ = some (keptF a from_ n j acc, μ) := by
  intro n
  induction n with
  | zero =>
    intro j fu acc hj hf
    obtain ⟨fu, rfl⟩ : ∃ q, fu = q + 1 := ⟨fu - 1, by omega⟩
    rw [mX12_kept_37, if_pos (nI_le (by omega) (by omega))]
    rfl
  | succ n ih =>
    intro j fu acc hj hf
    obtain ⟨fu, rfl⟩ : ∃ q, fu = q + 1 := ⟨fu - 1, by omega⟩
    rw [mX12_kept_37, if_neg (nI_ge (by omega) (by omega)), R_chainJams q hc, ob, if_pos hJ, R_throughOf q hc hJ, ob, ← nI_succ]
    have e : keptF a from_ (n + 1) j acc = keptF a from_ n (j + 1) (if chO a (from_ + nI j) = from_ + nI j then acc + 1 else acc) := rfl
    rw [e]
    by_cases h : chO a (from_ + nI j) = from_ + nI j
    · rw [if_pos h, if_pos h]; exact ih (j + 1) fu _ (by omega) (by omega)
    · rw [if_neg h, if_neg h, Int32.add_zero]; exact ih (j + 1) fu _ (by omega) (by omega)
theorem M_kept {μ : Mem} {a : ClT} {from_ m : Int32} (r : RfR μ a) (k : ClK a) (hc : ChnK a) : AskM (fun _ => 1) μ (LX12_kept 125 from_ m μ) (if offB m 0 1000 then (.inl 1, rfA a 1) else (.inr (if chJ a = 0 then keptF a from_ m.toNatClampNeg 0 0 else 0), a)) := by
  obtain ⟨q, m0⟩ := r.q k
  unfold LX12_kept mX12_kept_22
  rw [if_pos r.1.1]
  refine AskM.tr m0 ?_
  generalize p_I μ 125 0 0 = μ0 at q
  refine A_in (k := 1) q rfl (by decide) (by decide) rfl fun h => ?_
  obtain ⟨j, hj, rfl⟩ := in_ofN (n := 1000) h (by decide)
  rw [nI_clamp (show j < 2147483648 by omega)]
  by_cases hJ : chJ a = 0
  · rw [if_pos hJ, show mX12_kept_37 100000 125 from_ (nI j) 0 0 μ0 = _ from R_keptL (m := j) q hc hJ hj j 0 100000 0 rfl (by omega)]
    exact q.same
  · rw [if_neg hJ, mX12_kept_37, R_chainJams q hc, ob, if_neg hJ]
    split <;> exact q.same
theorem R_givesL {μ : Mem} {a : ClT} {w from_ : Int32} {m : Nat} (q : RqR μ a) (hc : ChnK a) (hJ : chJ a = 0) (hm : m ≤ 1000) : ∀ (n j fu : Nat), n + j = m → n < fu → mX12_gives_35 fu 125 w from_ (nI m) (nI j) μ = some (givF a w from_ n j, μ) := by
  intro n
  induction n with
  | zero =>
    intro j fu hj hf
    obtain ⟨fu, rfl⟩ : ∃ q, fu = q + 1 := ⟨fu - 1, by omega⟩
    rw [mX12_gives_35, if_pos (nI_le (by omega) (by omega))]
    rfl
  | succ n ih =>
    intro j fu hj hf
    obtain ⟨fu, rfl⟩ : ∃ q, fu = q + 1 := ⟨fu - 1, by omega⟩
    rw [mX12_gives_35, if_neg (nI_ge (by omega) (by omega)), R_chainJams q hc, ob, if_pos hJ, R_throughOf q hc hJ, ob, ← nI_succ]
    have e : givF a w from_ (n + 1) j = if chO a (from_ + nI j) = w then nI j else givF a w from_ n (j + 1) := rfl
    rw [e]
    by_cases h : chO a (from_ + nI j) = w
    · rw [if_pos h, if_pos h]
    · rw [if_neg h, if_neg h]; exact ih (j + 1) fu (by omega) (by omega)
theorem M_gives {μ : Mem} {a : ClT} {w from_ m : Int32} (r : RfR μ a) (k : ClK a) (hc : ChnK a) : AskM (fun _ => 1) μ (LX12_gives 125 w from_ m μ) (if offB m 0 1000 then (.inl 1, rfA a 1) else (.inr (if chJ a = 0 then givF a w from_ m.toNatClampNeg 0 else -1), a)) := by
  obtain ⟨q, m0⟩ := r.q k
  unfold LX12_gives mX12_gives_22
  rw [if_pos r.1.1]
  refine AskM.tr m0 ?_
  generalize p_I μ 125 0 0 = μ0 at q
  refine A_in (k := 1) q rfl (by decide) (by decide) rfl fun h => ?_
  obtain ⟨j, hj, rfl⟩ := in_ofN (n := 1000) h (by decide)
  rw [nI_clamp (show j < 2147483648 by omega)]
  by_cases hJ : chJ a = 0
  · rw [if_pos hJ, show mX12_gives_35 100000 125 w from_ (nI j) 0 μ0 = _ from R_givesL (m := j) q hc hJ hj j 0 100000 rfl (by omega)]
    exact q.same
  · rw [if_neg hJ, mX12_gives_35, R_chainJams q hc, ob, if_neg hJ]
    split <;> exact q.same
theorem R_moreL {a b : Int32} {μ : Mem} (h : a ≤ b) : LX12_more a b μ = some (b, μ) := by
  unfold LX12_more
  rw [if_pos h]
theorem R_moreG {a b : Int32} {μ : Mem} (h : b ≤ a) : LX12_more a b μ = some (a, μ) := by
  rw [R_more]
  by_cases h2 : a < b
  · have := Int32.lt_iff_toInt_lt.mp h2
    have := Int32.le_iff_toInt_le.mp h
    omega
  · rw [if_neg h2]
theorem le_or {a b : Int32} (h : ¬ a ≤ b) : b ≤ a := by
  rw [Int32.le_iff_toInt_le] at *
  omega
theorem R_worstL {μ : Mem} {a : ClT} {from_ w : Int32} {m : Nat} (q : RqR μ a) (hc : ChnK a) (hJ : chJ a = 0) (hm : m ≤ 1000) : ∀ (n j fu : Nat) (z : Int32 × Int32), n + j = m → n < fu → mX12_worst_50 fu 125 from_ (nI m) w z.1 z.2 (nI j) μ = some (if w = 0 then (wstF a from_ n j z).1 else (wstF a from_ n j z).2, μ) := by
  intro n
  induction n with
  | zero =>
    intro j fu z hj hf
    obtain ⟨fu, rfl⟩ : ∃ q, fu = q + 1 := ⟨fu - 1, by omega⟩
    rw [mX12_worst_50, if_pos (nI_le (by omega) (by omega))]
    unfold mX12_worst_111
    have e : wstF a from_ 0 j z = z := rfl
    rw [e]
    split <;> rfl
  | succ n ih =>
    intro j fu z hj hf
    obtain ⟨fu, rfl⟩ : ∃ q, fu = q + 1 := ⟨fu - 1, by omega⟩
    rw [mX12_worst_50, if_neg (nI_ge (by omega) (by omega)), R_chainJams q hc, ob, if_pos hJ, R_throughOf q hc hJ, ob, R_off, ob]
    have e : wstF a from_ (n + 1) j z = wstF a from_ n (j + 1) (if distF (from_ + nI j) (chO a (from_ + nI j)) ≤ z.2 then z else (nI j, distF (from_ + nI j) (chO a (from_ + nI j)))) := rfl
    rw [e]
    unfold mX12_worst_94
    by_cases h : distF (from_ + nI j) (chO a (from_ + nI j)) ≤ z.2
    · rw [if_pos h, if_pos h, R_moreG h, ob, ← nI_succ]
      exact ih (j + 1) fu z (by omega) (by omega)
    · rw [if_neg h, if_neg h, R_moreL (le_or h), ob, ← nI_succ]
      exact ih (j + 1) fu (nI j, distF (from_ + nI j) (chO a (from_ + nI j))) (by omega) (by omega)
theorem M_worst {μ : Mem} {a : ClT} {from_ m w : Int32} (r : RfR μ a) (k : ClK a) (hc : ChnK a) : AskM (fun _ => 1) μ (LX12_worst 125 from_ m w μ) (if offB m 0 1000 then (.inl 1, rfA a 1) else if offB w 0 1 then (.inl 1, rfA a 1) else (.inr (if chJ a = 0 then (if w = 0 then (wstF a from_ m.toNatClampNeg 0 (-1, -1)).1 else (wstF a from_ m.toNatClampNeg 0 (-1, -1)).2) else -1), a)) := by
  obtain ⟨q, m0⟩ := r.q k
  unfold LX12_worst mX12_worst_31
  rw [if_pos r.1.1]
  refine AskM.tr m0 ?_
  generalize p_I μ 125 0 0 = μ0 at q
  rw [R_in, ob, in_off]
  by_cases h : offB m 0 1000
  · rw [if_pos h, if_pos h, if_pos rfl]
    exact gate_1 q (k := 1) rfl (by decide) (by decide) rfl
  rw [if_neg h, if_neg h, if_neg (by decide)]
  refine A_in (k := 1) q rfl (by decide) (by decide) rfl fun h2 => ?_
  obtain ⟨j, hj, rfl⟩ := in_ofN (n := 1000) h (by decide)
  rw [nI_clamp (show j < 2147483648 by omega)]
  by_cases hJ : chJ a = 0
  · rw [if_pos hJ, show mX12_worst_50 100000 125 from_ (nI j) w (-1) (-1) 0 μ0 = _ from R_worstL (w := w) (m := j) q hc hJ hj j 0 100000 (-1, -1) rfl (by omega)]
    exact q.same
  · rw [if_neg hJ, mX12_worst_50, R_chainJams q hc, ob, if_neg hJ]
    unfold mX12_worst_111
    repeat' split
    all_goals exact q.same
theorem R_chainedL {μ : Mem} {a : ClT} {kk : Int32} (q : RqR μ a) (hc : ChnK a) : ∀ (n j fu : Nat) (acc : Int32), n + j = (chaL a).length → n < fu → mX12_chained_35 fu 125 kk acc (nI j) μ = some (chNF a kk n j acc, μ) := by
  obtain ⟨l1, l2⟩ := q.lk
  intro n
  induction n with
  | zero =>
    intro j fu acc hj hf
    obtain ⟨fu, rfl⟩ : ∃ q, fu = q + 1 := ⟨fu - 1, by omega⟩
    rw [mX12_chained_35, l1, if_pos (nI_le (by omega) (by omega))]
    rfl
  | succ n ih =>
    intro j fu acc hj hf
    obtain ⟨fu, rfl⟩ : ∃ q, fu = q + 1 := ⟨fu - 1, by omega⟩
    obtain ⟨k1, k2, k3⟩ := q.link (show j < (chaL a).length by omega)
    obtain ⟨u1, u2, u3, u4, u5, u6, u7⟩ := q.pen (hc j (by omega))
    rw [mX12_chained_35, l1, if_neg (nI_ge (by omega) (by omega)), q.s.h14, if_pos q139, q.s.h25, if_pos q520, if_pos k1, k2, k3, if_pos u1, u2, u3, if_pos u4, if_pos u5, c0n, u6, ← nI_succ]
    have e : chNF a kk (n + 1) j acc = chNF a kk n (j + 1) (if kindOf a ((chaL a).getD j 0) = kk then acc + 1 else acc) := rfl
    rw [e]
    by_cases h : kindOf a ((chaL a).getD j 0) = kk
    · rw [if_pos h, if_pos h]; exact ih (j + 1) fu _ (by omega) (by omega)
    · rw [if_neg h, if_neg h, Int32.add_zero]; exact ih (j + 1) fu _ (by omega) (by omega)
theorem M_chained {μ : Mem} {a : ClT} {kk : Int32} (r : RfR μ a) (k : ClK a) (hc : ChnK a) : AskM (fun _ => 1) μ (LX12_chained 125 kk μ) (if offB kk 0 7 then (.inl 1, rfA a 1) else (.inr (chNF a kk (chaL a).length 0 0), a)) := by
  obtain ⟨q, m0⟩ := r.q k
  unfold LX12_chained mX12_chained_21
  rw [if_pos r.1.1]
  refine AskM.tr m0 ?_
  generalize p_I μ 125 0 0 = μ0 at q
  refine A_in (k := 1) q rfl (by decide) (by decide) rfl fun h => ?_
  rw [show mX12_chained_35 100000 125 kk 0 0 μ0 = _ from R_chainedL q hc (chaL a).length 0 100000 0 rfl (by have := q.lk.2; omega)]
  exact q.same
