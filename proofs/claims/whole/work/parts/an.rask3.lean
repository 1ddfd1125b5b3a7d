/-! ===== the reference is asked: would, wire, told, the bits ===== -/
theorem gateC {ix : Nat → Nat} {μ : Mem} {a : ClT} {C : Prop} [Decidable C] {w c : Int32} {k : Nat} {K : Mem → Option (Int32 × Mem)} {S : (Nat ⊕ Int32) × ClT} (q : RqR μ a) (hc : c = nI k) (hk : k < 5) (hw : ¬ w = 0) (hx : w = nI (ix k)) (h : ¬ C → AskM ix μ (K μ) S) : AskM ix μ (if C then (if isK μ 125 12 = true then (obind (LX12_bad 125 1 w c μ) (fun (r : Int32) (m : Mem) => if r = 0 then K m else (some ((0 : Int32), m)))) else none) else (if isK μ 125 12 = true then (obind (LX12_bad 125 0 w c μ) (fun (r : Int32) (m : Mem) => if r = 0 then K m else (some ((0 : Int32), m)))) else none)) (if C then (.inl k, rfA a k) else S) := by
  by_cases hC : C
  · rw [if_pos hC, if_pos hC]; exact gate_1 q hc hk hw hx
  · rw [if_neg hC, if_neg hC, gate_0 q hc hk hw]; exact h hC
theorem M_would {μ : Mem} {a : ClT} {v1 v2 v3 v4 v5 v6 v7 v8 : Int32} (r : RfR μ a) (k : ClK a) : AskM (fun _ => 1) μ (LX12_would 125 v1 v2 v3 v4 v5 v6 v7 v8 μ) (if offB v3 0 2147483647 then (.inl 1, rfA a 1) else if offB v4 0 24 then (.inl 1, rfA a 1) else if offB v5 0 900 then (.inl 1, rfA a 1) else if offB v6 0 7 then (.inl 1, rfA a 1) else if offB v7 0 99 then (.inl 1, rfA a 1) else if offB v8 0 99 then (.inl 1, rfA a 1) else (.inr (lawV a.2.2.2.2.1 (kn8 v1 v2 v3 v4 v5 v6 v7 v8)), a)) := by
  obtain ⟨q, m0⟩ := r.q k
  unfold LX12_would
  rw [if_pos r.1.1]
  refine AskM.tr m0 ?_
  generalize p_I μ 125 0 0 = μ0 at q
  unfold mX12_would_71
  have bad : AskM (fun _ => 1) μ0 (if isK μ0 125 12 = true then (obind (LX12_bad 125 1 1 1 μ0) (fun (r27 : Int32) (m28 : Mem) => if r27 = 0 then (obind (LX12_levelBy 125 v1 v2 v3 v4 v5 v6 v7 v8 m28) (fun (r33 : Int32) (m34 : Mem) => some (r33, m34))) else (some ((0 : Int32), m28)))) else none) (.inl 1, rfA a 1) := gate_1 q (k := 1) rfl (by decide) (by decide) rfl
  by_cases h3 : v3 < 0
  · rw [if_pos h3, if_pos (Or.inl h3)]; exact bad
  have h3' : ¬ offB v3 0 2147483647 := fun z => z.elim h3 fun y => y (Int32.le_iff_toInt_le.mpr (by have := v3.toInt_lt; rw [show (2147483647 : Int32).toInt = 2147483647 from rfl]; omega))
  rw [if_neg h3, if_neg h3', R_in, ob, in_off]
  by_cases h4 : offB v4 0 24
  · rw [if_pos h4, if_pos h4, if_pos rfl]; exact bad
  rw [if_neg h4, if_neg h4, if_neg (by decide), R_in, ob, in_off]
  by_cases h5 : offB v5 0 900
  · rw [if_pos h5, if_pos h5, if_pos rfl]; exact bad
  rw [if_neg h5, if_neg h5, if_neg (by decide), R_in, ob, in_off]
  by_cases h6 : offB v6 0 7
  · rw [if_pos h6, if_pos h6, if_pos rfl]; exact bad
  rw [if_neg h6, if_neg h6, if_neg (by decide), R_in, ob, in_off]
  by_cases h7 : offB v7 0 99
  · rw [if_pos h7, if_pos h7, if_pos rfl]; exact bad
  rw [if_neg h7, if_neg h7, if_neg (by decide), R_in, ob, in_off]
  by_cases h8 : offB v8 0 99
  · rw [if_pos h8, if_pos h8, if_pos rfl]; exact bad
  rw [if_neg h8, if_neg h8, if_neg (by decide), gate_0 q (c := 1) (k := 1) rfl (by decide) (by decide)]
  obtain ⟨m1, e1, o1⟩ := R_levelBy (a0 := v1) (a1 := v2) (a2 := v3) (a3 := v4) (a4 := v5) (a5 := v6) (a6 := v7) (a7 := v8) q.s q.1.2.2.2.2.2.1
  rw [e1, ob]
  exact AskM.out q.1 q.ho o1 (fun k z => z.elim) (fun x hx => by have hx : x = 518 ∨ x = 519 := hx; unfold frS; omega) q.2.2
theorem M_wire {μ : Mem} {a : ClT} {wn s : Int32} (r : RfR μ a) (k : ClK a) : AskM ixPV μ (LX12_wire 125 wn s μ) (@ite _ (noWire a wn) (noWireD a wn) (.inl 0, rfA a 0) (if offB s 0 1 then (.inl 1, rfA a 1) else (.inr (sWire a s wn.toNatClampNeg), a))) := by
  obtain ⟨q, m0⟩ := r.q k
  have i1 : inA μ 129 15 (1 : Int32) = true := r.1.a129.ix (i := 1) (by decide) (by decide)
  have hw := (RfR.hu k).2.1
  unfold LX12_wire
  rw [if_pos r.1.1, r.1.h12, if_pos q129, if_pos i1, c1n, gI_h (show (129 : Nat) ≠ 125 by decide), r.2.2.2.2.1.1.2.1]
  refine AskM.tr m0 ?_
  generalize p_I μ 125 0 0 = μ0 at q
  have e := off_lt (v := wn) (n := (hutT a.2.2.2.1).2.2.2.2.1) (by omega)
  unfold mX12_wire_27
  have go := A_in (ix := ixPV) (μ := μ0) (a := a) (v := wn) (lo := 0) (hi := nI (hutT a.2.2.2.1).2.2.2.2.1 - 1) (w := 1) (c := 0) (k := 0) (K := fun m9 => obind (LX12_in s (0 : Int32) (1 : Int32) m9) (fun (r14 : Int32) (m15 : Mem) => if r14 = 0 then (mX12_wire_50 125 wn s (1 : Int32) 125 m15) else (mX12_wire_50 125 wn s (0 : Int32) 125 m15))) (S := if offB s 0 1 then (.inl 1, rfA a 1) else (.inr (sWire a s wn.toNatClampNeg), a)) q rfl (by decide) (by decide) rfl fun h => by
    unfold mX12_wire_50
    refine A_in (k := 1) q rfl (by decide) (by decide) rfl fun h2 => ?_
    obtain ⟨j, hj, rfl⟩ : ∃ j : Nat, j < (hutT a.2.2.2.1).2.2.2.2.1 ∧ wn = nI j := nI_lt_of (fun z => h (e.mpr z)) (by omega)
    obtain ⟨t1, t2, t3, t4⟩ := q.s.t165.at (show j < 16 by omega) (by decide)
    have e166 : 165 + 1 + j = 166 + j := by omega
    rw [e166] at t2 t3 t4
    obtain ⟨i, hi, rfl⟩ : ∃ i : Nat, i < 2 ∧ s = nI i := nI_lt_of (n := 2) (fun z => h2 (z.imp id fun z2 z3 => z2 (by
      have := Int32.le_iff_toInt_le.mp z3
      refine Int32.lt_iff_toInt_lt.mpr ?_
      rw [show (nI 2).toInt = 2 from rfl]
      rw [show (1 : Int32).toInt = 1 from rfl] at this
      omega))) (by decide)
    have hu := q.1.2.2.2.2.1
    rw [q.s.h16, if_pos q165, if_pos t1, t2, if_pos t3, if_pos (t4.ix hi (by decide)), nI_clamp (show i < 2147483648 by omega)]
    unfold sWire
    rw [nI_clamp (show j < 2147483648 by omega)]
    have hi : i = 0 ∨ i = 1 := by omega
    rcases hi with rfl | rfl
    · rw [(hu.2.2 j hj).1, if_pos (show nI 0 = (0 : Int32) from rfl)]; exact q.same
    · rw [(hu.2.2 j hj).2, if_neg (show ¬ nI 1 = (0 : Int32) by decide)]; exact q.same
  have es : (@ite _ (noWire a wn) (noWireD a wn) (Sum.inl 0, rfA a 0) (if offB s 0 1 then (.inl 1, rfA a 1) else (.inr (sWire a s wn.toNatClampNeg), a)) : (Nat ⊕ Int32) × ClT) = if offB wn 0 (nI (hutT a.2.2.2.1).2.2.2.2.1 - 1) then (.inl 0, rfA a 0) else (if offB s 0 1 then (.inl 1, rfA a 1) else (.inr (sWire a s wn.toNatClampNeg), a)) := by
    by_cases h : noWire a wn
    · rw [if_pos (show offB wn 0 (nI (hutT a.2.2.2.1).2.2.2.2.1 - 1) from e.mpr h)]
      exact @if_pos _ (noWireD a wn) h _ _ _
    · rw [if_neg (show ¬ offB wn 0 (nI (hutT a.2.2.2.1).2.2.2.2.1 - 1) from fun z => h (e.mp z))]
      exact @if_neg _ (noWireD a wn) h _ _ _
  rw [es]
  exact go
theorem R_recordsL {μ : Mem} {a : ClT} (q : RqR μ a) : ∀ (n j fu : Nat), n + j = penN a → n < fu → mX12_records_4 fu 125 603 (sumR (rowOf a) j) (nI j) μ = some (sumR (rowOf a) (penN a), μ) := by
  obtain ⟨p1, p2, p3, p4⟩ := q.np
  intro n
  induction n with
  | zero =>
    intro j fu hj hf
    obtain ⟨fu, rfl⟩ : ∃ q, fu = q + 1 := ⟨fu - 1, by omega⟩
    rw [mX12_records_4, p1, if_pos q129, if_pos p2, p3, if_pos (nI_le (by omega) (by omega)), show j = penN a by omega]
  | succ n ih =>
    intro j fu hj hf
    obtain ⟨fu, rfl⟩ : ∃ q, fu = q + 1 := ⟨fu - 1, by omega⟩
    obtain ⟨i1, i2, i3⟩ := q.at (j := 24 + j) (by omega)
    rw [mX12_records_4, p1, if_pos q129, if_pos p2, p3, if_neg (nI_ge (by omega) (by omega)), n24p, if_pos i1, i2, i3, ← nI_succ]
    exact ih (j + 1) fu (by omega) (by omega)
theorem R_records {μ : Mem} {a : ClT} (q : RqR μ a) : LX12_records 125 603 μ = some (sumR (rowOf a) (penN a), μ) := by
  unfold LX12_records
  rw [if_pos q.s.1, if_pos q.s.a603.1]
  exact R_recordsL q (penN a) 0 100000 rfl (by have := q.np.2.2.2; omega)
def tolA (a : ClT) (w x y : Int32) : Int32 := if w = 0 then nI (penN a) else if w = 1 then nI a.2.2.2.1.2.1.length else if w = 2 then rowOf a 32 else if w = 3 then x else if w = 4 then sumR (rowOf a) (penN a) else if w = 5 then rowOf a 33 else if w = 6 then rowOf a 34 else if w = 7 then nI a.2.2.2.2.2.1.length else if w = 8 then nI a.2.2.2.2.2.2.1.length else if w = 9 then a.2.2.2.2.2.2.2.2.2.1 else y
theorem R_jamA {μ : Mem} {a : ClT} {p : Nat} (q : RqR μ a) (hp : p < penN a) : LX12_jams 125 603 (nI p) μ = some (jamA a p, μ) := R_jams q.w hp
theorem M_toldL {μ : Mem} {a : ClT} {w : Int32} (q : RqR μ a) : ∀ (n j fu : Nat) (x y : Int32), n + j = penN a → n < fu → mX12_told_38 fu 125 w x y (nI j) μ = some (tolA a w (bitF (sheetA a) n j x) (bitF (jamA a) n j y), μ) := by
  obtain ⟨p1, p2, p3, p4⟩ := q.np
  intro n
  induction n with
  | zero =>
    intro j fu x y hj hf
    obtain ⟨fu, rfl⟩ : ∃ q, fu = q + 1 := ⟨fu - 1, by omega⟩
    rw [mX12_told_38, p1, if_pos q129, if_pos p2, p3, if_pos (nI_le (by omega) (by omega)), q.s.h29]
    simp only [if_pos q603]
    rw [R_records q, ob]
    obtain ⟨a1, a2, a3⟩ := q.at (j := 32) (by decide)
    obtain ⟨b1, b2, b3⟩ := q.at (j := 33) (by decide)
    obtain ⟨c1, c2, c3⟩ := q.at (j := 34) (by decide)
    have a1 : inA μ 603 15 (32 : Int32) = true := a1
    have b1 : inA μ 603 15 (33 : Int32) = true := b1
    have c1 : inA μ 603 15 (34 : Int32) = true := c1
    have hi1 : inA μ 129 15 (1 : Int32) = true := q.i0 (i := 1) (by decide)
    rw [if_pos a1, if_pos b1, if_pos c1, show (32 : Int32).toNatClampNeg = 32 from rfl, show (33 : Int32).toNatClampNeg = 33 from rfl, show (34 : Int32).toNatClampNeg = 34 from rfl, a3, b3, c3, q.1.2.2.2.2.2.2.1.1, q.1.2.2.2.2.2.2.2.1.1, q.1.2.2.2.2.2.2.2.2.2.2.1]
    unfold tolA
    by_cases h0 : w = 0
    · rw [if_pos h0, if_pos h0, h0, if_pos p2, p3]
    rw [if_neg h0, if_neg h0]
    by_cases h1 : w = 1
    · rw [if_pos h1, if_pos h1, h1, if_pos hi1, c1n, q.1.2.2.2.2.1.1.2.1]; rfl
    rw [if_neg h1, if_neg h1]
    repeat' split
    all_goals rfl
  | succ n ih =>
    intro j fu x y hj hf
    obtain ⟨fu, rfl⟩ : ∃ q, fu = q + 1 := ⟨fu - 1, by omega⟩
    obtain ⟨i1, i2, i3⟩ := q.at (j := 16 + j) (by omega)
    have go : ∀ k0 : Int32, mX12_told_72 (fun l0 l1 l2 l3 l4 μ => mX12_told_38 fu l0 l1 l2 l3 l4 μ) 125 w y (nI j) k0 x μ = some (tolA a w (bitF (sheetA a) n (j + 1) (x ||| k0)) (bitF (jamA a) (n + 1) j y), μ) := by
      intro k0
      unfold mX12_told_72
      rw [q.s.h29, if_pos q603, R_jamA q (by omega), ob, ← nI_succ]
      have e : bitF (jamA a) (n + 1) j y = bitF (jamA a) n (j + 1) (if jamA a j = 0 then y else y ||| bitI j) := rfl
      rw [e]
      by_cases h : jamA a j = 0
      · rw [if_pos h, if_pos h, Int32.or_zero]
        exact ih (j + 1) fu _ _ (by omega) (by omega)
      · rw [if_neg h, if_neg h]
        exact ih (j + 1) fu _ _ (by omega) (by omega)
    rw [mX12_told_38, p1, if_pos q129, if_pos p2, p3, if_neg (nI_ge (by omega) (by omega)), q.s.h29, if_pos q603, n16p, if_pos i1, i2, i3]
    have e : bitF (sheetA a) (n + 1) j x = bitF (sheetA a) n (j + 1) (if sheetA a j = 0 then x else x ||| bitI j) := rfl
    rw [e]
    unfold sheetA at *
    by_cases h : rowOf a (16 + j) = -1
    · have hs : (if rowOf a (16 + j) = -1 then (0 : Int32) else 1) = 0 := if_pos h
      rw [if_pos h, go 0, if_pos hs, Int32.or_zero]
    · have hs : ¬ (if rowOf a (16 + j) = -1 then (0 : Int32) else 1) = 0 := by rw [if_neg h]; decide
      rw [if_neg h, if_neg hs]
      exact go (bitI j)
theorem M_told {μ : Mem} {a : ClT} {w : Int32} (r : RfR μ a) (k : ClK a) : AskM (fun _ => 1) μ (LX12_told 125 w μ) (if offB w 0 10 then (.inl 1, rfA a 1) else (.inr (sTold a w), a)) := by
  obtain ⟨q, m0⟩ := r.q k
  unfold LX12_told mX12_told_21
  rw [if_pos r.1.1]
  refine AskM.tr m0 ?_
  generalize p_I μ 125 0 0 = μ0 at q
  refine A_in (k := 1) q rfl (by decide) (by decide) rfl fun h => ?_
  have e := M_toldL (w := w) q (penN a) 0 100000 0 0 rfl (by have := q.np.2.2.2; omega)
  rw [show (mX12_told_38 100000 125 w 0 0 0 μ0) = _ from e]
  exact q.same
