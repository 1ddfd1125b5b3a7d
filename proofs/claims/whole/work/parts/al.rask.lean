/-! ===== the reference is asked ===== -/
/-- the reference, within a call: nothing is thrown so far -/
def RqR (μ : Mem) (a : ClT) : Prop := RfR μ a ∧ ClK a ∧ g_I μ 125 0 = 0
theorem RfR.q {μ : Mem} {a : ClT} (r : RfR μ a) (k : ClK a) : RqR (p_I μ 125 0 0) a ∧ MF μ (p_I μ 125 0 0) := by
  obtain ⟨r0, m0⟩ := r.b (RfR.hu k)
  exact ⟨⟨r0, k, gI_s⟩, m0⟩
theorem RqR.ho {μ : Mem} {a : ClT} (q : RqR μ a) : HutOk (hutT a.2.2.2.1) := RfR.hu q.2.1
theorem RqR.s {μ : Mem} {a : ClT} (q : RqR μ a) : RfS μ := q.1.1
theorem RqR.w {μ : Mem} {a : ClT} (q : RqR μ a) : RwC μ 603 (hutT a.2.2.2.1) a.2.2.2.2.1 (rowOf a) := ⟨q.1.1, q.1.2.2.2.2.1, q.ho, q.1.2.2.2.2.2.1, Or.inl rfl, q.1.2.2.2.2.2.2.2.2.2.1, q.2.1.2.1⟩
theorem RqR.n0 {μ : Mem} {a : ClT} (q : RqR μ a) : g_I μ 129 0 = nI (penN a) ∧ penN a ≤ 8 := ⟨q.1.2.2.2.2.1.1.1, q.ho.1⟩
theorem RqR.i0 {μ : Mem} {a : ClT} (q : RqR μ a) {i : Nat} (hi : i < 3) : inA μ 129 15 (nI i) = true := q.s.a129.ix hi (by decide)
theorem RqR.out {F S : Nat → Prop} {μ ν : Mem} {a : ClT} (q : RqR μ a) (o : OF F S μ ν) (hF : ∀ k, F k → frF k ∧ k ≠ 1 ∧ k ≠ 3 ∧ k ≠ 0) (hS : ∀ x, S x → frS x) : RqR ν a := ⟨q.1.o q.ho o (fun k hk => ⟨(hF k hk).1, (hF k hk).2.1, (hF k hk).2.2.1⟩) hS, q.2.1, by rw [o.2 0 (fun z => (hF 0 z).2.2.2 rfl)]; exact q.2.2⟩
theorem RqR.same {μ : Mem} {a : ClT} {ix : Nat → Nat} {v : Int32} (q : RqR μ a) : AskM ix μ (some (v, μ)) (.inr v, a) := AskM.same q.1 q.2.2
theorem gate_0 {μ : Mem} {w c : Int32} {k : Nat} {K : Mem → Option (Int32 × Mem)} {a : ClT} (q : RqR μ a) (hc : c = nI k) (hk : k < 5) (hw : ¬ w = 0) : (if isK μ 125 12 = true then (obind (LX12_bad 125 0 w c μ) (fun (r : Int32) (m : Mem) => if r = 0 then K m else (some ((0 : Int32), m)))) else none) = K μ := by
  rw [if_pos q.s.1, hc, (R_bad q.s hk q.2.2 hw).1, ob, if_pos rfl]
theorem gate_1 {ix : Nat → Nat} {μ : Mem} {w c : Int32} {k : Nat} {K : Mem → Option (Int32 × Mem)} {a : ClT} (q : RqR μ a) (hc : c = nI k) (hk : k < 5) (hw : ¬ w = 0) (hx : w = nI (ix k)) : AskM ix μ (if isK μ 125 12 = true then (obind (LX12_bad 125 1 w c μ) (fun (r : Int32) (m : Mem) => if r = 0 then K m else (some ((0 : Int32), m)))) else none) (.inl k, rfA a k) := by
  rw [if_pos q.s.1, hc, (R_bad q.s hk q.2.2 hw).2, ob, if_neg (by decide), hx]
  exact AskM.no q.1 q.ho hk
theorem in_off {v lo hi : Int32} : (if v < lo then (0 : Int32) else if hi < v then 0 else 1) = if offB v lo hi then 0 else 1 := by
  by_cases h1 : v < lo
  · rw [if_pos h1, if_pos (Or.inl h1)]
  · rw [if_neg h1]
    by_cases h2 : hi < v
    · rw [if_pos h2, if_pos (Or.inr (Int32.not_le.mpr h2))]
    · rw [if_neg h2, if_neg (fun z => z.elim h1 (fun y => y (Int32.not_lt.mp h2)))]
theorem A_in {ix : Nat → Nat} {μ : Mem} {a : ClT} {v lo hi w c : Int32} {k : Nat} {K : Mem → Option (Int32 × Mem)} {S : (Nat ⊕ Int32) × ClT} (q : RqR μ a) (hc : c = nI k) (hk : k < 5) (hw : ¬ w = 0) (hx : w = nI (ix k)) (h : ¬ offB v lo hi → AskM ix μ (K μ) S) : AskM ix μ (obind (LX12_in v lo hi μ) (fun (r1 : Int32) (m2 : Mem) => if r1 = 0 then (if isK m2 125 12 = true then (obind (LX12_bad 125 1 w c m2) (fun (r : Int32) (m : Mem) => if r = 0 then K m else (some ((0 : Int32), m)))) else none) else (if isK m2 125 12 = true then (obind (LX12_bad 125 0 w c m2) (fun (r : Int32) (m : Mem) => if r = 0 then K m else (some ((0 : Int32), m)))) else none))) (if offB v lo hi then (.inl k, rfA a k) else S) := by
  rw [R_in, ob, in_off]
  by_cases ho : offB v lo hi
  · rw [if_pos ho, if_pos ho, if_pos rfl]
    exact gate_1 q hc hk hw hx
  · rw [if_neg ho, if_neg ho, if_neg (by decide), gate_0 q hc hk hw]
    exact h ho
theorem off_lt {v : Int32} {n : Nat} (hn : n ≤ 24) : offB v 0 (nI n - 1) ↔ (v < 0 ∨ ¬ v < nI n) := by
  have e : (nI n - 1 : Int32).toInt = (n : Int) - 1 := by
    by_cases h0 : n = 0
    · rw [h0]; rfl
    · rw [show nI n - 1 = nI (n - 1) from nI_sub (b := 1) (by omega), nI_toInt (by omega)]
      omega
  refine ⟨fun h => h.imp id fun h2 h3 => h2 ?_, fun h => h.imp id fun h2 h3 => h2 ?_⟩
  · refine Int32.le_iff_toInt_le.mpr ?_
    have h3' := Int32.lt_iff_toInt_lt.mp h3
    rw [nI_toInt (by omega)] at h3'
    rw [e]
    omega
  · refine Int32.lt_iff_toInt_lt.mpr ?_
    have h3' := Int32.le_iff_toInt_le.mp h3
    rw [nI_toInt (by omega)]
    rw [e] at h3'
    omega
theorem nI_lt_of {v : Int32} {n : Nat} (h : ¬ (v < 0 ∨ ¬ v < nI n)) (hn : n < 2147483648) : ∃ p : Nat, p < n ∧ v = nI p := by
  have h1 : ¬ v < 0 := fun z => h (Or.inl z)
  have h2 : v < nI n := Classical.byContradiction fun z => h (Or.inr z)
  have h1' : 0 ≤ v.toInt := by
    have := Int32.le_iff_toInt_le.mp (Int32.not_lt.mp h1)
    rw [show (0 : Int32).toInt = 0 from rfl] at this
    exact this
  have h2' := Int32.lt_iff_toInt_lt.mp h2
  rw [nI_toInt (by omega)] at h2'
  refine ⟨v.toInt.toNat, by omega, Int32.toInt_inj.mp ?_⟩
  rw [nI_toInt (by omega)]
  omega
theorem R_isPen {μ : Mem} {a : ClT} {v : Int32} (q : RqR μ a) : LX12_isPen 125 v μ = some (if noPen a v then 0 else 1, μ) := by
  unfold LX12_isPen
  rw [if_pos q.s.1, q.s.h12, if_pos q129, if_pos (show inA μ 129 15 (0 : Int32) = true from q.i0 (i := 0) (by decide)), c0n, q.n0.1, R_in, ob, in_off]
  have e := off_lt (v := v) (n := penN a) (by have := q.n0.2; omega)
  by_cases h : noPen a v
  · rw [if_pos h, if_pos (e.mpr h), if_pos (Or.inl rfl)]
  · rw [if_neg h, if_neg (fun z => h (e.mp z)), if_pos (Or.inr rfl)]
theorem A_pen2 {ix : Nat → Nat} {μ : Mem} {a : ClT} {v w : Int32} {K : Mem → Option (Int32 × Mem)} {S : Nat → (Nat ⊕ Int32) × ClT} (q : RqR μ a) (hw : ¬ w = 0) (hx : w = nI (ix 0)) (h : ∀ p, p < penN a → v = nI p → AskM ix μ (K μ) (S p)) : AskM ix μ (obind (LX12_isPen 125 v μ) (fun (r1 : Int32) (m2 : Mem) => if r1 = 0 then (if isK m2 125 12 = true then (obind (LX12_bad 125 1 w (0 : Int32) m2) (fun (r : Int32) (m : Mem) => if r = 0 then K m else (some ((0 : Int32), m)))) else none) else (if isK m2 125 12 = true then (obind (LX12_bad 125 0 w (0 : Int32) m2) (fun (r : Int32) (m : Mem) => if r = 0 then K m else (some ((0 : Int32), m)))) else none))) (if noPen a v then (.inl 0, rfA a 0) else S v.toNatClampNeg) := by
  rw [R_isPen q, ob]
  by_cases hp : noPen a v
  · rw [if_pos hp, if_pos hp, if_pos rfl]
    exact gate_1 q (k := 0) rfl (by decide) hw hx
  · rw [if_neg hp, if_neg hp, if_neg (by decide), gate_0 q (c := 0) (k := 0) rfl (by decide) hw]
    have hn := q.n0.2
    obtain ⟨p, hp1, hp2⟩ := pen_of hp hn
    have : v.toNatClampNeg = p := by rw [hp2]; exact nI_clamp (by have hp1 : p < penN a := hp1; omega)
    rw [this]
    exact h p hp1 hp2
theorem A_pen {ix : Nat → Nat} {μ : Mem} {a : ClT} {v w : Int32} {K : Mem → Option (Int32 × Mem)} {S : Nat → (Nat ⊕ Int32) × ClT} (r : RfR μ a) (k : ClK a) (hw : ¬ w = 0) (hx : w = nI (ix 0)) (h : ∀ p, p < penN a → v = nI p → ∀ μ0, RqR μ0 a → AskM ix μ0 (K μ0) (S p)) : AskM ix μ (if isK μ 125 12 = true then (obind (LX12_isPen 125 v (p_I μ 125 0 (0 : Int32))) (fun (r1 : Int32) (m2 : Mem) => if r1 = 0 then (if isK m2 125 12 = true then (obind (LX12_bad 125 1 w (0 : Int32) m2) (fun (r : Int32) (m : Mem) => if r = 0 then K m else (some ((0 : Int32), m)))) else none) else (if isK m2 125 12 = true then (obind (LX12_bad 125 0 w (0 : Int32) m2) (fun (r : Int32) (m : Mem) => if r = 0 then K m else (some ((0 : Int32), m)))) else none))) else none) (if noPen a v then (.inl 0, rfA a 0) else S v.toNatClampNeg) := by
  obtain ⟨q, m0⟩ := r.q k
  rw [if_pos r.1.1]
  exact AskM.tr m0 (A_pen2 q hw hx fun p h1 h2 => h p h1 h2 _ q)
/-- the catch's number of what is thrown, where PEN and value can be wrong -/
abbrev ixPV : Nat → Nat := fun k => if k = 0 then 1 else 2
theorem M_out {μ : Mem} {a : ClT} {pn v : Int32} (r : RfR μ a) (k : ClK a) : AskM ixPV μ (LX12_out 125 pn v μ) (if noPen a pn then (.inl 0, rfA a 0) else sOut a v pn.toNatClampNeg) := by
  unfold LX12_out mX12_out_19
  refine A_pen (S := sOut a v) r k (by decide) rfl fun p hp hv μ0 q => ?_
  subst hv
  unfold sOut
  rw [q.s.h29, if_pos q603, R_jams q.w hp, ob]
  show AskM ixPV μ0 (obind (LX12_bad 125 (jamA a p) 2 4 μ0) _) _
  by_cases hj : jamA a p = 0
  · rw [if_pos hj, hj, (show LX12_bad 125 0 2 4 μ0 = some (0, μ0) from (R_bad (w := 2) (k := 4) q.s (by decide) q.2.2 (by decide)).1), ob, if_pos rfl, q.s.h29, if_pos q603, R_outOf q.w hp hj, ob]
    exact q.same
  · have h1 : jamA a p = 1 := by
      have : jamA a p = 0 ∨ jamA a p = 1 := by
        unfold jamA jamI
        repeat' split
        all_goals first | exact Or.inl rfl | exact Or.inr rfl
      exact this.resolve_left hj
    rw [if_neg hj, h1, (show LX12_bad 125 1 2 4 μ0 = some (1, p_I (p_I μ0 125 0 2) 127 4 (g_I μ0 127 4 + 1)) from (R_bad (w := 2) (k := 4) q.s (by decide) q.2.2 (by decide)).2), ob, if_neg (by decide)]
    exact AskM.no (k := 4) q.1 q.ho (by decide)
theorem M_level {μ : Mem} {a : ClT} {pn v : Int32} (r : RfR μ a) (k : ClK a) : AskM ixPV μ (LX12_level 125 pn v μ) (if noPen a pn then (.inl 0, rfA a 0) else (.inr (levA a pn.toNatClampNeg v), a)) := by
  unfold LX12_level mX12_level_19
  refine A_pen (S := fun p => (.inr (levA a p v), a)) r k (by decide) rfl fun p hp hv μ0 q => ?_
  subst hv
  obtain ⟨m1, e1, o1⟩ := R_levelOf (v := v) q.w hp
  rw [q.s.h29, if_pos q603, e1, ob]
  exact AskM.out q.1 q.ho o1 (fun k z => z.elim) (fun x hx => by have hx : x = 518 ∨ x = 519 := hx; unfold frS; omega) q.2.2
theorem M_record {μ : Mem} {a : ClT} {pn i : Int32} (r : RfR μ a) (k : ClK a) : AskM ixPV μ (LX12_record 125 pn i μ) (if noPen a pn then (.inl 0, rfA a 0) else sRec a i pn.toNatClampNeg) := by
  unfold LX12_record mX12_record_19
  refine A_pen (S := sRec a i) r k (by decide) rfl fun p hp hv μ0 q => ?_
  subst hv
  have hn := q.n0.2
  have po : PenOk (kindOf a p) (rowOf a) p := (q.2.1.2.1.2.1 p hp).1
  obtain ⟨n1, n2, -⟩ := po.n
  obtain ⟨i1, i2, i3⟩ := q.w.at (j := 24 + p) (by omega)
  rw [q.s.h29, if_pos q603, n24p, if_pos i1, i2, i3, n1]
  have en := off_lt (v := i) (n := nOf (rowOf a) p) n2
  have es : sRec a i p = if offB i 0 (nI (nOf (rowOf a) p) - 1) then (.inl 3, rfA a 3) else (.inr (rdF (kindOf a p) (rowOf a (35 + (24 * p + i.toNatClampNeg))) (rowOf a (227 + (24 * p + i.toNatClampNeg)))), a) := by
    unfold sRec
    rw [n1]
    by_cases h : offB i 0 (nI (nOf (rowOf a) p) - 1)
    · rw [if_pos h, if_pos (en.mp h)]
    · rw [if_neg h, if_neg (fun z => h (en.mpr z))]
  rw [es]
  unfold mX12_record_52
  refine A_in (k := 3) q rfl (by decide) (by decide) rfl fun h => ?_
  obtain ⟨j, hj, rfl⟩ : ∃ j : Nat, j < nOf (rowOf a) p ∧ i = nI j := nI_lt_of (fun z => h (en.mpr z)) (by omega)
  rw [q.s.h29, if_pos q603, R_readAt q.w hp (by omega), ob, nI_clamp (show j < 2147483648 by omega)]
  exact q.same
