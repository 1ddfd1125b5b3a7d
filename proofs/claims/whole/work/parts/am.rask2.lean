/-! ===== the reference is asked: total, would, told, pen, wire, latest ===== -/
theorem RqR.at {μ : Mem} {a : ClT} (q : RqR μ a) {j : Nat} (hj : j < 419) : inA μ 603 15 (nI j) = true ∧ (nI j).toNatClampNeg = j ∧ g_I μ 603 j = rowOf a j := q.w.at hj
theorem RqR.pen {μ : Mem} {a : ClT} (q : RqR μ a) {p : Nat} (hp : p < penN a) : inA μ 139 19 (nI p) = true ∧ (nI p).toNatClampNeg = p ∧ g_R μ 139 p = 140 + p ∧ 0 < 140 + p ∧ inA μ (140 + p) 15 (0 : Int32) = true ∧ g_I μ (140 + p) 0 = kindOf a p ∧ p < 8 := penM q.s q.1.2.2.2.2.1 q.ho hp
theorem RqR.po {μ : Mem} {a : ClT} (q : RqR μ a) {p : Nat} (hp : p < penN a) : PenOk (kindOf a p) (rowOf a) p := (q.2.1.2.1.2.1 p hp).1
/-- how many PENS there are, from 0 on -/
theorem RqR.np {μ : Mem} {a : ClT} (q : RqR μ a) : g_R μ 125 12 = 129 ∧ inA μ 129 15 (0 : Int32) = true ∧ g_I μ 129 (0 : Int32).toNatClampNeg = nI (penN a) ∧ penN a ≤ 8 := ⟨q.s.h12, q.i0 (i := 0) (by decide), q.n0.1, q.n0.2⟩
theorem i64_of {v : Int32} : v.toInt64.toInt = v.toInt := Int32.toInt_toInt64 v
theorem tot_rng {t : Int64} : lg_cmp t ((t.toInt32).toInt64) = 0 ↔ (-2147483648 ≤ t.toInt ∧ t.toInt ≤ 2147483647) := by
  have e : ((t.toInt32).toInt64).toInt = t.toInt.bmod (2 ^ 32) := by rw [i64_of, Int64.toInt_toInt32]
  have e2 : lg_cmp t ((t.toInt32).toInt64) = 0 ↔ t = (t.toInt32).toInt64 := by
    unfold lg_cmp
    by_cases h1 : t > (t.toInt32).toInt64
    · rw [if_pos h1]
      refine ⟨fun z => absurd z (by decide), fun z => ?_⟩
      have := Int64.lt_iff_toInt_lt.mp h1
      rw [← z] at this
      omega
    · rw [if_neg h1]
      by_cases h2 : t = (t.toInt32).toInt64
      · rw [if_pos h2]; exact ⟨fun _ => h2, fun _ => rfl⟩
      · rw [if_neg h2]; exact ⟨fun z => absurd z (by decide), fun z => absurd z h2⟩
  rw [e2]
  refine ⟨fun z => ?_, fun z => Int64.toInt_inj.mp ?_⟩
  · have := congrArg Int64.toInt z
    rw [e, Int.bmod_def] at this
    split at this <;> omega
  · rw [e, Int.bmod_def]
    split <;> omega
theorem lg_pos {x y : Int64} : 0 < lg_cmp x y ↔ y.toInt < x.toInt := by
  unfold lg_cmp
  by_cases h1 : x > y
  · rw [if_pos h1]; exact ⟨fun _ => Int64.lt_iff_toInt_lt.mp h1, fun _ => by decide⟩
  · rw [if_neg h1]
    have h1' : ¬ y.toInt < x.toInt := fun z => h1 (Int64.lt_iff_toInt_lt.mpr z)
    by_cases h2 : x = y
    · rw [if_pos h2]; exact ⟨fun z => absurd z (by decide), fun z => absurd z h1'⟩
    · rw [if_neg h2]; exact ⟨fun z => absurd z (by decide), fun z => absurd z h1'⟩
theorem lg_nn {x y : Int64} : 0 ≤ lg_cmp x y ↔ y.toInt ≤ x.toInt := by
  unfold lg_cmp
  by_cases h1 : x > y
  · rw [if_pos h1]; exact ⟨fun _ => Int.le_of_lt (Int64.lt_iff_toInt_lt.mp h1), fun _ => by decide⟩
  · rw [if_neg h1]
    have h1' : ¬ y.toInt < x.toInt := fun z => h1 (Int64.lt_iff_toInt_lt.mpr z)
    by_cases h2 : x = y
    · rw [if_pos h2]; exact ⟨fun z => by rw [h2]; exact Int.le_refl _, fun z => by decide⟩
    · rw [if_neg h2]
      exact ⟨fun z => absurd z (by decide), fun z => absurd (Int64.toInt_inj.mp (by omega)) h2⟩
theorem M_totalL {μ : Mem} {a : ClT} {p : Nat} (q : RqR μ a) (hp : p < penN a) : ∀ (n j fu : Nat) (s : Int64), n + j = nOf (rowOf a) p → n < fu → AskM ixPV μ (mX12_total_34 fu 125 (nI p) s (nI j) μ) (optA a (totF a p n j s)) := by
  obtain ⟨n1, n2, -⟩ := (q.po hp).n
  have hn := q.n0.2
  obtain ⟨i1, i2, i3⟩ := q.at (j := 24 + p) (by omega)
  intro n
  induction n with
  | zero =>
    intro j fu s hj hf
    obtain ⟨fu, rfl⟩ : ∃ q, fu = q + 1 := ⟨fu - 1, by omega⟩
    rw [mX12_total_34, q.s.h29, if_pos q603, n24p, if_pos i1, i2, i3, n1, if_pos (nI_le (by omega) (by omega))]
    exact q.same
  | succ n ih =>
    intro j fu s hj hf
    obtain ⟨fu, rfl⟩ : ∃ q, fu = q + 1 := ⟨fu - 1, by omega⟩
    rw [mX12_total_34, q.s.h29, if_pos q603, n24p, if_pos i1, i2, i3, n1, if_neg (nI_ge (by omega) (by omega)), R_readAt q.w hp (by omega), ob]
    have e : totF a p (n + 1) j s = if lg_cmp (s + (recA a p j).toInt64) (((s + (recA a p j).toInt64).toInt32).toInt64) = 0 then totF a p n (j + 1) (s + (recA a p j).toInt64) else none := rfl
    rw [e]
    show AskM ixPV μ (if 0 < lg_cmp (s + (recA a p j).toInt64) 2147483647 then mX12_total_85 _ 125 (nI p) (s + (recA a p j).toInt64) (nI j) 1 125 μ else if 0 ≤ lg_cmp (s + (recA a p j).toInt64) (-2147483648) then mX12_total_85 _ 125 (nI p) (s + (recA a p j).toInt64) (nI j) 0 125 μ else mX12_total_85 _ 125 (nI p) (s + (recA a p j).toInt64) (nI j) 1 125 μ) _
    generalize s + (recA a p j).toInt64 = t
    unfold mX12_total_85
    have g1 := lg_pos (x := t) (y := 2147483647)
    have g2 := lg_nn (x := t) (y := -2147483648)
    rw [show (2147483647 : Int64).toInt = 2147483647 from rfl] at g1
    rw [show (-2147483648 : Int64).toInt = -2147483648 from rfl] at g2
    by_cases h1 : 0 < lg_cmp t 2147483647
    · rw [if_pos h1, if_neg (show ¬ lg_cmp t ((t.toInt32).toInt64) = 0 from fun z => by have := tot_rng.mp z; have := g1.mp h1; omega)]
      exact gate_1 q (k := 4) rfl (by decide) (by decide) rfl
    rw [if_neg h1]
    by_cases h2 : 0 ≤ lg_cmp t (-2147483648)
    · rw [if_pos h2, gate_0 q (c := 4) (k := 4) rfl (by decide) (by decide), if_pos (tot_rng.mpr ⟨g2.mp h2, by
        have : ¬ 2147483647 < t.toInt := fun z => h1 (g1.mpr z)
        omega⟩), ← nI_succ]
      exact ih (j + 1) fu t (by omega) (by omega)
    · rw [if_neg h2, if_neg (show ¬ lg_cmp t ((t.toInt32).toInt64) = 0 from fun z => h2 (g2.mpr (tot_rng.mp z).1))]
      exact gate_1 q (k := 4) rfl (by decide) (by decide) rfl
theorem M_total {μ : Mem} {a : ClT} {pn : Int32} (r : RfR μ a) (k : ClK a) : AskM ixPV μ (LX12_total 125 pn μ) (if noPen a pn then (.inl 0, rfA a 0) else optA a (totF a pn.toNatClampNeg (nOf (rowOf a) pn.toNatClampNeg) 0 0)) := by
  unfold LX12_total mX12_total_19
  refine A_pen (S := fun p => optA a (totF a p (nOf (rowOf a) p) 0 0)) r k (by decide) rfl fun p hp hv μ0 q => ?_
  subst hv
  have n2 := (q.po hp).n.2.1
  exact M_totalL q hp (nOf (rowOf a) p) 0 100000 0 rfl (by omega)
theorem M_latest {μ : Mem} {a : ClT} {pn : Int32} (r : RfR μ a) (k : ClK a) : AskM (fun k => if k = 0 then 1 else k) μ (LX12_latest 125 pn μ) (if noPen a pn then (.inl 0, rfA a 0) else sLat a pn.toNatClampNeg) := by
  unfold LX12_latest mX12_latest_19
  refine A_pen (S := sLat a) r k (by decide) rfl fun p hp hv μ0 q => ?_
  subst hv
  obtain ⟨n1, n2, -⟩ := (q.po hp).n
  have hn := q.n0.2
  obtain ⟨i1, i2, i3⟩ := q.at (j := 24 + p) (by omega)
  obtain ⟨j1, j2, j3⟩ := q.at (j := 16 + p) (by omega)
  rw [q.s.h29, if_pos q603, n16p, if_pos j1, j2, j3]
  unfold mX12_latest_46 sLat
  by_cases h1 : rowOf a (16 + p) = -1
  · rw [if_pos h1, if_pos h1]
    exact gate_1 q (k := 2) rfl (by decide) (by decide) rfl
  rw [if_neg h1, if_neg h1, gate_0 q (c := 2) (k := 2) rfl (by decide) (by decide), q.s.h29, if_pos q603, n24p, if_pos i1, i2, i3, n1]
  unfold mX12_latest_72
  by_cases h2 : nOf (rowOf a) p = 0
  · rw [if_pos (show nI (nOf (rowOf a) p) = 0 by rw [h2]; rfl), if_pos h2]
    exact gate_1 q (k := 3) rfl (by decide) (by decide) rfl
  · rw [if_neg (show ¬ nI (nOf (rowOf a) p) = (0 : Int32) from fun z => h2 ((nI_eq (a := nOf (rowOf a) p) (b := 0) (by omega) (by decide)).mp z)), if_neg h2, gate_0 q (c := 3) (k := 3) rfl (by decide) (by decide), q.s.h29, if_pos q603, n24p, if_pos i1, i2, i3, n1, show nI (nOf (rowOf a) p) - 1 = nI (nOf (rowOf a) p - 1) from nI_sub (b := 1) (by omega), R_readAt q.w hp (by omega), ob]
    exact q.same
theorem R_wiredL {μ : Mem} {a : ClT} {p s : Nat} {A B : Nat → Nat} (q : RqR μ a) (hp : p < 8) (hs : s < 2) (hA : ∀ w, w < (hutT a.2.2.2.1).2.2.2.2.1 → g_I μ (166 + w) s = nI (A w) ∧ g_I μ (166 + w) (1 - s) = nI (B w) ∧ A w < 8) : ∀ (n j fu : Nat) (acc : Int32), n + j = (hutT a.2.2.2.1).2.2.2.2.1 → n < fu → mX12_wired_5 fu 125 (nI p) (nI s) acc (nI j) μ = some (wirB A B p n j acc, μ) := by
  have hw := q.ho.2.1
  have hu := q.1.2.2.2.2.1
  have i1 : inA μ 129 15 (1 : Int32) = true := q.i0 (i := 1) (by decide)
  intro n
  induction n with
  | zero =>
    intro j fu acc hj hf
    obtain ⟨fu, rfl⟩ : ∃ q, fu = q + 1 := ⟨fu - 1, by omega⟩
    rw [mX12_wired_5, q.s.h12, if_pos q129, if_pos i1, c1n, hu.1.2.1, if_pos (nI_le (by omega) (by omega))]
    rfl
  | succ n ih =>
    intro j fu acc hj hf
    obtain ⟨fu, rfl⟩ : ∃ q, fu = q + 1 := ⟨fu - 1, by omega⟩
    obtain ⟨t1, t2, t3, t4⟩ := q.s.t165.at (show j < 16 by omega) (by decide)
    have e166 : 165 + 1 + j = 166 + j := by omega
    rw [e166] at t2 t3 t4
    have ix : ∀ i, i < 2 → inA μ (166 + j) 15 (nI i) = true := fun i hi => t4.ix hi (by decide)
    obtain ⟨a1, a2, a3⟩ := hA j (by omega)
    have e1s : (1 : Int32) - nI s = nI (1 - s) := nI_sub (a := 1) (by omega)
    rw [mX12_wired_5, q.s.h12, if_pos q129, if_pos i1, c1n, hu.1.2.1, if_neg (nI_ge (by omega) (by omega)), q.s.h16, if_pos q165, if_pos t1, t2, if_pos t3, if_pos (ix s hs), nI_clamp (show s < 2147483648 by omega), a1, e1s, if_pos (ix (1 - s) (by omega)), nI_clamp (show 1 - s < 2147483648 by omega), a2, ← nI_succ]
    have e : wirB A B p (n + 1) j acc = wirB A B p n (j + 1) (if A j = p then acc ||| bitI (B j) else acc) := rfl
    rw [e]
    by_cases h : A j = p
    · rw [if_pos (by rw [h]), if_pos h]
      exact ih (j + 1) fu _ (by omega) (by omega)
    · rw [if_neg (fun z => h ((nI_eq (by omega) (by omega)).mp z)), if_neg h, Int32.or_zero]
      exact ih (j + 1) fu _ (by omega) (by omega)
theorem R_wired {μ : Mem} {a : ClT} {p : Nat} (q : RqR μ a) (hp : p < 8) : LX12_wired 125 (nI p) 0 μ = some (hrsF (hutT a.2.2.2.1) p, μ) ∧ LX12_wired 125 (nI p) 1 μ = some (hrdF (hutT a.2.2.2.1) p, μ) := by
  have hw := q.ho.2.1
  have h8 := q.ho.1
  have hu := q.1.2.2.2.2.1
  unfold LX12_wired
  rw [if_pos q.s.1, if_pos q.s.1]
  refine ⟨?_, ?_⟩
  · exact R_wiredL (s := 0) q hp (by decide) (fun w hw' => ⟨(hu.2.2 w hw').1, (hu.2.2 w hw').2, by have := (q.ho.2.2.2.1 w hw').1; omega⟩) (hutT a.2.2.2.1).2.2.2.2.1 0 100000 0 rfl (by omega)
  · exact R_wiredL (s := 1) q hp (by decide) (fun w hw' => ⟨(hu.2.2 w hw').2, (hu.2.2 w hw').1, by have := (q.ho.2.2.2.1 w hw').2; omega⟩) (hutT a.2.2.2.1).2.2.2.2.1 0 100000 0 rfl (by omega)
theorem M_pen {μ : Mem} {a : ClT} {pn w : Int32} (r : RfR μ a) (k : ClK a) : AskM ixPV μ (LX12_pen 125 pn w μ) (if noPen a pn then (.inl 0, rfA a 0) else if offB w 0 6 then (.inl 1, rfA a 1) else (.inr (sPen a w pn.toNatClampNeg), a)) := by
  unfold LX12_pen mX12_pen_19
  refine A_pen (S := fun p => if offB w 0 6 then (.inl 1, rfA a 1) else (.inr (sPen a w p), a)) r k (by decide) rfl fun p hp hv μ0 q => ?_
  subst hv
  unfold mX12_pen_43
  refine A_in (k := 1) q rfl (by decide) (by decide) rfl fun h => ?_
  obtain ⟨u1, u2, u3, u4, u5, u6, u7⟩ := q.pen hp
  have hn := q.n0.2
  obtain ⟨a1, a2, a3⟩ := q.at (j := p) (by omega)
  obtain ⟨b1, b2, b3⟩ := q.at (j := 8 + p) (by omega)
  obtain ⟨c1, c2, c3⟩ := q.at (j := 16 + p) (by omega)
  obtain ⟨d1, d2, d3⟩ := q.at (j := 24 + p) (by omega)
  obtain ⟨w1, w2⟩ := R_wired q u7
  unfold sPen
  by_cases h0 : w = 0
  · rw [if_pos h0, if_pos h0, q.s.h14, if_pos q139, if_pos u1, u2, u3, if_pos u4, if_pos u5, c0n, u6]; exact q.same
  rw [if_neg h0, if_neg h0]
  by_cases h1 : w = 1
  · rw [if_pos h1, if_pos h1, q.s.h29, if_pos q603, n0p, if_pos a1, a2, a3]; exact q.same
  rw [if_neg h1, if_neg h1]
  by_cases h2 : w = 2
  · rw [if_pos h2, if_pos h2, q.s.h29, if_pos q603, n8p, if_pos b1, b2, b3]; exact q.same
  rw [if_neg h2, if_neg h2]
  by_cases h3 : w = 3
  · rw [if_pos h3, if_pos h3, q.s.h29, if_pos q603, n16p, if_pos c1, c2, c3]; exact q.same
  rw [if_neg h3, if_neg h3]
  by_cases h4 : w = 4
  · rw [if_pos h4, if_pos h4, q.s.h29, if_pos q603, n24p, if_pos d1, d2, d3]; exact q.same
  rw [if_neg h4, if_neg h4]
  by_cases h5 : w = 5
  · rw [if_pos h5, h5, show (5 : Int32) - 5 = 0 from rfl, w1, ob]; exact q.same
  · obtain ⟨j, hj, rfl⟩ : ∃ j : Nat, j < 7 ∧ w = nI j := nI_lt_of (n := 7) (fun z => h (z.imp id fun z2 z3 => z2 (by
      have := Int32.le_iff_toInt_le.mp z3
      refine Int32.lt_iff_toInt_lt.mpr ?_
      rw [show (nI 7).toInt = 7 from rfl]
      rw [show (6 : Int32).toInt = 6 from rfl] at this
      omega))) (by decide)
    have h6 : j = 6 := by
      have z0 : j ≠ 0 := fun z => h0 (by rw [z]; rfl)
      have z1 : j ≠ 1 := fun z => h1 (by rw [z]; rfl)
      have z2 : j ≠ 2 := fun z => h2 (by rw [z]; rfl)
      have z3 : j ≠ 3 := fun z => h3 (by rw [z]; rfl)
      have z4 : j ≠ 4 := fun z => h4 (by rw [z]; rfl)
      have z5 : j ≠ 5 := fun z => h5 (by rw [z]; rfl)
      omega
    rw [if_neg h5, h6, show nI 6 - 5 = (1 : Int32) from rfl, w2, ob]; exact q.same
