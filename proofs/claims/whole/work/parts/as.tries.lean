/-! ===== the reference is asked: best, hop ===== -/
theorem distF_nn {a b : Int32} : (0 : Int32) ≤ distF a b := by
  have ha1 := a.le_toInt
  have ha2 := a.toInt_lt
  have hb1 := b.le_toInt
  have hb2 := b.toInt_lt
  have ed : (a.toInt64 - b.toInt64).toInt = a.toInt - b.toInt := by
    rw [Int64.toInt_sub, i64_of, i64_of, Int.bmod_def]
    split <;> omega
  have en : (-(a.toInt64 - b.toInt64)).toInt = -(a.toInt - b.toInt) := by
    rw [Int64.toInt_neg, ed, Int.bmod_def]
    split <;> omega
  unfold distF
  have key : ∀ x : Int64, 0 ≤ x.toInt → (0 : Int32) ≤ (if x < (2147483647 : Int64) then x else (2147483647 : Int64)).toInt32 := by
    intro x hx
    by_cases h : x < (2147483647 : Int64)
    · rw [if_pos h]
      have h2 := Int64.lt_iff_toInt_lt.mp h
      rw [show (2147483647 : Int64).toInt = 2147483647 from rfl] at h2
      refine Int32.le_iff_toInt_le.mpr ?_
      rw [Int64.toInt_toInt32, show (0 : Int32).toInt = 0 from rfl, Int.bmod_def]
      split <;> omega
    · rw [if_neg h]; decide
  apply key
  by_cases h : (0 : Int64) < a.toInt64 - b.toInt64
  · rw [if_pos h, ed]
    have := Int64.lt_iff_toInt_lt.mp h
    rw [show (0 : Int64).toInt = 0 from rfl, ed] at this
    omega
  · rw [if_neg h, en]
    have : ¬ (0 : Int64).toInt < (a.toInt64 - b.toInt64).toInt := fun z => h (Int64.lt_iff_toInt_lt.mpr z)
    rw [show (0 : Int64).toInt = 0 from rfl, ed] at this
    omega
theorem nn_m1 {n : Int32} (h : 0 ≤ n) : ¬ n = -1 := fun z => by rw [z] at h; exact absurd h (by decide)
def BsM (μ : Mem) (b : Bst) : Prop := match b with
  | none => g_I μ 125 43 = -1 ∧ g_I μ 125 44 = -1
  | some (r, n) => g_I μ 125 43 = n ∧ g_I μ 125 44 = nI r.length ∧ 1 ≤ r.length ∧ r.length ≤ 8 ∧ 0 ≤ n ∧ ∀ i, i < r.length → g_I μ 627 i = nI (r.getD (r.length - 1 - i) 0)
def PaM (μ : Mem) (path : List Nat) : Prop := ∀ i, i < path.length → g_I μ 626 i = nI (path.getD (path.length - 1 - i) 0)
abbrev yF : Nat → Prop := fun k => k = 43 ∨ k = 44
abbrev yS : Nat → Prop := fun x => x = 626 ∨ x = 627
theorem BsM.fr {μ ν : Mem} {b : Bst} (h : BsM μ b) (e1 : g_I ν 125 43 = g_I μ 125 43) (e2 : g_I ν 125 44 = g_I μ 125 44) (e3 : g_I ν 627 = g_I μ 627) : BsM ν b := by
  unfold BsM at *
  rw [e1, e2, e3]
  exact h
theorem RqR.y {μ ν : Mem} {a : ClT} (q : RqR μ a) (o : OF yF yS μ ν) : RqR ν a := q.out o (fun k hk => by have hk : k = 43 ∨ k = 44 := hk; unfold frF; omega) (fun x hx => by have hx : x = 626 ∨ x = 627 := hx; unfold frS; omega)
theorem R_copyB {rec : Nat → Int32 → Int32 → Int32 → Int32 → Int32 → Mem → Option (Unit × Mem)} {n : Nat} (hn : n ≤ 8) : ∀ (f k fu : Nat) (μ : Mem), RfS μ → f + k = n → f < fu → (∀ i, i < k → g_I μ 627 i = g_I μ 626 i) → ∃ μ' : Mem, mX12_tries_75 rec fu 125 (nI n) (nI k) μ = some ((), μ') ∧ OF yF yS μ μ' ∧ g_I μ' 626 = g_I μ 626 ∧ (∀ k, g_I μ' 125 k = g_I μ 125 k) ∧ ∀ i, i < n → g_I μ' 627 i = g_I μ 626 i := by
  intro f
  induction f with
  | zero =>
    intro k fu μ s hk hf h
    obtain ⟨fu, rfl⟩ : ∃ q, fu = q + 1 := ⟨fu - 1, by omega⟩
    rw [mX12_tries_75, if_pos (nI_le (by omega) (by omega))]
    exact ⟨μ, rfl, OF.rf, rfl, fun _ => rfl, fun i hi => h i (by omega)⟩
  | succ f ih =>
    intro k fu μ s hk hf h
    obtain ⟨fu, rfl⟩ : ∃ q, fu = q + 1 := ⟨fu - 1, by omega⟩
    rw [mX12_tries_75, if_neg (nI_ge (by omega) (by omega)), s.h42, if_pos q627, s.h41, if_pos q626, if_pos (s.a626.ix (show k < 8 by omega) (by decide)), if_pos (s.a627.ix (show k < 8 by omega) (by decide)), nI_clamp (show k < 2147483648 by omega), ← nI_succ]
    have o0 : OF yF yS μ (p_I μ 627 k (g_I μ 626 k)) := (OF.rf (F := yF) (S := yS)).pS (Or.inr rfl) (by decide)
    obtain ⟨μ', e1, o1, r1, f1, c1⟩ := ih (k + 1) fu (p_I μ 627 k (g_I μ 626 k)) (o0.s s) (by omega) (by omega) (fun i hi => by
      by_cases e : i = k
      · rw [e, gI_s, gI_h (by decide)]
      · rw [gI_k e, gI_h (by decide)]; exact h i (by omega))
    exact ⟨μ', e1, o0.tr o1, by rw [r1, gI_rowo (by decide)], fun j => by rw [f1 j, gI_h (by decide)], fun i hi => by rw [c1 i hi, gI_h (by decide)]⟩
/-- the row that is laid, weighed against the best so far -/
theorem R_weigh {rec : Nat → Int32 → Int32 → Int32 → Int32 → Int32 → Mem → Option (Unit × Mem)} {μ : Mem} {b : Bst} {r : List Nat} {n : Int32} (s : RfS μ) (hb : BsM μ b) (hp : PaM μ r) (h1 : 1 ≤ r.length) (h8 : r.length ≤ 8) (hn : 0 ≤ n) : ∃ μ' : Mem, (if (g_I μ 125 43) = (-1 : Int32) then (mX12_tries_60 rec 125 (nI r.length) n μ) else (if (g_I μ 125 43) < n then (some ((), μ)) else (if n = (g_I μ 125 43) then (if nI r.length < (g_I μ 125 44) then (mX12_tries_60 rec 125 (nI r.length) n μ) else (some ((), μ))) else (mX12_tries_60 rec 125 (nI r.length) n μ)))) = some ((), μ') ∧ OF yF yS μ μ' ∧ BsM μ' (weighF b r n) ∧ PaM μ' r := by
  have put : ∃ μ' : Mem, mX12_tries_60 rec 125 (nI r.length) n μ = some ((), μ') ∧ OF yF yS μ μ' ∧ BsM μ' (some (r, n)) ∧ PaM μ' r := by
    unfold mX12_tries_60
    have o0 : OF yF yS μ (p_I (p_I μ 125 43 n) 125 44 (nI r.length)) := ((OF.rf (F := yF) (S := yS)).p0 (Or.inl rfl)).p0 (Or.inr rfl)
    obtain ⟨μ', e1, o1, r1, f1, c1⟩ := R_copyB (rec := rec) h8 r.length 0 100000 (p_I (p_I μ 125 43 n) 125 44 (nI r.length)) (o0.s s) rfl (by omega) (fun i hi => by omega)
    refine ⟨μ', e1, o0.tr o1, ⟨by rw [f1, gI_k (by decide), gI_s], by rw [f1, gI_s], h1, h8, hn, fun i hi => ?_⟩, fun i hi => ?_⟩
    · rw [c1 i hi, gI_h (by decide), gI_h (by decide)]; exact hp i hi
    · rw [r1, gI_h (by decide), gI_h (by decide)]; exact hp i hi
  have keep : ∃ μ' : Mem, (some ((), μ) : Option (Unit × Mem)) = some ((), μ') ∧ OF yF yS μ μ' ∧ BsM μ' b ∧ PaM μ' r := ⟨μ, rfl, OF.rf, hb, hp⟩
  cases b with
  | none =>
    rw [hb.1, if_pos rfl]
    exact put
  | some c =>
    obtain ⟨r0, m⟩ := c
    obtain ⟨b1, b2, b3, b4, b5, b6⟩ := id hb
    rw [b1, b2, if_neg (nn_m1 b5)]
    have ew : weighF (some (r0, m)) r n = if n < m then some (r, n) else if n = m ∧ r.length < r0.length then some (r, n) else some (r0, m) := rfl
    rw [ew]
    by_cases h2 : m < n
    · have h3 : ¬ n < m := fun z => by have := Int32.lt_iff_toInt_lt.mp z; have := Int32.lt_iff_toInt_lt.mp h2; omega
      have h4 : ¬ n = m := fun z => by rw [z] at h2; exact absurd (Int32.lt_iff_toInt_lt.mp h2) (by omega)
      rw [if_pos h2, if_neg h3, if_neg (fun z => h4 z.1)]
      exact keep
    · rw [if_neg h2]
      by_cases h4 : n = m
      · have h3 : ¬ n < m := fun z => by rw [h4] at z; exact absurd (Int32.lt_iff_toInt_lt.mp z) (by omega)
        rw [if_pos h4, if_neg h3]
        by_cases h5 : r.length < r0.length
        · rw [if_pos (nI_lt h5 (by omega)), if_pos ⟨h4, h5⟩]
          exact put
        · rw [if_neg (nI_nlt (by omega) (by omega)), if_neg (fun z => h5 z.2)]
          exact keep
      · have h3 : n < m := Int32.lt_iff_toInt_lt.mpr (by
          have a1 : ¬ m.toInt < n.toInt := fun z => h2 (Int32.lt_iff_toInt_lt.mpr z)
          have a2 : ¬ n.toInt = m.toInt := fun z => h4 (Int32.toInt_inj.mp z)
          omega)
        rw [if_neg h4, if_pos h3]
        exact put
/-- what is found from p on, where p isn't jammed; x is what p reads -/
def nodF (t : HutT) (ρ : Nat → Int32) (goal : Nat) (v : Int32) (f : Nat) (path : List Nat) (p : Nat) (used x : Int32) (b : Bst) : Bst := if p = goal then weighF b (p :: path) (distF v x) else @dfsN (fun q b => dfs t ρ goal v f (p :: path) q used x b) (nxOk t used p) (nxOkD t used p) t.1 0 b
theorem dfs_s {t : HutT} {ρ : Nat → Int32} {goal : Nat} {v : Int32} {f : Nat} {path : List Nat} {p : Nat} {used x : Int32} {b : Bst} : dfs t ρ goal v (f + 1) path p used x b = if ¬ jamI (t.2.1 p) (ρ (8 + p)) = 0 then b else nodF t ρ goal v f path p (used ||| bitI p) (outF (t.2.1 p) x (ρ p) (ρ (8 + p))) b := rfl
theorem PaM.snoc {μ : Mem} {path : List Nat} {q : Nat} (h : PaM μ path) : PaM (p_I μ 626 path.length (nI q)) (q :: path) := by
  intro i hi
  have hi : i < path.length + 1 := hi
  show _ = nI ((q :: path).getD (path.length + 1 - 1 - i) 0)
  by_cases e : i = path.length
  · rw [e, gI_s, show path.length + 1 - 1 - path.length = 0 by omega]; rfl
  · rw [gI_k e, h i (by omega), show path.length + 1 - 1 - i = (path.length - 1 - i) + 1 by omega]; rfl
theorem PaM.tl {μ : Mem} {path : List Nat} {q : Nat} (h : PaM μ (q :: path)) : PaM μ path := by
  intro i hi
  have := h i (by show i < path.length + 1; omega)
  rw [this]
  show nI ((q :: path).getD (path.length + 1 - 1 - i) 0) = _
  rw [show path.length + 1 - 1 - i = (path.length - 1 - i) + 1 by omega]; rfl
theorem R_node {a : ClT} {goal f D : Nat} {v : Int32} {path : List Nat} {p : Nat} {used x : Int32} (hg : goal < penN a) (hp : p < penN a) (hlen : path.length + 1 ≤ 8) (hroom : ∀ j, j < penN a → ¬ hasI used j → path.length + 1 < 8)
    (child : ∀ (j : Nat) (b : Bst) (ν : Mem), j < penN a → ¬ hasI used j → jamA a j = 0 → RqR ν a → PaM ν (j :: p :: path) → BsM ν b → ∃ ν' : Mem, LX12_tries D 125 (nI goal) v (outA a j x) (nI (path.length + 1 + 1)) (used ||| bitI j) ν = some ((), ν') ∧ OF yF yS ν ν' ∧ BsM ν' (dfs (hutT a.2.2.2.1) (rowOf a) goal v f (p :: path) j used x b) ∧ PaM ν' (j :: p :: path))
    (b : Bst) (μ : Mem) (q : RqR μ a) (hpath : PaM μ (p :: path)) (hb : BsM μ b) : ∃ μ' : Mem, LX12_tries (D + 1) 125 (nI goal) v x (nI (path.length + 1)) used μ = some ((), μ') ∧ OF yF yS μ μ' ∧ BsM μ' (nodF (hutT a.2.2.2.1) (rowOf a) goal v f path p used x b) ∧ PaM μ' (p :: path) := by
  have hn := q.n0.2
  have x1 : nI (path.length + 1) - 1 = nI path.length := nI_sub (a := path.length + 1) (b := 1) (by omega)
  have ix : inA μ 626 15 (nI path.length) = true := q.s.a626.ix (by omega) (by decide)
  have hlast : g_I μ 626 path.length = nI p := by
    have := hpath path.length (by show path.length < path.length + 1; omega)
    rw [this]
    show nI ((p :: path).getD (path.length + 1 - 1 - path.length) 0) = nI p
    rw [show path.length + 1 - 1 - path.length = 0 by omega]; rfl
  show ∃ μ' : Mem, LX12_tries_b (LX12_tries D) 125 (nI goal) v x (nI (path.length + 1)) used μ = _ ∧ _
  unfold LX12_tries_b
  rw [if_pos q.s.1, q.s.h41, if_pos q626, x1, if_pos ix, R_off, ob, nI_clamp (show path.length < 2147483648 by omega), hlast]
  unfold nodF
  by_cases hpg : p = goal
  · rw [if_pos (by rw [hpg]), if_pos hpg]
    have hw := R_weigh (rec := LX12_tries D) (r := p :: path) (n := distF v x) q.s hb hpath (Nat.succ_pos _) hlen distF_nn
    rw [List.length_cons] at hw
    exact hw
  rw [if_neg (fun z => hpg ((nI_eq (by omega) (by omega)).mp z)), if_neg hpg]
  have loop : ∀ (g j fu : Nat) (b : Bst) (ν : Mem), RqR ν a → PaM ν (p :: path) → BsM ν b → g + j = penN a → g < fu → ∃ ν' : Mem, mX12_tries_106 (LX12_tries D) fu 125 (nI goal) v x (nI (path.length + 1)) used (nI p) (nI j) ν = some ((), ν') ∧ OF yF yS ν ν' ∧ BsM ν' (@dfsN (fun j b => dfs (hutT a.2.2.2.1) (rowOf a) goal v f (p :: path) j used x b) (nxOk (hutT a.2.2.2.1) used p) (nxOkD (hutT a.2.2.2.1) used p) g j b) ∧ PaM ν' (p :: path) := by
    intro g
    induction g with
    | zero =>
      intro j fu b ν qν pν bν hj hf
      obtain ⟨fu, rfl⟩ : ∃ q, fu = q + 1 := ⟨fu - 1, by omega⟩
      obtain ⟨p1, p2, p3, p4⟩ := qν.np
      rw [mX12_tries_106, p1, if_pos q129, if_pos p2, p3, if_pos (nI_le (by omega) (by omega))]
      exact ⟨ν, rfl, OF.rf, bν, pν⟩
    | succ g ihg =>
      intro j fu b ν qν pν bν hj hf
      obtain ⟨fu, rfl⟩ : ∃ q, fu = q + 1 := ⟨fu - 1, by omega⟩
      obtain ⟨p1, p2, p3, p4⟩ := qν.np
      have hj8 : j < 8 := by omega
      have hjn : j < penN a := by omega
      have skip : ∃ ν' : Mem, mX12_tries_106 (LX12_tries D) fu 125 (nI goal) v x (nI (path.length + 1)) used (nI p) (nI (j + 1)) ν = some ((), ν') ∧ OF yF yS ν ν' ∧ BsM ν' (@dfsN (fun j b => dfs (hutT a.2.2.2.1) (rowOf a) goal v f (p :: path) j used x b) (nxOk (hutT a.2.2.2.1) used p) (nxOkD (hutT a.2.2.2.1) used p) g (j + 1) b) ∧ PaM ν' (p :: path) := ihg (j + 1) fu b ν qν pν bν (by omega) (by omega)
      rw [mX12_tries_106, p1, if_pos q129, if_pos p2, p3, if_neg (nI_ge (by omega) (by omega)), R_has (by omega), ob]
      show ∃ ν' : Mem, _ ∧ _ ∧ BsM ν' (@dfsN _ (nxOk (hutT a.2.2.2.1) used p) (nxOkD (hutT a.2.2.2.1) used p) g (j + 1) (@ite _ (nxOk (hutT a.2.2.2.1) used p j) (nxOkD (hutT a.2.2.2.1) used p j) (dfs (hutT a.2.2.2.1) (rowOf a) goal v f (p :: path) j used x b) b)) ∧ _
      by_cases hu : hasI used j
      · have hno : ¬ nxOk (hutT a.2.2.2.1) used p j := fun z => z.1 hu
        rw [if_pos hu, if_neg (show ¬ (1 : Int32) = 0 by decide), @if_neg _ (nxOkD (hutT a.2.2.2.1) used p j) hno, ← nI_succ]
        exact skip
      rw [if_neg hu, if_pos rfl, (R_wired qν (show p < 8 by omega)).1, ob, R_has (by omega), ob]
      by_cases hh : hasI (hrsF (hutT a.2.2.2.1) p) j
      case neg =>
        have hno : ¬ nxOk (hutT a.2.2.2.1) used p j := fun z => hh z.2
        rw [if_neg hh, if_pos rfl, @if_neg _ (nxOkD (hutT a.2.2.2.1) used p j) hno, ← nI_succ]
        exact skip
      rw [if_pos hh, if_neg (show ¬ (1 : Int32) = 0 by decide), @if_pos _ (nxOkD (hutT a.2.2.2.1) used p j) (show nxOk (hutT a.2.2.2.1) used p j from ⟨hu, hh⟩), qν.s.h29, if_pos q603, R_jamA qν hjn, ob]
      have hr := hroom j hjn hu
      by_cases hJ : jamA a j = 0
      case neg =>
        have e : dfs (hutT a.2.2.2.1) (rowOf a) goal v f (p :: path) j used x b = b := by
          cases f with
          | zero => rfl
          | succ f => exact if_pos hJ
        rw [if_neg hJ, e, ← nI_succ]
        exact skip
      have iy : inA ν 626 15 (nI (path.length + 1)) = true := qν.s.a626.ix (by omega) (by decide)
      rw [if_pos hJ, qν.s.h41, if_pos q626, if_pos iy, qν.s.h29, if_pos q603, nI_clamp (show path.length + 1 < 2147483648 by omega)]
      have o0 : OF yF yS ν (p_I ν 626 (path.length + 1) (nI j)) := (OF.rf (F := yF) (S := yS)).pS (Or.inl rfl) (by decide)
      have q0 := qν.y o0
      have p0 : PaM (p_I ν 626 (path.length + 1) (nI j)) (j :: p :: path) := pν.snoc
      have b0 : BsM (p_I ν 626 (path.length + 1) (nI j)) b := bν.fr (by rw [gI_h (by decide)]) (by rw [gI_h (by decide)]) (by rw [gI_rowo (by decide)])
      rw [show LX12_outOf 125 603 (nI j) x (p_I ν 626 (path.length + 1) (nI j)) = some (outA a j x, p_I ν 626 (path.length + 1) (nI j)) from R_outOf q0.w hjn hJ, ob, ← nI_succ]
      obtain ⟨ν1, e1, o1, b1, t1⟩ := child j b _ hjn hu hJ q0 p0 b0
      rw [show ((1 : Int32) <<< (nI j &&& 31)) = bitI j from rfl, e1, ob, ← nI_succ]
      obtain ⟨ν2, e2, o2, b2, t2⟩ := ihg (j + 1) fu _ ν1 (q0.y o1) t1.tl b1 (by omega) (by omega)
      exact ⟨ν2, e2, (o0.tr o1).tr o2, b2, t2⟩
  exact loop (penN a) 0 100000 b μ q hpath hb rfl (by omega)
theorem R_tries {a : ClT} {goal : Nat} {v : Int32} (hg : goal < penN a) : ∀ (f D : Nat) (path : List Nat) (p : Nat) (used x : Int32) (b : Bst) (μ : Mem), f + path.length = 7 → f < D → RqR μ a → p < penN a → PaM μ (p :: path) → BsM μ b → outN used + (path.length + 1) ≤ 8 → ∃ μ' : Mem, LX12_tries (D + 1) 125 (nI goal) v x (nI (path.length + 1)) used μ = some ((), μ') ∧ OF yF yS μ μ' ∧ BsM μ' (nodF (hutT a.2.2.2.1) (rowOf a) goal v f path p used x b) ∧ PaM μ' (p :: path) := by
  intro f
  induction f with
  | zero =>
    intro D path p used x b μ hl hD q hp hpath hb hu
    have hn := q.n0.2
    exact R_node hg hp (by omega) (fun j hj hj2 => by have := outN_in (show j < 8 by omega) hj2; omega) (fun j b ν hj hj2 _ _ _ _ => by have := outN_in (show j < 8 by omega) hj2; omega) b μ q hpath hb
  | succ f ih =>
    intro D path p used x b μ hl hD q hp hpath hb hu
    have hn := q.n0.2
    refine R_node hg hp (by omega) (fun j hj hj2 => by have := outN_in (show j < 8 by omega) hj2; omega) (fun j b ν hj hj2 hJ qν pν bν => ?_) b μ q hpath hb
    have h1 := outN_in (show j < 8 by omega) hj2
    obtain ⟨D, rfl⟩ : ∃ q, D = q + 1 := ⟨D - 1, by omega⟩
    obtain ⟨ν', e1, o1, b1, t1⟩ := ih D (p :: path) j (used ||| bitI j) (outA a j x) b ν (by show f + (path.length + 1) = 7; omega) (by omega) qν hj pν bν (by show outN _ + (path.length + 1 + 1) ≤ 8; omega)
    refine ⟨ν', e1, o1, ?_, t1⟩
    rw [dfs_s, if_neg (show ¬ ¬ jamI ((hutT a.2.2.2.1).2.1 j) (rowOf a (8 + j)) = 0 from fun z => z hJ)]
    exact b1
theorem R_laysBest {μ : Mem} {a : ClT} {p g : Nat} {v : Int32} (q : RqR μ a) (hp : p < penN a) (hg : g < penN a) : ∃ μ' : Mem, LX12_laysBest 125 (nI p) (nI g) v μ = some ((), μ') ∧ OF yF yS μ μ' ∧ BsM μ' (bestA a p g v) := by
  have hn := q.n0.2
  have i0 : inA μ 626 15 (0 : Int32) = true := q.s.a626.ix (i := 0) (by decide) (by decide)
  unfold LX12_laysBest
  rw [if_pos q.s.1, q.s.h41, if_pos q626, if_pos i0, q.s.h29, if_pos q603, c0n]
  have o0 : OF yF yS μ (p_I (p_I (p_I μ 125 43 (-1)) 125 44 (-1)) 626 0 (nI p)) := (((OF.rf (F := yF) (S := yS)).p0 (Or.inl rfl)).p0 (Or.inr rfl)).pS (Or.inl rfl) (by decide)
  have q0 := q.y o0
  have b0 : BsM (p_I (p_I (p_I μ 125 43 (-1)) 125 44 (-1)) 626 0 (nI p)) none := ⟨by rw [gI_h (by decide), gI_k (by decide), gI_s], by rw [gI_h (by decide), gI_s]⟩
  have p0 : PaM (p_I (p_I (p_I μ 125 43 (-1)) 125 44 (-1)) 626 0 (nI p)) [p] := fun i hi => by
    have hi : i < 1 := hi
    rw [show i = 0 by omega, gI_s]; rfl
  generalize p_I (p_I (p_I μ 125 43 (-1)) 125 44 (-1)) 626 0 (nI p) = ν at o0 q0 b0 p0
  rw [R_jamA q0 hp, ob]
  unfold bestA
  rw [dfs_s]
  by_cases hJ : jamA a p = 0
  · rw [if_pos hJ, if_neg (show ¬ ¬ jamI ((hutT a.2.2.2.1).2.1 p) (rowOf a (8 + p)) = 0 from fun z => z hJ), q0.s.h29, if_pos q603, show LX12_outOf 125 603 (nI p) v ν = some (outA a p v, ν) from R_outOf q0.w hp hJ, ob]
    have h1 := outN_in (b := 0) (show p < 8 by omega) (has_0 p (by omega))
    have h0 := outN_0
    have ez : (0 : Int32) ||| bitI p = bitI p := Int32.zero_or
    obtain ⟨ν', e1, o1, b1, t1⟩ := R_tries (v := v) hg 7 11 [] p (0 ||| bitI p) (outA a p v) none ν rfl (by decide) q0 hp p0 b0 (by show outN _ + 1 ≤ 8; omega)
    rw [ez] at e1
    have e1 : LX12_tries 12 125 (nI g) v (outA a p v) (1 : Int32) ((1 : Int32) <<< (nI p &&& 31)) ν = some ((), ν') := e1
    rw [e1, ob]
    exact ⟨ν', rfl, o0.tr o1, b1⟩
  · rw [if_neg hJ, if_pos (show ¬ jamI ((hutT a.2.2.2.1).2.1 p) (rowOf a (8 + p)) = 0 from hJ)]
    exact ⟨ν, rfl, o0, b0⟩
theorem AskM.y {μ ν : Mem} {a : ClT} {ix : Nat → Nat} {v : Int32} (q : RqR μ a) (o : OF yF yS μ ν) : AskM ix μ (some (v, ν)) (.inr v, a) := AskM.out q.1 q.ho o (fun k hk => by have hk : k = 43 ∨ k = 44 := hk; unfold frF; omega) (fun x hx => by have hx : x = 626 ∨ x = 627 := hx; unfold frS; omega) q.2.2
theorem M_best {μ : Mem} {a : ClT} {pn qn v w : Int32} (r : RfR μ a) (k : ClK a) : AskM ixPV μ (LX12_best 125 pn qn v w μ) (if noPen a pn then (.inl 0, rfA a 0) else if noPen a qn then (.inl 0, rfA a 0) else if offB w 0 1 then (.inl 1, rfA a 1) else (.inr (sBest a v w pn.toNatClampNeg qn.toNatClampNeg), a)) := by
  unfold LX12_best mX12_best_27
  refine A_2pens (S := fun p p' => if offB w 0 1 then (.inl 1, rfA a 1) else (.inr (sBest a v w p p'), a)) r k (by decide) rfl fun p p' hp hp' hv hv' μ0 q => ?_
  subst hv
  subst hv'
  unfold mX12_best_51
  refine A_in (k := 1) q rfl (by decide) (by decide) rfl fun h => ?_
  obtain ⟨ν, e1, o1, b1⟩ := R_laysBest (v := v) q hp hp'
  rw [e1, ob]
  unfold sBest
  cases hb : bestA a p p' v with
  | none =>
    rw [hb] at b1
    rw [b1.1, b1.2]
    split <;> exact AskM.y q o1
  | some rr =>
    rw [hb] at b1
    obtain ⟨r1, r2⟩ := rr
    obtain ⟨c1, c2, -⟩ := b1
    rw [c1, c2]
    show AskM ixPV μ0 _ (.inr (if w = 0 then r2 else nI r1.length), a)
    split
    · exact AskM.y q o1
    · exact AskM.y q o1
