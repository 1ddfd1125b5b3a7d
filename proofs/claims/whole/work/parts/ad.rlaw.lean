/-! ===== the reference reads a LAW: what one operand is ===== -/
abbrev lF : Nat → Prop := fun k => k = 4 ∨ k = 5 ∨ k = 6 ∨ k = 8 ∨ k = 18
abbrev lS : Nat → Prop := fun y => 344 ≤ y ∧ y < 504
theorem t_l {S : Nat → Prop} {μ ν : Mem} (o : OF tF nS μ ν) : OF lF S μ ν := o.mo (fun k z => by have z : k = 4 ∨ k = 5 ∨ k = 6 := z; show k = 4 ∨ k = 5 ∨ k = 6 ∨ k = 8 ∨ k = 18; omega) (fun _ z => z.elim)
def LrM (μ : Mem) (ops : OpsT) : Prop := g_I μ 125 18 = nI ops.length ∧ ∀ j q, ops[j]? = some q → g_I μ (344 + j) 0 = q.1 ∧ g_I μ (344 + j) 1 = q.2
theorem LrM.t {F : Nat → Prop} {μ ν : Mem} {ops : OpsT} (l : LrM μ ops) (o : OF F nS μ ν) (h : ¬ F 18) : LrM ν ops := ⟨by rw [o.2 18 h]; exact l.1, fun j q hq => by rw [o.r (by omega) (fun z => z)]; exact l.2 j q hq⟩
/-- what is read so far, o opened -/
def LwM (μ : Mem) (x : Txt) (o : Nat) (r : LwT) : Prop := TmR μ x r.1 ∧ ∀ b, r.1 = .inr b → g_I μ 125 8 = nI o ∧ LrM μ r.2 ∧ r.2.length ≤ b
theorem TmR.le {μ : Mem} {x : Txt} {b : Nat} (t : TmR μ x (.inr b)) : b ≤ x.2 := by
  obtain ⟨c, tc, hc⟩ := t.2
  rw [← hc]
  exact sk_le tc.2.2.2.2
theorem R_notes {μ : Mem} {x : Txt} {o : Nat} {c : Cur} {ops : OpsT} {w v : Int32} (hN : x.2 ≤ 150) (t : TmR μ x c) (h : ∀ b, c = .inr b → g_I μ 125 8 = nI o ∧ LrM μ ops ∧ ops.length + 1 ≤ b) : ∃ μ' : Mem, LX12_notes 125 w v μ = some ((), μ') ∧ OF lF lS μ μ' ∧ LwM μ' x o (c, ops ++ [(w, v)]) := by
  unfold LX12_notes
  rw [if_pos t.1.1.1]
  cases c with
  | inl e =>
    obtain ⟨q1, q2⟩ := TmB.err t rfl
    rw [q1, if_neg q2]
    exact ⟨μ, rfl, OF.rf, t, fun b hb => nomatch hb⟩
  | inr b =>
    obtain ⟨h8, ⟨l1, l2⟩, hl⟩ := h b rfl
    have hb := t.le
    obtain ⟨b0, tb, hb0⟩ := t.2
    have s := t.1.1
    obtain ⟨a1, a2, a3, a4⟩ := s.t343.at (i := ops.length) (by omega) (by decide)
    have a2 : g_R μ 343 (nI ops.length).toNatClampNeg = 344 + ops.length := a2
    have a3 : 0 < 344 + ops.length := by omega
    have a4 : ArS μ (344 + ops.length) 2 := a4
    have l1' : ∀ z : Int32, g_I (p_I μ (344 + ops.length) 0 z) 125 18 = nI ops.length := fun z => by rw [gI_h (by omega)]; exact l1
    have l1'' : ∀ z y : Int32, g_I (p_I (p_I μ (344 + ops.length) 0 z) (344 + ops.length) 1 y) 125 18 = nI ops.length := fun z y => by rw [gI_h (by omega), gI_h (by omega)]; exact l1
    rw [tb.2.1, if_pos rfl, s.h20, if_pos q343, l1, if_pos a1, a2, if_pos a3, if_pos (show inA μ (344 + ops.length) 15 (0 : Int32) = true from a4.ix (i := 0) (by decide) (by decide)), c0n, c1n, l1', if_pos a1, a2, if_pos a3, if_pos (show inA μ (344 + ops.length) 15 (1 : Int32) = true from a4.ix (i := 1) (by decide) (by decide)), l1'', ← nI_succ]
    have inS : lS (344 + ops.length) := ⟨by omega, by omega⟩
    have o1 : OF (fun k => k = 18) lS μ (p_I (p_I (p_I μ (344 + ops.length) 0 w) (344 + ops.length) 1 v) 125 18 (nI (ops.length + 1))) := (((OF.rf (F := fun k => k = 18) (S := lS)).pS inS (by omega)).pS inS (by omega)).p0 rfl
    refine ⟨_, rfl, o1.mo (fun k z => Or.inr (Or.inr (Or.inr (Or.inr z)))) (fun _ z => z), t.o o1 (by decide) (by decide) (by decide) (by decide) (by decide), fun b' hb' => ?_⟩
    cases hb'
    refine ⟨by rw [o1.2 8 (by decide)]; exact h8, ⟨by rw [gI_s]; show _ = nI (ops ++ [(w, v)]).length; rw [len_snoc], fun j q hq => ?_⟩, by show (ops ++ [(w, v)]).length ≤ b; rw [len_snoc]; exact hl⟩
    have hq : (ops ++ [(w, v)])[j]? = some q := hq
    have hj : j < (ops ++ [(w, v)]).length := (List.getElem?_eq_some_iff.mp hq).1
    rw [len_snoc] at hj
    by_cases e : j = ops.length
    · rw [e, List.getElem?_append_right (Nat.le_refl _), Nat.sub_self] at hq
      have hq : (w, v) = q := Option.some.inj hq
      rw [e, ← hq]
      refine ⟨?_, ?_⟩
      · rw [gI_h (show 344 + ops.length ≠ 125 by omega), gI_k (by decide), gI_s]
      · rw [gI_h (show 344 + ops.length ≠ 125 by omega), gI_s]
    · rw [List.getElem?_append_left (by omega)] at hq
      rw [gI_h (by omega), gI_h (by omega), gI_h (by omega), gI_h (by omega), gI_h (by omega), gI_h (by omega)]
      exact l2 j q hq
theorem R_opens {μ : Mem} {x : Txt} {a o : Nat} (t : TmA μ x a) (h8 : g_I μ 125 8 = nI o) (ho : o ≤ 6) : (o = 6 → ∃ μ' : Mem, LX12_opensOne 125 μ = some (0, μ') ∧ OF tF nS μ μ' ∧ TmR μ' x (.inl (3, a))) ∧ (o < 6 → LX12_opensOne 125 μ = some (1, p_I μ 125 8 (nI (o + 1)))) := by
  refine ⟨fun e => ?_, fun e => ?_⟩
  · unfold LX12_opensOne
    obtain ⟨μ', e1, o1, t1⟩ := R_wrong (k := 3) (p := a) t.r (by decide) (by decide)
    have e1 : LX12_wrong 125 (3 : Int32) (nI a) μ = some ((), μ') := e1
    have t1 : TmR μ' x (.inl (3, a)) := t1
    obtain ⟨q1, q2⟩ := TmB.err t1 rfl
    rw [if_pos t.1.1.1, t.2.1, if_pos rfl, h8, if_pos (show nI o = (6 : Int32) by rw [e]; rfl), t.2.2.2.1, e1, ob]
    unfold mX12_opensOne_45
    rw [q1, if_neg q2]
    exact ⟨μ', rfl, o1, t1⟩
  · unfold LX12_opensOne mX12_opensOne_28 mX12_opensOne_45
    rw [if_pos t.1.1.1, t.2.1, if_pos rfl, h8, if_neg (show ¬ nI o = (6 : Int32) from fun z => by have := (nI_eq (by omega) (by decide)).mp (show nI o = nI 6 from z); omega), if_pos rfl, gI_k (show (5 : Nat) ≠ 8 by decide), t.2.1, if_pos rfl, ← nI_succ]
/-- one word only stands there -/
theorem isW_inj {x : Txt} {a e : Nat} {w w' : List Nat} (h : isW x a e w) (h' : isW x a e w') : w = w' := by
  obtain ⟨h1, h2⟩ := h
  obtain ⟨h3, h4⟩ := h'
  refine List.ext_getElem (by omega) fun i hi hi' => ?_
  have e1 := h2 i hi
  have e2 := h4 i hi'
  rw [e1] at e2
  rw [List.getD_eq_getElem?_getD, List.getElem?_eq_getElem hi, List.getD_eq_getElem?_getD, List.getElem?_eq_getElem hi'] at e2
  exact e2
theorem isW_ne {x : Txt} {a e : Nat} {w w' : List Nat} (h : isW x a e w) (hn : w ≠ w') : ¬ isW x a e w' := fun z => hn (isW_inj h z)
theorem isW_let {x : Txt} {a e : Nat} {w : List Nat} (h : isW x a e w) (h0 : 0 < w.length) (hl : letT (w.getD 0 0)) : letT (chT x a) := by
  have := h.2 0 h0
  rw [Nat.add_zero] at this
  rw [this]; exact hl
theorem R_takes {x : Txt} {a : Nat} {w : List Nat} {d1 d2 d3 d4 d5 d6 : Int32} {μ : Mem} (hs : SixW d1 d2 d3 d4 d5 d6 w) (t : TmA μ x a) (h0 : sk x a = a) : (¬ isW x a (ltE x a) w → LX12_takes 125 d1 d2 d3 d4 d5 d6 μ = some (0, μ)) ∧ (isW x a (ltE x a) w → ∃ μ' : Mem, LX12_takes 125 d1 d2 d3 d4 d5 d6 μ = some (1, μ') ∧ OF tF nS μ μ' ∧ TmA μ' x (ltE x a)) := by
  unfold LX12_takes
  rw [if_pos t.1.1.1, R_isWord0 hs t h0, ob]
  refine ⟨fun h => ?_, fun h => ?_⟩
  · rw [if_neg h, if_pos rfl, if_pos (Or.inl rfl)]
  · obtain ⟨μ', e1, o1, t1⟩ := R_skipWord t
    rw [if_pos h, if_neg (by decide), e1, ob, if_pos (Or.inr rfl)]
    exact ⟨μ', rfl, o1, t1⟩
theorem wdIn : WdS [105, 110] := by unfold WdS; decide
theorem R_takesTwo {x : Txt} {a : Nat} {μ : Mem} (t : TmA μ x a) (h0 : sk x a = a) : (¬ isW x a (ltE x a) [105, 110] → LX12_takesTwo 125 9 14 μ = some (0, μ)) ∧ (isW x a (ltE x a) [105, 110] → ∃ μ' : Mem, LX12_takesTwo 125 9 14 μ = some (1, μ') ∧ OF tF nS μ μ' ∧ TmA μ' x (ltE x a)) := by
  obtain ⟨μ1, e1, o1, t1, e0⟩ := R_wordHere t
  have e0 := e0 h0
  subst e0
  rw [h0] at e1
  have hv : ((27 : Int32) * 9) + 14 = nI (vg (fun i => [105, 110].getD i 0) [105, 110].length) := by rfl
  unfold LX12_takesTwo mX12_takesTwo_25
  rw [if_pos t.1.1.1, t.2.1, if_pos rfl, e1, ob, hv]
  refine ⟨fun h => ?_, fun h => ?_⟩
  · rw [if_neg (fun z => h ((wdV_eq wdIn).mp z)), if_pos rfl, if_pos (Or.inl rfl)]
  · obtain ⟨μ', e2, o2, t2⟩ := R_skipWord t
    rw [if_pos ((wdV_eq wdIn).mpr h), if_neg (by decide), e2, ob, if_pos (Or.inr rfl)]
    exact ⟨μ', rfl, o2, t2⟩
def W8 : List (List Nat) := [[105, 110], [111, 117, 116], [108, 111, 115, 115], [109, 97, 110, 121], [100, 97, 121], [112, 101, 110], [109, 117, 108], [100, 105, 118]]
theorem R_known {x : Txt} {a : Nat} {μ : Mem} (t : TmA μ x a) (h0 : sk x a = a) : ∃ μ' : Mem, LX12_knownHere 125 μ = some (oneV (wordIx x a (ltE x a) W8 0), μ') ∧ OF tF nS μ μ' ∧ (wordIx x a (ltE x a) W8 0 = none → μ' = μ) ∧ ((wordIx x a (ltE x a) W8 0).isSome = true → TmA μ' x (ltE x a)) := by
  have eW : wordIx x a (ltE x a) W8 0 = if isW x a (ltE x a) [105, 110] then some 0 else if isW x a (ltE x a) [111, 117, 116] then some 1 else if isW x a (ltE x a) [108, 111, 115, 115] then some 2 else if isW x a (ltE x a) [109, 97, 110, 121] then some 3 else if isW x a (ltE x a) [100, 97, 121] then some 4 else if isW x a (ltE x a) [112, 101, 110] then some 5 else if isW x a (ltE x a) [109, 117, 108] then some 6 else if isW x a (ltE x a) [100, 105, 118] then some 7 else none := rfl
  rw [eW]
  unfold LX12_knownHere
  rw [if_pos t.1.1.1]
  have yes : ∀ (k : Nat) (μ' : Mem), OF tF nS μ μ' → TmA μ' x (ltE x a) → ∃ μ'' : Mem, some (nI k, μ') = some (oneV (some k), μ'') ∧ OF tF nS μ μ'' ∧ ((some k : Option Nat) = none → μ'' = μ) ∧ ((some k : Option Nat).isSome = true → TmA μ'' x (ltE x a)) := fun k μ' o tt => ⟨μ', rfl, o, (fun z => nomatch z), fun _ => tt⟩
  by_cases g0 : isW x a (ltE x a) [105, 110]
  · obtain ⟨m, e, o, tt⟩ := (R_takesTwo t h0).2 g0
    rw [e, ob, if_neg (by decide), if_pos g0]
    exact yes 0 m o tt
  rw [(R_takesTwo t h0).1 g0, ob, if_pos rfl, if_neg g0]
  by_cases g1 : isW x a (ltE x a) [111, 117, 116]
  · obtain ⟨m, e, o, tt⟩ := (R_takes sixOut t h0).2 g1
    rw [e, ob, if_neg (by decide), if_pos g1]
    exact yes 1 m o tt
  rw [(R_takes sixOut t h0).1 g1, ob, if_pos rfl, if_neg g1]
  by_cases g2 : isW x a (ltE x a) [108, 111, 115, 115]
  · obtain ⟨m, e, o, tt⟩ := (R_takes sixLoss t h0).2 g2
    rw [e, ob, if_neg (by decide), if_pos g2]
    exact yes 2 m o tt
  rw [(R_takes sixLoss t h0).1 g2, ob, if_pos rfl, if_neg g2]
  by_cases g3 : isW x a (ltE x a) [109, 97, 110, 121]
  · obtain ⟨m, e, o, tt⟩ := (R_takes sixMany t h0).2 g3
    rw [e, ob, if_neg (by decide), if_pos g3]
    exact yes 3 m o tt
  rw [(R_takes sixMany t h0).1 g3, ob, if_pos rfl, if_neg g3]
  by_cases g4 : isW x a (ltE x a) [100, 97, 121]
  · obtain ⟨m, e, o, tt⟩ := (R_takes sixDay t h0).2 g4
    rw [e, ob, if_neg (by decide), if_pos g4]
    exact yes 4 m o tt
  rw [(R_takes sixDay t h0).1 g4, ob, if_pos rfl, if_neg g4]
  by_cases g5 : isW x a (ltE x a) [112, 101, 110]
  · obtain ⟨m, e, o, tt⟩ := (R_takes sixP t h0).2 g5
    rw [e, ob, if_neg (by decide), if_pos g5]
    exact yes 5 m o tt
  rw [(R_takes sixP t h0).1 g5, ob, if_pos rfl, if_neg g5]
  by_cases g6 : isW x a (ltE x a) [109, 117, 108]
  · obtain ⟨m, e, o, tt⟩ := (R_takes sixMul t h0).2 g6
    rw [e, ob, if_neg (by decide), if_pos g6]
    exact yes 6 m o tt
  rw [(R_takes sixMul t h0).1 g6, ob, if_pos rfl, if_neg g6]
  by_cases g7 : isW x a (ltE x a) [100, 105, 118]
  · obtain ⟨m, e, o, tt⟩ := (R_takes sixDiv t h0).2 g7
    rw [e, ob, if_neg (by decide), if_pos g7]
    exact yes 7 m o tt
  rw [(R_takes sixDiv t h0).1 g7, ob, if_pos rfl, if_neg g7]
  exact ⟨μ, rfl, OF.rf, fun _ => rfl, fun z => nomatch z⟩
/-- what W1 says, by W8 and the two of pairs -/
theorem W1_least {x : Txt} {a : Nat} (h : isW x a (ltE x a) [108, 101, 97, 115, 116]) : wordIx x a (ltE x a) W1 0 = some 8 := by
  show (if isW x a (ltE x a) [105, 110] then some 0 else if isW x a (ltE x a) [111, 117, 116] then some 1 else if isW x a (ltE x a) [108, 111, 115, 115] then some 2 else if isW x a (ltE x a) [109, 97, 110, 121] then some 3 else if isW x a (ltE x a) [100, 97, 121] then some 4 else if isW x a (ltE x a) [112, 101, 110] then some 5 else if isW x a (ltE x a) [109, 117, 108] then some 6 else if isW x a (ltE x a) [100, 105, 118] then some 7 else if isW x a (ltE x a) [108, 101, 97, 115, 116] then some 8 else if isW x a (ltE x a) [109, 111, 115, 116] then some 9 else none) = some 8
  rw [if_neg (isW_ne h (by decide)), if_neg (isW_ne h (by decide)), if_neg (isW_ne h (by decide)), if_neg (isW_ne h (by decide)), if_neg (isW_ne h (by decide)), if_neg (isW_ne h (by decide)), if_neg (isW_ne h (by decide)), if_neg (isW_ne h (by decide)), if_pos h]
theorem W1_most {x : Txt} {a : Nat} (h : isW x a (ltE x a) [109, 111, 115, 116]) : wordIx x a (ltE x a) W1 0 = some 9 := by
  show (if isW x a (ltE x a) [105, 110] then some 0 else if isW x a (ltE x a) [111, 117, 116] then some 1 else if isW x a (ltE x a) [108, 111, 115, 115] then some 2 else if isW x a (ltE x a) [109, 97, 110, 121] then some 3 else if isW x a (ltE x a) [100, 97, 121] then some 4 else if isW x a (ltE x a) [112, 101, 110] then some 5 else if isW x a (ltE x a) [109, 117, 108] then some 6 else if isW x a (ltE x a) [100, 105, 118] then some 7 else if isW x a (ltE x a) [108, 101, 97, 115, 116] then some 8 else if isW x a (ltE x a) [109, 111, 115, 116] then some 9 else none) = some 9
  rw [if_neg (isW_ne h (by decide)), if_neg (isW_ne h (by decide)), if_neg (isW_ne h (by decide)), if_neg (isW_ne h (by decide)), if_neg (isW_ne h (by decide)), if_neg (isW_ne h (by decide)), if_neg (isW_ne h (by decide)), if_neg (isW_ne h (by decide)), if_neg (isW_ne h (by decide)), if_pos h]
theorem W1_8 {x : Txt} {a : Nat} (h1 : ¬ isW x a (ltE x a) [108, 101, 97, 115, 116]) (h2 : ¬ isW x a (ltE x a) [109, 111, 115, 116]) : wordIx x a (ltE x a) W1 0 = wordIx x a (ltE x a) W8 0 := by
  show (if isW x a (ltE x a) [105, 110] then some 0 else if isW x a (ltE x a) [111, 117, 116] then some 1 else if isW x a (ltE x a) [108, 111, 115, 115] then some 2 else if isW x a (ltE x a) [109, 97, 110, 121] then some 3 else if isW x a (ltE x a) [100, 97, 121] then some 4 else if isW x a (ltE x a) [112, 101, 110] then some 5 else if isW x a (ltE x a) [109, 117, 108] then some 6 else if isW x a (ltE x a) [100, 105, 118] then some 7 else if isW x a (ltE x a) [108, 101, 97, 115, 116] then some 8 else if isW x a (ltE x a) [109, 111, 115, 116] then some 9 else none) = (if isW x a (ltE x a) [105, 110] then some 0 else if isW x a (ltE x a) [111, 117, 116] then some 1 else if isW x a (ltE x a) [108, 111, 115, 115] then some 2 else if isW x a (ltE x a) [109, 97, 110, 121] then some 3 else if isW x a (ltE x a) [100, 97, 121] then some 4 else if isW x a (ltE x a) [112, 101, 110] then some 5 else if isW x a (ltE x a) [109, 117, 108] then some 6 else if isW x a (ltE x a) [100, 105, 118] then some 7 else none)
  rw [if_neg h1, if_neg h2]
/-- where a word stands, a letter does -/
theorem wordIx_let {x : Txt} {a : Nat} {k : Nat} (h : wordIx x a (ltE x a) W1 0 = some k) : letT (chT x a) ∧ a < x.2 := by
  have key : ∀ (ws : List (List Nat)) (i : Nat), (∀ w, w ∈ ws → 0 < w.length ∧ letT (w.getD 0 0)) → wordIx x a (ltE x a) ws i = some k → letT (chT x a) := by
    intro ws
    induction ws with
    | nil => intro i _ z; exact nomatch z
    | cons w r ih =>
      intro i hw z
      have z : (if isW x a (ltE x a) w then some i else wordIx x a (ltE x a) r (i + 1)) = some k := z
      by_cases e : isW x a (ltE x a) w
      · exact isW_let e (hw w List.mem_cons_self).1 (hw w List.mem_cons_self).2
      · rw [if_neg e] at z
        exact ih (i + 1) (fun w hw' => hw w (List.mem_cons_of_mem _ hw')) z
  have hl := key W1 0 (by decide) h
  refine ⟨hl, Classical.byContradiction fun z => ?_⟩
  rw [chT_end z] at hl
  exact absurd hl (by decide)
