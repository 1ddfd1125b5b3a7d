/-! ===== the reference: WIRES, SHEETS; a whole CLAUSE ===== -/
theorem wire_c {x : Txt} {b : Nat} {most : Int32} : (∀ e, numF x most b = .inl e → wireF x most b = .inl e) ∧ ∀ u, numF x most b = .inr u → (∀ e, numF x most u.2 = .inl e → wireF x most b = .inl e) ∧ ∀ v, numF x most u.2 = .inr v → wireF x most b = if u.1 = v.1 then .inl (2, u.2) else .inr ((u.1, v.1), v.2) := by
  refine ⟨fun e he => ?_, fun u hu => ⟨fun e he => ?_, fun v hv => ?_⟩⟩
  · simp only [wireF, he]
  · simp only [wireF, hu, he]
  · simp only [wireF, hu, hv]
/-- a WIRE is stored, whatever was read -/
theorem R_219 {μ : Mem} {w : Nat} {u v : Int32} (s : RfS μ) (hw : w < 16) (h1 : g_I μ 128 1 = nI w) : mX12_clause_219 125 (nI 1) u v μ = mX12_clause_266 125 (nI 1) (p_I (p_I μ (149 + w) 0 u) (149 + w) 1 v) := by
  obtain ⟨a1, a2, a3, a4⟩ := s.t148.at (i := w) hw (by decide)
  have a2 : g_R μ 148 (nI w).toNatClampNeg = 149 + w := a2
  have a3 : 0 < 149 + w := by omega
  have h1' : g_I (p_I μ (149 + w) 0 u) 128 1 = nI w := by rw [gI_h (by omega)]; exact h1
  unfold mX12_clause_219
  rw [s.h15, if_pos q148, s.h11, if_pos q128, if_pos (show inA μ 128 15 (1 : Int32) = true from s.a128.ix (i := 1) (by decide) (by decide)), c0n, c1n, h1, if_pos a1, a2, if_pos a3, if_pos (show inA μ (149 + w) 15 (0 : Int32) = true from a4.ix (i := 0) (by decide) (by decide)), h1', if_pos a1, a2, if_pos a3, if_pos (show inA μ (149 + w) 15 (1 : Int32) = true from a4.ix (i := 1) (by decide) (by decide))]
  unfold mX12_clause_248
  rw [if_neg (show ¬ nI 1 = (2 : Int32) by decide)]
theorem R_clW {μ : Mem} {x : Txt} {b i : Nat} {l : HutL} (t : TmR μ x (.inr b)) (h8 : l.1.length ≤ 8) (h16 : l.2.1.length < 16) (h7 : g_I μ 125 7 = nI i) (hr : HrM μ l) : ∃ μ' : Mem, mX12_clause_157 125 (nI 1) μ = some ((), μ') ∧ OF cF cS μ μ' ∧ TmR μ' x (clW x l (wireF x (nI l.1.length - 1) b)).1 ∧ g_I μ' 125 7 = nI i ∧ ∀ a, (clW x l (wireF x (nI l.1.length - 1) b)).1 = .inr a → HrM μ' (clW x l (wireF x (nI l.1.length - 1) b)).2 := by
  have s := t.1.1
  obtain ⟨⟨hr1, hr2, hr3⟩, hr4, hr5⟩ := id hr
  have i0 : inA μ 128 15 (0 : Int32) = true := s.a128.ix (i := 0) (by decide) (by decide)
  unfold mX12_clause_157
  rw [if_pos (show nI 1 = (1 : Int32) from rfl), s.h11, if_pos q128, if_pos i0, c0n, hr1]
  generalize hm : nI l.1.length - 1 = most
  obtain ⟨m1, e1, o1, t1⟩ := R_number (most := most) t
  obtain ⟨m2, e2, o2, t2, g2⟩ := R_blanksC t1
  have s2 := t2.1.1
  have oo2 : OF tF nS μ m2 := o1.tr o2
  have f2 : g_I m2 128 0 = nI l.1.length := by rw [oo2.r (by decide) (fun z => z)]; exact hr1
  rw [e1, ob, e2, ob, s2.h11, if_pos q128, if_pos (show inA m2 128 15 (0 : Int32) = true from s2.a128.ix (i := 0) (by decide) (by decide)), f2, hm]
  obtain ⟨m3, e3, o3, t3⟩ := R_number (most := most) t2
  have oo3 : OF tF nS μ m3 := oo2.tr o3
  rw [e3, ob]
  obtain ⟨wc1, wc2⟩ := wire_c (x := x) (b := b) (most := most)
  -- what follows the two numbers
  have fin : ∀ (ν : Mem) (c : Cur) (u v : Int32), OF tF nS μ ν → TmR ν x c → ∃ μ' : Mem, mX12_clause_219 125 (nI 1) u v ν = some ((), μ') ∧ OF cF cS μ μ' ∧ TmR μ' x (needF x 59 c) ∧ g_I μ' 125 7 = nI i ∧ ((∀ a, needF x 59 c = .inr a → ∀ u' v' : Nat, u = nI u' → v = nI v' → HrM μ' (l.1, l.2.1 ++ [(u', v')], l.2.2))) := by
    intro ν c u v oν tν
    have v1 : ∀ y, y ≠ 125 → g_I ν y = g_I μ y := fun y hy => oν.r hy (fun z => z)
    have w1 : g_I ν 128 1 = nI l.2.1.length := by rw [v1 128 (by decide)]; exact hr2
    rw [R_219 tν.1.1 h16 w1]
    have inS : cS (149 + l.2.1.length) := Or.inr (Or.inr ⟨by omega, by omega⟩)
    have tS : TmR (p_I (p_I ν (149 + l.2.1.length) 0 u) (149 + l.2.1.length) 1 v) x c := (tν.S (by omega) (by omega)).S (by omega) (by omega)
    obtain ⟨μ', e4, o4, t4, g4⟩ := R_266 (k := 1) (n := l.2.1.length) (by decide) tS (by rw [gI_h (by omega), gI_h (by omega)]; exact w1)
    have o4' : OF cF cS (p_I (p_I ν (149 + l.2.1.length) 0 u) (149 + l.2.1.length) 1 v) μ' := o4.mo (fun k z => by have z : k = 4 ∨ k = 5 ∨ k = 6 := z; show k = 4 ∨ k = 5 ∨ k = 6 ∨ k = 7; omega) (fun _ z => Or.inl z)
    have oS : OF cF cS μ (p_I (p_I ν (149 + l.2.1.length) 0 u) (149 + l.2.1.length) 1 v) := ((t_c oν).pS inS (by omega)).pS inS (by omega)
    refine ⟨μ', e4, oS.tr o4', t4, ?_, fun a ha u' v' hu' hv' => ?_⟩
    · rw [o4.2 7 (by decide), gI_h (by omega), gI_h (by omega), oν.2 7 (by decide)]; exact h7
    · have g4 := g4 a ha
      have gof : ∀ y, y ≠ 125 → y ≠ 128 → y ≠ 149 + l.2.1.length → g_I μ' y = g_I μ y := fun y h1 h2 h3 => by
        rw [o4.r h1 h2, gI_rowo h3, gI_rowo h3, v1 y h1]
      have g128 : g_I (p_I (p_I ν (149 + l.2.1.length) 0 u) (149 + l.2.1.length) 1 v) 128 = g_I μ 128 := by rw [gI_rowo (by omega), gI_rowo (by omega), v1 128 (by decide)]
      refine ⟨⟨?_, ?_, ?_⟩, fun p hp => ?_, fun w hw => ?_⟩
      · rw [g4, ru_o (by decide), g128]; exact hr1
      · rw [g4, ru_s, if_pos (by decide)]
        show nI (l.2.1.length + 1) = nI (l.2.1 ++ [(u', v')]).length
        rw [len_snoc]
      · rw [g4, ru_o (by decide), g128]; exact hr3
      · have hp : p < l.1.length := hp
        rw [gof (131 + p) (by omega) (by omega) (by omega)]
        exact hr4 p hp
      · have hw : w < (l.2.1 ++ [(u', v')]).length := hw
        rw [len_snoc] at hw
        show g_I μ' (149 + w) 0 = nI ((l.2.1 ++ [(u', v')]).getD w (0, 0)).1 ∧ g_I μ' (149 + w) 1 = nI ((l.2.1 ++ [(u', v')]).getD w (0, 0)).2
        by_cases e : w = l.2.1.length
        · rw [e, getD_last3, o4.r (by omega) (by omega)]
          refine ⟨?_, ?_⟩
          · rw [gI_k (by decide), gI_s, hu']
          · rw [gI_s, hv']
        · rw [getD_app3 (show w < l.2.1.length by omega), gof (149 + w) (by omega) (by omega) (by omega)]
          exact hr5 w (by omega)
  have bad : ∀ e : Nat × Nat, wireF x most b = .inl e → TmR m3 x (.inl e) → ∃ μ' : Mem, (if g_I m3 125 5 = 0 then (if numV (numCur x most (.inr b)) = numV (numCur x most (numC (numCur x most (.inr b)))) then (obind (LX12_wrong 125 (2 : Int32) (g_I m2 125 4) m3) (fun (_ : Unit) (m : Mem) => mX12_clause_219 125 (nI 1) (numV (numCur x most (.inr b))) (numV (numCur x most (numC (numCur x most (.inr b))))) m)) else (mX12_clause_219 125 (nI 1) (numV (numCur x most (.inr b))) (numV (numCur x most (numC (numCur x most (.inr b))))) m3)) else (mX12_clause_219 125 (nI 1) (numV (numCur x most (.inr b))) (numV (numCur x most (numC (numCur x most (.inr b))))) m3)) = some ((), μ') ∧ OF cF cS μ μ' ∧ TmR μ' x (clW x l (wireF x most b)).1 ∧ g_I μ' 125 7 = nI i ∧ ∀ a, (clW x l (wireF x most b)).1 = .inr a → HrM μ' (clW x l (wireF x most b)).2 := by
    intro e he te
    obtain ⟨q1, q2⟩ := TmB.err te rfl
    rw [q1, if_neg q2, he]
    obtain ⟨μ', f1, f2, f3, f4, -⟩ := fin m3 _ (numV (numCur x most (.inr b))) (numV (numCur x most (numC (numCur x most (.inr b))))) oo3 te
    exact ⟨μ', f1, f2, f3, f4, fun a ha => nomatch ha⟩
  have nc1 : numCur x most (.inr b) = numF x most b := rfl
  cases h1 : numF x most b with
  | inl e =>
    refine bad e (wc1 e h1) ?_
    rw [nc1, h1] at t3
    exact t3
  | inr u =>
    obtain ⟨w1, w2⟩ := wc2 u h1
    have nc2 : numCur x most (numC (numCur x most (.inr b))) = numF x most u.2 := by rw [nc1, h1]; rfl
    cases h2 : numF x most u.2 with
    | inl e =>
      refine bad e (w1 e h2) ?_
      rw [nc2, h2] at t3
      exact t3
    | inr v =>
      have hw := w2 v h2
      rw [nc2, h2] at t3
      have t3 : TmR m3 x (.inr v.2) := t3
      have g2' : TmA m2 x u.2 := g2 u.2 (by rw [nc1, h1]; rfl)
      obtain ⟨b3, tb3, -⟩ := t3.2
      have nv : numV (numCur x most (.inr b)) = nI u.1 := by rw [nc1, h1]; rfl
      have nw : numV (numCur x most (numC (numCur x most (.inr b)))) = nI v.1 := by rw [nc2, h2]; rfl
      have hu9 := (numF_le (v := u.1) (b := u.2) h1).2
      have hv9 := (numF_le (v := v.1) (b := v.2) h2).2
      rw [nv, nw, tb3.2.1, if_pos rfl, g2'.2.2.2.1]
      by_cases e : u.1 = v.1
      · rw [if_pos (by rw [e])]
        rw [if_pos e] at hw
        rw [hw]
        obtain ⟨m4, e4, o4, t4⟩ := R_wrong (k := 2) (p := u.2) t3 (by decide) (by decide)
        have e4 : LX12_wrong 125 (2 : Int32) (nI u.2) m3 = some ((), m4) := e4
        have t4 : TmR m4 x (.inl (2, u.2)) := t4
        rw [e4, ob]
        obtain ⟨μ', f1, f2, f3, f4, -⟩ := fin m4 _ (nI u.1) (nI v.1) (oo3.tr o4) t4
        exact ⟨μ', f1, f2, f3, f4, fun a ha => nomatch ha⟩
      · rw [if_neg (fun z => e ((nI_eq (by omega) (by omega)).mp z))]
        rw [if_neg e] at hw
        rw [hw]
        obtain ⟨μ', f1, f2, f3, f4, f5⟩ := fin m3 _ (nI u.1) (nI v.1) oo3 t3
        exact ⟨μ', f1, f2, f3, f4, fun a ha => f5 a ha u.1 v.1 rfl rfl⟩
theorem R_clS {μ : Mem} {x : Txt} {b i : Nat} {l : HutL} (t : TmR μ x (.inr b)) (h8 : l.1.length ≤ 8) (h16 : l.2.1.length ≤ 16) (h7 : g_I μ 125 7 = nI i) (hr : HrM μ l) : ∃ μ' : Mem, mX12_clause_157 125 (nI 2) μ = some ((), μ') ∧ OF cF cS μ μ' ∧ TmR μ' x (clS x l (numF x 24 b)).1 ∧ g_I μ' 125 7 = nI i ∧ ∀ a, (clS x l (numF x 24 b)).1 = .inr a → HrM μ' (clS x l (numF x 24 b)).2 := by
  have s := t.1.1
  obtain ⟨⟨hr1, hr2, hr3⟩, hr4, hr5⟩ := id hr
  unfold mX12_clause_157 mX12_clause_248
  rw [if_neg (show ¬ nI 2 = (1 : Int32) by decide), if_pos (show nI 2 = (2 : Int32) from rfl), s.h11, if_pos q128]
  obtain ⟨m1, e1, o1, t1⟩ := R_number (most := 24) t
  have s1 := t1.1.1
  rw [e1, ob, if_pos (show inA m1 128 15 (2 : Int32) = true from s1.a128.ix (i := 2) (by decide) (by decide)), c2n]
  have t1 : TmR m1 x (numC (numF x 24 b)) := t1
  cases hv : numF x 24 b with
  | inl e =>
    rw [hv] at t1
    have t1 : TmR m1 x (.inl e) := t1
    have nv : numV (numCur x 24 (.inr b)) = nI 0 := by show numV (numF x 24 b) = _; rw [hv]; rfl
    rw [nv]
    obtain ⟨μ', e4, o4, t4, g4⟩ := R_266 (k := 2) (n := 0) (by decide) (t1.S (a := 128) (k := 2) (v := nI 0) (by decide) (by decide)) gI_s
    have o4' : OF cF cS (p_I m1 128 2 (nI 0)) μ' := o4.mo (fun k z => by have z : k = 4 ∨ k = 5 ∨ k = 6 := z; show k = 4 ∨ k = 5 ∨ k = 6 ∨ k = 7; omega) (fun _ z => Or.inl z)
    exact ⟨μ', e4, ((t_c o1).pS (Or.inl rfl) (by decide)).tr o4', t4, by rw [o4.2 7 (by decide), gI_h (by decide), o1.2 7 (by decide)]; exact h7, fun a ha => nomatch ha⟩
  | inr v =>
    rw [hv] at t1
    have t1 : TmR m1 x (.inr v.2) := t1
    have nv : numV (numCur x 24 (.inr b)) = nI v.1 := by show numV (numF x 24 b) = _; rw [hv]; rfl
    rw [nv]
    obtain ⟨μ', e4, o4, t4, g4⟩ := R_266 (k := 2) (n := v.1) (by decide) (t1.S (a := 128) (k := 2) (v := nI v.1) (by decide) (by decide)) gI_s
    have o4' : OF cF cS (p_I m1 128 2 (nI v.1)) μ' := o4.mo (fun k z => by have z : k = 4 ∨ k = 5 ∨ k = 6 := z; show k = 4 ∨ k = 5 ∨ k = 6 ∨ k = 7; omega) (fun _ z => Or.inl z)
    refine ⟨μ', e4, ((t_c o1).pS (Or.inl rfl) (by decide)).tr o4', t4, by rw [o4.2 7 (by decide), gI_h (by decide), o1.2 7 (by decide)]; exact h7, fun a ha => ?_⟩
    have g4 := g4 a ha
    have gof : ∀ y, y ≠ 125 → y ≠ 128 → g_I μ' y = g_I μ y := fun y h1 h2 => by rw [o4.r h1 h2, gI_rowo h2, o1.r h1 (fun z => z)]
    have g128 : ∀ k, k ≠ 2 → g_I μ' 128 k = g_I μ 128 k := fun k hk => by rw [g4, ru_o hk, gI_k hk, o1.r (by decide) (fun z => z)]
    refine ⟨⟨by rw [g128 0 (by decide)]; exact hr1, by rw [g128 1 (by decide)]; exact hr2, by rw [g4, ru_s, if_neg (by decide)]; rfl⟩, fun p hp => ?_, fun w hw => ?_⟩
    · have hp : p < l.1.length := hp
      rw [gof (131 + p) (by omega) (by omega)]; exact hr4 p hp
    · have hw : w < l.2.1.length := hw
      rw [gof (149 + w) (by omega) (by omega)]; exact hr5 w hw
/-- a CLAUSE -/
theorem R_clause {μ : Mem} {x : Txt} {a i : Nat} {l : HutL} (t : TmR μ x (.inr a)) (ha : a < x.2) (h8 : l.1.length ≤ 8) (h16 : l.2.1.length ≤ 16) (hi : i ≤ 60) (h7 : g_I μ 125 7 = nI i) (hr : HrM μ l) : ∃ μ' : Mem, LX12_clause 125 μ = some ((), μ') ∧ OF cF cS μ μ' ∧ TmR μ' x (clauseF x i a l).1 ∧ ∀ b, (clauseF x i a l).1 = .inr b → g_I μ' 125 7 = nI (i + 1) ∧ HrM μ' (clauseF x i a l).2 := by
  unfold LX12_clause
  rw [if_pos t.1.1.1]
  obtain ⟨m1, e1, o1, t1, g1⟩ := R_kindHere t
  have ta := g1 a rfl
  have s1 := t1.1.1
  have hr1 : HrM m1 l := hr.t h8 h16 o1
  have h71 : g_I m1 125 7 = nI i := by rw [o1.2 7 (by decide)]; exact h7
  obtain ⟨⟨y1, y2, y3⟩, y4, y5⟩ := id hr1
  rw [e1, ob, ta.2.2.2.1, show kindV x W0 (.inr a) = oneV (wordIx x a (ltE x a) W0 0) from rfl]
  have eC : clauseF x i a l = match wordO x a (ltE x a) (wordIx x a (ltE x a) W0 0) with
    | .inl e => (.inl e, l)
    | .inr k => clK x i a k.1 k.2 l := by
    unfold clauseF wordF
    rw [if_pos ha]
    cases wordO x a (ltE x a) (wordIx x a (ltE x a) W0 0) <;> rfl
  rw [eC]
  cases hk : wordIx x a (ltE x a) W0 0 with
  | none =>
    rw [if_pos (show oneV none = (-1 : Int32) from rfl)]
    obtain ⟨m2, e2, o2, t2⟩ := R_wrong (k := 1) (p := a) t1 (by decide) (by decide)
    have e2 : LX12_wrong 125 (1 : Int32) (nI a) m1 = some ((), m2) := e2
    have t2 : TmR m2 x (.inl (1, a)) := t2
    rw [e2, ob]
    unfold mX12_clause_71
    obtain ⟨q1, q2⟩ := TmB.err t2 rfl
    rw [q1, if_neg q2]
    exact ⟨m2, rfl, t_c (o1.tr o2), t2, fun b hb => nomatch hb⟩
  | some k =>
    have hk3 : k < 3 := by
      have := (wordIx_lt W0 0 k hk).2
      simpa [W0] using this
    have e0 : oneV (some k) = nI k := rfl
    rw [e0, if_neg (nI_nm1 (by omega)), h71]
    show ∃ μ' : Mem, _ = some ((), μ') ∧ OF cF cS μ μ' ∧ TmR μ' x (clK x i a k (sk x (ltE x a)) l).1 ∧ ∀ b, (clK x i a k (sk x (ltE x a)) l).1 = .inr b → g_I μ' 125 7 = nI (i + 1) ∧ HrM μ' (clK x i a k (sk x (ltE x a)) l).2
    -- too many
    have tooM : (60 ≤ i ∨ (k = 0 ∧ 8 ≤ l.1.length) ∨ (k = 1 ∧ 16 ≤ l.2.1.length)) → ∃ μ' : Mem, mX12_clause_62 125 (nI k) m1 = some ((), μ') ∧ OF cF cS μ μ' ∧ TmR μ' x (clK x i a k (sk x (ltE x a)) l).1 ∧ ∀ b, (clK x i a k (sk x (ltE x a)) l).1 = .inr b → g_I μ' 125 7 = nI (i + 1) ∧ HrM μ' (clK x i a k (sk x (ltE x a)) l).2 := by
      intro h
      unfold clK
      rw [if_pos h]
      unfold mX12_clause_62
      obtain ⟨m2, e2, o2, t2⟩ := R_wrong (k := 3) (p := a) t1 (by decide) (by decide)
      have e2 : LX12_wrong 125 (3 : Int32) (nI a) m1 = some ((), m2) := e2
      have t2 : TmR m2 x (.inl (3, a)) := t2
      rw [ta.2.2.2.1, e2, ob]
      unfold mX12_clause_71
      obtain ⟨q1, q2⟩ := TmB.err t2 rfl
      rw [q1, if_neg q2]
      exact ⟨m2, rfl, t_c (o1.tr o2), t2, fun b hb => nomatch hb⟩
    -- not too many
    have fine : ¬ (60 ≤ i ∨ (k = 0 ∧ 8 ≤ l.1.length) ∨ (k = 1 ∧ 16 ≤ l.2.1.length)) → ∃ μ' : Mem, mX12_clause_71 125 (nI k) m1 = some ((), μ') ∧ OF cF cS μ μ' ∧ TmR μ' x (clK x i a k (sk x (ltE x a)) l).1 ∧ ∀ b, (clK x i a k (sk x (ltE x a)) l).1 = .inr b → g_I μ' 125 7 = nI (i + 1) ∧ HrM μ' (clK x i a k (sk x (ltE x a)) l).2 := by
      intro h
      unfold clK
      rw [if_neg h]
      obtain ⟨m2, e2, o2, t2⟩ := R_skipWord ta
      have t2' := t2.r
      have h72 : g_I m2 125 7 = nI i := by rw [o2.2 7 (by decide)]; exact h71
      have hr2 : HrM m2 l := hr1.t h8 h16 o2
      have oo : OF cF cS μ m2 := t_c (o1.tr o2)
      unfold mX12_clause_71
      rw [ta.2.1, if_pos rfl, e2, ob]
      by_cases k0 : k = 0
      · subst k0
        rw [if_pos (show nI 0 = 0 from rfl), if_pos rfl]
        refine R_clP (T := fun o => ∃ μ' : Mem, o = some ((), μ') ∧ OF cF cS μ μ' ∧ TmR μ' x (clP x l (penF x (sk x (ltE x a)))).1 ∧ ∀ b, (clP x l (penF x (sk x (ltE x a)))).1 = .inr b → g_I μ' 125 7 = nI (i + 1) ∧ HrM μ' (clP x l (penF x (sk x (ltE x a)))).2) t2' (by omega) h16 h72 hr2 ?_
        rintro ν oν ⟨μ', f1, f2, f3, f4, f5⟩
        unfold mX12_clause_157 mX12_clause_248
        rw [if_neg (show ¬ nI 0 = (1 : Int32) by decide), if_neg (show ¬ nI 0 = (2 : Int32) by decide)]
        exact ⟨μ', f1, oo.tr f2, f3, fun b hb => ⟨f4, f5 b hb⟩⟩
      rw [if_neg (nI_ne0 (by omega) (by omega)), if_neg k0, h72, ← nI_succ]
      have o7 : OF (fun k => k = 7) nS m2 (p_I m2 125 7 (nI (i + 1))) := OF.rf.p0 rfl
      have t7 : TmR (p_I m2 125 7 (nI (i + 1))) x (.inr (sk x (ltE x a))) := t2'.o o7 (by decide) (fun z => z) (by decide) (by decide) (by decide)
      have o7' : OF cF cS m2 (p_I m2 125 7 (nI (i + 1))) := o7.mo (fun k z => Or.inr (Or.inr (Or.inr z))) (fun _ z => z.elim)
      have hr7 : HrM (p_I m2 125 7 (nI (i + 1))) l := hr2.t h8 h16 o7
      by_cases k1 : k = 1
      · subst k1
        rw [if_pos rfl]
        obtain ⟨μ', f1, f2, f3, f4, f5⟩ := R_clW t7 h8 (by omega) gI_s hr7
        exact ⟨μ', f1, (oo.tr o7').tr f2, f3, fun b hb => ⟨f4, f5 b hb⟩⟩
      · have k2 : k = 2 := by omega
        subst k2
        rw [if_neg k1]
        obtain ⟨μ', f1, f2, f3, f4, f5⟩ := R_clS t7 h8 h16 gI_s hr7
        exact ⟨μ', f1, (oo.tr o7').tr f2, f3, fun b hb => ⟨f4, f5 b hb⟩⟩
    by_cases h60 : i = 60
    · rw [if_pos (by rw [h60]; rfl)]
      exact tooM (Or.inl (by omega))
    rw [if_neg (show ¬ nI i = (60 : Int32) from fun z => h60 ((nI_eq (by omega) (by decide)).mp (show nI i = nI 60 from z)))]
    have i0 : inA m1 128 15 (0 : Int32) = true := s1.a128.ix (i := 0) (by decide) (by decide)
    have i1 : inA m1 128 15 (1 : Int32) = true := s1.a128.ix (i := 1) (by decide) (by decide)
    have e46 : mX12_clause_46 125 (nI k) m1 = if k = 1 then (if l.2.1.length = 16 then mX12_clause_62 125 (nI k) m1 else mX12_clause_71 125 (nI k) m1) else mX12_clause_71 125 (nI k) m1 := by
      unfold mX12_clause_46
      by_cases k1 : k = 1
      · rw [if_pos (by rw [k1]; rfl), if_pos k1, s1.h11, if_pos q128, if_pos i1, c1n, y2]
        by_cases h6 : l.2.1.length = 16
        · rw [if_pos (by rw [h6]; rfl), if_pos h6]
        · rw [if_neg (show ¬ nI l.2.1.length = (16 : Int32) from fun z => h6 ((nI_eq (by omega) (by decide)).mp (show nI l.2.1.length = nI 16 from z))), if_neg h6]
      · rw [if_neg (show ¬ nI k = (1 : Int32) from fun z => k1 ((nI_eq (by omega) (by decide)).mp (show nI k = nI 1 from z))), if_neg k1]
    by_cases k0 : k = 0
    · rw [if_pos (show nI k = 0 by rw [k0]; rfl), s1.h11, if_pos q128, if_pos i0, c0n, y1]
      by_cases h88 : l.1.length = 8
      · rw [if_pos (by rw [h88]; rfl)]
        exact tooM (Or.inr (Or.inl ⟨k0, by omega⟩))
      · rw [if_neg (show ¬ nI l.1.length = (8 : Int32) from fun z => h88 ((nI_eq (by omega) (by decide)).mp (show nI l.1.length = nI 8 from z))), e46, if_neg (show ¬ k = 1 by omega)]
        exact fine (by omega)
    · rw [if_neg (nI_ne0 (by omega) (by omega)), e46]
      by_cases k1 : k = 1
      · rw [if_pos k1]
        by_cases h6 : l.2.1.length = 16
        · rw [if_pos h6]; exact tooM (Or.inr (Or.inr ⟨k1, by omega⟩))
        · rw [if_neg h6]; exact fine (by omega)
      · rw [if_neg k1]; exact fine (by omega)
