/-! ===== the reference is told a text: its gate, its FAULT; a CHAIN, a BOOK ===== -/
theorem R_text {μ : Mem} {a : ClT} {v most : Int32} {m : Nat} {K : Mem → Option (Int32 × Mem)} {S : Nat → (Nat ⊕ Int32) × ClT} (r : RfR μ a) (k : ClK a) (hm : most = nI m) (hm6 : m ≤ 600) (hK : ∀ n, v = nI n → n ≤ m → ∀ μ0, RfR μ0 a → g_I μ0 125 0 = 0 → AskM (fun _ => 1) μ0 (K μ0) (S n)) :
    AskM (fun _ => 1) μ (if isK μ 125 12 = true then (obind (LX12_in v (0 : Int32) (g_I (p_I μ 125 0 (0 : Int32)) 125 1) (p_I μ 125 0 (0 : Int32))) (fun (r1 : Int32) (m2 : Mem) => if r1 = 0 then (if isK m2 125 12 = true then (obind (LX12_bad 125 1 (1 : Int32) (1 : Int32) m2) (fun (r7 : Int32) (m8 : Mem) => if r7 = 0 then K m8 else (some ((0 : Int32), m8)))) else none) else (if v ≤ most then (if isK m2 125 12 = true then (obind (LX12_bad 125 0 (1 : Int32) (1 : Int32) m2) (fun (r7 : Int32) (m8 : Mem) => if r7 = 0 then K m8 else (some ((0 : Int32), m8)))) else none) else (if isK m2 125 12 = true then (obind (LX12_bad 125 1 (1 : Int32) (1 : Int32) m2) (fun (r7 : Int32) (m8 : Mem) => if r7 = 0 then K m8 else (some ((0 : Int32), m8)))) else none)))) else none) (if v < 0 ∨ ¬ v ≤ (if nI a.2.1 < most then nI a.2.1 else most) then (.inl 1, rfA a 1) else S v.toNatClampNeg) := by
  have ho := RfR.hu k
  obtain ⟨r0, m0⟩ := r.b ho
  refine AskM.tr m0 ?_
  obtain ⟨μ0, h0⟩ : ∃ μ0, μ0 = p_I μ 125 0 0 := ⟨_, rfl⟩
  rw [← h0] at r0
  have z0 : g_I μ0 125 0 = 0 := by rw [h0, gI_s]
  rw [if_pos r.1.1, ← h0, R_gate r0, ob]
  obtain ⟨b0, b1⟩ := R_bad (w := 1) (k := 1) r0.1 (by decide) z0 (by decide)
  have b0 : LX12_bad 125 0 (1 : Int32) (1 : Int32) μ0 = some (0, μ0) := b0
  have b1 : LX12_bad 125 1 (1 : Int32) (1 : Int32) μ0 = some (1, p_I (p_I μ0 125 0 1) 127 1 (g_I μ0 127 1 + 1)) := b1
  have gate := txt_gate (v := v) (most := most) (m := m) hm hm6 r.2.2.1.2
  rw [if_pos r0.1.1, if_pos r0.1.1, b1, b0, ob, ob, if_neg (show ¬ (1 : Int32) = 0 by decide), if_pos (show (0 : Int32) = 0 from rfl)]
  have no : (v < 0 ∨ nI a.2.1 < v ∨ ¬ v ≤ most) → AskM (fun _ => 1) μ0 (some ((0 : Int32), p_I (p_I μ0 125 0 1) 127 1 (g_I μ0 127 1 + 1))) (if v < 0 ∨ ¬ v ≤ (if nI a.2.1 < most then nI a.2.1 else most) then (.inl 1, rfA a 1) else S v.toNatClampNeg) := by
    intro z
    rw [if_pos (gate.mpr z)]
    exact AskM.no (ix := fun _ => 1) (k := 1) r0 ho (by decide)
  by_cases h1 : v < 0
  · rw [if_pos h1, if_pos rfl]; exact no (Or.inl h1)
  rw [if_neg h1]
  by_cases h2 : nI a.2.1 < v
  · rw [if_pos h2, if_pos rfl]; exact no (Or.inr (Or.inl h2))
  rw [if_neg h2, if_neg (show ¬ (1 : Int32) = 0 by decide)]
  by_cases h3 : v ≤ most
  · rw [if_pos h3]
    have ok : ¬ (v < 0 ∨ nI a.2.1 < v ∨ ¬ v ≤ most) := fun z => z.elim h1 fun y => y.elim h2 fun w => w h3
    rw [if_neg (fun z => ok (gate.mp z))]
    obtain ⟨n, hn, -, hv⟩ := txt_n (m := m) hm6 r.2.2.1.2 (by rw [← hm]; exact ok)
    have := hK n hv hn μ0 r0 z0
    rw [hv, nI_clamp (show n < 2147483648 by omega)]
    exact this
  · rw [if_neg h3]
    exact no (Or.inr (Or.inr h3))
/-- the fields that a text's reading writes -/
abbrev xF : Nat → Prop := fun k => k = 1 ∨ k = 2 ∨ k = 3 ∨ k = 4 ∨ k = 5 ∨ k = 6 ∨ k = 7 ∨ k = 8 ∨ k = 18 ∨ k = 28
theorem s_x {S : Nat → Prop} {μ ν : Mem} (o : OF sF nS μ ν) : OF xF S μ ν := o.mo (fun k z => by have z : k = 1 ∨ k = 2 ∨ k = 4 ∨ k = 5 ∨ k = 6 ∨ k = 7 ∨ k = 8 := z; show k = 1 ∨ k = 2 ∨ k = 3 ∨ k = 4 ∨ k = 5 ∨ k = 6 ∨ k = 7 ∨ k = 8 ∨ k = 18 ∨ k = 28; omega) (fun _ z => z.elim)
theorem t_x {S : Nat → Prop} {μ ν : Mem} (o : OF tF nS μ ν) : OF xF S μ ν := o.mo (fun k z => by have z : k = 4 ∨ k = 5 ∨ k = 6 := z; show k = 1 ∨ k = 2 ∨ k = 3 ∨ k = 4 ∨ k = 5 ∨ k = 6 ∨ k = 7 ∨ k = 8 ∨ k = 18 ∨ k = 28; omega) (fun _ z => z.elim)
theorem xF_fr {k : Nat} (h : xF k) : frF k := by
  have h : k = 1 ∨ k = 2 ∨ k = 3 ∨ k = 4 ∨ k = 5 ∨ k = 6 ∨ k = 7 ∨ k = 8 ∨ k = 18 ∨ k = 28 := h
  unfold frF
  omega
theorem R_fail {S : Nat → Prop} {μ0 ν : Mem} {a : ClT} {x : Txt} {e : Nat × Nat} (r0 : RfR μ0 a) (ho : HutOk (hutT a.2.2.2.1)) (o : OF xF S μ0 ν) (hS : ∀ y, S y → frS y ∧ 125 ≤ y ∧ y < 629) (t : TmR ν x (.inl e)) (h1 : g_I ν 125 1 = nI 0) (h0 : g_I ν 125 0 = 0) : AskM (fun _ => 1) μ0 (obind (LX12_ends 125 ν) (fun (r : Int32) (m : Mem) => some (r, m))) (.inr (nI e.1 - 10), txtA a (nI e.2)) := by
  rw [R_ends t, ob]
  have o4 : OF xF S μ0 (p_I ν 125 3 (nI e.2)) := o.p0 (Or.inr (Or.inr (Or.inl rfl)))
  exact ⟨_, _, rfl, ⟨by rw [gI_k (by decide)]; exact h0, rfl⟩, r0.txt ho o4 (fun k hk => xF_fr hk) (fun y hy => (hS y hy).1) (by rw [gI_k (by decide)]; exact h1) (Nat.zero_le _) gI_s, o4.mf fun y hy => (hS y hy).2⟩
theorem R_penHere {μ : Mem} {x : Txt} {c : Cur} {np : Nat} (t : TmR μ x c) (h : g_I μ 129 0 = nI np) : ∃ μ' : Mem, LX12_penHere 125 μ = some (numV (numCur x (nI np - 1) c), μ') ∧ OF tF nS μ μ' ∧ TmR μ' x (numC (numCur x (nI np - 1) c)) := by
  have s := t.1.1
  obtain ⟨μ', e1, o1, t1⟩ := R_number (most := nI np - 1) t
  unfold LX12_penHere
  rw [if_pos s.1, s.h12, if_pos q129, if_pos (show inA μ 129 15 (0 : Int32) = true from s.a129.ix (i := 0) (by decide) (by decide)), c0n, h, e1, ob]
  exact ⟨μ', rfl, o1, t1⟩
/-- the CHAIN, PEN by PEN -/
theorem R_chainL {x : Txt} {np : Nat} : ∀ (f fu : Nat) (c : Cur) (l : List Nat) (μ : Mem), f < fu → TmR μ x c → g_I μ 129 0 = nI np → (∀ a, c = .inr a → TmA μ x a ∧ f + l.length = 13 ∧ l.length ≤ 12 ∧ ∀ i, i < l.length → g_I μ 521 i = nI (l.getD i 0)) → ∃ (ν : Mem) (z : Int32), mX12_chain_46 fu 125 (nI l.length) μ = mX12_chain_129 125 z ν ∧ OF tF (fun y => y = 521) μ ν ∧ TmR ν x (chainF x (nI np - 1) f c l).1 ∧ ∀ b, (chainF x (nI np - 1) f c l).1 = .inr b → z = nI (chainF x (nI np - 1) f c l).2.length ∧ (chainF x (nI np - 1) f c l).2.length ≤ 12 ∧ ∀ i, i < (chainF x (nI np - 1) f c l).2.length → g_I ν 521 i = nI ((chainF x (nI np - 1) f c l).2.getD i 0) := by
  intro f
  induction f with
  | zero =>
    intro fu c l μ hf t hn h
    obtain ⟨fu, rfl⟩ : ∃ q, fu = q + 1 := ⟨fu - 1, by omega⟩
    cases c with
    | inl e =>
      obtain ⟨q1, q2⟩ := TmB.err t rfl
      rw [mX12_chain_46, q1, if_neg q2]
      exact ⟨μ, _, rfl, OF.rf, t, fun b hb => nomatch hb⟩
    | inr a =>
      obtain ⟨-, h1, h2, -⟩ := h a rfl
      omega
  | succ f ih =>
    intro fu c l μ hf t hn h
    obtain ⟨fu, rfl⟩ : ∃ q, fu = q + 1 := ⟨fu - 1, by omega⟩
    cases c with
    | inl e =>
      obtain ⟨q1, q2⟩ := TmB.err t rfl
      rw [mX12_chain_46, q1, if_neg q2]
      exact ⟨μ, _, rfl, OF.rf, t, fun b hb => nomatch hb⟩
    | inr a =>
      obtain ⟨ta, hfl, hl, hr⟩ := h a rfl
      have hx := t.1.2.2.1
      have eF : chainF x (nI np - 1) (f + 1) (.inr a) l = if a < x.2 then (match numF x (nI np - 1) a with
        | .inl e => (.inl e, l)
        | .inr v => if l.length < 12 then chainF x (nI np - 1) f (needF x 59 (.inr v.2)) (l ++ [v.1]) else (.inl (3, a), l)) else (.inr a, l) := rfl
      rw [mX12_chain_46, ta.2.1, if_pos rfl, ta.1.2.1, ta.2.2.2.1, eF]
      by_cases ha : a < x.2
      · rw [if_neg (nI_ge ha (by omega)), if_pos ha]
        obtain ⟨m2, e2, o2, t2, g2⟩ := R_blanksC t
        have ta2 := g2 a rfl
        have hn2 : g_I m2 129 0 = nI np := by rw [o2.r (by decide) (fun z => z)]; exact hn
        obtain ⟨m3, e3, o3, t3⟩ := R_penHere t2 hn2
        rw [e2, ob, e3, ob, ta2.2.2.2.1]
        have o23 : OF tF nS μ m3 := o2.tr o3
        have v521 : ∀ ν, OF tF nS μ ν → g_I ν 521 = g_I μ 521 := fun ν o => o.r (by decide) (fun z => z)
        have v129 : ∀ ν, OF tF nS μ ν → g_I ν 129 = g_I μ 129 := fun ν o => o.r (by decide) (fun z => z)
        -- behind a FAULT
        have bad : ∀ (ν : Mem) (e : Nat × Nat) (u : Int32), OF tF nS μ ν → TmR ν x (.inl e) → ∃ (ν' : Mem) (z : Int32), mX12_chain_98 (fun l0 l2 μ => mX12_chain_46 fu l0 l2 μ) 125 (nI l.length) u ν = mX12_chain_129 125 z ν' ∧ OF tF (fun y => y = 521) μ ν' ∧ TmR ν' x (.inl e) := by
          intro ν e u oν tν
          obtain ⟨m4, e4, o4, t4⟩ := R_sign (k := 59) tν (by decide)
          have e4 : LX12_sign 125 (59 : Int32) ν = some ((), m4) := e4
          have t4 : TmR m4 x (.inl e) := t4
          obtain ⟨q1, q2⟩ := TmB.err t4 rfl
          obtain ⟨m5, e5, o5, t5, -⟩ := R_blanksC t4
          obtain ⟨y1, y2⟩ := TmB.err t5 rfl
          obtain ⟨fu, rfl⟩ : ∃ q, fu = q + 1 := ⟨fu - 1, by omega⟩
          unfold mX12_chain_98 mX12_chain_122
          rw [e4, ob, q1, if_neg q2, e5, ob]
          refine ⟨m5, nI l.length, ?_, ((oν.tr o4).tr o5).mo (fun _ z => z) (fun _ z => z.elim), t5⟩
          show mX12_chain_46 (fu + 1) 125 (nI l.length) m5 = _
          rw [mX12_chain_46, y1, if_neg y2]
        have nc : numCur x (nI np - 1) (.inr a) = numF x (nI np - 1) a := rfl
        rw [nc] at t3 ⊢
        cases hv : numF x (nI np - 1) a with
        | inl e =>
          rw [hv] at t3
          obtain ⟨q1, q2⟩ := TmB.err (show TmR m3 x (.inl e) from t3) rfl
          rw [q1, if_neg q2]
          obtain ⟨ν', z, f1, f2, f3⟩ := bad m3 e (numV (.inl e)) o23 t3
          exact ⟨ν', z, f1, f2, f3, fun b hb => nomatch hb⟩
        | inr v =>
          rw [hv] at t3
          have t3 : TmR m3 x (.inr v.2) := t3
          obtain ⟨b3, tb3, -⟩ := t3.2
          rw [tb3.2.1, if_pos rfl]
          show ∃ (ν : Mem) (z : Int32), _ = _ ∧ OF tF (fun y => y = 521) μ ν ∧ TmR ν x (if l.length < 12 then chainF x (nI np - 1) f (needF x 59 (.inr v.2)) (l ++ [v.1]) else (.inl (3, a), l)).1 ∧ ∀ b, (if l.length < 12 then chainF x (nI np - 1) f (needF x 59 (.inr v.2)) (l ++ [v.1]) else (.inl (3, a), l)).1 = .inr b → z = nI (if l.length < 12 then chainF x (nI np - 1) f (needF x 59 (.inr v.2)) (l ++ [v.1]) else (.inl (3, a), l)).2.length ∧ (if l.length < 12 then chainF x (nI np - 1) f (needF x 59 (.inr v.2)) (l ++ [v.1]) else (.inl (3, a), l)).2.length ≤ 12 ∧ ∀ i, i < (if l.length < 12 then chainF x (nI np - 1) f (needF x 59 (.inr v.2)) (l ++ [v.1]) else (.inl (3, a), l)).2.length → g_I ν 521 i = nI ((if l.length < 12 then chainF x (nI np - 1) f (needF x 59 (.inr v.2)) (l ++ [v.1]) else (.inl (3, a), l)).2.getD i 0)
          by_cases h12 : l.length < 12
          · rw [if_neg (show ¬ nI l.length = (12 : Int32) from fun z => by have := (nI_eq (by omega) (by decide)).mp (show nI l.length = nI 12 from z); omega), if_pos h12]
            obtain ⟨m4, e4, o4, t4⟩ := R_sign (k := 59) t3 (by decide)
            have e4 : LX12_sign 125 (59 : Int32) m3 = some ((), m4) := e4
            have o24 : OF tF nS μ m4 := o23.tr o4
            unfold mX12_chain_98 mX12_chain_122
            rw [e4, ob]
            cases hc : needF x 59 (.inr v.2) with
            | inl e =>
              rw [hc] at t4
              obtain ⟨q1, q2⟩ := TmB.err t4 rfl
              obtain ⟨m5, e5, o5, t5, -⟩ := R_blanksC t4
              obtain ⟨y1, y2⟩ := TmB.err t5 rfl
              obtain ⟨fu, rfl⟩ : ∃ q, fu = q + 1 := ⟨fu - 1, by omega⟩
              rw [q1, if_neg q2, e5, ob]
              have ee : (chainF x (nI np - 1) f (.inl e) (l ++ [v.1])).1 = .inl e := by cases f <;> rfl
              refine ⟨m5, nI l.length, ?_, (o24.tr o5).mo (fun _ z => z) (fun _ z => z.elim), by rw [ee]; exact t5, fun b hb => by rw [ee] at hb; exact nomatch hb⟩
              show mX12_chain_46 (fu + 1) 125 (nI l.length) m5 = _
              rw [mX12_chain_46, y1, if_neg y2]
            | inr b =>
              rw [hc] at t4
              obtain ⟨b4, tb4, -⟩ := t4.2
              have s4 := t4.1.1
              rw [tb4.2.1, if_pos rfl, s4.h26, if_pos q521, if_pos (s4.a521.ix (show l.length < 12 from h12) (by decide)), nI_clamp (show l.length < 2147483648 by omega)]
              have nv : numV (.inr v) = nI v.1 := rfl
              rw [nv]
              have o5 : OF nS (fun y => y = 521) m4 (p_I m4 521 l.length (nI v.1)) := OF.rf.pS rfl (by decide)
              have t5 : TmR (p_I m4 521 l.length (nI v.1)) x (.inr b) := t4.o o5 (fun z => z) (by decide) (fun z => z) (fun z => z) (fun z => z)
              obtain ⟨m6, e6, o6, t6, g6⟩ := R_blanksC t5
              have oo : OF tF (fun y => y = 521) μ m6 := ((o24.mo (fun _ z => z) (fun _ z => z.elim)).tr (o5.mo (fun _ z => z.elim) (fun _ z => z))).tr (o6.mo (fun _ z => z) (fun _ z => z.elim))
              have el : nI l.length + 1 = nI (l ++ [v.1]).length := by rw [len_snoc, nI_succ]
              rw [e6, ob, el]
              obtain ⟨ν, z, f1, f2, f3, f4⟩ := ih fu (.inr b) (l ++ [v.1]) m6 (by omega) t6 (by rw [oo.r (by decide) (by decide)]; exact hn) (fun b' hb' => ⟨g6 b' hb', by rw [len_snoc]; omega, by rw [len_snoc]; omega, fun i hi => by
                rw [len_snoc] at hi
                rw [o6.r (by decide) (fun z => z)]
                by_cases e : i = l.length
                · rw [e, gI_s, getD_last3]
                · rw [gI_k e, v521 m4 o24, getD_app3 (show i < l.length by omega)]
                  exact hr i (by omega)⟩)
              exact ⟨ν, z, f1, oo.tr f2, f3, f4⟩
          · have e12 : l.length = 12 := by omega
            rw [if_pos (show nI l.length = (12 : Int32) by rw [e12]; rfl), if_neg h12]
            obtain ⟨m4, e4, o4, t4⟩ := R_wrong (k := 3) (p := a) t3 (by decide) (by decide)
            have e4 : LX12_wrong 125 (3 : Int32) (nI a) m3 = some ((), m4) := e4
            have t4 : TmR m4 x (.inl (3, a)) := t4
            rw [e4, ob]
            obtain ⟨ν', z, f1, f2, f3⟩ := bad m4 (3, a) _ (o23.tr o4) t4
            exact ⟨ν', z, f1, f2, f3, fun b hb => nomatch hb⟩
      · rw [if_pos (nI_le (by omega) (by have := ta.2.2.2.2; omega)), if_neg ha]
        exact ⟨μ, _, rfl, OF.rf, t, fun b hb => ⟨rfl, hl, hr⟩⟩
/-- the row is taken over -/
theorem R_153 {m : Nat} (hm : m ≤ 12) : ∀ (f i fu : Nat) (μ : Mem), RfS μ → f + i = m → f < fu → (∀ j, j < i → g_I μ 520 j = g_I μ 521 j) → ∃ ν : Mem, mX12_chain_153 fu 125 (nI m) (nI i) μ = some (nI m, ν) ∧ Out (fun y => y = 520) μ ν ∧ ∀ j, j < m → g_I ν 520 j = g_I μ 521 j := by
  intro f
  induction f with
  | zero =>
    intro i fu μ s hi hf h
    obtain ⟨fu, rfl⟩ : ∃ q, fu = q + 1 := ⟨fu - 1, by omega⟩
    rw [mX12_chain_153, if_pos (nI_le (by omega) (by omega))]
    exact ⟨μ, rfl, Out.rf, fun j hj => h j (by omega)⟩
  | succ f ih =>
    intro i fu μ s hi hf h
    obtain ⟨fu, rfl⟩ : ∃ q, fu = q + 1 := ⟨fu - 1, by omega⟩
    rw [mX12_chain_153, if_neg (nI_ge (by omega) (by omega)), s.h25, if_pos q520, s.h26, if_pos q521, if_pos (s.a521.ix (show i < 12 by omega) (by decide)), if_pos (s.a520.ix (show i < 12 by omega) (by decide)), nI_clamp (show i < 2147483648 by omega), ← nI_succ]
    have o1 : Out (fun y => y = 520) μ (p_I μ 520 i (g_I μ 521 i)) := (Out.rf (S := fun y => y = 520)).pI rfl
    obtain ⟨ν, e1, o2, r2⟩ := ih (i + 1) fu (p_I μ 520 i (g_I μ 521 i)) (s.sh o1.1) (by omega) (by omega) (fun j hj => by
      by_cases e : j = i
      · rw [e, gI_s, gI_h (by decide)]
      · rw [gI_k e, gI_h (by decide)]; exact h j (by omega))
    exact ⟨ν, e1, o1.tr o2, fun j hj => by rw [r2 j hj, gI_h (by decide)]⟩
theorem R_chain {μ : Mem} {a : ClT} {v : Int32} (r : RfR μ a) (k : ClK a) : AskM (fun _ => 1) μ (LX12_chain 125 v μ) (if v < 0 ∨ ¬ v ≤ (if nI a.2.1 < 60 then nI a.2.1 else 60) then (.inl 1, rfA a 1) else sChain a v.toNatClampNeg) := by
  unfold LX12_chain mX12_chain_29
  refine R_text (m := 60) (S := sChain a) r k rfl (by decide) fun n hv hn μ0 r0 z0 => ?_
  have ho := RfR.hu k
  subst hv
  obtain ⟨m1, e1, o1, t1, f1, f7, f8⟩ := R_starts r0.1 r0.2.1 (show n ≤ 600 by omega)
  have hn0 : g_I m1 129 0 = nI (penN a) := by rw [o1.r (by decide) (fun z => z)]; exact r0.2.2.2.2.1.1.1
  obtain ⟨ν, z, e2, o2, t2, g2⟩ := R_chainL 13 100000 (.inr (sk (txtO a n) 0)) [] m1 (by decide) (t1.rs sk_sk) hn0 (fun b hb => by
    cases hb
    exact ⟨t1, rfl, by decide, fun i hi => absurd hi (Nat.not_lt_zero _)⟩)
  have e2 : mX12_chain_46 100000 125 (0 : Int32) m1 = mX12_chain_129 125 z ν := e2
  have t2 : TmR ν (txtO a n) (chaR a n).1 := t2
  have g2 : ∀ b, (chaR a n).1 = .inr b → z = nI (chaR a n).2.length ∧ (chaR a n).2.length ≤ 12 ∧ ∀ i, i < (chaR a n).2.length → g_I ν 521 i = nI ((chaR a n).2.getD i 0) := g2
  have oo : OF xF (fun y => y = 521) μ0 ν := (s_x o1).tr (o2.mo (fun k z => by have z : k = 4 ∨ k = 5 ∨ k = 6 := z; show k = 1 ∨ k = 2 ∨ k = 3 ∨ k = 4 ∨ k = 5 ∨ k = 6 ∨ k = 7 ∨ k = 8 ∨ k = 18 ∨ k = 28; omega) (fun _ z => z))
  have h1 : g_I ν 125 1 = nI 0 := by rw [o2.2 1 (by decide)]; exact f1
  have h0 : g_I ν 125 0 = 0 := by rw [oo.2 0 (by decide)]; exact z0
  have hS : ∀ y, (fun y => y = 521) y → frS y ∧ 125 ≤ y ∧ y < 629 := fun y hy => by
    have hy : y = 521 := hy
    unfold frS; omega
  show AskM (fun _ => 1) μ0 (obind (LX12_starts 125 (nI n) μ0) (fun (_ : Unit) (m14 : Mem) => mX12_chain_46 100000 125 (0 : Int32) m14)) (sChain a n)
  rw [e1, ob, e2]
  unfold mX12_chain_129 sChain
  cases hr : (chaR a n).1 with
  | inl e =>
    rw [hr] at t2
    obtain ⟨q1, q2⟩ := TmB.err t2 rfl
    rw [q1, if_neg q2]
    exact R_fail r0 ho oo hS t2 h1 h0
  | inr b =>
    rw [hr] at t2
    obtain ⟨g3, g4, g5⟩ := g2 b hr
    obtain ⟨b0, tb, -⟩ := t2.2
    rw [tb.2.1, if_pos rfl, g3]
    have s2 : RfS (p_I (p_I ν 125 3 (-1)) 125 34 (nI (chaR a n).2.length)) := t2.1.1
    obtain ⟨ρ, e5, o5, r5⟩ := R_153 g4 (chaR a n).2.length 0 100000 (p_I (p_I ν 125 3 (-1)) 125 34 (nI (chaR a n).2.length)) s2 rfl (by omega) (fun j hj => absurd hj (Nat.not_lt_zero _))
    have e5 : mX12_chain_153 100000 125 (nI (chaR a n).2.length) (0 : Int32) (p_I (p_I ν 125 3 (-1)) 125 34 (nI (chaR a n).2.length)) = _ := e5
    have gρ : ∀ k, k ≠ 34 → k ≠ 3 → g_I ρ 125 k = g_I ν 125 k := fun k h1 h2 => by rw [(o5.2 125 (by decide)).1, gI_k h1, gI_k h2]
    have v0 : ∀ x, x ≠ 125 → x ≠ 520 → x ≠ 521 → g_I ρ x = g_I μ0 x := fun x h1 h2 h3 => by
      rw [(o5.2 x h2).1, gI_rowo h1, gI_rowo h1, oo.r h1 h3]
    have w0 : ∀ k, ¬ xF k → k ≠ 34 → k ≠ 3 → g_I ρ 125 k = g_I μ0 125 k := fun k h1 h2 h3 => by rw [gρ k h2 h3, oo.2 k h1]
    rw [e5]
    obtain ⟨y0, y1, y2, y3, y4, y5, y6, y7, y8, y9, y10, y11⟩ := r0
    refine ⟨_, ρ, rfl, ⟨by rw [gρ 0 (by decide) (by decide)]; exact h0, rfl⟩, ⟨s2.sh o5.1, fun k hk => by rw [v0 126 (by decide) (by decide) (by decide)]; exact y1 k hk, ⟨by rw [gρ 1 (by decide) (by decide)]; exact h1, Nat.zero_le _⟩, by rw [(o5.2 125 (by decide)).1, gI_k (by decide), gI_s]; rfl, y4.fr ho (fun x hx => v0 x (by omega) (by omega) (by omega)), y5.fr (w0 17 (by decide) (by decide) (by decide)) (fun x hx => v0 x (by omega) (by omega) (by omega)), ⟨by rw [(o5.2 125 (by decide)).1, gI_s]; rfl, g4, fun i hi => by rw [r5 i hi, gI_h (by decide), gI_h (by decide)]; exact g5 i hi⟩, y7.fr (w0 33 (by decide) (by decide) (by decide)) (fun x hx => v0 x (by omega) (by omega) (by omega)), y8.fr (w0 35 (by decide) (by decide) (by decide)) (w0 37 (by decide) (by decide) (by decide)) (fun x hx => v0 x (by omega) (by omega) (by omega)), fun k hk => by rw [v0 603 (by decide) (by decide) (by decide)]; exact y9 k hk, by rw [w0 36 (by decide) (by decide) (by decide)]; exact y10, fun k hk => by rw [v0 127 (by decide) (by decide) (by decide)]; exact y11 k hk⟩, ?_⟩
    exact ((oo.mf fun y hy => by have hy : y = 521 := hy; omega).tr ((Out.pI Out.rf (by omega)).pI (by omega))).tr (o5.mo fun y hy => by omega)
