/-! ===== the reference is told a BOOK ===== -/
def BrM (μ : Mem) (l : List (Nat × Nat)) : Prop := ∀ i, i < l.length → g_I μ (512 + i) 0 = nI (l.getD i (0, 0)).1 ∧ g_I μ (512 + i) 1 = nI (l.getD i (0, 0)).2
abbrev kS : Nat → Prop := fun y => 512 ≤ y ∧ y < 518
theorem R_bookL {x : Txt} : ∀ (f fu : Nat) (c : Cur) (l : List (Nat × Nat)) (μ : Mem), f < fu → TmR μ x c → (∀ a, c = .inr a → TmA μ x a ∧ f + l.length = 7 ∧ l.length ≤ 6 ∧ BrM μ l) → ∃ (ν : Mem) (z : Int32), mX12_book_46 fu 125 (nI l.length) μ = mX12_book_155 125 z ν ∧ OF tF kS μ ν ∧ TmR ν x (bookF x f c l).1 ∧ ∀ b, (bookF x f c l).1 = .inr b → z = nI (bookF x f c l).2.length ∧ (bookF x f c l).2.length ≤ 6 ∧ BrM ν (bookF x f c l).2 := by
  intro f
  induction f with
  | zero =>
    intro fu c l μ hf t h
    obtain ⟨fu, rfl⟩ : ∃ q, fu = q + 1 := ⟨fu - 1, by omega⟩
    cases c with
    | inl e =>
      obtain ⟨q1, q2⟩ := TmB.err t rfl
      rw [mX12_book_46, q1, if_neg q2]
      exact ⟨μ, _, rfl, OF.rf, t, fun b hb => nomatch hb⟩
    | inr a =>
      obtain ⟨-, h1, h2, -⟩ := h a rfl
      omega
  | succ f ih =>
    intro fu c l μ hf t h
    obtain ⟨fu, rfl⟩ : ∃ q, fu = q + 1 := ⟨fu - 1, by omega⟩
    cases c with
    | inl e =>
      obtain ⟨q1, q2⟩ := TmB.err t rfl
      rw [mX12_book_46, q1, if_neg q2]
      exact ⟨μ, _, rfl, OF.rf, t, fun b hb => nomatch hb⟩
    | inr a =>
      obtain ⟨ta, hfl, hl, hr⟩ := h a rfl
      have hx := t.1.2.2.1
      rw [mX12_book_46, ta.2.1, if_pos rfl, ta.1.2.1, ta.2.2.2.1]
      by_cases ha : a < x.2
      · rw [if_neg (nI_ge ha (by omega))]
        obtain ⟨m2, e2, o2, t2, g2⟩ := R_blanksC t
        have ta2 := g2 a rfl
        obtain ⟨m3, e3, o3, t3⟩ := R_number (most := 9999) t2
        rw [e2, ob, e3, ob, ta2.2.2.2.1]
        have o23 : OF tF nS μ m3 := o2.tr o3
        -- what follows the first number
        have next : ∀ (ν : Mem) (c1 : Cur) (u : Int32), OF tF nS μ ν → TmR ν x c1 → ∃ (m5 : Mem), mX12_book_102 (fun l0 l2 μ => mX12_book_46 fu l0 l2 μ) 125 (nI l.length) u ν = (if g_I m5 125 5 = 0 then (if 0 < (g_R m5 125 22) then (if inA m5 (g_R m5 125 22) 19 (nI l.length) = true then (if 0 < (g_R m5 (g_R m5 125 22) (nI l.length).toNatClampNeg) then (if inA m5 (g_R m5 (g_R m5 125 22) (nI l.length).toNatClampNeg) 15 (0 : Int32) = true then (if inA m5 (g_R m5 (g_R m5 125 22) (nI l.length).toNatClampNeg) 15 (1 : Int32) = true then (mX12_book_148 (fun l0 l2 μ => mX12_book_46 fu l0 l2 μ) 125 (nI l.length + (1 : Int32)) (p_I (p_I m5 (g_R m5 (g_R m5 125 22) (nI l.length).toNatClampNeg) (0 : Int32).toNatClampNeg u) (g_R m5 (g_R m5 125 22) (nI l.length).toNatClampNeg) (1 : Int32).toNatClampNeg (numV (numCur x 9999999 c1)))) else none) else none) else none) else none) else none) else (mX12_book_148 (fun l0 l2 μ => mX12_book_46 fu l0 l2 μ) 125 (nI l.length) m5)) ∧ OF tF nS μ m5 ∧ TmR m5 x (needF x 59 (numC (numCur x 9999999 c1))) := by
          intro ν c1 u oν tν
          obtain ⟨m4, e4, o4, t4⟩ := R_number (most := 9999999) tν
          obtain ⟨m5, e5, o5, t5⟩ := R_sign (k := 59) t4 (by decide)
          have e5 : LX12_sign 125 (59 : Int32) m4 = some ((), m5) := e5
          unfold mX12_book_102
          rw [e4, ob, e5, ob]
          exact ⟨m5, rfl, (oν.tr o4).tr o5, t5⟩
        -- behind a FAULT
        have stop : ∀ (m5 : Mem) (e : Nat × Nat), OF tF nS μ m5 → TmR m5 x (.inl e) → ∃ ν' : Mem, mX12_book_148 (fun l0 l2 μ => mX12_book_46 fu l0 l2 μ) 125 (nI l.length) m5 = mX12_book_155 125 (nI l.length) ν' ∧ OF tF kS μ ν' ∧ TmR ν' x (.inl e) := by
          intro m5 e oν tν
          obtain ⟨m6, e6, o6, t6, -⟩ := R_blanksC tν
          obtain ⟨y1, y2⟩ := TmB.err t6 rfl
          obtain ⟨fu, rfl⟩ : ∃ q, fu = q + 1 := ⟨fu - 1, by omega⟩
          unfold mX12_book_148
          rw [e6, ob]
          refine ⟨m6, ?_, (oν.tr o6).mo (fun _ z => z) (fun _ z => z.elim), t6⟩
          show mX12_book_46 (fu + 1) 125 (nI l.length) m6 = _
          rw [mX12_book_46, y1, if_neg y2]
        have bad : ∀ (ν : Mem) (e : Nat × Nat) (u : Int32), OF tF nS μ ν → TmR ν x (.inl e) → ∃ (ν' : Mem) (z : Int32), mX12_book_102 (fun l0 l2 μ => mX12_book_46 fu l0 l2 μ) 125 (nI l.length) u ν = mX12_book_155 125 z ν' ∧ OF tF kS μ ν' ∧ TmR ν' x (.inl e) := by
          intro ν e u oν tν
          obtain ⟨m5, e5, o5, t5⟩ := next ν (.inl e) u oν tν
          have t5 : TmR m5 x (.inl e) := t5
          obtain ⟨q1, q2⟩ := TmB.err t5 rfl
          obtain ⟨ν', f1, f2, f3⟩ := stop m5 e o5 t5
          rw [e5, q1, if_neg q2, f1]
          exact ⟨ν', _, rfl, f2, f3⟩
        have nc : numCur x 9999 (.inr a) = numF x 9999 a := rfl
        rw [nc] at t3 ⊢
        cases hv : numF x 9999 a with
        | inl e =>
          have eF : bookF x (f + 1) (.inr a) l = (.inl e, l) := by simp only [bookF, if_pos ha, hv]
          rw [hv] at t3
          obtain ⟨q1, q2⟩ := TmB.err (show TmR m3 x (.inl e) from t3) rfl
          obtain ⟨ν', z, f1, f2, f3⟩ := bad m3 e (numV (.inl e)) o23 t3
          rw [q1, if_neg q2, eF]
          exact ⟨ν', z, f1, f2, f3, fun b hb => nomatch hb⟩
        | inr v =>
          rw [hv] at t3
          have t3 : TmR m3 x (.inr v.2) := t3
          obtain ⟨b3, tb3, -⟩ := t3.2
          rw [tb3.2.1, if_pos rfl]
          by_cases h6 : l.length < 6
          · rw [if_neg (show ¬ nI l.length = (6 : Int32) from fun z => by have := (nI_eq (by omega) (by decide)).mp (show nI l.length = nI 6 from z); omega)]
            obtain ⟨m5, e5, o5, t5⟩ := next m3 (.inr v.2) (numV (.inr v)) o23 t3
            have nc2 : numCur x 9999999 (.inr v.2) = numF x 9999999 v.2 := rfl
            rw [nc2] at e5 t5
            rw [e5]
            cases hw : numF x 9999999 v.2 with
            | inl e =>
              have eF : bookF x (f + 1) (.inr a) l = (.inl e, l) := by simp only [bookF, if_pos ha, hv, if_pos h6, hw]
              rw [hw] at t5
              have t5 : TmR m5 x (.inl e) := t5
              obtain ⟨q1, q2⟩ := TmB.err t5 rfl
              obtain ⟨ν', f1, f2, f3⟩ := stop m5 e o5 t5
              rw [q1, if_neg q2, f1, eF]
              exact ⟨ν', _, rfl, f2, f3, fun b hb => nomatch hb⟩
            | inr w =>
              have eF : bookF x (f + 1) (.inr a) l = bookF x f (needF x 59 (.inr w.2)) (l ++ [(v.1, w.1)]) := by simp only [bookF, if_pos ha, hv, if_pos h6, hw]
              rw [hw] at t5
              have t5 : TmR m5 x (needF x 59 (.inr w.2)) := t5
              rw [eF]
              cases hc : needF x 59 (.inr w.2) with
              | inl e =>
                rw [hc] at t5
                obtain ⟨q1, q2⟩ := TmB.err t5 rfl
                obtain ⟨ν', f1, f2, f3⟩ := stop m5 e o5 t5
                have ee : (bookF x f (.inl e) (l ++ [(v.1, w.1)])).1 = .inl e := by cases f <;> rfl
                rw [q1, if_neg q2, f1]
                exact ⟨ν', _, rfl, f2, by rw [ee]; exact f3, fun b hb => by rw [ee] at hb; exact nomatch hb⟩
              | inr b =>
                rw [hc] at t5
                obtain ⟨b5, tb5, -⟩ := t5.2
                have s5 := t5.1.1
                obtain ⟨a1, a2, a3, a4⟩ := s5.t511.at (i := l.length) h6 (by decide)
                have a2 : g_R m5 511 (nI l.length).toNatClampNeg = 512 + l.length := a2
                have a3 : 0 < 512 + l.length := by omega
                have a4 : ArS m5 (512 + l.length) 2 := a4
                rw [tb5.2.1, if_pos rfl, s5.h22, if_pos q511, if_pos a1, a2, if_pos a3, if_pos (show inA m5 (512 + l.length) 15 (0 : Int32) = true from a4.ix (i := 0) (by decide) (by decide)), if_pos (show inA m5 (512 + l.length) 15 (1 : Int32) = true from a4.ix (i := 1) (by decide) (by decide)), c0n, c1n]
                have nv : numV (.inr v) = nI v.1 := rfl
                have nw : numV (.inr w) = nI w.1 := rfl
                rw [nv, nw]
                unfold mX12_book_148
                have t7 : TmR (p_I (p_I m5 (512 + l.length) 0 (nI v.1)) (512 + l.length) 1 (nI w.1)) x (.inr b) := (t5.S (by omega) (by omega)).S (by omega) (by omega)
                obtain ⟨m8, e8, o8, t8, g8⟩ := R_blanksC t7
                have inS : kS (512 + l.length) := ⟨by omega, by omega⟩
                have o7 : OF tF kS μ (p_I (p_I m5 (512 + l.length) 0 (nI v.1)) (512 + l.length) 1 (nI w.1)) := ((o5.mo (fun _ z => z) (fun _ z => z.elim)).pS inS (by omega)).pS inS (by omega)
                have oo : OF tF kS μ m8 := o7.tr (o8.mo (fun _ z => z) (fun _ z => z.elim))
                have el : nI l.length + 1 = nI (l ++ [(v.1, w.1)]).length := by rw [len_snoc, nI_succ]
                rw [e8, ob, el]
                obtain ⟨ν, z, f1, f2, f3, f4⟩ := ih fu (.inr b) (l ++ [(v.1, w.1)]) m8 (by omega) t8 (fun b' hb' => ⟨g8 b' hb', by rw [len_snoc]; omega, by rw [len_snoc]; omega, fun i hi => by
                  rw [len_snoc] at hi
                  rw [o8.r (by omega) (fun z => z)]
                  by_cases e : i = l.length
                  · rw [e, getD_last3, gI_s, gI_k (by decide), gI_s]
                    exact ⟨rfl, rfl⟩
                  · rw [gI_h (by omega), gI_h (by omega), gI_h (by omega), gI_h (by omega), getD_app3 (show i < l.length by omega), o5.r (by omega) (fun z => z)]
                    exact hr i (by omega)⟩)
                exact ⟨ν, z, f1, oo.tr f2, f3, f4⟩
          · have e6 : l.length = 6 := by omega
            have eF : bookF x (f + 1) (.inr a) l = (.inl (3, a), l) := by simp only [bookF, if_pos ha, hv, if_neg h6]
            rw [if_pos (show nI l.length = (6 : Int32) by rw [e6]; rfl), eF]
            obtain ⟨m4, e4, o4, t4⟩ := R_wrong (k := 3) (p := a) t3 (by decide) (by decide)
            have e4 : LX12_wrong 125 (3 : Int32) (nI a) m3 = some ((), m4) := e4
            have t4 : TmR m4 x (.inl (3, a)) := t4
            rw [e4, ob]
            obtain ⟨ν', z, f1, f2, f3⟩ := bad m4 (3, a) (numV (.inr v)) (o23.tr o4) t4
            exact ⟨ν', z, f1, f2, f3, fun b hb => nomatch hb⟩
      · have eF : bookF x (f + 1) (.inr a) l = (.inr a, l) := by simp only [bookF, if_neg ha]
        rw [if_pos (nI_le (by omega) (by have := ta.2.2.2.2; omega)), eF]
        exact ⟨μ, _, rfl, OF.rf, t, fun b hb => ⟨rfl, hl, hr⟩⟩
theorem R_book {μ : Mem} {a : ClT} {v : Int32} (r : RfR μ a) (k : ClK a) : AskM (fun _ => 1) μ (LX12_book 125 v μ) (if v < 0 ∨ ¬ v ≤ (if nI a.2.1 < 60 then nI a.2.1 else 60) then (.inl 1, rfA a 1) else sBook a v.toNatClampNeg) := by
  unfold LX12_book mX12_book_29
  refine R_text (m := 60) (S := sBook a) r k rfl (by decide) fun n hv hn μ0 r0 z0 => ?_
  have ho := RfR.hu k
  subst hv
  obtain ⟨m1, e1, o1, t1, f1, f7, f8⟩ := R_starts r0.1 r0.2.1 (show n ≤ 600 by omega)
  obtain ⟨ν, z, e2, o2, t2, g2⟩ := R_bookL 7 100000 (.inr (sk (txtO a n) 0)) [] m1 (by decide) (t1.rs sk_sk) (fun b hb => by
    cases hb
    exact ⟨t1, rfl, by decide, fun i hi => absurd hi (Nat.not_lt_zero _)⟩)
  have e2 : mX12_book_46 100000 125 (0 : Int32) m1 = mX12_book_155 125 z ν := e2
  have t2 : TmR ν (txtO a n) (booR a n).1 := t2
  have g2 : ∀ b, (booR a n).1 = .inr b → z = nI (booR a n).2.length ∧ (booR a n).2.length ≤ 6 ∧ BrM ν (booR a n).2 := g2
  have oo : OF xF kS μ0 ν := (s_x o1).tr (o2.mo (fun k z => by have z : k = 4 ∨ k = 5 ∨ k = 6 := z; show k = 1 ∨ k = 2 ∨ k = 3 ∨ k = 4 ∨ k = 5 ∨ k = 6 ∨ k = 7 ∨ k = 8 ∨ k = 18 ∨ k = 28; omega) (fun _ z => z))
  have h1 : g_I ν 125 1 = nI 0 := by rw [o2.2 1 (by decide)]; exact f1
  have h0 : g_I ν 125 0 = 0 := by rw [oo.2 0 (by decide)]; exact z0
  have hS : ∀ y, kS y → frS y ∧ 125 ≤ y ∧ y < 629 := fun y hy => by
    obtain ⟨hy1, hy2⟩ := hy
    unfold frS; omega
  show AskM (fun _ => 1) μ0 (obind (LX12_starts 125 (nI n) μ0) (fun (_ : Unit) (m14 : Mem) => mX12_book_46 100000 125 (0 : Int32) m14)) (sBook a n)
  rw [e1, ob, e2]
  unfold mX12_book_155 sBook
  cases hr : (booR a n).1 with
  | inl e =>
    rw [hr] at t2
    obtain ⟨q1, q2⟩ := TmB.err t2 rfl
    rw [q1, if_neg q2]
    exact R_fail r0 ho oo hS t2 h1 h0
  | inr b =>
    rw [hr] at t2
    obtain ⟨g3, g4, g5⟩ := g2 b hr
    obtain ⟨b0, tb, -⟩ := t2.2
    have s1 := t2.1.1
    rw [tb.2.1, if_pos rfl, g3, s1.h22, if_pos q511, s1.h21, if_pos q504]
    have s2 : RfS (p_I (p_I ν 125 3 (-1)) 125 33 (nI (booR a n).2.length)) := s1
    obtain ⟨ρ, e5, o5, r5⟩ := R_lays (m := (booR a n).2.length) s2.t511 s2.t504 g4 g4 (by decide) (by decide) (by decide) (by decide)
    have gρ : ∀ k, k ≠ 33 → k ≠ 3 → g_I ρ 125 k = g_I ν 125 k := fun k h1 h2 => by rw [(o5.2 125 (by omega)).1, gI_k h1, gI_k h2]
    have v0 : ∀ x, x ≠ 125 → (x < 505 ∨ 518 ≤ x) → g_I ρ x = g_I μ0 x := fun x h1 h2 => by
      rw [(o5.2 x (by omega)).1, gI_rowo h1, gI_rowo h1, oo.r h1 (fun z => by obtain ⟨z1, z2⟩ := z; omega)]
    have w0 : ∀ k, ¬ xF k → k ≠ 33 → k ≠ 3 → g_I ρ 125 k = g_I μ0 125 k := fun k h1 h2 h3 => by rw [gρ k h2 h3, oo.2 k h1]
    rw [e5, ob]
    obtain ⟨y0, y1, y2, y3, y4, y5, y6, y7, y8, y9, y10, y11⟩ := r0
    refine ⟨_, ρ, rfl, ⟨by rw [gρ 0 (by decide) (by decide)]; exact h0, rfl⟩, ⟨s2.sh o5.1, fun k hk => by rw [v0 126 (by decide) (by decide)]; exact y1 k hk, ⟨by rw [gρ 1 (by decide) (by decide)]; exact h1, Nat.zero_le _⟩, by rw [(o5.2 125 (by omega)).1, gI_k (by decide), gI_s]; rfl, y4.fr ho (fun x hx => v0 x (by omega) (by omega)), y5.fr (w0 17 (by decide) (by decide) (by decide)) (fun x hx => v0 x (by omega) (by omega)), y6.fr (w0 34 (by decide) (by decide) (by decide)) (v0 520 (by decide) (by decide)), ⟨by rw [(o5.2 125 (by omega)).1, gI_s]; rfl, g4, fun i hi => by
      have e : ∀ j, j < 2 → g_I ρ (505 + i) j = g_I ν (512 + i) j := fun j hj => by
        rw [r5 i hi j hj, gI_h (by omega), gI_h (by omega)]
      rw [e 0 (by decide), e 1 (by decide)]
      exact g5 i hi⟩, y8.fr (w0 35 (by decide) (by decide) (by decide)) (w0 37 (by decide) (by decide) (by decide)) (fun x hx => v0 x (by omega) (by omega)), fun k hk => by rw [v0 603 (by decide) (by decide)]; exact y9 k hk, by rw [w0 36 (by decide) (by decide) (by decide)]; exact y10, fun k hk => by rw [v0 127 (by decide) (by decide)]; exact y11 k hk⟩, ?_⟩
    exact ((oo.mf fun y hy => by obtain ⟨hy1, hy2⟩ := hy; omega).tr ((Out.pI Out.rf (by omega)).pI (by omega))).tr (o5.mo fun y hy => by have := g4; omega)
