/-! ===== the reference reads a LAW ===== -/
def PreL (μ : Mem) (x : Txt) (o : Nat) (c : Cur) (ops : OpsT) : Prop := TmR μ x c ∧ ∀ b, c = .inr b → g_I μ 125 8 = nI o ∧ LrM μ ops ∧ ops.length ≤ b
def HRm (rec : Nat → Mem → Option (Unit × Mem)) (rc : Cur → OpsT → LwT) (x : Txt) (o : Nat) : Prop := ∀ (c : Cur) (ops : OpsT) (μ : Mem), PreL μ x o c ops → ∃ μ' : Mem, rec 125 μ = some ((), μ') ∧ OF lF lS μ μ' ∧ LwM μ' x o (rc c ops)
theorem LwM.pre {μ : Mem} {x : Txt} {o : Nat} {r : LwT} (h : LwM μ x o r) : PreL μ x o r.1 r.2 := h
theorem LwM.e {μ : Mem} {x : Txt} {o : Nat} {e : Nat × Nat} {ops : OpsT} (t : TmR μ x (.inl e)) : LwM μ x o (.inl e, ops) := ⟨t, fun b hb => nomatch hb⟩
theorem PreL.t {μ ν : Mem} {x : Txt} {o : Nat} {c c' : Cur} {ops : OpsT} (h : ∀ b, c' = .inr b → g_I μ 125 8 = nI o ∧ LrM μ ops ∧ ops.length ≤ b) (of : OF tF nS μ ν) (t : TmR ν x c') : PreL ν x o c' ops := ⟨t, fun b hb => by
  obtain ⟨h1, h2, h3⟩ := h b hb
  exact ⟨by rw [of.2 8 (by decide)]; exact h1, h2.t of (by decide), h3⟩⟩
/-- a sign between, o as it was -/
theorem R_signL {μ : Mem} {x : Txt} {o k : Nat} {r : LwT} (h : LwM μ x o r) (hk : k < 256) : ∃ μ' : Mem, LX12_sign 125 (nI k) μ = some ((), μ') ∧ OF lF lS μ μ' ∧ PreL μ' x o (needF x k r.1) r.2 := by
  obtain ⟨μ', e1, o1, t1⟩ := R_sign h.1 hk
  refine ⟨μ', e1, t_l o1, t1, fun b hb => ?_⟩
  obtain ⟨a, ha⟩ := needF_in hb
  obtain ⟨h1, h2, h3⟩ := h.2 a ha
  have := needF_at (by rw [ha] at hb; exact hb) hk
  exact ⟨by rw [o1.2 8 (by decide)]; exact h1, h2.t o1 (by decide), by omega⟩
theorem sk_at {x : Txt} {a : Nat} : a ≤ sk x a := sk_ge
theorem R_one {x : Txt} {rec : Nat → Mem → Option (Unit × Mem)} {rc : Cur → OpsT → LwT} {full : Prop} [Decidable full] {o : Nat} (hN : x.2 ≤ 150) (ho : o ≤ 6) (hfull : full ↔ o = 6) (hg : ¬ full → ∀ c ops, LwG x c ops (rc c ops)) (hrec : o < 6 → HRm rec rc x (o + 1)) (c : Cur) (ops : OpsT) (μ : Mem) (p : PreL μ x o c ops) : ∃ μ' : Mem, LX12_one rec 125 μ = some ((), μ') ∧ OF lF lS μ μ' ∧ LwM μ' x o (unitF x rc full c ops) := by
  obtain ⟨t, h⟩ := p
  unfold LX12_one
  rw [if_pos t.1.1.1]
  cases c with
  | inl e =>
    obtain ⟨q1, q2⟩ := TmB.err t rfl
    rw [q1, if_neg q2]
    exact ⟨μ, rfl, OF.rf, LwM.e t⟩
  | inr a =>
    obtain ⟨h8, hl, hla⟩ := h a rfl
    obtain ⟨b0, tb, hb0⟩ := t.2
    have h0 : sk x a = a := by rw [← hb0]; exact sk_sk
    obtain ⟨m1, e1, o1, t1, g1⟩ := R_blanksC t
    have ta := g1 a rfl
    have hx := t.1.2.2.1
    have hax := ta.2.2.2.2
    have h81 : g_I m1 125 8 = nI o := by rw [o1.2 8 (by decide)]; exact h8
    have hl1 : LrM m1 ops := hl.t o1 (by decide)
    have eU : unitF x rc full (.inr a) ops = if digT (chT x a) then numL ops (numF x 999 a) else if chT x a = 40 then (if full then (.inl (3, a), ops) else (needF x 41 (rc (needF x 40 (.inr a)) ops).1, (rc (needF x 40 (.inr a)) ops).2)) else wordL x rc full a ops (wordF x W1 a) := rfl
    rw [tb.2.1, if_pos rfl, e1, ob, R_isWord0 sixLeast ta h0, ob, R_isWord0 sixMost ta h0, ob, eU]
    -- a pair
    have pair : ∀ k : Nat, (k = 8 ∨ k = 9) → wordIx x a (ltE x a) W1 0 = some k → ∃ μ' : Mem, mX12_one_56 rec 125 (nI (k - 1)) m1 = some ((), μ') ∧ OF lF lS μ μ' ∧ LwM μ' x o (if digT (chT x a) then numL ops (numF x 999 a) else if chT x a = 40 then (if full then (.inl (3, a), ops) else (needF x 41 (rc (needF x 40 (.inr a)) ops).1, (rc (needF x 40 (.inr a)) ops).2)) else wordL x rc full a ops (wordF x W1 a)) := by
      intro k hk8 hk
      obtain ⟨hlet, hax'⟩ := wordIx_let hk
      have nd : ¬ digT (chT x a) := fun z => by have z1 := z.2; have z2 := hlet.1; omega
      have n40 : ¬ chT x a = 40 := fun z => by have z2 := hlet.1; omega
      have eW : wordF x W1 a = .inr (k, sk x (ltE x a)) := by
        unfold wordF
        rw [if_pos hax', hk]
        rfl
      rw [if_neg nd, if_neg n40, eW]
      show ∃ μ' : Mem, _ = some ((), μ') ∧ OF lF lS μ μ' ∧ LwM μ' x o (if 8 ≤ k then (if full then (.inl (3, a), ops) else pairL x rc k (sk x (ltE x a)) ops) else (.inr (sk x (ltE x a)), ops ++ [(1, nI k)]))
      rw [if_pos (show 8 ≤ k by omega)]
      obtain ⟨p1, p2⟩ := R_opens ta h81 ho
      unfold mX12_one_56
      rw [if_neg (nI_nm1 (show k - 1 < 2147483648 by omega))]
      by_cases h6 : o = 6
      · obtain ⟨m2, e2, o2, t2⟩ := p1 h6
        rw [e2, ob, if_pos rfl, if_pos (hfull.mpr h6)]
        exact ⟨m2, rfl, t_l (o1.tr o2), LwM.e t2⟩
      · rw [p2 (by omega), ob, if_neg (show ¬ (1 : Int32) = 0 by decide), if_neg (fun z => h6 (hfull.mp z))]
        have nf : ¬ full := fun z => h6 (hfull.mp z)
        have o8 : OF (fun k => k = 8) nS m1 (p_I m1 125 8 (nI (o + 1))) := OF.rf.p0 rfl
        have t8 : TmA (p_I m1 125 8 (nI (o + 1))) x a := ta.o o8 (by decide) (fun z => z) (by decide) (by decide) (by decide)
        obtain ⟨m3, e3, o3, t3⟩ := R_skipWord t8
        have le := (ltE_le hax).1
        have lw3 : LwM m3 x (o + 1) (.inr (sk x (ltE x a)), ops) := ⟨t3.r, fun b hb => by
          cases hb
          have := sk_at (x := x) (a := ltE x a)
          exact ⟨by rw [o3.2 8 (by decide)]; exact gI_s, (hl1.t o8 (by decide)).t o3 (by decide), by show ops.length ≤ sk x (ltE x a); omega⟩⟩
        obtain ⟨m4, e4, o4, t4⟩ := R_signL (k := 91) lw3 (by decide)
        have e4 : LX12_sign 125 (91 : Int32) m3 = some ((), m4) := e4
        obtain ⟨m5, e5, o5, t5⟩ := hrec (by omega) _ _ m4 t4
        obtain ⟨m6, e6, o6, t6⟩ := R_signL (k := 44) t5 (by decide)
        have e6 : LX12_sign 125 (44 : Int32) m5 = some ((), m6) := e6
        obtain ⟨m7, e7, o7, t7⟩ := hrec (by omega) _ _ m6 t6
        obtain ⟨m8, e8, o8', t8'⟩ := R_signL (k := 93) t7 (by decide)
        have e8 : LX12_sign 125 (93 : Int32) m7 = some ((), m8) := e8
        obtain ⟨m9, e9, o9, t9⟩ := R_notes (w := nI (k - 1)) (v := 0) (o := o + 1) hN t8'.1 (fun b hb => by
          obtain ⟨y1, y2, y3⟩ := t8'.2 b hb
          obtain ⟨a', ha'⟩ := needF_in hb
          have q := (t7.2 a' ha').2.2
          have z := needF_at (by rw [ha'] at hb; exact hb) (show (93 : Nat) < 256 by decide)
          exact ⟨y1, y2, by omega⟩)
        rw [e3, ob, e4, ob, e5, ob, e6, ob, e7, ob, e8, ob, e9, ob]
        have o89 : OF lF lS m9 (p_I m9 125 8 (g_I m9 125 8 - 1)) := OF.rf.p0 (Or.inr (Or.inr (Or.inr (Or.inl rfl))))
        refine ⟨_, rfl, ((((((((t_l o1).tr (o8.mo (fun k z => Or.inr (Or.inr (Or.inr (Or.inl z)))) (fun _ z => z.elim))).tr (t_l o3)).tr o4).tr o5).tr o6).tr o7).tr o8').tr (o9.tr o89), t9.1.o (F := fun k => k = 8) (S := nS) (OF.rf.p0 rfl) (by decide) (fun z => z) (by decide) (by decide) (by decide), fun b hb => ?_⟩
        obtain ⟨y1, y2, y3⟩ := t9.2 b hb
        have e1 : nI (o + 1) - 1 = nI o := nI_pred o
        refine ⟨by rw [gI_s, y1]; exact e1, ?_, y3⟩
        have o99 : OF (fun k => k = 8) nS m9 (p_I m9 125 8 (g_I m9 125 8 - 1)) := OF.rf.p0 rfl
        exact y2.t o99 (by decide)
    by_cases hL : isW x a (ltE x a) [108, 101, 97, 115, 116]
    · rw [if_pos hL, if_neg (show ¬ (1 : Int32) = 0 by decide)]
      exact pair 8 (Or.inl rfl) (W1_least hL)
    rw [if_neg hL, if_pos rfl]
    by_cases hM : isW x a (ltE x a) [109, 111, 115, 116]
    · rw [if_pos hM, if_neg (show ¬ (1 : Int32) = 0 by decide)]
      exact pair 9 (Or.inr rfl) (W1_most hM)
    rw [if_neg hM, if_pos rfl]
    have e8 := W1_8 hL hM
    unfold mX12_one_56
    rw [if_pos rfl, ta.2.2.2.1, R_byte ta.1 (by omega), ob]
    by_cases h40 : chT x a = 40
    · -- a bracket
      have nd : ¬ digT (chT x a) := fun z => by have z1 := z.1; omega
      have ha := chT_lt h40 (by decide)
      rw [if_pos (show chI x a = (40 : Int32) from (chI_eq (c := 40) (by decide)).mpr h40), if_neg nd, if_pos h40]
      obtain ⟨p1, p2⟩ := R_opens ta h81 ho
      by_cases h6 : o = 6
      · obtain ⟨m2, e2, o2, t2⟩ := p1 h6
        rw [e2, ob, if_pos rfl, if_pos (hfull.mpr h6)]
        exact ⟨m2, rfl, t_l (o1.tr o2), LwM.e t2⟩
      · rw [p2 (by omega), ob, if_neg (show ¬ (1 : Int32) = 0 by decide), if_neg (fun z => h6 (hfull.mp z)), gI_k (show (4 : Nat) ≠ 8 by decide), ta.2.2.2.1, ← nI_succ]
        have o8 : OF (fun k => k = 8) nS m1 (p_I m1 125 8 (nI (o + 1))) := OF.rf.p0 rfl
        have t8 : TmA (p_I m1 125 8 (nI (o + 1))) x a := ta.o o8 (by decide) (fun z => z) (by decide) (by decide) (by decide)
        have o4 : OF tF nS (p_I m1 125 8 (nI (o + 1))) (p_I (p_I m1 125 8 (nI (o + 1))) 125 4 (nI (a + 1))) := OF.rf.p0 (Or.inl rfl)
        have t4 := t8.go (b := a + 1) (by omega)
        have en : needF x 40 (.inr a) = .inr (sk x (a + 1)) := if_pos h40
        have pr : PreL (p_I (p_I m1 125 8 (nI (o + 1))) 125 4 (nI (a + 1))) x (o + 1) (needF x 40 (.inr a)) ops := by
          rw [en]
          refine ⟨t4.r, fun b hb => ?_⟩
          cases hb
          have := sk_at (x := x) (a := a + 1)
          exact ⟨by rw [o4.2 8 (by decide)]; exact gI_s, (hl1.t o8 (by decide)).t o4 (by decide), by omega⟩
        obtain ⟨m5, e5, o5, t5⟩ := hrec (by omega) _ _ _ pr
        obtain ⟨m6, e6, o6, t6⟩ := R_signL (k := 41) t5 (by decide)
        have e6 : LX12_sign 125 (41 : Int32) m5 = some ((), m6) := e6
        rw [e5, ob, e6, ob]
        have o66 : OF (fun k => k = 8) nS m6 (p_I m6 125 8 (g_I m6 125 8 - 1)) := OF.rf.p0 rfl
        have o67 : OF lF lS m6 (p_I m6 125 8 (g_I m6 125 8 - 1)) := OF.rf.p0 (Or.inr (Or.inr (Or.inr (Or.inl rfl))))
        refine ⟨_, rfl, (((((t_l o1).tr (o8.mo (fun k z => Or.inr (Or.inr (Or.inr (Or.inl z)))) (fun _ z => z.elim))).tr (t_l o4)).tr o5).tr o6).tr o67, t6.1.o o66 (by decide) (fun z => z) (by decide) (by decide) (by decide), fun b hb => ?_⟩
        obtain ⟨y1, y2, y3⟩ := t6.2 b hb
        have e1 : nI (o + 1) - 1 = nI o := nI_pred o
        exact ⟨by rw [gI_s, y1]; exact e1, y2.t o66 (by decide), y3⟩
    · rw [if_neg (show ¬ chI x a = (40 : Int32) from chI_ne (by decide) h40), if_neg h40]
      obtain ⟨m2, e2, o2, n2, g2⟩ := R_known ta h0
      rw [e2, ob]
      cases hk : wordIx x a (ltE x a) W8 0 with
      | some k =>
        rw [hk] at g2
        have t2 := g2 rfl
        have hk1 : wordIx x a (ltE x a) W1 0 = some k := by rw [e8]; exact hk
        have hk8 : k < 8 := by
          have := (wordIx_lt W8 0 k hk).2
          simpa [W8] using this
        obtain ⟨hlet, hax'⟩ := wordIx_let hk1
        have nd : ¬ digT (chT x a) := fun z => by have z1 := z.2; have z2 := hlet.1; omega
        have eW : wordF x W1 a = .inr (k, sk x (ltE x a)) := by
          unfold wordF
          rw [if_pos hax', hk1]
          rfl
        rw [if_neg nd, eW]
        show ∃ μ' : Mem, (if oneV (some k) = (-1 : Int32) then _ else _) = some ((), μ') ∧ OF lF lS μ μ' ∧ LwM μ' x o (if 8 ≤ k then (if full then (.inl (3, a), ops) else pairL x rc k (sk x (ltE x a)) ops) else (.inr (sk x (ltE x a)), ops ++ [(1, nI k)]))
        rw [show oneV (some k) = nI k from rfl, if_neg (nI_nm1 (by omega)), if_neg (show ¬ 8 ≤ k by omega)]
        have le : a + 1 ≤ ltE x a := by
          have l1 := (ltE_le hax).1
          by_cases e : ltE x a = a
          · have := ltE_end (x := x) (a := a)
            rw [e] at this
            exact absurd hlet this
          · omega
        obtain ⟨m3, e3, o3, t3⟩ := R_notes (w := 1) (v := nI k) (o := o) hN t2.r (fun b hb => by
          cases hb
          have := sk_at (x := x) (a := ltE x a)
          exact ⟨by rw [o2.2 8 (by decide)]; exact h81, hl1.t o2 (by decide), by omega⟩)
        rw [e3, ob]
        exact ⟨m3, rfl, (t_l (o1.tr o2)).tr o3, t3⟩
      | none =>
        have n2 := n2 hk
        subst n2
        rw [if_pos (show oneV none = (-1 : Int32) from rfl)]
        obtain ⟨m3, e3, o3, t3⟩ := R_number (most := 999) (ta.rs h0)
        have nc : numCur x 999 (.inr a) = numF x 999 a := rfl
        rw [nc] at e3 t3
        rw [e3, ob]
        by_cases hd : digT (chT x a)
        · rw [if_pos hd]
          have ha : a < x.2 := Classical.byContradiction fun z => by
            rw [chT_end z] at hd
            exact absurd hd (by decide)
          cases hv : numF x 999 a with
          | inl e =>
            rw [hv] at t3
            have t3 : TmR m3 x (.inl e) := t3
            obtain ⟨m4, e4, o4, t4⟩ := R_notes (w := 0) (v := numV (.inl e)) (o := o) (ops := ops) hN t3 (fun b hb => nomatch hb)
            rw [e4, ob]
            exact ⟨m4, rfl, (t_l (o1.tr o3)).tr o4, LwM.e t4.1⟩
          | inr v =>
            rw [hv] at t3
            have t3 : TmR m3 x (.inr v.2) := t3
            have hva : a + 1 ≤ v.2 := by
              unfold numF at hv
              rw [if_pos hd] at hv
              by_cases hle : nI (digs x (x.2 - a) a 0).1 ≤ 999
              · rw [if_pos hle] at hv
                have hv := Sum.inr.inj hv
                rw [← hv]
                obtain ⟨f, hf⟩ : ∃ f, x.2 - a = f + 1 := ⟨x.2 - a - 1, by omega⟩
                have hf1 : x.2 - (a + 1) = f := by clear hv; omega
                have hf2 : a + 1 ≤ x.2 := ha
                have eD : digs x (x.2 - a) a 0 = digs x f (a + 1) (if 0 * 10 + chT x a - 48 < 100000000 then 0 * 10 + chT x a - 48 else 100000000) := by rw [hf]; exact if_pos hd
                rw [eD]
                have g := (digs_ge f (a + 1) (if 0 * 10 + chT x a - 48 < 100000000 then 0 * 10 + chT x a - 48 else 100000000) hf1 hf2).1
                have := sk_at (x := x) (a := (digs x f (a + 1) (if 0 * 10 + chT x a - 48 < 100000000 then 0 * 10 + chT x a - 48 else 100000000)).2)
                show a + 1 ≤ sk x _
                omega
              · rw [if_neg hle] at hv; exact nomatch hv
            obtain ⟨m4, e4, o4, t4⟩ := R_notes (w := 0) (v := nI v.1) (o := o) hN t3 (fun b hb => by
              cases hb
              exact ⟨by rw [o3.2 8 (by decide)]; exact h81, hl1.t o3 (by decide), by omega⟩)
            rw [show numV (.inr v) = nI v.1 from rfl, e4, ob]
            exact ⟨m4, rfl, (t_l (o1.tr o3)).tr o4, t4⟩
        · rw [if_neg hd]
          have eN : numF x 999 a = .inl (1, a) := if_neg hd
          have eW : wordF x W1 a = .inl (1, a) := by
            unfold wordF
            rw [e8, hk]
            split <;> rfl
          rw [eN] at t3 ⊢
          rw [eW]
          have t3 : TmR m3 x (.inl (1, a)) := t3
          obtain ⟨m4, e4, o4, t4⟩ := R_notes (w := 0) (v := numV (.inl (1, a))) (o := o) (ops := ops) hN t3 (fun b hb => nomatch hb)
          rw [e4, ob]
          exact ⟨m4, rfl, (t_l (o1.tr o3)).tr o4, LwM.e t4.1⟩
