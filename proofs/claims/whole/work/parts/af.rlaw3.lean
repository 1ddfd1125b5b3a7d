/-! ===== the reference reads a LAW: products, sums; it is told one ===== -/
theorem oneR_e {x : Txt} {e : Nat × Nat} {cs : List Nat} : oneR x (.inl e) cs 0 = none := rfl
theorem take_0 {x : Txt} {k a : Nat} (h : ¬ chT x a = k) : takeV x k (.inr a) = 0 ∧ takeC x k (.inr a) = .inr a := ⟨if_neg h, if_neg h⟩
theorem take_1 {x : Txt} {k a : Nat} (h : chT x a = k) : takeV x k (.inr a) = 1 ∧ takeC x k (.inr a) = .inr (sk x (a + 1)) := ⟨if_pos h, if_pos h⟩
/-- after a sign: an operand, and the sign noted -/
theorem R_after {x : Txt} {o : Nat} {arg : Cur → OpsT → LwT} {A : Mem → Option (Unit × Mem)} {w : Int32} (hN : x.2 ≤ 150) (hA : ∀ (c : Cur) (ops : OpsT) (μ : Mem), PreL μ x o c ops → ∃ μ' : Mem, A μ = some ((), μ') ∧ OF lF lS μ μ' ∧ LwM μ' x o (arg c ops)) (hg : ∀ c ops, LwG x c ops (arg c ops)) {a : Nat} {ops : OpsT} {μ : Mem} (t : TmR μ x (.inr (sk x (a + 1)))) (ha : a < x.2) (h8 : g_I μ 125 8 = nI o) (hl : LrM μ ops) (hla : ops.length ≤ a) {T : Mem → Prop} : ∃ m2 : Mem, obind (A μ) (fun (_ : Unit) (m : Mem) => obind (LX12_notes 125 w (0 : Int32) m) (fun (_ : Unit) (m' : Mem) => some ((), m'))) = some ((), m2) ∧ OF lF lS μ m2 ∧ LwM m2 x o ((arg (.inr (sk x (a + 1))) ops).1, (arg (.inr (sk x (a + 1))) ops).2 ++ [(w, 0)]) := by
  have k1 := sk_at (x := x) (a := a + 1)
  have k2 := t.le
  obtain ⟨m1, e1, o1, t1⟩ := hA (.inr (sk x (a + 1))) ops μ ⟨t, fun b hb => by cases hb; exact ⟨h8, hl, by omega⟩⟩
  obtain ⟨m2, e2, o2, t2⟩ := R_notes (w := w) (v := 0) (o := o) hN t1.1 (fun b hb => by
    obtain ⟨y1, y2, y3⟩ := t1.2 b hb
    obtain ⟨z1, z2, z3⟩ := (hg (.inr (sk x (a + 1))) ops).2 _ b rfl hb k2
    exact ⟨y1, y2, by omega⟩)
  rw [e1, ob, e2, ob]
  exact ⟨m2, rfl, o1.tr o2, t2⟩
theorem oneR_in {x : Txt} {a : Nat} {cs : List Nat} : oneR x (.inr a) cs 0 = (oneIx x a cs 0).map fun k => (k, sk x (a + 1)) := rfl
theorem R_prodL {x : Txt} {rec : Nat → Mem → Option (Unit × Mem)} {o : Nat} {arg : Cur → OpsT → LwT} (hN : x.2 ≤ 150) (hA : ∀ (c : Cur) (ops : OpsT) (μ : Mem), PreL μ x o c ops → ∃ μ' : Mem, LX12_one rec 125 μ = some ((), μ') ∧ OF lF lS μ μ' ∧ LwM μ' x o (arg c ops)) (hg : ∀ c ops, LwG x c ops (arg c ops)) : ∀ (f fu : Nat) (c : Cur) (ops : OpsT) (μ : Mem), PreL μ x o c ops → (∀ a, c = .inr a → x.2 - a < f) → f < fu → ∃ μ' : Mem, mX12_product_4 rec fu 125 μ = some ((), μ') ∧ OF lF lS μ μ' ∧ LwM μ' x o (loopL x [42, 47, 37] 4 arg f c ops) := by
  intro f
  induction f with
  | zero =>
    intro fu c ops μ p hp hf
    obtain ⟨fu, rfl⟩ : ∃ q, fu = q + 1 := ⟨fu - 1, by omega⟩
    cases c with
    | inl e =>
      obtain ⟨q1, q2⟩ := TmB.err p.1 rfl
      rw [mX12_product_4, q1, if_neg q2]
      exact ⟨μ, rfl, OF.rf, p⟩
    | inr a => exact absurd (hp a rfl) (Nat.not_lt_zero _)
  | succ f ih =>
    intro fu c ops μ p hp hf
    obtain ⟨fu, rfl⟩ : ∃ q, fu = q + 1 := ⟨fu - 1, by omega⟩
    cases c with
    | inl e =>
      obtain ⟨q1, q2⟩ := TmB.err p.1 rfl
      rw [mX12_product_4, q1, if_neg q2, loopL_n oneR_e]
      exact ⟨μ, rfl, OF.rf, p⟩
    | inr a =>
      obtain ⟨t, h⟩ := p
      obtain ⟨h8, hl, hla⟩ := h a rfl
      obtain ⟨b0, tb, -⟩ := t.2
      have hpa := hp a rfl
      -- a sign of the place i
      have go : ∀ (i : Nat) (m : Mem), OF tF nS μ m → TmR m x (.inr (sk x (a + 1))) → a < x.2 → oneR x (.inr a) [42, 47, 37] 0 = some (i, sk x (a + 1)) → i < 3 → ∃ μ' : Mem, mX12_product_52 rec (fun l0 μ => mX12_product_4 rec fu l0 μ) 125 (nI (4 + i)) m = some ((), μ') ∧ OF lF lS μ μ' ∧ LwM μ' x o (loopL x [42, 47, 37] 4 arg (f + 1) (.inr a) ops) := by
        intro i m om tm ha hi hi3
        obtain ⟨m2, e2, o2, t2⟩ := R_after (w := nI (4 + i)) (A := LX12_one rec 125) hN hA hg tm ha (by rw [om.2 8 (by decide)]; exact h8) (hl.t om (by decide)) hla (T := fun _ => True)
        unfold mX12_product_52
        rw [if_neg (nI_nm1 (show 4 + i < 2147483648 by omega)), loopL_s hi]
        have k1 := sk_at (x := x) (a := a + 1)
        have k2 := tm.le
        obtain ⟨μ', e3, o3, t3⟩ := ih fu _ _ m2 t2.pre (fun b hb => by
          obtain ⟨z1, z2, z3⟩ := (hg (.inr (sk x (a + 1))) ops).2 _ b rfl hb k2
          omega) (by omega)
        refine ⟨μ', ?_, ((t_l om).tr o2).tr o3, t3⟩
        cases hA1 : LX12_one rec 125 m with
        | none => rw [hA1] at e2; exact nomatch e2
        | some q =>
          obtain ⟨u1, m1⟩ := q
          rw [hA1] at e2
          have e2 : obind (LX12_notes 125 (nI (4 + i)) (0 : Int32) m1) (fun (_ : Unit) (m' : Mem) => some ((), m')) = some ((), m2) := e2
          rw [ob]
          cases hB1 : LX12_notes 125 (nI (4 + i)) (0 : Int32) m1 with
          | none => rw [hB1] at e2; exact nomatch e2
          | some q =>
            obtain ⟨u2, m3⟩ := q
            rw [hB1] at e2
            have e2 : some ((), m3) = some ((), m2) := e2
            have e2 := (Prod.mk.inj (Option.some.inj e2)).2
            rw [ob, e2]
            exact e3
      rw [mX12_product_4, tb.2.1, if_pos rfl]
      obtain ⟨m1, e1, o1, t1⟩ := R_takesSign (k := 42) t (by decide)
      have e1 : LX12_takesSign 125 (42 : Int32) μ = some (takeV x 42 (.inr a), m1) := e1
      rw [e1, ob]
      by_cases c1 : chT x a = 42
      · obtain ⟨v1, v2⟩ := take_1 c1
        rw [v2] at t1
        rw [v1, if_neg (by decide)]
        exact go 0 m1 o1 t1 (chT_lt c1 (by decide)) (by rw [oneR_in]; simp [oneIx, c1]) (by decide)
      obtain ⟨v1, v2⟩ := take_0 c1
      rw [v2] at t1
      rw [v1, if_pos rfl]
      obtain ⟨m2, e2, o2, t2⟩ := R_takesSign (k := 47) t1 (by decide)
      have e2 : LX12_takesSign 125 (47 : Int32) m1 = some (takeV x 47 (.inr a), m2) := e2
      rw [e2, ob]
      by_cases c2 : chT x a = 47
      · obtain ⟨v1, v2⟩ := take_1 c2
        rw [v2] at t2
        rw [v1, if_neg (by decide)]
        exact go 1 m2 (o1.tr o2) t2 (chT_lt c2 (by decide)) (by rw [oneR_in]; simp [oneIx, c2]) (by decide)
      obtain ⟨v1, v2⟩ := take_0 c2
      rw [v2] at t2
      rw [v1, if_pos rfl]
      obtain ⟨m3, e3, o3, t3⟩ := R_takesSign (k := 37) t2 (by decide)
      have e3 : LX12_takesSign 125 (37 : Int32) m2 = some (takeV x 37 (.inr a), m3) := e3
      rw [e3, ob]
      by_cases c3 : chT x a = 37
      · obtain ⟨v1, v2⟩ := take_1 c3
        rw [v2] at t3
        rw [v1, if_neg (by decide)]
        exact go 2 m3 ((o1.tr o2).tr o3) t3 (chT_lt c3 (by decide)) (by rw [oneR_in]; simp [oneIx, c3]) (by decide)
      obtain ⟨v1, v2⟩ := take_0 c3
      rw [v2] at t3
      rw [v1, if_pos rfl, loopL_n (by rw [oneR_in]; simp [oneIx, c1, c2, c3])]
      unfold mX12_product_52
      rw [if_pos rfl]
      have oo := (o1.tr o2).tr o3
      refine ⟨m3, rfl, t_l oo, t3, fun b hb => ?_⟩
      cases hb
      exact ⟨by rw [oo.2 8 (by decide)]; exact h8, hl.t oo (by decide), hla⟩
theorem R_product {x : Txt} {rec : Nat → Mem → Option (Unit × Mem)} {rc : Cur → OpsT → LwT} {full : Prop} [Decidable full] {o : Nat} (hN : x.2 ≤ 150) (ho : o ≤ 6) (hfull : full ↔ o = 6) (hg : ¬ full → ∀ c ops, LwG x c ops (rc c ops)) (hrec : o < 6 → HRm rec rc x (o + 1)) (c : Cur) (ops : OpsT) (μ : Mem) (p : PreL μ x o c ops) : ∃ μ' : Mem, LX12_product rec 125 μ = some ((), μ') ∧ OF lF lS μ μ' ∧ LwM μ' x o (prodF x rc full c ops) := by
  have hA := R_one hN ho hfull hg hrec
  have hu := unit_g (x := x) hg
  obtain ⟨m1, e1, o1, t1⟩ := hA c ops μ p
  unfold LX12_product prodF
  rw [if_pos p.1.1.1.1, e1, ob]
  obtain ⟨μ', e2, o2, t2⟩ := R_prodL hN hA hu 150 100000 _ _ m1 t1.pre (fun b hb => by
    have hb2 := (show TmR m1 x (.inr b) from by rw [← hb]; exact t1.1).le
    cases c with
    | inl e => rw [(hu (.inl e) ops).1 e rfl] at hb; exact nomatch hb
    | inr a =>
      have := ((hu (.inr a) ops).2 a b rfl hb p.1.le).2.2
      omega) (by decide)
  exact ⟨μ', e2, o1.tr o2, t2⟩
theorem R_sumL {x : Txt} {rec : Nat → Mem → Option (Unit × Mem)} {o : Nat} {arg : Cur → OpsT → LwT} (hN : x.2 ≤ 150) (hA : ∀ (c : Cur) (ops : OpsT) (μ : Mem), PreL μ x o c ops → ∃ μ' : Mem, LX12_product rec 125 μ = some ((), μ') ∧ OF lF lS μ μ' ∧ LwM μ' x o (arg c ops)) (hg : ∀ c ops, LwG x c ops (arg c ops)) : ∀ (f fu : Nat) (c : Cur) (ops : OpsT) (μ : Mem), PreL μ x o c ops → (∀ a, c = .inr a → x.2 - a < f) → f < fu → ∃ μ' : Mem, mX12_sum_4 rec fu 125 μ = some ((), μ') ∧ OF lF lS μ μ' ∧ LwM μ' x o (loopL x [43, 45] 2 arg f c ops) := by
  intro f
  induction f with
  | zero =>
    intro fu c ops μ p hp hf
    obtain ⟨fu, rfl⟩ : ∃ q, fu = q + 1 := ⟨fu - 1, by omega⟩
    cases c with
    | inl e =>
      obtain ⟨q1, q2⟩ := TmB.err p.1 rfl
      rw [mX12_sum_4, q1, if_neg q2]
      exact ⟨μ, rfl, OF.rf, p⟩
    | inr a => exact absurd (hp a rfl) (Nat.not_lt_zero _)
  | succ f ih =>
    intro fu c ops μ p hp hf
    obtain ⟨fu, rfl⟩ : ∃ q, fu = q + 1 := ⟨fu - 1, by omega⟩
    cases c with
    | inl e =>
      obtain ⟨q1, q2⟩ := TmB.err p.1 rfl
      rw [mX12_sum_4, q1, if_neg q2, loopL_n oneR_e]
      exact ⟨μ, rfl, OF.rf, p⟩
    | inr a =>
      obtain ⟨t, h⟩ := p
      obtain ⟨h8, hl, hla⟩ := h a rfl
      obtain ⟨b0, tb, -⟩ := t.2
      have hpa := hp a rfl
      have go : ∀ (i : Nat) (m : Mem), OF tF nS μ m → TmR m x (.inr (sk x (a + 1))) → a < x.2 → oneR x (.inr a) [43, 45] 0 = some (i, sk x (a + 1)) → i < 2 → ∃ μ' : Mem, mX12_sum_38 rec (fun l0 μ => mX12_sum_4 rec fu l0 μ) 125 (nI (2 + i)) m = some ((), μ') ∧ OF lF lS μ μ' ∧ LwM μ' x o (loopL x [43, 45] 2 arg (f + 1) (.inr a) ops) := by
        intro i m om tm ha hi hi3
        obtain ⟨m2, e2, o2, t2⟩ := R_after (w := nI (2 + i)) (A := LX12_product rec 125) hN hA hg tm ha (by rw [om.2 8 (by decide)]; exact h8) (hl.t om (by decide)) hla (T := fun _ => True)
        unfold mX12_sum_38
        rw [if_neg (nI_nm1 (show 2 + i < 2147483648 by omega)), loopL_s hi]
        have k1 := sk_at (x := x) (a := a + 1)
        have k2 := tm.le
        obtain ⟨μ', e3, o3, t3⟩ := ih fu _ _ m2 t2.pre (fun b hb => by
          obtain ⟨z1, z2, z3⟩ := (hg (.inr (sk x (a + 1))) ops).2 _ b rfl hb k2
          omega) (by omega)
        refine ⟨μ', ?_, ((t_l om).tr o2).tr o3, t3⟩
        cases hA1 : LX12_product rec 125 m with
        | none => rw [hA1] at e2; exact nomatch e2
        | some q =>
          obtain ⟨u1, m1⟩ := q
          rw [hA1] at e2
          have e2 : obind (LX12_notes 125 (nI (2 + i)) (0 : Int32) m1) (fun (_ : Unit) (m' : Mem) => some ((), m')) = some ((), m2) := e2
          rw [ob]
          cases hB1 : LX12_notes 125 (nI (2 + i)) (0 : Int32) m1 with
          | none => rw [hB1] at e2; exact nomatch e2
          | some q =>
            obtain ⟨u2, m3⟩ := q
            rw [hB1] at e2
            have e2 : some ((), m3) = some ((), m2) := e2
            have e2 := (Prod.mk.inj (Option.some.inj e2)).2
            rw [ob, e2]
            exact e3
      rw [mX12_sum_4, tb.2.1, if_pos rfl]
      obtain ⟨m1, e1, o1, t1⟩ := R_takesSign (k := 43) t (by decide)
      have e1 : LX12_takesSign 125 (43 : Int32) μ = some (takeV x 43 (.inr a), m1) := e1
      rw [e1, ob]
      by_cases c1 : chT x a = 43
      · obtain ⟨v1, v2⟩ := take_1 c1
        rw [v2] at t1
        rw [v1, if_neg (by decide)]
        exact go 0 m1 o1 t1 (chT_lt c1 (by decide)) (by rw [oneR_in]; simp [oneIx, c1]) (by decide)
      obtain ⟨v1, v2⟩ := take_0 c1
      rw [v2] at t1
      rw [v1, if_pos rfl]
      obtain ⟨m2, e2, o2, t2⟩ := R_takesSign (k := 45) t1 (by decide)
      have e2 : LX12_takesSign 125 (45 : Int32) m1 = some (takeV x 45 (.inr a), m2) := e2
      rw [e2, ob]
      by_cases c2 : chT x a = 45
      · obtain ⟨v1, v2⟩ := take_1 c2
        rw [v2] at t2
        rw [v1, if_neg (by decide)]
        exact go 1 m2 (o1.tr o2) t2 (chT_lt c2 (by decide)) (by rw [oneR_in]; simp [oneIx, c2]) (by decide)
      obtain ⟨v1, v2⟩ := take_0 c2
      rw [v2] at t2
      rw [v1, if_pos rfl, loopL_n (by rw [oneR_in]; simp [oneIx, c1, c2])]
      unfold mX12_sum_38
      rw [if_pos rfl]
      have oo := o1.tr o2
      refine ⟨m2, rfl, t_l oo, t2, fun b hb => ?_⟩
      cases hb
      exact ⟨by rw [oo.2 8 (by decide)]; exact h8, hl.t oo (by decide), hla⟩
theorem R_sumG {x : Txt} {rec : Nat → Mem → Option (Unit × Mem)} {rc : Cur → OpsT → LwT} {full : Prop} [Decidable full] {o : Nat} (hN : x.2 ≤ 150) (ho : o ≤ 6) (hfull : full ↔ o = 6) (hg : ¬ full → ∀ c ops, LwG x c ops (rc c ops)) (hrec : o < 6 → HRm rec rc x (o + 1)) (c : Cur) (ops : OpsT) (μ : Mem) (p : PreL μ x o c ops) : ∃ μ' : Mem, LX12_sum_b rec 125 μ = some ((), μ') ∧ OF lF lS μ μ' ∧ LwM μ' x o (sumG x rc full c ops) := by
  have hA := R_product hN ho hfull hg hrec
  have hu := prod_g (x := x) hg
  obtain ⟨m1, e1, o1, t1⟩ := hA c ops μ p
  unfold LX12_sum_b sumG
  rw [if_pos p.1.1.1.1, e1, ob]
  obtain ⟨μ', e2, o2, t2⟩ := R_sumL hN hA hu 150 100000 _ _ m1 t1.pre (fun b hb => by
    have hb2 := (show TmR m1 x (.inr b) from by rw [← hb]; exact t1.1).le
    cases c with
    | inl e => rw [(hu (.inl e) ops).1 e rfl] at hb; exact nomatch hb
    | inr a =>
      have := ((hu (.inr a) ops).2 a b rfl hb p.1.le).2.2
      omega) (by decide)
  exact ⟨μ', e2, o1.tr o2, t2⟩
theorem R_sum {x : Txt} (hN : x.2 ≤ 150) : ∀ (D D' o : Nat) (c : Cur) (ops : OpsT) (μ : Mem), D + o = 6 → D ≤ D' → PreL μ x o c ops → ∃ μ' : Mem, LX12_sum (D' + 1) 125 μ = some ((), μ') ∧ OF lF lS μ μ' ∧ LwM μ' x o (sumF x D c ops) := by
  intro D
  induction D with
  | zero =>
    intro D' o c ops μ hD hD' p
    exact R_sumG (rec := LX12_sum D') (rc := fun c ops => (c, ops)) (full := True) hN (by omega) ⟨fun _ => by omega, fun _ => trivial⟩ (fun z => absurd trivial z) (fun z => by omega) c ops μ p
  | succ D ih =>
    intro D' o c ops μ hD hD' p
    obtain ⟨D', rfl⟩ : ∃ q, D' = q + 1 := ⟨D' - 1, by omega⟩
    exact R_sumG (rec := LX12_sum (D' + 1)) (rc := sumF x D) (full := False) hN (by omega) ⟨fun z => z.elim, fun z => by omega⟩ (fun _ => sumF_g D) (fun _ c ops μ p => ih D' (o + 1) c ops μ (by omega) (by omega) p) c ops μ p
theorem M_law {μ : Mem} {a : ClT} {v : Int32} (r : RfR μ a) (k : ClK a) : AskM (fun _ => 1) μ (LX12_law 125 v μ) (if v < 0 ∨ ¬ v ≤ (if nI a.2.1 < 150 then nI a.2.1 else 150) then (.inl 1, rfA a 1) else sLaw a v.toNatClampNeg) := by
  unfold LX12_law mX12_law_30
  refine R_text (m := 150) (S := sLaw a) r k rfl (by decide) fun n hv hn μ0 r0 z0 => ?_
  have ho := RfR.hu k
  subst hv
  obtain ⟨m1, e1, o1, t1, f1, f7, f8⟩ := R_starts r0.1 r0.2.1 (show n ≤ 600 by omega)
  have hN : (txtO a n).2 ≤ 150 := hn
  have oz : OF (fun k => k = 18) nS m1 (p_I m1 125 18 0) := OF.rf.p0 rfl
  have tz : TmA (p_I m1 125 18 0) (txtO a n) (sk (txtO a n) 0) := t1.o oz (by decide) (fun z => z) (by decide) (by decide) (by decide)
  obtain ⟨m2, e2, o2, t2⟩ := R_sum hN 6 11 0 (.inr (sk (txtO a n) 0)) [] (p_I m1 125 18 0) rfl (by decide) ⟨tz.rs sk_sk, fun b hb => ⟨by rw [gI_k (by decide)]; exact f8, ⟨gI_s, fun j q hq => by simp at hq⟩, Nat.zero_le _⟩⟩
  have e2 : LX12_sum 12 125 (p_I m1 125 18 0) = some ((), m2) := e2
  obtain ⟨m3, e3, o3, t3, g3⟩ := R_blanksC t2.1
  have eL : lawR a n = (endF (txtO a n) (sumF (txtO a n) 6 (.inr (sk (txtO a n) 0)) []).1, (sumF (txtO a n) 6 (.inr (sk (txtO a n) 0)) []).2) := rfl
  have oo : OF xF lS μ0 m3 := (((s_x o1).tr (oz.mo (fun k z => by have z : k = 18 := z; show k = 1 ∨ k = 2 ∨ k = 3 ∨ k = 4 ∨ k = 5 ∨ k = 6 ∨ k = 7 ∨ k = 8 ∨ k = 18 ∨ k = 28; omega) (fun _ z => z.elim))).tr (o2.mo (fun k z => by have z : k = 4 ∨ k = 5 ∨ k = 6 ∨ k = 8 ∨ k = 18 := z; show k = 1 ∨ k = 2 ∨ k = 3 ∨ k = 4 ∨ k = 5 ∨ k = 6 ∨ k = 7 ∨ k = 8 ∨ k = 18 ∨ k = 28; omega) (fun _ z => z))).tr (t_x o3)
  have hS : ∀ y, lS y → frS y ∧ 125 ≤ y ∧ y < 629 := fun y hy => by
    obtain ⟨hy1, hy2⟩ := hy
    unfold frS; omega
  have h1 : g_I m3 125 1 = nI 0 := by rw [o3.2 1 (by decide), o2.2 1 (by decide), oz.2 1 (by decide)]; exact f1
  have h0 : g_I m3 125 0 = 0 := by rw [oo.2 0 (by decide)]; exact z0
  show AskM (fun _ => 1) μ0 (obind (LX12_starts 125 (nI n) μ0) (fun (_ : Unit) (m14 : Mem) => obind (LX12_sum 12 125 (p_I m14 125 18 (0 : Int32))) (fun (_ : Unit) (m18 : Mem) => obind (LX12_blanks 125 m18) (fun (_ : Unit) (m22 : Mem) => if g_I m22 125 5 = 0 then (if g_I m22 125 2 ≤ g_I m22 125 4 then mX12_law_85 125 m22 else (obind (LX12_wrong 125 (1 : Int32) (g_I m22 125 4) m22) (fun (_ : Unit) (m28 : Mem) => mX12_law_85 125 m28))) else mX12_law_85 125 m22)))) (sLaw a n)
  rw [e1, ob, e2, ob, e3, ob]
  -- a FAULT
  have bad : ∀ (ν : Mem) (e : Nat × Nat), OF tF nS m3 ν → TmR ν (txtO a n) (.inl e) → (lawR a n).1 = .inl e → AskM (fun _ => 1) μ0 (mX12_law_85 125 ν) (sLaw a n) := by
    intro ν e oν tν he
    obtain ⟨q1, q2⟩ := TmB.err tν rfl
    unfold mX12_law_85 sLaw
    rw [q1, if_neg q2, he]
    exact R_fail r0 ho (oo.tr (t_x oν)) hS tν (by rw [oν.2 1 (by decide)]; exact h1) (by rw [oν.2 0 (by decide)]; exact h0)
  cases hc : (sumF (txtO a n) 6 (.inr (sk (txtO a n) 0)) []).1 with
  | inl e =>
    rw [hc] at t3
    obtain ⟨q1, q2⟩ := TmB.err t3 rfl
    rw [q1, if_neg q2]
    exact bad m3 e OF.rf t3 (by rw [eL, hc]; rfl)
  | inr b =>
    have ta := g3 b hc
    have hx := ta.1.2.2.1
    have hbx := ta.2.2.2.2
    obtain ⟨-, hl, hlb⟩ := t2.2 b hc
    have hl3 := hl.t o3 (by decide)
    rw [ta.2.1, if_pos rfl, ta.1.2.1, ta.2.2.2.1]
    by_cases hb : b < (txtO a n).2
    · rw [if_neg (nI_ge hb (by omega))]
      obtain ⟨m4, e4, o4, t4⟩ := R_wrong (k := 1) (p := b) ta.r (by decide) (by decide)
      have e4 : LX12_wrong 125 (1 : Int32) (nI b) m3 = some ((), m4) := e4
      have t4 : TmR m4 (txtO a n) (.inl (1, b)) := t4
      rw [e4, ob]
      exact bad m4 (1, b) o4 t4 (by rw [eL, hc]; exact if_pos hb)
    · rw [if_pos (nI_le (by omega) (by omega))]
      have eL1 : (lawR a n).1 = .inr b := by rw [eL, hc]; exact if_neg hb
      have eL2 : (lawR a n).2 = (sumF (txtO a n) 6 (.inr (sk (txtO a n) 0)) []).2 := rfl
      have w : wfL (lawR a n).2 0 := lawF_w eL1
      unfold mX12_law_85 sLaw
      rw [eL1, ta.2.1, if_pos rfl]
      rw [← eL2] at hl3 hlb
      generalize (lawR a n).2 = ops at hl3 hlb w
      obtain ⟨l1, l2⟩ := hl3
      have s3 := ta.1.1
      have l1' : g_I (p_I m3 125 3 (-1)) 125 18 = nI ops.length := by rw [gI_k (by decide)]; exact l1
      rw [s3.h20, if_pos q343, s3.h19, if_pos q182, l1', gI_s]
      have s4 : RfS (p_I (p_I m3 125 3 (-1)) 125 17 (nI ops.length)) := s3
      have h150 : ops.length ≤ 150 := by omega
      obtain ⟨ρ, e5, o5, r5⟩ := R_lays (m := ops.length) s4.t343 s4.t182 (by omega) (by omega) (by decide) (by decide) (by decide) (by decide)
      have gρ : ∀ k, k ≠ 17 → k ≠ 3 → g_I ρ 125 k = g_I m3 125 k := fun k h1 h2 => by rw [(o5.2 125 (by omega)).1, gI_k h1, gI_k h2]
      have v0 : ∀ x, x ≠ 125 → (x < 183 ∨ 504 ≤ x) → g_I ρ x = g_I μ0 x := fun x h1 h2 => by
        rw [(o5.2 x (by omega)).1, gI_rowo h1, gI_rowo h1, oo.r h1 (fun z => by obtain ⟨z1, z2⟩ := z; omega)]
      have w0 : ∀ k, ¬ xF k → k ≠ 17 → k ≠ 3 → g_I ρ 125 k = g_I μ0 125 k := fun k h1 h2 h3 => by rw [gρ k h2 h3, oo.2 k h1]
      rw [e5, ob]
      obtain ⟨y0, y1, y2, y3, y4, y5, y6, y7, y8, y9, y10, y11⟩ := r0
      refine ⟨_, ρ, rfl, ⟨by rw [gρ 0 (by decide) (by decide)]; exact h0, rfl⟩, ⟨s4.sh o5.1, fun k hk => by rw [v0 126 (by decide) (by decide)]; exact y1 k hk, ⟨by rw [gρ 1 (by decide) (by decide)]; exact h1, Nat.zero_le _⟩, by rw [(o5.2 125 (by omega)).1, gI_k (by decide), gI_s]; rfl, y4.fr ho (fun x hx => v0 x (by omega) (by omega)), Or.inr ⟨by rw [(o5.2 125 (by omega)).1, gI_s]; rfl, h150, w, fun j q hq => ?_⟩, y6.fr (w0 34 (by decide) (by decide) (by decide)) (v0 520 (by decide) (by decide)), y7.fr (w0 33 (by decide) (by decide) (by decide)) (fun x hx => v0 x (by omega) (by omega)), y8.fr (w0 35 (by decide) (by decide) (by decide)) (w0 37 (by decide) (by decide) (by decide)) (fun x hx => v0 x (by omega) (by omega)), fun k hk => by rw [v0 603 (by decide) (by decide)]; exact y9 k hk, by rw [w0 36 (by decide) (by decide) (by decide)]; exact y10, fun k hk => by rw [v0 127 (by decide) (by decide)]; exact y11 k hk⟩, ?_⟩
      · have hq : ops[j]? = some q := hq
        have hj : j < ops.length := (List.getElem?_eq_some_iff.mp hq).1
        have e : ∀ i, i < 2 → g_I ρ (183 + j) i = g_I m3 (344 + j) i := fun i hi => by rw [r5 j hj i hi, gI_h (by omega), gI_h (by omega)]
        rw [e 0 (by decide), e 1 (by decide)]
        exact l2 j q hq
      · exact ((oo.mf fun y hy => by obtain ⟨hy1, hy2⟩ := hy; omega).tr ((Out.pI Out.rf (by omega)).pI (by omega))).tr (o5.mo fun y hy => by omega)
