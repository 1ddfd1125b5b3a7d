/-! ===== LAW: what its text says; the class reads it ===== -/
abbrev OpsT : Type := List (Int32 × Int32)
abbrev LwT : Type := Cur × OpsT
def numL (ops : OpsT) (r : (Nat × Nat) ⊕ (Nat × Nat)) : LwT := match r with
  | .inl e => (.inl e, ops)
  | .inr v => (.inr v.2, ops ++ [(0, nI v.1)])
def pairL (x : Txt) (rec : Cur → OpsT → LwT) (k b : Nat) (ops : OpsT) : LwT := (needF x 93 (rec (needF x 44 (rec (needF x 91 (.inr b)) ops).1) (rec (needF x 91 (.inr b)) ops).2).1, (rec (needF x 44 (rec (needF x 91 (.inr b)) ops).1) (rec (needF x 91 (.inr b)) ops).2).2 ++ [(nI (k - 1), 0)])
def wordL (x : Txt) (rec : Cur → OpsT → LwT) (full : Prop) [Decidable full] (a : Nat) (ops : OpsT) (r : (Nat × Nat) ⊕ (Nat × Nat)) : LwT := match r with
  | .inl e => (.inl e, ops)
  | .inr k => if 8 ≤ k.1 then (if full then (.inl (3, a), ops) else pairL x rec k.1 k.2 ops) else (.inr k.2, ops ++ [(1, nI k.1)])
def unitF (x : Txt) (rec : Cur → OpsT → LwT) (full : Prop) [Decidable full] (c : Cur) (ops : OpsT) : LwT := match c with
  | .inl e => (.inl e, ops)
  | .inr a => if digT (chT x a) then numL ops (numF x 999 a) else if chT x a = 40 then (if full then (.inl (3, a), ops) else (needF x 41 (rec (needF x 40 (.inr a)) ops).1, (rec (needF x 40 (.inr a)) ops).2)) else wordL x rec full a ops (wordF x W1 a)
/-- operands, and signs between them -/
def loopL (x : Txt) (cs : List Nat) (base : Nat) (arg : Cur → OpsT → LwT) : Nat → Cur → OpsT → LwT
  | 0, c, ops => (c, ops)
  | f + 1, c, ops => match oneR x c cs 0 with
    | none => (c, ops)
    | some v => loopL x cs base arg f (arg (.inr v.2) ops).1 ((arg (.inr v.2) ops).2 ++ [(nI (base + v.1), 0)])
def prodF (x : Txt) (rec : Cur → OpsT → LwT) (full : Prop) [Decidable full] (c : Cur) (ops : OpsT) : LwT := loopL x [42, 47, 37] 4 (unitF x rec full) 150 (unitF x rec full c ops).1 (unitF x rec full c ops).2
def sumG (x : Txt) (rec : Cur → OpsT → LwT) (full : Prop) [Decidable full] (c : Cur) (ops : OpsT) : LwT := loopL x [43, 45] 2 (prodF x rec full) 150 (prodF x rec full c ops).1 (prodF x rec full c ops).2
/-- D: how many more may be opened -/
def sumF (x : Txt) : Nat → Cur → OpsT → LwT
  | 0, c, ops => sumG x (fun c ops => (c, ops)) True c ops
  | D + 1, c, ops => sumG x (sumF x D) False c ops
/-- what comes of a reading: nothing of a FAULT is mended; no more OPS than signs read -/
def LwG (x : Txt) (c : Cur) (ops : OpsT) (r : LwT) : Prop := (∀ e, c = .inl e → r.1 = .inl e) ∧ ∀ a b, c = .inr a → r.1 = .inr b → a ≤ x.2 → b ≤ x.2 ∧ r.2.length + a ≤ ops.length + b ∧ a + 1 ≤ b
def LwG0 (x : Txt) (c : Cur) (ops : OpsT) (r : LwT) : Prop := (∀ e, c = .inl e → r.1 = .inl e) ∧ ∀ a b, c = .inr a → r.1 = .inr b → a ≤ x.2 → b ≤ x.2 ∧ r.2.length + a ≤ ops.length + b
theorem unit_g {x : Txt} {rec : Cur → OpsT → LwT} {full : Prop} [Decidable full] (hr : ¬ full → ∀ c ops, LwG x c ops (rec c ops)) (c : Cur) (ops : OpsT) : LwG x c ops (unitF x rec full c ops) := by
  cases c with
  | inl e => exact ⟨fun e' h => by cases h; rfl, fun a b h => nomatch h⟩
  | inr a =>
    refine ⟨fun e h => (nomatch h), fun a' b h hb ha => ?_⟩
    cases h
    have hb : (if digT (chT x a) then numL ops (numF x 999 a) else if chT x a = 40 then (if full then (.inl (3, a), ops) else (needF x 41 (rec (needF x 40 (.inr a)) ops).1, (rec (needF x 40 (.inr a)) ops).2)) else wordL x rec full a ops (wordF x W1 a)).1 = .inr b := hb
    show b ≤ x.2 ∧ (if digT (chT x a) then numL ops (numF x 999 a) else if chT x a = 40 then (if full then (.inl (3, a), ops) else (needF x 41 (rec (needF x 40 (.inr a)) ops).1, (rec (needF x 40 (.inr a)) ops).2)) else wordL x rec full a ops (wordF x W1 a)).2.length + a ≤ ops.length + b ∧ a + 1 ≤ b
    by_cases hd : digT (chT x a)
    · rw [if_pos hd] at hb ⊢
      cases hv : numF x 999 a with
      | inl e => rw [hv] at hb; exact nomatch hb
      | inr v =>
        rw [hv] at hb
        have hb : v.2 = b := Sum.inr.inj hb
        have h1 := numF_at hv ha
        -- one digit at least
        have h2 : a + 1 ≤ v.2 := by
          unfold numF at hv
          rw [if_pos hd] at hv
          by_cases e2 : nI (digs x (x.2 - a) a 0).1 ≤ 999
          · rw [if_pos e2] at hv
            have hv : ((digs x (x.2 - a) a 0).1, sk x (digs x (x.2 - a) a 0).2) = v := Sum.inr.inj hv
            subst hv
            have hl : a < x.2 := by
              apply Classical.byContradiction
              intro z
              obtain ⟨d1, d2⟩ := hd
              rw [chT_end z] at d2
              omega
            obtain ⟨f, hf⟩ : ∃ f, x.2 - a = f + 1 := ⟨x.2 - a - 1, by omega⟩
            have : (digs x (x.2 - a) a 0).2 = (digs x f (a + 1) (if 0 * 10 + chT x a - 48 < 100000000 then 0 * 10 + chT x a - 48 else 100000000)).2 := by
              rw [hf]
              show (if digT (chT x a) then digs x f (a + 1) (if 0 * 10 + chT x a - 48 < 100000000 then 0 * 10 + chT x a - 48 else 100000000) else (0, a)).2 = _
              rw [if_pos hd]
            have h3 := (digs_ge (x := x) f (a + 1) (if 0 * 10 + chT x a - 48 < 100000000 then 0 * 10 + chT x a - 48 else 100000000) (by omega) (by omega)).1
            show a + 1 ≤ sk x (digs x (x.2 - a) a 0).2
            rw [this]
            exact Nat.le_trans h3 sk_ge
          · rw [if_neg e2] at hv; exact nomatch hv
        show b ≤ x.2 ∧ (ops ++ [(0, nI v.1)]).length + a ≤ ops.length + b ∧ a + 1 ≤ b
        rw [List.length_append]
        simp
        omega
    rw [if_neg hd] at hb ⊢
    by_cases hp : chT x a = 40
    · rw [if_pos hp] at hb ⊢
      by_cases hf : full
      · rw [if_pos hf] at hb; exact nomatch hb
      · rw [if_neg hf] at hb ⊢
        cases h1 : needF x 40 (.inr a) with
        | inl e =>
          rw [h1] at hb
          have hb : needF x 41 (rec (.inl e) ops).1 = .inr b := hb
          rw [(hr hf (.inl e) ops).1 e rfl] at hb
          exact nomatch hb
        | inr a1 =>
          rw [h1] at hb
          have hb : needF x 41 (rec (.inr a1) ops).1 = .inr b := hb
          have q1 := needF_at h1 (by decide)
          cases h2 : (rec (.inr a1) ops).1 with
          | inl e => rw [h2] at hb; exact nomatch hb
          | inr a2 =>
            rw [h2] at hb
            have q2 := (hr hf (.inr a1) ops).2 a1 a2 rfl h2 q1.2
            have q3 := needF_at hb (by decide)
            show b ≤ x.2 ∧ (rec (.inr a1) ops).2.length + a ≤ ops.length + b ∧ a + 1 ≤ b
            omega
    rw [if_neg hp] at hb ⊢
    cases hv : wordF x W1 a with
    | inl e => rw [hv] at hb; exact nomatch hb
    | inr k =>
      rw [hv] at hb
      have hat := wordF_at (m := 2) (by decide) hv ha
      have hb : (if 8 ≤ k.1 then (if full then (.inl (3, a), ops) else pairL x rec k.1 k.2 ops) else (.inr k.2, ops ++ [(1, nI k.1)])).1 = .inr b := hb
      show b ≤ x.2 ∧ (if 8 ≤ k.1 then (if full then (.inl (3, a), ops) else pairL x rec k.1 k.2 ops) else (.inr k.2, ops ++ [(1, nI k.1)])).2.length + a ≤ ops.length + b ∧ a + 1 ≤ b
      by_cases h8 : 8 ≤ k.1
      · rw [if_pos h8] at hb ⊢
        by_cases hf : full
        · rw [if_pos hf] at hb; exact nomatch hb
        · rw [if_neg hf] at hb ⊢
          unfold pairL at hb ⊢
          cases h1 : needF x 91 (.inr k.2) with
          | inl e =>
            rw [h1] at hb
            have hb : needF x 93 (rec (needF x 44 (rec (.inl e) ops).1) (rec (.inl e) ops).2).1 = .inr b := hb
            rw [(hr hf (.inl e) ops).1 e rfl] at hb
            have hb : needF x 93 (rec (.inl e) (rec (.inl e) ops).2).1 = .inr b := hb
            rw [(hr hf (.inl e) _).1 e rfl] at hb
            exact nomatch hb
          | inr a1 =>
            rw [h1] at hb
            have q1 := needF_at h1 (by decide)
            have hb : needF x 93 (rec (needF x 44 (rec (.inr a1) ops).1) (rec (.inr a1) ops).2).1 = .inr b := hb
            have f1 := hr hf (.inr a1) ops
            obtain ⟨r1, hr1⟩ : ∃ r1, r1 = rec (.inr a1) ops := ⟨_, rfl⟩
            rw [← hr1] at hb f1 ⊢
            cases h2 : r1.1 with
            | inl e =>
              rw [h2] at hb
              have hb : needF x 93 (rec (.inl e) r1.2).1 = .inr b := hb
              rw [(hr hf (.inl e) _).1 e rfl] at hb
              exact nomatch hb
            | inr a2 =>
              rw [h2] at hb
              have q2 := f1.2 a1 a2 rfl h2 q1.2
              cases h3 : needF x 44 (.inr a2) with
              | inl e =>
                rw [h3] at hb
                have hb : needF x 93 (rec (.inl e) r1.2).1 = .inr b := hb
                rw [(hr hf (.inl e) _).1 e rfl] at hb
                exact nomatch hb
              | inr a3 =>
                rw [h3] at hb
                have q3 := needF_at h3 (by decide)
                have f2 := hr hf (.inr a3) r1.2
                obtain ⟨r2, hr2⟩ : ∃ r2, r2 = rec (.inr a3) r1.2 := ⟨_, rfl⟩
                rw [← hr2] at hb f2
                cases h4 : r2.1 with
                | inl e => rw [h4] at hb; exact nomatch hb
                | inr a4 =>
                  have q4 := f2.2 a3 a4 rfl h4 q3.2
                  rw [h4] at hb
                  have q5 := needF_at hb (by decide)
                  show b ≤ x.2 ∧ ((rec (Sum.inr a3) r1.2).2 ++ [(nI (k.1 - 1), (0 : Int32))]).length + a ≤ ops.length + b ∧ a + 1 ≤ b
                  rw [← hr2, List.length_append]
                  simp
                  omega
      · rw [if_neg h8] at hb ⊢
        have hb : k.2 = b := Sum.inr.inj hb
        show b ≤ x.2 ∧ (ops ++ [(1, nI k.1)]).length + a ≤ ops.length + b ∧ a + 1 ≤ b
        rw [List.length_append]
        simp
        omega
theorem oneR_at {x : Txt} {cs : List Nat} {c : Cur} {v : Nat × Nat} (hc : ∀ d, d ∈ cs → d < 256) : ∀ (r : List Nat) (i : Nat), (∀ d, d ∈ r → d < 256) → oneR x c r i = some v → ∃ a, c = .inr a ∧ a < x.2 ∧ v.2 = sk x (a + 1) ∧ i ≤ v.1 ∧ v.1 < i + r.length := by
  intro r
  cases c with
  | inl e => intro i _ h; exact nomatch h
  | inr a =>
    induction r with
    | nil => intro i _ h; exact nomatch h
    | cons d r ih =>
      intro i hr h
      have h : (if chT x a = d then some i else oneIx x a r (i + 1)).map (fun k => (k, sk x (a + 1))) = some v := h
      rw [List.length_cons]
      by_cases e : chT x a = d
      · rw [if_pos e] at h
        have h : (i, sk x (a + 1)) = v := Option.some.inj h
        subst h
        exact ⟨a, rfl, chT_lt e (hr d (List.mem_cons_self ..)), rfl, Nat.le_refl _, by show i < _; omega⟩
      · rw [if_neg e] at h
        obtain ⟨a', q1, q2, q3, q4, q5⟩ := ih (i + 1) (fun d hd => hr d (List.mem_cons_of_mem _ hd)) h
        exact ⟨a', q1, q2, q3, by omega, by omega⟩
theorem loopL_s {x : Txt} {cs : List Nat} {base f : Nat} {arg : Cur → OpsT → LwT} {c : Cur} {ops : OpsT} {v : Nat × Nat} (ho : oneR x c cs 0 = some v) : loopL x cs base arg (f + 1) c ops = loopL x cs base arg f (arg (.inr v.2) ops).1 ((arg (.inr v.2) ops).2 ++ [(nI (base + v.1), 0)]) := by
  show (match oneR x c cs 0 with
    | none => (c, ops)
    | some v => loopL x cs base arg f (arg (.inr v.2) ops).1 ((arg (.inr v.2) ops).2 ++ [(nI (base + v.1), 0)])) = _
  rw [ho]
theorem loopL_n {x : Txt} {cs : List Nat} {base f : Nat} {arg : Cur → OpsT → LwT} {c : Cur} {ops : OpsT} (ho : oneR x c cs 0 = none) : loopL x cs base arg (f + 1) c ops = (c, ops) := by
  show (match oneR x c cs 0 with
    | none => (c, ops)
    | some v => loopL x cs base arg f (arg (.inr v.2) ops).1 ((arg (.inr v.2) ops).2 ++ [(nI (base + v.1), 0)])) = _
  rw [ho]
theorem loop_g {x : Txt} {cs : List Nat} {base : Nat} {arg : Cur → OpsT → LwT} (hc : ∀ d, d ∈ cs → d < 256) (ha : ∀ c ops, LwG x c ops (arg c ops)) : ∀ (f : Nat) (c : Cur) (ops : OpsT), LwG0 x c ops (loopL x cs base arg f c ops) := by
  intro f
  induction f with
  | zero =>
    intro c ops
    refine ⟨fun e h => h, fun a b h1 h2 hx => ?_⟩
    subst h1
    have h2 : (Sum.inr a : Cur) = .inr b := h2
    cases h2
    exact ⟨hx, Nat.le_refl _⟩
  | succ f ih =>
    intro c ops
    cases ho : oneR x c cs 0 with
    | none =>
      have e1 : loopL x cs base arg (f + 1) c ops = (c, ops) := loopL_n ho
      rw [e1]
      refine ⟨fun e h => h, fun a b h1 h2 hx => ?_⟩
      subst h1
      have h2 : (Sum.inr a : Cur) = .inr b := h2
      cases h2
      exact ⟨hx, Nat.le_refl _⟩
    | some v =>
      have e1 : loopL x cs base arg (f + 1) c ops = loopL x cs base arg f (arg (.inr v.2) ops).1 ((arg (.inr v.2) ops).2 ++ [(nI (base + v.1), 0)]) := loopL_s ho
      rw [e1]
      obtain ⟨a0, q1, q2, q3, -, -⟩ := oneR_at hc cs 0 hc ho
      obtain ⟨i1, i2⟩ := ih (arg (.inr v.2) ops).1 ((arg (.inr v.2) ops).2 ++ [(nI (base + v.1), 0)])
      refine ⟨fun e h => absurd (q1.symm.trans h) (fun z => nomatch z), fun a b h1 h2 hx => ?_⟩
      rw [q1] at h1
      cases h1
      have hk : a0 + 1 ≤ v.2 ∧ v.2 ≤ x.2 := by rw [q3]; exact ⟨sk_ge, sk_le q2⟩
      cases hr : (arg (.inr v.2) ops).1 with
      | inl e =>
        rw [i1 e hr] at h2
        exact nomatch h2
      | inr a2 =>
        obtain ⟨z1, z2, z3⟩ := (ha (.inr v.2) ops).2 v.2 a2 rfl hr hk.2
        obtain ⟨z4, z5⟩ := i2 a2 b hr h2 z1
        rw [List.length_append] at z5
        simp at z5
        rw [← hr]
        exact ⟨z4, by omega⟩
theorem loop_ge {x : Txt} {cs : List Nat} {base : Nat} {arg : Cur → OpsT → LwT} (hc : ∀ d, d ∈ cs → d < 256) (ha : ∀ c ops, LwG x c ops (arg c ops)) : ∀ (f : Nat) (c : Cur) (ops : OpsT) (a b : Nat), c = .inr a → (loopL x cs base arg f c ops).1 = .inr b → a ≤ x.2 → a ≤ b := by
  intro f
  induction f with
  | zero =>
    intro c ops a b h1 h2 hx
    subst h1
    have h2 : (Sum.inr a : Cur) = .inr b := h2
    cases h2
    exact Nat.le_refl _
  | succ f ih =>
    intro c ops a b h1 h2 hx
    cases ho : oneR x c cs 0 with
    | none =>
      have e1 : loopL x cs base arg (f + 1) c ops = (c, ops) := loopL_n ho
      rw [e1, h1] at h2
      have h2 : (Sum.inr a : Cur) = .inr b := h2
      cases h2
      exact Nat.le_refl _
    | some v =>
      have e1 : loopL x cs base arg (f + 1) c ops = loopL x cs base arg f (arg (.inr v.2) ops).1 ((arg (.inr v.2) ops).2 ++ [(nI (base + v.1), 0)]) := loopL_s ho
      rw [e1] at h2
      obtain ⟨a0, q1, q2, q3, -, -⟩ := oneR_at hc cs 0 hc ho
      rw [q1] at h1
      cases h1
      have hk : a + 1 ≤ v.2 ∧ v.2 ≤ x.2 := by rw [q3]; exact ⟨sk_ge, sk_le q2⟩
      cases hr : (arg (.inr v.2) ops).1 with
      | inl e =>
        rw [(loop_g (x := x) (cs := cs) (base := base) hc ha f (arg (.inr v.2) ops).1 ((arg (.inr v.2) ops).2 ++ [(nI (base + v.1), 0)])).1 e hr] at h2
        exact nomatch h2
      | inr a2 =>
        obtain ⟨z1, z2, z3⟩ := (ha (.inr v.2) ops).2 v.2 a2 rfl hr hk.2
        have := ih (arg (.inr v.2) ops).1 ((arg (.inr v.2) ops).2 ++ [(nI (base + v.1), 0)]) a2 b hr h2 z1
        omega
theorem prod_g {x : Txt} {rec : Cur → OpsT → LwT} {full : Prop} [Decidable full] (hr : ¬ full → ∀ c ops, LwG x c ops (rec c ops)) (c : Cur) (ops : OpsT) : LwG x c ops (prodF x rec full c ops) := by
  unfold prodF
  obtain ⟨u1, u2⟩ := unit_g (full := full) hr c ops
  obtain ⟨l1, l2⟩ := loop_g (x := x) (cs := [42, 47, 37]) (base := 4) (arg := unitF x rec full) (by decide) (fun c ops => unit_g hr c ops) 150 (unitF x rec full c ops).1 (unitF x rec full c ops).2
  refine ⟨fun e h => l1 e (u1 e h), fun a b h1 h2 hx => ?_⟩
  cases hu : (unitF x rec full c ops).1 with
  | inl e =>
    rw [l1 e hu] at h2
    exact nomatch h2
  | inr a2 =>
    obtain ⟨z1, z2, z3⟩ := u2 a a2 h1 hu hx
    obtain ⟨z4, z5⟩ := l2 a2 b hu h2 z1
    rw [← hu]
    have := loop_ge (x := x) (cs := [42, 47, 37]) (base := 4) (arg := unitF x rec full) (by decide) (fun c ops => unit_g hr c ops) 150 (unitF x rec full c ops).1 (unitF x rec full c ops).2 a2 b hu h2 z1
    exact ⟨z4, by omega, by omega⟩
theorem sumG_g {x : Txt} {rec : Cur → OpsT → LwT} {full : Prop} [Decidable full] (hr : ¬ full → ∀ c ops, LwG x c ops (rec c ops)) (c : Cur) (ops : OpsT) : LwG x c ops (sumG x rec full c ops) := by
  unfold sumG
  obtain ⟨u1, u2⟩ := prod_g (full := full) hr c ops
  obtain ⟨l1, l2⟩ := loop_g (x := x) (cs := [43, 45]) (base := 2) (arg := prodF x rec full) (by decide) (fun c ops => prod_g hr c ops) 150 (prodF x rec full c ops).1 (prodF x rec full c ops).2
  refine ⟨fun e h => l1 e (u1 e h), fun a b h1 h2 hx => ?_⟩
  cases hu : (prodF x rec full c ops).1 with
  | inl e =>
    rw [l1 e hu] at h2
    exact nomatch h2
  | inr a2 =>
    obtain ⟨z1, z2, z3⟩ := u2 a a2 h1 hu hx
    obtain ⟨z4, z5⟩ := l2 a2 b hu h2 z1
    have := loop_ge (x := x) (cs := [43, 45]) (base := 2) (arg := prodF x rec full) (by decide) (fun c ops => prod_g hr c ops) 150 (prodF x rec full c ops).1 (prodF x rec full c ops).2 a2 b hu h2 z1
    rw [← hu]
    exact ⟨z4, by omega, by omega⟩
theorem sumF_g {x : Txt} : ∀ (D : Nat) (c : Cur) (ops : OpsT), LwG x c ops (sumF x D c ops) := by
  intro D
  induction D with
  | zero => intro c ops; exact sumG_g (full := True) (fun h => absurd trivial h) c ops
  | succ D ih => intro c ops; exact sumG_g (full := False) (fun _ => ih) c ops
